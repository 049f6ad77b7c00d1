set_option maxHeartbeats 4000000 in
set_option maxRecDepth 100000 in
theorem w_X8_in_p0 {p : Program} {l : Launch} {e : Env} {sS : State} {m : MethodId} {args : Array Value} {below : List Frame} {meth : Method} {c : Code} {G : xG} {W0 : va_W}    (E : xE p sS m args c cX8_in 3 RX8 G (x_in W0)) (hr : meth.sig.returnType = (some .boolean)) (hk : meth.locks = false)  : ∀ (x0' : Int32) (x1' : Int32) (x2' : Int32) (z : Int32) {H : Heap} {locs : List Loc} {ls : Array Slot}, xW G (x_in W0) sS.heap [] H locs → lv_has ls 3 [(0, .int x0'), (1, .int x1'), (2, .int x2')] → f_X8_in  x0' x1' x2' = some z → W p l e (rm_X8_in) sS m args below meth c H locs 0 0 (MQ below (xQ G W0 [] (some (.int z))) args sS 0 0 (x_in W0)) (F0 m 0 ls []) := by
  intro x0 x1 x2 z H locs ls hw hl hf
  unfold f_X8_in at hf
  refine lv_iload_n (pc := 0) E.1 E.2.1 dX8_in_0 rfl (lv_at hl 0 rfl) ?_
  refine lv_iload_n (pc := 1) E.1 E.2.1 dX8_in_1 rfl (lv_at hl 1 rfl) ?_
  refine lv_icmp_lt (tgt := 14) (pc := 2) E.1 E.2.1 dX8_in_2 (by decide) (fun q1 => ?_) (fun q1 => ?_)
  · have hf := x_pos q1 hf
    refine lv_iconst (v := 0) (pc := 14) E.1 E.2.1 dX8_in_14 (by decide) ?_
    obtain rfl := Option.some.inj hf
    exact x_retz (pc := 15) (v := 0) (r := 0) E hr hk hw (by decide) dX8_in_15
  · have hf := x_neg q1 hf
    refine lv_iload_n (pc := 5) E.1 E.2.1 dX8_in_5 rfl (lv_at hl 0 rfl) ?_
    refine lv_iload_n (pc := 6) E.1 E.2.1 dX8_in_6 rfl (lv_at hl 2 rfl) ?_
    refine lv_icmp_gt (tgt := 14) (pc := 7) E.1 E.2.1 dX8_in_7 (by decide) (fun q2 => ?_) (fun q2 => ?_)
    · have hf := x_pos q2 hf
      refine lv_iconst (v := 0) (pc := 14) E.1 E.2.1 dX8_in_14 (by decide) ?_
      obtain rfl := Option.some.inj hf
      exact x_retz (pc := 15) (v := 0) (r := 0) E hr hk hw (by decide) dX8_in_15
    · have hf := x_neg q2 hf
      refine lv_iconst (v := 1) (pc := 10) E.1 E.2.1 dX8_in_10 (by decide) ?_
      refine lv_goto (tgt := 15) (pc := 11) E.1 E.2.1 dX8_in_11 (by decide) ?_
      obtain rfl := Option.some.inj hf
      exact x_retz (pc := 15) (v := 1) (r := 1) E hr hk hw (by decide) dX8_in_15
set_option maxHeartbeats 4000000 in
set_option maxRecDepth 100000 in
theorem c_X8_in (l : Launch) (G : xG)  (x0 : Int32) (x1 : Int32) (x2 : Int32) {z : Int32} (hf : f_X8_in x0 x1 x2 = some z) : xC l yX8_in cX8_in 3 (some .boolean) (rm_X8_in) G [.int x0, .int x1, .int x2] [] (some (.int z)) [] :=
  x_met (by decide) (Nat.le_of_ble_eq_true rfl) (fun p e sS m below meth c E hr hk ls hl hw => w_X8_in_p0 E hr hk x0 x1 x2 z hw hl hf)
set_option maxHeartbeats 4000000 in
set_option maxRecDepth 100000 in
theorem w_X8_keeps_p54 {p : Program} {l : Launch} {e : Env} {sS : State} {m : MethodId} {args : Array Value} {below : List Frame} {meth : Method} {c : Code} {G : xG} {W0 : va_W} {ad : Nat → Nat}  {k54 : S8 → Int32 → Option (S8)} (E : xE p sS m args c cX8_keeps 2 RX8 G (x_in W0)) (hr : meth.sig.returnType = none) (hk : meth.locks = false) (hk54 : ∀ (s' : S8) (x1' : Int32) (z : S8) {H : Heap} {locs : List Loc} {ls : Array Slot}, xW G (x_in W0) sS.heap (cells8 G ad s') H locs → lv_has ls 2 [(0, .ref (ad 0)), (1, .int x1')] → k54  s' x1' = some z → W p l e (rm_X8_keeps) sS m args below meth c H locs 0 0 (MQ below (xQ G W0 (cells8 G ad z) none) args sS 0 0 (x_in W0)) (F0 m 54 ls [])) : ∀ (s' : S8) (x1' : Int32) (z : S8) {H : Heap} {locs : List Loc} {ls : Array Slot}, xW G (x_in W0) sS.heap (cells8 G ad s') H locs → lv_has ls 2 [(0, .ref (ad 0)), (1, .int x1')] → f_X8_keeps_p54 k54 s' x1' = some z → W p l e (rm_X8_keeps) sS m args below meth c H locs 0 0 (MQ below (xQ G W0 (cells8 G ad z) none) args sS 0 0 (x_in W0)) (F0 m 54 ls []) := by
  intro s x1 z H locs ls hw hl hf
  unfold f_X8_keeps_p54 at hf
  refine lv_iload_n (pc := 54) E.1 E.2.1 dX8_keeps_54 rfl (lv_at hl 1 rfl) ?_
  refine lv_sipush (v := 140) (pc := 55) E.1 E.2.1 dX8_keeps_55 (by decide) ?_
  refine lv_icmp_ge (tgt := 88) (pc := 58) E.1 E.2.1 dX8_keeps_58 (by decide) (fun q1 => ?_) (fun q1 => ?_)
  · have hf := x_pos q1 hf
    refine lv_aload_n (pc := 88) E.1 E.2.1 dX8_keeps_88 rfl (lv_at hl 0 rfl) ?_
    refine lv_dup (pc := 89) E.1 E.2.1 dX8_keeps_89 rfl ?_
    refine xg_X8_77 (pc := 90) (v := .int (g8_acts s)) E hw 0 rfl rfl dX8_keeps_90 ?_
    refine lv_iconst (v := 1) (pc := 93) E.1 E.2.1 dX8_keeps_93 (by decide) ?_
    refine lv_iadd (pc := 94) E.1 E.2.1 dX8_keeps_94 ?_
    refine xp_X8_77 (pc := 95) (v := .int ((g8_acts s) + 1)) (ws' := (cells8 G ad (u8_acts s ((g8_acts s) + 1)))) E hw 0 rfl rfl rfl (Nat.le_of_ble_eq_true rfl) rfl dX8_keeps_95 (fun H locs hw => ?_)
    obtain rfl := Option.some.inj hf
    exact x_retv (pc := 98) E hr hk hw dX8_keeps_98
  · have hf := x_neg q1 hf
    refine lv_aload_n (pc := 61) E.1 E.2.1 dX8_keeps_61 rfl (lv_at hl 0 rfl) ?_
    refine xg_X8_23 (pc := 62) (v := .ref (ad 4)) E hw 0 rfl rfl dX8_keeps_62 ?_
    refine lv_sipush (v := 140) (pc := 65) E.1 E.2.1 dX8_keeps_65 (by decide) ?_
    refine lv_aload_n (pc := 68) E.1 E.2.1 dX8_keeps_68 rfl (lv_at hl 0 rfl) ?_
    refine xg_X8_77 (pc := 69) (v := .int (g8_acts s)) E hw 0 rfl rfl dX8_keeps_69 ?_
    refine lv_imul (pc := 72) E.1 E.2.1 dX8_keeps_72 ?_
    refine lv_iload_n (pc := 73) E.1 E.2.1 dX8_keeps_73 rfl (lv_at hl 1 rfl) ?_
    refine lv_iadd (pc := 74) E.1 E.2.1 dX8_keeps_74 ?_
    refine lv_aload_n (pc := 75) E.1 E.2.1 dX8_keeps_75 rfl (lv_at hl 0 rfl) ?_
    refine xg_X8_13 (pc := 76) (v := .ref (ad 1)) E hw 0 rfl rfl dX8_keeps_76 ?_
    refine lv_iload_n (pc := 79) E.1 E.2.1 dX8_keeps_79 rfl (lv_at hl 1 rfl) ?_
    obtain ⟨v3, g2, hf⟩ := x_bind hf
    refine x_iald (pc := 80) E hw 1 rfl g2 dX8_keeps_80 ?_
    obtain ⟨w5, g4, hf⟩ := x_bind hf
    refine x_iast (pc := 81) (ws' := (cells8 G ad (u8_before s w5))) E hw 4 rfl g4 rfl dX8_keeps_81 (fun H locs hw => ?_)
    refine lv_iinc (v := (x1 + 1)) (lv' := [(1, .int (x1 + 1)), (0, .ref (ad 0))]) (pc := 82) E.1 E.2.1 dX8_keeps_82 hl (k := 1) rfl rfl (by decide) rfl (fun ls hl => ?_)
    refine lv_goto (tgt := 54) (pc := 85) E.1 E.2.1 dX8_keeps_85 (by decide) ?_
    exact hk54 (u8_before s w5) (x1 + 1) z hw (lv_sub hl [1, 0] rfl) hf
set_option maxHeartbeats 4000000 in
set_option maxRecDepth 100000 in
theorem wl_X8_keeps_p54 {p : Program} {l : Launch} {e : Env} {sS : State} {m : MethodId} {args : Array Value} {below : List Frame} {meth : Method} {c : Code} {G : xG} {W0 : va_W} {ad : Nat → Nat}   (E : xE p sS m args c cX8_keeps 2 RX8 G (x_in W0)) (hr : meth.sig.returnType = none) (hk : meth.locks = false)  : ∀ (s' : S8) (x1' : Int32) (z : S8) {H : Heap} {locs : List Loc} {ls : Array Slot}, xW G (x_in W0) sS.heap (cells8 G ad s') H locs → lv_has ls 2 [(0, .ref (ad 0)), (1, .int x1')] → lp_X8_keeps_p54  s' x1' = some z → W p l e (rm_X8_keeps) sS m args below meth c H locs 0 0 (MQ below (xQ G W0 (cells8 G ad z) none) args sS 0 0 (x_in W0)) (F0 m 54 ls []) := by
  intro s x1 z H locs ls hw hl hf
  exact x_loop_W (P := fun (q : S8 × Int32) (z : S8) => ∀ {H : Heap} {locs : List Loc} {ls : Array Slot}, xW G (x_in W0) sS.heap (cells8 G ad q.1) H locs → lv_has ls 2 [(0, .ref (ad 0)), (1, .int q.2)] → W p l e (rm_X8_keeps) sS m args below meth c H locs 0 0 (MQ below (xQ G W0 (cells8 G ad z) none) args sS 0 0 (x_in W0)) (F0 m 54 ls [])) (fun k hkk q z hf H locs ls hw hl => w_X8_keeps_p54 E hr hk  (fun s x1 z H locs ls hw hl hf => hkk (s, x1) z hf hw hl) q.1 q.2 z hw hl hf) FU (s, x1) z hf hw hl
set_option maxHeartbeats 4000000 in
set_option maxRecDepth 100000 in
theorem w_X8_keeps_p13 {p : Program} {l : Launch} {e : Env} {sS : State} {m : MethodId} {args : Array Value} {below : List Frame} {meth : Method} {c : Code} {G : xG} {W0 : va_W} {ad : Nat → Nat}  {k13 : S8 → Int32 → Option (S8)} (E : xE p sS m args c cX8_keeps 2 RX8 G (x_in W0)) (hr : meth.sig.returnType = none) (hk : meth.locks = false) (hk13 : ∀ (s' : S8) (x1' : Int32) (z : S8) {H : Heap} {locs : List Loc} {ls : Array Slot}, xW G (x_in W0) sS.heap (cells8 G ad s') H locs → lv_has ls 2 [(0, .ref (ad 0)), (1, .int x1')] → k13  s' x1' = some z → W p l e (rm_X8_keeps) sS m args below meth c H locs 0 0 (MQ below (xQ G W0 (cells8 G ad z) none) args sS 0 0 (x_in W0)) (F0 m 13 ls [])) : ∀ (s' : S8) (x1' : Int32) (z : S8) {H : Heap} {locs : List Loc} {ls : Array Slot}, xW G (x_in W0) sS.heap (cells8 G ad s') H locs → lv_has ls 2 [(0, .ref (ad 0)), (1, .int x1')] → f_X8_keeps_p13 k13 s' x1' = some z → W p l e (rm_X8_keeps) sS m args below meth c H locs 0 0 (MQ below (xQ G W0 (cells8 G ad z) none) args sS 0 0 (x_in W0)) (F0 m 13 ls []) := by
  intro s x1 z H locs ls hw hl hf
  unfold f_X8_keeps_p13 at hf
  refine lv_iload_n (pc := 13) E.1 E.2.1 dX8_keeps_13 rfl (lv_at hl 1 rfl) ?_
  refine lv_sipush (v := 1680) (pc := 14) E.1 E.2.1 dX8_keeps_14 (by decide) ?_
  refine lv_icmp_ge (tgt := 42) (pc := 17) E.1 E.2.1 dX8_keeps_17 (by decide) (fun q1 => ?_) (fun q1 => ?_)
  · have hf := x_pos q1 hf
    refine lv_aload_n (pc := 42) E.1 E.2.1 dX8_keeps_42 rfl (lv_at hl 0 rfl) ?_
    refine lv_dup (pc := 43) E.1 E.2.1 dX8_keeps_43 rfl ?_
    refine xg_X8_77 (pc := 44) (v := .int (g8_acts s)) E hw 0 rfl rfl dX8_keeps_44 ?_
    refine lv_iconst (v := 1) (pc := 47) E.1 E.2.1 dX8_keeps_47 (by decide) ?_
    refine lv_isub (pc := 48) E.1 E.2.1 dX8_keeps_48 ?_
    refine xp_X8_77 (pc := 49) (v := .int ((g8_acts s) - 1)) (ws' := (cells8 G ad (u8_acts s ((g8_acts s) - 1)))) E hw 0 rfl rfl rfl (Nat.le_of_ble_eq_true rfl) rfl dX8_keeps_49 (fun H locs hw => ?_)
    refine lv_iconst (v := 0) (pc := 52) E.1 E.2.1 dX8_keeps_52 (by decide) ?_
    refine lv_istore_n (lv' := [(1, .int 0), (0, .ref (ad 0))]) (pc := 53) E.1 E.2.1 dX8_keeps_53 rfl hl (by decide) rfl (fun ls hl => ?_)
    exact wl_X8_keeps_p54 E hr hk  (u8_acts s ((g8_acts s) - 1)) 0 z hw (lv_sub hl [1, 0] rfl) hf
  · have hf := x_neg q1 hf
    refine lv_aload_n (pc := 20) E.1 E.2.1 dX8_keeps_20 rfl (lv_at hl 0 rfl) ?_
    refine xg_X8_23 (pc := 21) (v := .ref (ad 4)) E hw 0 rfl rfl dX8_keeps_21 ?_
    refine lv_iload_n (pc := 24) E.1 E.2.1 dX8_keeps_24 rfl (lv_at hl 1 rfl) ?_
    refine lv_sipush (v := 140) (pc := 25) E.1 E.2.1 dX8_keeps_25 (by decide) ?_
    refine lv_isub (pc := 28) E.1 E.2.1 dX8_keeps_28 ?_
    refine lv_aload_n (pc := 29) E.1 E.2.1 dX8_keeps_29 rfl (lv_at hl 0 rfl) ?_
    refine xg_X8_23 (pc := 30) (v := .ref (ad 4)) E hw 0 rfl rfl dX8_keeps_30 ?_
    refine lv_iload_n (pc := 33) E.1 E.2.1 dX8_keeps_33 rfl (lv_at hl 1 rfl) ?_
    obtain ⟨v3, g2, hf⟩ := x_bind hf
    refine x_iald (pc := 34) E hw 4 rfl g2 dX8_keeps_34 ?_
    obtain ⟨w5, g4, hf⟩ := x_bind hf
    refine x_iast (pc := 35) (ws' := (cells8 G ad (u8_before s w5))) E hw 4 rfl g4 rfl dX8_keeps_35 (fun H locs hw => ?_)
    refine lv_iinc (v := (x1 + 1)) (lv' := [(1, .int (x1 + 1)), (0, .ref (ad 0))]) (pc := 36) E.1 E.2.1 dX8_keeps_36 hl (k := 1) rfl rfl (by decide) rfl (fun ls hl => ?_)
    refine lv_goto (tgt := 13) (pc := 39) E.1 E.2.1 dX8_keeps_39 (by decide) ?_
    exact hk13 (u8_before s w5) (x1 + 1) z hw (lv_sub hl [1, 0] rfl) hf
set_option maxHeartbeats 4000000 in
set_option maxRecDepth 100000 in
theorem wl_X8_keeps_p13 {p : Program} {l : Launch} {e : Env} {sS : State} {m : MethodId} {args : Array Value} {below : List Frame} {meth : Method} {c : Code} {G : xG} {W0 : va_W} {ad : Nat → Nat}   (E : xE p sS m args c cX8_keeps 2 RX8 G (x_in W0)) (hr : meth.sig.returnType = none) (hk : meth.locks = false)  : ∀ (s' : S8) (x1' : Int32) (z : S8) {H : Heap} {locs : List Loc} {ls : Array Slot}, xW G (x_in W0) sS.heap (cells8 G ad s') H locs → lv_has ls 2 [(0, .ref (ad 0)), (1, .int x1')] → lp_X8_keeps_p13  s' x1' = some z → W p l e (rm_X8_keeps) sS m args below meth c H locs 0 0 (MQ below (xQ G W0 (cells8 G ad z) none) args sS 0 0 (x_in W0)) (F0 m 13 ls []) := by
  intro s x1 z H locs ls hw hl hf
  exact x_loop_W (P := fun (q : S8 × Int32) (z : S8) => ∀ {H : Heap} {locs : List Loc} {ls : Array Slot}, xW G (x_in W0) sS.heap (cells8 G ad q.1) H locs → lv_has ls 2 [(0, .ref (ad 0)), (1, .int q.2)] → W p l e (rm_X8_keeps) sS m args below meth c H locs 0 0 (MQ below (xQ G W0 (cells8 G ad z) none) args sS 0 0 (x_in W0)) (F0 m 13 ls [])) (fun k hkk q z hf H locs ls hw hl => w_X8_keeps_p13 E hr hk  (fun s x1 z H locs ls hw hl hf => hkk (s, x1) z hf hw hl) q.1 q.2 z hw hl hf) FU (s, x1) z hf hw hl
set_option maxHeartbeats 4000000 in
set_option maxRecDepth 100000 in
theorem w_X8_keeps_p0 {p : Program} {l : Launch} {e : Env} {sS : State} {m : MethodId} {args : Array Value} {below : List Frame} {meth : Method} {c : Code} {G : xG} {W0 : va_W} {ad : Nat → Nat}   (E : xE p sS m args c cX8_keeps 2 RX8 G (x_in W0)) (hr : meth.sig.returnType = none) (hk : meth.locks = false)  : ∀ (s' : S8) (z : S8) {H : Heap} {locs : List Loc} {ls : Array Slot}, xW G (x_in W0) sS.heap (cells8 G ad s') H locs → lv_has ls 2 [(0, .ref (ad 0))] → f_X8_keeps  s' = some z → W p l e (rm_X8_keeps) sS m args below meth c H locs 0 0 (MQ below (xQ G W0 (cells8 G ad z) none) args sS 0 0 (x_in W0)) (F0 m 0 ls []) := by
  intro s z H locs ls hw hl hf
  unfold f_X8_keeps at hf
  refine lv_aload_n (pc := 0) E.1 E.2.1 dX8_keeps_0 rfl (lv_at hl 0 rfl) ?_
  refine xg_X8_77 (pc := 1) (v := .int (g8_acts s)) E hw 0 rfl rfl dX8_keeps_1 ?_
  refine lv_bipush (v := 12) (pc := 4) E.1 E.2.1 dX8_keeps_4 (by decide) ?_
  refine lv_icmp_ne (tgt := 52) (pc := 6) E.1 E.2.1 dX8_keeps_6 (by decide) (fun q1 => ?_) (fun q1 => ?_)
  · have hf := x_neg q1 hf
    refine lv_iconst (v := 0) (pc := 52) E.1 E.2.1 dX8_keeps_52 (by decide) ?_
    refine lv_istore_n (lv' := [(1, .int 0), (0, .ref (ad 0))]) (pc := 53) E.1 E.2.1 dX8_keeps_53 rfl hl (by decide) rfl (fun ls hl => ?_)
    exact wl_X8_keeps_p54 E hr hk  s 0 z hw (lv_sub hl [1, 0] rfl) hf
  · have hf := x_pos q1 hf
    refine lv_sipush (v := 140) (pc := 9) E.1 E.2.1 dX8_keeps_9 (by decide) ?_
    refine lv_istore_n (lv' := [(1, .int 140), (0, .ref (ad 0))]) (pc := 12) E.1 E.2.1 dX8_keeps_12 rfl hl (by decide) rfl (fun ls hl => ?_)
    exact wl_X8_keeps_p13 E hr hk  s 140 z hw (lv_sub hl [1, 0] rfl) hf
set_option maxHeartbeats 4000000 in
set_option maxRecDepth 100000 in
theorem c_X8_keeps (l : Launch) (G : xG) (ad : Nat → Nat) (s : S8) {z : S8} (hf : f_X8_keeps s = some z) : xC l yX8_keeps cX8_keeps 2 none (rm_X8_keeps) G [.ref (ad 0)] (cells8 G ad s) none (cells8 G ad z) :=
  x_met (by decide) (Nat.le_of_ble_eq_true rfl) (fun p e sS m below meth c E hr hk ls hl hw => w_X8_keeps_p0 E hr hk s z hw hl hf)
set_option maxHeartbeats 4000000 in
set_option maxRecDepth 100000 in
theorem w_X8_putsAside_p2 {p : Program} {l : Launch} {e : Env} {sS : State} {m : MethodId} {args : Array Value} {below : List Frame} {meth : Method} {c : Code} {G : xG} {W0 : va_W} {ad : Nat → Nat}  {k2 : S8 → Int32 → Option (S8)} (E : xE p sS m args c cX8_putsAside 2 RX8 G (x_in W0)) (hr : meth.sig.returnType = none) (hk : meth.locks = false) (hk2 : ∀ (s' : S8) (x1' : Int32) (z : S8) {H : Heap} {locs : List Loc} {ls : Array Slot}, xW G (x_in W0) sS.heap (cells8 G ad s') H locs → lv_has ls 2 [(0, .ref (ad 0)), (1, .int x1')] → k2  s' x1' = some z → W p l e (rm_X8_putsAside) sS m args below meth c H locs 0 0 (MQ below (xQ G W0 (cells8 G ad z) none) args sS 0 0 (x_in W0)) (F0 m 2 ls [])) : ∀ (s' : S8) (x1' : Int32) (z : S8) {H : Heap} {locs : List Loc} {ls : Array Slot}, xW G (x_in W0) sS.heap (cells8 G ad s') H locs → lv_has ls 2 [(0, .ref (ad 0)), (1, .int x1')] → f_X8_putsAside_p2 k2 s' x1' = some z → W p l e (rm_X8_putsAside) sS m args below meth c H locs 0 0 (MQ below (xQ G W0 (cells8 G ad z) none) args sS 0 0 (x_in W0)) (F0 m 2 ls []) := by
  intro s x1 z H locs ls hw hl hf
  unfold f_X8_putsAside_p2 at hf
  refine lv_iload_n (pc := 2) E.1 E.2.1 dX8_putsAside_2 rfl (lv_at hl 1 rfl) ?_
  refine lv_sipush (v := 140) (pc := 3) E.1 E.2.1 dX8_putsAside_3 (by decide) ?_
  refine lv_icmp_ge (tgt := 27) (pc := 6) E.1 E.2.1 dX8_putsAside_6 (by decide) (fun q1 => ?_) (fun q1 => ?_)
  · have hf := x_pos q1 hf
    obtain rfl := Option.some.inj hf
    exact x_retv (pc := 27) E hr hk hw dX8_putsAside_27
  · have hf := x_neg q1 hf
    refine lv_aload_n (pc := 9) E.1 E.2.1 dX8_putsAside_9 rfl (lv_at hl 0 rfl) ?_
    refine xg_X8_20 (pc := 10) (v := .ref (ad 3)) E hw 0 rfl rfl dX8_putsAside_10 ?_
    refine lv_iload_n (pc := 13) E.1 E.2.1 dX8_putsAside_13 rfl (lv_at hl 1 rfl) ?_
    refine lv_aload_n (pc := 14) E.1 E.2.1 dX8_putsAside_14 rfl (lv_at hl 0 rfl) ?_
    refine xg_X8_13 (pc := 15) (v := .ref (ad 1)) E hw 0 rfl rfl dX8_putsAside_15 ?_
    refine lv_iload_n (pc := 18) E.1 E.2.1 dX8_putsAside_18 rfl (lv_at hl 1 rfl) ?_
    obtain ⟨v3, g2, hf⟩ := x_bind hf
    refine x_iald (pc := 19) E hw 1 rfl g2 dX8_putsAside_19 ?_
    obtain ⟨w5, g4, hf⟩ := x_bind hf
    refine x_iast (pc := 20) (ws' := (cells8 G ad (u8_aside s w5))) E hw 3 rfl g4 rfl dX8_putsAside_20 (fun H locs hw => ?_)
    refine lv_iinc (v := (x1 + 1)) (lv' := [(1, .int (x1 + 1)), (0, .ref (ad 0))]) (pc := 21) E.1 E.2.1 dX8_putsAside_21 hl (k := 1) rfl rfl (by decide) rfl (fun ls hl => ?_)
    refine lv_goto (tgt := 2) (pc := 24) E.1 E.2.1 dX8_putsAside_24 (by decide) ?_
    exact hk2 (u8_aside s w5) (x1 + 1) z hw (lv_sub hl [1, 0] rfl) hf
set_option maxHeartbeats 4000000 in
set_option maxRecDepth 100000 in
theorem wl_X8_putsAside_p2 {p : Program} {l : Launch} {e : Env} {sS : State} {m : MethodId} {args : Array Value} {below : List Frame} {meth : Method} {c : Code} {G : xG} {W0 : va_W} {ad : Nat → Nat}   (E : xE p sS m args c cX8_putsAside 2 RX8 G (x_in W0)) (hr : meth.sig.returnType = none) (hk : meth.locks = false)  : ∀ (s' : S8) (x1' : Int32) (z : S8) {H : Heap} {locs : List Loc} {ls : Array Slot}, xW G (x_in W0) sS.heap (cells8 G ad s') H locs → lv_has ls 2 [(0, .ref (ad 0)), (1, .int x1')] → lp_X8_putsAside_p2  s' x1' = some z → W p l e (rm_X8_putsAside) sS m args below meth c H locs 0 0 (MQ below (xQ G W0 (cells8 G ad z) none) args sS 0 0 (x_in W0)) (F0 m 2 ls []) := by
  intro s x1 z H locs ls hw hl hf
  exact x_loop_W (P := fun (q : S8 × Int32) (z : S8) => ∀ {H : Heap} {locs : List Loc} {ls : Array Slot}, xW G (x_in W0) sS.heap (cells8 G ad q.1) H locs → lv_has ls 2 [(0, .ref (ad 0)), (1, .int q.2)] → W p l e (rm_X8_putsAside) sS m args below meth c H locs 0 0 (MQ below (xQ G W0 (cells8 G ad z) none) args sS 0 0 (x_in W0)) (F0 m 2 ls [])) (fun k hkk q z hf H locs ls hw hl => w_X8_putsAside_p2 E hr hk  (fun s x1 z H locs ls hw hl hf => hkk (s, x1) z hf hw hl) q.1 q.2 z hw hl hf) FU (s, x1) z hf hw hl
set_option maxHeartbeats 4000000 in
set_option maxRecDepth 100000 in
theorem w_X8_putsAside_p0 {p : Program} {l : Launch} {e : Env} {sS : State} {m : MethodId} {args : Array Value} {below : List Frame} {meth : Method} {c : Code} {G : xG} {W0 : va_W} {ad : Nat → Nat}   (E : xE p sS m args c cX8_putsAside 2 RX8 G (x_in W0)) (hr : meth.sig.returnType = none) (hk : meth.locks = false)  : ∀ (s' : S8) (z : S8) {H : Heap} {locs : List Loc} {ls : Array Slot}, xW G (x_in W0) sS.heap (cells8 G ad s') H locs → lv_has ls 2 [(0, .ref (ad 0))] → f_X8_putsAside  s' = some z → W p l e (rm_X8_putsAside) sS m args below meth c H locs 0 0 (MQ below (xQ G W0 (cells8 G ad z) none) args sS 0 0 (x_in W0)) (F0 m 0 ls []) := by
  intro s z H locs ls hw hl hf
  unfold f_X8_putsAside at hf
  refine lv_iconst (v := 0) (pc := 0) E.1 E.2.1 dX8_putsAside_0 (by decide) ?_
  refine lv_istore_n (lv' := [(1, .int 0), (0, .ref (ad 0))]) (pc := 1) E.1 E.2.1 dX8_putsAside_1 rfl hl (by decide) rfl (fun ls hl => ?_)
  exact wl_X8_putsAside_p2 E hr hk  s 0 z hw (lv_sub hl [1, 0] rfl) hf
set_option maxHeartbeats 4000000 in
set_option maxRecDepth 100000 in
theorem c_X8_putsAside (l : Launch) (G : xG) (ad : Nat → Nat) (s : S8) {z : S8} (hf : f_X8_putsAside s = some z) : xC l yX8_putsAside cX8_putsAside 2 none (rm_X8_putsAside) G [.ref (ad 0)] (cells8 G ad s) none (cells8 G ad z) :=
  x_met (by decide) (Nat.le_of_ble_eq_true rfl) (fun p e sS m below meth c E hr hk ls hl hw => w_X8_putsAside_p0 E hr hk s z hw hl hf)
set_option maxHeartbeats 4000000 in
set_option maxRecDepth 100000 in
theorem w_X8_takesBack_p2 {p : Program} {l : Launch} {e : Env} {sS : State} {m : MethodId} {args : Array Value} {below : List Frame} {meth : Method} {c : Code} {G : xG} {W0 : va_W} {ad : Nat → Nat}  {k2 : S8 → Int32 → Option (S8)} (E : xE p sS m args c cX8_takesBack 2 RX8 G (x_in W0)) (hr : meth.sig.returnType = none) (hk : meth.locks = false) (hk2 : ∀ (s' : S8) (x1' : Int32) (z : S8) {H : Heap} {locs : List Loc} {ls : Array Slot}, xW G (x_in W0) sS.heap (cells8 G ad s') H locs → lv_has ls 2 [(0, .ref (ad 0)), (1, .int x1')] → k2  s' x1' = some z → W p l e (rm_X8_takesBack) sS m args below meth c H locs 0 0 (MQ below (xQ G W0 (cells8 G ad z) none) args sS 0 0 (x_in W0)) (F0 m 2 ls [])) : ∀ (s' : S8) (x1' : Int32) (z : S8) {H : Heap} {locs : List Loc} {ls : Array Slot}, xW G (x_in W0) sS.heap (cells8 G ad s') H locs → lv_has ls 2 [(0, .ref (ad 0)), (1, .int x1')] → f_X8_takesBack_p2 k2 s' x1' = some z → W p l e (rm_X8_takesBack) sS m args below meth c H locs 0 0 (MQ below (xQ G W0 (cells8 G ad z) none) args sS 0 0 (x_in W0)) (F0 m 2 ls []) := by
  intro s x1 z H locs ls hw hl hf
  unfold f_X8_takesBack_p2 at hf
  refine lv_iload_n (pc := 2) E.1 E.2.1 dX8_takesBack_2 rfl (lv_at hl 1 rfl) ?_
  refine lv_sipush (v := 140) (pc := 3) E.1 E.2.1 dX8_takesBack_3 (by decide) ?_
  refine lv_icmp_ge (tgt := 27) (pc := 6) E.1 E.2.1 dX8_takesBack_6 (by decide) (fun q1 => ?_) (fun q1 => ?_)
  · have hf := x_pos q1 hf
    obtain rfl := Option.some.inj hf
    exact x_retv (pc := 27) E hr hk hw dX8_takesBack_27
  · have hf := x_neg q1 hf
    refine lv_aload_n (pc := 9) E.1 E.2.1 dX8_takesBack_9 rfl (lv_at hl 0 rfl) ?_
    refine xg_X8_13 (pc := 10) (v := .ref (ad 1)) E hw 0 rfl rfl dX8_takesBack_10 ?_
    refine lv_iload_n (pc := 13) E.1 E.2.1 dX8_takesBack_13 rfl (lv_at hl 1 rfl) ?_
    refine lv_aload_n (pc := 14) E.1 E.2.1 dX8_takesBack_14 rfl (lv_at hl 0 rfl) ?_
    refine xg_X8_20 (pc := 15) (v := .ref (ad 3)) E hw 0 rfl rfl dX8_takesBack_15 ?_
    refine lv_iload_n (pc := 18) E.1 E.2.1 dX8_takesBack_18 rfl (lv_at hl 1 rfl) ?_
    obtain ⟨v3, g2, hf⟩ := x_bind hf
    refine x_iald (pc := 19) E hw 3 rfl g2 dX8_takesBack_19 ?_
    obtain ⟨w5, g4, hf⟩ := x_bind hf
    refine x_iast (pc := 20) (ws' := (cells8 G ad (u8_now s w5))) E hw 1 rfl g4 rfl dX8_takesBack_20 (fun H locs hw => ?_)
    refine lv_iinc (v := (x1 + 1)) (lv' := [(1, .int (x1 + 1)), (0, .ref (ad 0))]) (pc := 21) E.1 E.2.1 dX8_takesBack_21 hl (k := 1) rfl rfl (by decide) rfl (fun ls hl => ?_)
    refine lv_goto (tgt := 2) (pc := 24) E.1 E.2.1 dX8_takesBack_24 (by decide) ?_
    exact hk2 (u8_now s w5) (x1 + 1) z hw (lv_sub hl [1, 0] rfl) hf
set_option maxHeartbeats 4000000 in
set_option maxRecDepth 100000 in
theorem wl_X8_takesBack_p2 {p : Program} {l : Launch} {e : Env} {sS : State} {m : MethodId} {args : Array Value} {below : List Frame} {meth : Method} {c : Code} {G : xG} {W0 : va_W} {ad : Nat → Nat}   (E : xE p sS m args c cX8_takesBack 2 RX8 G (x_in W0)) (hr : meth.sig.returnType = none) (hk : meth.locks = false)  : ∀ (s' : S8) (x1' : Int32) (z : S8) {H : Heap} {locs : List Loc} {ls : Array Slot}, xW G (x_in W0) sS.heap (cells8 G ad s') H locs → lv_has ls 2 [(0, .ref (ad 0)), (1, .int x1')] → lp_X8_takesBack_p2  s' x1' = some z → W p l e (rm_X8_takesBack) sS m args below meth c H locs 0 0 (MQ below (xQ G W0 (cells8 G ad z) none) args sS 0 0 (x_in W0)) (F0 m 2 ls []) := by
  intro s x1 z H locs ls hw hl hf
  exact x_loop_W (P := fun (q : S8 × Int32) (z : S8) => ∀ {H : Heap} {locs : List Loc} {ls : Array Slot}, xW G (x_in W0) sS.heap (cells8 G ad q.1) H locs → lv_has ls 2 [(0, .ref (ad 0)), (1, .int q.2)] → W p l e (rm_X8_takesBack) sS m args below meth c H locs 0 0 (MQ below (xQ G W0 (cells8 G ad z) none) args sS 0 0 (x_in W0)) (F0 m 2 ls [])) (fun k hkk q z hf H locs ls hw hl => w_X8_takesBack_p2 E hr hk  (fun s x1 z H locs ls hw hl hf => hkk (s, x1) z hf hw hl) q.1 q.2 z hw hl hf) FU (s, x1) z hf hw hl
set_option maxHeartbeats 4000000 in
set_option maxRecDepth 100000 in
theorem w_X8_takesBack_p0 {p : Program} {l : Launch} {e : Env} {sS : State} {m : MethodId} {args : Array Value} {below : List Frame} {meth : Method} {c : Code} {G : xG} {W0 : va_W} {ad : Nat → Nat}   (E : xE p sS m args c cX8_takesBack 2 RX8 G (x_in W0)) (hr : meth.sig.returnType = none) (hk : meth.locks = false)  : ∀ (s' : S8) (z : S8) {H : Heap} {locs : List Loc} {ls : Array Slot}, xW G (x_in W0) sS.heap (cells8 G ad s') H locs → lv_has ls 2 [(0, .ref (ad 0))] → f_X8_takesBack  s' = some z → W p l e (rm_X8_takesBack) sS m args below meth c H locs 0 0 (MQ below (xQ G W0 (cells8 G ad z) none) args sS 0 0 (x_in W0)) (F0 m 0 ls []) := by
  intro s z H locs ls hw hl hf
  unfold f_X8_takesBack at hf
  refine lv_iconst (v := 0) (pc := 0) E.1 E.2.1 dX8_takesBack_0 (by decide) ?_
  refine lv_istore_n (lv' := [(1, .int 0), (0, .ref (ad 0))]) (pc := 1) E.1 E.2.1 dX8_takesBack_1 rfl hl (by decide) rfl (fun ls hl => ?_)
  exact wl_X8_takesBack_p2 E hr hk  s 0 z hw (lv_sub hl [1, 0] rfl) hf
set_option maxHeartbeats 4000000 in
set_option maxRecDepth 100000 in
theorem c_X8_takesBack (l : Launch) (G : xG) (ad : Nat → Nat) (s : S8) {z : S8} (hf : f_X8_takesBack s = some z) : xC l yX8_takesBack cX8_takesBack 2 none (rm_X8_takesBack) G [.ref (ad 0)] (cells8 G ad s) none (cells8 G ad z) :=
  x_met (by decide) (Nat.le_of_ble_eq_true rfl) (fun p e sS m below meth c E hr hk ls hl hw => w_X8_takesBack_p0 E hr hk s z hw hl hf)
set_option maxHeartbeats 4000000 in
set_option maxRecDepth 100000 in
theorem w_X8_many_p0 {p : Program} {l : Launch} {e : Env} {sS : State} {m : MethodId} {args : Array Value} {below : List Frame} {meth : Method} {c : Code} {G : xG} {W0 : va_W} {ad : Nat → Nat}   (E : xE p sS m args c cX8_many 1 RX8 G (x_in W0)) (hr : meth.sig.returnType = (some .int)) (hk : meth.locks = false)  : ∀ (s' : S8) (z : Int32) {H : Heap} {locs : List Loc} {ls : Array Slot}, xW G (x_in W0) sS.heap (cells8 G ad s') H locs → lv_has ls 1 [(0, .ref (ad 0))] → f_X8_many  s' = some z → W p l e (rm_X8_many) sS m args below meth c H locs 0 0 (MQ below (xQ G W0 (cells8 G ad s') (some (.int z))) args sS 0 0 (x_in W0)) (F0 m 0 ls []) := by
  intro s z H locs ls hw hl hf
  unfold f_X8_many at hf
  refine lv_aload_n (pc := 0) E.1 E.2.1 dX8_many_0 rfl (lv_at hl 0 rfl) ?_
  refine xg_X8_13 (pc := 1) (v := .ref (ad 1)) E hw 0 rfl rfl dX8_many_1 ?_
  refine lv_iconst (v := 2) (pc := 4) E.1 E.2.1 dX8_many_4 (by decide) ?_
  obtain ⟨v2, g1, hf⟩ := x_bind hf
  refine x_iald (pc := 5) E hw 1 rfl g1 dX8_many_5 ?_
  obtain rfl := Option.some.inj hf
  exact x_reti (pc := 6) E hr hk hw dX8_many_6
set_option maxHeartbeats 4000000 in
set_option maxRecDepth 100000 in
theorem c_X8_many (l : Launch) (G : xG) (ad : Nat → Nat) (s : S8) {z : Int32} (hf : f_X8_many s = some z) : xC l yX8_many cX8_many 1 (some .int) (rm_X8_many) G [.ref (ad 0)] (cells8 G ad s) (some (.int z)) (cells8 G ad s) :=
  x_met (by decide) (Nat.le_of_ble_eq_true rfl) (fun p e sS m below meth c E hr hk ls hl hw => w_X8_many_p0 E hr hk s z hw hl hf)
set_option maxHeartbeats 4000000 in
set_option maxRecDepth 100000 in
theorem w_X8_claims_p0 {p : Program} {l : Launch} {e : Env} {sS : State} {m : MethodId} {args : Array Value} {below : List Frame} {meth : Method} {c : Code} {G : xG} {W0 : va_W} {ad : Nat → Nat}   (E : xE p sS m args c cX8_claims 1 RX8 G (x_in W0)) (hr : meth.sig.returnType = (some .int)) (hk : meth.locks = false)  : ∀ (s' : S8) (z : Int32) {H : Heap} {locs : List Loc} {ls : Array Slot}, xW G (x_in W0) sS.heap (cells8 G ad s') H locs → lv_has ls 1 [(0, .ref (ad 0))] → f_X8_claims  s' = some z → W p l e (rm_X8_claims) sS m args below meth c H locs 0 0 (MQ below (xQ G W0 (cells8 G ad s') (some (.int z))) args sS 0 0 (x_in W0)) (F0 m 0 ls []) := by
  intro s z H locs ls hw hl hf
  unfold f_X8_claims at hf
  refine lv_aload_n (pc := 0) E.1 E.2.1 dX8_claims_0 rfl (lv_at hl 0 rfl) ?_
  refine xg_X8_13 (pc := 1) (v := .ref (ad 1)) E hw 0 rfl rfl dX8_claims_1 ?_
  refine lv_iconst (v := 3) (pc := 4) E.1 E.2.1 dX8_claims_4 (by decide) ?_
  obtain ⟨v2, g1, hf⟩ := x_bind hf
  refine x_iald (pc := 5) E hw 1 rfl g1 dX8_claims_5 ?_
  obtain rfl := Option.some.inj hf
  exact x_reti (pc := 6) E hr hk hw dX8_claims_6
set_option maxHeartbeats 4000000 in
set_option maxRecDepth 100000 in
theorem c_X8_claims (l : Launch) (G : xG) (ad : Nat → Nat) (s : S8) {z : Int32} (hf : f_X8_claims s = some z) : xC l yX8_claims cX8_claims 1 (some .int) (rm_X8_claims) G [.ref (ad 0)] (cells8 G ad s) (some (.int z)) (cells8 G ad s) :=
  x_met (by decide) (Nat.le_of_ble_eq_true rfl) (fun p e sS m below meth c E hr hk ls hl hw => w_X8_claims_p0 E hr hk s z hw hl hf)
set_option maxHeartbeats 4000000 in
set_option maxRecDepth 100000 in
theorem w_X8_isFleet_p0 {p : Program} {l : Launch} {e : Env} {sS : State} {m : MethodId} {args : Array Value} {below : List Frame} {meth : Method} {c : Code} {G : xG} {W0 : va_W} {ad : Nat → Nat}   (E : xE p sS m args c cX8_isFleet 2 RX8 G (x_in W0)) (hr : meth.sig.returnType = (some .boolean)) (hk : meth.locks = false)  : ∀ (s' : S8) (x1' : Int32) (z : Int32) {H : Heap} {locs : List Loc} {ls : Array Slot}, xW G (x_in W0) sS.heap (cells8 G ad s') H locs → lv_has ls 2 [(0, .ref (ad 0)), (1, .int x1')] → f_X8_isFleet  s' x1' = some z → W p l e (rm_X8_isFleet) sS m args below meth c H locs 0 0 (MQ below (xQ G W0 (cells8 G ad s') (some (.int z))) args sS 0 0 (x_in W0)) (F0 m 0 ls []) := by
  intro s x1 z H locs ls hw hl hf
  unfold f_X8_isFleet at hf
  refine lv_iload_n (pc := 0) E.1 E.2.1 dX8_isFleet_0 rfl (lv_at hl 1 rfl) ?_
  refine lv_iconst (v := 0) (pc := 1) E.1 E.2.1 dX8_isFleet_1 (by decide) ?_
  refine lv_aload_n (pc := 2) E.1 E.2.1 dX8_isFleet_2 rfl (lv_at hl 0 rfl) ?_
  obtain ⟨v1, g2, hf⟩ := x_bind hf
  refine x_callVA (pc := 3) (As := []) (rest := [.int 0, .int x1]) (st1 := [.int v1, .int 0, .int x1]) (ws' := (cells8 G ad s)) E hw hl (c_X8_many l G ad s g2) xv_X8_80 xd_X8_many rfl rfl ⟨Nat.le_of_ble_eq_true rfl, Nat.le_of_ble_eq_true rfl⟩ (q0 := 0) rfl rfl rfl rfl (Nat.le_of_ble_eq_true rfl) rfl rfl dX8_isFleet_3 (fun H locs hw => ?_)
  refine lv_iconst (v := 1) (pc := 6) E.1 E.2.1 dX8_isFleet_6 (by decide) ?_
  refine lv_isub (pc := 7) E.1 E.2.1 dX8_isFleet_7 ?_
  obtain ⟨v3, g4, hf⟩ := x_bind hf
  refine x_callS0 (pc := 8) (As := [.int x1, .int 0, .int (v1 - 1)]) (rest := []) (st1 := [.int v3]) E hw hl (c_X8_in l G  x1 0 (v1 - 1) g4) xs_X8_84 xd_X8_in rfl rfl ⟨Nat.le_of_ble_eq_true rfl, Nat.le_of_ble_eq_true rfl⟩ rfl rfl (Nat.le_of_ble_eq_true rfl) rfl dX8_isFleet_8 (fun H locs hw => ?_)
  obtain ⟨v6, g5, hf⟩ := x_bind hf
  obtain rfl := Option.some.inj hf
  exact x_retz (pc := 11) E hr hk hw g5 dX8_isFleet_11
set_option maxHeartbeats 4000000 in
set_option maxRecDepth 100000 in
theorem c_X8_isFleet (l : Launch) (G : xG) (ad : Nat → Nat) (s : S8) (x1 : Int32) {z : Int32} (hf : f_X8_isFleet s x1 = some z) : xC l yX8_isFleet cX8_isFleet 2 (some .boolean) (rm_X8_isFleet) G [.ref (ad 0), .int x1] (cells8 G ad s) (some (.int z)) (cells8 G ad s) :=
  x_met (by decide) (Nat.le_of_ble_eq_true rfl) (fun p e sS m below meth c E hr hk ls hl hw => w_X8_isFleet_p0 E hr hk s x1 z hw hl hf)
set_option maxHeartbeats 4000000 in
set_option maxRecDepth 100000 in
theorem w_X8_isClaim_p0 {p : Program} {l : Launch} {e : Env} {sS : State} {m : MethodId} {args : Array Value} {below : List Frame} {meth : Method} {c : Code} {G : xG} {W0 : va_W} {ad : Nat → Nat}   (E : xE p sS m args c cX8_isClaim 2 RX8 G (x_in W0)) (hr : meth.sig.returnType = (some .boolean)) (hk : meth.locks = false)  : ∀ (s' : S8) (x1' : Int32) (z : Int32) {H : Heap} {locs : List Loc} {ls : Array Slot}, xW G (x_in W0) sS.heap (cells8 G ad s') H locs → lv_has ls 2 [(0, .ref (ad 0)), (1, .int x1')] → f_X8_isClaim  s' x1' = some z → W p l e (rm_X8_isClaim) sS m args below meth c H locs 0 0 (MQ below (xQ G W0 (cells8 G ad s') (some (.int z))) args sS 0 0 (x_in W0)) (F0 m 0 ls []) := by
  intro s x1 z H locs ls hw hl hf
  unfold f_X8_isClaim at hf
  refine lv_iload_n (pc := 0) E.1 E.2.1 dX8_isClaim_0 rfl (lv_at hl 1 rfl) ?_
  refine lv_iconst (v := 0) (pc := 1) E.1 E.2.1 dX8_isClaim_1 (by decide) ?_
  refine lv_aload_n (pc := 2) E.1 E.2.1 dX8_isClaim_2 rfl (lv_at hl 0 rfl) ?_
  obtain ⟨v1, g2, hf⟩ := x_bind hf
  refine x_callVA (pc := 3) (As := []) (rest := [.int 0, .int x1]) (st1 := [.int v1, .int 0, .int x1]) (ws' := (cells8 G ad s)) E hw hl (c_X8_claims l G ad s g2) xv_X8_88 xd_X8_claims rfl rfl ⟨Nat.le_of_ble_eq_true rfl, Nat.le_of_ble_eq_true rfl⟩ (q0 := 0) rfl rfl rfl rfl (Nat.le_of_ble_eq_true rfl) rfl rfl dX8_isClaim_3 (fun H locs hw => ?_)
  refine lv_iconst (v := 1) (pc := 6) E.1 E.2.1 dX8_isClaim_6 (by decide) ?_
  refine lv_isub (pc := 7) E.1 E.2.1 dX8_isClaim_7 ?_
  obtain ⟨v3, g4, hf⟩ := x_bind hf
  refine x_callS0 (pc := 8) (As := [.int x1, .int 0, .int (v1 - 1)]) (rest := []) (st1 := [.int v3]) E hw hl (c_X8_in l G  x1 0 (v1 - 1) g4) xs_X8_84 xd_X8_in rfl rfl ⟨Nat.le_of_ble_eq_true rfl, Nat.le_of_ble_eq_true rfl⟩ rfl rfl (Nat.le_of_ble_eq_true rfl) rfl dX8_isClaim_8 (fun H locs hw => ?_)
  obtain ⟨v6, g5, hf⟩ := x_bind hf
  obtain rfl := Option.some.inj hf
  exact x_retz (pc := 11) E hr hk hw g5 dX8_isClaim_11
set_option maxHeartbeats 4000000 in
set_option maxRecDepth 100000 in
theorem c_X8_isClaim (l : Launch) (G : xG) (ad : Nat → Nat) (s : S8) (x1 : Int32) {z : Int32} (hf : f_X8_isClaim s x1 = some z) : xC l yX8_isClaim cX8_isClaim 2 (some .boolean) (rm_X8_isClaim) G [.ref (ad 0), .int x1] (cells8 G ad s) (some (.int z)) (cells8 G ad s) :=
  x_met (by decide) (Nat.le_of_ble_eq_true rfl) (fun p e sS m below meth c E hr hk ls hl hw => w_X8_isClaim_p0 E hr hk s x1 z hw hl hf)
set_option maxHeartbeats 4000000 in
set_option maxRecDepth 100000 in
theorem w_X8_isClass_p0 {p : Program} {l : Launch} {e : Env} {sS : State} {m : MethodId} {args : Array Value} {below : List Frame} {meth : Method} {c : Code} {G : xG} {W0 : va_W}    (E : xE p sS m args c cX8_isClass 1 RX8 G (x_in W0)) (hr : meth.sig.returnType = (some .boolean)) (hk : meth.locks = false)  : ∀ (x0' : Int32) (z : Int32) {H : Heap} {locs : List Loc} {ls : Array Slot}, xW G (x_in W0) sS.heap [] H locs → lv_has ls 1 [(0, .int x0')] → f_X8_isClass  x0' = some z → W p l e (rm_X8_isClass) sS m args below meth c H locs 0 0 (MQ below (xQ G W0 [] (some (.int z))) args sS 0 0 (x_in W0)) (F0 m 0 ls []) := by
  intro x0 z H locs ls hw hl hf
  unfold f_X8_isClass at hf
  refine lv_iload_n (pc := 0) E.1 E.2.1 dX8_isClass_0 rfl (lv_at hl 0 rfl) ?_
  refine lv_iconst (v := 0) (pc := 1) E.1 E.2.1 dX8_isClass_1 (by decide) ?_
  refine lv_iconst (v := 2) (pc := 2) E.1 E.2.1 dX8_isClass_2 (by decide) ?_
  obtain ⟨v1, g2, hf⟩ := x_bind hf
  refine x_callS0 (pc := 3) (As := [.int x0, .int 0, .int 2]) (rest := []) (st1 := [.int v1]) E hw hl (c_X8_in l G  x0 0 2 g2) xs_X8_84 xd_X8_in rfl rfl ⟨Nat.le_of_ble_eq_true rfl, Nat.le_of_ble_eq_true rfl⟩ rfl rfl (Nat.le_of_ble_eq_true rfl) rfl dX8_isClass_3 (fun H locs hw => ?_)
  obtain ⟨v4, g3, hf⟩ := x_bind hf
  obtain rfl := Option.some.inj hf
  exact x_retz (pc := 6) E hr hk hw g3 dX8_isClass_6
set_option maxHeartbeats 4000000 in
set_option maxRecDepth 100000 in
theorem c_X8_isClass (l : Launch) (G : xG)  (x0 : Int32) {z : Int32} (hf : f_X8_isClass x0 = some z) : xC l yX8_isClass cX8_isClass 1 (some .boolean) (rm_X8_isClass) G [.int x0] [] (some (.int z)) [] :=
  x_met (by decide) (Nat.le_of_ble_eq_true rfl) (fun p e sS m below meth c E hr hk ls hl hw => w_X8_isClass_p0 E hr hk x0 z hw hl hf)
set_option maxHeartbeats 4000000 in
set_option maxRecDepth 100000 in
theorem w_X8_isYear_p0 {p : Program} {l : Launch} {e : Env} {sS : State} {m : MethodId} {args : Array Value} {below : List Frame} {meth : Method} {c : Code} {G : xG} {W0 : va_W}    (E : xE p sS m args c cX8_isYear 1 RX8 G (x_in W0)) (hr : meth.sig.returnType = (some .boolean)) (hk : meth.locks = false)  : ∀ (x0' : Int32) (z : Int32) {H : Heap} {locs : List Loc} {ls : Array Slot}, xW G (x_in W0) sS.heap [] H locs → lv_has ls 1 [(0, .int x0')] → f_X8_isYear  x0' = some z → W p l e (rm_X8_isYear) sS m args below meth c H locs 0 0 (MQ below (xQ G W0 [] (some (.int z))) args sS 0 0 (x_in W0)) (F0 m 0 ls []) := by
  intro x0 z H locs ls hw hl hf
  unfold f_X8_isYear at hf
  refine lv_iload_n (pc := 0) E.1 E.2.1 dX8_isYear_0 rfl (lv_at hl 0 rfl) ?_
  refine lv_iconst (v := 0) (pc := 1) E.1 E.2.1 dX8_isYear_1 (by decide) ?_
  refine lv_iconst (v := 4) (pc := 2) E.1 E.2.1 dX8_isYear_2 (by decide) ?_
  obtain ⟨v1, g2, hf⟩ := x_bind hf
  refine x_callS0 (pc := 3) (As := [.int x0, .int 0, .int 4]) (rest := []) (st1 := [.int v1]) E hw hl (c_X8_in l G  x0 0 4 g2) xs_X8_84 xd_X8_in rfl rfl ⟨Nat.le_of_ble_eq_true rfl, Nat.le_of_ble_eq_true rfl⟩ rfl rfl (Nat.le_of_ble_eq_true rfl) rfl dX8_isYear_3 (fun H locs hw => ?_)
  obtain ⟨v4, g3, hf⟩ := x_bind hf
  obtain rfl := Option.some.inj hf
  exact x_retz (pc := 6) E hr hk hw g3 dX8_isYear_6
set_option maxHeartbeats 4000000 in
set_option maxRecDepth 100000 in
theorem c_X8_isYear (l : Launch) (G : xG)  (x0 : Int32) {z : Int32} (hf : f_X8_isYear x0 = some z) : xC l yX8_isYear cX8_isYear 1 (some .boolean) (rm_X8_isYear) G [.int x0] [] (some (.int z)) [] :=
  x_met (by decide) (Nat.le_of_ble_eq_true rfl) (fun p e sS m below meth c E hr hk ls hl hw => w_X8_isYear_p0 E hr hk x0 z hw hl hf)
set_option maxHeartbeats 4000000 in
set_option maxRecDepth 100000 in
theorem w_X8_isAmount_p0 {p : Program} {l : Launch} {e : Env} {sS : State} {m : MethodId} {args : Array Value} {below : List Frame} {meth : Method} {c : Code} {G : xG} {W0 : va_W}    (E : xE p sS m args c cX8_isAmount 1 RX8 G (x_in W0)) (hr : meth.sig.returnType = (some .boolean)) (hk : meth.locks = false)  : ∀ (x0' : Int32) (z : Int32) {H : Heap} {locs : List Loc} {ls : Array Slot}, xW G (x_in W0) sS.heap [] H locs → lv_has ls 1 [(0, .int x0')] → f_X8_isAmount  x0' = some z → W p l e (rm_X8_isAmount) sS m args below meth c H locs 0 0 (MQ below (xQ G W0 [] (some (.int z))) args sS 0 0 (x_in W0)) (F0 m 0 ls []) := by
  intro x0 z H locs ls hw hl hf
  unfold f_X8_isAmount at hf
  refine lv_iload_n (pc := 0) E.1 E.2.1 dX8_isAmount_0 rfl (lv_at hl 0 rfl) ?_
  refine lv_iconst (v := 1) (pc := 1) E.1 E.2.1 dX8_isAmount_1 (by decide) ?_
  refine lv_bipush (v := 99) (pc := 2) E.1 E.2.1 dX8_isAmount_2 (by decide) ?_
  obtain ⟨v1, g2, hf⟩ := x_bind hf
  refine x_callS0 (pc := 4) (As := [.int x0, .int 1, .int 99]) (rest := []) (st1 := [.int v1]) E hw hl (c_X8_in l G  x0 1 99 g2) xs_X8_84 xd_X8_in rfl rfl ⟨Nat.le_of_ble_eq_true rfl, Nat.le_of_ble_eq_true rfl⟩ rfl rfl (Nat.le_of_ble_eq_true rfl) rfl dX8_isAmount_4 (fun H locs hw => ?_)
  obtain ⟨v4, g3, hf⟩ := x_bind hf
  obtain rfl := Option.some.inj hf
  exact x_retz (pc := 7) E hr hk hw g3 dX8_isAmount_7
set_option maxHeartbeats 4000000 in
set_option maxRecDepth 100000 in
theorem c_X8_isAmount (l : Launch) (G : xG)  (x0 : Int32) {z : Int32} (hf : f_X8_isAmount x0 = some z) : xC l yX8_isAmount cX8_isAmount 1 (some .boolean) (rm_X8_isAmount) G [.int x0] [] (some (.int z)) [] :=
  x_met (by decide) (Nat.le_of_ble_eq_true rfl) (fun p e sS m below meth c E hr hk ls hl hw => w_X8_isAmount_p0 E hr hk x0 z hw hl hf)
set_option maxHeartbeats 4000000 in
set_option maxRecDepth 100000 in
theorem w_X8_classOf_p0 {p : Program} {l : Launch} {e : Env} {sS : State} {m : MethodId} {args : Array Value} {below : List Frame} {meth : Method} {c : Code} {G : xG} {W0 : va_W} {ad : Nat → Nat}   (E : xE p sS m args c cX8_classOf 2 RX8 G (x_in W0)) (hr : meth.sig.returnType = (some .int)) (hk : meth.locks = false)  : ∀ (s' : S8) (x1' : Int32) (z : Int32) {H : Heap} {locs : List Loc} {ls : Array Slot}, xW G (x_in W0) sS.heap (cells8 G ad s') H locs → lv_has ls 2 [(0, .ref (ad 0)), (1, .int x1')] → f_X8_classOf  s' x1' = some z → W p l e (rm_X8_classOf) sS m args below meth c H locs 0 0 (MQ below (xQ G W0 (cells8 G ad s') (some (.int z))) args sS 0 0 (x_in W0)) (F0 m 0 ls []) := by
  intro s x1 z H locs ls hw hl hf
  unfold f_X8_classOf at hf
  refine lv_aload_n (pc := 0) E.1 E.2.1 dX8_classOf_0 rfl (lv_at hl 0 rfl) ?_
  refine xg_X8_13 (pc := 1) (v := .ref (ad 1)) E hw 0 rfl rfl dX8_classOf_1 ?_
  refine lv_iconst (v := 4) (pc := 4) E.1 E.2.1 dX8_classOf_4 (by decide) ?_
  refine lv_iconst (v := 2) (pc := 5) E.1 E.2.1 dX8_classOf_5 (by decide) ?_
  refine lv_iload_n (pc := 6) E.1 E.2.1 dX8_classOf_6 rfl (lv_at hl 1 rfl) ?_
  refine lv_imul (pc := 7) E.1 E.2.1 dX8_classOf_7 ?_
  refine lv_iadd (pc := 8) E.1 E.2.1 dX8_classOf_8 ?_
  obtain ⟨v2, g1, hf⟩ := x_bind hf
  refine x_iald (pc := 9) E hw 1 rfl g1 dX8_classOf_9 ?_
  obtain rfl := Option.some.inj hf
  exact x_reti (pc := 10) E hr hk hw dX8_classOf_10
set_option maxHeartbeats 4000000 in
set_option maxRecDepth 100000 in
theorem c_X8_classOf (l : Launch) (G : xG) (ad : Nat → Nat) (s : S8) (x1 : Int32) {z : Int32} (hf : f_X8_classOf s x1 = some z) : xC l yX8_classOf cX8_classOf 2 (some .int) (rm_X8_classOf) G [.ref (ad 0), .int x1] (cells8 G ad s) (some (.int z)) (cells8 G ad s) :=
  x_met (by decide) (Nat.le_of_ble_eq_true rfl) (fun p e sS m below meth c E hr hk ls hl hw => w_X8_classOf_p0 E hr hk s x1 z hw hl hf)
set_option maxHeartbeats 4000000 in
set_option maxRecDepth 100000 in
theorem w_X8_yearsOf_p0 {p : Program} {l : Launch} {e : Env} {sS : State} {m : MethodId} {args : Array Value} {below : List Frame} {meth : Method} {c : Code} {G : xG} {W0 : va_W} {ad : Nat → Nat}   (E : xE p sS m args c cX8_yearsOf 2 RX8 G (x_in W0)) (hr : meth.sig.returnType = (some .int)) (hk : meth.locks = false)  : ∀ (s' : S8) (x1' : Int32) (z : Int32) {H : Heap} {locs : List Loc} {ls : Array Slot}, xW G (x_in W0) sS.heap (cells8 G ad s') H locs → lv_has ls 2 [(0, .ref (ad 0)), (1, .int x1')] → f_X8_yearsOf  s' x1' = some z → W p l e (rm_X8_yearsOf) sS m args below meth c H locs 0 0 (MQ below (xQ G W0 (cells8 G ad s') (some (.int z))) args sS 0 0 (x_in W0)) (F0 m 0 ls []) := by
  intro s x1 z H locs ls hw hl hf
  unfold f_X8_yearsOf at hf
  refine lv_aload_n (pc := 0) E.1 E.2.1 dX8_yearsOf_0 rfl (lv_at hl 0 rfl) ?_
  refine xg_X8_13 (pc := 1) (v := .ref (ad 1)) E hw 0 rfl rfl dX8_yearsOf_1 ?_
  refine lv_iconst (v := 4) (pc := 4) E.1 E.2.1 dX8_yearsOf_4 (by decide) ?_
  refine lv_iconst (v := 2) (pc := 5) E.1 E.2.1 dX8_yearsOf_5 (by decide) ?_
  refine lv_iload_n (pc := 6) E.1 E.2.1 dX8_yearsOf_6 rfl (lv_at hl 1 rfl) ?_
  refine lv_imul (pc := 7) E.1 E.2.1 dX8_yearsOf_7 ?_
  refine lv_iadd (pc := 8) E.1 E.2.1 dX8_yearsOf_8 ?_
  refine lv_iconst (v := 1) (pc := 9) E.1 E.2.1 dX8_yearsOf_9 (by decide) ?_
  refine lv_iadd (pc := 10) E.1 E.2.1 dX8_yearsOf_10 ?_
  obtain ⟨v2, g1, hf⟩ := x_bind hf
  refine x_iald (pc := 11) E hw 1 rfl g1 dX8_yearsOf_11 ?_
  obtain rfl := Option.some.inj hf
  exact x_reti (pc := 12) E hr hk hw dX8_yearsOf_12
set_option maxHeartbeats 4000000 in
set_option maxRecDepth 100000 in
theorem c_X8_yearsOf (l : Launch) (G : xG) (ad : Nat → Nat) (s : S8) (x1 : Int32) {z : Int32} (hf : f_X8_yearsOf s x1 = some z) : xC l yX8_yearsOf cX8_yearsOf 2 (some .int) (rm_X8_yearsOf) G [.ref (ad 0), .int x1] (cells8 G ad s) (some (.int z)) (cells8 G ad s) :=
  x_met (by decide) (Nat.le_of_ble_eq_true rfl) (fun p e sS m below meth c E hr hk ls hl hw => w_X8_yearsOf_p0 E hr hk s x1 z hw hl hf)
set_option maxHeartbeats 4000000 in
set_option maxRecDepth 100000 in
theorem w_X8_isInsured_p0 {p : Program} {l : Launch} {e : Env} {sS : State} {m : MethodId} {args : Array Value} {below : List Frame} {meth : Method} {c : Code} {G : xG} {W0 : va_W} {ad : Nat → Nat}   (E : xE p sS m args c cX8_isInsured 3 RX8 G (x_in W0)) (hr : meth.sig.returnType = (some .boolean)) (hk : meth.locks = false)  : ∀ (s' : S8) (x1' : Int32) (x2' : Int32) (z : Int32) {H : Heap} {locs : List Loc} {ls : Array Slot}, xW G (x_in W0) sS.heap (cells8 G ad s') H locs → lv_has ls 3 [(0, .ref (ad 0)), (1, .int x1'), (2, .int x2')] → f_X8_isInsured  s' x1' x2' = some z → W p l e (rm_X8_isInsured) sS m args below meth c H locs 0 0 (MQ below (xQ G W0 (cells8 G ad s') (some (.int z))) args sS 0 0 (x_in W0)) (F0 m 0 ls []) := by
  intro s x1 x2 z H locs ls hw hl hf
  unfold f_X8_isInsured at hf
  refine lv_aload_n (pc := 0) E.1 E.2.1 dX8_isInsured_0 rfl (lv_at hl 0 rfl) ?_
  refine lv_iload_n (pc := 1) E.1 E.2.1 dX8_isInsured_1 rfl (lv_at hl 1 rfl) ?_
  obtain ⟨v1, g2, hf⟩ := x_bind hf
  refine x_callVA (pc := 2) (As := [.int x1]) (rest := []) (st1 := [.int v1]) (ws' := (cells8 G ad s)) E hw hl (c_X8_yearsOf l G ad s x1 g2) xv_X8_91 xd_X8_yearsOf rfl rfl ⟨Nat.le_of_ble_eq_true rfl, Nat.le_of_ble_eq_true rfl⟩ (q0 := 0) rfl rfl rfl rfl (Nat.le_of_ble_eq_true rfl) rfl rfl dX8_isInsured_2 (fun H locs hw => ?_)
  refine lv_iload_n (pc := 5) E.1 E.2.1 dX8_isInsured_5 rfl (lv_at hl 2 rfl) ?_
  refine lv_ishr (pc := 6) E.1 E.2.1 dX8_isInsured_6 ?_
  refine lv_iconst (v := 1) (pc := 7) E.1 E.2.1 dX8_isInsured_7 (by decide) ?_
  refine lv_iand (pc := 8) E.1 E.2.1 dX8_isInsured_8 ?_
  refine lv_iconst (v := 1) (pc := 9) E.1 E.2.1 dX8_isInsured_9 (by decide) ?_
  refine lv_icmp_ne (tgt := 17) (pc := 10) E.1 E.2.1 dX8_isInsured_10 (by decide) (fun q3 => ?_) (fun q3 => ?_)
  · have hf := x_neg q3 hf
    refine lv_iconst (v := 0) (pc := 17) E.1 E.2.1 dX8_isInsured_17 (by decide) ?_
    obtain rfl := Option.some.inj hf
    exact x_retz (pc := 18) (v := 0) (r := 0) E hr hk hw (by decide) dX8_isInsured_18
  · have hf := x_pos q3 hf
    refine lv_iconst (v := 1) (pc := 13) E.1 E.2.1 dX8_isInsured_13 (by decide) ?_
    refine lv_goto (tgt := 18) (pc := 14) E.1 E.2.1 dX8_isInsured_14 (by decide) ?_
    obtain rfl := Option.some.inj hf
    exact x_retz (pc := 18) (v := 1) (r := 1) E hr hk hw (by decide) dX8_isInsured_18
set_option maxHeartbeats 4000000 in
set_option maxRecDepth 100000 in
theorem c_X8_isInsured (l : Launch) (G : xG) (ad : Nat → Nat) (s : S8) (x1 : Int32) (x2 : Int32) {z : Int32} (hf : f_X8_isInsured s x1 x2 = some z) : xC l yX8_isInsured cX8_isInsured 3 (some .boolean) (rm_X8_isInsured) G [.ref (ad 0), .int x1, .int x2] (cells8 G ad s) (some (.int z)) (cells8 G ad s) :=
  x_met (by decide) (Nat.le_of_ble_eq_true rfl) (fun p e sS m below meth c E hr hk ls hl hw => w_X8_isInsured_p0 E hr hk s x1 x2 z hw hl hf)
set_option maxHeartbeats 4000000 in
set_option maxRecDepth 100000 in
theorem w_X8_fleetOf_p0 {p : Program} {l : Launch} {e : Env} {sS : State} {m : MethodId} {args : Array Value} {below : List Frame} {meth : Method} {c : Code} {G : xG} {W0 : va_W} {ad : Nat → Nat}   (E : xE p sS m args c cX8_fleetOf 2 RX8 G (x_in W0)) (hr : meth.sig.returnType = (some .int)) (hk : meth.locks = false)  : ∀ (s' : S8) (x1' : Int32) (z : Int32) {H : Heap} {locs : List Loc} {ls : Array Slot}, xW G (x_in W0) sS.heap (cells8 G ad s') H locs → lv_has ls 2 [(0, .ref (ad 0)), (1, .int x1')] → f_X8_fleetOf  s' x1' = some z → W p l e (rm_X8_fleetOf) sS m args below meth c H locs 0 0 (MQ below (xQ G W0 (cells8 G ad s') (some (.int z))) args sS 0 0 (x_in W0)) (F0 m 0 ls []) := by
  intro s x1 z H locs ls hw hl hf
  unfold f_X8_fleetOf at hf
  refine lv_aload_n (pc := 0) E.1 E.2.1 dX8_fleetOf_0 rfl (lv_at hl 0 rfl) ?_
  refine xg_X8_13 (pc := 1) (v := .ref (ad 1)) E hw 0 rfl rfl dX8_fleetOf_1 ?_
  refine lv_bipush (v := 20) (pc := 4) E.1 E.2.1 dX8_fleetOf_4 (by decide) ?_
  refine lv_iconst (v := 3) (pc := 6) E.1 E.2.1 dX8_fleetOf_6 (by decide) ?_
  refine lv_iload_n (pc := 7) E.1 E.2.1 dX8_fleetOf_7 rfl (lv_at hl 1 rfl) ?_
  refine lv_imul (pc := 8) E.1 E.2.1 dX8_fleetOf_8 ?_
  refine lv_iadd (pc := 9) E.1 E.2.1 dX8_fleetOf_9 ?_
  obtain ⟨v2, g1, hf⟩ := x_bind hf
  refine x_iald (pc := 10) E hw 1 rfl g1 dX8_fleetOf_10 ?_
  obtain rfl := Option.some.inj hf
  exact x_reti (pc := 11) E hr hk hw dX8_fleetOf_11
set_option maxHeartbeats 4000000 in
set_option maxRecDepth 100000 in
theorem c_X8_fleetOf (l : Launch) (G : xG) (ad : Nat → Nat) (s : S8) (x1 : Int32) {z : Int32} (hf : f_X8_fleetOf s x1 = some z) : xC l yX8_fleetOf cX8_fleetOf 2 (some .int) (rm_X8_fleetOf) G [.ref (ad 0), .int x1] (cells8 G ad s) (some (.int z)) (cells8 G ad s) :=
  x_met (by decide) (Nat.le_of_ble_eq_true rfl) (fun p e sS m below meth c E hr hk ls hl hw => w_X8_fleetOf_p0 E hr hk s x1 z hw hl hf)
set_option maxHeartbeats 4000000 in
set_option maxRecDepth 100000 in
theorem w_X8_yearOf_p0 {p : Program} {l : Launch} {e : Env} {sS : State} {m : MethodId} {args : Array Value} {below : List Frame} {meth : Method} {c : Code} {G : xG} {W0 : va_W} {ad : Nat → Nat}   (E : xE p sS m args c cX8_yearOf 2 RX8 G (x_in W0)) (hr : meth.sig.returnType = (some .int)) (hk : meth.locks = false)  : ∀ (s' : S8) (x1' : Int32) (z : Int32) {H : Heap} {locs : List Loc} {ls : Array Slot}, xW G (x_in W0) sS.heap (cells8 G ad s') H locs → lv_has ls 2 [(0, .ref (ad 0)), (1, .int x1')] → f_X8_yearOf  s' x1' = some z → W p l e (rm_X8_yearOf) sS m args below meth c H locs 0 0 (MQ below (xQ G W0 (cells8 G ad s') (some (.int z))) args sS 0 0 (x_in W0)) (F0 m 0 ls []) := by
  intro s x1 z H locs ls hw hl hf
  unfold f_X8_yearOf at hf
  refine lv_aload_n (pc := 0) E.1 E.2.1 dX8_yearOf_0 rfl (lv_at hl 0 rfl) ?_
  refine xg_X8_13 (pc := 1) (v := .ref (ad 1)) E hw 0 rfl rfl dX8_yearOf_1 ?_
  refine lv_bipush (v := 20) (pc := 4) E.1 E.2.1 dX8_yearOf_4 (by decide) ?_
  refine lv_iconst (v := 3) (pc := 6) E.1 E.2.1 dX8_yearOf_6 (by decide) ?_
  refine lv_iload_n (pc := 7) E.1 E.2.1 dX8_yearOf_7 rfl (lv_at hl 1 rfl) ?_
  refine lv_imul (pc := 8) E.1 E.2.1 dX8_yearOf_8 ?_
  refine lv_iadd (pc := 9) E.1 E.2.1 dX8_yearOf_9 ?_
  refine lv_iconst (v := 1) (pc := 10) E.1 E.2.1 dX8_yearOf_10 (by decide) ?_
  refine lv_iadd (pc := 11) E.1 E.2.1 dX8_yearOf_11 ?_
  obtain ⟨v2, g1, hf⟩ := x_bind hf
  refine x_iald (pc := 12) E hw 1 rfl g1 dX8_yearOf_12 ?_
  obtain rfl := Option.some.inj hf
  exact x_reti (pc := 13) E hr hk hw dX8_yearOf_13
set_option maxHeartbeats 4000000 in
set_option maxRecDepth 100000 in
theorem c_X8_yearOf (l : Launch) (G : xG) (ad : Nat → Nat) (s : S8) (x1 : Int32) {z : Int32} (hf : f_X8_yearOf s x1 = some z) : xC l yX8_yearOf cX8_yearOf 2 (some .int) (rm_X8_yearOf) G [.ref (ad 0), .int x1] (cells8 G ad s) (some (.int z)) (cells8 G ad s) :=
  x_met (by decide) (Nat.le_of_ble_eq_true rfl) (fun p e sS m below meth c E hr hk ls hl hw => w_X8_yearOf_p0 E hr hk s x1 z hw hl hf)
set_option maxHeartbeats 4000000 in
set_option maxRecDepth 100000 in
theorem w_X8_amountOf_p0 {p : Program} {l : Launch} {e : Env} {sS : State} {m : MethodId} {args : Array Value} {below : List Frame} {meth : Method} {c : Code} {G : xG} {W0 : va_W} {ad : Nat → Nat}   (E : xE p sS m args c cX8_amountOf 2 RX8 G (x_in W0)) (hr : meth.sig.returnType = (some .int)) (hk : meth.locks = false)  : ∀ (s' : S8) (x1' : Int32) (z : Int32) {H : Heap} {locs : List Loc} {ls : Array Slot}, xW G (x_in W0) sS.heap (cells8 G ad s') H locs → lv_has ls 2 [(0, .ref (ad 0)), (1, .int x1')] → f_X8_amountOf  s' x1' = some z → W p l e (rm_X8_amountOf) sS m args below meth c H locs 0 0 (MQ below (xQ G W0 (cells8 G ad s') (some (.int z))) args sS 0 0 (x_in W0)) (F0 m 0 ls []) := by
  intro s x1 z H locs ls hw hl hf
  unfold f_X8_amountOf at hf
  refine lv_aload_n (pc := 0) E.1 E.2.1 dX8_amountOf_0 rfl (lv_at hl 0 rfl) ?_
  refine xg_X8_13 (pc := 1) (v := .ref (ad 1)) E hw 0 rfl rfl dX8_amountOf_1 ?_
  refine lv_bipush (v := 20) (pc := 4) E.1 E.2.1 dX8_amountOf_4 (by decide) ?_
  refine lv_iconst (v := 3) (pc := 6) E.1 E.2.1 dX8_amountOf_6 (by decide) ?_
  refine lv_iload_n (pc := 7) E.1 E.2.1 dX8_amountOf_7 rfl (lv_at hl 1 rfl) ?_
  refine lv_imul (pc := 8) E.1 E.2.1 dX8_amountOf_8 ?_
  refine lv_iadd (pc := 9) E.1 E.2.1 dX8_amountOf_9 ?_
  refine lv_iconst (v := 2) (pc := 10) E.1 E.2.1 dX8_amountOf_10 (by decide) ?_
  refine lv_iadd (pc := 11) E.1 E.2.1 dX8_amountOf_11 ?_
  obtain ⟨v2, g1, hf⟩ := x_bind hf
  refine x_iald (pc := 12) E hw 1 rfl g1 dX8_amountOf_12 ?_
  obtain rfl := Option.some.inj hf
  exact x_reti (pc := 13) E hr hk hw dX8_amountOf_13
set_option maxHeartbeats 4000000 in
set_option maxRecDepth 100000 in
theorem c_X8_amountOf (l : Launch) (G : xG) (ad : Nat → Nat) (s : S8) (x1 : Int32) {z : Int32} (hf : f_X8_amountOf s x1 = some z) : xC l yX8_amountOf cX8_amountOf 2 (some .int) (rm_X8_amountOf) G [.ref (ad 0), .int x1] (cells8 G ad s) (some (.int z)) (cells8 G ad s) :=
  x_met (by decide) (Nat.le_of_ble_eq_true rfl) (fun p e sS m below meth c E hr hk ls hl hw => w_X8_amountOf_p0 E hr hk s x1 z hw hl hf)
set_option maxHeartbeats 4000000 in
set_option maxRecDepth 100000 in
theorem w_X8_counted_p0 {p : Program} {l : Launch} {e : Env} {sS : State} {m : MethodId} {args : Array Value} {below : List Frame} {meth : Method} {c : Code} {G : xG} {W0 : va_W} {ad : Nat → Nat}   (E : xE p sS m args c cX8_counted 2 RX8 G (x_in W0)) (hr : meth.sig.returnType = (some .int)) (hk : meth.locks = false)  : ∀ (s' : S8) (x1' : Int32) (z : Int32) {H : Heap} {locs : List Loc} {ls : Array Slot}, xW G (x_in W0) sS.heap (cells8 G ad s') H locs → lv_has ls 2 [(0, .ref (ad 0)), (1, .int x1')] → f_X8_counted  s' x1' = some z → W p l e (rm_X8_counted) sS m args below meth c H locs 0 0 (MQ below (xQ G W0 (cells8 G ad s') (some (.int z))) args sS 0 0 (x_in W0)) (F0 m 0 ls []) := by
  intro s x1 z H locs ls hw hl hf
  unfold f_X8_counted at hf
  refine lv_aload_n (pc := 0) E.1 E.2.1 dX8_counted_0 rfl (lv_at hl 0 rfl) ?_
  refine lv_iload_n (pc := 1) E.1 E.2.1 dX8_counted_1 rfl (lv_at hl 1 rfl) ?_
  obtain ⟨v1, g2, hf⟩ := x_bind hf
  refine x_callVA (pc := 2) (As := [.int x1]) (rest := []) (st1 := [.int v1]) (ws' := (cells8 G ad s)) E hw hl (c_X8_amountOf l G ad s x1 g2) xv_X8_95 xd_X8_amountOf rfl rfl ⟨Nat.le_of_ble_eq_true rfl, Nat.le_of_ble_eq_true rfl⟩ (q0 := 0) rfl rfl rfl rfl (Nat.le_of_ble_eq_true rfl) rfl rfl dX8_counted_2 (fun H locs hw => ?_)
  refine lv_aload_n (pc := 5) E.1 E.2.1 dX8_counted_5 rfl (lv_at hl 0 rfl) ?_
  refine xg_X8_13 (pc := 6) (v := .ref (ad 1)) E hw 0 rfl rfl dX8_counted_6 ?_
  refine lv_iconst (v := 0) (pc := 9) E.1 E.2.1 dX8_counted_9 (by decide) ?_
  obtain ⟨v4, g3, hf⟩ := x_bind hf
  refine x_iald (pc := 10) E hw 1 rfl g3 dX8_counted_10 ?_
  refine lv_icmp_ge (tgt := 22) (pc := 11) E.1 E.2.1 dX8_counted_11 (by decide) (fun q5 => ?_) (fun q5 => ?_)
  · have hf := x_pos q5 hf
    refine lv_aload_n (pc := 22) E.1 E.2.1 dX8_counted_22 rfl (lv_at hl 0 rfl) ?_
    refine xg_X8_13 (pc := 23) (v := .ref (ad 1)) E hw 0 rfl rfl dX8_counted_23 ?_
    refine lv_iconst (v := 0) (pc := 26) E.1 E.2.1 dX8_counted_26 (by decide) ?_
    obtain ⟨v7, g6, hf⟩ := x_bind hf
    refine x_iald (pc := 27) E hw 1 rfl g6 dX8_counted_27 ?_
    obtain rfl := Option.some.inj hf
    exact x_reti (pc := 28) E hr hk hw dX8_counted_28
  · have hf := x_neg q5 hf
    refine lv_aload_n (pc := 14) E.1 E.2.1 dX8_counted_14 rfl (lv_at hl 0 rfl) ?_
    refine lv_iload_n (pc := 15) E.1 E.2.1 dX8_counted_15 rfl (lv_at hl 1 rfl) ?_
    obtain ⟨v8, g9, hf⟩ := x_bind hf
    refine x_callVA (pc := 16) (As := [.int x1]) (rest := []) (st1 := [.int v8]) (ws' := (cells8 G ad s)) E hw hl (c_X8_amountOf l G ad s x1 g9) xv_X8_95 xd_X8_amountOf rfl rfl ⟨Nat.le_of_ble_eq_true rfl, Nat.le_of_ble_eq_true rfl⟩ (q0 := 0) rfl rfl rfl rfl (Nat.le_of_ble_eq_true rfl) rfl rfl dX8_counted_16 (fun H locs hw => ?_)
    refine lv_goto (tgt := 28) (pc := 19) E.1 E.2.1 dX8_counted_19 (by decide) ?_
    obtain rfl := Option.some.inj hf
    exact x_reti (pc := 28) E hr hk hw dX8_counted_28
set_option maxHeartbeats 4000000 in
set_option maxRecDepth 100000 in
theorem c_X8_counted (l : Launch) (G : xG) (ad : Nat → Nat) (s : S8) (x1 : Int32) {z : Int32} (hf : f_X8_counted s x1 = some z) : xC l yX8_counted cX8_counted 2 (some .int) (rm_X8_counted) G [.ref (ad 0), .int x1] (cells8 G ad s) (some (.int z)) (cells8 G ad s) :=
  x_met (by decide) (Nat.le_of_ble_eq_true rfl) (fun p e sS m below meth c E hr hk ls hl hw => w_X8_counted_p0 E hr hk s x1 z hw hl hf)
set_option maxHeartbeats 4000000 in
set_option maxRecDepth 100000 in
theorem w_X8_drops_p7 {p : Program} {l : Launch} {e : Env} {sS : State} {m : MethodId} {args : Array Value} {below : List Frame} {meth : Method} {c : Code} {G : xG} {W0 : va_W} {ad : Nat → Nat}  {k7 : S8 → Int32 → Option (S8)} (E : xE p sS m args c cX8_drops 3 RX8 G (x_in W0)) (hr : meth.sig.returnType = none) (hk : meth.locks = false) (hk7 : ∀ (s' : S8) (x2' : Int32) (z : S8) {H : Heap} {locs : List Loc} {ls : Array Slot}, xW G (x_in W0) sS.heap (cells8 G ad s') H locs → lv_has ls 3 [(0, .ref (ad 0)), (2, .int x2')] → k7  s' x2' = some z → W p l e (rm_X8_drops) sS m args below meth c H locs 0 0 (MQ below (xQ G W0 (cells8 G ad z) none) args sS 0 0 (x_in W0)) (F0 m 7 ls [])) : ∀ (s' : S8) (x2' : Int32) (z : S8) {H : Heap} {locs : List Loc} {ls : Array Slot}, xW G (x_in W0) sS.heap (cells8 G ad s') H locs → lv_has ls 3 [(0, .ref (ad 0)), (2, .int x2')] → f_X8_drops_p7 k7 s' x2' = some z → W p l e (rm_X8_drops) sS m args below meth c H locs 0 0 (MQ below (xQ G W0 (cells8 G ad z) none) args sS 0 0 (x_in W0)) (F0 m 7 ls []) := by
  intro s x2 z H locs ls hw hl hf
  unfold f_X8_drops_p7 at hf
  refine lv_iload_n (pc := 7) E.1 E.2.1 dX8_drops_7 rfl (lv_at hl 1 rfl) ?_
  refine lv_bipush (v := 20) (pc := 8) E.1 E.2.1 dX8_drops_8 (by decide) ?_
  refine lv_iconst (v := 3) (pc := 10) E.1 E.2.1 dX8_drops_10 (by decide) ?_
  refine lv_aload_n (pc := 11) E.1 E.2.1 dX8_drops_11 rfl (lv_at hl 0 rfl) ?_
  obtain ⟨v1, g2, hf⟩ := x_bind hf
  refine x_callVA (pc := 12) (As := []) (rest := [.int 3, .int 20, .int x2]) (st1 := [.int v1, .int 3, .int 20, .int x2]) (ws' := (cells8 G ad s)) E hw hl (c_X8_claims l G ad s g2) xv_X8_88 xd_X8_claims rfl rfl ⟨Nat.le_of_ble_eq_true rfl, Nat.le_of_ble_eq_true rfl⟩ (q0 := 0) rfl rfl rfl rfl (Nat.le_of_ble_eq_true rfl) rfl rfl dX8_drops_12 (fun H locs hw => ?_)
  refine lv_imul (pc := 15) E.1 E.2.1 dX8_drops_15 ?_
  refine lv_iadd (pc := 16) E.1 E.2.1 dX8_drops_16 ?_
  refine lv_iconst (v := 3) (pc := 17) E.1 E.2.1 dX8_drops_17 (by decide) ?_
  refine lv_isub (pc := 18) E.1 E.2.1 dX8_drops_18 ?_
  refine lv_icmp_ge (tgt := 42) (pc := 19) E.1 E.2.1 dX8_drops_19 (by decide) (fun q3 => ?_) (fun q3 => ?_)
  · have hf := x_pos q3 hf
    refine lv_aload_n (pc := 42) E.1 E.2.1 dX8_drops_42 rfl (lv_at hl 0 rfl) ?_
    refine xg_X8_13 (pc := 43) (v := .ref (ad 1)) E hw 0 rfl rfl dX8_drops_43 ?_
    refine lv_iconst (v := 3) (pc := 46) E.1 E.2.1 dX8_drops_46 (by decide) ?_
    refine lv_dup2_11 (pc := 47) E.1 E.2.1 dX8_drops_47 rfl rfl ?_
    obtain ⟨v5, g4, hf⟩ := x_bind hf
    refine x_iald (pc := 48) E hw 1 rfl g4 dX8_drops_48 ?_
    refine lv_iconst (v := 1) (pc := 49) E.1 E.2.1 dX8_drops_49 (by decide) ?_
    refine lv_isub (pc := 50) E.1 E.2.1 dX8_drops_50 ?_
    obtain ⟨w7, g6, hf⟩ := x_bind hf
    refine x_iast (pc := 51) (ws' := (cells8 G ad (u8_now s w7))) E hw 1 rfl g6 rfl dX8_drops_51 (fun H locs hw => ?_)
    obtain rfl := Option.some.inj hf
    exact x_retv (pc := 52) E hr hk hw dX8_drops_52
  · have hf := x_neg q3 hf
    refine lv_aload_n (pc := 22) E.1 E.2.1 dX8_drops_22 rfl (lv_at hl 0 rfl) ?_
    refine xg_X8_13 (pc := 23) (v := .ref (ad 1)) E hw 0 rfl rfl dX8_drops_23 ?_
    refine lv_iload_n (pc := 26) E.1 E.2.1 dX8_drops_26 rfl (lv_at hl 1 rfl) ?_
    refine lv_aload_n (pc := 27) E.1 E.2.1 dX8_drops_27 rfl (lv_at hl 0 rfl) ?_
    refine xg_X8_13 (pc := 28) (v := .ref (ad 1)) E hw 0 rfl rfl dX8_drops_28 ?_
    refine lv_iload_n (pc := 31) E.1 E.2.1 dX8_drops_31 rfl (lv_at hl 1 rfl) ?_
    refine lv_iconst (v := 3) (pc := 32) E.1 E.2.1 dX8_drops_32 (by decide) ?_
    refine lv_iadd (pc := 33) E.1 E.2.1 dX8_drops_33 ?_
    obtain ⟨v9, g8, hf⟩ := x_bind hf
    refine x_iald (pc := 34) E hw 1 rfl g8 dX8_drops_34 ?_
    obtain ⟨w11, g10, hf⟩ := x_bind hf
    refine x_iast (pc := 35) (ws' := (cells8 G ad (u8_now s w11))) E hw 1 rfl g10 rfl dX8_drops_35 (fun H locs hw => ?_)
    refine lv_iinc (v := (x2 + 1)) (lv' := [(2, .int (x2 + 1)), (0, .ref (ad 0))]) (pc := 36) E.1 E.2.1 dX8_drops_36 hl (k := 1) rfl rfl (by decide) rfl (fun ls hl => ?_)
    refine lv_goto (tgt := 7) (pc := 39) E.1 E.2.1 dX8_drops_39 (by decide) ?_
    exact hk7 (u8_now s w11) (x2 + 1) z hw (lv_sub hl [1, 0] rfl) hf
set_option maxHeartbeats 4000000 in
set_option maxRecDepth 100000 in
theorem wl_X8_drops_p7 {p : Program} {l : Launch} {e : Env} {sS : State} {m : MethodId} {args : Array Value} {below : List Frame} {meth : Method} {c : Code} {G : xG} {W0 : va_W} {ad : Nat → Nat}   (E : xE p sS m args c cX8_drops 3 RX8 G (x_in W0)) (hr : meth.sig.returnType = none) (hk : meth.locks = false)  : ∀ (s' : S8) (x2' : Int32) (z : S8) {H : Heap} {locs : List Loc} {ls : Array Slot}, xW G (x_in W0) sS.heap (cells8 G ad s') H locs → lv_has ls 3 [(0, .ref (ad 0)), (2, .int x2')] → lp_X8_drops_p7  s' x2' = some z → W p l e (rm_X8_drops) sS m args below meth c H locs 0 0 (MQ below (xQ G W0 (cells8 G ad z) none) args sS 0 0 (x_in W0)) (F0 m 7 ls []) := by
  intro s x2 z H locs ls hw hl hf
  exact x_loop_W (P := fun (q : S8 × Int32) (z : S8) => ∀ {H : Heap} {locs : List Loc} {ls : Array Slot}, xW G (x_in W0) sS.heap (cells8 G ad q.1) H locs → lv_has ls 3 [(0, .ref (ad 0)), (2, .int q.2)] → W p l e (rm_X8_drops) sS m args below meth c H locs 0 0 (MQ below (xQ G W0 (cells8 G ad z) none) args sS 0 0 (x_in W0)) (F0 m 7 ls [])) (fun k hkk q z hf H locs ls hw hl => w_X8_drops_p7 E hr hk  (fun s x2 z H locs ls hw hl hf => hkk (s, x2) z hf hw hl) q.1 q.2 z hw hl hf) FU (s, x2) z hf hw hl
set_option maxHeartbeats 4000000 in
set_option maxRecDepth 100000 in
theorem w_X8_drops_p0 {p : Program} {l : Launch} {e : Env} {sS : State} {m : MethodId} {args : Array Value} {below : List Frame} {meth : Method} {c : Code} {G : xG} {W0 : va_W} {ad : Nat → Nat}   (E : xE p sS m args c cX8_drops 3 RX8 G (x_in W0)) (hr : meth.sig.returnType = none) (hk : meth.locks = false)  : ∀ (s' : S8) (x1' : Int32) (z : S8) {H : Heap} {locs : List Loc} {ls : Array Slot}, xW G (x_in W0) sS.heap (cells8 G ad s') H locs → lv_has ls 3 [(0, .ref (ad 0)), (1, .int x1')] → f_X8_drops  s' x1' = some z → W p l e (rm_X8_drops) sS m args below meth c H locs 0 0 (MQ below (xQ G W0 (cells8 G ad z) none) args sS 0 0 (x_in W0)) (F0 m 0 ls []) := by
  intro s x1 z H locs ls hw hl hf
  unfold f_X8_drops at hf
  refine lv_bipush (v := 20) (pc := 0) E.1 E.2.1 dX8_drops_0 (by decide) ?_
  refine lv_iconst (v := 3) (pc := 2) E.1 E.2.1 dX8_drops_2 (by decide) ?_
  refine lv_iload_n (pc := 3) E.1 E.2.1 dX8_drops_3 rfl (lv_at hl 1 rfl) ?_
  refine lv_imul (pc := 4) E.1 E.2.1 dX8_drops_4 ?_
  refine lv_iadd (pc := 5) E.1 E.2.1 dX8_drops_5 ?_
  refine lv_istore_n (lv' := [(2, .int (20 + (3 * x1))), (0, .ref (ad 0)), (1, .int x1)]) (pc := 6) E.1 E.2.1 dX8_drops_6 rfl hl (by decide) rfl (fun ls hl => ?_)
  exact wl_X8_drops_p7 E hr hk  s (20 + (3 * x1)) z hw (lv_sub hl [1, 0] rfl) hf
set_option maxHeartbeats 4000000 in
set_option maxRecDepth 100000 in
theorem c_X8_drops (l : Launch) (G : xG) (ad : Nat → Nat) (s : S8) (x1 : Int32) {z : S8} (hf : f_X8_drops s x1 = some z) : xC l yX8_drops cX8_drops 3 none (rm_X8_drops) G [.ref (ad 0), .int x1] (cells8 G ad s) none (cells8 G ad z) :=
  x_met (by decide) (Nat.le_of_ble_eq_true rfl) (fun p e sS m below meth c E hr hk ls hl hw => w_X8_drops_p0 E hr hk s x1 z hw hl hf)
set_option maxHeartbeats 4000000 in
set_option maxRecDepth 100000 in
theorem w_X8_dropsAll_p48 {p : Program} {l : Launch} {e : Env} {sS : State} {m : MethodId} {args : Array Value} {below : List Frame} {meth : Method} {c : Code} {G : xG} {W0 : va_W} {ad : Nat → Nat}  {k10 : S8 → Int32 → Int32 → Int32 → Int32 → Option (Int32 × S8)} (E : xE p sS m args c cX8_dropsAll 5 RX8 G (x_in W0)) (hr : meth.sig.returnType = (some .int)) (hk : meth.locks = false) (hk10 : ∀ (s' : S8) (x1' : Int32) (x2' : Int32) (x3' : Int32) (x4' : Int32) (z : Int32 × S8) {H : Heap} {locs : List Loc} {ls : Array Slot}, xW G (x_in W0) sS.heap (cells8 G ad s') H locs → lv_has ls 5 [(0, .ref (ad 0)), (1, .int x1'), (2, .int x2'), (3, .int x3'), (4, .int x4')] → k10  s' x1' x2' x3' x4' = some z → W p l e (rm_X8_dropsAll) sS m args below meth c H locs 0 0 (MQ below (xQ G W0 (cells8 G ad z.2) (some (.int z.1))) args sS 0 0 (x_in W0)) (F0 m 10 ls [])) : ∀ (s' : S8) (x1' : Int32) (x2' : Int32) (x3' : Int32) (x4' : Int32) (z : Int32 × S8) {H : Heap} {locs : List Loc} {ls : Array Slot}, xW G (x_in W0) sS.heap (cells8 G ad s') H locs → lv_has ls 5 [(0, .ref (ad 0)), (1, .int x1'), (2, .int x2'), (3, .int x3'), (4, .int x4')] → f_X8_dropsAll_p48 k10 s' x1' x2' x3' x4' = some z → W p l e (rm_X8_dropsAll) sS m args below meth c H locs 0 0 (MQ below (xQ G W0 (cells8 G ad z.2) (some (.int z.1))) args sS 0 0 (x_in W0)) (F0 m 48 ls []) := by
  intro s x1 x2 x3 x4 z H locs ls hw hl hf
  unfold f_X8_dropsAll_p48 at hf
  refine lv_aload_n (pc := 48) E.1 E.2.1 dX8_dropsAll_48 rfl (lv_at hl 0 rfl) ?_
  refine lv_iload (pc := 49) E.1 E.2.1 dX8_dropsAll_49 (lv_at hl 4 rfl) ?_
  obtain ⟨v1, g2, hf⟩ := x_bind hf
  refine x_callVA (pc := 51) (As := [.int x4]) (rest := []) (st1 := []) (ws' := (cells8 G ad v1)) E hw hl (c_X8_drops l G ad s x4 g2) xv_X8_104 xd_X8_drops rfl rfl ⟨Nat.le_of_ble_eq_true rfl, Nat.le_of_ble_eq_true rfl⟩ (q0 := 0) rfl rfl rfl rfl (Nat.le_of_ble_eq_true rfl) rfl rfl dX8_dropsAll_51 (fun H locs hw => ?_)
  refine lv_iinc (v := (x3 + 1)) (lv' := [(3, .int (x3 + 1)), (0, .ref (ad 0)), (1, .int x1), (2, .int x2), (4, .int x4)]) (pc := 54) E.1 E.2.1 dX8_dropsAll_54 hl (k := 3) rfl rfl (by decide) rfl (fun ls hl => ?_)
  refine lv_iinc (v := (x4 + (-1))) (lv' := [(4, .int (x4 + (-1))), (3, .int (x3 + 1)), (0, .ref (ad 0)), (1, .int x1), (2, .int x2)]) (pc := 57) E.1 E.2.1 dX8_dropsAll_57 hl (k := 4) rfl rfl (by decide) rfl (fun ls hl => ?_)
  refine lv_goto (tgt := 10) (pc := 60) E.1 E.2.1 dX8_dropsAll_60 (by decide) ?_
  exact hk10 v1 x1 x2 (x3 + 1) (x4 + (-1)) z hw (lv_sub hl [2, 3, 4, 1, 0] rfl) hf
set_option maxHeartbeats 4000000 in
set_option maxRecDepth 100000 in
theorem w_X8_dropsAll_p30 {p : Program} {l : Launch} {e : Env} {sS : State} {m : MethodId} {args : Array Value} {below : List Frame} {meth : Method} {c : Code} {G : xG} {W0 : va_W} {ad : Nat → Nat}  {k10 : S8 → Int32 → Int32 → Int32 → Int32 → Option (Int32 × S8)} (E : xE p sS m args c cX8_dropsAll 5 RX8 G (x_in W0)) (hr : meth.sig.returnType = (some .int)) (hk : meth.locks = false) (hk10 : ∀ (s' : S8) (x1' : Int32) (x2' : Int32) (x3' : Int32) (x4' : Int32) (z : Int32 × S8) {H : Heap} {locs : List Loc} {ls : Array Slot}, xW G (x_in W0) sS.heap (cells8 G ad s') H locs → lv_has ls 5 [(0, .ref (ad 0)), (1, .int x1'), (2, .int x2'), (3, .int x3'), (4, .int x4')] → k10  s' x1' x2' x3' x4' = some z → W p l e (rm_X8_dropsAll) sS m args below meth c H locs 0 0 (MQ below (xQ G W0 (cells8 G ad z.2) (some (.int z.1))) args sS 0 0 (x_in W0)) (F0 m 10 ls [])) : ∀ (s' : S8) (x1' : Int32) (x2' : Int32) (x3' : Int32) (x4' : Int32) (z : Int32 × S8) {H : Heap} {locs : List Loc} {ls : Array Slot}, xW G (x_in W0) sS.heap (cells8 G ad s') H locs → lv_has ls 5 [(0, .ref (ad 0)), (1, .int x1'), (2, .int x2'), (3, .int x3'), (4, .int x4')] → f_X8_dropsAll_p30 k10 s' x1' x2' x3' x4' = some z → W p l e (rm_X8_dropsAll) sS m args below meth c H locs 0 0 (MQ below (xQ G W0 (cells8 G ad z.2) (some (.int z.1))) args sS 0 0 (x_in W0)) (F0 m 30 ls []) := by
  intro s x1 x2 x3 x4 z H locs ls hw hl hf
  unfold f_X8_dropsAll_p30 at hf
  refine lv_iload_n (pc := 30) E.1 E.2.1 dX8_dropsAll_30 rfl (lv_at hl 2 rfl) ?_
  refine lv_iconst (v := (-1)) (pc := 31) E.1 E.2.1 dX8_dropsAll_31 (by decide) ?_
  refine lv_icmp_eq (tgt := 48) (pc := 32) E.1 E.2.1 dX8_dropsAll_32 (by decide) (fun q1 => ?_) (fun q1 => ?_)
  · have hf := x_pos q1 hf
    exact w_X8_dropsAll_p48 E hr hk hk10 s x1 x2 x3 x4 z hw (lv_sub hl [0, 1, 2, 3, 4] rfl) hf
  · have hf := x_neg q1 hf
    refine lv_aload_n (pc := 35) E.1 E.2.1 dX8_dropsAll_35 rfl (lv_at hl 0 rfl) ?_
    refine lv_iload (pc := 36) E.1 E.2.1 dX8_dropsAll_36 (lv_at hl 4 rfl) ?_
    obtain ⟨v2, g3, hf⟩ := x_bind hf
    refine x_callVA (pc := 38) (As := [.int x4]) (rest := []) (st1 := [.int v2]) (ws' := (cells8 G ad s)) E hw hl (c_X8_yearOf l G ad s x4 g3) xv_X8_101 xd_X8_yearOf rfl rfl ⟨Nat.le_of_ble_eq_true rfl, Nat.le_of_ble_eq_true rfl⟩ (q0 := 0) rfl rfl rfl rfl (Nat.le_of_ble_eq_true rfl) rfl rfl dX8_dropsAll_38 (fun H locs hw => ?_)
    refine lv_iload_n (pc := 41) E.1 E.2.1 dX8_dropsAll_41 rfl (lv_at hl 2 rfl) ?_
    refine lv_icmp_eq (tgt := 48) (pc := 42) E.1 E.2.1 dX8_dropsAll_42 (by decide) (fun q4 => ?_) (fun q4 => ?_)
    · have hf := x_pos q4 hf
      exact w_X8_dropsAll_p48 E hr hk hk10 s x1 x2 x3 x4 z hw (lv_sub hl [0, 1, 2, 3, 4] rfl) hf
    · have hf := x_neg q4 hf
      refine lv_goto (tgt := 57) (pc := 45) E.1 E.2.1 dX8_dropsAll_45 (by decide) ?_
      refine lv_iinc (v := (x4 + (-1))) (lv' := [(4, .int (x4 + (-1))), (0, .ref (ad 0)), (1, .int x1), (2, .int x2), (3, .int x3)]) (pc := 57) E.1 E.2.1 dX8_dropsAll_57 hl (k := 4) rfl rfl (by decide) rfl (fun ls hl => ?_)
      refine lv_goto (tgt := 10) (pc := 60) E.1 E.2.1 dX8_dropsAll_60 (by decide) ?_
      exact hk10 s x1 x2 x3 (x4 + (-1)) z hw (lv_sub hl [1, 2, 3, 4, 0] rfl) hf
set_option maxHeartbeats 4000000 in
set_option maxRecDepth 100000 in
theorem w_X8_dropsAll_p10 {p : Program} {l : Launch} {e : Env} {sS : State} {m : MethodId} {args : Array Value} {below : List Frame} {meth : Method} {c : Code} {G : xG} {W0 : va_W} {ad : Nat → Nat}  {k10 : S8 → Int32 → Int32 → Int32 → Int32 → Option (Int32 × S8)} (E : xE p sS m args c cX8_dropsAll 5 RX8 G (x_in W0)) (hr : meth.sig.returnType = (some .int)) (hk : meth.locks = false) (hk10 : ∀ (s' : S8) (x1' : Int32) (x2' : Int32) (x3' : Int32) (x4' : Int32) (z : Int32 × S8) {H : Heap} {locs : List Loc} {ls : Array Slot}, xW G (x_in W0) sS.heap (cells8 G ad s') H locs → lv_has ls 5 [(0, .ref (ad 0)), (1, .int x1'), (2, .int x2'), (3, .int x3'), (4, .int x4')] → k10  s' x1' x2' x3' x4' = some z → W p l e (rm_X8_dropsAll) sS m args below meth c H locs 0 0 (MQ below (xQ G W0 (cells8 G ad z.2) (some (.int z.1))) args sS 0 0 (x_in W0)) (F0 m 10 ls [])) : ∀ (s' : S8) (x1' : Int32) (x2' : Int32) (x3' : Int32) (x4' : Int32) (z : Int32 × S8) {H : Heap} {locs : List Loc} {ls : Array Slot}, xW G (x_in W0) sS.heap (cells8 G ad s') H locs → lv_has ls 5 [(0, .ref (ad 0)), (1, .int x1'), (2, .int x2'), (3, .int x3'), (4, .int x4')] → f_X8_dropsAll_p10 k10 s' x1' x2' x3' x4' = some z → W p l e (rm_X8_dropsAll) sS m args below meth c H locs 0 0 (MQ below (xQ G W0 (cells8 G ad z.2) (some (.int z.1))) args sS 0 0 (x_in W0)) (F0 m 10 ls []) := by
  intro s x1 x2 x3 x4 z H locs ls hw hl hf
  unfold f_X8_dropsAll_p10 at hf
  refine lv_iload (pc := 10) E.1 E.2.1 dX8_dropsAll_10 (lv_at hl 4 rfl) ?_
  refine lv_if_lt (tgt := 63) (pc := 12) E.1 E.2.1 dX8_dropsAll_12 (by decide) (fun q1 => ?_) (fun q1 => ?_)
  · have hf := x_pos q1 hf
    refine lv_iload_n (pc := 63) E.1 E.2.1 dX8_dropsAll_63 rfl (lv_at hl 3 rfl) ?_
    obtain rfl := Option.some.inj hf
    exact x_reti (pc := 64) E hr hk hw dX8_dropsAll_64
  · have hf := x_neg q1 hf
    refine lv_iload_n (pc := 15) E.1 E.2.1 dX8_dropsAll_15 rfl (lv_at hl 1 rfl) ?_
    refine lv_iconst (v := (-1)) (pc := 16) E.1 E.2.1 dX8_dropsAll_16 (by decide) ?_
    refine lv_icmp_eq (tgt := 30) (pc := 17) E.1 E.2.1 dX8_dropsAll_17 (by decide) (fun q2 => ?_) (fun q2 => ?_)
    · have hf := x_pos q2 hf
      exact w_X8_dropsAll_p30 E hr hk hk10 s x1 x2 x3 x4 z hw (lv_sub hl [0, 1, 2, 3, 4] rfl) hf
    · have hf := x_neg q2 hf
      refine lv_aload_n (pc := 20) E.1 E.2.1 dX8_dropsAll_20 rfl (lv_at hl 0 rfl) ?_
      refine lv_iload (pc := 21) E.1 E.2.1 dX8_dropsAll_21 (lv_at hl 4 rfl) ?_
      obtain ⟨v3, g4, hf⟩ := x_bind hf
      refine x_callVA (pc := 23) (As := [.int x4]) (rest := []) (st1 := [.int v3]) (ws' := (cells8 G ad s)) E hw hl (c_X8_fleetOf l G ad s x4 g4) xv_X8_98 xd_X8_fleetOf rfl rfl ⟨Nat.le_of_ble_eq_true rfl, Nat.le_of_ble_eq_true rfl⟩ (q0 := 0) rfl rfl rfl rfl (Nat.le_of_ble_eq_true rfl) rfl rfl dX8_dropsAll_23 (fun H locs hw => ?_)
      refine lv_iload_n (pc := 26) E.1 E.2.1 dX8_dropsAll_26 rfl (lv_at hl 1 rfl) ?_
      refine lv_icmp_ne (tgt := 57) (pc := 27) E.1 E.2.1 dX8_dropsAll_27 (by decide) (fun q5 => ?_) (fun q5 => ?_)
      · have hf := x_neg q5 hf
        refine lv_iinc (v := (x4 + (-1))) (lv' := [(4, .int (x4 + (-1))), (0, .ref (ad 0)), (1, .int x1), (2, .int x2), (3, .int x3)]) (pc := 57) E.1 E.2.1 dX8_dropsAll_57 hl (k := 4) rfl rfl (by decide) rfl (fun ls hl => ?_)
        refine lv_goto (tgt := 10) (pc := 60) E.1 E.2.1 dX8_dropsAll_60 (by decide) ?_
        exact hk10 s x1 x2 x3 (x4 + (-1)) z hw (lv_sub hl [1, 2, 3, 4, 0] rfl) hf
      · have hf := x_pos q5 hf
        exact w_X8_dropsAll_p30 E hr hk hk10 s x1 x2 x3 x4 z hw (lv_sub hl [0, 1, 2, 3, 4] rfl) hf
set_option maxHeartbeats 4000000 in
set_option maxRecDepth 100000 in
theorem wl_X8_dropsAll_p10 {p : Program} {l : Launch} {e : Env} {sS : State} {m : MethodId} {args : Array Value} {below : List Frame} {meth : Method} {c : Code} {G : xG} {W0 : va_W} {ad : Nat → Nat}   (E : xE p sS m args c cX8_dropsAll 5 RX8 G (x_in W0)) (hr : meth.sig.returnType = (some .int)) (hk : meth.locks = false)  : ∀ (s' : S8) (x1' : Int32) (x2' : Int32) (x3' : Int32) (x4' : Int32) (z : Int32 × S8) {H : Heap} {locs : List Loc} {ls : Array Slot}, xW G (x_in W0) sS.heap (cells8 G ad s') H locs → lv_has ls 5 [(0, .ref (ad 0)), (1, .int x1'), (2, .int x2'), (3, .int x3'), (4, .int x4')] → lp_X8_dropsAll_p10  s' x1' x2' x3' x4' = some z → W p l e (rm_X8_dropsAll) sS m args below meth c H locs 0 0 (MQ below (xQ G W0 (cells8 G ad z.2) (some (.int z.1))) args sS 0 0 (x_in W0)) (F0 m 10 ls []) := by
  intro s x1 x2 x3 x4 z H locs ls hw hl hf
  exact x_loop_W (P := fun (q : S8 × Int32 × Int32 × Int32 × Int32) (z : Int32 × S8) => ∀ {H : Heap} {locs : List Loc} {ls : Array Slot}, xW G (x_in W0) sS.heap (cells8 G ad q.1) H locs → lv_has ls 5 [(0, .ref (ad 0)), (1, .int q.2.1), (2, .int q.2.2.1), (3, .int q.2.2.2.1), (4, .int q.2.2.2.2)] → W p l e (rm_X8_dropsAll) sS m args below meth c H locs 0 0 (MQ below (xQ G W0 (cells8 G ad z.2) (some (.int z.1))) args sS 0 0 (x_in W0)) (F0 m 10 ls [])) (fun k hkk q z hf H locs ls hw hl => w_X8_dropsAll_p10 E hr hk  (fun s x1 x2 x3 x4 z H locs ls hw hl hf => hkk (s, x1, x2, x3, x4) z hf hw hl) q.1 q.2.1 q.2.2.1 q.2.2.2.1 q.2.2.2.2 z hw hl hf) FU (s, x1, x2, x3, x4) z hf hw hl
set_option maxHeartbeats 4000000 in
set_option maxRecDepth 100000 in
theorem w_X8_dropsAll_p0 {p : Program} {l : Launch} {e : Env} {sS : State} {m : MethodId} {args : Array Value} {below : List Frame} {meth : Method} {c : Code} {G : xG} {W0 : va_W} {ad : Nat → Nat}   (E : xE p sS m args c cX8_dropsAll 5 RX8 G (x_in W0)) (hr : meth.sig.returnType = (some .int)) (hk : meth.locks = false)  : ∀ (s' : S8) (x1' : Int32) (x2' : Int32) (z : Int32 × S8) {H : Heap} {locs : List Loc} {ls : Array Slot}, xW G (x_in W0) sS.heap (cells8 G ad s') H locs → lv_has ls 5 [(0, .ref (ad 0)), (1, .int x1'), (2, .int x2')] → f_X8_dropsAll  s' x1' x2' = some z → W p l e (rm_X8_dropsAll) sS m args below meth c H locs 0 0 (MQ below (xQ G W0 (cells8 G ad z.2) (some (.int z.1))) args sS 0 0 (x_in W0)) (F0 m 0 ls []) := by
  intro s x1 x2 z H locs ls hw hl hf
  unfold f_X8_dropsAll at hf
  refine lv_iconst (v := 0) (pc := 0) E.1 E.2.1 dX8_dropsAll_0 (by decide) ?_
  refine lv_istore_n (lv' := [(3, .int 0), (0, .ref (ad 0)), (1, .int x1), (2, .int x2)]) (pc := 1) E.1 E.2.1 dX8_dropsAll_1 rfl hl (by decide) rfl (fun ls hl => ?_)
  refine lv_aload_n (pc := 2) E.1 E.2.1 dX8_dropsAll_2 rfl (lv_at hl 1 rfl) ?_
  obtain ⟨v1, g2, hf⟩ := x_bind hf
  refine x_callVA (pc := 3) (As := []) (rest := []) (st1 := [.int v1]) (ws' := (cells8 G ad s)) E hw hl (c_X8_claims l G ad s g2) xv_X8_88 xd_X8_claims rfl rfl ⟨Nat.le_of_ble_eq_true rfl, Nat.le_of_ble_eq_true rfl⟩ (q0 := 0) rfl rfl rfl rfl (Nat.le_of_ble_eq_true rfl) rfl rfl dX8_dropsAll_3 (fun H locs hw => ?_)
  refine lv_iconst (v := 1) (pc := 6) E.1 E.2.1 dX8_dropsAll_6 (by decide) ?_
  refine lv_isub (pc := 7) E.1 E.2.1 dX8_dropsAll_7 ?_
  refine lv_istore (lv' := [(4, .int (v1 - 1)), (3, .int 0), (0, .ref (ad 0)), (1, .int x1), (2, .int x2)]) (pc := 8) E.1 E.2.1 dX8_dropsAll_8 hl (by decide) rfl (fun ls hl => ?_)
  exact wl_X8_dropsAll_p10 E hr hk  s x1 x2 0 (v1 - 1) z hw (lv_sub hl [2, 3, 4, 1, 0] rfl) hf
set_option maxHeartbeats 4000000 in
set_option maxRecDepth 100000 in
theorem c_X8_dropsAll (l : Launch) (G : xG) (ad : Nat → Nat) (s : S8) (x1 : Int32) (x2 : Int32) {z : Int32 × S8} (hf : f_X8_dropsAll s x1 x2 = some z) : xC l yX8_dropsAll cX8_dropsAll 5 (some .int) (rm_X8_dropsAll) G [.ref (ad 0), .int x1, .int x2] (cells8 G ad s) (some (.int z.1)) (cells8 G ad z.2) :=
  x_met (by decide) (Nat.le_of_ble_eq_true rfl) (fun p e sS m below meth c E hr hk ls hl hw => w_X8_dropsAll_p0 E hr hk s x1 x2 z hw hl hf)
set_option maxHeartbeats 4000000 in
set_option maxRecDepth 100000 in
theorem w_X8_fleet_p0 {p : Program} {l : Launch} {e : Env} {sS : State} {m : MethodId} {args : Array Value} {below : List Frame} {meth : Method} {c : Code} {G : xG} {W0 : va_W} {ad : Nat → Nat}   (E : xE p sS m args c cX8_fleet 3 RX8 G (x_in W0)) (hr : meth.sig.returnType = (some .int)) (hk : meth.locks = false)  : ∀ (s' : S8) (x1' : Int32) (x2' : Int32) (z : Int32 × S8) {H : Heap} {locs : List Loc} {ls : Array Slot}, xW G (x_in W0) sS.heap (cells8 G ad s') H locs → lv_has ls 3 [(0, .ref (ad 0)), (1, .int x1'), (2, .int x2')] → f_X8_fleet  s' x1' x2' = some z → W p l e (rm_X8_fleet) sS m args below meth c H locs 0 0 (MQ below (xQ G W0 (cells8 G ad z.2) (some (.int z.1))) args sS 0 0 (x_in W0)) (F0 m 0 ls []) := by
  intro s x1 x2 z H locs ls hw hl hf
  unfold f_X8_fleet at hf
  refine lv_iload_n (pc := 0) E.1 E.2.1 dX8_fleet_0 rfl (lv_at hl 1 rfl) ?_
  obtain ⟨v1, g2, hf⟩ := x_bind hf
  refine x_callS0 (pc := 1) (As := [.int x1]) (rest := []) (st1 := [.int v1]) E hw hl (c_X8_isClass l G  x1 g2) xs_X8_108 xd_X8_isClass rfl rfl ⟨Nat.le_of_ble_eq_true rfl, Nat.le_of_ble_eq_true rfl⟩ rfl rfl (Nat.le_of_ble_eq_true rfl) rfl dX8_fleet_1 (fun H locs hw => ?_)
  refine lv_if_eq (tgt := 26) (pc := 4) E.1 E.2.1 dX8_fleet_4 (by decide) (fun q3 => ?_) (fun q3 => ?_)
  · have hf := x_pos q3 hf
    refine lv_iconst (v := (-1)) (pc := 26) E.1 E.2.1 dX8_fleet_26 (by decide) ?_
    obtain rfl := Option.some.inj hf
    exact x_reti (pc := 27) E hr hk hw dX8_fleet_27
  · have hf := x_neg q3 hf
    refine lv_iload_n (pc := 7) E.1 E.2.1 dX8_fleet_7 rfl (lv_at hl 2 rfl) ?_
    refine lv_iconst (v := 0) (pc := 8) E.1 E.2.1 dX8_fleet_8 (by decide) ?_
    refine lv_bipush (v := 31) (pc := 9) E.1 E.2.1 dX8_fleet_9 (by decide) ?_
    obtain ⟨v4, g5, hf⟩ := x_bind hf
    refine x_callS0 (pc := 11) (As := [.int x2, .int 0, .int 31]) (rest := []) (st1 := [.int v4]) E hw hl (c_X8_in l G  x2 0 31 g5) xs_X8_84 xd_X8_in rfl rfl ⟨Nat.le_of_ble_eq_true rfl, Nat.le_of_ble_eq_true rfl⟩ rfl rfl (Nat.le_of_ble_eq_true rfl) rfl dX8_fleet_11 (fun H locs hw => ?_)
    refine lv_if_eq (tgt := 26) (pc := 14) E.1 E.2.1 dX8_fleet_14 (by decide) (fun q6 => ?_) (fun q6 => ?_)
    · have hf := x_pos q6 hf
      refine lv_iconst (v := (-1)) (pc := 26) E.1 E.2.1 dX8_fleet_26 (by decide) ?_
      obtain rfl := Option.some.inj hf
      exact x_reti (pc := 27) E hr hk hw dX8_fleet_27
    · have hf := x_neg q6 hf
      refine lv_aload_n (pc := 17) E.1 E.2.1 dX8_fleet_17 rfl (lv_at hl 0 rfl) ?_
      obtain ⟨v7, g8, hf⟩ := x_bind hf
      refine x_callVA (pc := 18) (As := []) (rest := []) (st1 := [.int v7]) (ws' := (cells8 G ad s)) E hw hl (c_X8_many l G ad s g8) xv_X8_80 xd_X8_many rfl rfl ⟨Nat.le_of_ble_eq_true rfl, Nat.le_of_ble_eq_true rfl⟩ (q0 := 0) rfl rfl rfl rfl (Nat.le_of_ble_eq_true rfl) rfl rfl dX8_fleet_18 (fun H locs hw => ?_)
      refine lv_bipush (v := 8) (pc := 21) E.1 E.2.1 dX8_fleet_21 (by decide) ?_
      refine lv_icmp_ne (tgt := 28) (pc := 23) E.1 E.2.1 dX8_fleet_23 (by decide) (fun q9 => ?_) (fun q9 => ?_)
      · have hf := x_neg q9 hf
        refine lv_aload_n (pc := 28) E.1 E.2.1 dX8_fleet_28 rfl (lv_at hl 0 rfl) ?_
        obtain ⟨v10, g11, hf⟩ := x_bind hf
        refine x_callVA (pc := 29) (As := []) (rest := []) (st1 := []) (ws' := (cells8 G ad v10)) E hw hl (c_X8_keeps l G ad s g11) xv_X8_112 xd_X8_keeps rfl rfl ⟨Nat.le_of_ble_eq_true rfl, Nat.le_of_ble_eq_true rfl⟩ (q0 := 0) rfl rfl rfl rfl (Nat.le_of_ble_eq_true rfl) rfl rfl dX8_fleet_29 (fun H locs hw => ?_)
        refine lv_aload_n (pc := 32) E.1 E.2.1 dX8_fleet_32 rfl (lv_at hl 0 rfl) ?_
        refine xg_X8_13 (pc := 33) (v := .ref (ad 1)) E hw 0 rfl rfl dX8_fleet_33 ?_
        refine lv_iconst (v := 4) (pc := 36) E.1 E.2.1 dX8_fleet_36 (by decide) ?_
        refine lv_iconst (v := 2) (pc := 37) E.1 E.2.1 dX8_fleet_37 (by decide) ?_
        refine lv_aload_n (pc := 38) E.1 E.2.1 dX8_fleet_38 rfl (lv_at hl 0 rfl) ?_
        obtain ⟨v12, g13, hf⟩ := x_bind hf
        refine x_callVA (pc := 39) (As := []) (rest := [.int 2, .int 4, .ref (ad 1)]) (st1 := [.int v12, .int 2, .int 4, .ref (ad 1)]) (ws' := (cells8 G ad v10)) E hw hl (c_X8_many l G ad v10 g13) xv_X8_80 xd_X8_many rfl rfl ⟨Nat.le_of_ble_eq_true rfl, Nat.le_of_ble_eq_true rfl⟩ (q0 := 0) rfl rfl rfl rfl (Nat.le_of_ble_eq_true rfl) rfl rfl dX8_fleet_39 (fun H locs hw => ?_)
        refine lv_imul (pc := 42) E.1 E.2.1 dX8_fleet_42 ?_
        refine lv_iadd (pc := 43) E.1 E.2.1 dX8_fleet_43 ?_
        refine lv_iload_n (pc := 44) E.1 E.2.1 dX8_fleet_44 rfl (lv_at hl 1 rfl) ?_
        obtain ⟨w15, g14, hf⟩ := x_bind hf
        refine x_iast (pc := 45) (ws' := (cells8 G ad (u8_now v10 w15))) E hw 1 rfl g14 rfl dX8_fleet_45 (fun H locs hw => ?_)
        refine lv_aload_n (pc := 46) E.1 E.2.1 dX8_fleet_46 rfl (lv_at hl 0 rfl) ?_
        refine xg_X8_13 (pc := 47) (v := .ref (ad 1)) E hw 0 rfl rfl dX8_fleet_47 ?_
        refine lv_iconst (v := 4) (pc := 50) E.1 E.2.1 dX8_fleet_50 (by decide) ?_
        refine lv_iconst (v := 2) (pc := 51) E.1 E.2.1 dX8_fleet_51 (by decide) ?_
        refine lv_aload_n (pc := 52) E.1 E.2.1 dX8_fleet_52 rfl (lv_at hl 0 rfl) ?_
        obtain ⟨v16, g17, hf⟩ := x_bind hf
        refine x_callVA (pc := 53) (As := []) (rest := [.int 2, .int 4, .ref (ad 1)]) (st1 := [.int v16, .int 2, .int 4, .ref (ad 1)]) (ws' := (cells8 G ad (u8_now v10 w15))) E hw hl (c_X8_many l G ad (u8_now v10 w15) g17) xv_X8_80 xd_X8_many rfl rfl ⟨Nat.le_of_ble_eq_true rfl, Nat.le_of_ble_eq_true rfl⟩ (q0 := 0) rfl rfl rfl rfl (Nat.le_of_ble_eq_true rfl) rfl rfl dX8_fleet_53 (fun H locs hw => ?_)
        refine lv_imul (pc := 56) E.1 E.2.1 dX8_fleet_56 ?_
        refine lv_iadd (pc := 57) E.1 E.2.1 dX8_fleet_57 ?_
        refine lv_iconst (v := 1) (pc := 58) E.1 E.2.1 dX8_fleet_58 (by decide) ?_
        refine lv_iadd (pc := 59) E.1 E.2.1 dX8_fleet_59 ?_
        refine lv_iload_n (pc := 60) E.1 E.2.1 dX8_fleet_60 rfl (lv_at hl 2 rfl) ?_
        obtain ⟨w19, g18, hf⟩ := x_bind hf
        refine x_iast (pc := 61) (ws' := (cells8 G ad (u8_now (u8_now v10 w15) w19))) E hw 1 rfl g18 rfl dX8_fleet_61 (fun H locs hw => ?_)
        refine lv_aload_n (pc := 62) E.1 E.2.1 dX8_fleet_62 rfl (lv_at hl 0 rfl) ?_
        refine xg_X8_13 (pc := 63) (v := .ref (ad 1)) E hw 0 rfl rfl dX8_fleet_63 ?_
        refine lv_iconst (v := 2) (pc := 66) E.1 E.2.1 dX8_fleet_66 (by decide) ?_
        refine lv_dup2_11 (pc := 67) E.1 E.2.1 dX8_fleet_67 rfl rfl ?_
        obtain ⟨v21, g20, hf⟩ := x_bind hf
        refine x_iald (pc := 68) E hw 1 rfl g20 dX8_fleet_68 ?_
        refine lv_iconst (v := 1) (pc := 69) E.1 E.2.1 dX8_fleet_69 (by decide) ?_
        refine lv_iadd (pc := 70) E.1 E.2.1 dX8_fleet_70 ?_
        obtain ⟨w23, g22, hf⟩ := x_bind hf
        refine x_iast (pc := 71) (ws' := (cells8 G ad (u8_now (u8_now (u8_now v10 w15) w19) w23))) E hw 1 rfl g22 rfl dX8_fleet_71 (fun H locs hw => ?_)
        refine lv_aload_n (pc := 72) E.1 E.2.1 dX8_fleet_72 rfl (lv_at hl 0 rfl) ?_
        obtain ⟨v24, g25, hf⟩ := x_bind hf
        refine x_callVA (pc := 73) (As := []) (rest := []) (st1 := [.int v24]) (ws' := (cells8 G ad (u8_now (u8_now (u8_now v10 w15) w19) w23))) E hw hl (c_X8_many l G ad (u8_now (u8_now (u8_now v10 w15) w19) w23) g25) xv_X8_80 xd_X8_many rfl rfl ⟨Nat.le_of_ble_eq_true rfl, Nat.le_of_ble_eq_true rfl⟩ (q0 := 0) rfl rfl rfl rfl (Nat.le_of_ble_eq_true rfl) rfl rfl dX8_fleet_73 (fun H locs hw => ?_)
        refine lv_iconst (v := 1) (pc := 76) E.1 E.2.1 dX8_fleet_76 (by decide) ?_
        refine lv_isub (pc := 77) E.1 E.2.1 dX8_fleet_77 ?_
        obtain rfl := Option.some.inj hf
        exact x_reti (pc := 78) E hr hk hw dX8_fleet_78
      · have hf := x_pos q9 hf
        refine lv_iconst (v := (-1)) (pc := 26) E.1 E.2.1 dX8_fleet_26 (by decide) ?_
        obtain rfl := Option.some.inj hf
        exact x_reti (pc := 27) E hr hk hw dX8_fleet_27
set_option maxHeartbeats 4000000 in
set_option maxRecDepth 100000 in
theorem c_X8_fleet (l : Launch) (G : xG) (ad : Nat → Nat) (s : S8) (x1 : Int32) (x2 : Int32) {z : Int32 × S8} (hf : f_X8_fleet s x1 x2 = some z) : xC l yX8_fleet cX8_fleet 3 (some .int) (rm_X8_fleet) G [.ref (ad 0), .int x1, .int x2] (cells8 G ad s) (some (.int z.1)) (cells8 G ad z.2) :=
  x_met (by decide) (Nat.le_of_ble_eq_true rfl) (fun p e sS m below meth c E hr hk ls hl hw => w_X8_fleet_p0 E hr hk s x1 x2 z hw hl hf)
set_option maxHeartbeats 4000000 in
set_option maxRecDepth 100000 in
theorem w_X8_goes_p46 {p : Program} {l : Launch} {e : Env} {sS : State} {m : MethodId} {args : Array Value} {below : List Frame} {meth : Method} {c : Code} {G : xG} {W0 : va_W} {ad : Nat → Nat}  {k46 : S8 → Int32 → Option (S8)} (E : xE p sS m args c cX8_goes 3 RX8 G (x_in W0)) (hr : meth.sig.returnType = none) (hk : meth.locks = false) (hk46 : ∀ (s' : S8) (x2' : Int32) (z : S8) {H : Heap} {locs : List Loc} {ls : Array Slot}, xW G (x_in W0) sS.heap (cells8 G ad s') H locs → lv_has ls 3 [(0, .ref (ad 0)), (2, .int x2')] → k46  s' x2' = some z → W p l e (rm_X8_goes) sS m args below meth c H locs 0 0 (MQ below (xQ G W0 (cells8 G ad z) none) args sS 0 0 (x_in W0)) (F0 m 46 ls [])) : ∀ (s' : S8) (x2' : Int32) (z : S8) {H : Heap} {locs : List Loc} {ls : Array Slot}, xW G (x_in W0) sS.heap (cells8 G ad s') H locs → lv_has ls 3 [(0, .ref (ad 0)), (2, .int x2')] → f_X8_goes_p46 k46 s' x2' = some z → W p l e (rm_X8_goes) sS m args below meth c H locs 0 0 (MQ below (xQ G W0 (cells8 G ad z) none) args sS 0 0 (x_in W0)) (F0 m 46 ls []) := by
  intro s x2 z H locs ls hw hl hf
  unfold f_X8_goes_p46 at hf
  refine lv_iload_n (pc := 46) E.1 E.2.1 dX8_goes_46 rfl (lv_at hl 1 rfl) ?_
  refine lv_iconst (v := 4) (pc := 47) E.1 E.2.1 dX8_goes_47 (by decide) ?_
  refine lv_iconst (v := 2) (pc := 48) E.1 E.2.1 dX8_goes_48 (by decide) ?_
  refine lv_aload_n (pc := 49) E.1 E.2.1 dX8_goes_49 rfl (lv_at hl 0 rfl) ?_
  obtain ⟨v1, g2, hf⟩ := x_bind hf
  refine x_callVA (pc := 50) (As := []) (rest := [.int 2, .int 4, .int x2]) (st1 := [.int v1, .int 2, .int 4, .int x2]) (ws' := (cells8 G ad s)) E hw hl (c_X8_many l G ad s g2) xv_X8_80 xd_X8_many rfl rfl ⟨Nat.le_of_ble_eq_true rfl, Nat.le_of_ble_eq_true rfl⟩ (q0 := 0) rfl rfl rfl rfl (Nat.le_of_ble_eq_true rfl) rfl rfl dX8_goes_50 (fun H locs hw => ?_)
  refine lv_imul (pc := 53) E.1 E.2.1 dX8_goes_53 ?_
  refine lv_iadd (pc := 54) E.1 E.2.1 dX8_goes_54 ?_
  refine lv_iconst (v := 2) (pc := 55) E.1 E.2.1 dX8_goes_55 (by decide) ?_
  refine lv_isub (pc := 56) E.1 E.2.1 dX8_goes_56 ?_
  refine lv_icmp_ge (tgt := 80) (pc := 57) E.1 E.2.1 dX8_goes_57 (by decide) (fun q3 => ?_) (fun q3 => ?_)
  · have hf := x_pos q3 hf
    refine lv_aload_n (pc := 80) E.1 E.2.1 dX8_goes_80 rfl (lv_at hl 0 rfl) ?_
    refine xg_X8_13 (pc := 81) (v := .ref (ad 1)) E hw 0 rfl rfl dX8_goes_81 ?_
    refine lv_iconst (v := 2) (pc := 84) E.1 E.2.1 dX8_goes_84 (by decide) ?_
    refine lv_dup2_11 (pc := 85) E.1 E.2.1 dX8_goes_85 rfl rfl ?_
    obtain ⟨v5, g4, hf⟩ := x_bind hf
    refine x_iald (pc := 86) E hw 1 rfl g4 dX8_goes_86 ?_
    refine lv_iconst (v := 1) (pc := 87) E.1 E.2.1 dX8_goes_87 (by decide) ?_
    refine lv_isub (pc := 88) E.1 E.2.1 dX8_goes_88 ?_
    obtain ⟨w7, g6, hf⟩ := x_bind hf
    refine x_iast (pc := 89) (ws' := (cells8 G ad (u8_now s w7))) E hw 1 rfl g6 rfl dX8_goes_89 (fun H locs hw => ?_)
    obtain rfl := Option.some.inj hf
    exact x_retv (pc := 90) E hr hk hw dX8_goes_90
  · have hf := x_neg q3 hf
    refine lv_aload_n (pc := 60) E.1 E.2.1 dX8_goes_60 rfl (lv_at hl 0 rfl) ?_
    refine xg_X8_13 (pc := 61) (v := .ref (ad 1)) E hw 0 rfl rfl dX8_goes_61 ?_
    refine lv_iload_n (pc := 64) E.1 E.2.1 dX8_goes_64 rfl (lv_at hl 1 rfl) ?_
    refine lv_aload_n (pc := 65) E.1 E.2.1 dX8_goes_65 rfl (lv_at hl 0 rfl) ?_
    refine xg_X8_13 (pc := 66) (v := .ref (ad 1)) E hw 0 rfl rfl dX8_goes_66 ?_
    refine lv_iload_n (pc := 69) E.1 E.2.1 dX8_goes_69 rfl (lv_at hl 1 rfl) ?_
    refine lv_iconst (v := 2) (pc := 70) E.1 E.2.1 dX8_goes_70 (by decide) ?_
    refine lv_iadd (pc := 71) E.1 E.2.1 dX8_goes_71 ?_
    obtain ⟨v9, g8, hf⟩ := x_bind hf
    refine x_iald (pc := 72) E hw 1 rfl g8 dX8_goes_72 ?_
    obtain ⟨w11, g10, hf⟩ := x_bind hf
    refine x_iast (pc := 73) (ws' := (cells8 G ad (u8_now s w11))) E hw 1 rfl g10 rfl dX8_goes_73 (fun H locs hw => ?_)
    refine lv_iinc (v := (x2 + 1)) (lv' := [(2, .int (x2 + 1)), (0, .ref (ad 0))]) (pc := 74) E.1 E.2.1 dX8_goes_74 hl (k := 1) rfl rfl (by decide) rfl (fun ls hl => ?_)
    refine lv_goto (tgt := 46) (pc := 77) E.1 E.2.1 dX8_goes_77 (by decide) ?_
    exact hk46 (u8_now s w11) (x2 + 1) z hw (lv_sub hl [1, 0] rfl) hf
set_option maxHeartbeats 4000000 in
set_option maxRecDepth 100000 in
theorem wl_X8_goes_p46 {p : Program} {l : Launch} {e : Env} {sS : State} {m : MethodId} {args : Array Value} {below : List Frame} {meth : Method} {c : Code} {G : xG} {W0 : va_W} {ad : Nat → Nat}   (E : xE p sS m args c cX8_goes 3 RX8 G (x_in W0)) (hr : meth.sig.returnType = none) (hk : meth.locks = false)  : ∀ (s' : S8) (x2' : Int32) (z : S8) {H : Heap} {locs : List Loc} {ls : Array Slot}, xW G (x_in W0) sS.heap (cells8 G ad s') H locs → lv_has ls 3 [(0, .ref (ad 0)), (2, .int x2')] → lp_X8_goes_p46  s' x2' = some z → W p l e (rm_X8_goes) sS m args below meth c H locs 0 0 (MQ below (xQ G W0 (cells8 G ad z) none) args sS 0 0 (x_in W0)) (F0 m 46 ls []) := by
  intro s x2 z H locs ls hw hl hf
  exact x_loop_W (P := fun (q : S8 × Int32) (z : S8) => ∀ {H : Heap} {locs : List Loc} {ls : Array Slot}, xW G (x_in W0) sS.heap (cells8 G ad q.1) H locs → lv_has ls 3 [(0, .ref (ad 0)), (2, .int q.2)] → W p l e (rm_X8_goes) sS m args below meth c H locs 0 0 (MQ below (xQ G W0 (cells8 G ad z) none) args sS 0 0 (x_in W0)) (F0 m 46 ls [])) (fun k hkk q z hf H locs ls hw hl => w_X8_goes_p46 E hr hk  (fun s x2 z H locs ls hw hl hf => hkk (s, x2) z hf hw hl) q.1 q.2 z hw hl hf) FU (s, x2) z hf hw hl
set_option maxHeartbeats 4000000 in
set_option maxRecDepth 100000 in
theorem w_X8_goes_p2 {p : Program} {l : Launch} {e : Env} {sS : State} {m : MethodId} {args : Array Value} {below : List Frame} {meth : Method} {c : Code} {G : xG} {W0 : va_W} {ad : Nat → Nat}  {k2 : S8 → Int32 → Int32 → Option (S8)} (E : xE p sS m args c cX8_goes 3 RX8 G (x_in W0)) (hr : meth.sig.returnType = none) (hk : meth.locks = false) (hk2 : ∀ (s' : S8) (x1' : Int32) (x2' : Int32) (z : S8) {H : Heap} {locs : List Loc} {ls : Array Slot}, xW G (x_in W0) sS.heap (cells8 G ad s') H locs → lv_has ls 3 [(0, .ref (ad 0)), (1, .int x1'), (2, .int x2')] → k2  s' x1' x2' = some z → W p l e (rm_X8_goes) sS m args below meth c H locs 0 0 (MQ below (xQ G W0 (cells8 G ad z) none) args sS 0 0 (x_in W0)) (F0 m 2 ls [])) : ∀ (s' : S8) (x1' : Int32) (x2' : Int32) (z : S8) {H : Heap} {locs : List Loc} {ls : Array Slot}, xW G (x_in W0) sS.heap (cells8 G ad s') H locs → lv_has ls 3 [(0, .ref (ad 0)), (1, .int x1'), (2, .int x2')] → f_X8_goes_p2 k2 s' x1' x2' = some z → W p l e (rm_X8_goes) sS m args below meth c H locs 0 0 (MQ below (xQ G W0 (cells8 G ad z) none) args sS 0 0 (x_in W0)) (F0 m 2 ls []) := by
  intro s x1 x2 z H locs ls hw hl hf
  unfold f_X8_goes_p2 at hf
  refine lv_iload_n (pc := 2) E.1 E.2.1 dX8_goes_2 rfl (lv_at hl 2 rfl) ?_
  refine lv_aload_n (pc := 3) E.1 E.2.1 dX8_goes_3 rfl (lv_at hl 0 rfl) ?_
  obtain ⟨v1, g2, hf⟩ := x_bind hf
  refine x_callVA (pc := 4) (As := []) (rest := [.int x2]) (st1 := [.int v1, .int x2]) (ws' := (cells8 G ad s)) E hw hl (c_X8_claims l G ad s g2) xv_X8_88 xd_X8_claims rfl rfl ⟨Nat.le_of_ble_eq_true rfl, Nat.le_of_ble_eq_true rfl⟩ (q0 := 0) rfl rfl rfl rfl (Nat.le_of_ble_eq_true rfl) rfl rfl dX8_goes_4 (fun H locs hw => ?_)
  refine lv_icmp_ge (tgt := 40) (pc := 7) E.1 E.2.1 dX8_goes_7 (by decide) (fun q3 => ?_) (fun q3 => ?_)
  · have hf := x_pos q3 hf
    refine lv_iconst (v := 4) (pc := 40) E.1 E.2.1 dX8_goes_40 (by decide) ?_
    refine lv_iconst (v := 2) (pc := 41) E.1 E.2.1 dX8_goes_41 (by decide) ?_
    refine lv_iload_n (pc := 42) E.1 E.2.1 dX8_goes_42 rfl (lv_at hl 1 rfl) ?_
    refine lv_imul (pc := 43) E.1 E.2.1 dX8_goes_43 ?_
    refine lv_iadd (pc := 44) E.1 E.2.1 dX8_goes_44 ?_
    refine lv_istore_n (lv' := [(2, .int (4 + (2 * x1))), (0, .ref (ad 0)), (1, .int x1)]) (pc := 45) E.1 E.2.1 dX8_goes_45 rfl hl (by decide) rfl (fun ls hl => ?_)
    exact wl_X8_goes_p46 E hr hk  s (4 + (2 * x1)) z hw (lv_sub hl [1, 0] rfl) hf
  · have hf := x_neg q3 hf
    refine lv_aload_n (pc := 10) E.1 E.2.1 dX8_goes_10 rfl (lv_at hl 0 rfl) ?_
    refine lv_iload_n (pc := 11) E.1 E.2.1 dX8_goes_11 rfl (lv_at hl 2 rfl) ?_
    obtain ⟨v4, g5, hf⟩ := x_bind hf
    refine x_callVA (pc := 12) (As := [.int x2]) (rest := []) (st1 := [.int v4]) (ws' := (cells8 G ad s)) E hw hl (c_X8_fleetOf l G ad s x2 g5) xv_X8_98 xd_X8_fleetOf rfl rfl ⟨Nat.le_of_ble_eq_true rfl, Nat.le_of_ble_eq_true rfl⟩ (q0 := 0) rfl rfl rfl rfl (Nat.le_of_ble_eq_true rfl) rfl rfl dX8_goes_12 (fun H locs hw => ?_)
    refine lv_iload_n (pc := 15) E.1 E.2.1 dX8_goes_15 rfl (lv_at hl 1 rfl) ?_
    refine lv_icmp_le (tgt := 34) (pc := 16) E.1 E.2.1 dX8_goes_16 (by decide) (fun q6 => ?_) (fun q6 => ?_)
    · have hf := x_pos q6 hf
      refine lv_iinc (v := (x2 + 1)) (lv' := [(2, .int (x2 + 1)), (0, .ref (ad 0)), (1, .int x1)]) (pc := 34) E.1 E.2.1 dX8_goes_34 hl (k := 2) rfl rfl (by decide) rfl (fun ls hl => ?_)
      refine lv_goto (tgt := 2) (pc := 37) E.1 E.2.1 dX8_goes_37 (by decide) ?_
      exact hk2 s x1 (x2 + 1) z hw (lv_sub hl [1, 2, 0] rfl) hf
    · have hf := x_neg q6 hf
      refine lv_aload_n (pc := 19) E.1 E.2.1 dX8_goes_19 rfl (lv_at hl 0 rfl) ?_
      refine xg_X8_13 (pc := 20) (v := .ref (ad 1)) E hw 0 rfl rfl dX8_goes_20 ?_
      refine lv_bipush (v := 20) (pc := 23) E.1 E.2.1 dX8_goes_23 (by decide) ?_
      refine lv_iconst (v := 3) (pc := 25) E.1 E.2.1 dX8_goes_25 (by decide) ?_
      refine lv_iload_n (pc := 26) E.1 E.2.1 dX8_goes_26 rfl (lv_at hl 2 rfl) ?_
      refine lv_imul (pc := 27) E.1 E.2.1 dX8_goes_27 ?_
      refine lv_iadd (pc := 28) E.1 E.2.1 dX8_goes_28 ?_
      refine lv_dup2_11 (pc := 29) E.1 E.2.1 dX8_goes_29 rfl rfl ?_
      obtain ⟨v8, g7, hf⟩ := x_bind hf
      refine x_iald (pc := 30) E hw 1 rfl g7 dX8_goes_30 ?_
      refine lv_iconst (v := 1) (pc := 31) E.1 E.2.1 dX8_goes_31 (by decide) ?_
      refine lv_isub (pc := 32) E.1 E.2.1 dX8_goes_32 ?_
      obtain ⟨w10, g9, hf⟩ := x_bind hf
      refine x_iast (pc := 33) (ws' := (cells8 G ad (u8_now s w10))) E hw 1 rfl g9 rfl dX8_goes_33 (fun H locs hw => ?_)
      refine lv_iinc (v := (x2 + 1)) (lv' := [(2, .int (x2 + 1)), (0, .ref (ad 0)), (1, .int x1)]) (pc := 34) E.1 E.2.1 dX8_goes_34 hl (k := 2) rfl rfl (by decide) rfl (fun ls hl => ?_)
      refine lv_goto (tgt := 2) (pc := 37) E.1 E.2.1 dX8_goes_37 (by decide) ?_
      exact hk2 (u8_now s w10) x1 (x2 + 1) z hw (lv_sub hl [1, 2, 0] rfl) hf
set_option maxHeartbeats 4000000 in
set_option maxRecDepth 100000 in
theorem wl_X8_goes_p2 {p : Program} {l : Launch} {e : Env} {sS : State} {m : MethodId} {args : Array Value} {below : List Frame} {meth : Method} {c : Code} {G : xG} {W0 : va_W} {ad : Nat → Nat}   (E : xE p sS m args c cX8_goes 3 RX8 G (x_in W0)) (hr : meth.sig.returnType = none) (hk : meth.locks = false)  : ∀ (s' : S8) (x1' : Int32) (x2' : Int32) (z : S8) {H : Heap} {locs : List Loc} {ls : Array Slot}, xW G (x_in W0) sS.heap (cells8 G ad s') H locs → lv_has ls 3 [(0, .ref (ad 0)), (1, .int x1'), (2, .int x2')] → lp_X8_goes_p2  s' x1' x2' = some z → W p l e (rm_X8_goes) sS m args below meth c H locs 0 0 (MQ below (xQ G W0 (cells8 G ad z) none) args sS 0 0 (x_in W0)) (F0 m 2 ls []) := by
  intro s x1 x2 z H locs ls hw hl hf
  exact x_loop_W (P := fun (q : S8 × Int32 × Int32) (z : S8) => ∀ {H : Heap} {locs : List Loc} {ls : Array Slot}, xW G (x_in W0) sS.heap (cells8 G ad q.1) H locs → lv_has ls 3 [(0, .ref (ad 0)), (1, .int q.2.1), (2, .int q.2.2)] → W p l e (rm_X8_goes) sS m args below meth c H locs 0 0 (MQ below (xQ G W0 (cells8 G ad z) none) args sS 0 0 (x_in W0)) (F0 m 2 ls [])) (fun k hkk q z hf H locs ls hw hl => w_X8_goes_p2 E hr hk  (fun s x1 x2 z H locs ls hw hl hf => hkk (s, x1, x2) z hf hw hl) q.1 q.2.1 q.2.2 z hw hl hf) FU (s, x1, x2) z hf hw hl
set_option maxHeartbeats 4000000 in
set_option maxRecDepth 100000 in
theorem w_X8_goes_p0 {p : Program} {l : Launch} {e : Env} {sS : State} {m : MethodId} {args : Array Value} {below : List Frame} {meth : Method} {c : Code} {G : xG} {W0 : va_W} {ad : Nat → Nat}   (E : xE p sS m args c cX8_goes 3 RX8 G (x_in W0)) (hr : meth.sig.returnType = none) (hk : meth.locks = false)  : ∀ (s' : S8) (x1' : Int32) (z : S8) {H : Heap} {locs : List Loc} {ls : Array Slot}, xW G (x_in W0) sS.heap (cells8 G ad s') H locs → lv_has ls 3 [(0, .ref (ad 0)), (1, .int x1')] → f_X8_goes  s' x1' = some z → W p l e (rm_X8_goes) sS m args below meth c H locs 0 0 (MQ below (xQ G W0 (cells8 G ad z) none) args sS 0 0 (x_in W0)) (F0 m 0 ls []) := by
  intro s x1 z H locs ls hw hl hf
  unfold f_X8_goes at hf
  refine lv_iconst (v := 0) (pc := 0) E.1 E.2.1 dX8_goes_0 (by decide) ?_
  refine lv_istore_n (lv' := [(2, .int 0), (0, .ref (ad 0)), (1, .int x1)]) (pc := 1) E.1 E.2.1 dX8_goes_1 rfl hl (by decide) rfl (fun ls hl => ?_)
  exact wl_X8_goes_p2 E hr hk  s x1 0 z hw (lv_sub hl [1, 2, 0] rfl) hf
set_option maxHeartbeats 4000000 in
set_option maxRecDepth 100000 in
theorem c_X8_goes (l : Launch) (G : xG) (ad : Nat → Nat) (s : S8) (x1 : Int32) {z : S8} (hf : f_X8_goes s x1 = some z) : xC l yX8_goes cX8_goes 3 none (rm_X8_goes) G [.ref (ad 0), .int x1] (cells8 G ad s) none (cells8 G ad z) :=
  x_met (by decide) (Nat.le_of_ble_eq_true rfl) (fun p e sS m below meth c E hr hk ls hl hw => w_X8_goes_p0 E hr hk s x1 z hw hl hf)
set_option maxHeartbeats 4000000 in
set_option maxRecDepth 100000 in
theorem w_X8_leave_p0 {p : Program} {l : Launch} {e : Env} {sS : State} {m : MethodId} {args : Array Value} {below : List Frame} {meth : Method} {c : Code} {G : xG} {W0 : va_W} {ad : Nat → Nat}   (E : xE p sS m args c cX8_leave 2 RX8 G (x_in W0)) (hr : meth.sig.returnType = (some .boolean)) (hk : meth.locks = false)  : ∀ (s' : S8) (x1' : Int32) (z : Int32 × S8) {H : Heap} {locs : List Loc} {ls : Array Slot}, xW G (x_in W0) sS.heap (cells8 G ad s') H locs → lv_has ls 2 [(0, .ref (ad 0)), (1, .int x1')] → f_X8_leave  s' x1' = some z → W p l e (rm_X8_leave) sS m args below meth c H locs 0 0 (MQ below (xQ G W0 (cells8 G ad z.2) (some (.int z.1))) args sS 0 0 (x_in W0)) (F0 m 0 ls []) := by
  intro s x1 z H locs ls hw hl hf
  unfold f_X8_leave at hf
  refine lv_aload_n (pc := 0) E.1 E.2.1 dX8_leave_0 rfl (lv_at hl 0 rfl) ?_
  refine lv_iload_n (pc := 1) E.1 E.2.1 dX8_leave_1 rfl (lv_at hl 1 rfl) ?_
  obtain ⟨v1, g2, hf⟩ := x_bind hf
  refine x_callVA (pc := 2) (As := [.int x1]) (rest := []) (st1 := [.int v1]) (ws' := (cells8 G ad s)) E hw hl (c_X8_isFleet l G ad s x1 g2) xv_X8_115 xd_X8_isFleet rfl rfl ⟨Nat.le_of_ble_eq_true rfl, Nat.le_of_ble_eq_true rfl⟩ (q0 := 0) rfl rfl rfl rfl (Nat.le_of_ble_eq_true rfl) rfl rfl dX8_leave_2 (fun H locs hw => ?_)
  refine lv_if_ne (tgt := 10) (pc := 5) E.1 E.2.1 dX8_leave_5 (by decide) (fun q3 => ?_) (fun q3 => ?_)
  · have hf := x_neg q3 hf
    refine lv_aload_n (pc := 10) E.1 E.2.1 dX8_leave_10 rfl (lv_at hl 0 rfl) ?_
    obtain ⟨v4, g5, hf⟩ := x_bind hf
    refine x_callVA (pc := 11) (As := []) (rest := []) (st1 := []) (ws' := (cells8 G ad v4)) E hw hl (c_X8_keeps l G ad s g5) xv_X8_112 xd_X8_keeps rfl rfl ⟨Nat.le_of_ble_eq_true rfl, Nat.le_of_ble_eq_true rfl⟩ (q0 := 0) rfl rfl rfl rfl (Nat.le_of_ble_eq_true rfl) rfl rfl dX8_leave_11 (fun H locs hw => ?_)
    refine lv_aload_n (pc := 14) E.1 E.2.1 dX8_leave_14 rfl (lv_at hl 0 rfl) ?_
    refine lv_iload_n (pc := 15) E.1 E.2.1 dX8_leave_15 rfl (lv_at hl 1 rfl) ?_
    refine lv_iconst (v := (-1)) (pc := 16) E.1 E.2.1 dX8_leave_16 (by decide) ?_
    obtain ⟨v6, g7, hf⟩ := x_bind hf
    refine x_callVA (pc := 17) (As := [.int x1, .int (-1)]) (rest := []) (st1 := [.int v6.1]) (ws' := (cells8 G ad v6.2)) E hw hl (c_X8_dropsAll l G ad v4 x1 (-1) g7) xv_X8_118 xd_X8_dropsAll rfl rfl ⟨Nat.le_of_ble_eq_true rfl, Nat.le_of_ble_eq_true rfl⟩ (q0 := 0) rfl rfl rfl rfl (Nat.le_of_ble_eq_true rfl) rfl rfl dX8_leave_17 (fun H locs hw => ?_)
    refine lv_pop (pc := 20) E.1 E.2.1 dX8_leave_20 rfl ?_
    refine lv_aload_n (pc := 21) E.1 E.2.1 dX8_leave_21 rfl (lv_at hl 0 rfl) ?_
    refine lv_iload_n (pc := 22) E.1 E.2.1 dX8_leave_22 rfl (lv_at hl 1 rfl) ?_
    obtain ⟨v8, g9, hf⟩ := x_bind hf
    refine x_callVA (pc := 23) (As := [.int x1]) (rest := []) (st1 := []) (ws' := (cells8 G ad v8)) E hw hl (c_X8_goes l G ad v6.2 x1 g9) xv_X8_122 xd_X8_goes rfl rfl ⟨Nat.le_of_ble_eq_true rfl, Nat.le_of_ble_eq_true rfl⟩ (q0 := 0) rfl rfl rfl rfl (Nat.le_of_ble_eq_true rfl) rfl rfl dX8_leave_23 (fun H locs hw => ?_)
    refine lv_iconst (v := 1) (pc := 26) E.1 E.2.1 dX8_leave_26 (by decide) ?_
    obtain rfl := Option.some.inj hf
    exact x_retz (pc := 27) (v := 1) (r := 1) E hr hk hw (by decide) dX8_leave_27
  · have hf := x_pos q3 hf
    refine lv_iconst (v := 0) (pc := 8) E.1 E.2.1 dX8_leave_8 (by decide) ?_
    obtain rfl := Option.some.inj hf
    exact x_retz (pc := 9) (v := 0) (r := 0) E hr hk hw (by decide) dX8_leave_9
set_option maxHeartbeats 4000000 in
set_option maxRecDepth 100000 in
theorem c_X8_leave (l : Launch) (G : xG) (ad : Nat → Nat) (s : S8) (x1 : Int32) {z : Int32 × S8} (hf : f_X8_leave s x1 = some z) : xC l yX8_leave cX8_leave 2 (some .boolean) (rm_X8_leave) G [.ref (ad 0), .int x1] (cells8 G ad s) (some (.int z.1)) (cells8 G ad z.2) :=
  x_met (by decide) (Nat.le_of_ble_eq_true rfl) (fun p e sS m below meth c E hr hk ls hl hw => w_X8_leave_p0 E hr hk s x1 z hw hl hf)
set_option maxHeartbeats 4000000 in
set_option maxRecDepth 100000 in
theorem w_X8_becomes_p0 {p : Program} {l : Launch} {e : Env} {sS : State} {m : MethodId} {args : Array Value} {below : List Frame} {meth : Method} {c : Code} {G : xG} {W0 : va_W} {ad : Nat → Nat}   (E : xE p sS m args c cX8_becomes 4 RX8 G (x_in W0)) (hr : meth.sig.returnType = (some .int)) (hk : meth.locks = false)  : ∀ (s' : S8) (x1' : Int32) (x2' : Int32) (z : Int32 × S8) {H : Heap} {locs : List Loc} {ls : Array Slot}, xW G (x_in W0) sS.heap (cells8 G ad s') H locs → lv_has ls 4 [(0, .ref (ad 0)), (1, .int x1'), (2, .int x2')] → f_X8_becomes  s' x1' x2' = some z → W p l e (rm_X8_becomes) sS m args below meth c H locs 0 0 (MQ below (xQ G W0 (cells8 G ad z.2) (some (.int z.1))) args sS 0 0 (x_in W0)) (F0 m 0 ls []) := by
  intro s x1 x2 z H locs ls hw hl hf
  unfold f_X8_becomes at hf
  refine lv_aload_n (pc := 0) E.1 E.2.1 dX8_becomes_0 rfl (lv_at hl 0 rfl) ?_
  obtain ⟨v1, g2, hf⟩ := x_bind hf
  refine x_callVA (pc := 1) (As := []) (rest := []) (st1 := []) (ws' := (cells8 G ad v1)) E hw hl (c_X8_keeps l G ad s g2) xv_X8_112 xd_X8_keeps rfl rfl ⟨Nat.le_of_ble_eq_true rfl, Nat.le_of_ble_eq_true rfl⟩ (q0 := 0) rfl rfl rfl rfl (Nat.le_of_ble_eq_true rfl) rfl rfl dX8_becomes_1 (fun H locs hw => ?_)
  refine lv_aload_n (pc := 4) E.1 E.2.1 dX8_becomes_4 rfl (lv_at hl 0 rfl) ?_
  refine xg_X8_13 (pc := 5) (v := .ref (ad 1)) E hw 0 rfl rfl dX8_becomes_5 ?_
  refine lv_iload_n (pc := 8) E.1 E.2.1 dX8_becomes_8 rfl (lv_at hl 1 rfl) ?_
  obtain ⟨v4, g3, hf⟩ := x_bind hf
  refine x_iald (pc := 9) E hw 1 rfl g3 dX8_becomes_9 ?_
  refine lv_istore_n (lv' := [(3, .int v4), (0, .ref (ad 0)), (1, .int x1), (2, .int x2)]) (pc := 10) E.1 E.2.1 dX8_becomes_10 rfl hl (by decide) rfl (fun ls hl => ?_)
  refine lv_aload_n (pc := 11) E.1 E.2.1 dX8_becomes_11 rfl (lv_at hl 1 rfl) ?_
  refine xg_X8_13 (pc := 12) (v := .ref (ad 1)) E hw 0 rfl rfl dX8_becomes_12 ?_
  refine lv_iload_n (pc := 15) E.1 E.2.1 dX8_becomes_15 rfl (lv_at hl 2 rfl) ?_
  refine lv_iload_n (pc := 16) E.1 E.2.1 dX8_becomes_16 rfl (lv_at hl 3 rfl) ?_
  obtain ⟨w6, g5, hf⟩ := x_bind hf
  refine x_iast (pc := 17) (ws' := (cells8 G ad (u8_now v1 w6))) E hw 1 rfl g5 rfl dX8_becomes_17 (fun H locs hw => ?_)
  refine lv_iload_n (pc := 18) E.1 E.2.1 dX8_becomes_18 rfl (lv_at hl 0 rfl) ?_
  obtain rfl := Option.some.inj hf
  exact x_reti (pc := 19) E hr hk hw dX8_becomes_19
set_option maxHeartbeats 4000000 in
set_option maxRecDepth 100000 in
theorem c_X8_becomes (l : Launch) (G : xG) (ad : Nat → Nat) (s : S8) (x1 : Int32) (x2 : Int32) {z : Int32 × S8} (hf : f_X8_becomes s x1 x2 = some z) : xC l yX8_becomes cX8_becomes 4 (some .int) (rm_X8_becomes) G [.ref (ad 0), .int x1, .int x2] (cells8 G ad s) (some (.int z.1)) (cells8 G ad z.2) :=
  x_met (by decide) (Nat.le_of_ble_eq_true rfl) (fun p e sS m below meth c E hr hk ls hl hw => w_X8_becomes_p0 E hr hk s x1 x2 z hw hl hf)
set_option maxHeartbeats 4000000 in
set_option maxRecDepth 100000 in
theorem w_X8_move_p0 {p : Program} {l : Launch} {e : Env} {sS : State} {m : MethodId} {args : Array Value} {below : List Frame} {meth : Method} {c : Code} {G : xG} {W0 : va_W} {ad : Nat → Nat}   (E : xE p sS m args c cX8_move 3 RX8 G (x_in W0)) (hr : meth.sig.returnType = (some .int)) (hk : meth.locks = false)  : ∀ (s' : S8) (x1' : Int32) (x2' : Int32) (z : Int32 × S8) {H : Heap} {locs : List Loc} {ls : Array Slot}, xW G (x_in W0) sS.heap (cells8 G ad s') H locs → lv_has ls 3 [(0, .ref (ad 0)), (1, .int x1'), (2, .int x2')] → f_X8_move  s' x1' x2' = some z → W p l e (rm_X8_move) sS m args below meth c H locs 0 0 (MQ below (xQ G W0 (cells8 G ad z.2) (some (.int z.1))) args sS 0 0 (x_in W0)) (F0 m 0 ls []) := by
  intro s x1 x2 z H locs ls hw hl hf
  unfold f_X8_move at hf
  refine lv_aload_n (pc := 0) E.1 E.2.1 dX8_move_0 rfl (lv_at hl 0 rfl) ?_
  refine lv_iload_n (pc := 1) E.1 E.2.1 dX8_move_1 rfl (lv_at hl 1 rfl) ?_
  obtain ⟨v1, g2, hf⟩ := x_bind hf
  refine x_callVA (pc := 2) (As := [.int x1]) (rest := []) (st1 := [.int v1]) (ws' := (cells8 G ad s)) E hw hl (c_X8_isFleet l G ad s x1 g2) xv_X8_115 xd_X8_isFleet rfl rfl ⟨Nat.le_of_ble_eq_true rfl, Nat.le_of_ble_eq_true rfl⟩ (q0 := 0) rfl rfl rfl rfl (Nat.le_of_ble_eq_true rfl) rfl rfl dX8_move_2 (fun H locs hw => ?_)
  refine lv_if_eq (tgt := 37) (pc := 5) E.1 E.2.1 dX8_move_5 (by decide) (fun q3 => ?_) (fun q3 => ?_)
  · have hf := x_pos q3 hf
    refine lv_iconst (v := (-1)) (pc := 37) E.1 E.2.1 dX8_move_37 (by decide) ?_
    obtain rfl := Option.some.inj hf
    exact x_reti (pc := 38) E hr hk hw dX8_move_38
  · have hf := x_neg q3 hf
    refine lv_iload_n (pc := 8) E.1 E.2.1 dX8_move_8 rfl (lv_at hl 2 rfl) ?_
    obtain ⟨v4, g5, hf⟩ := x_bind hf
    refine x_callS0 (pc := 9) (As := [.int x2]) (rest := []) (st1 := [.int v4]) E hw hl (c_X8_isClass l G  x2 g5) xs_X8_108 xd_X8_isClass rfl rfl ⟨Nat.le_of_ble_eq_true rfl, Nat.le_of_ble_eq_true rfl⟩ rfl rfl (Nat.le_of_ble_eq_true rfl) rfl dX8_move_9 (fun H locs hw => ?_)
    refine lv_if_eq (tgt := 37) (pc := 12) E.1 E.2.1 dX8_move_12 (by decide) (fun q6 => ?_) (fun q6 => ?_)
    · have hf := x_pos q6 hf
      refine lv_iconst (v := (-1)) (pc := 37) E.1 E.2.1 dX8_move_37 (by decide) ?_
      obtain rfl := Option.some.inj hf
      exact x_reti (pc := 38) E hr hk hw dX8_move_38
    · have hf := x_neg q6 hf
      refine lv_aload_n (pc := 15) E.1 E.2.1 dX8_move_15 rfl (lv_at hl 0 rfl) ?_
      refine lv_iload_n (pc := 16) E.1 E.2.1 dX8_move_16 rfl (lv_at hl 1 rfl) ?_
      obtain ⟨v7, g8, hf⟩ := x_bind hf
      refine x_callVA (pc := 17) (As := [.int x1]) (rest := []) (st1 := [.int v7]) (ws' := (cells8 G ad s)) E hw hl (c_X8_classOf l G ad s x1 g8) xv_X8_125 xd_X8_classOf rfl rfl ⟨Nat.le_of_ble_eq_true rfl, Nat.le_of_ble_eq_true rfl⟩ (q0 := 0) rfl rfl rfl rfl (Nat.le_of_ble_eq_true rfl) rfl rfl dX8_move_17 (fun H locs hw => ?_)
      refine lv_iload_n (pc := 20) E.1 E.2.1 dX8_move_20 rfl (lv_at hl 2 rfl) ?_
      refine lv_icmp_eq (tgt := 37) (pc := 21) E.1 E.2.1 dX8_move_21 (by decide) (fun q9 => ?_) (fun q9 => ?_)
      · have hf := x_pos q9 hf
        refine lv_iconst (v := (-1)) (pc := 37) E.1 E.2.1 dX8_move_37 (by decide) ?_
        obtain rfl := Option.some.inj hf
        exact x_reti (pc := 38) E hr hk hw dX8_move_38
      · have hf := x_neg q9 hf
        refine lv_aload_n (pc := 24) E.1 E.2.1 dX8_move_24 rfl (lv_at hl 0 rfl) ?_
        refine lv_iconst (v := 4) (pc := 25) E.1 E.2.1 dX8_move_25 (by decide) ?_
        refine lv_iconst (v := 2) (pc := 26) E.1 E.2.1 dX8_move_26 (by decide) ?_
        refine lv_iload_n (pc := 27) E.1 E.2.1 dX8_move_27 rfl (lv_at hl 1 rfl) ?_
        refine lv_imul (pc := 28) E.1 E.2.1 dX8_move_28 ?_
        refine lv_iadd (pc := 29) E.1 E.2.1 dX8_move_29 ?_
        refine lv_iload_n (pc := 30) E.1 E.2.1 dX8_move_30 rfl (lv_at hl 2 rfl) ?_
        obtain ⟨v10, g11, hf⟩ := x_bind hf
        refine x_callVA (pc := 31) (As := [.int (4 + (2 * x1)), .int x2]) (rest := []) (st1 := [.int v10.1]) (ws' := (cells8 G ad v10.2)) E hw hl (c_X8_becomes l G ad s (4 + (2 * x1)) x2 g11) xv_X8_128 xd_X8_becomes rfl rfl ⟨Nat.le_of_ble_eq_true rfl, Nat.le_of_ble_eq_true rfl⟩ (q0 := 0) rfl rfl rfl rfl (Nat.le_of_ble_eq_true rfl) rfl rfl dX8_move_31 (fun H locs hw => ?_)
        refine lv_goto (tgt := 38) (pc := 34) E.1 E.2.1 dX8_move_34 (by decide) ?_
        obtain rfl := Option.some.inj hf
        exact x_reti (pc := 38) E hr hk hw dX8_move_38
set_option maxHeartbeats 4000000 in
set_option maxRecDepth 100000 in
theorem c_X8_move (l : Launch) (G : xG) (ad : Nat → Nat) (s : S8) (x1 : Int32) (x2 : Int32) {z : Int32 × S8} (hf : f_X8_move s x1 x2 = some z) : xC l yX8_move cX8_move 3 (some .int) (rm_X8_move) G [.ref (ad 0), .int x1, .int x2] (cells8 G ad s) (some (.int z.1)) (cells8 G ad z.2) :=
  x_met (by decide) (Nat.le_of_ble_eq_true rfl) (fun p e sS m below meth c E hr hk ls hl hw => w_X8_move_p0 E hr hk s x1 x2 z hw hl hf)
set_option maxHeartbeats 4000000 in
set_option maxRecDepth 100000 in
theorem w_X8_ones_p4 {p : Program} {l : Launch} {e : Env} {sS : State} {m : MethodId} {args : Array Value} {below : List Frame} {meth : Method} {c : Code} {G : xG} {W0 : va_W}   {k4 : Int32 → Int32 → Int32 → Option (Int32)} (E : xE p sS m args c cX8_ones 3 RX8 G (x_in W0)) (hr : meth.sig.returnType = (some .int)) (hk : meth.locks = false) (hk4 : ∀ (x0' : Int32) (x1' : Int32) (x2' : Int32) (z : Int32) {H : Heap} {locs : List Loc} {ls : Array Slot}, xW G (x_in W0) sS.heap [] H locs → lv_has ls 3 [(0, .int x0'), (1, .int x1'), (2, .int x2')] → k4  x0' x1' x2' = some z → W p l e (rm_X8_ones) sS m args below meth c H locs 0 0 (MQ below (xQ G W0 [] (some (.int z))) args sS 0 0 (x_in W0)) (F0 m 4 ls [])) : ∀ (x0' : Int32) (x1' : Int32) (x2' : Int32) (z : Int32) {H : Heap} {locs : List Loc} {ls : Array Slot}, xW G (x_in W0) sS.heap [] H locs → lv_has ls 3 [(0, .int x0'), (1, .int x1'), (2, .int x2')] → f_X8_ones_p4 k4 x0' x1' x2' = some z → W p l e (rm_X8_ones) sS m args below meth c H locs 0 0 (MQ below (xQ G W0 [] (some (.int z))) args sS 0 0 (x_in W0)) (F0 m 4 ls []) := by
  intro x0 x1 x2 z H locs ls hw hl hf
  unfold f_X8_ones_p4 at hf
  refine lv_iload_n (pc := 4) E.1 E.2.1 dX8_ones_4 rfl (lv_at hl 2 rfl) ?_
  refine lv_iconst (v := 5) (pc := 5) E.1 E.2.1 dX8_ones_5 (by decide) ?_
  refine lv_icmp_ge (tgt := 23) (pc := 6) E.1 E.2.1 dX8_ones_6 (by decide) (fun q1 => ?_) (fun q1 => ?_)
  · have hf := x_pos q1 hf
    refine lv_iload_n (pc := 23) E.1 E.2.1 dX8_ones_23 rfl (lv_at hl 1 rfl) ?_
    obtain rfl := Option.some.inj hf
    exact x_reti (pc := 24) E hr hk hw dX8_ones_24
  · have hf := x_neg q1 hf
    refine lv_iload_n (pc := 9) E.1 E.2.1 dX8_ones_9 rfl (lv_at hl 1 rfl) ?_
    refine lv_iload_n (pc := 10) E.1 E.2.1 dX8_ones_10 rfl (lv_at hl 0 rfl) ?_
    refine lv_iload_n (pc := 11) E.1 E.2.1 dX8_ones_11 rfl (lv_at hl 2 rfl) ?_
    refine lv_ishr (pc := 12) E.1 E.2.1 dX8_ones_12 ?_
    refine lv_iconst (v := 1) (pc := 13) E.1 E.2.1 dX8_ones_13 (by decide) ?_
    refine lv_iand (pc := 14) E.1 E.2.1 dX8_ones_14 ?_
    refine lv_iadd (pc := 15) E.1 E.2.1 dX8_ones_15 ?_
    refine lv_istore_n (lv' := [(1, .int (x1 + ((x0 >>> (x2 &&& 31)) &&& 1))), (0, .int x0), (2, .int x2)]) (pc := 16) E.1 E.2.1 dX8_ones_16 rfl hl (by decide) rfl (fun ls hl => ?_)
    refine lv_iinc (v := (x2 + 1)) (lv' := [(2, .int (x2 + 1)), (1, .int (x1 + ((x0 >>> (x2 &&& 31)) &&& 1))), (0, .int x0)]) (pc := 17) E.1 E.2.1 dX8_ones_17 hl (k := 2) rfl rfl (by decide) rfl (fun ls hl => ?_)
    refine lv_goto (tgt := 4) (pc := 20) E.1 E.2.1 dX8_ones_20 (by decide) ?_
    exact hk4 x0 (x1 + ((x0 >>> (x2 &&& 31)) &&& 1)) (x2 + 1) z hw (lv_sub hl [2, 1, 0] rfl) hf
set_option maxHeartbeats 4000000 in
set_option maxRecDepth 100000 in
theorem wl_X8_ones_p4 {p : Program} {l : Launch} {e : Env} {sS : State} {m : MethodId} {args : Array Value} {below : List Frame} {meth : Method} {c : Code} {G : xG} {W0 : va_W}    (E : xE p sS m args c cX8_ones 3 RX8 G (x_in W0)) (hr : meth.sig.returnType = (some .int)) (hk : meth.locks = false)  : ∀ (x0' : Int32) (x1' : Int32) (x2' : Int32) (z : Int32) {H : Heap} {locs : List Loc} {ls : Array Slot}, xW G (x_in W0) sS.heap [] H locs → lv_has ls 3 [(0, .int x0'), (1, .int x1'), (2, .int x2')] → lp_X8_ones_p4  x0' x1' x2' = some z → W p l e (rm_X8_ones) sS m args below meth c H locs 0 0 (MQ below (xQ G W0 [] (some (.int z))) args sS 0 0 (x_in W0)) (F0 m 4 ls []) := by
  intro x0 x1 x2 z H locs ls hw hl hf
  exact x_loop_W (P := fun (q : Int32 × Int32 × Int32) (z : Int32) => ∀ {H : Heap} {locs : List Loc} {ls : Array Slot}, xW G (x_in W0) sS.heap [] H locs → lv_has ls 3 [(0, .int q.1), (1, .int q.2.1), (2, .int q.2.2)] → W p l e (rm_X8_ones) sS m args below meth c H locs 0 0 (MQ below (xQ G W0 [] (some (.int z))) args sS 0 0 (x_in W0)) (F0 m 4 ls [])) (fun k hkk q z hf H locs ls hw hl => w_X8_ones_p4 E hr hk  (fun x0 x1 x2 z H locs ls hw hl hf => hkk (x0, x1, x2) z hf hw hl) q.1 q.2.1 q.2.2 z hw hl hf) FU (x0, x1, x2) z hf hw hl
set_option maxHeartbeats 4000000 in
set_option maxRecDepth 100000 in
theorem w_X8_ones_p0 {p : Program} {l : Launch} {e : Env} {sS : State} {m : MethodId} {args : Array Value} {below : List Frame} {meth : Method} {c : Code} {G : xG} {W0 : va_W}    (E : xE p sS m args c cX8_ones 3 RX8 G (x_in W0)) (hr : meth.sig.returnType = (some .int)) (hk : meth.locks = false)  : ∀ (x0' : Int32) (z : Int32) {H : Heap} {locs : List Loc} {ls : Array Slot}, xW G (x_in W0) sS.heap [] H locs → lv_has ls 3 [(0, .int x0')] → f_X8_ones  x0' = some z → W p l e (rm_X8_ones) sS m args below meth c H locs 0 0 (MQ below (xQ G W0 [] (some (.int z))) args sS 0 0 (x_in W0)) (F0 m 0 ls []) := by
  intro x0 z H locs ls hw hl hf
  unfold f_X8_ones at hf
  refine lv_iconst (v := 0) (pc := 0) E.1 E.2.1 dX8_ones_0 (by decide) ?_
  refine lv_istore_n (lv' := [(1, .int 0), (0, .int x0)]) (pc := 1) E.1 E.2.1 dX8_ones_1 rfl hl (by decide) rfl (fun ls hl => ?_)
  refine lv_iconst (v := 0) (pc := 2) E.1 E.2.1 dX8_ones_2 (by decide) ?_
  refine lv_istore_n (lv' := [(2, .int 0), (1, .int 0), (0, .int x0)]) (pc := 3) E.1 E.2.1 dX8_ones_3 rfl hl (by decide) rfl (fun ls hl => ?_)
  exact wl_X8_ones_p4 E hr hk  x0 0 0 z hw (lv_sub hl [2, 1, 0] rfl) hf
set_option maxHeartbeats 4000000 in
set_option maxRecDepth 100000 in
theorem c_X8_ones (l : Launch) (G : xG)  (x0 : Int32) {z : Int32} (hf : f_X8_ones x0 = some z) : xC l yX8_ones cX8_ones 3 (some .int) (rm_X8_ones) G [.int x0] [] (some (.int z)) [] :=
  x_met (by decide) (Nat.le_of_ble_eq_true rfl) (fun p e sS m below meth c E hr hk ls hl hw => w_X8_ones_p0 E hr hk x0 z hw hl hf)
set_option maxHeartbeats 4000000 in
set_option maxRecDepth 100000 in
theorem w_X8_insure_p0 {p : Program} {l : Launch} {e : Env} {sS : State} {m : MethodId} {args : Array Value} {below : List Frame} {meth : Method} {c : Code} {G : xG} {W0 : va_W} {ad : Nat → Nat}   (E : xE p sS m args c cX8_insure 3 RX8 G (x_in W0)) (hr : meth.sig.returnType = (some .int)) (hk : meth.locks = false)  : ∀ (s' : S8) (x1' : Int32) (x2' : Int32) (z : Int32 × S8) {H : Heap} {locs : List Loc} {ls : Array Slot}, xW G (x_in W0) sS.heap (cells8 G ad s') H locs → lv_has ls 3 [(0, .ref (ad 0)), (1, .int x1'), (2, .int x2')] → f_X8_insure  s' x1' x2' = some z → W p l e (rm_X8_insure) sS m args below meth c H locs 0 0 (MQ below (xQ G W0 (cells8 G ad z.2) (some (.int z.1))) args sS 0 0 (x_in W0)) (F0 m 0 ls []) := by
  intro s x1 x2 z H locs ls hw hl hf
  unfold f_X8_insure at hf
  refine lv_aload_n (pc := 0) E.1 E.2.1 dX8_insure_0 rfl (lv_at hl 0 rfl) ?_
  refine lv_iload_n (pc := 1) E.1 E.2.1 dX8_insure_1 rfl (lv_at hl 1 rfl) ?_
  obtain ⟨v1, g2, hf⟩ := x_bind hf
  refine x_callVA (pc := 2) (As := [.int x1]) (rest := []) (st1 := [.int v1]) (ws' := (cells8 G ad s)) E hw hl (c_X8_isFleet l G ad s x1 g2) xv_X8_115 xd_X8_isFleet rfl rfl ⟨Nat.le_of_ble_eq_true rfl, Nat.le_of_ble_eq_true rfl⟩ (q0 := 0) rfl rfl rfl rfl (Nat.le_of_ble_eq_true rfl) rfl rfl dX8_insure_2 (fun H locs hw => ?_)
  refine lv_if_eq (tgt := 24) (pc := 5) E.1 E.2.1 dX8_insure_5 (by decide) (fun q3 => ?_) (fun q3 => ?_)
  · have hf := x_pos q3 hf
    refine lv_iconst (v := (-1)) (pc := 24) E.1 E.2.1 dX8_insure_24 (by decide) ?_
    obtain rfl := Option.some.inj hf
    exact x_reti (pc := 25) E hr hk hw dX8_insure_25
  · have hf := x_neg q3 hf
    refine lv_iload_n (pc := 8) E.1 E.2.1 dX8_insure_8 rfl (lv_at hl 2 rfl) ?_
    obtain ⟨v4, g5, hf⟩ := x_bind hf
    refine x_callS0 (pc := 9) (As := [.int x2]) (rest := []) (st1 := [.int v4]) E hw hl (c_X8_isYear l G  x2 g5) xs_X8_131 xd_X8_isYear rfl rfl ⟨Nat.le_of_ble_eq_true rfl, Nat.le_of_ble_eq_true rfl⟩ rfl rfl (Nat.le_of_ble_eq_true rfl) rfl dX8_insure_9 (fun H locs hw => ?_)
    refine lv_if_eq (tgt := 24) (pc := 12) E.1 E.2.1 dX8_insure_12 (by decide) (fun q6 => ?_) (fun q6 => ?_)
    · have hf := x_pos q6 hf
      refine lv_iconst (v := (-1)) (pc := 24) E.1 E.2.1 dX8_insure_24 (by decide) ?_
      obtain rfl := Option.some.inj hf
      exact x_reti (pc := 25) E hr hk hw dX8_insure_25
    · have hf := x_neg q6 hf
      refine lv_aload_n (pc := 15) E.1 E.2.1 dX8_insure_15 rfl (lv_at hl 0 rfl) ?_
      refine lv_iload_n (pc := 16) E.1 E.2.1 dX8_insure_16 rfl (lv_at hl 1 rfl) ?_
      refine lv_iload_n (pc := 17) E.1 E.2.1 dX8_insure_17 rfl (lv_at hl 2 rfl) ?_
      obtain ⟨v7, g8, hf⟩ := x_bind hf
      refine x_callVA (pc := 18) (As := [.int x1, .int x2]) (rest := []) (st1 := [.int v7]) (ws' := (cells8 G ad s)) E hw hl (c_X8_isInsured l G ad s x1 x2 g8) xv_X8_134 xd_X8_isInsured rfl rfl ⟨Nat.le_of_ble_eq_true rfl, Nat.le_of_ble_eq_true rfl⟩ (q0 := 0) rfl rfl rfl rfl (Nat.le_of_ble_eq_true rfl) rfl rfl dX8_insure_18 (fun H locs hw => ?_)
      refine lv_if_eq (tgt := 26) (pc := 21) E.1 E.2.1 dX8_insure_21 (by decide) (fun q9 => ?_) (fun q9 => ?_)
      · have hf := x_pos q9 hf
        refine lv_aload_n (pc := 26) E.1 E.2.1 dX8_insure_26 rfl (lv_at hl 0 rfl) ?_
        obtain ⟨v10, g11, hf⟩ := x_bind hf
        refine x_callVA (pc := 27) (As := []) (rest := []) (st1 := []) (ws' := (cells8 G ad v10)) E hw hl (c_X8_keeps l G ad s g11) xv_X8_112 xd_X8_keeps rfl rfl ⟨Nat.le_of_ble_eq_true rfl, Nat.le_of_ble_eq_true rfl⟩ (q0 := 0) rfl rfl rfl rfl (Nat.le_of_ble_eq_true rfl) rfl rfl dX8_insure_27 (fun H locs hw => ?_)
        refine lv_aload_n (pc := 30) E.1 E.2.1 dX8_insure_30 rfl (lv_at hl 0 rfl) ?_
        refine xg_X8_13 (pc := 31) (v := .ref (ad 1)) E hw 0 rfl rfl dX8_insure_31 ?_
        refine lv_iconst (v := 4) (pc := 34) E.1 E.2.1 dX8_insure_34 (by decide) ?_
        refine lv_iconst (v := 2) (pc := 35) E.1 E.2.1 dX8_insure_35 (by decide) ?_
        refine lv_iload_n (pc := 36) E.1 E.2.1 dX8_insure_36 rfl (lv_at hl 1 rfl) ?_
        refine lv_imul (pc := 37) E.1 E.2.1 dX8_insure_37 ?_
        refine lv_iadd (pc := 38) E.1 E.2.1 dX8_insure_38 ?_
        refine lv_iconst (v := 1) (pc := 39) E.1 E.2.1 dX8_insure_39 (by decide) ?_
        refine lv_iadd (pc := 40) E.1 E.2.1 dX8_insure_40 ?_
        refine lv_dup2_11 (pc := 41) E.1 E.2.1 dX8_insure_41 rfl rfl ?_
        obtain ⟨v13, g12, hf⟩ := x_bind hf
        refine x_iald (pc := 42) E hw 1 rfl g12 dX8_insure_42 ?_
        refine lv_iconst (v := 1) (pc := 43) E.1 E.2.1 dX8_insure_43 (by decide) ?_
        refine lv_iload_n (pc := 44) E.1 E.2.1 dX8_insure_44 rfl (lv_at hl 2 rfl) ?_
        refine lv_ishl (pc := 45) E.1 E.2.1 dX8_insure_45 ?_
        refine lv_ior (pc := 46) E.1 E.2.1 dX8_insure_46 ?_
        obtain ⟨w15, g14, hf⟩ := x_bind hf
        refine x_iast (pc := 47) (ws' := (cells8 G ad (u8_now v10 w15))) E hw 1 rfl g14 rfl dX8_insure_47 (fun H locs hw => ?_)
        refine lv_aload_n (pc := 48) E.1 E.2.1 dX8_insure_48 rfl (lv_at hl 0 rfl) ?_
        refine lv_iload_n (pc := 49) E.1 E.2.1 dX8_insure_49 rfl (lv_at hl 1 rfl) ?_
        obtain ⟨v16, g17, hf⟩ := x_bind hf
        refine x_callVA (pc := 50) (As := [.int x1]) (rest := []) (st1 := [.int v16]) (ws' := (cells8 G ad (u8_now v10 w15))) E hw hl (c_X8_yearsOf l G ad (u8_now v10 w15) x1 g17) xv_X8_91 xd_X8_yearsOf rfl rfl ⟨Nat.le_of_ble_eq_true rfl, Nat.le_of_ble_eq_true rfl⟩ (q0 := 0) rfl rfl rfl rfl (Nat.le_of_ble_eq_true rfl) rfl rfl dX8_insure_50 (fun H locs hw => ?_)
        obtain ⟨v18, g19, hf⟩ := x_bind hf
        refine x_callS0 (pc := 53) (As := [.int v16]) (rest := []) (st1 := [.int v18]) E hw hl (c_X8_ones l G  v16 g19) xs_X8_138 xd_X8_ones rfl rfl ⟨Nat.le_of_ble_eq_true rfl, Nat.le_of_ble_eq_true rfl⟩ rfl rfl (Nat.le_of_ble_eq_true rfl) rfl dX8_insure_53 (fun H locs hw => ?_)
        obtain rfl := Option.some.inj hf
        exact x_reti (pc := 56) E hr hk hw dX8_insure_56
      · have hf := x_neg q9 hf
        refine lv_iconst (v := (-1)) (pc := 24) E.1 E.2.1 dX8_insure_24 (by decide) ?_
        obtain rfl := Option.some.inj hf
        exact x_reti (pc := 25) E hr hk hw dX8_insure_25
set_option maxHeartbeats 4000000 in
set_option maxRecDepth 100000 in
theorem c_X8_insure (l : Launch) (G : xG) (ad : Nat → Nat) (s : S8) (x1 : Int32) (x2 : Int32) {z : Int32 × S8} (hf : f_X8_insure s x1 x2 = some z) : xC l yX8_insure cX8_insure 3 (some .int) (rm_X8_insure) G [.ref (ad 0), .int x1, .int x2] (cells8 G ad s) (some (.int z.1)) (cells8 G ad z.2) :=
  x_met (by decide) (Nat.le_of_ble_eq_true rfl) (fun p e sS m below meth c E hr hk ls hl hw => w_X8_insure_p0 E hr hk s x1 x2 z hw hl hf)
set_option maxHeartbeats 4000000 in
set_option maxRecDepth 100000 in
theorem w_X8_lapse_p0 {p : Program} {l : Launch} {e : Env} {sS : State} {m : MethodId} {args : Array Value} {below : List Frame} {meth : Method} {c : Code} {G : xG} {W0 : va_W} {ad : Nat → Nat}   (E : xE p sS m args c cX8_lapse 3 RX8 G (x_in W0)) (hr : meth.sig.returnType = (some .int)) (hk : meth.locks = false)  : ∀ (s' : S8) (x1' : Int32) (x2' : Int32) (z : Int32 × S8) {H : Heap} {locs : List Loc} {ls : Array Slot}, xW G (x_in W0) sS.heap (cells8 G ad s') H locs → lv_has ls 3 [(0, .ref (ad 0)), (1, .int x1'), (2, .int x2')] → f_X8_lapse  s' x1' x2' = some z → W p l e (rm_X8_lapse) sS m args below meth c H locs 0 0 (MQ below (xQ G W0 (cells8 G ad z.2) (some (.int z.1))) args sS 0 0 (x_in W0)) (F0 m 0 ls []) := by
  intro s x1 x2 z H locs ls hw hl hf
  unfold f_X8_lapse at hf
  refine lv_aload_n (pc := 0) E.1 E.2.1 dX8_lapse_0 rfl (lv_at hl 0 rfl) ?_
  refine lv_iload_n (pc := 1) E.1 E.2.1 dX8_lapse_1 rfl (lv_at hl 1 rfl) ?_
  obtain ⟨v1, g2, hf⟩ := x_bind hf
  refine x_callVA (pc := 2) (As := [.int x1]) (rest := []) (st1 := [.int v1]) (ws' := (cells8 G ad s)) E hw hl (c_X8_isFleet l G ad s x1 g2) xv_X8_115 xd_X8_isFleet rfl rfl ⟨Nat.le_of_ble_eq_true rfl, Nat.le_of_ble_eq_true rfl⟩ (q0 := 0) rfl rfl rfl rfl (Nat.le_of_ble_eq_true rfl) rfl rfl dX8_lapse_2 (fun H locs hw => ?_)
  refine lv_if_eq (tgt := 24) (pc := 5) E.1 E.2.1 dX8_lapse_5 (by decide) (fun q3 => ?_) (fun q3 => ?_)
  · have hf := x_pos q3 hf
    refine lv_iconst (v := (-1)) (pc := 24) E.1 E.2.1 dX8_lapse_24 (by decide) ?_
    obtain rfl := Option.some.inj hf
    exact x_reti (pc := 25) E hr hk hw dX8_lapse_25
  · have hf := x_neg q3 hf
    refine lv_iload_n (pc := 8) E.1 E.2.1 dX8_lapse_8 rfl (lv_at hl 2 rfl) ?_
    obtain ⟨v4, g5, hf⟩ := x_bind hf
    refine x_callS0 (pc := 9) (As := [.int x2]) (rest := []) (st1 := [.int v4]) E hw hl (c_X8_isYear l G  x2 g5) xs_X8_131 xd_X8_isYear rfl rfl ⟨Nat.le_of_ble_eq_true rfl, Nat.le_of_ble_eq_true rfl⟩ rfl rfl (Nat.le_of_ble_eq_true rfl) rfl dX8_lapse_9 (fun H locs hw => ?_)
    refine lv_if_eq (tgt := 24) (pc := 12) E.1 E.2.1 dX8_lapse_12 (by decide) (fun q6 => ?_) (fun q6 => ?_)
    · have hf := x_pos q6 hf
      refine lv_iconst (v := (-1)) (pc := 24) E.1 E.2.1 dX8_lapse_24 (by decide) ?_
      obtain rfl := Option.some.inj hf
      exact x_reti (pc := 25) E hr hk hw dX8_lapse_25
    · have hf := x_neg q6 hf
      refine lv_aload_n (pc := 15) E.1 E.2.1 dX8_lapse_15 rfl (lv_at hl 0 rfl) ?_
      refine lv_iload_n (pc := 16) E.1 E.2.1 dX8_lapse_16 rfl (lv_at hl 1 rfl) ?_
      refine lv_iload_n (pc := 17) E.1 E.2.1 dX8_lapse_17 rfl (lv_at hl 2 rfl) ?_
      obtain ⟨v7, g8, hf⟩ := x_bind hf
      refine x_callVA (pc := 18) (As := [.int x1, .int x2]) (rest := []) (st1 := [.int v7]) (ws' := (cells8 G ad s)) E hw hl (c_X8_isInsured l G ad s x1 x2 g8) xv_X8_134 xd_X8_isInsured rfl rfl ⟨Nat.le_of_ble_eq_true rfl, Nat.le_of_ble_eq_true rfl⟩ (q0 := 0) rfl rfl rfl rfl (Nat.le_of_ble_eq_true rfl) rfl rfl dX8_lapse_18 (fun H locs hw => ?_)
      refine lv_if_ne (tgt := 26) (pc := 21) E.1 E.2.1 dX8_lapse_21 (by decide) (fun q9 => ?_) (fun q9 => ?_)
      · have hf := x_neg q9 hf
        refine lv_aload_n (pc := 26) E.1 E.2.1 dX8_lapse_26 rfl (lv_at hl 0 rfl) ?_
        obtain ⟨v10, g11, hf⟩ := x_bind hf
        refine x_callVA (pc := 27) (As := []) (rest := []) (st1 := []) (ws' := (cells8 G ad v10)) E hw hl (c_X8_keeps l G ad s g11) xv_X8_112 xd_X8_keeps rfl rfl ⟨Nat.le_of_ble_eq_true rfl, Nat.le_of_ble_eq_true rfl⟩ (q0 := 0) rfl rfl rfl rfl (Nat.le_of_ble_eq_true rfl) rfl rfl dX8_lapse_27 (fun H locs hw => ?_)
        refine lv_aload_n (pc := 30) E.1 E.2.1 dX8_lapse_30 rfl (lv_at hl 0 rfl) ?_
        refine xg_X8_13 (pc := 31) (v := .ref (ad 1)) E hw 0 rfl rfl dX8_lapse_31 ?_
        refine lv_iconst (v := 4) (pc := 34) E.1 E.2.1 dX8_lapse_34 (by decide) ?_
        refine lv_iconst (v := 2) (pc := 35) E.1 E.2.1 dX8_lapse_35 (by decide) ?_
        refine lv_iload_n (pc := 36) E.1 E.2.1 dX8_lapse_36 rfl (lv_at hl 1 rfl) ?_
        refine lv_imul (pc := 37) E.1 E.2.1 dX8_lapse_37 ?_
        refine lv_iadd (pc := 38) E.1 E.2.1 dX8_lapse_38 ?_
        refine lv_iconst (v := 1) (pc := 39) E.1 E.2.1 dX8_lapse_39 (by decide) ?_
        refine lv_iadd (pc := 40) E.1 E.2.1 dX8_lapse_40 ?_
        refine lv_dup2_11 (pc := 41) E.1 E.2.1 dX8_lapse_41 rfl rfl ?_
        obtain ⟨v13, g12, hf⟩ := x_bind hf
        refine x_iald (pc := 42) E hw 1 rfl g12 dX8_lapse_42 ?_
        refine lv_iconst (v := 1) (pc := 43) E.1 E.2.1 dX8_lapse_43 (by decide) ?_
        refine lv_iload_n (pc := 44) E.1 E.2.1 dX8_lapse_44 rfl (lv_at hl 2 rfl) ?_
        refine lv_ishl (pc := 45) E.1 E.2.1 dX8_lapse_45 ?_
        refine lv_iconst (v := (-1)) (pc := 46) E.1 E.2.1 dX8_lapse_46 (by decide) ?_
        refine lv_ixor (pc := 47) E.1 E.2.1 dX8_lapse_47 ?_
        refine lv_iand (pc := 48) E.1 E.2.1 dX8_lapse_48 ?_
        obtain ⟨w15, g14, hf⟩ := x_bind hf
        refine x_iast (pc := 49) (ws' := (cells8 G ad (u8_now v10 w15))) E hw 1 rfl g14 rfl dX8_lapse_49 (fun H locs hw => ?_)
        refine lv_aload_n (pc := 50) E.1 E.2.1 dX8_lapse_50 rfl (lv_at hl 0 rfl) ?_
        refine lv_iload_n (pc := 51) E.1 E.2.1 dX8_lapse_51 rfl (lv_at hl 1 rfl) ?_
        refine lv_iload_n (pc := 52) E.1 E.2.1 dX8_lapse_52 rfl (lv_at hl 2 rfl) ?_
        obtain ⟨v16, g17, hf⟩ := x_bind hf
        refine x_callVA (pc := 53) (As := [.int x1, .int x2]) (rest := []) (st1 := [.int v16.1]) (ws' := (cells8 G ad v16.2)) E hw hl (c_X8_dropsAll l G ad (u8_now v10 w15) x1 x2 g17) xv_X8_118 xd_X8_dropsAll rfl rfl ⟨Nat.le_of_ble_eq_true rfl, Nat.le_of_ble_eq_true rfl⟩ (q0 := 0) rfl rfl rfl rfl (Nat.le_of_ble_eq_true rfl) rfl rfl dX8_lapse_53 (fun H locs hw => ?_)
        obtain rfl := Option.some.inj hf
        exact x_reti (pc := 56) E hr hk hw dX8_lapse_56
      · have hf := x_pos q9 hf
        refine lv_iconst (v := (-1)) (pc := 24) E.1 E.2.1 dX8_lapse_24 (by decide) ?_
        obtain rfl := Option.some.inj hf
        exact x_reti (pc := 25) E hr hk hw dX8_lapse_25
set_option maxHeartbeats 4000000 in
set_option maxRecDepth 100000 in
theorem c_X8_lapse (l : Launch) (G : xG) (ad : Nat → Nat) (s : S8) (x1 : Int32) (x2 : Int32) {z : Int32 × S8} (hf : f_X8_lapse s x1 x2 = some z) : xC l yX8_lapse cX8_lapse 3 (some .int) (rm_X8_lapse) G [.ref (ad 0), .int x1, .int x2] (cells8 G ad s) (some (.int z.1)) (cells8 G ad z.2) :=
  x_met (by decide) (Nat.le_of_ble_eq_true rfl) (fun p e sS m below meth c E hr hk ls hl hw => w_X8_lapse_p0 E hr hk s x1 x2 z hw hl hf)
set_option maxHeartbeats 4000000 in
set_option maxRecDepth 100000 in
theorem w_X8_forget_p51 {p : Program} {l : Launch} {e : Env} {sS : State} {m : MethodId} {args : Array Value} {below : List Frame} {meth : Method} {c : Code} {G : xG} {W0 : va_W} {ad : Nat → Nat}  {k51 : S8 → Int32 → Int32 → Int32 → Option (Int32 × S8)} (E : xE p sS m args c cX8_forget 4 RX8 G (x_in W0)) (hr : meth.sig.returnType = (some .int)) (hk : meth.locks = false) (hk51 : ∀ (s' : S8) (x1' : Int32) (x2' : Int32) (x3' : Int32) (z : Int32 × S8) {H : Heap} {locs : List Loc} {ls : Array Slot}, xW G (x_in W0) sS.heap (cells8 G ad s') H locs → lv_has ls 4 [(0, .ref (ad 0)), (1, .int x1'), (2, .int x2'), (3, .int x3')] → k51  s' x1' x2' x3' = some z → W p l e (rm_X8_forget) sS m args below meth c H locs 0 0 (MQ below (xQ G W0 (cells8 G ad z.2) (some (.int z.1))) args sS 0 0 (x_in W0)) (F0 m 51 ls [])) : ∀ (s' : S8) (x1' : Int32) (x2' : Int32) (x3' : Int32) (z : Int32 × S8) {H : Heap} {locs : List Loc} {ls : Array Slot}, xW G (x_in W0) sS.heap (cells8 G ad s') H locs → lv_has ls 4 [(0, .ref (ad 0)), (1, .int x1'), (2, .int x2'), (3, .int x3')] → f_X8_forget_p51 k51 s' x1' x2' x3' = some z → W p l e (rm_X8_forget) sS m args below meth c H locs 0 0 (MQ below (xQ G W0 (cells8 G ad z.2) (some (.int z.1))) args sS 0 0 (x_in W0)) (F0 m 51 ls []) := by
  intro s x1 x2 x3 z H locs ls hw hl hf
  unfold f_X8_forget_p51 at hf
  refine lv_iload_n (pc := 51) E.1 E.2.1 dX8_forget_51 rfl (lv_at hl 3 rfl) ?_
  refine lv_aload_n (pc := 52) E.1 E.2.1 dX8_forget_52 rfl (lv_at hl 0 rfl) ?_
  obtain ⟨v1, g2, hf⟩ := x_bind hf
  refine x_callVA (pc := 53) (As := []) (rest := [.int x3]) (st1 := [.int v1, .int x3]) (ws' := (cells8 G ad s)) E hw hl (c_X8_many l G ad s g2) xv_X8_80 xd_X8_many rfl rfl ⟨Nat.le_of_ble_eq_true rfl, Nat.le_of_ble_eq_true rfl⟩ (q0 := 0) rfl rfl rfl rfl (Nat.le_of_ble_eq_true rfl) rfl rfl dX8_forget_53 (fun H locs hw => ?_)
  refine lv_icmp_ge (tgt := 85) (pc := 56) E.1 E.2.1 dX8_forget_56 (by decide) (fun q3 => ?_) (fun q3 => ?_)
  · have hf := x_pos q3 hf
    refine lv_aload_n (pc := 85) E.1 E.2.1 dX8_forget_85 rfl (lv_at hl 0 rfl) ?_
    refine lv_iconst (v := (-1)) (pc := 86) E.1 E.2.1 dX8_forget_86 (by decide) ?_
    refine lv_iload_n (pc := 87) E.1 E.2.1 dX8_forget_87 rfl (lv_at hl 1 rfl) ?_
    obtain ⟨v4, g5, hf⟩ := x_bind hf
    refine x_callVA (pc := 88) (As := [.int (-1), .int x1]) (rest := []) (st1 := [.int v4.1]) (ws' := (cells8 G ad v4.2)) E hw hl (c_X8_dropsAll l G ad s (-1) x1 g5) xv_X8_118 xd_X8_dropsAll rfl rfl ⟨Nat.le_of_ble_eq_true rfl, Nat.le_of_ble_eq_true rfl⟩ (q0 := 0) rfl rfl rfl rfl (Nat.le_of_ble_eq_true rfl) rfl rfl dX8_forget_88 (fun H locs hw => ?_)
    refine lv_pop (pc := 91) E.1 E.2.1 dX8_forget_91 rfl ?_
    refine lv_iload_n (pc := 92) E.1 E.2.1 dX8_forget_92 rfl (lv_at hl 2 rfl) ?_
    obtain rfl := Option.some.inj hf
    exact x_reti (pc := 93) E hr hk hw dX8_forget_93
  · have hf := x_neg q3 hf
    refine lv_aload_n (pc := 59) E.1 E.2.1 dX8_forget_59 rfl (lv_at hl 0 rfl) ?_
    refine xg_X8_13 (pc := 60) (v := .ref (ad 1)) E hw 0 rfl rfl dX8_forget_60 ?_
    refine lv_iconst (v := 4) (pc := 63) E.1 E.2.1 dX8_forget_63 (by decide) ?_
    refine lv_iconst (v := 2) (pc := 64) E.1 E.2.1 dX8_forget_64 (by decide) ?_
    refine lv_iload_n (pc := 65) E.1 E.2.1 dX8_forget_65 rfl (lv_at hl 3 rfl) ?_
    refine lv_imul (pc := 66) E.1 E.2.1 dX8_forget_66 ?_
    refine lv_iadd (pc := 67) E.1 E.2.1 dX8_forget_67 ?_
    refine lv_iconst (v := 1) (pc := 68) E.1 E.2.1 dX8_forget_68 (by decide) ?_
    refine lv_iadd (pc := 69) E.1 E.2.1 dX8_forget_69 ?_
    refine lv_dup2_11 (pc := 70) E.1 E.2.1 dX8_forget_70 rfl rfl ?_
    obtain ⟨v7, g6, hf⟩ := x_bind hf
    refine x_iald (pc := 71) E hw 1 rfl g6 dX8_forget_71 ?_
    refine lv_iconst (v := 1) (pc := 72) E.1 E.2.1 dX8_forget_72 (by decide) ?_
    refine lv_iload_n (pc := 73) E.1 E.2.1 dX8_forget_73 rfl (lv_at hl 1 rfl) ?_
    refine lv_ishl (pc := 74) E.1 E.2.1 dX8_forget_74 ?_
    refine lv_iconst (v := (-1)) (pc := 75) E.1 E.2.1 dX8_forget_75 (by decide) ?_
    refine lv_ixor (pc := 76) E.1 E.2.1 dX8_forget_76 ?_
    refine lv_iand (pc := 77) E.1 E.2.1 dX8_forget_77 ?_
    obtain ⟨w9, g8, hf⟩ := x_bind hf
    refine x_iast (pc := 78) (ws' := (cells8 G ad (u8_now s w9))) E hw 1 rfl g8 rfl dX8_forget_78 (fun H locs hw => ?_)
    refine lv_iinc (v := (x3 + 1)) (lv' := [(3, .int (x3 + 1)), (0, .ref (ad 0)), (1, .int x1), (2, .int x2)]) (pc := 79) E.1 E.2.1 dX8_forget_79 hl (k := 3) rfl rfl (by decide) rfl (fun ls hl => ?_)
    refine lv_goto (tgt := 51) (pc := 82) E.1 E.2.1 dX8_forget_82 (by decide) ?_
    exact hk51 (u8_now s w9) x1 x2 (x3 + 1) z hw (lv_sub hl [1, 2, 3, 0] rfl) hf
set_option maxHeartbeats 4000000 in
set_option maxRecDepth 100000 in
theorem wl_X8_forget_p51 {p : Program} {l : Launch} {e : Env} {sS : State} {m : MethodId} {args : Array Value} {below : List Frame} {meth : Method} {c : Code} {G : xG} {W0 : va_W} {ad : Nat → Nat}   (E : xE p sS m args c cX8_forget 4 RX8 G (x_in W0)) (hr : meth.sig.returnType = (some .int)) (hk : meth.locks = false)  : ∀ (s' : S8) (x1' : Int32) (x2' : Int32) (x3' : Int32) (z : Int32 × S8) {H : Heap} {locs : List Loc} {ls : Array Slot}, xW G (x_in W0) sS.heap (cells8 G ad s') H locs → lv_has ls 4 [(0, .ref (ad 0)), (1, .int x1'), (2, .int x2'), (3, .int x3')] → lp_X8_forget_p51  s' x1' x2' x3' = some z → W p l e (rm_X8_forget) sS m args below meth c H locs 0 0 (MQ below (xQ G W0 (cells8 G ad z.2) (some (.int z.1))) args sS 0 0 (x_in W0)) (F0 m 51 ls []) := by
  intro s x1 x2 x3 z H locs ls hw hl hf
  exact x_loop_W (P := fun (q : S8 × Int32 × Int32 × Int32) (z : Int32 × S8) => ∀ {H : Heap} {locs : List Loc} {ls : Array Slot}, xW G (x_in W0) sS.heap (cells8 G ad q.1) H locs → lv_has ls 4 [(0, .ref (ad 0)), (1, .int q.2.1), (2, .int q.2.2.1), (3, .int q.2.2.2)] → W p l e (rm_X8_forget) sS m args below meth c H locs 0 0 (MQ below (xQ G W0 (cells8 G ad z.2) (some (.int z.1))) args sS 0 0 (x_in W0)) (F0 m 51 ls [])) (fun k hkk q z hf H locs ls hw hl => w_X8_forget_p51 E hr hk  (fun s x1 x2 x3 z H locs ls hw hl hf => hkk (s, x1, x2, x3) z hf hw hl) q.1 q.2.1 q.2.2.1 q.2.2.2 z hw hl hf) FU (s, x1, x2, x3) z hf hw hl
set_option maxHeartbeats 4000000 in
set_option maxRecDepth 100000 in
theorem w_X8_forget_p13 {p : Program} {l : Launch} {e : Env} {sS : State} {m : MethodId} {args : Array Value} {below : List Frame} {meth : Method} {c : Code} {G : xG} {W0 : va_W} {ad : Nat → Nat}  {k13 : S8 → Int32 → Int32 → Int32 → Option (Int32 × S8)} (E : xE p sS m args c cX8_forget 4 RX8 G (x_in W0)) (hr : meth.sig.returnType = (some .int)) (hk : meth.locks = false) (hk13 : ∀ (s' : S8) (x1' : Int32) (x2' : Int32) (x3' : Int32) (z : Int32 × S8) {H : Heap} {locs : List Loc} {ls : Array Slot}, xW G (x_in W0) sS.heap (cells8 G ad s') H locs → lv_has ls 4 [(0, .ref (ad 0)), (1, .int x1'), (2, .int x2'), (3, .int x3')] → k13  s' x1' x2' x3' = some z → W p l e (rm_X8_forget) sS m args below meth c H locs 0 0 (MQ below (xQ G W0 (cells8 G ad z.2) (some (.int z.1))) args sS 0 0 (x_in W0)) (F0 m 13 ls [])) : ∀ (s' : S8) (x1' : Int32) (x2' : Int32) (x3' : Int32) (z : Int32 × S8) {H : Heap} {locs : List Loc} {ls : Array Slot}, xW G (x_in W0) sS.heap (cells8 G ad s') H locs → lv_has ls 4 [(0, .ref (ad 0)), (1, .int x1'), (2, .int x2'), (3, .int x3')] → f_X8_forget_p13 k13 s' x1' x2' x3' = some z → W p l e (rm_X8_forget) sS m args below meth c H locs 0 0 (MQ below (xQ G W0 (cells8 G ad z.2) (some (.int z.1))) args sS 0 0 (x_in W0)) (F0 m 13 ls []) := by
  intro s x1 x2 x3 z H locs ls hw hl hf
  unfold f_X8_forget_p13 at hf
  refine lv_iload_n (pc := 13) E.1 E.2.1 dX8_forget_13 rfl (lv_at hl 3 rfl) ?_
  refine lv_aload_n (pc := 14) E.1 E.2.1 dX8_forget_14 rfl (lv_at hl 0 rfl) ?_
  obtain ⟨v1, g2, hf⟩ := x_bind hf
  refine x_callVA (pc := 15) (As := []) (rest := [.int x3]) (st1 := [.int v1, .int x3]) (ws' := (cells8 G ad s)) E hw hl (c_X8_many l G ad s g2) xv_X8_80 xd_X8_many rfl rfl ⟨Nat.le_of_ble_eq_true rfl, Nat.le_of_ble_eq_true rfl⟩ (q0 := 0) rfl rfl rfl rfl (Nat.le_of_ble_eq_true rfl) rfl rfl dX8_forget_15 (fun H locs hw => ?_)
  refine lv_icmp_ge (tgt := 39) (pc := 18) E.1 E.2.1 dX8_forget_18 (by decide) (fun q3 => ?_) (fun q3 => ?_)
  · have hf := x_pos q3 hf
    refine lv_iload_n (pc := 39) E.1 E.2.1 dX8_forget_39 rfl (lv_at hl 2 rfl) ?_
    refine lv_if_ne (tgt := 45) (pc := 40) E.1 E.2.1 dX8_forget_40 (by decide) (fun q4 => ?_) (fun q4 => ?_)
    · have hf := x_neg q4 hf
      refine lv_aload_n (pc := 45) E.1 E.2.1 dX8_forget_45 rfl (lv_at hl 0 rfl) ?_
      obtain ⟨v5, g6, hf⟩ := x_bind hf
      refine x_callVA (pc := 46) (As := []) (rest := []) (st1 := []) (ws' := (cells8 G ad v5)) E hw hl (c_X8_keeps l G ad s g6) xv_X8_112 xd_X8_keeps rfl rfl ⟨Nat.le_of_ble_eq_true rfl, Nat.le_of_ble_eq_true rfl⟩ (q0 := 0) rfl rfl rfl rfl (Nat.le_of_ble_eq_true rfl) rfl rfl dX8_forget_46 (fun H locs hw => ?_)
      refine lv_iconst (v := 0) (pc := 49) E.1 E.2.1 dX8_forget_49 (by decide) ?_
      refine lv_istore_n (lv' := [(3, .int 0), (0, .ref (ad 0)), (1, .int x1), (2, .int x2)]) (pc := 50) E.1 E.2.1 dX8_forget_50 rfl hl (by decide) rfl (fun ls hl => ?_)
      exact wl_X8_forget_p51 E hr hk  v5 x1 x2 0 z hw (lv_sub hl [1, 2, 3, 0] rfl) hf
    · have hf := x_pos q4 hf
      refine lv_iconst (v := (-1)) (pc := 43) E.1 E.2.1 dX8_forget_43 (by decide) ?_
      obtain rfl := Option.some.inj hf
      exact x_reti (pc := 44) E hr hk hw dX8_forget_44
  · have hf := x_neg q3 hf
    refine lv_aload_n (pc := 21) E.1 E.2.1 dX8_forget_21 rfl (lv_at hl 0 rfl) ?_
    refine lv_iload_n (pc := 22) E.1 E.2.1 dX8_forget_22 rfl (lv_at hl 3 rfl) ?_
    refine lv_iload_n (pc := 23) E.1 E.2.1 dX8_forget_23 rfl (lv_at hl 1 rfl) ?_
    obtain ⟨v7, g8, hf⟩ := x_bind hf
    refine x_callVA (pc := 24) (As := [.int x3, .int x1]) (rest := []) (st1 := [.int v7]) (ws' := (cells8 G ad s)) E hw hl (c_X8_isInsured l G ad s x3 x1 g8) xv_X8_134 xd_X8_isInsured rfl rfl ⟨Nat.le_of_ble_eq_true rfl, Nat.le_of_ble_eq_true rfl⟩ (q0 := 0) rfl rfl rfl rfl (Nat.le_of_ble_eq_true rfl) rfl rfl dX8_forget_24 (fun H locs hw => ?_)
    refine lv_if_eq (tgt := 33) (pc := 27) E.1 E.2.1 dX8_forget_27 (by decide) (fun q9 => ?_) (fun q9 => ?_)
    · have hf := x_pos q9 hf
      refine lv_iinc (v := (x3 + 1)) (lv' := [(3, .int (x3 + 1)), (0, .ref (ad 0)), (1, .int x1), (2, .int x2)]) (pc := 33) E.1 E.2.1 dX8_forget_33 hl (k := 3) rfl rfl (by decide) rfl (fun ls hl => ?_)
      refine lv_goto (tgt := 13) (pc := 36) E.1 E.2.1 dX8_forget_36 (by decide) ?_
      exact hk13 s x1 x2 (x3 + 1) z hw (lv_sub hl [1, 2, 3, 0] rfl) hf
    · have hf := x_neg q9 hf
      refine lv_iinc (v := (x2 + 1)) (lv' := [(2, .int (x2 + 1)), (0, .ref (ad 0)), (1, .int x1), (3, .int x3)]) (pc := 30) E.1 E.2.1 dX8_forget_30 hl (k := 2) rfl rfl (by decide) rfl (fun ls hl => ?_)
      refine lv_iinc (v := (x3 + 1)) (lv' := [(3, .int (x3 + 1)), (2, .int (x2 + 1)), (0, .ref (ad 0)), (1, .int x1)]) (pc := 33) E.1 E.2.1 dX8_forget_33 hl (k := 3) rfl rfl (by decide) rfl (fun ls hl => ?_)
      refine lv_goto (tgt := 13) (pc := 36) E.1 E.2.1 dX8_forget_36 (by decide) ?_
      exact hk13 s x1 (x2 + 1) (x3 + 1) z hw (lv_sub hl [2, 3, 1, 0] rfl) hf
set_option maxHeartbeats 4000000 in
set_option maxRecDepth 100000 in
theorem wl_X8_forget_p13 {p : Program} {l : Launch} {e : Env} {sS : State} {m : MethodId} {args : Array Value} {below : List Frame} {meth : Method} {c : Code} {G : xG} {W0 : va_W} {ad : Nat → Nat}   (E : xE p sS m args c cX8_forget 4 RX8 G (x_in W0)) (hr : meth.sig.returnType = (some .int)) (hk : meth.locks = false)  : ∀ (s' : S8) (x1' : Int32) (x2' : Int32) (x3' : Int32) (z : Int32 × S8) {H : Heap} {locs : List Loc} {ls : Array Slot}, xW G (x_in W0) sS.heap (cells8 G ad s') H locs → lv_has ls 4 [(0, .ref (ad 0)), (1, .int x1'), (2, .int x2'), (3, .int x3')] → lp_X8_forget_p13  s' x1' x2' x3' = some z → W p l e (rm_X8_forget) sS m args below meth c H locs 0 0 (MQ below (xQ G W0 (cells8 G ad z.2) (some (.int z.1))) args sS 0 0 (x_in W0)) (F0 m 13 ls []) := by
  intro s x1 x2 x3 z H locs ls hw hl hf
  exact x_loop_W (P := fun (q : S8 × Int32 × Int32 × Int32) (z : Int32 × S8) => ∀ {H : Heap} {locs : List Loc} {ls : Array Slot}, xW G (x_in W0) sS.heap (cells8 G ad q.1) H locs → lv_has ls 4 [(0, .ref (ad 0)), (1, .int q.2.1), (2, .int q.2.2.1), (3, .int q.2.2.2)] → W p l e (rm_X8_forget) sS m args below meth c H locs 0 0 (MQ below (xQ G W0 (cells8 G ad z.2) (some (.int z.1))) args sS 0 0 (x_in W0)) (F0 m 13 ls [])) (fun k hkk q z hf H locs ls hw hl => w_X8_forget_p13 E hr hk  (fun s x1 x2 x3 z H locs ls hw hl hf => hkk (s, x1, x2, x3) z hf hw hl) q.1 q.2.1 q.2.2.1 q.2.2.2 z hw hl hf) FU (s, x1, x2, x3) z hf hw hl
set_option maxHeartbeats 4000000 in
set_option maxRecDepth 100000 in
theorem w_X8_forget_p0 {p : Program} {l : Launch} {e : Env} {sS : State} {m : MethodId} {args : Array Value} {below : List Frame} {meth : Method} {c : Code} {G : xG} {W0 : va_W} {ad : Nat → Nat}   (E : xE p sS m args c cX8_forget 4 RX8 G (x_in W0)) (hr : meth.sig.returnType = (some .int)) (hk : meth.locks = false)  : ∀ (s' : S8) (x1' : Int32) (z : Int32 × S8) {H : Heap} {locs : List Loc} {ls : Array Slot}, xW G (x_in W0) sS.heap (cells8 G ad s') H locs → lv_has ls 4 [(0, .ref (ad 0)), (1, .int x1')] → f_X8_forget  s' x1' = some z → W p l e (rm_X8_forget) sS m args below meth c H locs 0 0 (MQ below (xQ G W0 (cells8 G ad z.2) (some (.int z.1))) args sS 0 0 (x_in W0)) (F0 m 0 ls []) := by
  intro s x1 z H locs ls hw hl hf
  unfold f_X8_forget at hf
  refine lv_iload_n (pc := 0) E.1 E.2.1 dX8_forget_0 rfl (lv_at hl 1 rfl) ?_
  obtain ⟨v1, g2, hf⟩ := x_bind hf
  refine x_callS0 (pc := 1) (As := [.int x1]) (rest := []) (st1 := [.int v1]) E hw hl (c_X8_isYear l G  x1 g2) xs_X8_131 xd_X8_isYear rfl rfl ⟨Nat.le_of_ble_eq_true rfl, Nat.le_of_ble_eq_true rfl⟩ rfl rfl (Nat.le_of_ble_eq_true rfl) rfl dX8_forget_1 (fun H locs hw => ?_)
  refine lv_if_ne (tgt := 9) (pc := 4) E.1 E.2.1 dX8_forget_4 (by decide) (fun q3 => ?_) (fun q3 => ?_)
  · have hf := x_neg q3 hf
    refine lv_iconst (v := 0) (pc := 9) E.1 E.2.1 dX8_forget_9 (by decide) ?_
    refine lv_istore_n (lv' := [(2, .int 0), (0, .ref (ad 0)), (1, .int x1)]) (pc := 10) E.1 E.2.1 dX8_forget_10 rfl hl (by decide) rfl (fun ls hl => ?_)
    refine lv_iconst (v := 0) (pc := 11) E.1 E.2.1 dX8_forget_11 (by decide) ?_
    refine lv_istore_n (lv' := [(3, .int 0), (2, .int 0), (0, .ref (ad 0)), (1, .int x1)]) (pc := 12) E.1 E.2.1 dX8_forget_12 rfl hl (by decide) rfl (fun ls hl => ?_)
    exact wl_X8_forget_p13 E hr hk  s x1 0 0 z hw (lv_sub hl [2, 3, 1, 0] rfl) hf
  · have hf := x_pos q3 hf
    refine lv_iconst (v := (-1)) (pc := 7) E.1 E.2.1 dX8_forget_7 (by decide) ?_
    obtain rfl := Option.some.inj hf
    exact x_reti (pc := 8) E hr hk hw dX8_forget_8
set_option maxHeartbeats 4000000 in
set_option maxRecDepth 100000 in
theorem c_X8_forget (l : Launch) (G : xG) (ad : Nat → Nat) (s : S8) (x1 : Int32) {z : Int32 × S8} (hf : f_X8_forget s x1 = some z) : xC l yX8_forget cX8_forget 4 (some .int) (rm_X8_forget) G [.ref (ad 0), .int x1] (cells8 G ad s) (some (.int z.1)) (cells8 G ad z.2) :=
  x_met (by decide) (Nat.le_of_ble_eq_true rfl) (fun p e sS m below meth c E hr hk ls hl hw => w_X8_forget_p0 E hr hk s x1 z hw hl hf)
set_option maxHeartbeats 4000000 in
set_option maxRecDepth 100000 in
theorem w_X8_claimsOf_p5 {p : Program} {l : Launch} {e : Env} {sS : State} {m : MethodId} {args : Array Value} {below : List Frame} {meth : Method} {c : Code} {G : xG} {W0 : va_W} {ad : Nat → Nat}  {k5 : S8 → Int32 → Int32 → Int32 → Int32 → Option (Int32)} (E : xE p sS m args c cX8_claimsOf 5 RX8 G (x_in W0)) (hr : meth.sig.returnType = (some .int)) (hk : meth.locks = false) (hk5 : ∀ (s' : S8) (x1' : Int32) (x2' : Int32) (x3' : Int32) (x4' : Int32) (z : Int32) {H : Heap} {locs : List Loc} {ls : Array Slot}, xW G (x_in W0) sS.heap (cells8 G ad s') H locs → lv_has ls 5 [(0, .ref (ad 0)), (1, .int x1'), (2, .int x2'), (3, .int x3'), (4, .int x4')] → k5  s' x1' x2' x3' x4' = some z → W p l e (rm_X8_claimsOf) sS m args below meth c H locs 0 0 (MQ below (xQ G W0 (cells8 G ad s') (some (.int z))) args sS 0 0 (x_in W0)) (F0 m 5 ls [])) : ∀ (s' : S8) (x1' : Int32) (x2' : Int32) (x3' : Int32) (x4' : Int32) (z : Int32) {H : Heap} {locs : List Loc} {ls : Array Slot}, xW G (x_in W0) sS.heap (cells8 G ad s') H locs → lv_has ls 5 [(0, .ref (ad 0)), (1, .int x1'), (2, .int x2'), (3, .int x3'), (4, .int x4')] → f_X8_claimsOf_p5 k5 s' x1' x2' x3' x4' = some z → W p l e (rm_X8_claimsOf) sS m args below meth c H locs 0 0 (MQ below (xQ G W0 (cells8 G ad s') (some (.int z))) args sS 0 0 (x_in W0)) (F0 m 5 ls []) := by
  intro s x1 x2 x3 x4 z H locs ls hw hl hf
  unfold f_X8_claimsOf_p5 at hf
  refine lv_iload (pc := 5) E.1 E.2.1 dX8_claimsOf_5 (lv_at hl 4 rfl) ?_
  refine lv_aload_n (pc := 7) E.1 E.2.1 dX8_claimsOf_7 rfl (lv_at hl 0 rfl) ?_
  obtain ⟨v1, g2, hf⟩ := x_bind hf
  refine x_callVA (pc := 8) (As := []) (rest := [.int x4]) (st1 := [.int v1, .int x4]) (ws' := (cells8 G ad s)) E hw hl (c_X8_claims l G ad s g2) xv_X8_88 xd_X8_claims rfl rfl ⟨Nat.le_of_ble_eq_true rfl, Nat.le_of_ble_eq_true rfl⟩ (q0 := 0) rfl rfl rfl rfl (Nat.le_of_ble_eq_true rfl) rfl rfl dX8_claimsOf_8 (fun H locs hw => ?_)
  refine lv_icmp_ge (tgt := 48) (pc := 11) E.1 E.2.1 dX8_claimsOf_11 (by decide) (fun q3 => ?_) (fun q3 => ?_)
  · have hf := x_pos q3 hf
    refine lv_iload_n (pc := 48) E.1 E.2.1 dX8_claimsOf_48 rfl (lv_at hl 3 rfl) ?_
    obtain rfl := Option.some.inj hf
    exact x_reti (pc := 49) E hr hk hw dX8_claimsOf_49
  · have hf := x_neg q3 hf
    refine lv_aload_n (pc := 14) E.1 E.2.1 dX8_claimsOf_14 rfl (lv_at hl 0 rfl) ?_
    refine lv_iload (pc := 15) E.1 E.2.1 dX8_claimsOf_15 (lv_at hl 4 rfl) ?_
    obtain ⟨v4, g5, hf⟩ := x_bind hf
    refine x_callVA (pc := 17) (As := [.int x4]) (rest := []) (st1 := [.int v4]) (ws' := (cells8 G ad s)) E hw hl (c_X8_fleetOf l G ad s x4 g5) xv_X8_98 xd_X8_fleetOf rfl rfl ⟨Nat.le_of_ble_eq_true rfl, Nat.le_of_ble_eq_true rfl⟩ (q0 := 0) rfl rfl rfl rfl (Nat.le_of_ble_eq_true rfl) rfl rfl dX8_claimsOf_17 (fun H locs hw => ?_)
    refine lv_iload_n (pc := 20) E.1 E.2.1 dX8_claimsOf_20 rfl (lv_at hl 1 rfl) ?_
    refine lv_icmp_ne (tgt := 42) (pc := 21) E.1 E.2.1 dX8_claimsOf_21 (by decide) (fun q6 => ?_) (fun q6 => ?_)
    · have hf := x_neg q6 hf
      refine lv_iinc (v := (x4 + 1)) (lv' := [(4, .int (x4 + 1)), (0, .ref (ad 0)), (1, .int x1), (2, .int x2), (3, .int x3)]) (pc := 42) E.1 E.2.1 dX8_claimsOf_42 hl (k := 4) rfl rfl (by decide) rfl (fun ls hl => ?_)
      refine lv_goto (tgt := 5) (pc := 45) E.1 E.2.1 dX8_claimsOf_45 (by decide) ?_
      exact hk5 s x1 x2 x3 (x4 + 1) z hw (lv_sub hl [1, 2, 3, 4, 0] rfl) hf
    · have hf := x_pos q6 hf
      refine lv_iload_n (pc := 24) E.1 E.2.1 dX8_claimsOf_24 rfl (lv_at hl 2 rfl) ?_
      refine lv_iconst (v := (-1)) (pc := 25) E.1 E.2.1 dX8_claimsOf_25 (by decide) ?_
      refine lv_icmp_eq (tgt := 39) (pc := 26) E.1 E.2.1 dX8_claimsOf_26 (by decide) (fun q7 => ?_) (fun q7 => ?_)
      · have hf := x_pos q7 hf
        refine lv_iinc (v := (x3 + 1)) (lv' := [(3, .int (x3 + 1)), (0, .ref (ad 0)), (1, .int x1), (2, .int x2), (4, .int x4)]) (pc := 39) E.1 E.2.1 dX8_claimsOf_39 hl (k := 3) rfl rfl (by decide) rfl (fun ls hl => ?_)
        refine lv_iinc (v := (x4 + 1)) (lv' := [(4, .int (x4 + 1)), (3, .int (x3 + 1)), (0, .ref (ad 0)), (1, .int x1), (2, .int x2)]) (pc := 42) E.1 E.2.1 dX8_claimsOf_42 hl (k := 4) rfl rfl (by decide) rfl (fun ls hl => ?_)
        refine lv_goto (tgt := 5) (pc := 45) E.1 E.2.1 dX8_claimsOf_45 (by decide) ?_
        exact hk5 s x1 x2 (x3 + 1) (x4 + 1) z hw (lv_sub hl [2, 3, 4, 1, 0] rfl) hf
      · have hf := x_neg q7 hf
        refine lv_aload_n (pc := 29) E.1 E.2.1 dX8_claimsOf_29 rfl (lv_at hl 0 rfl) ?_
        refine lv_iload (pc := 30) E.1 E.2.1 dX8_claimsOf_30 (lv_at hl 4 rfl) ?_
        obtain ⟨v8, g9, hf⟩ := x_bind hf
        refine x_callVA (pc := 32) (As := [.int x4]) (rest := []) (st1 := [.int v8]) (ws' := (cells8 G ad s)) E hw hl (c_X8_yearOf l G ad s x4 g9) xv_X8_101 xd_X8_yearOf rfl rfl ⟨Nat.le_of_ble_eq_true rfl, Nat.le_of_ble_eq_true rfl⟩ (q0 := 0) rfl rfl rfl rfl (Nat.le_of_ble_eq_true rfl) rfl rfl dX8_claimsOf_32 (fun H locs hw => ?_)
        refine lv_iload_n (pc := 35) E.1 E.2.1 dX8_claimsOf_35 rfl (lv_at hl 2 rfl) ?_
        refine lv_icmp_ne (tgt := 42) (pc := 36) E.1 E.2.1 dX8_claimsOf_36 (by decide) (fun q10 => ?_) (fun q10 => ?_)
        · have hf := x_neg q10 hf
          refine lv_iinc (v := (x4 + 1)) (lv' := [(4, .int (x4 + 1)), (0, .ref (ad 0)), (1, .int x1), (2, .int x2), (3, .int x3)]) (pc := 42) E.1 E.2.1 dX8_claimsOf_42 hl (k := 4) rfl rfl (by decide) rfl (fun ls hl => ?_)
          refine lv_goto (tgt := 5) (pc := 45) E.1 E.2.1 dX8_claimsOf_45 (by decide) ?_
          exact hk5 s x1 x2 x3 (x4 + 1) z hw (lv_sub hl [1, 2, 3, 4, 0] rfl) hf
        · have hf := x_pos q10 hf
          refine lv_iinc (v := (x3 + 1)) (lv' := [(3, .int (x3 + 1)), (0, .ref (ad 0)), (1, .int x1), (2, .int x2), (4, .int x4)]) (pc := 39) E.1 E.2.1 dX8_claimsOf_39 hl (k := 3) rfl rfl (by decide) rfl (fun ls hl => ?_)
          refine lv_iinc (v := (x4 + 1)) (lv' := [(4, .int (x4 + 1)), (3, .int (x3 + 1)), (0, .ref (ad 0)), (1, .int x1), (2, .int x2)]) (pc := 42) E.1 E.2.1 dX8_claimsOf_42 hl (k := 4) rfl rfl (by decide) rfl (fun ls hl => ?_)
          refine lv_goto (tgt := 5) (pc := 45) E.1 E.2.1 dX8_claimsOf_45 (by decide) ?_
          exact hk5 s x1 x2 (x3 + 1) (x4 + 1) z hw (lv_sub hl [2, 3, 4, 1, 0] rfl) hf
set_option maxHeartbeats 4000000 in
set_option maxRecDepth 100000 in
theorem wl_X8_claimsOf_p5 {p : Program} {l : Launch} {e : Env} {sS : State} {m : MethodId} {args : Array Value} {below : List Frame} {meth : Method} {c : Code} {G : xG} {W0 : va_W} {ad : Nat → Nat}   (E : xE p sS m args c cX8_claimsOf 5 RX8 G (x_in W0)) (hr : meth.sig.returnType = (some .int)) (hk : meth.locks = false)  : ∀ (s' : S8) (x1' : Int32) (x2' : Int32) (x3' : Int32) (x4' : Int32) (z : Int32) {H : Heap} {locs : List Loc} {ls : Array Slot}, xW G (x_in W0) sS.heap (cells8 G ad s') H locs → lv_has ls 5 [(0, .ref (ad 0)), (1, .int x1'), (2, .int x2'), (3, .int x3'), (4, .int x4')] → lp_X8_claimsOf_p5  s' x1' x2' x3' x4' = some z → W p l e (rm_X8_claimsOf) sS m args below meth c H locs 0 0 (MQ below (xQ G W0 (cells8 G ad s') (some (.int z))) args sS 0 0 (x_in W0)) (F0 m 5 ls []) := by
  intro s x1 x2 x3 x4 z H locs ls hw hl hf
  exact x_loop_W (P := fun (q : S8 × Int32 × Int32 × Int32 × Int32) (z : Int32) => ∀ {H : Heap} {locs : List Loc} {ls : Array Slot}, xW G (x_in W0) sS.heap (cells8 G ad q.1) H locs → lv_has ls 5 [(0, .ref (ad 0)), (1, .int q.2.1), (2, .int q.2.2.1), (3, .int q.2.2.2.1), (4, .int q.2.2.2.2)] → W p l e (rm_X8_claimsOf) sS m args below meth c H locs 0 0 (MQ below (xQ G W0 (cells8 G ad q.1) (some (.int z))) args sS 0 0 (x_in W0)) (F0 m 5 ls [])) (fun k hkk q z hf H locs ls hw hl => w_X8_claimsOf_p5 E hr hk  (fun s x1 x2 x3 x4 z H locs ls hw hl hf => hkk (s, x1, x2, x3, x4) z hf hw hl) q.1 q.2.1 q.2.2.1 q.2.2.2.1 q.2.2.2.2 z hw hl hf) FU (s, x1, x2, x3, x4) z hf hw hl
set_option maxHeartbeats 4000000 in
set_option maxRecDepth 100000 in
theorem w_X8_claimsOf_p0 {p : Program} {l : Launch} {e : Env} {sS : State} {m : MethodId} {args : Array Value} {below : List Frame} {meth : Method} {c : Code} {G : xG} {W0 : va_W} {ad : Nat → Nat}   (E : xE p sS m args c cX8_claimsOf 5 RX8 G (x_in W0)) (hr : meth.sig.returnType = (some .int)) (hk : meth.locks = false)  : ∀ (s' : S8) (x1' : Int32) (x2' : Int32) (z : Int32) {H : Heap} {locs : List Loc} {ls : Array Slot}, xW G (x_in W0) sS.heap (cells8 G ad s') H locs → lv_has ls 5 [(0, .ref (ad 0)), (1, .int x1'), (2, .int x2')] → f_X8_claimsOf  s' x1' x2' = some z → W p l e (rm_X8_claimsOf) sS m args below meth c H locs 0 0 (MQ below (xQ G W0 (cells8 G ad s') (some (.int z))) args sS 0 0 (x_in W0)) (F0 m 0 ls []) := by
  intro s x1 x2 z H locs ls hw hl hf
  unfold f_X8_claimsOf at hf
  refine lv_iconst (v := 0) (pc := 0) E.1 E.2.1 dX8_claimsOf_0 (by decide) ?_
  refine lv_istore_n (lv' := [(3, .int 0), (0, .ref (ad 0)), (1, .int x1), (2, .int x2)]) (pc := 1) E.1 E.2.1 dX8_claimsOf_1 rfl hl (by decide) rfl (fun ls hl => ?_)
  refine lv_iconst (v := 0) (pc := 2) E.1 E.2.1 dX8_claimsOf_2 (by decide) ?_
  refine lv_istore (lv' := [(4, .int 0), (3, .int 0), (0, .ref (ad 0)), (1, .int x1), (2, .int x2)]) (pc := 3) E.1 E.2.1 dX8_claimsOf_3 hl (by decide) rfl (fun ls hl => ?_)
  exact wl_X8_claimsOf_p5 E hr hk  s x1 x2 0 0 z hw (lv_sub hl [2, 3, 4, 1, 0] rfl) hf
set_option maxHeartbeats 4000000 in
set_option maxRecDepth 100000 in
theorem c_X8_claimsOf (l : Launch) (G : xG) (ad : Nat → Nat) (s : S8) (x1 : Int32) (x2 : Int32) {z : Int32} (hf : f_X8_claimsOf s x1 x2 = some z) : xC l yX8_claimsOf cX8_claimsOf 5 (some .int) (rm_X8_claimsOf) G [.ref (ad 0), .int x1, .int x2] (cells8 G ad s) (some (.int z)) (cells8 G ad s) :=
  x_met (by decide) (Nat.le_of_ble_eq_true rfl) (fun p e sS m below meth c E hr hk ls hl hw => w_X8_claimsOf_p0 E hr hk s x1 x2 z hw hl hf)
set_option maxHeartbeats 4000000 in
set_option maxRecDepth 100000 in
theorem w_X8_claim_p0 {p : Program} {l : Launch} {e : Env} {sS : State} {m : MethodId} {args : Array Value} {below : List Frame} {meth : Method} {c : Code} {G : xG} {W0 : va_W} {ad : Nat → Nat}   (E : xE p sS m args c cX8_claim 5 RX8 G (x_in W0)) (hr : meth.sig.returnType = (some .int)) (hk : meth.locks = false)  : ∀ (s' : S8) (x1' : Int32) (x2' : Int32) (x3' : Int32) (z : Int32 × S8) {H : Heap} {locs : List Loc} {ls : Array Slot}, xW G (x_in W0) sS.heap (cells8 G ad s') H locs → lv_has ls 5 [(0, .ref (ad 0)), (1, .int x1'), (2, .int x2'), (3, .int x3')] → f_X8_claim  s' x1' x2' x3' = some z → W p l e (rm_X8_claim) sS m args below meth c H locs 0 0 (MQ below (xQ G W0 (cells8 G ad z.2) (some (.int z.1))) args sS 0 0 (x_in W0)) (F0 m 0 ls []) := by
  intro s x1 x2 x3 z H locs ls hw hl hf
  unfold f_X8_claim at hf
  refine lv_aload_n (pc := 0) E.1 E.2.1 dX8_claim_0 rfl (lv_at hl 0 rfl) ?_
  refine lv_iload_n (pc := 1) E.1 E.2.1 dX8_claim_1 rfl (lv_at hl 1 rfl) ?_
  obtain ⟨v1, g2, hf⟩ := x_bind hf
  refine x_callVA (pc := 2) (As := [.int x1]) (rest := []) (st1 := [.int v1]) (ws' := (cells8 G ad s)) E hw hl (c_X8_isFleet l G ad s x1 g2) xv_X8_115 xd_X8_isFleet rfl rfl ⟨Nat.le_of_ble_eq_true rfl, Nat.le_of_ble_eq_true rfl⟩ (q0 := 0) rfl rfl rfl rfl (Nat.le_of_ble_eq_true rfl) rfl rfl dX8_claim_2 (fun H locs hw => ?_)
  refine lv_if_eq (tgt := 50) (pc := 5) E.1 E.2.1 dX8_claim_5 (by decide) (fun q3 => ?_) (fun q3 => ?_)
  · have hf := x_pos q3 hf
    refine lv_iconst (v := (-1)) (pc := 50) E.1 E.2.1 dX8_claim_50 (by decide) ?_
    obtain rfl := Option.some.inj hf
    exact x_reti (pc := 51) E hr hk hw dX8_claim_51
  · have hf := x_neg q3 hf
    refine lv_iload_n (pc := 8) E.1 E.2.1 dX8_claim_8 rfl (lv_at hl 2 rfl) ?_
    obtain ⟨v4, g5, hf⟩ := x_bind hf
    refine x_callS0 (pc := 9) (As := [.int x2]) (rest := []) (st1 := [.int v4]) E hw hl (c_X8_isYear l G  x2 g5) xs_X8_131 xd_X8_isYear rfl rfl ⟨Nat.le_of_ble_eq_true rfl, Nat.le_of_ble_eq_true rfl⟩ rfl rfl (Nat.le_of_ble_eq_true rfl) rfl dX8_claim_9 (fun H locs hw => ?_)
    refine lv_if_eq (tgt := 50) (pc := 12) E.1 E.2.1 dX8_claim_12 (by decide) (fun q6 => ?_) (fun q6 => ?_)
    · have hf := x_pos q6 hf
      refine lv_iconst (v := (-1)) (pc := 50) E.1 E.2.1 dX8_claim_50 (by decide) ?_
      obtain rfl := Option.some.inj hf
      exact x_reti (pc := 51) E hr hk hw dX8_claim_51
    · have hf := x_neg q6 hf
      refine lv_aload_n (pc := 15) E.1 E.2.1 dX8_claim_15 rfl (lv_at hl 0 rfl) ?_
      refine lv_iload_n (pc := 16) E.1 E.2.1 dX8_claim_16 rfl (lv_at hl 1 rfl) ?_
      refine lv_iload_n (pc := 17) E.1 E.2.1 dX8_claim_17 rfl (lv_at hl 2 rfl) ?_
      obtain ⟨v7, g8, hf⟩ := x_bind hf
      refine x_callVA (pc := 18) (As := [.int x1, .int x2]) (rest := []) (st1 := [.int v7]) (ws' := (cells8 G ad s)) E hw hl (c_X8_isInsured l G ad s x1 x2 g8) xv_X8_134 xd_X8_isInsured rfl rfl ⟨Nat.le_of_ble_eq_true rfl, Nat.le_of_ble_eq_true rfl⟩ (q0 := 0) rfl rfl rfl rfl (Nat.le_of_ble_eq_true rfl) rfl rfl dX8_claim_18 (fun H locs hw => ?_)
      refine lv_if_eq (tgt := 50) (pc := 21) E.1 E.2.1 dX8_claim_21 (by decide) (fun q9 => ?_) (fun q9 => ?_)
      · have hf := x_pos q9 hf
        refine lv_iconst (v := (-1)) (pc := 50) E.1 E.2.1 dX8_claim_50 (by decide) ?_
        obtain rfl := Option.some.inj hf
        exact x_reti (pc := 51) E hr hk hw dX8_claim_51
      · have hf := x_neg q9 hf
        refine lv_iload_n (pc := 24) E.1 E.2.1 dX8_claim_24 rfl (lv_at hl 3 rfl) ?_
        obtain ⟨v10, g11, hf⟩ := x_bind hf
        refine x_callS0 (pc := 25) (As := [.int x3]) (rest := []) (st1 := [.int v10]) E hw hl (c_X8_isAmount l G  x3 g11) xs_X8_141 xd_X8_isAmount rfl rfl ⟨Nat.le_of_ble_eq_true rfl, Nat.le_of_ble_eq_true rfl⟩ rfl rfl (Nat.le_of_ble_eq_true rfl) rfl dX8_claim_25 (fun H locs hw => ?_)
        refine lv_if_eq (tgt := 50) (pc := 28) E.1 E.2.1 dX8_claim_28 (by decide) (fun q12 => ?_) (fun q12 => ?_)
        · have hf := x_pos q12 hf
          refine lv_iconst (v := (-1)) (pc := 50) E.1 E.2.1 dX8_claim_50 (by decide) ?_
          obtain rfl := Option.some.inj hf
          exact x_reti (pc := 51) E hr hk hw dX8_claim_51
        · have hf := x_neg q12 hf
          refine lv_aload_n (pc := 31) E.1 E.2.1 dX8_claim_31 rfl (lv_at hl 0 rfl) ?_
          obtain ⟨v13, g14, hf⟩ := x_bind hf
          refine x_callVA (pc := 32) (As := []) (rest := []) (st1 := [.int v13]) (ws' := (cells8 G ad s)) E hw hl (c_X8_claims l G ad s g14) xv_X8_88 xd_X8_claims rfl rfl ⟨Nat.le_of_ble_eq_true rfl, Nat.le_of_ble_eq_true rfl⟩ (q0 := 0) rfl rfl rfl rfl (Nat.le_of_ble_eq_true rfl) rfl rfl dX8_claim_32 (fun H locs hw => ?_)
          refine lv_bipush (v := 40) (pc := 35) E.1 E.2.1 dX8_claim_35 (by decide) ?_
          refine lv_icmp_eq (tgt := 50) (pc := 37) E.1 E.2.1 dX8_claim_37 (by decide) (fun q15 => ?_) (fun q15 => ?_)
          · have hf := x_pos q15 hf
            refine lv_iconst (v := (-1)) (pc := 50) E.1 E.2.1 dX8_claim_50 (by decide) ?_
            obtain rfl := Option.some.inj hf
            exact x_reti (pc := 51) E hr hk hw dX8_claim_51
          · have hf := x_neg q15 hf
            refine lv_aload_n (pc := 40) E.1 E.2.1 dX8_claim_40 rfl (lv_at hl 0 rfl) ?_
            refine lv_iload_n (pc := 41) E.1 E.2.1 dX8_claim_41 rfl (lv_at hl 1 rfl) ?_
            refine lv_iload_n (pc := 42) E.1 E.2.1 dX8_claim_42 rfl (lv_at hl 2 rfl) ?_
            obtain ⟨v16, g17, hf⟩ := x_bind hf
            refine x_callVA (pc := 43) (As := [.int x1, .int x2]) (rest := []) (st1 := [.int v16]) (ws' := (cells8 G ad s)) E hw hl (c_X8_claimsOf l G ad s x1 x2 g17) xv_X8_144 xd_X8_claimsOf rfl rfl ⟨Nat.le_of_ble_eq_true rfl, Nat.le_of_ble_eq_true rfl⟩ (q0 := 0) rfl rfl rfl rfl (Nat.le_of_ble_eq_true rfl) rfl rfl dX8_claim_43 (fun H locs hw => ?_)
            refine lv_iconst (v := 4) (pc := 46) E.1 E.2.1 dX8_claim_46 (by decide) ?_
            refine lv_icmp_ne (tgt := 52) (pc := 47) E.1 E.2.1 dX8_claim_47 (by decide) (fun q18 => ?_) (fun q18 => ?_)
            · have hf := x_neg q18 hf
              refine lv_aload_n (pc := 52) E.1 E.2.1 dX8_claim_52 rfl (lv_at hl 0 rfl) ?_
              obtain ⟨v19, g20, hf⟩ := x_bind hf
              refine x_callVA (pc := 53) (As := []) (rest := []) (st1 := []) (ws' := (cells8 G ad v19)) E hw hl (c_X8_keeps l G ad s g20) xv_X8_112 xd_X8_keeps rfl rfl ⟨Nat.le_of_ble_eq_true rfl, Nat.le_of_ble_eq_true rfl⟩ (q0 := 0) rfl rfl rfl rfl (Nat.le_of_ble_eq_true rfl) rfl rfl dX8_claim_53 (fun H locs hw => ?_)
              refine lv_bipush (v := 20) (pc := 56) E.1 E.2.1 dX8_claim_56 (by decide) ?_
              refine lv_iconst (v := 3) (pc := 58) E.1 E.2.1 dX8_claim_58 (by decide) ?_
              refine lv_aload_n (pc := 59) E.1 E.2.1 dX8_claim_59 rfl (lv_at hl 0 rfl) ?_
              obtain ⟨v21, g22, hf⟩ := x_bind hf
              refine x_callVA (pc := 60) (As := []) (rest := [.int 3, .int 20]) (st1 := [.int v21, .int 3, .int 20]) (ws' := (cells8 G ad v19)) E hw hl (c_X8_claims l G ad v19 g22) xv_X8_88 xd_X8_claims rfl rfl ⟨Nat.le_of_ble_eq_true rfl, Nat.le_of_ble_eq_true rfl⟩ (q0 := 0) rfl rfl rfl rfl (Nat.le_of_ble_eq_true rfl) rfl rfl dX8_claim_60 (fun H locs hw => ?_)
              refine lv_imul (pc := 63) E.1 E.2.1 dX8_claim_63 ?_
              refine lv_iadd (pc := 64) E.1 E.2.1 dX8_claim_64 ?_
              refine lv_istore (lv' := [(4, .int (20 + (3 * v21))), (0, .ref (ad 0)), (1, .int x1), (2, .int x2), (3, .int x3)]) (pc := 65) E.1 E.2.1 dX8_claim_65 hl (by decide) rfl (fun ls hl => ?_)
              refine lv_aload_n (pc := 67) E.1 E.2.1 dX8_claim_67 rfl (lv_at hl 1 rfl) ?_
              refine xg_X8_13 (pc := 68) (v := .ref (ad 1)) E hw 0 rfl rfl dX8_claim_68 ?_
              refine lv_iload (pc := 71) E.1 E.2.1 dX8_claim_71 (lv_at hl 0 rfl) ?_
              refine lv_iload_n (pc := 73) E.1 E.2.1 dX8_claim_73 rfl (lv_at hl 2 rfl) ?_
              obtain ⟨w24, g23, hf⟩ := x_bind hf
              refine x_iast (pc := 74) (ws' := (cells8 G ad (u8_now v19 w24))) E hw 1 rfl g23 rfl dX8_claim_74 (fun H locs hw => ?_)
              refine lv_aload_n (pc := 75) E.1 E.2.1 dX8_claim_75 rfl (lv_at hl 1 rfl) ?_
              refine xg_X8_13 (pc := 76) (v := .ref (ad 1)) E hw 0 rfl rfl dX8_claim_76 ?_
              refine lv_iload (pc := 79) E.1 E.2.1 dX8_claim_79 (lv_at hl 0 rfl) ?_
              refine lv_iconst (v := 1) (pc := 81) E.1 E.2.1 dX8_claim_81 (by decide) ?_
              refine lv_iadd (pc := 82) E.1 E.2.1 dX8_claim_82 ?_
              refine lv_iload_n (pc := 83) E.1 E.2.1 dX8_claim_83 rfl (lv_at hl 3 rfl) ?_
              obtain ⟨w26, g25, hf⟩ := x_bind hf
              refine x_iast (pc := 84) (ws' := (cells8 G ad (u8_now (u8_now v19 w24) w26))) E hw 1 rfl g25 rfl dX8_claim_84 (fun H locs hw => ?_)
              refine lv_aload_n (pc := 85) E.1 E.2.1 dX8_claim_85 rfl (lv_at hl 1 rfl) ?_
              refine xg_X8_13 (pc := 86) (v := .ref (ad 1)) E hw 0 rfl rfl dX8_claim_86 ?_
              refine lv_iload (pc := 89) E.1 E.2.1 dX8_claim_89 (lv_at hl 0 rfl) ?_
              refine lv_iconst (v := 2) (pc := 91) E.1 E.2.1 dX8_claim_91 (by decide) ?_
              refine lv_iadd (pc := 92) E.1 E.2.1 dX8_claim_92 ?_
              refine lv_iload_n (pc := 93) E.1 E.2.1 dX8_claim_93 rfl (lv_at hl 4 rfl) ?_
              obtain ⟨w28, g27, hf⟩ := x_bind hf
              refine x_iast (pc := 94) (ws' := (cells8 G ad (u8_now (u8_now (u8_now v19 w24) w26) w28))) E hw 1 rfl g27 rfl dX8_claim_94 (fun H locs hw => ?_)
              refine lv_aload_n (pc := 95) E.1 E.2.1 dX8_claim_95 rfl (lv_at hl 1 rfl) ?_
              refine xg_X8_13 (pc := 96) (v := .ref (ad 1)) E hw 0 rfl rfl dX8_claim_96 ?_
              refine lv_iconst (v := 3) (pc := 99) E.1 E.2.1 dX8_claim_99 (by decide) ?_
              refine lv_dup2_11 (pc := 100) E.1 E.2.1 dX8_claim_100 rfl rfl ?_
              obtain ⟨v30, g29, hf⟩ := x_bind hf
              refine x_iald (pc := 101) E hw 1 rfl g29 dX8_claim_101 ?_
              refine lv_iconst (v := 1) (pc := 102) E.1 E.2.1 dX8_claim_102 (by decide) ?_
              refine lv_iadd (pc := 103) E.1 E.2.1 dX8_claim_103 ?_
              obtain ⟨w32, g31, hf⟩ := x_bind hf
              refine x_iast (pc := 104) (ws' := (cells8 G ad (u8_now (u8_now (u8_now (u8_now v19 w24) w26) w28) w32))) E hw 1 rfl g31 rfl dX8_claim_104 (fun H locs hw => ?_)
              refine lv_aload_n (pc := 105) E.1 E.2.1 dX8_claim_105 rfl (lv_at hl 1 rfl) ?_
              obtain ⟨v33, g34, hf⟩ := x_bind hf
              refine x_callVA (pc := 106) (As := []) (rest := []) (st1 := [.int v33]) (ws' := (cells8 G ad (u8_now (u8_now (u8_now (u8_now v19 w24) w26) w28) w32))) E hw hl (c_X8_claims l G ad (u8_now (u8_now (u8_now (u8_now v19 w24) w26) w28) w32) g34) xv_X8_88 xd_X8_claims rfl rfl ⟨Nat.le_of_ble_eq_true rfl, Nat.le_of_ble_eq_true rfl⟩ (q0 := 0) rfl rfl rfl rfl (Nat.le_of_ble_eq_true rfl) rfl rfl dX8_claim_106 (fun H locs hw => ?_)
              refine lv_iconst (v := 1) (pc := 109) E.1 E.2.1 dX8_claim_109 (by decide) ?_
              refine lv_isub (pc := 110) E.1 E.2.1 dX8_claim_110 ?_
              obtain rfl := Option.some.inj hf
              exact x_reti (pc := 111) E hr hk hw dX8_claim_111
            · have hf := x_pos q18 hf
              refine lv_iconst (v := (-1)) (pc := 50) E.1 E.2.1 dX8_claim_50 (by decide) ?_
              obtain rfl := Option.some.inj hf
              exact x_reti (pc := 51) E hr hk hw dX8_claim_51
set_option maxHeartbeats 4000000 in
set_option maxRecDepth 100000 in
theorem c_X8_claim (l : Launch) (G : xG) (ad : Nat → Nat) (s : S8) (x1 : Int32) (x2 : Int32) (x3 : Int32) {z : Int32 × S8} (hf : f_X8_claim s x1 x2 x3 = some z) : xC l yX8_claim cX8_claim 5 (some .int) (rm_X8_claim) G [.ref (ad 0), .int x1, .int x2, .int x3] (cells8 G ad s) (some (.int z.1)) (cells8 G ad z.2) :=
  x_met (by decide) (Nat.le_of_ble_eq_true rfl) (fun p e sS m below meth c E hr hk ls hl hw => w_X8_claim_p0 E hr hk s x1 x2 x3 z hw hl hf)
set_option maxHeartbeats 4000000 in
set_option maxRecDepth 100000 in
theorem w_X8_waive_p0 {p : Program} {l : Launch} {e : Env} {sS : State} {m : MethodId} {args : Array Value} {below : List Frame} {meth : Method} {c : Code} {G : xG} {W0 : va_W} {ad : Nat → Nat}   (E : xE p sS m args c cX8_waive 2 RX8 G (x_in W0)) (hr : meth.sig.returnType = (some .boolean)) (hk : meth.locks = false)  : ∀ (s' : S8) (x1' : Int32) (z : Int32 × S8) {H : Heap} {locs : List Loc} {ls : Array Slot}, xW G (x_in W0) sS.heap (cells8 G ad s') H locs → lv_has ls 2 [(0, .ref (ad 0)), (1, .int x1')] → f_X8_waive  s' x1' = some z → W p l e (rm_X8_waive) sS m args below meth c H locs 0 0 (MQ below (xQ G W0 (cells8 G ad z.2) (some (.int z.1))) args sS 0 0 (x_in W0)) (F0 m 0 ls []) := by
  intro s x1 z H locs ls hw hl hf
  unfold f_X8_waive at hf
  refine lv_aload_n (pc := 0) E.1 E.2.1 dX8_waive_0 rfl (lv_at hl 0 rfl) ?_
  refine lv_iload_n (pc := 1) E.1 E.2.1 dX8_waive_1 rfl (lv_at hl 1 rfl) ?_
  obtain ⟨v1, g2, hf⟩ := x_bind hf
  refine x_callVA (pc := 2) (As := [.int x1]) (rest := []) (st1 := [.int v1]) (ws' := (cells8 G ad s)) E hw hl (c_X8_isClaim l G ad s x1 g2) xv_X8_147 xd_X8_isClaim rfl rfl ⟨Nat.le_of_ble_eq_true rfl, Nat.le_of_ble_eq_true rfl⟩ (q0 := 0) rfl rfl rfl rfl (Nat.le_of_ble_eq_true rfl) rfl rfl dX8_waive_2 (fun H locs hw => ?_)
  refine lv_if_ne (tgt := 10) (pc := 5) E.1 E.2.1 dX8_waive_5 (by decide) (fun q3 => ?_) (fun q3 => ?_)
  · have hf := x_neg q3 hf
    refine lv_aload_n (pc := 10) E.1 E.2.1 dX8_waive_10 rfl (lv_at hl 0 rfl) ?_
    obtain ⟨v4, g5, hf⟩ := x_bind hf
    refine x_callVA (pc := 11) (As := []) (rest := []) (st1 := []) (ws' := (cells8 G ad v4)) E hw hl (c_X8_keeps l G ad s g5) xv_X8_112 xd_X8_keeps rfl rfl ⟨Nat.le_of_ble_eq_true rfl, Nat.le_of_ble_eq_true rfl⟩ (q0 := 0) rfl rfl rfl rfl (Nat.le_of_ble_eq_true rfl) rfl rfl dX8_waive_11 (fun H locs hw => ?_)
    refine lv_aload_n (pc := 14) E.1 E.2.1 dX8_waive_14 rfl (lv_at hl 0 rfl) ?_
    refine lv_iload_n (pc := 15) E.1 E.2.1 dX8_waive_15 rfl (lv_at hl 1 rfl) ?_
    obtain ⟨v6, g7, hf⟩ := x_bind hf
    refine x_callVA (pc := 16) (As := [.int x1]) (rest := []) (st1 := []) (ws' := (cells8 G ad v6)) E hw hl (c_X8_drops l G ad v4 x1 g7) xv_X8_104 xd_X8_drops rfl rfl ⟨Nat.le_of_ble_eq_true rfl, Nat.le_of_ble_eq_true rfl⟩ (q0 := 0) rfl rfl rfl rfl (Nat.le_of_ble_eq_true rfl) rfl rfl dX8_waive_16 (fun H locs hw => ?_)
    refine lv_iconst (v := 1) (pc := 19) E.1 E.2.1 dX8_waive_19 (by decide) ?_
    obtain rfl := Option.some.inj hf
    exact x_retz (pc := 20) (v := 1) (r := 1) E hr hk hw (by decide) dX8_waive_20
  · have hf := x_pos q3 hf
    refine lv_iconst (v := 0) (pc := 8) E.1 E.2.1 dX8_waive_8 (by decide) ?_
    obtain rfl := Option.some.inj hf
    exact x_retz (pc := 9) (v := 0) (r := 0) E hr hk hw (by decide) dX8_waive_9
set_option maxHeartbeats 4000000 in
set_option maxRecDepth 100000 in
theorem c_X8_waive (l : Launch) (G : xG) (ad : Nat → Nat) (s : S8) (x1 : Int32) {z : Int32 × S8} (hf : f_X8_waive s x1 = some z) : xC l yX8_waive cX8_waive 2 (some .boolean) (rm_X8_waive) G [.ref (ad 0), .int x1] (cells8 G ad s) (some (.int z.1)) (cells8 G ad z.2) :=
  x_met (by decide) (Nat.le_of_ble_eq_true rfl) (fun p e sS m below meth c E hr hk ls hl hw => w_X8_waive_p0 E hr hk s x1 z hw hl hf)
set_option maxHeartbeats 4000000 in
set_option maxRecDepth 100000 in
theorem w_X8_amend_p0 {p : Program} {l : Launch} {e : Env} {sS : State} {m : MethodId} {args : Array Value} {below : List Frame} {meth : Method} {c : Code} {G : xG} {W0 : va_W} {ad : Nat → Nat}   (E : xE p sS m args c cX8_amend 3 RX8 G (x_in W0)) (hr : meth.sig.returnType = (some .int)) (hk : meth.locks = false)  : ∀ (s' : S8) (x1' : Int32) (x2' : Int32) (z : Int32 × S8) {H : Heap} {locs : List Loc} {ls : Array Slot}, xW G (x_in W0) sS.heap (cells8 G ad s') H locs → lv_has ls 3 [(0, .ref (ad 0)), (1, .int x1'), (2, .int x2')] → f_X8_amend  s' x1' x2' = some z → W p l e (rm_X8_amend) sS m args below meth c H locs 0 0 (MQ below (xQ G W0 (cells8 G ad z.2) (some (.int z.1))) args sS 0 0 (x_in W0)) (F0 m 0 ls []) := by
  intro s x1 x2 z H locs ls hw hl hf
  unfold f_X8_amend at hf
  refine lv_aload_n (pc := 0) E.1 E.2.1 dX8_amend_0 rfl (lv_at hl 0 rfl) ?_
  refine lv_iload_n (pc := 1) E.1 E.2.1 dX8_amend_1 rfl (lv_at hl 1 rfl) ?_
  obtain ⟨v1, g2, hf⟩ := x_bind hf
  refine x_callVA (pc := 2) (As := [.int x1]) (rest := []) (st1 := [.int v1]) (ws' := (cells8 G ad s)) E hw hl (c_X8_isClaim l G ad s x1 g2) xv_X8_147 xd_X8_isClaim rfl rfl ⟨Nat.le_of_ble_eq_true rfl, Nat.le_of_ble_eq_true rfl⟩ (q0 := 0) rfl rfl rfl rfl (Nat.le_of_ble_eq_true rfl) rfl rfl dX8_amend_2 (fun H locs hw => ?_)
  refine lv_if_eq (tgt := 40) (pc := 5) E.1 E.2.1 dX8_amend_5 (by decide) (fun q3 => ?_) (fun q3 => ?_)
  · have hf := x_pos q3 hf
    refine lv_iconst (v := (-1)) (pc := 40) E.1 E.2.1 dX8_amend_40 (by decide) ?_
    obtain rfl := Option.some.inj hf
    exact x_reti (pc := 41) E hr hk hw dX8_amend_41
  · have hf := x_neg q3 hf
    refine lv_iload_n (pc := 8) E.1 E.2.1 dX8_amend_8 rfl (lv_at hl 2 rfl) ?_
    obtain ⟨v4, g5, hf⟩ := x_bind hf
    refine x_callS0 (pc := 9) (As := [.int x2]) (rest := []) (st1 := [.int v4]) E hw hl (c_X8_isAmount l G  x2 g5) xs_X8_141 xd_X8_isAmount rfl rfl ⟨Nat.le_of_ble_eq_true rfl, Nat.le_of_ble_eq_true rfl⟩ rfl rfl (Nat.le_of_ble_eq_true rfl) rfl dX8_amend_9 (fun H locs hw => ?_)
    refine lv_if_eq (tgt := 40) (pc := 12) E.1 E.2.1 dX8_amend_12 (by decide) (fun q6 => ?_) (fun q6 => ?_)
    · have hf := x_pos q6 hf
      refine lv_iconst (v := (-1)) (pc := 40) E.1 E.2.1 dX8_amend_40 (by decide) ?_
      obtain rfl := Option.some.inj hf
      exact x_reti (pc := 41) E hr hk hw dX8_amend_41
    · have hf := x_neg q6 hf
      refine lv_aload_n (pc := 15) E.1 E.2.1 dX8_amend_15 rfl (lv_at hl 0 rfl) ?_
      refine lv_iload_n (pc := 16) E.1 E.2.1 dX8_amend_16 rfl (lv_at hl 1 rfl) ?_
      obtain ⟨v7, g8, hf⟩ := x_bind hf
      refine x_callVA (pc := 17) (As := [.int x1]) (rest := []) (st1 := [.int v7]) (ws' := (cells8 G ad s)) E hw hl (c_X8_amountOf l G ad s x1 g8) xv_X8_95 xd_X8_amountOf rfl rfl ⟨Nat.le_of_ble_eq_true rfl, Nat.le_of_ble_eq_true rfl⟩ (q0 := 0) rfl rfl rfl rfl (Nat.le_of_ble_eq_true rfl) rfl rfl dX8_amend_17 (fun H locs hw => ?_)
      refine lv_iload_n (pc := 20) E.1 E.2.1 dX8_amend_20 rfl (lv_at hl 2 rfl) ?_
      refine lv_icmp_eq (tgt := 40) (pc := 21) E.1 E.2.1 dX8_amend_21 (by decide) (fun q9 => ?_) (fun q9 => ?_)
      · have hf := x_pos q9 hf
        refine lv_iconst (v := (-1)) (pc := 40) E.1 E.2.1 dX8_amend_40 (by decide) ?_
        obtain rfl := Option.some.inj hf
        exact x_reti (pc := 41) E hr hk hw dX8_amend_41
      · have hf := x_neg q9 hf
        refine lv_aload_n (pc := 24) E.1 E.2.1 dX8_amend_24 rfl (lv_at hl 0 rfl) ?_
        refine lv_bipush (v := 20) (pc := 25) E.1 E.2.1 dX8_amend_25 (by decide) ?_
        refine lv_iconst (v := 3) (pc := 27) E.1 E.2.1 dX8_amend_27 (by decide) ?_
        refine lv_iload_n (pc := 28) E.1 E.2.1 dX8_amend_28 rfl (lv_at hl 1 rfl) ?_
        refine lv_imul (pc := 29) E.1 E.2.1 dX8_amend_29 ?_
        refine lv_iadd (pc := 30) E.1 E.2.1 dX8_amend_30 ?_
        refine lv_iconst (v := 2) (pc := 31) E.1 E.2.1 dX8_amend_31 (by decide) ?_
        refine lv_iadd (pc := 32) E.1 E.2.1 dX8_amend_32 ?_
        refine lv_iload_n (pc := 33) E.1 E.2.1 dX8_amend_33 rfl (lv_at hl 2 rfl) ?_
        obtain ⟨v10, g11, hf⟩ := x_bind hf
        refine x_callVA (pc := 34) (As := [.int ((20 + (3 * x1)) + 2), .int x2]) (rest := []) (st1 := [.int v10.1]) (ws' := (cells8 G ad v10.2)) E hw hl (c_X8_becomes l G ad s ((20 + (3 * x1)) + 2) x2 g11) xv_X8_128 xd_X8_becomes rfl rfl ⟨Nat.le_of_ble_eq_true rfl, Nat.le_of_ble_eq_true rfl⟩ (q0 := 0) rfl rfl rfl rfl (Nat.le_of_ble_eq_true rfl) rfl rfl dX8_amend_34 (fun H locs hw => ?_)
        refine lv_goto (tgt := 41) (pc := 37) E.1 E.2.1 dX8_amend_37 (by decide) ?_
        obtain rfl := Option.some.inj hf
        exact x_reti (pc := 41) E hr hk hw dX8_amend_41
set_option maxHeartbeats 4000000 in
set_option maxRecDepth 100000 in
theorem c_X8_amend (l : Launch) (G : xG) (ad : Nat → Nat) (s : S8) (x1 : Int32) (x2 : Int32) {z : Int32 × S8} (hf : f_X8_amend s x1 x2 = some z) : xC l yX8_amend cX8_amend 3 (some .int) (rm_X8_amend) G [.ref (ad 0), .int x1, .int x2] (cells8 G ad s) (some (.int z.1)) (cells8 G ad z.2) :=
  x_met (by decide) (Nat.le_of_ble_eq_true rfl) (fun p e sS m below meth c E hr hk ls hl hw => w_X8_amend_p0 E hr hk s x1 x2 z hw hl hf)
set_option maxHeartbeats 4000000 in
set_option maxRecDepth 100000 in
theorem w_X8_joins_p2 {p : Program} {l : Launch} {e : Env} {sS : State} {m : MethodId} {args : Array Value} {below : List Frame} {meth : Method} {c : Code} {G : xG} {W0 : va_W} {ad : Nat → Nat}  {k2 : S8 → Int32 → Int32 → Int32 → Option (S8)} (E : xE p sS m args c cX8_joins 4 RX8 G (x_in W0)) (hr : meth.sig.returnType = none) (hk : meth.locks = false) (hk2 : ∀ (s' : S8) (x1' : Int32) (x2' : Int32) (x3' : Int32) (z : S8) {H : Heap} {locs : List Loc} {ls : Array Slot}, xW G (x_in W0) sS.heap (cells8 G ad s') H locs → lv_has ls 4 [(0, .ref (ad 0)), (1, .int x1'), (2, .int x2'), (3, .int x3')] → k2  s' x1' x2' x3' = some z → W p l e (rm_X8_joins) sS m args below meth c H locs 0 0 (MQ below (xQ G W0 (cells8 G ad z) none) args sS 0 0 (x_in W0)) (F0 m 2 ls [])) : ∀ (s' : S8) (x1' : Int32) (x2' : Int32) (x3' : Int32) (z : S8) {H : Heap} {locs : List Loc} {ls : Array Slot}, xW G (x_in W0) sS.heap (cells8 G ad s') H locs → lv_has ls 4 [(0, .ref (ad 0)), (1, .int x1'), (2, .int x2'), (3, .int x3')] → f_X8_joins_p2 k2 s' x1' x2' x3' = some z → W p l e (rm_X8_joins) sS m args below meth c H locs 0 0 (MQ below (xQ G W0 (cells8 G ad z) none) args sS 0 0 (x_in W0)) (F0 m 2 ls []) := by
  intro s x1 x2 x3 z H locs ls hw hl hf
  unfold f_X8_joins_p2 at hf
  refine lv_iload_n (pc := 2) E.1 E.2.1 dX8_joins_2 rfl (lv_at hl 3 rfl) ?_
  refine lv_aload_n (pc := 3) E.1 E.2.1 dX8_joins_3 rfl (lv_at hl 0 rfl) ?_
  obtain ⟨v1, g2, hf⟩ := x_bind hf
  refine x_callVA (pc := 4) (As := []) (rest := [.int x3]) (st1 := [.int v1, .int x3]) (ws' := (cells8 G ad s)) E hw hl (c_X8_many l G ad s g2) xv_X8_80 xd_X8_many rfl rfl ⟨Nat.le_of_ble_eq_true rfl, Nat.le_of_ble_eq_true rfl⟩ (q0 := 0) rfl rfl rfl rfl (Nat.le_of_ble_eq_true rfl) rfl rfl dX8_joins_4 (fun H locs hw => ?_)
  refine lv_icmp_ge (tgt := 36) (pc := 7) E.1 E.2.1 dX8_joins_7 (by decide) (fun q3 => ?_) (fun q3 => ?_)
  · have hf := x_pos q3 hf
    obtain rfl := Option.some.inj hf
    exact x_retv (pc := 36) E hr hk hw dX8_joins_36
  · have hf := x_neg q3 hf
    refine lv_aload_n (pc := 10) E.1 E.2.1 dX8_joins_10 rfl (lv_at hl 0 rfl) ?_
    refine lv_iload_n (pc := 11) E.1 E.2.1 dX8_joins_11 rfl (lv_at hl 3 rfl) ?_
    obtain ⟨v4, g5, hf⟩ := x_bind hf
    refine x_callVA (pc := 12) (As := [.int x3]) (rest := []) (st1 := [.int v4]) (ws' := (cells8 G ad s)) E hw hl (c_X8_classOf l G ad s x3 g5) xv_X8_125 xd_X8_classOf rfl rfl ⟨Nat.le_of_ble_eq_true rfl, Nat.le_of_ble_eq_true rfl⟩ (q0 := 0) rfl rfl rfl rfl (Nat.le_of_ble_eq_true rfl) rfl rfl dX8_joins_12 (fun H locs hw => ?_)
    refine lv_iload_n (pc := 15) E.1 E.2.1 dX8_joins_15 rfl (lv_at hl 1 rfl) ?_
    refine lv_icmp_ne (tgt := 30) (pc := 16) E.1 E.2.1 dX8_joins_16 (by decide) (fun q6 => ?_) (fun q6 => ?_)
    · have hf := x_neg q6 hf
      refine lv_iinc (v := (x3 + 1)) (lv' := [(3, .int (x3 + 1)), (0, .ref (ad 0)), (1, .int x1), (2, .int x2)]) (pc := 30) E.1 E.2.1 dX8_joins_30 hl (k := 3) rfl rfl (by decide) rfl (fun ls hl => ?_)
      refine lv_goto (tgt := 2) (pc := 33) E.1 E.2.1 dX8_joins_33 (by decide) ?_
      exact hk2 s x1 x2 (x3 + 1) z hw (lv_sub hl [1, 2, 3, 0] rfl) hf
    · have hf := x_pos q6 hf
      refine lv_aload_n (pc := 19) E.1 E.2.1 dX8_joins_19 rfl (lv_at hl 0 rfl) ?_
      refine xg_X8_13 (pc := 20) (v := .ref (ad 1)) E hw 0 rfl rfl dX8_joins_20 ?_
      refine lv_iconst (v := 4) (pc := 23) E.1 E.2.1 dX8_joins_23 (by decide) ?_
      refine lv_iconst (v := 2) (pc := 24) E.1 E.2.1 dX8_joins_24 (by decide) ?_
      refine lv_iload_n (pc := 25) E.1 E.2.1 dX8_joins_25 rfl (lv_at hl 3 rfl) ?_
      refine lv_imul (pc := 26) E.1 E.2.1 dX8_joins_26 ?_
      refine lv_iadd (pc := 27) E.1 E.2.1 dX8_joins_27 ?_
      refine lv_iload_n (pc := 28) E.1 E.2.1 dX8_joins_28 rfl (lv_at hl 2 rfl) ?_
      obtain ⟨w8, g7, hf⟩ := x_bind hf
      refine x_iast (pc := 29) (ws' := (cells8 G ad (u8_now s w8))) E hw 1 rfl g7 rfl dX8_joins_29 (fun H locs hw => ?_)
      refine lv_iinc (v := (x3 + 1)) (lv' := [(3, .int (x3 + 1)), (0, .ref (ad 0)), (1, .int x1), (2, .int x2)]) (pc := 30) E.1 E.2.1 dX8_joins_30 hl (k := 3) rfl rfl (by decide) rfl (fun ls hl => ?_)
      refine lv_goto (tgt := 2) (pc := 33) E.1 E.2.1 dX8_joins_33 (by decide) ?_
      exact hk2 (u8_now s w8) x1 x2 (x3 + 1) z hw (lv_sub hl [1, 2, 3, 0] rfl) hf
set_option maxHeartbeats 4000000 in
set_option maxRecDepth 100000 in
theorem wl_X8_joins_p2 {p : Program} {l : Launch} {e : Env} {sS : State} {m : MethodId} {args : Array Value} {below : List Frame} {meth : Method} {c : Code} {G : xG} {W0 : va_W} {ad : Nat → Nat}   (E : xE p sS m args c cX8_joins 4 RX8 G (x_in W0)) (hr : meth.sig.returnType = none) (hk : meth.locks = false)  : ∀ (s' : S8) (x1' : Int32) (x2' : Int32) (x3' : Int32) (z : S8) {H : Heap} {locs : List Loc} {ls : Array Slot}, xW G (x_in W0) sS.heap (cells8 G ad s') H locs → lv_has ls 4 [(0, .ref (ad 0)), (1, .int x1'), (2, .int x2'), (3, .int x3')] → lp_X8_joins_p2  s' x1' x2' x3' = some z → W p l e (rm_X8_joins) sS m args below meth c H locs 0 0 (MQ below (xQ G W0 (cells8 G ad z) none) args sS 0 0 (x_in W0)) (F0 m 2 ls []) := by
  intro s x1 x2 x3 z H locs ls hw hl hf
  exact x_loop_W (P := fun (q : S8 × Int32 × Int32 × Int32) (z : S8) => ∀ {H : Heap} {locs : List Loc} {ls : Array Slot}, xW G (x_in W0) sS.heap (cells8 G ad q.1) H locs → lv_has ls 4 [(0, .ref (ad 0)), (1, .int q.2.1), (2, .int q.2.2.1), (3, .int q.2.2.2)] → W p l e (rm_X8_joins) sS m args below meth c H locs 0 0 (MQ below (xQ G W0 (cells8 G ad z) none) args sS 0 0 (x_in W0)) (F0 m 2 ls [])) (fun k hkk q z hf H locs ls hw hl => w_X8_joins_p2 E hr hk  (fun s x1 x2 x3 z H locs ls hw hl hf => hkk (s, x1, x2, x3) z hf hw hl) q.1 q.2.1 q.2.2.1 q.2.2.2 z hw hl hf) FU (s, x1, x2, x3) z hf hw hl
set_option maxHeartbeats 4000000 in
set_option maxRecDepth 100000 in
theorem w_X8_joins_p0 {p : Program} {l : Launch} {e : Env} {sS : State} {m : MethodId} {args : Array Value} {below : List Frame} {meth : Method} {c : Code} {G : xG} {W0 : va_W} {ad : Nat → Nat}   (E : xE p sS m args c cX8_joins 4 RX8 G (x_in W0)) (hr : meth.sig.returnType = none) (hk : meth.locks = false)  : ∀ (s' : S8) (x1' : Int32) (x2' : Int32) (z : S8) {H : Heap} {locs : List Loc} {ls : Array Slot}, xW G (x_in W0) sS.heap (cells8 G ad s') H locs → lv_has ls 4 [(0, .ref (ad 0)), (1, .int x1'), (2, .int x2')] → f_X8_joins  s' x1' x2' = some z → W p l e (rm_X8_joins) sS m args below meth c H locs 0 0 (MQ below (xQ G W0 (cells8 G ad z) none) args sS 0 0 (x_in W0)) (F0 m 0 ls []) := by
  intro s x1 x2 z H locs ls hw hl hf
  unfold f_X8_joins at hf
  refine lv_iconst (v := 0) (pc := 0) E.1 E.2.1 dX8_joins_0 (by decide) ?_
  refine lv_istore_n (lv' := [(3, .int 0), (0, .ref (ad 0)), (1, .int x1), (2, .int x2)]) (pc := 1) E.1 E.2.1 dX8_joins_1 rfl hl (by decide) rfl (fun ls hl => ?_)
  exact wl_X8_joins_p2 E hr hk  s x1 x2 0 z hw (lv_sub hl [1, 2, 3, 0] rfl) hf
set_option maxHeartbeats 4000000 in
set_option maxRecDepth 100000 in
theorem c_X8_joins (l : Launch) (G : xG) (ad : Nat → Nat) (s : S8) (x1 : Int32) (x2 : Int32) {z : S8} (hf : f_X8_joins s x1 x2 = some z) : xC l yX8_joins cX8_joins 4 none (rm_X8_joins) G [.ref (ad 0), .int x1, .int x2] (cells8 G ad s) none (cells8 G ad z) :=
  x_met (by decide) (Nat.le_of_ble_eq_true rfl) (fun p e sS m below meth c E hr hk ls hl hw => w_X8_joins_p0 E hr hk s x1 x2 z hw hl hf)
set_option maxHeartbeats 4000000 in
set_option maxRecDepth 100000 in
theorem w_X8_join_p26 {p : Program} {l : Launch} {e : Env} {sS : State} {m : MethodId} {args : Array Value} {below : List Frame} {meth : Method} {c : Code} {G : xG} {W0 : va_W} {ad : Nat → Nat}  {k26 : S8 → Int32 → Int32 → Int32 → Int32 → Option (Int32 × S8)} (E : xE p sS m args c cX8_join 5 RX8 G (x_in W0)) (hr : meth.sig.returnType = (some .int)) (hk : meth.locks = false) (hk26 : ∀ (s' : S8) (x1' : Int32) (x2' : Int32) (x3' : Int32) (x4' : Int32) (z : Int32 × S8) {H : Heap} {locs : List Loc} {ls : Array Slot}, xW G (x_in W0) sS.heap (cells8 G ad s') H locs → lv_has ls 5 [(0, .ref (ad 0)), (1, .int x1'), (2, .int x2'), (3, .int x3'), (4, .int x4')] → k26  s' x1' x2' x3' x4' = some z → W p l e (rm_X8_join) sS m args below meth c H locs 0 0 (MQ below (xQ G W0 (cells8 G ad z.2) (some (.int z.1))) args sS 0 0 (x_in W0)) (F0 m 26 ls [])) : ∀ (s' : S8) (x1' : Int32) (x2' : Int32) (x3' : Int32) (x4' : Int32) (z : Int32 × S8) {H : Heap} {locs : List Loc} {ls : Array Slot}, xW G (x_in W0) sS.heap (cells8 G ad s') H locs → lv_has ls 5 [(0, .ref (ad 0)), (1, .int x1'), (2, .int x2'), (3, .int x3'), (4, .int x4')] → f_X8_join_p26 k26 s' x1' x2' x3' x4' = some z → W p l e (rm_X8_join) sS m args below meth c H locs 0 0 (MQ below (xQ G W0 (cells8 G ad z.2) (some (.int z.1))) args sS 0 0 (x_in W0)) (F0 m 26 ls []) := by
  intro s x1 x2 x3 x4 z H locs ls hw hl hf
  unfold f_X8_join_p26 at hf
  refine lv_iload (pc := 26) E.1 E.2.1 dX8_join_26 (lv_at hl 4 rfl) ?_
  refine lv_aload_n (pc := 28) E.1 E.2.1 dX8_join_28 rfl (lv_at hl 0 rfl) ?_
  obtain ⟨v1, g2, hf⟩ := x_bind hf
  refine x_callVA (pc := 29) (As := []) (rest := [.int x4]) (st1 := [.int v1, .int x4]) (ws' := (cells8 G ad s)) E hw hl (c_X8_many l G ad s g2) xv_X8_80 xd_X8_many rfl rfl ⟨Nat.le_of_ble_eq_true rfl, Nat.le_of_ble_eq_true rfl⟩ (q0 := 0) rfl rfl rfl rfl (Nat.le_of_ble_eq_true rfl) rfl rfl dX8_join_29 (fun H locs hw => ?_)
  refine lv_icmp_ge (tgt := 54) (pc := 32) E.1 E.2.1 dX8_join_32 (by decide) (fun q3 => ?_) (fun q3 => ?_)
  · have hf := x_pos q3 hf
    refine lv_iload_n (pc := 54) E.1 E.2.1 dX8_join_54 rfl (lv_at hl 3 rfl) ?_
    refine lv_if_ne (tgt := 60) (pc := 55) E.1 E.2.1 dX8_join_55 (by decide) (fun q4 => ?_) (fun q4 => ?_)
    · have hf := x_neg q4 hf
      refine lv_aload_n (pc := 60) E.1 E.2.1 dX8_join_60 rfl (lv_at hl 0 rfl) ?_
      obtain ⟨v5, g6, hf⟩ := x_bind hf
      refine x_callVA (pc := 61) (As := []) (rest := []) (st1 := []) (ws' := (cells8 G ad v5)) E hw hl (c_X8_keeps l G ad s g6) xv_X8_112 xd_X8_keeps rfl rfl ⟨Nat.le_of_ble_eq_true rfl, Nat.le_of_ble_eq_true rfl⟩ (q0 := 0) rfl rfl rfl rfl (Nat.le_of_ble_eq_true rfl) rfl rfl dX8_join_61 (fun H locs hw => ?_)
      refine lv_aload_n (pc := 64) E.1 E.2.1 dX8_join_64 rfl (lv_at hl 0 rfl) ?_
      refine lv_iload_n (pc := 65) E.1 E.2.1 dX8_join_65 rfl (lv_at hl 1 rfl) ?_
      refine lv_iload_n (pc := 66) E.1 E.2.1 dX8_join_66 rfl (lv_at hl 2 rfl) ?_
      obtain ⟨v7, g8, hf⟩ := x_bind hf
      refine x_callVA (pc := 67) (As := [.int x1, .int x2]) (rest := []) (st1 := []) (ws' := (cells8 G ad v7)) E hw hl (c_X8_joins l G ad v5 x1 x2 g8) xv_X8_150 xd_X8_joins rfl rfl ⟨Nat.le_of_ble_eq_true rfl, Nat.le_of_ble_eq_true rfl⟩ (q0 := 0) rfl rfl rfl rfl (Nat.le_of_ble_eq_true rfl) rfl rfl dX8_join_67 (fun H locs hw => ?_)
      refine lv_iload_n (pc := 70) E.1 E.2.1 dX8_join_70 rfl (lv_at hl 3 rfl) ?_
      obtain rfl := Option.some.inj hf
      exact x_reti (pc := 71) E hr hk hw dX8_join_71
    · have hf := x_pos q4 hf
      refine lv_iconst (v := (-1)) (pc := 58) E.1 E.2.1 dX8_join_58 (by decide) ?_
      obtain rfl := Option.some.inj hf
      exact x_reti (pc := 59) E hr hk hw dX8_join_59
  · have hf := x_neg q3 hf
    refine lv_aload_n (pc := 35) E.1 E.2.1 dX8_join_35 rfl (lv_at hl 0 rfl) ?_
    refine lv_iload (pc := 36) E.1 E.2.1 dX8_join_36 (lv_at hl 4 rfl) ?_
    obtain ⟨v9, g10, hf⟩ := x_bind hf
    refine x_callVA (pc := 38) (As := [.int x4]) (rest := []) (st1 := [.int v9]) (ws' := (cells8 G ad s)) E hw hl (c_X8_classOf l G ad s x4 g10) xv_X8_125 xd_X8_classOf rfl rfl ⟨Nat.le_of_ble_eq_true rfl, Nat.le_of_ble_eq_true rfl⟩ (q0 := 0) rfl rfl rfl rfl (Nat.le_of_ble_eq_true rfl) rfl rfl dX8_join_38 (fun H locs hw => ?_)
    refine lv_iload_n (pc := 41) E.1 E.2.1 dX8_join_41 rfl (lv_at hl 1 rfl) ?_
    refine lv_icmp_ne (tgt := 48) (pc := 42) E.1 E.2.1 dX8_join_42 (by decide) (fun q11 => ?_) (fun q11 => ?_)
    · have hf := x_neg q11 hf
      refine lv_iinc (v := (x4 + 1)) (lv' := [(4, .int (x4 + 1)), (0, .ref (ad 0)), (1, .int x1), (2, .int x2), (3, .int x3)]) (pc := 48) E.1 E.2.1 dX8_join_48 hl (k := 4) rfl rfl (by decide) rfl (fun ls hl => ?_)
      refine lv_goto (tgt := 26) (pc := 51) E.1 E.2.1 dX8_join_51 (by decide) ?_
      exact hk26 s x1 x2 x3 (x4 + 1) z hw (lv_sub hl [1, 2, 3, 4, 0] rfl) hf
    · have hf := x_pos q11 hf
      refine lv_iinc (v := (x3 + 1)) (lv' := [(3, .int (x3 + 1)), (0, .ref (ad 0)), (1, .int x1), (2, .int x2), (4, .int x4)]) (pc := 45) E.1 E.2.1 dX8_join_45 hl (k := 3) rfl rfl (by decide) rfl (fun ls hl => ?_)
      refine lv_iinc (v := (x4 + 1)) (lv' := [(4, .int (x4 + 1)), (3, .int (x3 + 1)), (0, .ref (ad 0)), (1, .int x1), (2, .int x2)]) (pc := 48) E.1 E.2.1 dX8_join_48 hl (k := 4) rfl rfl (by decide) rfl (fun ls hl => ?_)
      refine lv_goto (tgt := 26) (pc := 51) E.1 E.2.1 dX8_join_51 (by decide) ?_
      exact hk26 s x1 x2 (x3 + 1) (x4 + 1) z hw (lv_sub hl [2, 3, 4, 1, 0] rfl) hf
set_option maxHeartbeats 4000000 in
set_option maxRecDepth 100000 in
theorem wl_X8_join_p26 {p : Program} {l : Launch} {e : Env} {sS : State} {m : MethodId} {args : Array Value} {below : List Frame} {meth : Method} {c : Code} {G : xG} {W0 : va_W} {ad : Nat → Nat}   (E : xE p sS m args c cX8_join 5 RX8 G (x_in W0)) (hr : meth.sig.returnType = (some .int)) (hk : meth.locks = false)  : ∀ (s' : S8) (x1' : Int32) (x2' : Int32) (x3' : Int32) (x4' : Int32) (z : Int32 × S8) {H : Heap} {locs : List Loc} {ls : Array Slot}, xW G (x_in W0) sS.heap (cells8 G ad s') H locs → lv_has ls 5 [(0, .ref (ad 0)), (1, .int x1'), (2, .int x2'), (3, .int x3'), (4, .int x4')] → lp_X8_join_p26  s' x1' x2' x3' x4' = some z → W p l e (rm_X8_join) sS m args below meth c H locs 0 0 (MQ below (xQ G W0 (cells8 G ad z.2) (some (.int z.1))) args sS 0 0 (x_in W0)) (F0 m 26 ls []) := by
  intro s x1 x2 x3 x4 z H locs ls hw hl hf
  exact x_loop_W (P := fun (q : S8 × Int32 × Int32 × Int32 × Int32) (z : Int32 × S8) => ∀ {H : Heap} {locs : List Loc} {ls : Array Slot}, xW G (x_in W0) sS.heap (cells8 G ad q.1) H locs → lv_has ls 5 [(0, .ref (ad 0)), (1, .int q.2.1), (2, .int q.2.2.1), (3, .int q.2.2.2.1), (4, .int q.2.2.2.2)] → W p l e (rm_X8_join) sS m args below meth c H locs 0 0 (MQ below (xQ G W0 (cells8 G ad z.2) (some (.int z.1))) args sS 0 0 (x_in W0)) (F0 m 26 ls [])) (fun k hkk q z hf H locs ls hw hl => w_X8_join_p26 E hr hk  (fun s x1 x2 x3 x4 z H locs ls hw hl hf => hkk (s, x1, x2, x3, x4) z hf hw hl) q.1 q.2.1 q.2.2.1 q.2.2.2.1 q.2.2.2.2 z hw hl hf) FU (s, x1, x2, x3, x4) z hf hw hl
set_option maxHeartbeats 4000000 in
set_option maxRecDepth 100000 in
theorem w_X8_join_p0 {p : Program} {l : Launch} {e : Env} {sS : State} {m : MethodId} {args : Array Value} {below : List Frame} {meth : Method} {c : Code} {G : xG} {W0 : va_W} {ad : Nat → Nat}   (E : xE p sS m args c cX8_join 5 RX8 G (x_in W0)) (hr : meth.sig.returnType = (some .int)) (hk : meth.locks = false)  : ∀ (s' : S8) (x1' : Int32) (x2' : Int32) (z : Int32 × S8) {H : Heap} {locs : List Loc} {ls : Array Slot}, xW G (x_in W0) sS.heap (cells8 G ad s') H locs → lv_has ls 5 [(0, .ref (ad 0)), (1, .int x1'), (2, .int x2')] → f_X8_join  s' x1' x2' = some z → W p l e (rm_X8_join) sS m args below meth c H locs 0 0 (MQ below (xQ G W0 (cells8 G ad z.2) (some (.int z.1))) args sS 0 0 (x_in W0)) (F0 m 0 ls []) := by
  intro s x1 x2 z H locs ls hw hl hf
  unfold f_X8_join at hf
  refine lv_iload_n (pc := 0) E.1 E.2.1 dX8_join_0 rfl (lv_at hl 1 rfl) ?_
  obtain ⟨v1, g2, hf⟩ := x_bind hf
  refine x_callS0 (pc := 1) (As := [.int x1]) (rest := []) (st1 := [.int v1]) E hw hl (c_X8_isClass l G  x1 g2) xs_X8_108 xd_X8_isClass rfl rfl ⟨Nat.le_of_ble_eq_true rfl, Nat.le_of_ble_eq_true rfl⟩ rfl rfl (Nat.le_of_ble_eq_true rfl) rfl dX8_join_1 (fun H locs hw => ?_)
  refine lv_if_eq (tgt := 19) (pc := 4) E.1 E.2.1 dX8_join_4 (by decide) (fun q3 => ?_) (fun q3 => ?_)
  · have hf := x_pos q3 hf
    refine lv_iconst (v := (-1)) (pc := 19) E.1 E.2.1 dX8_join_19 (by decide) ?_
    obtain rfl := Option.some.inj hf
    exact x_reti (pc := 20) E hr hk hw dX8_join_20
  · have hf := x_neg q3 hf
    refine lv_iload_n (pc := 7) E.1 E.2.1 dX8_join_7 rfl (lv_at hl 2 rfl) ?_
    obtain ⟨v4, g5, hf⟩ := x_bind hf
    refine x_callS0 (pc := 8) (As := [.int x2]) (rest := []) (st1 := [.int v4]) E hw hl (c_X8_isClass l G  x2 g5) xs_X8_108 xd_X8_isClass rfl rfl ⟨Nat.le_of_ble_eq_true rfl, Nat.le_of_ble_eq_true rfl⟩ rfl rfl (Nat.le_of_ble_eq_true rfl) rfl dX8_join_8 (fun H locs hw => ?_)
    refine lv_if_eq (tgt := 19) (pc := 11) E.1 E.2.1 dX8_join_11 (by decide) (fun q6 => ?_) (fun q6 => ?_)
    · have hf := x_pos q6 hf
      refine lv_iconst (v := (-1)) (pc := 19) E.1 E.2.1 dX8_join_19 (by decide) ?_
      obtain rfl := Option.some.inj hf
      exact x_reti (pc := 20) E hr hk hw dX8_join_20
    · have hf := x_neg q6 hf
      refine lv_iload_n (pc := 14) E.1 E.2.1 dX8_join_14 rfl (lv_at hl 1 rfl) ?_
      refine lv_iload_n (pc := 15) E.1 E.2.1 dX8_join_15 rfl (lv_at hl 2 rfl) ?_
      refine lv_icmp_ne (tgt := 21) (pc := 16) E.1 E.2.1 dX8_join_16 (by decide) (fun q7 => ?_) (fun q7 => ?_)
      · have hf := x_neg q7 hf
        refine lv_iconst (v := 0) (pc := 21) E.1 E.2.1 dX8_join_21 (by decide) ?_
        refine lv_istore_n (lv' := [(3, .int 0), (0, .ref (ad 0)), (1, .int x1), (2, .int x2)]) (pc := 22) E.1 E.2.1 dX8_join_22 rfl hl (by decide) rfl (fun ls hl => ?_)
        refine lv_iconst (v := 0) (pc := 23) E.1 E.2.1 dX8_join_23 (by decide) ?_
        refine lv_istore (lv' := [(4, .int 0), (3, .int 0), (0, .ref (ad 0)), (1, .int x1), (2, .int x2)]) (pc := 24) E.1 E.2.1 dX8_join_24 hl (by decide) rfl (fun ls hl => ?_)
        exact wl_X8_join_p26 E hr hk  s x1 x2 0 0 z hw (lv_sub hl [2, 3, 4, 1, 0] rfl) hf
      · have hf := x_pos q7 hf
        refine lv_iconst (v := (-1)) (pc := 19) E.1 E.2.1 dX8_join_19 (by decide) ?_
        obtain rfl := Option.some.inj hf
        exact x_reti (pc := 20) E hr hk hw dX8_join_20
set_option maxHeartbeats 4000000 in
set_option maxRecDepth 100000 in
theorem c_X8_join (l : Launch) (G : xG) (ad : Nat → Nat) (s : S8) (x1 : Int32) (x2 : Int32) {z : Int32 × S8} (hf : f_X8_join s x1 x2 = some z) : xC l yX8_join cX8_join 5 (some .int) (rm_X8_join) G [.ref (ad 0), .int x1, .int x2] (cells8 G ad s) (some (.int z.1)) (cells8 G ad z.2) :=
  x_met (by decide) (Nat.le_of_ble_eq_true rfl) (fun p e sS m below meth c E hr hk ls hl hw => w_X8_join_p0 E hr hk s x1 x2 z hw hl hf)
set_option maxHeartbeats 4000000 in
set_option maxRecDepth 100000 in
theorem w_X8_swap_p94 {p : Program} {l : Launch} {e : Env} {sS : State} {m : MethodId} {args : Array Value} {below : List Frame} {meth : Method} {c : Code} {G : xG} {W0 : va_W} {ad : Nat → Nat}  {k94 : S8 → Int32 → Int32 → Int32 → Option (Int32 × S8)} (E : xE p sS m args c cX8_swap 5 RX8 G (x_in W0)) (hr : meth.sig.returnType = (some .boolean)) (hk : meth.locks = false) (hk94 : ∀ (s' : S8) (x1' : Int32) (x2' : Int32) (x3' : Int32) (z : Int32 × S8) {H : Heap} {locs : List Loc} {ls : Array Slot}, xW G (x_in W0) sS.heap (cells8 G ad s') H locs → lv_has ls 5 [(0, .ref (ad 0)), (1, .int x1'), (2, .int x2'), (3, .int x3')] → k94  s' x1' x2' x3' = some z → W p l e (rm_X8_swap) sS m args below meth c H locs 0 0 (MQ below (xQ G W0 (cells8 G ad z.2) (some (.int z.1))) args sS 0 0 (x_in W0)) (F0 m 94 ls [])) : ∀ (s' : S8) (x1' : Int32) (x2' : Int32) (x3' : Int32) (z : Int32 × S8) {H : Heap} {locs : List Loc} {ls : Array Slot}, xW G (x_in W0) sS.heap (cells8 G ad s') H locs → lv_has ls 5 [(0, .ref (ad 0)), (1, .int x1'), (2, .int x2'), (3, .int x3')] → f_X8_swap_p94 k94 s' x1' x2' x3' = some z → W p l e (rm_X8_swap) sS m args below meth c H locs 0 0 (MQ below (xQ G W0 (cells8 G ad z.2) (some (.int z.1))) args sS 0 0 (x_in W0)) (F0 m 94 ls []) := by
  intro s x1 x2 x3 z H locs ls hw hl hf
  unfold f_X8_swap_p94 at hf
  refine lv_iload_n (pc := 94) E.1 E.2.1 dX8_swap_94 rfl (lv_at hl 3 rfl) ?_
  refine lv_aload_n (pc := 95) E.1 E.2.1 dX8_swap_95 rfl (lv_at hl 0 rfl) ?_
  obtain ⟨v1, g2, hf⟩ := x_bind hf
  refine x_callVA (pc := 96) (As := []) (rest := [.int x3]) (st1 := [.int v1, .int x3]) (ws' := (cells8 G ad s)) E hw hl (c_X8_claims l G ad s g2) xv_X8_88 xd_X8_claims rfl rfl ⟨Nat.le_of_ble_eq_true rfl, Nat.le_of_ble_eq_true rfl⟩ (q0 := 0) rfl rfl rfl rfl (Nat.le_of_ble_eq_true rfl) rfl rfl dX8_swap_96 (fun H locs hw => ?_)
  refine lv_icmp_ge (tgt := 153) (pc := 99) E.1 E.2.1 dX8_swap_99 (by decide) (fun q3 => ?_) (fun q3 => ?_)
  · have hf := x_pos q3 hf
    refine lv_iconst (v := 1) (pc := 153) E.1 E.2.1 dX8_swap_153 (by decide) ?_
    obtain rfl := Option.some.inj hf
    exact x_retz (pc := 154) (v := 1) (r := 1) E hr hk hw (by decide) dX8_swap_154
  · have hf := x_neg q3 hf
    refine lv_aload_n (pc := 102) E.1 E.2.1 dX8_swap_102 rfl (lv_at hl 0 rfl) ?_
    refine lv_iload_n (pc := 103) E.1 E.2.1 dX8_swap_103 rfl (lv_at hl 3 rfl) ?_
    obtain ⟨v4, g5, hf⟩ := x_bind hf
    refine x_callVA (pc := 104) (As := [.int x3]) (rest := []) (st1 := [.int v4]) (ws' := (cells8 G ad s)) E hw hl (c_X8_fleetOf l G ad s x3 g5) xv_X8_98 xd_X8_fleetOf rfl rfl ⟨Nat.le_of_ble_eq_true rfl, Nat.le_of_ble_eq_true rfl⟩ (q0 := 0) rfl rfl rfl rfl (Nat.le_of_ble_eq_true rfl) rfl rfl dX8_swap_104 (fun H locs hw => ?_)
    refine lv_iload_n (pc := 107) E.1 E.2.1 dX8_swap_107 rfl (lv_at hl 1 rfl) ?_
    refine lv_icmp_ne (tgt := 126) (pc := 108) E.1 E.2.1 dX8_swap_108 (by decide) (fun q6 => ?_) (fun q6 => ?_)
    · have hf := x_neg q6 hf
      refine lv_aload_n (pc := 126) E.1 E.2.1 dX8_swap_126 rfl (lv_at hl 0 rfl) ?_
      refine lv_iload_n (pc := 127) E.1 E.2.1 dX8_swap_127 rfl (lv_at hl 3 rfl) ?_
      obtain ⟨v7, g8, hf⟩ := x_bind hf
      refine x_callVA (pc := 128) (As := [.int x3]) (rest := []) (st1 := [.int v7]) (ws' := (cells8 G ad s)) E hw hl (c_X8_fleetOf l G ad s x3 g8) xv_X8_98 xd_X8_fleetOf rfl rfl ⟨Nat.le_of_ble_eq_true rfl, Nat.le_of_ble_eq_true rfl⟩ (q0 := 0) rfl rfl rfl rfl (Nat.le_of_ble_eq_true rfl) rfl rfl dX8_swap_128 (fun H locs hw => ?_)
      refine lv_iload_n (pc := 131) E.1 E.2.1 dX8_swap_131 rfl (lv_at hl 2 rfl) ?_
      refine lv_icmp_ne (tgt := 147) (pc := 132) E.1 E.2.1 dX8_swap_132 (by decide) (fun q9 => ?_) (fun q9 => ?_)
      · have hf := x_neg q9 hf
        refine lv_iinc (v := (x3 + 1)) (lv' := [(3, .int (x3 + 1)), (0, .ref (ad 0)), (1, .int x1), (2, .int x2)]) (pc := 147) E.1 E.2.1 dX8_swap_147 hl (k := 3) rfl rfl (by decide) rfl (fun ls hl => ?_)
        refine lv_goto (tgt := 94) (pc := 150) E.1 E.2.1 dX8_swap_150 (by decide) ?_
        exact hk94 s x1 x2 (x3 + 1) z hw (lv_sub hl [1, 2, 3, 0] rfl) hf
      · have hf := x_pos q9 hf
        refine lv_aload_n (pc := 135) E.1 E.2.1 dX8_swap_135 rfl (lv_at hl 0 rfl) ?_
        refine xg_X8_13 (pc := 136) (v := .ref (ad 1)) E hw 0 rfl rfl dX8_swap_136 ?_
        refine lv_bipush (v := 20) (pc := 139) E.1 E.2.1 dX8_swap_139 (by decide) ?_
        refine lv_iconst (v := 3) (pc := 141) E.1 E.2.1 dX8_swap_141 (by decide) ?_
        refine lv_iload_n (pc := 142) E.1 E.2.1 dX8_swap_142 rfl (lv_at hl 3 rfl) ?_
        refine lv_imul (pc := 143) E.1 E.2.1 dX8_swap_143 ?_
        refine lv_iadd (pc := 144) E.1 E.2.1 dX8_swap_144 ?_
        refine lv_iload_n (pc := 145) E.1 E.2.1 dX8_swap_145 rfl (lv_at hl 1 rfl) ?_
        obtain ⟨w11, g10, hf⟩ := x_bind hf
        refine x_iast (pc := 146) (ws' := (cells8 G ad (u8_now s w11))) E hw 1 rfl g10 rfl dX8_swap_146 (fun H locs hw => ?_)
        refine lv_iinc (v := (x3 + 1)) (lv' := [(3, .int (x3 + 1)), (0, .ref (ad 0)), (1, .int x1), (2, .int x2)]) (pc := 147) E.1 E.2.1 dX8_swap_147 hl (k := 3) rfl rfl (by decide) rfl (fun ls hl => ?_)
        refine lv_goto (tgt := 94) (pc := 150) E.1 E.2.1 dX8_swap_150 (by decide) ?_
        exact hk94 (u8_now s w11) x1 x2 (x3 + 1) z hw (lv_sub hl [1, 2, 3, 0] rfl) hf
    · have hf := x_pos q6 hf
      refine lv_aload_n (pc := 111) E.1 E.2.1 dX8_swap_111 rfl (lv_at hl 0 rfl) ?_
      refine xg_X8_13 (pc := 112) (v := .ref (ad 1)) E hw 0 rfl rfl dX8_swap_112 ?_
      refine lv_bipush (v := 20) (pc := 115) E.1 E.2.1 dX8_swap_115 (by decide) ?_
      refine lv_iconst (v := 3) (pc := 117) E.1 E.2.1 dX8_swap_117 (by decide) ?_
      refine lv_iload_n (pc := 118) E.1 E.2.1 dX8_swap_118 rfl (lv_at hl 3 rfl) ?_
      refine lv_imul (pc := 119) E.1 E.2.1 dX8_swap_119 ?_
      refine lv_iadd (pc := 120) E.1 E.2.1 dX8_swap_120 ?_
      refine lv_iload_n (pc := 121) E.1 E.2.1 dX8_swap_121 rfl (lv_at hl 2 rfl) ?_
      obtain ⟨w13, g12, hf⟩ := x_bind hf
      refine x_iast (pc := 122) (ws' := (cells8 G ad (u8_now s w13))) E hw 1 rfl g12 rfl dX8_swap_122 (fun H locs hw => ?_)
      refine lv_goto (tgt := 147) (pc := 123) E.1 E.2.1 dX8_swap_123 (by decide) ?_
      refine lv_iinc (v := (x3 + 1)) (lv' := [(3, .int (x3 + 1)), (0, .ref (ad 0)), (1, .int x1), (2, .int x2)]) (pc := 147) E.1 E.2.1 dX8_swap_147 hl (k := 3) rfl rfl (by decide) rfl (fun ls hl => ?_)
      refine lv_goto (tgt := 94) (pc := 150) E.1 E.2.1 dX8_swap_150 (by decide) ?_
      exact hk94 (u8_now s w13) x1 x2 (x3 + 1) z hw (lv_sub hl [1, 2, 3, 0] rfl) hf
set_option maxHeartbeats 4000000 in
set_option maxRecDepth 100000 in
theorem wl_X8_swap_p94 {p : Program} {l : Launch} {e : Env} {sS : State} {m : MethodId} {args : Array Value} {below : List Frame} {meth : Method} {c : Code} {G : xG} {W0 : va_W} {ad : Nat → Nat}   (E : xE p sS m args c cX8_swap 5 RX8 G (x_in W0)) (hr : meth.sig.returnType = (some .boolean)) (hk : meth.locks = false)  : ∀ (s' : S8) (x1' : Int32) (x2' : Int32) (x3' : Int32) (z : Int32 × S8) {H : Heap} {locs : List Loc} {ls : Array Slot}, xW G (x_in W0) sS.heap (cells8 G ad s') H locs → lv_has ls 5 [(0, .ref (ad 0)), (1, .int x1'), (2, .int x2'), (3, .int x3')] → lp_X8_swap_p94  s' x1' x2' x3' = some z → W p l e (rm_X8_swap) sS m args below meth c H locs 0 0 (MQ below (xQ G W0 (cells8 G ad z.2) (some (.int z.1))) args sS 0 0 (x_in W0)) (F0 m 94 ls []) := by
  intro s x1 x2 x3 z H locs ls hw hl hf
  exact x_loop_W (P := fun (q : S8 × Int32 × Int32 × Int32) (z : Int32 × S8) => ∀ {H : Heap} {locs : List Loc} {ls : Array Slot}, xW G (x_in W0) sS.heap (cells8 G ad q.1) H locs → lv_has ls 5 [(0, .ref (ad 0)), (1, .int q.2.1), (2, .int q.2.2.1), (3, .int q.2.2.2)] → W p l e (rm_X8_swap) sS m args below meth c H locs 0 0 (MQ below (xQ G W0 (cells8 G ad z.2) (some (.int z.1))) args sS 0 0 (x_in W0)) (F0 m 94 ls [])) (fun k hkk q z hf H locs ls hw hl => w_X8_swap_p94 E hr hk  (fun s x1 x2 x3 z H locs ls hw hl hf => hkk (s, x1, x2, x3) z hf hw hl) q.1 q.2.1 q.2.2.1 q.2.2.2 z hw hl hf) FU (s, x1, x2, x3) z hf hw hl
set_option maxHeartbeats 4000000 in
set_option maxRecDepth 100000 in
theorem w_X8_swap_p29 {p : Program} {l : Launch} {e : Env} {sS : State} {m : MethodId} {args : Array Value} {below : List Frame} {meth : Method} {c : Code} {G : xG} {W0 : va_W} {ad : Nat → Nat}  {k29 : S8 → Int32 → Int32 → Int32 → Option (Int32 × S8)} (E : xE p sS m args c cX8_swap 5 RX8 G (x_in W0)) (hr : meth.sig.returnType = (some .boolean)) (hk : meth.locks = false) (hk29 : ∀ (s' : S8) (x1' : Int32) (x2' : Int32) (x3' : Int32) (z : Int32 × S8) {H : Heap} {locs : List Loc} {ls : Array Slot}, xW G (x_in W0) sS.heap (cells8 G ad s') H locs → lv_has ls 5 [(0, .ref (ad 0)), (1, .int x1'), (2, .int x2'), (3, .int x3')] → k29  s' x1' x2' x3' = some z → W p l e (rm_X8_swap) sS m args below meth c H locs 0 0 (MQ below (xQ G W0 (cells8 G ad z.2) (some (.int z.1))) args sS 0 0 (x_in W0)) (F0 m 29 ls [])) : ∀ (s' : S8) (x1' : Int32) (x2' : Int32) (x3' : Int32) (z : Int32 × S8) {H : Heap} {locs : List Loc} {ls : Array Slot}, xW G (x_in W0) sS.heap (cells8 G ad s') H locs → lv_has ls 5 [(0, .ref (ad 0)), (1, .int x1'), (2, .int x2'), (3, .int x3')] → f_X8_swap_p29 k29 s' x1' x2' x3' = some z → W p l e (rm_X8_swap) sS m args below meth c H locs 0 0 (MQ below (xQ G W0 (cells8 G ad z.2) (some (.int z.1))) args sS 0 0 (x_in W0)) (F0 m 29 ls []) := by
  intro s x1 x2 x3 z H locs ls hw hl hf
  unfold f_X8_swap_p29 at hf
  refine lv_iload_n (pc := 29) E.1 E.2.1 dX8_swap_29 rfl (lv_at hl 3 rfl) ?_
  refine lv_iconst (v := 2) (pc := 30) E.1 E.2.1 dX8_swap_30 (by decide) ?_
  refine lv_icmp_ge (tgt := 92) (pc := 31) E.1 E.2.1 dX8_swap_31 (by decide) (fun q1 => ?_) (fun q1 => ?_)
  · have hf := x_pos q1 hf
    refine lv_iconst (v := 0) (pc := 92) E.1 E.2.1 dX8_swap_92 (by decide) ?_
    refine lv_istore_n (lv' := [(3, .int 0), (0, .ref (ad 0)), (1, .int x1), (2, .int x2)]) (pc := 93) E.1 E.2.1 dX8_swap_93 rfl hl (by decide) rfl (fun ls hl => ?_)
    exact wl_X8_swap_p94 E hr hk  s x1 x2 0 z hw (lv_sub hl [1, 2, 3, 0] rfl) hf
  · have hf := x_neg q1 hf
    refine lv_aload_n (pc := 34) E.1 E.2.1 dX8_swap_34 rfl (lv_at hl 0 rfl) ?_
    refine xg_X8_13 (pc := 35) (v := .ref (ad 1)) E hw 0 rfl rfl dX8_swap_35 ?_
    refine lv_iconst (v := 4) (pc := 38) E.1 E.2.1 dX8_swap_38 (by decide) ?_
    refine lv_iconst (v := 2) (pc := 39) E.1 E.2.1 dX8_swap_39 (by decide) ?_
    refine lv_iload_n (pc := 40) E.1 E.2.1 dX8_swap_40 rfl (lv_at hl 1 rfl) ?_
    refine lv_imul (pc := 41) E.1 E.2.1 dX8_swap_41 ?_
    refine lv_iadd (pc := 42) E.1 E.2.1 dX8_swap_42 ?_
    refine lv_iload_n (pc := 43) E.1 E.2.1 dX8_swap_43 rfl (lv_at hl 3 rfl) ?_
    refine lv_iadd (pc := 44) E.1 E.2.1 dX8_swap_44 ?_
    obtain ⟨v3, g2, hf⟩ := x_bind hf
    refine x_iald (pc := 45) E hw 1 rfl g2 dX8_swap_45 ?_
    refine lv_istore (lv' := [(4, .int v3), (0, .ref (ad 0)), (1, .int x1), (2, .int x2), (3, .int x3)]) (pc := 46) E.1 E.2.1 dX8_swap_46 hl (by decide) rfl (fun ls hl => ?_)
    refine lv_aload_n (pc := 48) E.1 E.2.1 dX8_swap_48 rfl (lv_at hl 1 rfl) ?_
    refine xg_X8_13 (pc := 49) (v := .ref (ad 1)) E hw 0 rfl rfl dX8_swap_49 ?_
    refine lv_iconst (v := 4) (pc := 52) E.1 E.2.1 dX8_swap_52 (by decide) ?_
    refine lv_iconst (v := 2) (pc := 53) E.1 E.2.1 dX8_swap_53 (by decide) ?_
    refine lv_iload_n (pc := 54) E.1 E.2.1 dX8_swap_54 rfl (lv_at hl 2 rfl) ?_
    refine lv_imul (pc := 55) E.1 E.2.1 dX8_swap_55 ?_
    refine lv_iadd (pc := 56) E.1 E.2.1 dX8_swap_56 ?_
    refine lv_iload_n (pc := 57) E.1 E.2.1 dX8_swap_57 rfl (lv_at hl 4 rfl) ?_
    refine lv_iadd (pc := 58) E.1 E.2.1 dX8_swap_58 ?_
    refine lv_aload_n (pc := 59) E.1 E.2.1 dX8_swap_59 rfl (lv_at hl 1 rfl) ?_
    refine xg_X8_13 (pc := 60) (v := .ref (ad 1)) E hw 0 rfl rfl dX8_swap_60 ?_
    refine lv_iconst (v := 4) (pc := 63) E.1 E.2.1 dX8_swap_63 (by decide) ?_
    refine lv_iconst (v := 2) (pc := 64) E.1 E.2.1 dX8_swap_64 (by decide) ?_
    refine lv_iload_n (pc := 65) E.1 E.2.1 dX8_swap_65 rfl (lv_at hl 3 rfl) ?_
    refine lv_imul (pc := 66) E.1 E.2.1 dX8_swap_66 ?_
    refine lv_iadd (pc := 67) E.1 E.2.1 dX8_swap_67 ?_
    refine lv_iload_n (pc := 68) E.1 E.2.1 dX8_swap_68 rfl (lv_at hl 4 rfl) ?_
    refine lv_iadd (pc := 69) E.1 E.2.1 dX8_swap_69 ?_
    obtain ⟨v5, g4, hf⟩ := x_bind hf
    refine x_iald (pc := 70) E hw 1 rfl g4 dX8_swap_70 ?_
    obtain ⟨w7, g6, hf⟩ := x_bind hf
    refine x_iast (pc := 71) (ws' := (cells8 G ad (u8_now s w7))) E hw 1 rfl g6 rfl dX8_swap_71 (fun H locs hw => ?_)
    refine lv_aload_n (pc := 72) E.1 E.2.1 dX8_swap_72 rfl (lv_at hl 1 rfl) ?_
    refine xg_X8_13 (pc := 73) (v := .ref (ad 1)) E hw 0 rfl rfl dX8_swap_73 ?_
    refine lv_iconst (v := 4) (pc := 76) E.1 E.2.1 dX8_swap_76 (by decide) ?_
    refine lv_iconst (v := 2) (pc := 77) E.1 E.2.1 dX8_swap_77 (by decide) ?_
    refine lv_iload_n (pc := 78) E.1 E.2.1 dX8_swap_78 rfl (lv_at hl 3 rfl) ?_
    refine lv_imul (pc := 79) E.1 E.2.1 dX8_swap_79 ?_
    refine lv_iadd (pc := 80) E.1 E.2.1 dX8_swap_80 ?_
    refine lv_iload_n (pc := 81) E.1 E.2.1 dX8_swap_81 rfl (lv_at hl 4 rfl) ?_
    refine lv_iadd (pc := 82) E.1 E.2.1 dX8_swap_82 ?_
    refine lv_iload (pc := 83) E.1 E.2.1 dX8_swap_83 (lv_at hl 0 rfl) ?_
    obtain ⟨w9, g8, hf⟩ := x_bind hf
    refine x_iast (pc := 85) (ws' := (cells8 G ad (u8_now (u8_now s w7) w9))) E hw 1 rfl g8 rfl dX8_swap_85 (fun H locs hw => ?_)
    refine lv_iinc (v := (x3 + 1)) (lv' := [(3, .int (x3 + 1)), (4, .int v3), (0, .ref (ad 0)), (1, .int x1), (2, .int x2)]) (pc := 86) E.1 E.2.1 dX8_swap_86 hl (k := 4) rfl rfl (by decide) rfl (fun ls hl => ?_)
    refine lv_goto (tgt := 29) (pc := 89) E.1 E.2.1 dX8_swap_89 (by decide) ?_
    exact hk29 (u8_now (u8_now s w7) w9) x1 x2 (x3 + 1) z hw (lv_sub hl [2, 3, 4, 0] rfl) hf
set_option maxHeartbeats 4000000 in
set_option maxRecDepth 100000 in
theorem wl_X8_swap_p29 {p : Program} {l : Launch} {e : Env} {sS : State} {m : MethodId} {args : Array Value} {below : List Frame} {meth : Method} {c : Code} {G : xG} {W0 : va_W} {ad : Nat → Nat}   (E : xE p sS m args c cX8_swap 5 RX8 G (x_in W0)) (hr : meth.sig.returnType = (some .boolean)) (hk : meth.locks = false)  : ∀ (s' : S8) (x1' : Int32) (x2' : Int32) (x3' : Int32) (z : Int32 × S8) {H : Heap} {locs : List Loc} {ls : Array Slot}, xW G (x_in W0) sS.heap (cells8 G ad s') H locs → lv_has ls 5 [(0, .ref (ad 0)), (1, .int x1'), (2, .int x2'), (3, .int x3')] → lp_X8_swap_p29  s' x1' x2' x3' = some z → W p l e (rm_X8_swap) sS m args below meth c H locs 0 0 (MQ below (xQ G W0 (cells8 G ad z.2) (some (.int z.1))) args sS 0 0 (x_in W0)) (F0 m 29 ls []) := by
  intro s x1 x2 x3 z H locs ls hw hl hf
  exact x_loop_W (P := fun (q : S8 × Int32 × Int32 × Int32) (z : Int32 × S8) => ∀ {H : Heap} {locs : List Loc} {ls : Array Slot}, xW G (x_in W0) sS.heap (cells8 G ad q.1) H locs → lv_has ls 5 [(0, .ref (ad 0)), (1, .int q.2.1), (2, .int q.2.2.1), (3, .int q.2.2.2)] → W p l e (rm_X8_swap) sS m args below meth c H locs 0 0 (MQ below (xQ G W0 (cells8 G ad z.2) (some (.int z.1))) args sS 0 0 (x_in W0)) (F0 m 29 ls [])) (fun k hkk q z hf H locs ls hw hl => w_X8_swap_p29 E hr hk  (fun s x1 x2 x3 z H locs ls hw hl hf => hkk (s, x1, x2, x3) z hf hw hl) q.1 q.2.1 q.2.2.1 q.2.2.2 z hw hl hf) FU (s, x1, x2, x3) z hf hw hl
set_option maxHeartbeats 4000000 in
set_option maxRecDepth 100000 in
theorem w_X8_swap_p0 {p : Program} {l : Launch} {e : Env} {sS : State} {m : MethodId} {args : Array Value} {below : List Frame} {meth : Method} {c : Code} {G : xG} {W0 : va_W} {ad : Nat → Nat}   (E : xE p sS m args c cX8_swap 5 RX8 G (x_in W0)) (hr : meth.sig.returnType = (some .boolean)) (hk : meth.locks = false)  : ∀ (s' : S8) (x1' : Int32) (x2' : Int32) (z : Int32 × S8) {H : Heap} {locs : List Loc} {ls : Array Slot}, xW G (x_in W0) sS.heap (cells8 G ad s') H locs → lv_has ls 5 [(0, .ref (ad 0)), (1, .int x1'), (2, .int x2')] → f_X8_swap  s' x1' x2' = some z → W p l e (rm_X8_swap) sS m args below meth c H locs 0 0 (MQ below (xQ G W0 (cells8 G ad z.2) (some (.int z.1))) args sS 0 0 (x_in W0)) (F0 m 0 ls []) := by
  intro s x1 x2 z H locs ls hw hl hf
  unfold f_X8_swap at hf
  refine lv_aload_n (pc := 0) E.1 E.2.1 dX8_swap_0 rfl (lv_at hl 0 rfl) ?_
  refine lv_iload_n (pc := 1) E.1 E.2.1 dX8_swap_1 rfl (lv_at hl 1 rfl) ?_
  obtain ⟨v1, g2, hf⟩ := x_bind hf
  refine x_callVA (pc := 2) (As := [.int x1]) (rest := []) (st1 := [.int v1]) (ws' := (cells8 G ad s)) E hw hl (c_X8_isFleet l G ad s x1 g2) xv_X8_115 xd_X8_isFleet rfl rfl ⟨Nat.le_of_ble_eq_true rfl, Nat.le_of_ble_eq_true rfl⟩ (q0 := 0) rfl rfl rfl rfl (Nat.le_of_ble_eq_true rfl) rfl rfl dX8_swap_2 (fun H locs hw => ?_)
  refine lv_if_eq (tgt := 21) (pc := 5) E.1 E.2.1 dX8_swap_5 (by decide) (fun q3 => ?_) (fun q3 => ?_)
  · have hf := x_pos q3 hf
    refine lv_iconst (v := 0) (pc := 21) E.1 E.2.1 dX8_swap_21 (by decide) ?_
    obtain rfl := Option.some.inj hf
    exact x_retz (pc := 22) (v := 0) (r := 0) E hr hk hw (by decide) dX8_swap_22
  · have hf := x_neg q3 hf
    refine lv_aload_n (pc := 8) E.1 E.2.1 dX8_swap_8 rfl (lv_at hl 0 rfl) ?_
    refine lv_iload_n (pc := 9) E.1 E.2.1 dX8_swap_9 rfl (lv_at hl 2 rfl) ?_
    obtain ⟨v4, g5, hf⟩ := x_bind hf
    refine x_callVA (pc := 10) (As := [.int x2]) (rest := []) (st1 := [.int v4]) (ws' := (cells8 G ad s)) E hw hl (c_X8_isFleet l G ad s x2 g5) xv_X8_115 xd_X8_isFleet rfl rfl ⟨Nat.le_of_ble_eq_true rfl, Nat.le_of_ble_eq_true rfl⟩ (q0 := 0) rfl rfl rfl rfl (Nat.le_of_ble_eq_true rfl) rfl rfl dX8_swap_10 (fun H locs hw => ?_)
    refine lv_if_eq (tgt := 21) (pc := 13) E.1 E.2.1 dX8_swap_13 (by decide) (fun q6 => ?_) (fun q6 => ?_)
    · have hf := x_pos q6 hf
      refine lv_iconst (v := 0) (pc := 21) E.1 E.2.1 dX8_swap_21 (by decide) ?_
      obtain rfl := Option.some.inj hf
      exact x_retz (pc := 22) (v := 0) (r := 0) E hr hk hw (by decide) dX8_swap_22
    · have hf := x_neg q6 hf
      refine lv_iload_n (pc := 16) E.1 E.2.1 dX8_swap_16 rfl (lv_at hl 1 rfl) ?_
      refine lv_iload_n (pc := 17) E.1 E.2.1 dX8_swap_17 rfl (lv_at hl 2 rfl) ?_
      refine lv_icmp_ne (tgt := 23) (pc := 18) E.1 E.2.1 dX8_swap_18 (by decide) (fun q7 => ?_) (fun q7 => ?_)
      · have hf := x_neg q7 hf
        refine lv_aload_n (pc := 23) E.1 E.2.1 dX8_swap_23 rfl (lv_at hl 0 rfl) ?_
        obtain ⟨v8, g9, hf⟩ := x_bind hf
        refine x_callVA (pc := 24) (As := []) (rest := []) (st1 := []) (ws' := (cells8 G ad v8)) E hw hl (c_X8_keeps l G ad s g9) xv_X8_112 xd_X8_keeps rfl rfl ⟨Nat.le_of_ble_eq_true rfl, Nat.le_of_ble_eq_true rfl⟩ (q0 := 0) rfl rfl rfl rfl (Nat.le_of_ble_eq_true rfl) rfl rfl dX8_swap_24 (fun H locs hw => ?_)
        refine lv_iconst (v := 0) (pc := 27) E.1 E.2.1 dX8_swap_27 (by decide) ?_
        refine lv_istore_n (lv' := [(3, .int 0), (0, .ref (ad 0)), (1, .int x1), (2, .int x2)]) (pc := 28) E.1 E.2.1 dX8_swap_28 rfl hl (by decide) rfl (fun ls hl => ?_)
        exact wl_X8_swap_p29 E hr hk  v8 x1 x2 0 z hw (lv_sub hl [1, 2, 3, 0] rfl) hf
      · have hf := x_pos q7 hf
        refine lv_iconst (v := 0) (pc := 21) E.1 E.2.1 dX8_swap_21 (by decide) ?_
        obtain rfl := Option.some.inj hf
        exact x_retz (pc := 22) (v := 0) (r := 0) E hr hk hw (by decide) dX8_swap_22
set_option maxHeartbeats 4000000 in
set_option maxRecDepth 100000 in
theorem c_X8_swap (l : Launch) (G : xG) (ad : Nat → Nat) (s : S8) (x1 : Int32) (x2 : Int32) {z : Int32 × S8} (hf : f_X8_swap s x1 x2 = some z) : xC l yX8_swap cX8_swap 5 (some .boolean) (rm_X8_swap) G [.ref (ad 0), .int x1, .int x2] (cells8 G ad s) (some (.int z.1)) (cells8 G ad z.2) :=
  x_met (by decide) (Nat.le_of_ble_eq_true rfl) (fun p e sS m below meth c E hr hk ls hl hw => w_X8_swap_p0 E hr hk s x1 x2 z hw hl hf)
set_option maxHeartbeats 4000000 in
set_option maxRecDepth 100000 in
theorem w_X8_scaled_p0 {p : Program} {l : Launch} {e : Env} {sS : State} {m : MethodId} {args : Array Value} {below : List Frame} {meth : Method} {c : Code} {G : xG} {W0 : va_W}    (E : xE p sS m args c cX8_scaled 3 RX8 G (x_in W0)) (hr : meth.sig.returnType = (some .int)) (hk : meth.locks = false)  : ∀ (x0' : Int32) (x1' : Int32) (z : Int32) {H : Heap} {locs : List Loc} {ls : Array Slot}, xW G (x_in W0) sS.heap [] H locs → lv_has ls 3 [(0, .int x0'), (1, .int x1')] → f_X8_scaled  x0' x1' = some z → W p l e (rm_X8_scaled) sS m args below meth c H locs 0 0 (MQ below (xQ G W0 [] (some (.int z))) args sS 0 0 (x_in W0)) (F0 m 0 ls []) := by
  intro x0 x1 z H locs ls hw hl hf
  unfold f_X8_scaled at hf
  refine lv_iload_n (pc := 0) E.1 E.2.1 dX8_scaled_0 rfl (lv_at hl 0 rfl) ?_
  refine lv_iload_n (pc := 1) E.1 E.2.1 dX8_scaled_1 rfl (lv_at hl 1 rfl) ?_
  refine lv_imul (pc := 2) E.1 E.2.1 dX8_scaled_2 ?_
  refine lv_bipush (v := 100) (pc := 3) E.1 E.2.1 dX8_scaled_3 (by decide) ?_
  refine lv_idiv (pc := 5) E.1 E.2.1 dX8_scaled_5 (by decide) ?_
  refine lv_istore_n (lv' := [(2, .int ((x0 * x1) / 100)), (0, .int x0), (1, .int x1)]) (pc := 6) E.1 E.2.1 dX8_scaled_6 rfl hl (by decide) rfl (fun ls hl => ?_)
  refine lv_iload_n (pc := 7) E.1 E.2.1 dX8_scaled_7 rfl (lv_at hl 0 rfl) ?_
  refine lv_iconst (v := 1) (pc := 8) E.1 E.2.1 dX8_scaled_8 (by decide) ?_
  refine lv_icmp_ge (tgt := 16) (pc := 9) E.1 E.2.1 dX8_scaled_9 (by decide) (fun q1 => ?_) (fun q1 => ?_)
  · have hf := x_pos q1 hf
    refine lv_iload_n (pc := 16) E.1 E.2.1 dX8_scaled_16 rfl (lv_at hl 0 rfl) ?_
    refine lv_bipush (v := 99) (pc := 17) E.1 E.2.1 dX8_scaled_17 (by decide) ?_
    refine lv_icmp_le (tgt := 27) (pc := 19) E.1 E.2.1 dX8_scaled_19 (by decide) (fun q2 => ?_) (fun q2 => ?_)
    · have hf := x_pos q2 hf
      refine lv_iload_n (pc := 27) E.1 E.2.1 dX8_scaled_27 rfl (lv_at hl 0 rfl) ?_
      obtain rfl := Option.some.inj hf
      exact x_reti (pc := 28) E hr hk hw dX8_scaled_28
    · have hf := x_neg q2 hf
      refine lv_bipush (v := 99) (pc := 22) E.1 E.2.1 dX8_scaled_22 (by decide) ?_
      refine lv_goto (tgt := 28) (pc := 24) E.1 E.2.1 dX8_scaled_24 (by decide) ?_
      obtain rfl := Option.some.inj hf
      exact x_reti (pc := 28) E hr hk hw dX8_scaled_28
  · have hf := x_neg q1 hf
    refine lv_iconst (v := 1) (pc := 12) E.1 E.2.1 dX8_scaled_12 (by decide) ?_
    refine lv_goto (tgt := 28) (pc := 13) E.1 E.2.1 dX8_scaled_13 (by decide) ?_
    obtain rfl := Option.some.inj hf
    exact x_reti (pc := 28) E hr hk hw dX8_scaled_28
set_option maxHeartbeats 4000000 in
set_option maxRecDepth 100000 in
theorem c_X8_scaled (l : Launch) (G : xG)  (x0 : Int32) (x1 : Int32) {z : Int32} (hf : f_X8_scaled x0 x1 = some z) : xC l yX8_scaled cX8_scaled 3 (some .int) (rm_X8_scaled) G [.int x0, .int x1] [] (some (.int z)) [] :=
  x_met (by decide) (Nat.le_of_ble_eq_true rfl) (fun p e sS m below meth c E hr hk ls hl hw => w_X8_scaled_p0 E hr hk x0 x1 z hw hl hf)
set_option maxHeartbeats 4000000 in
set_option maxRecDepth 100000 in
theorem w_X8_scale_p86 {p : Program} {l : Launch} {e : Env} {sS : State} {m : MethodId} {args : Array Value} {below : List Frame} {meth : Method} {c : Code} {G : xG} {W0 : va_W} {ad : Nat → Nat}  {k86 : S8 → Int32 → Int32 → Int32 → Int32 → Option (Int32 × S8)} (E : xE p sS m args c cX8_scale 5 RX8 G (x_in W0)) (hr : meth.sig.returnType = (some .int)) (hk : meth.locks = false) (hk86 : ∀ (s' : S8) (x1' : Int32) (x2' : Int32) (x3' : Int32) (x4' : Int32) (z : Int32 × S8) {H : Heap} {locs : List Loc} {ls : Array Slot}, xW G (x_in W0) sS.heap (cells8 G ad s') H locs → lv_has ls 5 [(0, .ref (ad 0)), (1, .int x1'), (2, .int x2'), (3, .int x3'), (4, .int x4')] → k86  s' x1' x2' x3' x4' = some z → W p l e (rm_X8_scale) sS m args below meth c H locs 0 0 (MQ below (xQ G W0 (cells8 G ad z.2) (some (.int z.1))) args sS 0 0 (x_in W0)) (F0 m 86 ls [])) : ∀ (s' : S8) (x1' : Int32) (x2' : Int32) (x3' : Int32) (x4' : Int32) (z : Int32 × S8) {H : Heap} {locs : List Loc} {ls : Array Slot}, xW G (x_in W0) sS.heap (cells8 G ad s') H locs → lv_has ls 5 [(0, .ref (ad 0)), (1, .int x1'), (2, .int x2'), (3, .int x3'), (4, .int x4')] → f_X8_scale_p86 k86 s' x1' x2' x3' x4' = some z → W p l e (rm_X8_scale) sS m args below meth c H locs 0 0 (MQ below (xQ G W0 (cells8 G ad z.2) (some (.int z.1))) args sS 0 0 (x_in W0)) (F0 m 86 ls []) := by
  intro s x1 x2 x3 x4 z H locs ls hw hl hf
  unfold f_X8_scale_p86 at hf
  refine lv_iload (pc := 86) E.1 E.2.1 dX8_scale_86 (lv_at hl 4 rfl) ?_
  refine lv_aload_n (pc := 88) E.1 E.2.1 dX8_scale_88 rfl (lv_at hl 0 rfl) ?_
  obtain ⟨v1, g2, hf⟩ := x_bind hf
  refine x_callVA (pc := 89) (As := []) (rest := [.int x4]) (st1 := [.int v1, .int x4]) (ws' := (cells8 G ad s)) E hw hl (c_X8_claims l G ad s g2) xv_X8_88 xd_X8_claims rfl rfl ⟨Nat.le_of_ble_eq_true rfl, Nat.le_of_ble_eq_true rfl⟩ (q0 := 0) rfl rfl rfl rfl (Nat.le_of_ble_eq_true rfl) rfl rfl dX8_scale_89 (fun H locs hw => ?_)
  refine lv_icmp_ge (tgt := 135) (pc := 92) E.1 E.2.1 dX8_scale_92 (by decide) (fun q3 => ?_) (fun q3 => ?_)
  · have hf := x_pos q3 hf
    refine lv_iload_n (pc := 135) E.1 E.2.1 dX8_scale_135 rfl (lv_at hl 3 rfl) ?_
    obtain rfl := Option.some.inj hf
    exact x_reti (pc := 136) E hr hk hw dX8_scale_136
  · have hf := x_neg q3 hf
    refine lv_aload_n (pc := 95) E.1 E.2.1 dX8_scale_95 rfl (lv_at hl 0 rfl) ?_
    refine lv_iload (pc := 96) E.1 E.2.1 dX8_scale_96 (lv_at hl 4 rfl) ?_
    obtain ⟨v4, g5, hf⟩ := x_bind hf
    refine x_callVA (pc := 98) (As := [.int x4]) (rest := []) (st1 := [.int v4]) (ws' := (cells8 G ad s)) E hw hl (c_X8_fleetOf l G ad s x4 g5) xv_X8_98 xd_X8_fleetOf rfl rfl ⟨Nat.le_of_ble_eq_true rfl, Nat.le_of_ble_eq_true rfl⟩ (q0 := 0) rfl rfl rfl rfl (Nat.le_of_ble_eq_true rfl) rfl rfl dX8_scale_98 (fun H locs hw => ?_)
    refine lv_iload_n (pc := 101) E.1 E.2.1 dX8_scale_101 rfl (lv_at hl 1 rfl) ?_
    refine lv_icmp_ne (tgt := 129) (pc := 102) E.1 E.2.1 dX8_scale_102 (by decide) (fun q6 => ?_) (fun q6 => ?_)
    · have hf := x_neg q6 hf
      refine lv_iinc (v := (x4 + 1)) (lv' := [(4, .int (x4 + 1)), (0, .ref (ad 0)), (1, .int x1), (2, .int x2), (3, .int x3)]) (pc := 129) E.1 E.2.1 dX8_scale_129 hl (k := 4) rfl rfl (by decide) rfl (fun ls hl => ?_)
      refine lv_goto (tgt := 86) (pc := 132) E.1 E.2.1 dX8_scale_132 (by decide) ?_
      exact hk86 s x1 x2 x3 (x4 + 1) z hw (lv_sub hl [1, 2, 3, 4, 0] rfl) hf
    · have hf := x_pos q6 hf
      refine lv_aload_n (pc := 105) E.1 E.2.1 dX8_scale_105 rfl (lv_at hl 0 rfl) ?_
      refine xg_X8_13 (pc := 106) (v := .ref (ad 1)) E hw 0 rfl rfl dX8_scale_106 ?_
      refine lv_bipush (v := 20) (pc := 109) E.1 E.2.1 dX8_scale_109 (by decide) ?_
      refine lv_iconst (v := 3) (pc := 111) E.1 E.2.1 dX8_scale_111 (by decide) ?_
      refine lv_iload (pc := 112) E.1 E.2.1 dX8_scale_112 (lv_at hl 4 rfl) ?_
      refine lv_imul (pc := 114) E.1 E.2.1 dX8_scale_114 ?_
      refine lv_iadd (pc := 115) E.1 E.2.1 dX8_scale_115 ?_
      refine lv_iconst (v := 2) (pc := 116) E.1 E.2.1 dX8_scale_116 (by decide) ?_
      refine lv_iadd (pc := 117) E.1 E.2.1 dX8_scale_117 ?_
      refine lv_aload_n (pc := 118) E.1 E.2.1 dX8_scale_118 rfl (lv_at hl 0 rfl) ?_
      refine lv_iload (pc := 119) E.1 E.2.1 dX8_scale_119 (lv_at hl 4 rfl) ?_
      obtain ⟨v7, g8, hf⟩ := x_bind hf
      refine x_callVA (pc := 121) (As := [.int x4]) (rest := [.int ((20 + (3 * x4)) + 2), .ref (ad 1)]) (st1 := [.int v7, .int ((20 + (3 * x4)) + 2), .ref (ad 1)]) (ws' := (cells8 G ad s)) E hw hl (c_X8_amountOf l G ad s x4 g8) xv_X8_95 xd_X8_amountOf rfl rfl ⟨Nat.le_of_ble_eq_true rfl, Nat.le_of_ble_eq_true rfl⟩ (q0 := 0) rfl rfl rfl rfl (Nat.le_of_ble_eq_true rfl) rfl rfl dX8_scale_121 (fun H locs hw => ?_)
      refine lv_iload_n (pc := 124) E.1 E.2.1 dX8_scale_124 rfl (lv_at hl 2 rfl) ?_
      obtain ⟨v9, g10, hf⟩ := x_bind hf
      refine x_callS0 (pc := 125) (As := [.int v7, .int x2]) (rest := [.int ((20 + (3 * x4)) + 2), .ref (ad 1)]) (st1 := [.int v9, .int ((20 + (3 * x4)) + 2), .ref (ad 1)]) E hw hl (c_X8_scaled l G  v7 x2 g10) xs_X8_154 xd_X8_scaled rfl rfl ⟨Nat.le_of_ble_eq_true rfl, Nat.le_of_ble_eq_true rfl⟩ rfl rfl (Nat.le_of_ble_eq_true rfl) rfl dX8_scale_125 (fun H locs hw => ?_)
      obtain ⟨w12, g11, hf⟩ := x_bind hf
      refine x_iast (pc := 128) (ws' := (cells8 G ad (u8_now s w12))) E hw 1 rfl g11 rfl dX8_scale_128 (fun H locs hw => ?_)
      refine lv_iinc (v := (x4 + 1)) (lv' := [(4, .int (x4 + 1)), (0, .ref (ad 0)), (1, .int x1), (2, .int x2), (3, .int x3)]) (pc := 129) E.1 E.2.1 dX8_scale_129 hl (k := 4) rfl rfl (by decide) rfl (fun ls hl => ?_)
      refine lv_goto (tgt := 86) (pc := 132) E.1 E.2.1 dX8_scale_132 (by decide) ?_
      exact hk86 (u8_now s w12) x1 x2 x3 (x4 + 1) z hw (lv_sub hl [1, 2, 3, 4, 0] rfl) hf
set_option maxHeartbeats 4000000 in
set_option maxRecDepth 100000 in
theorem wl_X8_scale_p86 {p : Program} {l : Launch} {e : Env} {sS : State} {m : MethodId} {args : Array Value} {below : List Frame} {meth : Method} {c : Code} {G : xG} {W0 : va_W} {ad : Nat → Nat}   (E : xE p sS m args c cX8_scale 5 RX8 G (x_in W0)) (hr : meth.sig.returnType = (some .int)) (hk : meth.locks = false)  : ∀ (s' : S8) (x1' : Int32) (x2' : Int32) (x3' : Int32) (x4' : Int32) (z : Int32 × S8) {H : Heap} {locs : List Loc} {ls : Array Slot}, xW G (x_in W0) sS.heap (cells8 G ad s') H locs → lv_has ls 5 [(0, .ref (ad 0)), (1, .int x1'), (2, .int x2'), (3, .int x3'), (4, .int x4')] → lp_X8_scale_p86  s' x1' x2' x3' x4' = some z → W p l e (rm_X8_scale) sS m args below meth c H locs 0 0 (MQ below (xQ G W0 (cells8 G ad z.2) (some (.int z.1))) args sS 0 0 (x_in W0)) (F0 m 86 ls []) := by
  intro s x1 x2 x3 x4 z H locs ls hw hl hf
  exact x_loop_W (P := fun (q : S8 × Int32 × Int32 × Int32 × Int32) (z : Int32 × S8) => ∀ {H : Heap} {locs : List Loc} {ls : Array Slot}, xW G (x_in W0) sS.heap (cells8 G ad q.1) H locs → lv_has ls 5 [(0, .ref (ad 0)), (1, .int q.2.1), (2, .int q.2.2.1), (3, .int q.2.2.2.1), (4, .int q.2.2.2.2)] → W p l e (rm_X8_scale) sS m args below meth c H locs 0 0 (MQ below (xQ G W0 (cells8 G ad z.2) (some (.int z.1))) args sS 0 0 (x_in W0)) (F0 m 86 ls [])) (fun k hkk q z hf H locs ls hw hl => w_X8_scale_p86 E hr hk  (fun s x1 x2 x3 x4 z H locs ls hw hl hf => hkk (s, x1, x2, x3, x4) z hf hw hl) q.1 q.2.1 q.2.2.1 q.2.2.2.1 q.2.2.2.2 z hw hl hf) FU (s, x1, x2, x3, x4) z hf hw hl
set_option maxHeartbeats 4000000 in
set_option maxRecDepth 100000 in
theorem w_X8_scale_p26 {p : Program} {l : Launch} {e : Env} {sS : State} {m : MethodId} {args : Array Value} {below : List Frame} {meth : Method} {c : Code} {G : xG} {W0 : va_W} {ad : Nat → Nat}  {k26 : S8 → Int32 → Int32 → Int32 → Int32 → Option (Int32 × S8)} (E : xE p sS m args c cX8_scale 5 RX8 G (x_in W0)) (hr : meth.sig.returnType = (some .int)) (hk : meth.locks = false) (hk26 : ∀ (s' : S8) (x1' : Int32) (x2' : Int32) (x3' : Int32) (x4' : Int32) (z : Int32 × S8) {H : Heap} {locs : List Loc} {ls : Array Slot}, xW G (x_in W0) sS.heap (cells8 G ad s') H locs → lv_has ls 5 [(0, .ref (ad 0)), (1, .int x1'), (2, .int x2'), (3, .int x3'), (4, .int x4')] → k26  s' x1' x2' x3' x4' = some z → W p l e (rm_X8_scale) sS m args below meth c H locs 0 0 (MQ below (xQ G W0 (cells8 G ad z.2) (some (.int z.1))) args sS 0 0 (x_in W0)) (F0 m 26 ls [])) : ∀ (s' : S8) (x1' : Int32) (x2' : Int32) (x3' : Int32) (x4' : Int32) (z : Int32 × S8) {H : Heap} {locs : List Loc} {ls : Array Slot}, xW G (x_in W0) sS.heap (cells8 G ad s') H locs → lv_has ls 5 [(0, .ref (ad 0)), (1, .int x1'), (2, .int x2'), (3, .int x3'), (4, .int x4')] → f_X8_scale_p26 k26 s' x1' x2' x3' x4' = some z → W p l e (rm_X8_scale) sS m args below meth c H locs 0 0 (MQ below (xQ G W0 (cells8 G ad z.2) (some (.int z.1))) args sS 0 0 (x_in W0)) (F0 m 26 ls []) := by
  intro s x1 x2 x3 x4 z H locs ls hw hl hf
  unfold f_X8_scale_p26 at hf
  refine lv_iload (pc := 26) E.1 E.2.1 dX8_scale_26 (lv_at hl 4 rfl) ?_
  refine lv_aload_n (pc := 28) E.1 E.2.1 dX8_scale_28 rfl (lv_at hl 0 rfl) ?_
  obtain ⟨v1, g2, hf⟩ := x_bind hf
  refine x_callVA (pc := 29) (As := []) (rest := [.int x4]) (st1 := [.int v1, .int x4]) (ws' := (cells8 G ad s)) E hw hl (c_X8_claims l G ad s g2) xv_X8_88 xd_X8_claims rfl rfl ⟨Nat.le_of_ble_eq_true rfl, Nat.le_of_ble_eq_true rfl⟩ (q0 := 0) rfl rfl rfl rfl (Nat.le_of_ble_eq_true rfl) rfl rfl dX8_scale_29 (fun H locs hw => ?_)
  refine lv_icmp_ge (tgt := 73) (pc := 32) E.1 E.2.1 dX8_scale_32 (by decide) (fun q3 => ?_) (fun q3 => ?_)
  · have hf := x_pos q3 hf
    refine lv_iload_n (pc := 73) E.1 E.2.1 dX8_scale_73 rfl (lv_at hl 3 rfl) ?_
    refine lv_if_ne (tgt := 79) (pc := 74) E.1 E.2.1 dX8_scale_74 (by decide) (fun q4 => ?_) (fun q4 => ?_)
    · have hf := x_neg q4 hf
      refine lv_aload_n (pc := 79) E.1 E.2.1 dX8_scale_79 rfl (lv_at hl 0 rfl) ?_
      obtain ⟨v5, g6, hf⟩ := x_bind hf
      refine x_callVA (pc := 80) (As := []) (rest := []) (st1 := []) (ws' := (cells8 G ad v5)) E hw hl (c_X8_keeps l G ad s g6) xv_X8_112 xd_X8_keeps rfl rfl ⟨Nat.le_of_ble_eq_true rfl, Nat.le_of_ble_eq_true rfl⟩ (q0 := 0) rfl rfl rfl rfl (Nat.le_of_ble_eq_true rfl) rfl rfl dX8_scale_80 (fun H locs hw => ?_)
      refine lv_iconst (v := 0) (pc := 83) E.1 E.2.1 dX8_scale_83 (by decide) ?_
      refine lv_istore (lv' := [(4, .int 0), (0, .ref (ad 0)), (1, .int x1), (2, .int x2), (3, .int x3)]) (pc := 84) E.1 E.2.1 dX8_scale_84 hl (by decide) rfl (fun ls hl => ?_)
      exact wl_X8_scale_p86 E hr hk  v5 x1 x2 x3 0 z hw (lv_sub hl [1, 2, 3, 4, 0] rfl) hf
    · have hf := x_pos q4 hf
      refine lv_iconst (v := (-1)) (pc := 77) E.1 E.2.1 dX8_scale_77 (by decide) ?_
      obtain rfl := Option.some.inj hf
      exact x_reti (pc := 78) E hr hk hw dX8_scale_78
  · have hf := x_neg q3 hf
    refine lv_aload_n (pc := 35) E.1 E.2.1 dX8_scale_35 rfl (lv_at hl 0 rfl) ?_
    refine lv_iload (pc := 36) E.1 E.2.1 dX8_scale_36 (lv_at hl 4 rfl) ?_
    obtain ⟨v7, g8, hf⟩ := x_bind hf
    refine x_callVA (pc := 38) (As := [.int x4]) (rest := []) (st1 := [.int v7]) (ws' := (cells8 G ad s)) E hw hl (c_X8_fleetOf l G ad s x4 g8) xv_X8_98 xd_X8_fleetOf rfl rfl ⟨Nat.le_of_ble_eq_true rfl, Nat.le_of_ble_eq_true rfl⟩ (q0 := 0) rfl rfl rfl rfl (Nat.le_of_ble_eq_true rfl) rfl rfl dX8_scale_38 (fun H locs hw => ?_)
    refine lv_iload_n (pc := 41) E.1 E.2.1 dX8_scale_41 rfl (lv_at hl 1 rfl) ?_
    refine lv_icmp_ne (tgt := 67) (pc := 42) E.1 E.2.1 dX8_scale_42 (by decide) (fun q9 => ?_) (fun q9 => ?_)
    · have hf := x_neg q9 hf
      refine lv_iinc (v := (x4 + 1)) (lv' := [(4, .int (x4 + 1)), (0, .ref (ad 0)), (1, .int x1), (2, .int x2), (3, .int x3)]) (pc := 67) E.1 E.2.1 dX8_scale_67 hl (k := 4) rfl rfl (by decide) rfl (fun ls hl => ?_)
      refine lv_goto (tgt := 26) (pc := 70) E.1 E.2.1 dX8_scale_70 (by decide) ?_
      exact hk26 s x1 x2 x3 (x4 + 1) z hw (lv_sub hl [1, 2, 3, 4, 0] rfl) hf
    · have hf := x_pos q9 hf
      refine lv_aload_n (pc := 45) E.1 E.2.1 dX8_scale_45 rfl (lv_at hl 0 rfl) ?_
      refine lv_iload (pc := 46) E.1 E.2.1 dX8_scale_46 (lv_at hl 4 rfl) ?_
      obtain ⟨v10, g11, hf⟩ := x_bind hf
      refine x_callVA (pc := 48) (As := [.int x4]) (rest := []) (st1 := [.int v10]) (ws' := (cells8 G ad s)) E hw hl (c_X8_amountOf l G ad s x4 g11) xv_X8_95 xd_X8_amountOf rfl rfl ⟨Nat.le_of_ble_eq_true rfl, Nat.le_of_ble_eq_true rfl⟩ (q0 := 0) rfl rfl rfl rfl (Nat.le_of_ble_eq_true rfl) rfl rfl dX8_scale_48 (fun H locs hw => ?_)
      refine lv_iload_n (pc := 51) E.1 E.2.1 dX8_scale_51 rfl (lv_at hl 2 rfl) ?_
      obtain ⟨v12, g13, hf⟩ := x_bind hf
      refine x_callS0 (pc := 52) (As := [.int v10, .int x2]) (rest := []) (st1 := [.int v12]) E hw hl (c_X8_scaled l G  v10 x2 g13) xs_X8_154 xd_X8_scaled rfl rfl ⟨Nat.le_of_ble_eq_true rfl, Nat.le_of_ble_eq_true rfl⟩ rfl rfl (Nat.le_of_ble_eq_true rfl) rfl dX8_scale_52 (fun H locs hw => ?_)
      refine lv_aload_n (pc := 55) E.1 E.2.1 dX8_scale_55 rfl (lv_at hl 0 rfl) ?_
      refine lv_iload (pc := 56) E.1 E.2.1 dX8_scale_56 (lv_at hl 4 rfl) ?_
      obtain ⟨v14, g15, hf⟩ := x_bind hf
      refine x_callVA (pc := 58) (As := [.int x4]) (rest := [.int v12]) (st1 := [.int v14, .int v12]) (ws' := (cells8 G ad s)) E hw hl (c_X8_amountOf l G ad s x4 g15) xv_X8_95 xd_X8_amountOf rfl rfl ⟨Nat.le_of_ble_eq_true rfl, Nat.le_of_ble_eq_true rfl⟩ (q0 := 0) rfl rfl rfl rfl (Nat.le_of_ble_eq_true rfl) rfl rfl dX8_scale_58 (fun H locs hw => ?_)
      refine lv_icmp_eq (tgt := 67) (pc := 61) E.1 E.2.1 dX8_scale_61 (by decide) (fun q16 => ?_) (fun q16 => ?_)
      · have hf := x_pos q16 hf
        refine lv_iinc (v := (x4 + 1)) (lv' := [(4, .int (x4 + 1)), (0, .ref (ad 0)), (1, .int x1), (2, .int x2), (3, .int x3)]) (pc := 67) E.1 E.2.1 dX8_scale_67 hl (k := 4) rfl rfl (by decide) rfl (fun ls hl => ?_)
        refine lv_goto (tgt := 26) (pc := 70) E.1 E.2.1 dX8_scale_70 (by decide) ?_
        exact hk26 s x1 x2 x3 (x4 + 1) z hw (lv_sub hl [1, 2, 3, 4, 0] rfl) hf
      · have hf := x_neg q16 hf
        refine lv_iinc (v := (x3 + 1)) (lv' := [(3, .int (x3 + 1)), (0, .ref (ad 0)), (1, .int x1), (2, .int x2), (4, .int x4)]) (pc := 64) E.1 E.2.1 dX8_scale_64 hl (k := 3) rfl rfl (by decide) rfl (fun ls hl => ?_)
        refine lv_iinc (v := (x4 + 1)) (lv' := [(4, .int (x4 + 1)), (3, .int (x3 + 1)), (0, .ref (ad 0)), (1, .int x1), (2, .int x2)]) (pc := 67) E.1 E.2.1 dX8_scale_67 hl (k := 4) rfl rfl (by decide) rfl (fun ls hl => ?_)
        refine lv_goto (tgt := 26) (pc := 70) E.1 E.2.1 dX8_scale_70 (by decide) ?_
        exact hk26 s x1 x2 (x3 + 1) (x4 + 1) z hw (lv_sub hl [2, 3, 4, 1, 0] rfl) hf
set_option maxHeartbeats 4000000 in
set_option maxRecDepth 100000 in
theorem wl_X8_scale_p26 {p : Program} {l : Launch} {e : Env} {sS : State} {m : MethodId} {args : Array Value} {below : List Frame} {meth : Method} {c : Code} {G : xG} {W0 : va_W} {ad : Nat → Nat}   (E : xE p sS m args c cX8_scale 5 RX8 G (x_in W0)) (hr : meth.sig.returnType = (some .int)) (hk : meth.locks = false)  : ∀ (s' : S8) (x1' : Int32) (x2' : Int32) (x3' : Int32) (x4' : Int32) (z : Int32 × S8) {H : Heap} {locs : List Loc} {ls : Array Slot}, xW G (x_in W0) sS.heap (cells8 G ad s') H locs → lv_has ls 5 [(0, .ref (ad 0)), (1, .int x1'), (2, .int x2'), (3, .int x3'), (4, .int x4')] → lp_X8_scale_p26  s' x1' x2' x3' x4' = some z → W p l e (rm_X8_scale) sS m args below meth c H locs 0 0 (MQ below (xQ G W0 (cells8 G ad z.2) (some (.int z.1))) args sS 0 0 (x_in W0)) (F0 m 26 ls []) := by
  intro s x1 x2 x3 x4 z H locs ls hw hl hf
  exact x_loop_W (P := fun (q : S8 × Int32 × Int32 × Int32 × Int32) (z : Int32 × S8) => ∀ {H : Heap} {locs : List Loc} {ls : Array Slot}, xW G (x_in W0) sS.heap (cells8 G ad q.1) H locs → lv_has ls 5 [(0, .ref (ad 0)), (1, .int q.2.1), (2, .int q.2.2.1), (3, .int q.2.2.2.1), (4, .int q.2.2.2.2)] → W p l e (rm_X8_scale) sS m args below meth c H locs 0 0 (MQ below (xQ G W0 (cells8 G ad z.2) (some (.int z.1))) args sS 0 0 (x_in W0)) (F0 m 26 ls [])) (fun k hkk q z hf H locs ls hw hl => w_X8_scale_p26 E hr hk  (fun s x1 x2 x3 x4 z H locs ls hw hl hf => hkk (s, x1, x2, x3, x4) z hf hw hl) q.1 q.2.1 q.2.2.1 q.2.2.2.1 q.2.2.2.2 z hw hl hf) FU (s, x1, x2, x3, x4) z hf hw hl
set_option maxHeartbeats 4000000 in
set_option maxRecDepth 100000 in
theorem w_X8_scale_p0 {p : Program} {l : Launch} {e : Env} {sS : State} {m : MethodId} {args : Array Value} {below : List Frame} {meth : Method} {c : Code} {G : xG} {W0 : va_W} {ad : Nat → Nat}   (E : xE p sS m args c cX8_scale 5 RX8 G (x_in W0)) (hr : meth.sig.returnType = (some .int)) (hk : meth.locks = false)  : ∀ (s' : S8) (x1' : Int32) (x2' : Int32) (z : Int32 × S8) {H : Heap} {locs : List Loc} {ls : Array Slot}, xW G (x_in W0) sS.heap (cells8 G ad s') H locs → lv_has ls 5 [(0, .ref (ad 0)), (1, .int x1'), (2, .int x2')] → f_X8_scale  s' x1' x2' = some z → W p l e (rm_X8_scale) sS m args below meth c H locs 0 0 (MQ below (xQ G W0 (cells8 G ad z.2) (some (.int z.1))) args sS 0 0 (x_in W0)) (F0 m 0 ls []) := by
  intro s x1 x2 z H locs ls hw hl hf
  unfold f_X8_scale at hf
  refine lv_aload_n (pc := 0) E.1 E.2.1 dX8_scale_0 rfl (lv_at hl 0 rfl) ?_
  refine lv_iload_n (pc := 1) E.1 E.2.1 dX8_scale_1 rfl (lv_at hl 1 rfl) ?_
  obtain ⟨v1, g2, hf⟩ := x_bind hf
  refine x_callVA (pc := 2) (As := [.int x1]) (rest := []) (st1 := [.int v1]) (ws' := (cells8 G ad s)) E hw hl (c_X8_isFleet l G ad s x1 g2) xv_X8_115 xd_X8_isFleet rfl rfl ⟨Nat.le_of_ble_eq_true rfl, Nat.le_of_ble_eq_true rfl⟩ (q0 := 0) rfl rfl rfl rfl (Nat.le_of_ble_eq_true rfl) rfl rfl dX8_scale_2 (fun H locs hw => ?_)
  refine lv_if_eq (tgt := 19) (pc := 5) E.1 E.2.1 dX8_scale_5 (by decide) (fun q3 => ?_) (fun q3 => ?_)
  · have hf := x_pos q3 hf
    refine lv_iconst (v := (-1)) (pc := 19) E.1 E.2.1 dX8_scale_19 (by decide) ?_
    obtain rfl := Option.some.inj hf
    exact x_reti (pc := 20) E hr hk hw dX8_scale_20
  · have hf := x_neg q3 hf
    refine lv_iload_n (pc := 8) E.1 E.2.1 dX8_scale_8 rfl (lv_at hl 2 rfl) ?_
    refine lv_iconst (v := 1) (pc := 9) E.1 E.2.1 dX8_scale_9 (by decide) ?_
    refine lv_sipush (v := 900) (pc := 10) E.1 E.2.1 dX8_scale_10 (by decide) ?_
    obtain ⟨v4, g5, hf⟩ := x_bind hf
    refine x_callS0 (pc := 13) (As := [.int x2, .int 1, .int 900]) (rest := []) (st1 := [.int v4]) E hw hl (c_X8_in l G  x2 1 900 g5) xs_X8_84 xd_X8_in rfl rfl ⟨Nat.le_of_ble_eq_true rfl, Nat.le_of_ble_eq_true rfl⟩ rfl rfl (Nat.le_of_ble_eq_true rfl) rfl dX8_scale_13 (fun H locs hw => ?_)
    refine lv_if_ne (tgt := 21) (pc := 16) E.1 E.2.1 dX8_scale_16 (by decide) (fun q6 => ?_) (fun q6 => ?_)
    · have hf := x_neg q6 hf
      refine lv_iconst (v := 0) (pc := 21) E.1 E.2.1 dX8_scale_21 (by decide) ?_
      refine lv_istore_n (lv' := [(3, .int 0), (0, .ref (ad 0)), (1, .int x1), (2, .int x2)]) (pc := 22) E.1 E.2.1 dX8_scale_22 rfl hl (by decide) rfl (fun ls hl => ?_)
      refine lv_iconst (v := 0) (pc := 23) E.1 E.2.1 dX8_scale_23 (by decide) ?_
      refine lv_istore (lv' := [(4, .int 0), (3, .int 0), (0, .ref (ad 0)), (1, .int x1), (2, .int x2)]) (pc := 24) E.1 E.2.1 dX8_scale_24 hl (by decide) rfl (fun ls hl => ?_)
      exact wl_X8_scale_p26 E hr hk  s x1 x2 0 0 z hw (lv_sub hl [2, 3, 4, 1, 0] rfl) hf
    · have hf := x_pos q6 hf
      refine lv_iconst (v := (-1)) (pc := 19) E.1 E.2.1 dX8_scale_19 (by decide) ?_
      obtain rfl := Option.some.inj hf
      exact x_reti (pc := 20) E hr hk hw dX8_scale_20
set_option maxHeartbeats 4000000 in
set_option maxRecDepth 100000 in
theorem c_X8_scale (l : Launch) (G : xG) (ad : Nat → Nat) (s : S8) (x1 : Int32) (x2 : Int32) {z : Int32 × S8} (hf : f_X8_scale s x1 x2 = some z) : xC l yX8_scale cX8_scale 5 (some .int) (rm_X8_scale) G [.ref (ad 0), .int x1, .int x2] (cells8 G ad s) (some (.int z.1)) (cells8 G ad z.2) :=
  x_met (by decide) (Nat.le_of_ble_eq_true rfl) (fun p e sS m below meth c E hr hk ls hl hw => w_X8_scale_p0 E hr hk s x1 x2 z hw hl hf)
set_option maxHeartbeats 4000000 in
set_option maxRecDepth 100000 in
theorem w_X8_split_p112 {p : Program} {l : Launch} {e : Env} {sS : State} {m : MethodId} {args : Array Value} {below : List Frame} {meth : Method} {c : Code} {G : xG} {W0 : va_W} {ad : Nat → Nat}  {k112 : S8 → Int32 → Int32 → Int32 → Int32 → Option (Int32 × S8)} (E : xE p sS m args c cX8_split 5 RX8 G (x_in W0)) (hr : meth.sig.returnType = (some .int)) (hk : meth.locks = false) (hk112 : ∀ (s' : S8) (x1' : Int32) (x2' : Int32) (x3' : Int32) (x4' : Int32) (z : Int32 × S8) {H : Heap} {locs : List Loc} {ls : Array Slot}, xW G (x_in W0) sS.heap (cells8 G ad s') H locs → lv_has ls 5 [(0, .ref (ad 0)), (1, .int x1'), (2, .int x2'), (3, .int x3'), (4, .int x4')] → k112  s' x1' x2' x3' x4' = some z → W p l e (rm_X8_split) sS m args below meth c H locs 0 0 (MQ below (xQ G W0 (cells8 G ad z.2) (some (.int z.1))) args sS 0 0 (x_in W0)) (F0 m 112 ls [])) : ∀ (s' : S8) (x1' : Int32) (x2' : Int32) (x3' : Int32) (x4' : Int32) (z : Int32 × S8) {H : Heap} {locs : List Loc} {ls : Array Slot}, xW G (x_in W0) sS.heap (cells8 G ad s') H locs → lv_has ls 5 [(0, .ref (ad 0)), (1, .int x1'), (2, .int x2'), (3, .int x3'), (4, .int x4')] → f_X8_split_p112 k112 s' x1' x2' x3' x4' = some z → W p l e (rm_X8_split) sS m args below meth c H locs 0 0 (MQ below (xQ G W0 (cells8 G ad z.2) (some (.int z.1))) args sS 0 0 (x_in W0)) (F0 m 112 ls []) := by
  intro s x1 x2 x3 x4 z H locs ls hw hl hf
  unfold f_X8_split_p112 at hf
  refine lv_iload (pc := 112) E.1 E.2.1 dX8_split_112 (lv_at hl 4 rfl) ?_
  refine lv_aload_n (pc := 114) E.1 E.2.1 dX8_split_114 rfl (lv_at hl 0 rfl) ?_
  obtain ⟨v1, g2, hf⟩ := x_bind hf
  refine x_callVA (pc := 115) (As := []) (rest := [.int x4]) (st1 := [.int v1, .int x4]) (ws' := (cells8 G ad s)) E hw hl (c_X8_claims l G ad s g2) xv_X8_88 xd_X8_claims rfl rfl ⟨Nat.le_of_ble_eq_true rfl, Nat.le_of_ble_eq_true rfl⟩ (q0 := 0) rfl rfl rfl rfl (Nat.le_of_ble_eq_true rfl) rfl rfl dX8_split_115 (fun H locs hw => ?_)
  refine lv_icmp_ge (tgt := 164) (pc := 118) E.1 E.2.1 dX8_split_118 (by decide) (fun q3 => ?_) (fun q3 => ?_)
  · have hf := x_pos q3 hf
    refine lv_iload_n (pc := 164) E.1 E.2.1 dX8_split_164 rfl (lv_at hl 3 rfl) ?_
    obtain rfl := Option.some.inj hf
    exact x_reti (pc := 165) E hr hk hw dX8_split_165
  · have hf := x_neg q3 hf
    refine lv_aload_n (pc := 121) E.1 E.2.1 dX8_split_121 rfl (lv_at hl 0 rfl) ?_
    refine lv_iload (pc := 122) E.1 E.2.1 dX8_split_122 (lv_at hl 4 rfl) ?_
    obtain ⟨v4, g5, hf⟩ := x_bind hf
    refine x_callVA (pc := 124) (As := [.int x4]) (rest := []) (st1 := [.int v4]) (ws' := (cells8 G ad s)) E hw hl (c_X8_fleetOf l G ad s x4 g5) xv_X8_98 xd_X8_fleetOf rfl rfl ⟨Nat.le_of_ble_eq_true rfl, Nat.le_of_ble_eq_true rfl⟩ (q0 := 0) rfl rfl rfl rfl (Nat.le_of_ble_eq_true rfl) rfl rfl dX8_split_124 (fun H locs hw => ?_)
    refine lv_iload_n (pc := 127) E.1 E.2.1 dX8_split_127 rfl (lv_at hl 1 rfl) ?_
    refine lv_icmp_ne (tgt := 158) (pc := 128) E.1 E.2.1 dX8_split_128 (by decide) (fun q6 => ?_) (fun q6 => ?_)
    · have hf := x_neg q6 hf
      refine lv_iinc (v := (x4 + 1)) (lv' := [(4, .int (x4 + 1)), (0, .ref (ad 0)), (1, .int x1), (2, .int x2), (3, .int x3)]) (pc := 158) E.1 E.2.1 dX8_split_158 hl (k := 4) rfl rfl (by decide) rfl (fun ls hl => ?_)
      refine lv_goto (tgt := 112) (pc := 161) E.1 E.2.1 dX8_split_161 (by decide) ?_
      exact hk112 s x1 x2 x3 (x4 + 1) z hw (lv_sub hl [1, 2, 3, 4, 0] rfl) hf
    · have hf := x_pos q6 hf
      refine lv_iload_n (pc := 131) E.1 E.2.1 dX8_split_131 rfl (lv_at hl 2 rfl) ?_
      refine lv_aload_n (pc := 132) E.1 E.2.1 dX8_split_132 rfl (lv_at hl 0 rfl) ?_
      refine lv_iload (pc := 133) E.1 E.2.1 dX8_split_133 (lv_at hl 4 rfl) ?_
      obtain ⟨v7, g8, hf⟩ := x_bind hf
      refine x_callVA (pc := 135) (As := [.int x4]) (rest := [.int x2]) (st1 := [.int v7, .int x2]) (ws' := (cells8 G ad s)) E hw hl (c_X8_yearOf l G ad s x4 g8) xv_X8_101 xd_X8_yearOf rfl rfl ⟨Nat.le_of_ble_eq_true rfl, Nat.le_of_ble_eq_true rfl⟩ (q0 := 0) rfl rfl rfl rfl (Nat.le_of_ble_eq_true rfl) rfl rfl dX8_split_135 (fun H locs hw => ?_)
      refine lv_ishr (pc := 138) E.1 E.2.1 dX8_split_138 ?_
      refine lv_iconst (v := 1) (pc := 139) E.1 E.2.1 dX8_split_139 (by decide) ?_
      refine lv_iand (pc := 140) E.1 E.2.1 dX8_split_140 ?_
      refine lv_iconst (v := 1) (pc := 141) E.1 E.2.1 dX8_split_141 (by decide) ?_
      refine lv_icmp_ne (tgt := 158) (pc := 142) E.1 E.2.1 dX8_split_142 (by decide) (fun q9 => ?_) (fun q9 => ?_)
      · have hf := x_neg q9 hf
        refine lv_iinc (v := (x4 + 1)) (lv' := [(4, .int (x4 + 1)), (0, .ref (ad 0)), (1, .int x1), (2, .int x2), (3, .int x3)]) (pc := 158) E.1 E.2.1 dX8_split_158 hl (k := 4) rfl rfl (by decide) rfl (fun ls hl => ?_)
        refine lv_goto (tgt := 112) (pc := 161) E.1 E.2.1 dX8_split_161 (by decide) ?_
        exact hk112 s x1 x2 x3 (x4 + 1) z hw (lv_sub hl [1, 2, 3, 4, 0] rfl) hf
      · have hf := x_pos q9 hf
        refine lv_aload_n (pc := 145) E.1 E.2.1 dX8_split_145 rfl (lv_at hl 0 rfl) ?_
        refine xg_X8_13 (pc := 146) (v := .ref (ad 1)) E hw 0 rfl rfl dX8_split_146 ?_
        refine lv_bipush (v := 20) (pc := 149) E.1 E.2.1 dX8_split_149 (by decide) ?_
        refine lv_iconst (v := 3) (pc := 151) E.1 E.2.1 dX8_split_151 (by decide) ?_
        refine lv_iload (pc := 152) E.1 E.2.1 dX8_split_152 (lv_at hl 4 rfl) ?_
        refine lv_imul (pc := 154) E.1 E.2.1 dX8_split_154 ?_
        refine lv_iadd (pc := 155) E.1 E.2.1 dX8_split_155 ?_
        refine lv_iload_n (pc := 156) E.1 E.2.1 dX8_split_156 rfl (lv_at hl 3 rfl) ?_
        obtain ⟨w11, g10, hf⟩ := x_bind hf
        refine x_iast (pc := 157) (ws' := (cells8 G ad (u8_now s w11))) E hw 1 rfl g10 rfl dX8_split_157 (fun H locs hw => ?_)
        refine lv_iinc (v := (x4 + 1)) (lv' := [(4, .int (x4 + 1)), (0, .ref (ad 0)), (1, .int x1), (2, .int x2), (3, .int x3)]) (pc := 158) E.1 E.2.1 dX8_split_158 hl (k := 4) rfl rfl (by decide) rfl (fun ls hl => ?_)
        refine lv_goto (tgt := 112) (pc := 161) E.1 E.2.1 dX8_split_161 (by decide) ?_
        exact hk112 (u8_now s w11) x1 x2 x3 (x4 + 1) z hw (lv_sub hl [1, 2, 3, 4, 0] rfl) hf
set_option maxHeartbeats 4000000 in
set_option maxRecDepth 100000 in
theorem wl_X8_split_p112 {p : Program} {l : Launch} {e : Env} {sS : State} {m : MethodId} {args : Array Value} {below : List Frame} {meth : Method} {c : Code} {G : xG} {W0 : va_W} {ad : Nat → Nat}   (E : xE p sS m args c cX8_split 5 RX8 G (x_in W0)) (hr : meth.sig.returnType = (some .int)) (hk : meth.locks = false)  : ∀ (s' : S8) (x1' : Int32) (x2' : Int32) (x3' : Int32) (x4' : Int32) (z : Int32 × S8) {H : Heap} {locs : List Loc} {ls : Array Slot}, xW G (x_in W0) sS.heap (cells8 G ad s') H locs → lv_has ls 5 [(0, .ref (ad 0)), (1, .int x1'), (2, .int x2'), (3, .int x3'), (4, .int x4')] → lp_X8_split_p112  s' x1' x2' x3' x4' = some z → W p l e (rm_X8_split) sS m args below meth c H locs 0 0 (MQ below (xQ G W0 (cells8 G ad z.2) (some (.int z.1))) args sS 0 0 (x_in W0)) (F0 m 112 ls []) := by
  intro s x1 x2 x3 x4 z H locs ls hw hl hf
  exact x_loop_W (P := fun (q : S8 × Int32 × Int32 × Int32 × Int32) (z : Int32 × S8) => ∀ {H : Heap} {locs : List Loc} {ls : Array Slot}, xW G (x_in W0) sS.heap (cells8 G ad q.1) H locs → lv_has ls 5 [(0, .ref (ad 0)), (1, .int q.2.1), (2, .int q.2.2.1), (3, .int q.2.2.2.1), (4, .int q.2.2.2.2)] → W p l e (rm_X8_split) sS m args below meth c H locs 0 0 (MQ below (xQ G W0 (cells8 G ad z.2) (some (.int z.1))) args sS 0 0 (x_in W0)) (F0 m 112 ls [])) (fun k hkk q z hf H locs ls hw hl => w_X8_split_p112 E hr hk  (fun s x1 x2 x3 x4 z H locs ls hw hl hf => hkk (s, x1, x2, x3, x4) z hf hw hl) q.1 q.2.1 q.2.2.1 q.2.2.2.1 q.2.2.2.2 z hw hl hf) FU (s, x1, x2, x3, x4) z hf hw hl
set_option maxHeartbeats 4000000 in
set_option maxRecDepth 100000 in
theorem w_X8_split_p0 {p : Program} {l : Launch} {e : Env} {sS : State} {m : MethodId} {args : Array Value} {below : List Frame} {meth : Method} {c : Code} {G : xG} {W0 : va_W} {ad : Nat → Nat}   (E : xE p sS m args c cX8_split 5 RX8 G (x_in W0)) (hr : meth.sig.returnType = (some .int)) (hk : meth.locks = false)  : ∀ (s' : S8) (x1' : Int32) (x2' : Int32) (z : Int32 × S8) {H : Heap} {locs : List Loc} {ls : Array Slot}, xW G (x_in W0) sS.heap (cells8 G ad s') H locs → lv_has ls 5 [(0, .ref (ad 0)), (1, .int x1'), (2, .int x2')] → f_X8_split  s' x1' x2' = some z → W p l e (rm_X8_split) sS m args below meth c H locs 0 0 (MQ below (xQ G W0 (cells8 G ad z.2) (some (.int z.1))) args sS 0 0 (x_in W0)) (F0 m 0 ls []) := by
  intro s x1 x2 z H locs ls hw hl hf
  unfold f_X8_split at hf
  refine lv_aload_n (pc := 0) E.1 E.2.1 dX8_split_0 rfl (lv_at hl 0 rfl) ?_
  refine lv_iload_n (pc := 1) E.1 E.2.1 dX8_split_1 rfl (lv_at hl 1 rfl) ?_
  obtain ⟨v1, g2, hf⟩ := x_bind hf
  refine x_callVA (pc := 2) (As := [.int x1]) (rest := []) (st1 := [.int v1]) (ws' := (cells8 G ad s)) E hw hl (c_X8_isFleet l G ad s x1 g2) xv_X8_115 xd_X8_isFleet rfl rfl ⟨Nat.le_of_ble_eq_true rfl, Nat.le_of_ble_eq_true rfl⟩ (q0 := 0) rfl rfl rfl rfl (Nat.le_of_ble_eq_true rfl) rfl rfl dX8_split_2 (fun H locs hw => ?_)
  refine lv_if_eq (tgt := 42) (pc := 5) E.1 E.2.1 dX8_split_5 (by decide) (fun q3 => ?_) (fun q3 => ?_)
  · have hf := x_pos q3 hf
    refine lv_iconst (v := (-1)) (pc := 42) E.1 E.2.1 dX8_split_42 (by decide) ?_
    obtain rfl := Option.some.inj hf
    exact x_reti (pc := 43) E hr hk hw dX8_split_43
  · have hf := x_neg q3 hf
    refine lv_aload_n (pc := 8) E.1 E.2.1 dX8_split_8 rfl (lv_at hl 0 rfl) ?_
    obtain ⟨v4, g5, hf⟩ := x_bind hf
    refine x_callVA (pc := 9) (As := []) (rest := []) (st1 := [.int v4]) (ws' := (cells8 G ad s)) E hw hl (c_X8_many l G ad s g5) xv_X8_80 xd_X8_many rfl rfl ⟨Nat.le_of_ble_eq_true rfl, Nat.le_of_ble_eq_true rfl⟩ (q0 := 0) rfl rfl rfl rfl (Nat.le_of_ble_eq_true rfl) rfl rfl dX8_split_9 (fun H locs hw => ?_)
    refine lv_bipush (v := 8) (pc := 12) E.1 E.2.1 dX8_split_12 (by decide) ?_
    refine lv_icmp_eq (tgt := 42) (pc := 14) E.1 E.2.1 dX8_split_14 (by decide) (fun q6 => ?_) (fun q6 => ?_)
    · have hf := x_pos q6 hf
      refine lv_iconst (v := (-1)) (pc := 42) E.1 E.2.1 dX8_split_42 (by decide) ?_
      obtain rfl := Option.some.inj hf
      exact x_reti (pc := 43) E hr hk hw dX8_split_43
    · have hf := x_neg q6 hf
      refine lv_iload_n (pc := 17) E.1 E.2.1 dX8_split_17 rfl (lv_at hl 2 rfl) ?_
      refine lv_if_le (tgt := 42) (pc := 18) E.1 E.2.1 dX8_split_18 (by decide) (fun q7 => ?_) (fun q7 => ?_)
      · have hf := x_pos q7 hf
        refine lv_iconst (v := (-1)) (pc := 42) E.1 E.2.1 dX8_split_42 (by decide) ?_
        obtain rfl := Option.some.inj hf
        exact x_reti (pc := 43) E hr hk hw dX8_split_43
      · have hf := x_neg q7 hf
        refine lv_iload_n (pc := 21) E.1 E.2.1 dX8_split_21 rfl (lv_at hl 2 rfl) ?_
        refine lv_aload_n (pc := 22) E.1 E.2.1 dX8_split_22 rfl (lv_at hl 0 rfl) ?_
        refine lv_iload_n (pc := 23) E.1 E.2.1 dX8_split_23 rfl (lv_at hl 1 rfl) ?_
        obtain ⟨v8, g9, hf⟩ := x_bind hf
        refine x_callVA (pc := 24) (As := [.int x1]) (rest := [.int x2]) (st1 := [.int v8, .int x2]) (ws' := (cells8 G ad s)) E hw hl (c_X8_yearsOf l G ad s x1 g9) xv_X8_91 xd_X8_yearsOf rfl rfl ⟨Nat.le_of_ble_eq_true rfl, Nat.le_of_ble_eq_true rfl⟩ (q0 := 0) rfl rfl rfl rfl (Nat.le_of_ble_eq_true rfl) rfl rfl dX8_split_24 (fun H locs hw => ?_)
        refine lv_iconst (v := (-1)) (pc := 27) E.1 E.2.1 dX8_split_27 (by decide) ?_
        refine lv_ixor (pc := 28) E.1 E.2.1 dX8_split_28 ?_
        refine lv_iand (pc := 29) E.1 E.2.1 dX8_split_29 ?_
        refine lv_if_ne (tgt := 42) (pc := 30) E.1 E.2.1 dX8_split_30 (by decide) (fun q10 => ?_) (fun q10 => ?_)
        · have hf := x_neg q10 hf
          refine lv_iconst (v := (-1)) (pc := 42) E.1 E.2.1 dX8_split_42 (by decide) ?_
          obtain rfl := Option.some.inj hf
          exact x_reti (pc := 43) E hr hk hw dX8_split_43
        · have hf := x_pos q10 hf
          refine lv_iload_n (pc := 33) E.1 E.2.1 dX8_split_33 rfl (lv_at hl 2 rfl) ?_
          refine lv_aload_n (pc := 34) E.1 E.2.1 dX8_split_34 rfl (lv_at hl 0 rfl) ?_
          refine lv_iload_n (pc := 35) E.1 E.2.1 dX8_split_35 rfl (lv_at hl 1 rfl) ?_
          obtain ⟨v11, g12, hf⟩ := x_bind hf
          refine x_callVA (pc := 36) (As := [.int x1]) (rest := [.int x2]) (st1 := [.int v11, .int x2]) (ws' := (cells8 G ad s)) E hw hl (c_X8_yearsOf l G ad s x1 g12) xv_X8_91 xd_X8_yearsOf rfl rfl ⟨Nat.le_of_ble_eq_true rfl, Nat.le_of_ble_eq_true rfl⟩ (q0 := 0) rfl rfl rfl rfl (Nat.le_of_ble_eq_true rfl) rfl rfl dX8_split_36 (fun H locs hw => ?_)
          refine lv_icmp_ne (tgt := 44) (pc := 39) E.1 E.2.1 dX8_split_39 (by decide) (fun q13 => ?_) (fun q13 => ?_)
          · have hf := x_neg q13 hf
            refine lv_aload_n (pc := 44) E.1 E.2.1 dX8_split_44 rfl (lv_at hl 0 rfl) ?_
            obtain ⟨v14, g15, hf⟩ := x_bind hf
            refine x_callVA (pc := 45) (As := []) (rest := []) (st1 := []) (ws' := (cells8 G ad v14)) E hw hl (c_X8_keeps l G ad s g15) xv_X8_112 xd_X8_keeps rfl rfl ⟨Nat.le_of_ble_eq_true rfl, Nat.le_of_ble_eq_true rfl⟩ (q0 := 0) rfl rfl rfl rfl (Nat.le_of_ble_eq_true rfl) rfl rfl dX8_split_45 (fun H locs hw => ?_)
            refine lv_aload_n (pc := 48) E.1 E.2.1 dX8_split_48 rfl (lv_at hl 0 rfl) ?_
            obtain ⟨v16, g17, hf⟩ := x_bind hf
            refine x_callVA (pc := 49) (As := []) (rest := []) (st1 := [.int v16]) (ws' := (cells8 G ad v14)) E hw hl (c_X8_many l G ad v14 g17) xv_X8_80 xd_X8_many rfl rfl ⟨Nat.le_of_ble_eq_true rfl, Nat.le_of_ble_eq_true rfl⟩ (q0 := 0) rfl rfl rfl rfl (Nat.le_of_ble_eq_true rfl) rfl rfl dX8_split_49 (fun H locs hw => ?_)
            refine lv_istore_n (lv' := [(3, .int v16), (0, .ref (ad 0)), (1, .int x1), (2, .int x2)]) (pc := 52) E.1 E.2.1 dX8_split_52 rfl hl (by decide) rfl (fun ls hl => ?_)
            refine lv_aload_n (pc := 53) E.1 E.2.1 dX8_split_53 rfl (lv_at hl 1 rfl) ?_
            refine xg_X8_13 (pc := 54) (v := .ref (ad 1)) E hw 0 rfl rfl dX8_split_54 ?_
            refine lv_iconst (v := 4) (pc := 57) E.1 E.2.1 dX8_split_57 (by decide) ?_
            refine lv_iconst (v := 2) (pc := 58) E.1 E.2.1 dX8_split_58 (by decide) ?_
            refine lv_iload_n (pc := 59) E.1 E.2.1 dX8_split_59 rfl (lv_at hl 0 rfl) ?_
            refine lv_imul (pc := 60) E.1 E.2.1 dX8_split_60 ?_
            refine lv_iadd (pc := 61) E.1 E.2.1 dX8_split_61 ?_
            refine lv_aload_n (pc := 62) E.1 E.2.1 dX8_split_62 rfl (lv_at hl 1 rfl) ?_
            refine lv_iload_n (pc := 63) E.1 E.2.1 dX8_split_63 rfl (lv_at hl 2 rfl) ?_
            obtain ⟨v18, g19, hf⟩ := x_bind hf
            refine x_callVA (pc := 64) (As := [.int x1]) (rest := [.int (4 + (2 * v16)), .ref (ad 1)]) (st1 := [.int v18, .int (4 + (2 * v16)), .ref (ad 1)]) (ws' := (cells8 G ad v14)) E hw hl (c_X8_classOf l G ad v14 x1 g19) xv_X8_125 xd_X8_classOf rfl rfl ⟨Nat.le_of_ble_eq_true rfl, Nat.le_of_ble_eq_true rfl⟩ (q0 := 0) rfl rfl rfl rfl (Nat.le_of_ble_eq_true rfl) rfl rfl dX8_split_64 (fun H locs hw => ?_)
            obtain ⟨w21, g20, hf⟩ := x_bind hf
            refine x_iast (pc := 67) (ws' := (cells8 G ad (u8_now v14 w21))) E hw 1 rfl g20 rfl dX8_split_67 (fun H locs hw => ?_)
            refine lv_aload_n (pc := 68) E.1 E.2.1 dX8_split_68 rfl (lv_at hl 1 rfl) ?_
            refine xg_X8_13 (pc := 69) (v := .ref (ad 1)) E hw 0 rfl rfl dX8_split_69 ?_
            refine lv_iconst (v := 4) (pc := 72) E.1 E.2.1 dX8_split_72 (by decide) ?_
            refine lv_iconst (v := 2) (pc := 73) E.1 E.2.1 dX8_split_73 (by decide) ?_
            refine lv_iload_n (pc := 74) E.1 E.2.1 dX8_split_74 rfl (lv_at hl 0 rfl) ?_
            refine lv_imul (pc := 75) E.1 E.2.1 dX8_split_75 ?_
            refine lv_iadd (pc := 76) E.1 E.2.1 dX8_split_76 ?_
            refine lv_iconst (v := 1) (pc := 77) E.1 E.2.1 dX8_split_77 (by decide) ?_
            refine lv_iadd (pc := 78) E.1 E.2.1 dX8_split_78 ?_
            refine lv_iload_n (pc := 79) E.1 E.2.1 dX8_split_79 rfl (lv_at hl 3 rfl) ?_
            obtain ⟨w23, g22, hf⟩ := x_bind hf
            refine x_iast (pc := 80) (ws' := (cells8 G ad (u8_now (u8_now v14 w21) w23))) E hw 1 rfl g22 rfl dX8_split_80 (fun H locs hw => ?_)
            refine lv_aload_n (pc := 81) E.1 E.2.1 dX8_split_81 rfl (lv_at hl 1 rfl) ?_
            refine xg_X8_13 (pc := 82) (v := .ref (ad 1)) E hw 0 rfl rfl dX8_split_82 ?_
            refine lv_iconst (v := 4) (pc := 85) E.1 E.2.1 dX8_split_85 (by decide) ?_
            refine lv_iconst (v := 2) (pc := 86) E.1 E.2.1 dX8_split_86 (by decide) ?_
            refine lv_iload_n (pc := 87) E.1 E.2.1 dX8_split_87 rfl (lv_at hl 2 rfl) ?_
            refine lv_imul (pc := 88) E.1 E.2.1 dX8_split_88 ?_
            refine lv_iadd (pc := 89) E.1 E.2.1 dX8_split_89 ?_
            refine lv_iconst (v := 1) (pc := 90) E.1 E.2.1 dX8_split_90 (by decide) ?_
            refine lv_iadd (pc := 91) E.1 E.2.1 dX8_split_91 ?_
            refine lv_dup2_11 (pc := 92) E.1 E.2.1 dX8_split_92 rfl rfl ?_
            obtain ⟨v25, g24, hf⟩ := x_bind hf
            refine x_iald (pc := 93) E hw 1 rfl g24 dX8_split_93 ?_
            refine lv_iload_n (pc := 94) E.1 E.2.1 dX8_split_94 rfl (lv_at hl 3 rfl) ?_
            refine lv_iconst (v := (-1)) (pc := 95) E.1 E.2.1 dX8_split_95 (by decide) ?_
            refine lv_ixor (pc := 96) E.1 E.2.1 dX8_split_96 ?_
            refine lv_iand (pc := 97) E.1 E.2.1 dX8_split_97 ?_
            obtain ⟨w27, g26, hf⟩ := x_bind hf
            refine x_iast (pc := 98) (ws' := (cells8 G ad (u8_now (u8_now (u8_now v14 w21) w23) w27))) E hw 1 rfl g26 rfl dX8_split_98 (fun H locs hw => ?_)
            refine lv_aload_n (pc := 99) E.1 E.2.1 dX8_split_99 rfl (lv_at hl 1 rfl) ?_
            refine xg_X8_13 (pc := 100) (v := .ref (ad 1)) E hw 0 rfl rfl dX8_split_100 ?_
            refine lv_iconst (v := 2) (pc := 103) E.1 E.2.1 dX8_split_103 (by decide) ?_
            refine lv_dup2_11 (pc := 104) E.1 E.2.1 dX8_split_104 rfl rfl ?_
            obtain ⟨v29, g28, hf⟩ := x_bind hf
            refine x_iald (pc := 105) E hw 1 rfl g28 dX8_split_105 ?_
            refine lv_iconst (v := 1) (pc := 106) E.1 E.2.1 dX8_split_106 (by decide) ?_
            refine lv_iadd (pc := 107) E.1 E.2.1 dX8_split_107 ?_
            obtain ⟨w31, g30, hf⟩ := x_bind hf
            refine x_iast (pc := 108) (ws' := (cells8 G ad (u8_now (u8_now (u8_now (u8_now v14 w21) w23) w27) w31))) E hw 1 rfl g30 rfl dX8_split_108 (fun H locs hw => ?_)
            refine lv_iconst (v := 0) (pc := 109) E.1 E.2.1 dX8_split_109 (by decide) ?_
            refine lv_istore (lv' := [(4, .int 0), (3, .int v16), (0, .ref (ad 0)), (1, .int x1), (2, .int x2)]) (pc := 110) E.1 E.2.1 dX8_split_110 hl (by decide) rfl (fun ls hl => ?_)
            exact wl_X8_split_p112 E hr hk  (u8_now (u8_now (u8_now (u8_now v14 w21) w23) w27) w31) x1 x2 v16 0 z hw (lv_sub hl [2, 3, 4, 1, 0] rfl) hf
          · have hf := x_pos q13 hf
            refine lv_iconst (v := (-1)) (pc := 42) E.1 E.2.1 dX8_split_42 (by decide) ?_
            obtain rfl := Option.some.inj hf
            exact x_reti (pc := 43) E hr hk hw dX8_split_43
set_option maxHeartbeats 4000000 in
set_option maxRecDepth 100000 in
theorem c_X8_split (l : Launch) (G : xG) (ad : Nat → Nat) (s : S8) (x1 : Int32) (x2 : Int32) {z : Int32 × S8} (hf : f_X8_split s x1 x2 = some z) : xC l yX8_split cX8_split 5 (some .int) (rm_X8_split) G [.ref (ad 0), .int x1, .int x2] (cells8 G ad s) (some (.int z.1)) (cells8 G ad z.2) :=
  x_met (by decide) (Nat.le_of_ble_eq_true rfl) (fun p e sS m below meth c E hr hk ls hl hw => w_X8_split_p0 E hr hk s x1 x2 z hw hl hf)
set_option maxHeartbeats 4000000 in
set_option maxRecDepth 100000 in
theorem w_X8_merge_p63 {p : Program} {l : Launch} {e : Env} {sS : State} {m : MethodId} {args : Array Value} {below : List Frame} {meth : Method} {c : Code} {G : xG} {W0 : va_W} {ad : Nat → Nat}  {k63 : S8 → Int32 → Int32 → Int32 → Option (Int32 × S8)} (E : xE p sS m args c cX8_merge 4 RX8 G (x_in W0)) (hr : meth.sig.returnType = (some .int)) (hk : meth.locks = false) (hk63 : ∀ (s' : S8) (x1' : Int32) (x2' : Int32) (x3' : Int32) (z : Int32 × S8) {H : Heap} {locs : List Loc} {ls : Array Slot}, xW G (x_in W0) sS.heap (cells8 G ad s') H locs → lv_has ls 4 [(0, .ref (ad 0)), (1, .int x1'), (2, .int x2'), (3, .int x3')] → k63  s' x1' x2' x3' = some z → W p l e (rm_X8_merge) sS m args below meth c H locs 0 0 (MQ below (xQ G W0 (cells8 G ad z.2) (some (.int z.1))) args sS 0 0 (x_in W0)) (F0 m 63 ls [])) : ∀ (s' : S8) (x1' : Int32) (x2' : Int32) (x3' : Int32) (z : Int32 × S8) {H : Heap} {locs : List Loc} {ls : Array Slot}, xW G (x_in W0) sS.heap (cells8 G ad s') H locs → lv_has ls 4 [(0, .ref (ad 0)), (1, .int x1'), (2, .int x2'), (3, .int x3')] → f_X8_merge_p63 k63 s' x1' x2' x3' = some z → W p l e (rm_X8_merge) sS m args below meth c H locs 0 0 (MQ below (xQ G W0 (cells8 G ad z.2) (some (.int z.1))) args sS 0 0 (x_in W0)) (F0 m 63 ls []) := by
  intro s x1 x2 x3 z H locs ls hw hl hf
  unfold f_X8_merge_p63 at hf
  refine lv_iload_n (pc := 63) E.1 E.2.1 dX8_merge_63 rfl (lv_at hl 3 rfl) ?_
  refine lv_aload_n (pc := 64) E.1 E.2.1 dX8_merge_64 rfl (lv_at hl 0 rfl) ?_
  obtain ⟨v1, g2, hf⟩ := x_bind hf
  refine x_callVA (pc := 65) (As := []) (rest := [.int x3]) (st1 := [.int v1, .int x3]) (ws' := (cells8 G ad s)) E hw hl (c_X8_claims l G ad s g2) xv_X8_88 xd_X8_claims rfl rfl ⟨Nat.le_of_ble_eq_true rfl, Nat.le_of_ble_eq_true rfl⟩ (q0 := 0) rfl rfl rfl rfl (Nat.le_of_ble_eq_true rfl) rfl rfl dX8_merge_65 (fun H locs hw => ?_)
  refine lv_icmp_ge (tgt := 98) (pc := 68) E.1 E.2.1 dX8_merge_68 (by decide) (fun q3 => ?_) (fun q3 => ?_)
  · have hf := x_pos q3 hf
    refine lv_aload_n (pc := 98) E.1 E.2.1 dX8_merge_98 rfl (lv_at hl 0 rfl) ?_
    refine lv_iload_n (pc := 99) E.1 E.2.1 dX8_merge_99 rfl (lv_at hl 1 rfl) ?_
    obtain ⟨v4, g5, hf⟩ := x_bind hf
    refine x_callVA (pc := 100) (As := [.int x1]) (rest := []) (st1 := []) (ws' := (cells8 G ad v4)) E hw hl (c_X8_goes l G ad s x1 g5) xv_X8_122 xd_X8_goes rfl rfl ⟨Nat.le_of_ble_eq_true rfl, Nat.le_of_ble_eq_true rfl⟩ (q0 := 0) rfl rfl rfl rfl (Nat.le_of_ble_eq_true rfl) rfl rfl dX8_merge_100 (fun H locs hw => ?_)
    refine lv_iload_n (pc := 103) E.1 E.2.1 dX8_merge_103 rfl (lv_at hl 2 rfl) ?_
    refine lv_iload_n (pc := 104) E.1 E.2.1 dX8_merge_104 rfl (lv_at hl 1 rfl) ?_
    refine lv_icmp_le (tgt := 114) (pc := 105) E.1 E.2.1 dX8_merge_105 (by decide) (fun q6 => ?_) (fun q6 => ?_)
    · have hf := x_pos q6 hf
      refine lv_iload_n (pc := 114) E.1 E.2.1 dX8_merge_114 rfl (lv_at hl 2 rfl) ?_
      obtain rfl := Option.some.inj hf
      exact x_reti (pc := 115) E hr hk hw dX8_merge_115
    · have hf := x_neg q6 hf
      refine lv_iload_n (pc := 108) E.1 E.2.1 dX8_merge_108 rfl (lv_at hl 2 rfl) ?_
      refine lv_iconst (v := 1) (pc := 109) E.1 E.2.1 dX8_merge_109 (by decide) ?_
      refine lv_isub (pc := 110) E.1 E.2.1 dX8_merge_110 ?_
      refine lv_goto (tgt := 115) (pc := 111) E.1 E.2.1 dX8_merge_111 (by decide) ?_
      obtain rfl := Option.some.inj hf
      exact x_reti (pc := 115) E hr hk hw dX8_merge_115
  · have hf := x_neg q3 hf
    refine lv_aload_n (pc := 71) E.1 E.2.1 dX8_merge_71 rfl (lv_at hl 0 rfl) ?_
    refine lv_iload_n (pc := 72) E.1 E.2.1 dX8_merge_72 rfl (lv_at hl 3 rfl) ?_
    obtain ⟨v7, g8, hf⟩ := x_bind hf
    refine x_callVA (pc := 73) (As := [.int x3]) (rest := []) (st1 := [.int v7]) (ws' := (cells8 G ad s)) E hw hl (c_X8_fleetOf l G ad s x3 g8) xv_X8_98 xd_X8_fleetOf rfl rfl ⟨Nat.le_of_ble_eq_true rfl, Nat.le_of_ble_eq_true rfl⟩ (q0 := 0) rfl rfl rfl rfl (Nat.le_of_ble_eq_true rfl) rfl rfl dX8_merge_73 (fun H locs hw => ?_)
    refine lv_iload_n (pc := 76) E.1 E.2.1 dX8_merge_76 rfl (lv_at hl 1 rfl) ?_
    refine lv_icmp_ne (tgt := 92) (pc := 77) E.1 E.2.1 dX8_merge_77 (by decide) (fun q9 => ?_) (fun q9 => ?_)
    · have hf := x_neg q9 hf
      refine lv_iinc (v := (x3 + 1)) (lv' := [(3, .int (x3 + 1)), (0, .ref (ad 0)), (1, .int x1), (2, .int x2)]) (pc := 92) E.1 E.2.1 dX8_merge_92 hl (k := 3) rfl rfl (by decide) rfl (fun ls hl => ?_)
      refine lv_goto (tgt := 63) (pc := 95) E.1 E.2.1 dX8_merge_95 (by decide) ?_
      exact hk63 s x1 x2 (x3 + 1) z hw (lv_sub hl [1, 2, 3, 0] rfl) hf
    · have hf := x_pos q9 hf
      refine lv_aload_n (pc := 80) E.1 E.2.1 dX8_merge_80 rfl (lv_at hl 0 rfl) ?_
      refine xg_X8_13 (pc := 81) (v := .ref (ad 1)) E hw 0 rfl rfl dX8_merge_81 ?_
      refine lv_bipush (v := 20) (pc := 84) E.1 E.2.1 dX8_merge_84 (by decide) ?_
      refine lv_iconst (v := 3) (pc := 86) E.1 E.2.1 dX8_merge_86 (by decide) ?_
      refine lv_iload_n (pc := 87) E.1 E.2.1 dX8_merge_87 rfl (lv_at hl 3 rfl) ?_
      refine lv_imul (pc := 88) E.1 E.2.1 dX8_merge_88 ?_
      refine lv_iadd (pc := 89) E.1 E.2.1 dX8_merge_89 ?_
      refine lv_iload_n (pc := 90) E.1 E.2.1 dX8_merge_90 rfl (lv_at hl 2 rfl) ?_
      obtain ⟨w11, g10, hf⟩ := x_bind hf
      refine x_iast (pc := 91) (ws' := (cells8 G ad (u8_now s w11))) E hw 1 rfl g10 rfl dX8_merge_91 (fun H locs hw => ?_)
      refine lv_iinc (v := (x3 + 1)) (lv' := [(3, .int (x3 + 1)), (0, .ref (ad 0)), (1, .int x1), (2, .int x2)]) (pc := 92) E.1 E.2.1 dX8_merge_92 hl (k := 3) rfl rfl (by decide) rfl (fun ls hl => ?_)
      refine lv_goto (tgt := 63) (pc := 95) E.1 E.2.1 dX8_merge_95 (by decide) ?_
      exact hk63 (u8_now s w11) x1 x2 (x3 + 1) z hw (lv_sub hl [1, 2, 3, 0] rfl) hf
set_option maxHeartbeats 4000000 in
set_option maxRecDepth 100000 in
theorem wl_X8_merge_p63 {p : Program} {l : Launch} {e : Env} {sS : State} {m : MethodId} {args : Array Value} {below : List Frame} {meth : Method} {c : Code} {G : xG} {W0 : va_W} {ad : Nat → Nat}   (E : xE p sS m args c cX8_merge 4 RX8 G (x_in W0)) (hr : meth.sig.returnType = (some .int)) (hk : meth.locks = false)  : ∀ (s' : S8) (x1' : Int32) (x2' : Int32) (x3' : Int32) (z : Int32 × S8) {H : Heap} {locs : List Loc} {ls : Array Slot}, xW G (x_in W0) sS.heap (cells8 G ad s') H locs → lv_has ls 4 [(0, .ref (ad 0)), (1, .int x1'), (2, .int x2'), (3, .int x3')] → lp_X8_merge_p63  s' x1' x2' x3' = some z → W p l e (rm_X8_merge) sS m args below meth c H locs 0 0 (MQ below (xQ G W0 (cells8 G ad z.2) (some (.int z.1))) args sS 0 0 (x_in W0)) (F0 m 63 ls []) := by
  intro s x1 x2 x3 z H locs ls hw hl hf
  exact x_loop_W (P := fun (q : S8 × Int32 × Int32 × Int32) (z : Int32 × S8) => ∀ {H : Heap} {locs : List Loc} {ls : Array Slot}, xW G (x_in W0) sS.heap (cells8 G ad q.1) H locs → lv_has ls 4 [(0, .ref (ad 0)), (1, .int q.2.1), (2, .int q.2.2.1), (3, .int q.2.2.2)] → W p l e (rm_X8_merge) sS m args below meth c H locs 0 0 (MQ below (xQ G W0 (cells8 G ad z.2) (some (.int z.1))) args sS 0 0 (x_in W0)) (F0 m 63 ls [])) (fun k hkk q z hf H locs ls hw hl => w_X8_merge_p63 E hr hk  (fun s x1 x2 x3 z H locs ls hw hl hf => hkk (s, x1, x2, x3) z hf hw hl) q.1 q.2.1 q.2.2.1 q.2.2.2 z hw hl hf) FU (s, x1, x2, x3) z hf hw hl
set_option maxHeartbeats 4000000 in
set_option maxRecDepth 100000 in
theorem w_X8_merge_p0 {p : Program} {l : Launch} {e : Env} {sS : State} {m : MethodId} {args : Array Value} {below : List Frame} {meth : Method} {c : Code} {G : xG} {W0 : va_W} {ad : Nat → Nat}   (E : xE p sS m args c cX8_merge 4 RX8 G (x_in W0)) (hr : meth.sig.returnType = (some .int)) (hk : meth.locks = false)  : ∀ (s' : S8) (x1' : Int32) (x2' : Int32) (z : Int32 × S8) {H : Heap} {locs : List Loc} {ls : Array Slot}, xW G (x_in W0) sS.heap (cells8 G ad s') H locs → lv_has ls 4 [(0, .ref (ad 0)), (1, .int x1'), (2, .int x2')] → f_X8_merge  s' x1' x2' = some z → W p l e (rm_X8_merge) sS m args below meth c H locs 0 0 (MQ below (xQ G W0 (cells8 G ad z.2) (some (.int z.1))) args sS 0 0 (x_in W0)) (F0 m 0 ls []) := by
  intro s x1 x2 z H locs ls hw hl hf
  unfold f_X8_merge at hf
  refine lv_aload_n (pc := 0) E.1 E.2.1 dX8_merge_0 rfl (lv_at hl 0 rfl) ?_
  refine lv_iload_n (pc := 1) E.1 E.2.1 dX8_merge_1 rfl (lv_at hl 1 rfl) ?_
  obtain ⟨v1, g2, hf⟩ := x_bind hf
  refine x_callVA (pc := 2) (As := [.int x1]) (rest := []) (st1 := [.int v1]) (ws' := (cells8 G ad s)) E hw hl (c_X8_isFleet l G ad s x1 g2) xv_X8_115 xd_X8_isFleet rfl rfl ⟨Nat.le_of_ble_eq_true rfl, Nat.le_of_ble_eq_true rfl⟩ (q0 := 0) rfl rfl rfl rfl (Nat.le_of_ble_eq_true rfl) rfl rfl dX8_merge_2 (fun H locs hw => ?_)
  refine lv_if_eq (tgt := 35) (pc := 5) E.1 E.2.1 dX8_merge_5 (by decide) (fun q3 => ?_) (fun q3 => ?_)
  · have hf := x_pos q3 hf
    refine lv_iconst (v := (-1)) (pc := 35) E.1 E.2.1 dX8_merge_35 (by decide) ?_
    obtain rfl := Option.some.inj hf
    exact x_reti (pc := 36) E hr hk hw dX8_merge_36
  · have hf := x_neg q3 hf
    refine lv_aload_n (pc := 8) E.1 E.2.1 dX8_merge_8 rfl (lv_at hl 0 rfl) ?_
    refine lv_iload_n (pc := 9) E.1 E.2.1 dX8_merge_9 rfl (lv_at hl 2 rfl) ?_
    obtain ⟨v4, g5, hf⟩ := x_bind hf
    refine x_callVA (pc := 10) (As := [.int x2]) (rest := []) (st1 := [.int v4]) (ws' := (cells8 G ad s)) E hw hl (c_X8_isFleet l G ad s x2 g5) xv_X8_115 xd_X8_isFleet rfl rfl ⟨Nat.le_of_ble_eq_true rfl, Nat.le_of_ble_eq_true rfl⟩ (q0 := 0) rfl rfl rfl rfl (Nat.le_of_ble_eq_true rfl) rfl rfl dX8_merge_10 (fun H locs hw => ?_)
    refine lv_if_eq (tgt := 35) (pc := 13) E.1 E.2.1 dX8_merge_13 (by decide) (fun q6 => ?_) (fun q6 => ?_)
    · have hf := x_pos q6 hf
      refine lv_iconst (v := (-1)) (pc := 35) E.1 E.2.1 dX8_merge_35 (by decide) ?_
      obtain rfl := Option.some.inj hf
      exact x_reti (pc := 36) E hr hk hw dX8_merge_36
    · have hf := x_neg q6 hf
      refine lv_iload_n (pc := 16) E.1 E.2.1 dX8_merge_16 rfl (lv_at hl 1 rfl) ?_
      refine lv_iload_n (pc := 17) E.1 E.2.1 dX8_merge_17 rfl (lv_at hl 2 rfl) ?_
      refine lv_icmp_eq (tgt := 35) (pc := 18) E.1 E.2.1 dX8_merge_18 (by decide) (fun q7 => ?_) (fun q7 => ?_)
      · have hf := x_pos q7 hf
        refine lv_iconst (v := (-1)) (pc := 35) E.1 E.2.1 dX8_merge_35 (by decide) ?_
        obtain rfl := Option.some.inj hf
        exact x_reti (pc := 36) E hr hk hw dX8_merge_36
      · have hf := x_neg q7 hf
        refine lv_aload_n (pc := 21) E.1 E.2.1 dX8_merge_21 rfl (lv_at hl 0 rfl) ?_
        refine lv_iload_n (pc := 22) E.1 E.2.1 dX8_merge_22 rfl (lv_at hl 1 rfl) ?_
        obtain ⟨v8, g9, hf⟩ := x_bind hf
        refine x_callVA (pc := 23) (As := [.int x1]) (rest := []) (st1 := [.int v8]) (ws' := (cells8 G ad s)) E hw hl (c_X8_yearsOf l G ad s x1 g9) xv_X8_91 xd_X8_yearsOf rfl rfl ⟨Nat.le_of_ble_eq_true rfl, Nat.le_of_ble_eq_true rfl⟩ (q0 := 0) rfl rfl rfl rfl (Nat.le_of_ble_eq_true rfl) rfl rfl dX8_merge_23 (fun H locs hw => ?_)
        refine lv_aload_n (pc := 26) E.1 E.2.1 dX8_merge_26 rfl (lv_at hl 0 rfl) ?_
        refine lv_iload_n (pc := 27) E.1 E.2.1 dX8_merge_27 rfl (lv_at hl 2 rfl) ?_
        obtain ⟨v10, g11, hf⟩ := x_bind hf
        refine x_callVA (pc := 28) (As := [.int x2]) (rest := [.int v8]) (st1 := [.int v10, .int v8]) (ws' := (cells8 G ad s)) E hw hl (c_X8_yearsOf l G ad s x2 g11) xv_X8_91 xd_X8_yearsOf rfl rfl ⟨Nat.le_of_ble_eq_true rfl, Nat.le_of_ble_eq_true rfl⟩ (q0 := 0) rfl rfl rfl rfl (Nat.le_of_ble_eq_true rfl) rfl rfl dX8_merge_28 (fun H locs hw => ?_)
        refine lv_iand (pc := 31) E.1 E.2.1 dX8_merge_31 ?_
        refine lv_if_eq (tgt := 37) (pc := 32) E.1 E.2.1 dX8_merge_32 (by decide) (fun q12 => ?_) (fun q12 => ?_)
        · have hf := x_pos q12 hf
          refine lv_aload_n (pc := 37) E.1 E.2.1 dX8_merge_37 rfl (lv_at hl 0 rfl) ?_
          obtain ⟨v13, g14, hf⟩ := x_bind hf
          refine x_callVA (pc := 38) (As := []) (rest := []) (st1 := []) (ws' := (cells8 G ad v13)) E hw hl (c_X8_keeps l G ad s g14) xv_X8_112 xd_X8_keeps rfl rfl ⟨Nat.le_of_ble_eq_true rfl, Nat.le_of_ble_eq_true rfl⟩ (q0 := 0) rfl rfl rfl rfl (Nat.le_of_ble_eq_true rfl) rfl rfl dX8_merge_38 (fun H locs hw => ?_)
          refine lv_aload_n (pc := 41) E.1 E.2.1 dX8_merge_41 rfl (lv_at hl 0 rfl) ?_
          refine xg_X8_13 (pc := 42) (v := .ref (ad 1)) E hw 0 rfl rfl dX8_merge_42 ?_
          refine lv_iconst (v := 4) (pc := 45) E.1 E.2.1 dX8_merge_45 (by decide) ?_
          refine lv_iconst (v := 2) (pc := 46) E.1 E.2.1 dX8_merge_46 (by decide) ?_
          refine lv_iload_n (pc := 47) E.1 E.2.1 dX8_merge_47 rfl (lv_at hl 2 rfl) ?_
          refine lv_imul (pc := 48) E.1 E.2.1 dX8_merge_48 ?_
          refine lv_iadd (pc := 49) E.1 E.2.1 dX8_merge_49 ?_
          refine lv_iconst (v := 1) (pc := 50) E.1 E.2.1 dX8_merge_50 (by decide) ?_
          refine lv_iadd (pc := 51) E.1 E.2.1 dX8_merge_51 ?_
          refine lv_dup2_11 (pc := 52) E.1 E.2.1 dX8_merge_52 rfl rfl ?_
          obtain ⟨v16, g15, hf⟩ := x_bind hf
          refine x_iald (pc := 53) E hw 1 rfl g15 dX8_merge_53 ?_
          refine lv_aload_n (pc := 54) E.1 E.2.1 dX8_merge_54 rfl (lv_at hl 0 rfl) ?_
          refine lv_iload_n (pc := 55) E.1 E.2.1 dX8_merge_55 rfl (lv_at hl 1 rfl) ?_
          obtain ⟨v17, g18, hf⟩ := x_bind hf
          refine x_callVA (pc := 56) (As := [.int x1]) (rest := [.int v16, .int ((4 + (2 * x2)) + 1), .ref (ad 1)]) (st1 := [.int v17, .int v16, .int ((4 + (2 * x2)) + 1), .ref (ad 1)]) (ws' := (cells8 G ad v13)) E hw hl (c_X8_yearsOf l G ad v13 x1 g18) xv_X8_91 xd_X8_yearsOf rfl rfl ⟨Nat.le_of_ble_eq_true rfl, Nat.le_of_ble_eq_true rfl⟩ (q0 := 0) rfl rfl rfl rfl (Nat.le_of_ble_eq_true rfl) rfl rfl dX8_merge_56 (fun H locs hw => ?_)
          refine lv_ior (pc := 59) E.1 E.2.1 dX8_merge_59 ?_
          obtain ⟨w20, g19, hf⟩ := x_bind hf
          refine x_iast (pc := 60) (ws' := (cells8 G ad (u8_now v13 w20))) E hw 1 rfl g19 rfl dX8_merge_60 (fun H locs hw => ?_)
          refine lv_iconst (v := 0) (pc := 61) E.1 E.2.1 dX8_merge_61 (by decide) ?_
          refine lv_istore_n (lv' := [(3, .int 0), (0, .ref (ad 0)), (1, .int x1), (2, .int x2)]) (pc := 62) E.1 E.2.1 dX8_merge_62 rfl hl (by decide) rfl (fun ls hl => ?_)
          exact wl_X8_merge_p63 E hr hk  (u8_now v13 w20) x1 x2 0 z hw (lv_sub hl [1, 2, 3, 0] rfl) hf
        · have hf := x_neg q12 hf
          refine lv_iconst (v := (-1)) (pc := 35) E.1 E.2.1 dX8_merge_35 (by decide) ?_
          obtain rfl := Option.some.inj hf
          exact x_reti (pc := 36) E hr hk hw dX8_merge_36
set_option maxHeartbeats 4000000 in
set_option maxRecDepth 100000 in
theorem c_X8_merge (l : Launch) (G : xG) (ad : Nat → Nat) (s : S8) (x1 : Int32) (x2 : Int32) {z : Int32 × S8} (hf : f_X8_merge s x1 x2 = some z) : xC l yX8_merge cX8_merge 4 (some .int) (rm_X8_merge) G [.ref (ad 0), .int x1, .int x2] (cells8 G ad s) (some (.int z.1)) (cells8 G ad z.2) :=
  x_met (by decide) (Nat.le_of_ble_eq_true rfl) (fun p e sS m below meth c E hr hk ls hl hw => w_X8_merge_p0 E hr hk s x1 x2 z hw hl hf)
set_option maxHeartbeats 4000000 in
set_option maxRecDepth 100000 in
theorem w_X8_cap_p0 {p : Program} {l : Launch} {e : Env} {sS : State} {m : MethodId} {args : Array Value} {below : List Frame} {meth : Method} {c : Code} {G : xG} {W0 : va_W} {ad : Nat → Nat}   (E : xE p sS m args c cX8_cap 2 RX8 G (x_in W0)) (hr : meth.sig.returnType = (some .int)) (hk : meth.locks = false)  : ∀ (s' : S8) (x1' : Int32) (z : Int32 × S8) {H : Heap} {locs : List Loc} {ls : Array Slot}, xW G (x_in W0) sS.heap (cells8 G ad s') H locs → lv_has ls 2 [(0, .ref (ad 0)), (1, .int x1')] → f_X8_cap  s' x1' = some z → W p l e (rm_X8_cap) sS m args below meth c H locs 0 0 (MQ below (xQ G W0 (cells8 G ad z.2) (some (.int z.1))) args sS 0 0 (x_in W0)) (F0 m 0 ls []) := by
  intro s x1 z H locs ls hw hl hf
  unfold f_X8_cap at hf
  refine lv_iload_n (pc := 0) E.1 E.2.1 dX8_cap_0 rfl (lv_at hl 1 rfl) ?_
  obtain ⟨v1, g2, hf⟩ := x_bind hf
  refine x_callS0 (pc := 1) (As := [.int x1]) (rest := []) (st1 := [.int v1]) E hw hl (c_X8_isAmount l G  x1 g2) xs_X8_141 xd_X8_isAmount rfl rfl ⟨Nat.le_of_ble_eq_true rfl, Nat.le_of_ble_eq_true rfl⟩ rfl rfl (Nat.le_of_ble_eq_true rfl) rfl dX8_cap_1 (fun H locs hw => ?_)
  refine lv_if_eq (tgt := 26) (pc := 4) E.1 E.2.1 dX8_cap_4 (by decide) (fun q3 => ?_) (fun q3 => ?_)
  · have hf := x_pos q3 hf
    refine lv_iconst (v := (-1)) (pc := 26) E.1 E.2.1 dX8_cap_26 (by decide) ?_
    obtain rfl := Option.some.inj hf
    exact x_reti (pc := 27) E hr hk hw dX8_cap_27
  · have hf := x_neg q3 hf
    refine lv_iload_n (pc := 7) E.1 E.2.1 dX8_cap_7 rfl (lv_at hl 1 rfl) ?_
    refine lv_aload_n (pc := 8) E.1 E.2.1 dX8_cap_8 rfl (lv_at hl 0 rfl) ?_
    refine xg_X8_13 (pc := 9) (v := .ref (ad 1)) E hw 0 rfl rfl dX8_cap_9 ?_
    refine lv_iconst (v := 0) (pc := 12) E.1 E.2.1 dX8_cap_12 (by decide) ?_
    obtain ⟨v5, g4, hf⟩ := x_bind hf
    refine x_iald (pc := 13) E hw 1 rfl g4 dX8_cap_13 ?_
    refine lv_icmp_eq (tgt := 26) (pc := 14) E.1 E.2.1 dX8_cap_14 (by decide) (fun q6 => ?_) (fun q6 => ?_)
    · have hf := x_pos q6 hf
      refine lv_iconst (v := (-1)) (pc := 26) E.1 E.2.1 dX8_cap_26 (by decide) ?_
      obtain rfl := Option.some.inj hf
      exact x_reti (pc := 27) E hr hk hw dX8_cap_27
    · have hf := x_neg q6 hf
      refine lv_aload_n (pc := 17) E.1 E.2.1 dX8_cap_17 rfl (lv_at hl 0 rfl) ?_
      refine lv_iconst (v := 0) (pc := 18) E.1 E.2.1 dX8_cap_18 (by decide) ?_
      refine lv_iload_n (pc := 19) E.1 E.2.1 dX8_cap_19 rfl (lv_at hl 1 rfl) ?_
      obtain ⟨v7, g8, hf⟩ := x_bind hf
      refine x_callVA (pc := 20) (As := [.int 0, .int x1]) (rest := []) (st1 := [.int v7.1]) (ws' := (cells8 G ad v7.2)) E hw hl (c_X8_becomes l G ad s 0 x1 g8) xv_X8_128 xd_X8_becomes rfl rfl ⟨Nat.le_of_ble_eq_true rfl, Nat.le_of_ble_eq_true rfl⟩ (q0 := 0) rfl rfl rfl rfl (Nat.le_of_ble_eq_true rfl) rfl rfl dX8_cap_20 (fun H locs hw => ?_)
      refine lv_goto (tgt := 27) (pc := 23) E.1 E.2.1 dX8_cap_23 (by decide) ?_
      obtain rfl := Option.some.inj hf
      exact x_reti (pc := 27) E hr hk hw dX8_cap_27
set_option maxHeartbeats 4000000 in
set_option maxRecDepth 100000 in
theorem c_X8_cap (l : Launch) (G : xG) (ad : Nat → Nat) (s : S8) (x1 : Int32) {z : Int32 × S8} (hf : f_X8_cap s x1 = some z) : xC l yX8_cap cX8_cap 2 (some .int) (rm_X8_cap) G [.ref (ad 0), .int x1] (cells8 G ad s) (some (.int z.1)) (cells8 G ad z.2) :=
  x_met (by decide) (Nat.le_of_ble_eq_true rfl) (fun p e sS m below meth c E hr hk ls hl hw => w_X8_cap_p0 E hr hk s x1 z hw hl hf)
set_option maxHeartbeats 4000000 in
set_option maxRecDepth 100000 in
theorem w_X8_steady_p0 {p : Program} {l : Launch} {e : Env} {sS : State} {m : MethodId} {args : Array Value} {below : List Frame} {meth : Method} {c : Code} {G : xG} {W0 : va_W} {ad : Nat → Nat}   (E : xE p sS m args c cX8_steady 2 RX8 G (x_in W0)) (hr : meth.sig.returnType = (some .int)) (hk : meth.locks = false)  : ∀ (s' : S8) (x1' : Int32) (z : Int32 × S8) {H : Heap} {locs : List Loc} {ls : Array Slot}, xW G (x_in W0) sS.heap (cells8 G ad s') H locs → lv_has ls 2 [(0, .ref (ad 0)), (1, .int x1')] → f_X8_steady  s' x1' = some z → W p l e (rm_X8_steady) sS m args below meth c H locs 0 0 (MQ below (xQ G W0 (cells8 G ad z.2) (some (.int z.1))) args sS 0 0 (x_in W0)) (F0 m 0 ls []) := by
  intro s x1 z H locs ls hw hl hf
  unfold f_X8_steady at hf
  refine lv_iload_n (pc := 0) E.1 E.2.1 dX8_steady_0 rfl (lv_at hl 1 rfl) ?_
  refine lv_iconst (v := 0) (pc := 1) E.1 E.2.1 dX8_steady_1 (by decide) ?_
  refine lv_bipush (v := 50) (pc := 2) E.1 E.2.1 dX8_steady_2 (by decide) ?_
  obtain ⟨v1, g2, hf⟩ := x_bind hf
  refine x_callS0 (pc := 4) (As := [.int x1, .int 0, .int 50]) (rest := []) (st1 := [.int v1]) E hw hl (c_X8_in l G  x1 0 50 g2) xs_X8_84 xd_X8_in rfl rfl ⟨Nat.le_of_ble_eq_true rfl, Nat.le_of_ble_eq_true rfl⟩ rfl rfl (Nat.le_of_ble_eq_true rfl) rfl dX8_steady_4 (fun H locs hw => ?_)
  refine lv_if_eq (tgt := 29) (pc := 7) E.1 E.2.1 dX8_steady_7 (by decide) (fun q3 => ?_) (fun q3 => ?_)
  · have hf := x_pos q3 hf
    refine lv_iconst (v := (-1)) (pc := 29) E.1 E.2.1 dX8_steady_29 (by decide) ?_
    obtain rfl := Option.some.inj hf
    exact x_reti (pc := 30) E hr hk hw dX8_steady_30
  · have hf := x_neg q3 hf
    refine lv_iload_n (pc := 10) E.1 E.2.1 dX8_steady_10 rfl (lv_at hl 1 rfl) ?_
    refine lv_aload_n (pc := 11) E.1 E.2.1 dX8_steady_11 rfl (lv_at hl 0 rfl) ?_
    refine xg_X8_13 (pc := 12) (v := .ref (ad 1)) E hw 0 rfl rfl dX8_steady_12 ?_
    refine lv_iconst (v := 1) (pc := 15) E.1 E.2.1 dX8_steady_15 (by decide) ?_
    obtain ⟨v5, g4, hf⟩ := x_bind hf
    refine x_iald (pc := 16) E hw 1 rfl g4 dX8_steady_16 ?_
    refine lv_icmp_eq (tgt := 29) (pc := 17) E.1 E.2.1 dX8_steady_17 (by decide) (fun q6 => ?_) (fun q6 => ?_)
    · have hf := x_pos q6 hf
      refine lv_iconst (v := (-1)) (pc := 29) E.1 E.2.1 dX8_steady_29 (by decide) ?_
      obtain rfl := Option.some.inj hf
      exact x_reti (pc := 30) E hr hk hw dX8_steady_30
    · have hf := x_neg q6 hf
      refine lv_aload_n (pc := 20) E.1 E.2.1 dX8_steady_20 rfl (lv_at hl 0 rfl) ?_
      refine lv_iconst (v := 1) (pc := 21) E.1 E.2.1 dX8_steady_21 (by decide) ?_
      refine lv_iload_n (pc := 22) E.1 E.2.1 dX8_steady_22 rfl (lv_at hl 1 rfl) ?_
      obtain ⟨v7, g8, hf⟩ := x_bind hf
      refine x_callVA (pc := 23) (As := [.int 1, .int x1]) (rest := []) (st1 := [.int v7.1]) (ws' := (cells8 G ad v7.2)) E hw hl (c_X8_becomes l G ad s 1 x1 g8) xv_X8_128 xd_X8_becomes rfl rfl ⟨Nat.le_of_ble_eq_true rfl, Nat.le_of_ble_eq_true rfl⟩ (q0 := 0) rfl rfl rfl rfl (Nat.le_of_ble_eq_true rfl) rfl rfl dX8_steady_23 (fun H locs hw => ?_)
      refine lv_goto (tgt := 30) (pc := 26) E.1 E.2.1 dX8_steady_26 (by decide) ?_
      obtain rfl := Option.some.inj hf
      exact x_reti (pc := 30) E hr hk hw dX8_steady_30
set_option maxHeartbeats 4000000 in
set_option maxRecDepth 100000 in
theorem c_X8_steady (l : Launch) (G : xG) (ad : Nat → Nat) (s : S8) (x1 : Int32) {z : Int32 × S8} (hf : f_X8_steady s x1 = some z) : xC l yX8_steady cX8_steady 2 (some .int) (rm_X8_steady) G [.ref (ad 0), .int x1] (cells8 G ad s) (some (.int z.1)) (cells8 G ad z.2) :=
  x_met (by decide) (Nat.le_of_ble_eq_true rfl) (fun p e sS m below meth c E hr hk ls hl hw => w_X8_steady_p0 E hr hk s x1 z hw hl hf)
set_option maxHeartbeats 4000000 in
set_option maxRecDepth 100000 in
theorem w_X8_undo_p21 {p : Program} {l : Launch} {e : Env} {sS : State} {m : MethodId} {args : Array Value} {below : List Frame} {meth : Method} {c : Code} {G : xG} {W0 : va_W} {ad : Nat → Nat}  {k21 : S8 → Int32 → Option (Int32 × S8)} (E : xE p sS m args c cX8_undo 2 RX8 G (x_in W0)) (hr : meth.sig.returnType = (some .int)) (hk : meth.locks = false) (hk21 : ∀ (s' : S8) (x1' : Int32) (z : Int32 × S8) {H : Heap} {locs : List Loc} {ls : Array Slot}, xW G (x_in W0) sS.heap (cells8 G ad s') H locs → lv_has ls 2 [(0, .ref (ad 0)), (1, .int x1')] → k21  s' x1' = some z → W p l e (rm_X8_undo) sS m args below meth c H locs 0 0 (MQ below (xQ G W0 (cells8 G ad z.2) (some (.int z.1))) args sS 0 0 (x_in W0)) (F0 m 21 ls [])) : ∀ (s' : S8) (x1' : Int32) (z : Int32 × S8) {H : Heap} {locs : List Loc} {ls : Array Slot}, xW G (x_in W0) sS.heap (cells8 G ad s') H locs → lv_has ls 2 [(0, .ref (ad 0)), (1, .int x1')] → f_X8_undo_p21 k21 s' x1' = some z → W p l e (rm_X8_undo) sS m args below meth c H locs 0 0 (MQ below (xQ G W0 (cells8 G ad z.2) (some (.int z.1))) args sS 0 0 (x_in W0)) (F0 m 21 ls []) := by
  intro s x1 z H locs ls hw hl hf
  unfold f_X8_undo_p21 at hf
  refine lv_iload_n (pc := 21) E.1 E.2.1 dX8_undo_21 rfl (lv_at hl 1 rfl) ?_
  refine lv_sipush (v := 140) (pc := 22) E.1 E.2.1 dX8_undo_22 (by decide) ?_
  refine lv_icmp_ge (tgt := 55) (pc := 25) E.1 E.2.1 dX8_undo_25 (by decide) (fun q1 => ?_) (fun q1 => ?_)
  · have hf := x_pos q1 hf
    refine lv_aload_n (pc := 55) E.1 E.2.1 dX8_undo_55 rfl (lv_at hl 0 rfl) ?_
    refine xg_X8_77 (pc := 56) (v := .int (g8_acts s)) E hw 0 rfl rfl dX8_undo_56 ?_
    obtain rfl := Option.some.inj hf
    exact x_reti (pc := 59) E hr hk hw dX8_undo_59
  · have hf := x_neg q1 hf
    refine lv_aload_n (pc := 28) E.1 E.2.1 dX8_undo_28 rfl (lv_at hl 0 rfl) ?_
    refine xg_X8_13 (pc := 29) (v := .ref (ad 1)) E hw 0 rfl rfl dX8_undo_29 ?_
    refine lv_iload_n (pc := 32) E.1 E.2.1 dX8_undo_32 rfl (lv_at hl 1 rfl) ?_
    refine lv_aload_n (pc := 33) E.1 E.2.1 dX8_undo_33 rfl (lv_at hl 0 rfl) ?_
    refine xg_X8_23 (pc := 34) (v := .ref (ad 4)) E hw 0 rfl rfl dX8_undo_34 ?_
    refine lv_sipush (v := 140) (pc := 37) E.1 E.2.1 dX8_undo_37 (by decide) ?_
    refine lv_aload_n (pc := 40) E.1 E.2.1 dX8_undo_40 rfl (lv_at hl 0 rfl) ?_
    refine xg_X8_77 (pc := 41) (v := .int (g8_acts s)) E hw 0 rfl rfl dX8_undo_41 ?_
    refine lv_imul (pc := 44) E.1 E.2.1 dX8_undo_44 ?_
    refine lv_iload_n (pc := 45) E.1 E.2.1 dX8_undo_45 rfl (lv_at hl 1 rfl) ?_
    refine lv_iadd (pc := 46) E.1 E.2.1 dX8_undo_46 ?_
    obtain ⟨v3, g2, hf⟩ := x_bind hf
    refine x_iald (pc := 47) E hw 4 rfl g2 dX8_undo_47 ?_
    obtain ⟨w5, g4, hf⟩ := x_bind hf
    refine x_iast (pc := 48) (ws' := (cells8 G ad (u8_now s w5))) E hw 1 rfl g4 rfl dX8_undo_48 (fun H locs hw => ?_)
    refine lv_iinc (v := (x1 + 1)) (lv' := [(1, .int (x1 + 1)), (0, .ref (ad 0))]) (pc := 49) E.1 E.2.1 dX8_undo_49 hl (k := 1) rfl rfl (by decide) rfl (fun ls hl => ?_)
    refine lv_goto (tgt := 21) (pc := 52) E.1 E.2.1 dX8_undo_52 (by decide) ?_
    exact hk21 (u8_now s w5) (x1 + 1) z hw (lv_sub hl [1, 0] rfl) hf
set_option maxHeartbeats 4000000 in
set_option maxRecDepth 100000 in
theorem wl_X8_undo_p21 {p : Program} {l : Launch} {e : Env} {sS : State} {m : MethodId} {args : Array Value} {below : List Frame} {meth : Method} {c : Code} {G : xG} {W0 : va_W} {ad : Nat → Nat}   (E : xE p sS m args c cX8_undo 2 RX8 G (x_in W0)) (hr : meth.sig.returnType = (some .int)) (hk : meth.locks = false)  : ∀ (s' : S8) (x1' : Int32) (z : Int32 × S8) {H : Heap} {locs : List Loc} {ls : Array Slot}, xW G (x_in W0) sS.heap (cells8 G ad s') H locs → lv_has ls 2 [(0, .ref (ad 0)), (1, .int x1')] → lp_X8_undo_p21  s' x1' = some z → W p l e (rm_X8_undo) sS m args below meth c H locs 0 0 (MQ below (xQ G W0 (cells8 G ad z.2) (some (.int z.1))) args sS 0 0 (x_in W0)) (F0 m 21 ls []) := by
  intro s x1 z H locs ls hw hl hf
  exact x_loop_W (P := fun (q : S8 × Int32) (z : Int32 × S8) => ∀ {H : Heap} {locs : List Loc} {ls : Array Slot}, xW G (x_in W0) sS.heap (cells8 G ad q.1) H locs → lv_has ls 2 [(0, .ref (ad 0)), (1, .int q.2)] → W p l e (rm_X8_undo) sS m args below meth c H locs 0 0 (MQ below (xQ G W0 (cells8 G ad z.2) (some (.int z.1))) args sS 0 0 (x_in W0)) (F0 m 21 ls [])) (fun k hkk q z hf H locs ls hw hl => w_X8_undo_p21 E hr hk  (fun s x1 z H locs ls hw hl hf => hkk (s, x1) z hf hw hl) q.1 q.2 z hw hl hf) FU (s, x1) z hf hw hl
set_option maxHeartbeats 4000000 in
set_option maxRecDepth 100000 in
theorem w_X8_undo_p0 {p : Program} {l : Launch} {e : Env} {sS : State} {m : MethodId} {args : Array Value} {below : List Frame} {meth : Method} {c : Code} {G : xG} {W0 : va_W} {ad : Nat → Nat}   (E : xE p sS m args c cX8_undo 2 RX8 G (x_in W0)) (hr : meth.sig.returnType = (some .int)) (hk : meth.locks = false)  : ∀ (s' : S8) (z : Int32 × S8) {H : Heap} {locs : List Loc} {ls : Array Slot}, xW G (x_in W0) sS.heap (cells8 G ad s') H locs → lv_has ls 2 [(0, .ref (ad 0))] → f_X8_undo  s' = some z → W p l e (rm_X8_undo) sS m args below meth c H locs 0 0 (MQ below (xQ G W0 (cells8 G ad z.2) (some (.int z.1))) args sS 0 0 (x_in W0)) (F0 m 0 ls []) := by
  intro s z H locs ls hw hl hf
  unfold f_X8_undo at hf
  refine lv_aload_n (pc := 0) E.1 E.2.1 dX8_undo_0 rfl (lv_at hl 0 rfl) ?_
  refine xg_X8_77 (pc := 1) (v := .int (g8_acts s)) E hw 0 rfl rfl dX8_undo_1 ?_
  refine lv_if_ne (tgt := 9) (pc := 4) E.1 E.2.1 dX8_undo_4 (by decide) (fun q1 => ?_) (fun q1 => ?_)
  · have hf := x_neg q1 hf
    refine lv_aload_n (pc := 9) E.1 E.2.1 dX8_undo_9 rfl (lv_at hl 0 rfl) ?_
    refine lv_dup (pc := 10) E.1 E.2.1 dX8_undo_10 rfl ?_
    refine xg_X8_77 (pc := 11) (v := .int (g8_acts s)) E hw 0 rfl rfl dX8_undo_11 ?_
    refine lv_iconst (v := 1) (pc := 14) E.1 E.2.1 dX8_undo_14 (by decide) ?_
    refine lv_isub (pc := 15) E.1 E.2.1 dX8_undo_15 ?_
    refine xp_X8_77 (pc := 16) (v := .int ((g8_acts s) - 1)) (ws' := (cells8 G ad (u8_acts s ((g8_acts s) - 1)))) E hw 0 rfl rfl rfl (Nat.le_of_ble_eq_true rfl) rfl dX8_undo_16 (fun H locs hw => ?_)
    refine lv_iconst (v := 0) (pc := 19) E.1 E.2.1 dX8_undo_19 (by decide) ?_
    refine lv_istore_n (lv' := [(1, .int 0), (0, .ref (ad 0))]) (pc := 20) E.1 E.2.1 dX8_undo_20 rfl hl (by decide) rfl (fun ls hl => ?_)
    exact wl_X8_undo_p21 E hr hk  (u8_acts s ((g8_acts s) - 1)) 0 z hw (lv_sub hl [1, 0] rfl) hf
  · have hf := x_pos q1 hf
    refine lv_iconst (v := (-1)) (pc := 7) E.1 E.2.1 dX8_undo_7 (by decide) ?_
    obtain rfl := Option.some.inj hf
    exact x_reti (pc := 8) E hr hk hw dX8_undo_8
set_option maxHeartbeats 4000000 in
set_option maxRecDepth 100000 in
theorem c_X8_undo (l : Launch) (G : xG) (ad : Nat → Nat) (s : S8) {z : Int32 × S8} (hf : f_X8_undo s = some z) : xC l yX8_undo cX8_undo 2 (some .int) (rm_X8_undo) G [.ref (ad 0)] (cells8 G ad s) (some (.int z.1)) (cells8 G ad z.2) :=
  x_met (by decide) (Nat.le_of_ble_eq_true rfl) (fun p e sS m below meth c E hr hk ls hl hw => w_X8_undo_p0 E hr hk s z hw hl hf)
set_option maxHeartbeats 4000000 in
set_option maxRecDepth 100000 in
theorem w_X8_common_p17 {p : Program} {l : Launch} {e : Env} {sS : State} {m : MethodId} {args : Array Value} {below : List Frame} {meth : Method} {c : Code} {G : xG} {W0 : va_W}   {k17 : Int64 → Int64 → Option (Int64)} (E : xE p sS m args c cX8_common 10 RX8 G (x_in W0)) (hr : meth.sig.returnType = (some .long)) (hk : meth.locks = false) (hk17 : ∀ (x4' : Int64) (x6' : Int64) (z : Int64) {H : Heap} {locs : List Loc} {ls : Array Slot}, xW G (x_in W0) sS.heap [] H locs → lv_has ls 10 [(4, .long x4'), (6, .long x6')] → k17  x4' x6' = some z → W p l e (rm_X8_common) sS m args below meth c H locs 0 0 (MQ below (xQ G W0 [] (some (.long z))) args sS 0 0 (x_in W0)) (F0 m 17 ls [])) : ∀ (x4' : Int64) (x6' : Int64) (z : Int64) {H : Heap} {locs : List Loc} {ls : Array Slot}, xW G (x_in W0) sS.heap [] H locs → lv_has ls 10 [(4, .long x4'), (6, .long x6')] → f_X8_common_p17 k17 x4' x6' = some z → W p l e (rm_X8_common) sS m args below meth c H locs 0 0 (MQ below (xQ G W0 [] (some (.long z))) args sS 0 0 (x_in W0)) (F0 m 17 ls []) := by
  intro x4 x6 z H locs ls hw hl hf
  unfold f_X8_common_p17 at hf
  refine lv_lload (pc := 17) E.1 E.2.1 dX8_common_17 (lv_at hl 1 rfl) ?_
  refine lv_lconst (v := 0) (pc := 19) E.1 E.2.1 dX8_common_19 (by decide) ?_
  refine W.lcmp (pc := 20) E.1 E.2.1 dX8_common_20 ?_
  refine lv_if_eq (tgt := 42) (pc := 21) E.1 E.2.1 dX8_common_21 (by decide) (fun q1 => ?_) (fun q1 => ?_)
  · have hf := x_pos q1 hf
    refine lv_lload (pc := 42) E.1 E.2.1 dX8_common_42 (lv_at hl 0 rfl) ?_
    obtain rfl := Option.some.inj hf
    exact x_retl (pc := 44) E hr hk hw dX8_common_44
  · have hf := x_neg q1 hf
    refine lv_lload (pc := 24) E.1 E.2.1 dX8_common_24 (lv_at hl 0 rfl) ?_
    refine lv_lload (pc := 26) E.1 E.2.1 dX8_common_26 (lv_at hl 1 rfl) ?_
    obtain ⟨u3, g2, hf⟩ := x_bind hf
    refine lv_lrem (pc := 28) E.1 E.2.1 dX8_common_28 (x_nzl_some g2) ?_
    refine lv_lstore (lv' := [(8, .long (x4 - x4 / x6 * x6)), (4, .long x4), (6, .long x6)]) (pc := 29) E.1 E.2.1 dX8_common_29 hl (by decide) rfl (fun ls hl => ?_)
    refine lv_lload (pc := 31) E.1 E.2.1 dX8_common_31 (lv_at hl 2 rfl) ?_
    refine lv_lstore (lv' := [(4, .long x6), (8, .long (x4 - x4 / x6 * x6)), (6, .long x6)]) (pc := 33) E.1 E.2.1 dX8_common_33 hl (by decide) rfl (fun ls hl => ?_)
    refine lv_lload (pc := 35) E.1 E.2.1 dX8_common_35 (lv_at hl 1 rfl) ?_
    refine lv_lstore (lv' := [(6, .long (x4 - x4 / x6 * x6)), (4, .long x6), (8, .long (x4 - x4 / x6 * x6))]) (pc := 37) E.1 E.2.1 dX8_common_37 hl (by decide) rfl (fun ls hl => ?_)
    refine lv_goto (tgt := 17) (pc := 39) E.1 E.2.1 dX8_common_39 (by decide) ?_
    exact hk17 x6 (x4 - x4 / x6 * x6) z hw (lv_sub hl [1, 0] rfl) hf
set_option maxHeartbeats 4000000 in
set_option maxRecDepth 100000 in
theorem wl_X8_common_p17 {p : Program} {l : Launch} {e : Env} {sS : State} {m : MethodId} {args : Array Value} {below : List Frame} {meth : Method} {c : Code} {G : xG} {W0 : va_W}    (E : xE p sS m args c cX8_common 10 RX8 G (x_in W0)) (hr : meth.sig.returnType = (some .long)) (hk : meth.locks = false)  : ∀ (x4' : Int64) (x6' : Int64) (z : Int64) {H : Heap} {locs : List Loc} {ls : Array Slot}, xW G (x_in W0) sS.heap [] H locs → lv_has ls 10 [(4, .long x4'), (6, .long x6')] → lp_X8_common_p17  x4' x6' = some z → W p l e (rm_X8_common) sS m args below meth c H locs 0 0 (MQ below (xQ G W0 [] (some (.long z))) args sS 0 0 (x_in W0)) (F0 m 17 ls []) := by
  intro x4 x6 z H locs ls hw hl hf
  exact x_loop_W (P := fun (q : Int64 × Int64) (z : Int64) => ∀ {H : Heap} {locs : List Loc} {ls : Array Slot}, xW G (x_in W0) sS.heap [] H locs → lv_has ls 10 [(4, .long q.1), (6, .long q.2)] → W p l e (rm_X8_common) sS m args below meth c H locs 0 0 (MQ below (xQ G W0 [] (some (.long z))) args sS 0 0 (x_in W0)) (F0 m 17 ls [])) (fun k hkk q z hf H locs ls hw hl => w_X8_common_p17 E hr hk  (fun x4 x6 z H locs ls hw hl hf => hkk (x4, x6) z hf hw hl) q.1 q.2 z hw hl hf) FU (x4, x6) z hf hw hl
set_option maxHeartbeats 4000000 in
set_option maxRecDepth 100000 in
theorem w_X8_common_p0 {p : Program} {l : Launch} {e : Env} {sS : State} {m : MethodId} {args : Array Value} {below : List Frame} {meth : Method} {c : Code} {G : xG} {W0 : va_W}    (E : xE p sS m args c cX8_common 10 RX8 G (x_in W0)) (hr : meth.sig.returnType = (some .long)) (hk : meth.locks = false)  : ∀ (x0' : Int64) (x2' : Int64) (z : Int64) {H : Heap} {locs : List Loc} {ls : Array Slot}, xW G (x_in W0) sS.heap [] H locs → lv_has ls 10 [(0, .long x0'), (2, .long x2')] → f_X8_common  x0' x2' = some z → W p l e (rm_X8_common) sS m args below meth c H locs 0 0 (MQ below (xQ G W0 [] (some (.long z))) args sS 0 0 (x_in W0)) (F0 m 0 ls []) := by
  intro x0 x2 z H locs ls hw hl hf
  unfold f_X8_common at hf
  refine lv_lload_n (pc := 0) E.1 E.2.1 dX8_common_0 rfl (lv_at hl 0 rfl) ?_
  refine lv_lconst (v := 0) (pc := 1) E.1 E.2.1 dX8_common_1 (by decide) ?_
  refine W.lcmp (pc := 2) E.1 E.2.1 dX8_common_2 ?_
  refine lv_if_ge (tgt := 11) (pc := 3) E.1 E.2.1 dX8_common_3 (by decide) (fun q1 => ?_) (fun q1 => ?_)
  · have hf := x_pos q1 hf
    refine lv_lload_n (pc := 11) E.1 E.2.1 dX8_common_11 rfl (lv_at hl 0 rfl) ?_
    refine lv_lstore (lv' := [(4, .long x0), (0, .long x0), (2, .long x2)]) (pc := 12) E.1 E.2.1 dX8_common_12 hl (by decide) rfl (fun ls hl => ?_)
    refine lv_lload_n (pc := 14) E.1 E.2.1 dX8_common_14 rfl (lv_at hl 2 rfl) ?_
    refine lv_lstore (lv' := [(6, .long x2), (4, .long x0), (0, .long x0), (2, .long x2)]) (pc := 15) E.1 E.2.1 dX8_common_15 hl (by decide) rfl (fun ls hl => ?_)
    exact wl_X8_common_p17 E hr hk  x0 x2 z hw (lv_sub hl [1, 0] rfl) hf
  · have hf := x_neg q1 hf
    refine lv_lload_n (pc := 6) E.1 E.2.1 dX8_common_6 rfl (lv_at hl 0 rfl) ?_
    refine lv_lneg (pc := 7) E.1 E.2.1 dX8_common_7 ?_
    refine lv_goto (tgt := 12) (pc := 8) E.1 E.2.1 dX8_common_8 (by decide) ?_
    refine lv_lstore (lv' := [(4, .long (-x0)), (0, .long x0), (2, .long x2)]) (pc := 12) E.1 E.2.1 dX8_common_12 hl (by decide) rfl (fun ls hl => ?_)
    refine lv_lload_n (pc := 14) E.1 E.2.1 dX8_common_14 rfl (lv_at hl 2 rfl) ?_
    refine lv_lstore (lv' := [(6, .long x2), (4, .long (-x0)), (0, .long x0), (2, .long x2)]) (pc := 15) E.1 E.2.1 dX8_common_15 hl (by decide) rfl (fun ls hl => ?_)
    exact wl_X8_common_p17 E hr hk  (-x0) x2 z hw (lv_sub hl [1, 0] rfl) hf
set_option maxHeartbeats 4000000 in
set_option maxRecDepth 100000 in
theorem c_X8_common (l : Launch) (G : xG)  (x0 : Int64) (x2 : Int64) {z : Int64} (hf : f_X8_common x0 x2 = some z) : xC l yX8_common cX8_common 10 (some .long) (rm_X8_common) G [.long x0, .long x2] [] (some (.long z)) [] :=
  x_met (by decide) (Nat.le_of_ble_eq_true rfl) (fun p e sS m below meth c E hr hk ls hl hw => w_X8_common_p0 E hr hk x0 x2 z hw hl hf)
set_option maxHeartbeats 4000000 in
set_option maxRecDepth 100000 in
theorem w_X8_is_p0 {p : Program} {l : Launch} {e : Env} {sS : State} {m : MethodId} {args : Array Value} {below : List Frame} {meth : Method} {c : Code} {G : xG} {W0 : va_W} {ad : Nat → Nat}   (E : xE p sS m args c cX8_is 7 RX8 G (x_in W0)) (hr : meth.sig.returnType = none) (hk : meth.locks = false)  : ∀ (s' : S8) (x1' : Int64) (x3' : Int64) (z : S8) {H : Heap} {locs : List Loc} {ls : Array Slot}, xW G (x_in W0) sS.heap (cells8 G ad s') H locs → lv_has ls 7 [(0, .ref (ad 0)), (1, .long x1'), (3, .long x3')] → f_X8_is  s' x1' x3' = some z → W p l e (rm_X8_is) sS m args below meth c H locs 0 0 (MQ below (xQ G W0 (cells8 G ad z) none) args sS 0 0 (x_in W0)) (F0 m 0 ls []) := by
  intro s x1 x3 z H locs ls hw hl hf
  unfold f_X8_is at hf
  refine lv_lload_n (pc := 0) E.1 E.2.1 dX8_is_0 rfl (lv_at hl 1 rfl) ?_
  refine lv_lload_n (pc := 1) E.1 E.2.1 dX8_is_1 rfl (lv_at hl 2 rfl) ?_
  obtain ⟨v1, g2, hf⟩ := x_bind hf
  refine x_callS0 (pc := 2) (As := [.long x1, .long x3]) (rest := []) (st1 := [.long v1]) E hw hl (c_X8_common l G  x1 x3 g2) xs_X8_157 xd_X8_common rfl rfl ⟨Nat.le_of_ble_eq_true rfl, Nat.le_of_ble_eq_true rfl⟩ rfl rfl (Nat.le_of_ble_eq_true rfl) rfl dX8_is_2 (fun H locs hw => ?_)
  refine lv_lstore (lv' := [(5, .long v1), (0, .ref (ad 0)), (1, .long x1), (3, .long x3)]) (pc := 5) E.1 E.2.1 dX8_is_5 hl (by decide) rfl (fun ls hl => ?_)
  refine lv_aload_n (pc := 7) E.1 E.2.1 dX8_is_7 rfl (lv_at hl 1 rfl) ?_
  refine lv_lload_n (pc := 8) E.1 E.2.1 dX8_is_8 rfl (lv_at hl 2 rfl) ?_
  refine lv_lload (pc := 9) E.1 E.2.1 dX8_is_9 (lv_at hl 0 rfl) ?_
  obtain ⟨u4, g3, hf⟩ := x_bind hf
  refine lv_ldiv (pc := 11) E.1 E.2.1 dX8_is_11 (x_nzl_some g3) ?_
  refine xp_X8_161 (pc := 12) (v := .long (x1 / v1)) (ws' := (cells8 G ad (u8_upper s (x1 / v1)))) E hw 0 rfl rfl rfl (Nat.le_of_ble_eq_true rfl) rfl dX8_is_12 (fun H locs hw => ?_)
  refine lv_aload_n (pc := 15) E.1 E.2.1 dX8_is_15 rfl (lv_at hl 1 rfl) ?_
  refine lv_lload_n (pc := 16) E.1 E.2.1 dX8_is_16 rfl (lv_at hl 3 rfl) ?_
  refine lv_lload (pc := 17) E.1 E.2.1 dX8_is_17 (lv_at hl 0 rfl) ?_
  obtain ⟨u6, g5, hf⟩ := x_bind hf
  refine lv_ldiv (pc := 19) E.1 E.2.1 dX8_is_19 (x_nzl_some g5) ?_
  refine xp_X8_165 (pc := 20) (v := .long (x3 / v1)) (ws' := (cells8 G ad (u8_lower (u8_upper s (x1 / v1)) (x3 / v1)))) E hw 0 rfl rfl rfl (Nat.le_of_ble_eq_true rfl) rfl dX8_is_20 (fun H locs hw => ?_)
  obtain rfl := Option.some.inj hf
  exact x_retv (pc := 23) E hr hk hw dX8_is_23
set_option maxHeartbeats 4000000 in
set_option maxRecDepth 100000 in
theorem c_X8_is (l : Launch) (G : xG) (ad : Nat → Nat) (s : S8) (x1 : Int64) (x3 : Int64) {z : S8} (hf : f_X8_is s x1 x3 = some z) : xC l yX8_is cX8_is 7 none (rm_X8_is) G [.ref (ad 0), .long x1, .long x3] (cells8 G ad s) none (cells8 G ad z) :=
  x_met (by decide) (Nat.le_of_ble_eq_true rfl) (fun p e sS m below meth c E hr hk ls hl hw => w_X8_is_p0 E hr hk s x1 x3 z hw hl hf)
set_option maxHeartbeats 4000000 in
set_option maxRecDepth 100000 in
theorem w_X8_adds_p0 {p : Program} {l : Launch} {e : Env} {sS : State} {m : MethodId} {args : Array Value} {below : List Frame} {meth : Method} {c : Code} {G : xG} {W0 : va_W} {ad : Nat → Nat}   (E : xE p sS m args c cX8_adds 11 RX8 G (x_in W0)) (hr : meth.sig.returnType = none) (hk : meth.locks = false)  : ∀ (s' : S8) (x1' : Int64) (x3' : Int64) (x5' : Int64) (x7' : Int64) (z : S8) {H : Heap} {locs : List Loc} {ls : Array Slot}, xW G (x_in W0) sS.heap (cells8 G ad s') H locs → lv_has ls 11 [(0, .ref (ad 0)), (1, .long x1'), (3, .long x3'), (5, .long x5'), (7, .long x7')] → f_X8_adds  s' x1' x3' x5' x7' = some z → W p l e (rm_X8_adds) sS m args below meth c H locs 0 0 (MQ below (xQ G W0 (cells8 G ad z) none) args sS 0 0 (x_in W0)) (F0 m 0 ls []) := by
  intro s x1 x3 x5 x7 z H locs ls hw hl hf
  unfold f_X8_adds at hf
  refine lv_lload_n (pc := 0) E.1 E.2.1 dX8_adds_0 rfl (lv_at hl 2 rfl) ?_
  refine lv_lload (pc := 1) E.1 E.2.1 dX8_adds_1 (lv_at hl 4 rfl) ?_
  obtain ⟨v1, g2, hf⟩ := x_bind hf
  refine x_callS0 (pc := 3) (As := [.long x3, .long x7]) (rest := []) (st1 := [.long v1]) E hw hl (c_X8_common l G  x3 x7 g2) xs_X8_157 xd_X8_common rfl rfl ⟨Nat.le_of_ble_eq_true rfl, Nat.le_of_ble_eq_true rfl⟩ rfl rfl (Nat.le_of_ble_eq_true rfl) rfl dX8_adds_3 (fun H locs hw => ?_)
  refine lv_lstore (lv' := [(9, .long v1), (0, .ref (ad 0)), (1, .long x1), (3, .long x3), (5, .long x5), (7, .long x7)]) (pc := 6) E.1 E.2.1 dX8_adds_6 hl (by decide) rfl (fun ls hl => ?_)
  refine lv_aload_n (pc := 8) E.1 E.2.1 dX8_adds_8 rfl (lv_at hl 1 rfl) ?_
  refine lv_lload_n (pc := 9) E.1 E.2.1 dX8_adds_9 rfl (lv_at hl 2 rfl) ?_
  refine lv_lload (pc := 10) E.1 E.2.1 dX8_adds_10 (lv_at hl 5 rfl) ?_
  refine lv_lload (pc := 12) E.1 E.2.1 dX8_adds_12 (lv_at hl 0 rfl) ?_
  obtain ⟨u4, g3, hf⟩ := x_bind hf
  refine lv_ldiv (pc := 14) E.1 E.2.1 dX8_adds_14 (x_nzl_some g3) ?_
  refine lv_lmul (pc := 15) E.1 E.2.1 dX8_adds_15 ?_
  refine lv_lload (pc := 16) E.1 E.2.1 dX8_adds_16 (lv_at hl 4 rfl) ?_
  refine lv_lload_n (pc := 18) E.1 E.2.1 dX8_adds_18 rfl (lv_at hl 3 rfl) ?_
  refine lv_lload (pc := 19) E.1 E.2.1 dX8_adds_19 (lv_at hl 0 rfl) ?_
  obtain ⟨u6, g5, hf⟩ := x_bind hf
  refine lv_ldiv (pc := 21) E.1 E.2.1 dX8_adds_21 (x_nzl_some g5) ?_
  refine lv_lmul (pc := 22) E.1 E.2.1 dX8_adds_22 ?_
  refine lv_ladd (pc := 23) E.1 E.2.1 dX8_adds_23 ?_
  refine lv_lload_n (pc := 24) E.1 E.2.1 dX8_adds_24 rfl (lv_at hl 3 rfl) ?_
  refine lv_lload (pc := 25) E.1 E.2.1 dX8_adds_25 (lv_at hl 0 rfl) ?_
  obtain ⟨u8, g7, hf⟩ := x_bind hf
  refine lv_ldiv (pc := 27) E.1 E.2.1 dX8_adds_27 (x_nzl_some g7) ?_
  refine lv_lload (pc := 28) E.1 E.2.1 dX8_adds_28 (lv_at hl 5 rfl) ?_
  refine lv_lmul (pc := 30) E.1 E.2.1 dX8_adds_30 ?_
  obtain ⟨v9, g10, hf⟩ := x_bind hf
  refine x_callVA (pc := 31) (As := [.long ((x1 * (x7 / v1)) + (x5 * (x3 / v1))), .long ((x3 / v1) * x7)]) (rest := []) (st1 := []) (ws' := (cells8 G ad v9)) E hw hl (c_X8_is l G ad s ((x1 * (x7 / v1)) + (x5 * (x3 / v1))) ((x3 / v1) * x7) g10) xv_X8_168 xd_X8_is rfl rfl ⟨Nat.le_of_ble_eq_true rfl, Nat.le_of_ble_eq_true rfl⟩ (q0 := 0) rfl rfl rfl rfl (Nat.le_of_ble_eq_true rfl) rfl rfl dX8_adds_31 (fun H locs hw => ?_)
  obtain rfl := Option.some.inj hf
  exact x_retv (pc := 34) E hr hk hw dX8_adds_34
set_option maxHeartbeats 4000000 in
set_option maxRecDepth 100000 in
theorem c_X8_adds (l : Launch) (G : xG) (ad : Nat → Nat) (s : S8) (x1 : Int64) (x3 : Int64) (x5 : Int64) (x7 : Int64) {z : S8} (hf : f_X8_adds s x1 x3 x5 x7 = some z) : xC l yX8_adds cX8_adds 11 none (rm_X8_adds) G [.ref (ad 0), .long x1, .long x3, .long x5, .long x7] (cells8 G ad s) none (cells8 G ad z) :=
  x_met (by decide) (Nat.le_of_ble_eq_true rfl) (fun p e sS m below meth c E hr hk ls hl hw => w_X8_adds_p0 E hr hk s x1 x3 x5 x7 z hw hl hf)
set_option maxHeartbeats 4000000 in
set_option maxRecDepth 100000 in
theorem w_X8_multiplies_p0 {p : Program} {l : Launch} {e : Env} {sS : State} {m : MethodId} {args : Array Value} {below : List Frame} {meth : Method} {c : Code} {G : xG} {W0 : va_W} {ad : Nat → Nat}   (E : xE p sS m args c cX8_multiplies 13 RX8 G (x_in W0)) (hr : meth.sig.returnType = none) (hk : meth.locks = false)  : ∀ (s' : S8) (x1' : Int64) (x3' : Int64) (x5' : Int64) (x7' : Int64) (z : S8) {H : Heap} {locs : List Loc} {ls : Array Slot}, xW G (x_in W0) sS.heap (cells8 G ad s') H locs → lv_has ls 13 [(0, .ref (ad 0)), (1, .long x1'), (3, .long x3'), (5, .long x5'), (7, .long x7')] → f_X8_multiplies  s' x1' x3' x5' x7' = some z → W p l e (rm_X8_multiplies) sS m args below meth c H locs 0 0 (MQ below (xQ G W0 (cells8 G ad z) none) args sS 0 0 (x_in W0)) (F0 m 0 ls []) := by
  intro s x1 x3 x5 x7 z H locs ls hw hl hf
  unfold f_X8_multiplies at hf
  refine lv_lload_n (pc := 0) E.1 E.2.1 dX8_multiplies_0 rfl (lv_at hl 1 rfl) ?_
  refine lv_lload (pc := 1) E.1 E.2.1 dX8_multiplies_1 (lv_at hl 4 rfl) ?_
  obtain ⟨v1, g2, hf⟩ := x_bind hf
  refine x_callS0 (pc := 3) (As := [.long x1, .long x7]) (rest := []) (st1 := [.long v1]) E hw hl (c_X8_common l G  x1 x7 g2) xs_X8_157 xd_X8_common rfl rfl ⟨Nat.le_of_ble_eq_true rfl, Nat.le_of_ble_eq_true rfl⟩ rfl rfl (Nat.le_of_ble_eq_true rfl) rfl dX8_multiplies_3 (fun H locs hw => ?_)
  refine lv_lstore (lv' := [(9, .long v1), (0, .ref (ad 0)), (1, .long x1), (3, .long x3), (5, .long x5), (7, .long x7)]) (pc := 6) E.1 E.2.1 dX8_multiplies_6 hl (by decide) rfl (fun ls hl => ?_)
  refine lv_lload (pc := 8) E.1 E.2.1 dX8_multiplies_8 (lv_at hl 4 rfl) ?_
  refine lv_lload_n (pc := 10) E.1 E.2.1 dX8_multiplies_10 rfl (lv_at hl 3 rfl) ?_
  obtain ⟨v3, g4, hf⟩ := x_bind hf
  refine x_callS0 (pc := 11) (As := [.long x5, .long x3]) (rest := []) (st1 := [.long v3]) E hw hl (c_X8_common l G  x5 x3 g4) xs_X8_157 xd_X8_common rfl rfl ⟨Nat.le_of_ble_eq_true rfl, Nat.le_of_ble_eq_true rfl⟩ rfl rfl (Nat.le_of_ble_eq_true rfl) rfl dX8_multiplies_11 (fun H locs hw => ?_)
  refine lv_lstore (lv' := [(11, .long v3), (9, .long v1), (0, .ref (ad 0)), (1, .long x1), (3, .long x3), (5, .long x5), (7, .long x7)]) (pc := 14) E.1 E.2.1 dX8_multiplies_14 hl (by decide) rfl (fun ls hl => ?_)
  refine lv_aload_n (pc := 16) E.1 E.2.1 dX8_multiplies_16 rfl (lv_at hl 2 rfl) ?_
  refine lv_lload_n (pc := 17) E.1 E.2.1 dX8_multiplies_17 rfl (lv_at hl 3 rfl) ?_
  refine lv_lload (pc := 18) E.1 E.2.1 dX8_multiplies_18 (lv_at hl 1 rfl) ?_
  obtain ⟨u6, g5, hf⟩ := x_bind hf
  refine lv_ldiv (pc := 20) E.1 E.2.1 dX8_multiplies_20 (x_nzl_some g5) ?_
  refine lv_lload (pc := 21) E.1 E.2.1 dX8_multiplies_21 (lv_at hl 5 rfl) ?_
  refine lv_lload (pc := 23) E.1 E.2.1 dX8_multiplies_23 (lv_at hl 0 rfl) ?_
  obtain ⟨u8, g7, hf⟩ := x_bind hf
  refine lv_ldiv (pc := 25) E.1 E.2.1 dX8_multiplies_25 (x_nzl_some g7) ?_
  refine lv_lmul (pc := 26) E.1 E.2.1 dX8_multiplies_26 ?_
  refine lv_lload_n (pc := 27) E.1 E.2.1 dX8_multiplies_27 rfl (lv_at hl 4 rfl) ?_
  refine lv_lload (pc := 28) E.1 E.2.1 dX8_multiplies_28 (lv_at hl 0 rfl) ?_
  obtain ⟨u10, g9, hf⟩ := x_bind hf
  refine lv_ldiv (pc := 30) E.1 E.2.1 dX8_multiplies_30 (x_nzl_some g9) ?_
  refine lv_lload (pc := 31) E.1 E.2.1 dX8_multiplies_31 (lv_at hl 6 rfl) ?_
  refine lv_lload (pc := 33) E.1 E.2.1 dX8_multiplies_33 (lv_at hl 1 rfl) ?_
  obtain ⟨u12, g11, hf⟩ := x_bind hf
  refine lv_ldiv (pc := 35) E.1 E.2.1 dX8_multiplies_35 (x_nzl_some g11) ?_
  refine lv_lmul (pc := 36) E.1 E.2.1 dX8_multiplies_36 ?_
  obtain ⟨v13, g14, hf⟩ := x_bind hf
  refine x_callVA (pc := 37) (As := [.long ((x1 / v1) * (x5 / v3)), .long ((x3 / v3) * (x7 / v1))]) (rest := []) (st1 := []) (ws' := (cells8 G ad v13)) E hw hl (c_X8_is l G ad s ((x1 / v1) * (x5 / v3)) ((x3 / v3) * (x7 / v1)) g14) xv_X8_168 xd_X8_is rfl rfl ⟨Nat.le_of_ble_eq_true rfl, Nat.le_of_ble_eq_true rfl⟩ (q0 := 0) rfl rfl rfl rfl (Nat.le_of_ble_eq_true rfl) rfl rfl dX8_multiplies_37 (fun H locs hw => ?_)
  obtain rfl := Option.some.inj hf
  exact x_retv (pc := 40) E hr hk hw dX8_multiplies_40
set_option maxHeartbeats 4000000 in
set_option maxRecDepth 100000 in
theorem c_X8_multiplies (l : Launch) (G : xG) (ad : Nat → Nat) (s : S8) (x1 : Int64) (x3 : Int64) (x5 : Int64) (x7 : Int64) {z : S8} (hf : f_X8_multiplies s x1 x3 x5 x7 = some z) : xC l yX8_multiplies cX8_multiplies 13 none (rm_X8_multiplies) G [.ref (ad 0), .long x1, .long x3, .long x5, .long x7] (cells8 G ad s) none (cells8 G ad z) :=
  x_met (by decide) (Nat.le_of_ble_eq_true rfl) (fun p e sS m below meth c E hr hk ls hl hw => w_X8_multiplies_p0 E hr hk s x1 x3 x5 x7 z hw hl hf)
set_option maxHeartbeats 4000000 in
set_option maxRecDepth 100000 in
theorem w_X8_isLess_p109 {p : Program} {l : Launch} {e : Env} {sS : State} {m : MethodId} {args : Array Value} {below : List Frame} {meth : Method} {c : Code} {G : xG} {W0 : va_W}    (E : xE p sS m args c cX8_isLess 21 RX8 G (x_in W0)) (hr : meth.sig.returnType = (some .boolean)) (hk : meth.locks = false)  : ∀ (x16' : Int32) (y0' : Int32) (z : Int32) {H : Heap} {locs : List Loc} {ls : Array Slot}, xW G (x_in W0) sS.heap [] H locs → lv_has ls 21 [(16, .int x16')] → f_X8_isLess_p109  x16' y0' = some z → W p l e (rm_X8_isLess) sS m args below meth c H locs 0 0 (MQ below (xQ G W0 [] (some (.int z))) args sS 0 0 (x_in W0)) (F0 m 109 ls [.int y0']) := by
  intro x16 y0 z H locs ls hw hl hf
  unfold f_X8_isLess_p109 at hf
  refine lv_iload (pc := 109) E.1 E.2.1 dX8_isLess_109 (lv_at hl 0 rfl) ?_
  refine lv_icmp_eq (tgt := 118) (pc := 111) E.1 E.2.1 dX8_isLess_111 (by decide) (fun q1 => ?_) (fun q1 => ?_)
  · have hf := x_pos q1 hf
    refine lv_iconst (v := 0) (pc := 118) E.1 E.2.1 dX8_isLess_118 (by decide) ?_
    obtain rfl := Option.some.inj hf
    exact x_retz (pc := 119) (v := 0) (r := 0) E hr hk hw (by decide) dX8_isLess_119
  · have hf := x_neg q1 hf
    refine lv_iconst (v := 1) (pc := 114) E.1 E.2.1 dX8_isLess_114 (by decide) ?_
    refine lv_goto (tgt := 119) (pc := 115) E.1 E.2.1 dX8_isLess_115 (by decide) ?_
    obtain rfl := Option.some.inj hf
    exact x_retz (pc := 119) (v := 1) (r := 1) E hr hk hw (by decide) dX8_isLess_119
set_option maxHeartbeats 4000000 in
set_option maxRecDepth 100000 in
theorem w_X8_isLess_p89 {p : Program} {l : Launch} {e : Env} {sS : State} {m : MethodId} {args : Array Value} {below : List Frame} {meth : Method} {c : Code} {G : xG} {W0 : va_W}    (E : xE p sS m args c cX8_isLess 21 RX8 G (x_in W0)) (hr : meth.sig.returnType = (some .boolean)) (hk : meth.locks = false)  : ∀ (x16' : Int32) (x17' : Int64) (x19' : Int64) (z : Int32) {H : Heap} {locs : List Loc} {ls : Array Slot}, xW G (x_in W0) sS.heap [] H locs → lv_has ls 21 [(16, .int x16'), (17, .long x17'), (19, .long x19')] → f_X8_isLess_p89  x16' x17' x19' = some z → W p l e (rm_X8_isLess) sS m args below meth c H locs 0 0 (MQ below (xQ G W0 [] (some (.int z))) args sS 0 0 (x_in W0)) (F0 m 89 ls []) := by
  intro x16 x17 x19 z H locs ls hw hl hf
  unfold f_X8_isLess_p89 at hf
  refine lv_lload (pc := 89) E.1 E.2.1 dX8_isLess_89 (lv_at hl 1 rfl) ?_
  refine lv_lload (pc := 91) E.1 E.2.1 dX8_isLess_91 (lv_at hl 2 rfl) ?_
  refine W.lcmp (pc := 93) E.1 E.2.1 dX8_isLess_93 ?_
  refine lv_if_eq (tgt := 118) (pc := 94) E.1 E.2.1 dX8_isLess_94 (by decide) (fun q1 => ?_) (fun q1 => ?_)
  · have hf := x_pos q1 hf
    refine lv_iconst (v := 0) (pc := 118) E.1 E.2.1 dX8_isLess_118 (by decide) ?_
    obtain rfl := Option.some.inj hf
    exact x_retz (pc := 119) (v := 0) (r := 0) E hr hk hw (by decide) dX8_isLess_119
  · have hf := x_neg q1 hf
    refine lv_lload (pc := 97) E.1 E.2.1 dX8_isLess_97 (lv_at hl 1 rfl) ?_
    refine lv_lconst (v := 0) (pc := 99) E.1 E.2.1 dX8_isLess_99 (by decide) ?_
    refine W.lcmp (pc := 100) E.1 E.2.1 dX8_isLess_100 ?_
    refine lv_if_ne (tgt := 108) (pc := 101) E.1 E.2.1 dX8_isLess_101 (by decide) (fun q2 => ?_) (fun q2 => ?_)
    · have hf := x_neg q2 hf
      refine lv_iconst (v := 0) (pc := 108) E.1 E.2.1 dX8_isLess_108 (by decide) ?_
      exact w_X8_isLess_p109 E hr hk  x16 0 z hw (lv_sub hl [0] rfl) hf
    · have hf := x_pos q2 hf
      refine lv_iconst (v := 1) (pc := 104) E.1 E.2.1 dX8_isLess_104 (by decide) ?_
      refine lv_goto (tgt := 109) (pc := 105) E.1 E.2.1 dX8_isLess_105 (by decide) ?_
      exact w_X8_isLess_p109 E hr hk  x16 1 z hw (lv_sub hl [0] rfl) hf
set_option maxHeartbeats 4000000 in
set_option maxRecDepth 100000 in
theorem w_X8_isLess_p50 {p : Program} {l : Launch} {e : Env} {sS : State} {m : MethodId} {args : Array Value} {below : List Frame} {meth : Method} {c : Code} {G : xG} {W0 : va_W}    (E : xE p sS m args c cX8_isLess 21 RX8 G (x_in W0)) (hr : meth.sig.returnType = (some .boolean)) (hk : meth.locks = false)  : ∀ (x16' : Int32) (y0' : Int32) (z : Int32) {H : Heap} {locs : List Loc} {ls : Array Slot}, xW G (x_in W0) sS.heap [] H locs → lv_has ls 21 [(16, .int x16')] → f_X8_isLess_p50  x16' y0' = some z → W p l e (rm_X8_isLess) sS m args below meth c H locs 0 0 (MQ below (xQ G W0 [] (some (.int z))) args sS 0 0 (x_in W0)) (F0 m 50 ls [.int y0']) := by
  intro x16 y0 z H locs ls hw hl hf
  unfold f_X8_isLess_p50 at hf
  refine lv_iload (pc := 50) E.1 E.2.1 dX8_isLess_50 (lv_at hl 0 rfl) ?_
  refine lv_icmp_eq (tgt := 59) (pc := 52) E.1 E.2.1 dX8_isLess_52 (by decide) (fun q1 => ?_) (fun q1 => ?_)
  · have hf := x_pos q1 hf
    refine lv_iconst (v := 0) (pc := 59) E.1 E.2.1 dX8_isLess_59 (by decide) ?_
    obtain rfl := Option.some.inj hf
    exact x_retz (pc := 60) (v := 0) (r := 0) E hr hk hw (by decide) dX8_isLess_60
  · have hf := x_neg q1 hf
    refine lv_iconst (v := 1) (pc := 55) E.1 E.2.1 dX8_isLess_55 (by decide) ?_
    refine lv_goto (tgt := 60) (pc := 56) E.1 E.2.1 dX8_isLess_56 (by decide) ?_
    obtain rfl := Option.some.inj hf
    exact x_retz (pc := 60) (v := 1) (r := 1) E hr hk hw (by decide) dX8_isLess_60
set_option maxHeartbeats 4000000 in
set_option maxRecDepth 100000 in
theorem w_X8_isLess_p17 {p : Program} {l : Launch} {e : Env} {sS : State} {m : MethodId} {args : Array Value} {below : List Frame} {meth : Method} {c : Code} {G : xG} {W0 : va_W}   {k17 : Int64 → Int64 → Int64 → Int64 → Int32 → Option (Int32)} (E : xE p sS m args c cX8_isLess 21 RX8 G (x_in W0)) (hr : meth.sig.returnType = (some .boolean)) (hk : meth.locks = false) (hk17 : ∀ (x8' : Int64) (x10' : Int64) (x12' : Int64) (x14' : Int64) (x16' : Int32) (z : Int32) {H : Heap} {locs : List Loc} {ls : Array Slot}, xW G (x_in W0) sS.heap [] H locs → lv_has ls 21 [(8, .long x8'), (10, .long x10'), (12, .long x12'), (14, .long x14'), (16, .int x16')] → k17  x8' x10' x12' x14' x16' = some z → W p l e (rm_X8_isLess) sS m args below meth c H locs 0 0 (MQ below (xQ G W0 [] (some (.int z))) args sS 0 0 (x_in W0)) (F0 m 17 ls [])) : ∀ (x8' : Int64) (x10' : Int64) (x12' : Int64) (x14' : Int64) (x16' : Int32) (z : Int32) {H : Heap} {locs : List Loc} {ls : Array Slot}, xW G (x_in W0) sS.heap [] H locs → lv_has ls 21 [(8, .long x8'), (10, .long x10'), (12, .long x12'), (14, .long x14'), (16, .int x16')] → f_X8_isLess_p17 k17 x8' x10' x12' x14' x16' = some z → W p l e (rm_X8_isLess) sS m args below meth c H locs 0 0 (MQ below (xQ G W0 [] (some (.int z))) args sS 0 0 (x_in W0)) (F0 m 17 ls []) := by
  intro x8 x10 x12 x14 x16 z H locs ls hw hl hf
  unfold f_X8_isLess_p17 at hf
  refine lv_lload (pc := 17) E.1 E.2.1 dX8_isLess_17 (lv_at hl 0 rfl) ?_
  refine lv_lload (pc := 19) E.1 E.2.1 dX8_isLess_19 (lv_at hl 1 rfl) ?_
  obtain ⟨u2, g1, hf⟩ := x_bind hf
  refine lv_ldiv (pc := 21) E.1 E.2.1 dX8_isLess_21 (x_nzl_some g1) ?_
  refine lv_lload (pc := 22) E.1 E.2.1 dX8_isLess_22 (lv_at hl 2 rfl) ?_
  refine lv_lload (pc := 24) E.1 E.2.1 dX8_isLess_24 (lv_at hl 3 rfl) ?_
  obtain ⟨u4, g3, hf⟩ := x_bind hf
  refine lv_ldiv (pc := 26) E.1 E.2.1 dX8_isLess_26 (x_nzl_some g3) ?_
  refine W.lcmp (pc := 27) E.1 E.2.1 dX8_isLess_27 ?_
  refine lv_if_eq (tgt := 61) (pc := 28) E.1 E.2.1 dX8_isLess_28 (by decide) (fun q5 => ?_) (fun q5 => ?_)
  · have hf := x_pos q5 hf
    refine lv_lload (pc := 61) E.1 E.2.1 dX8_isLess_61 (lv_at hl 0 rfl) ?_
    refine lv_lload (pc := 63) E.1 E.2.1 dX8_isLess_63 (lv_at hl 1 rfl) ?_
    obtain ⟨u7, g6, hf⟩ := x_bind hf
    refine lv_lrem (pc := 65) E.1 E.2.1 dX8_isLess_65 (x_nzl_some g6) ?_
    refine lv_lstore (lv' := [(17, .long (x8 - x8 / x10 * x10)), (8, .long x8), (10, .long x10), (12, .long x12), (14, .long x14), (16, .int x16)]) (pc := 66) E.1 E.2.1 dX8_isLess_66 hl (by decide) rfl (fun ls hl => ?_)
    refine lv_lload (pc := 68) E.1 E.2.1 dX8_isLess_68 (lv_at hl 3 rfl) ?_
    refine lv_lload (pc := 70) E.1 E.2.1 dX8_isLess_70 (lv_at hl 4 rfl) ?_
    obtain ⟨u9, g8, hf⟩ := x_bind hf
    refine lv_lrem (pc := 72) E.1 E.2.1 dX8_isLess_72 (x_nzl_some g8) ?_
    refine lv_lstore (lv' := [(19, .long (x12 - x12 / x14 * x14)), (17, .long (x8 - x8 / x10 * x10)), (8, .long x8), (10, .long x10), (12, .long x12), (14, .long x14), (16, .int x16)]) (pc := 73) E.1 E.2.1 dX8_isLess_73 hl (by decide) rfl (fun ls hl => ?_)
    refine lv_lload (pc := 75) E.1 E.2.1 dX8_isLess_75 (lv_at hl 1 rfl) ?_
    refine lv_lconst (v := 0) (pc := 77) E.1 E.2.1 dX8_isLess_77 (by decide) ?_
    refine W.lcmp (pc := 78) E.1 E.2.1 dX8_isLess_78 ?_
    refine lv_if_eq (tgt := 89) (pc := 79) E.1 E.2.1 dX8_isLess_79 (by decide) (fun q10 => ?_) (fun q10 => ?_)
    · have hf := x_pos q10 hf
      exact w_X8_isLess_p89 E hr hk  x16 (x8 - x8 / x10 * x10) (x12 - x12 / x14 * x14) z hw (lv_sub hl [6, 1, 0] rfl) hf
    · have hf := x_neg q10 hf
      refine lv_lload (pc := 82) E.1 E.2.1 dX8_isLess_82 (lv_at hl 0 rfl) ?_
      refine lv_lconst (v := 0) (pc := 84) E.1 E.2.1 dX8_isLess_84 (by decide) ?_
      refine W.lcmp (pc := 85) E.1 E.2.1 dX8_isLess_85 ?_
      refine lv_if_ne (tgt := 120) (pc := 86) E.1 E.2.1 dX8_isLess_86 (by decide) (fun q11 => ?_) (fun q11 => ?_)
      · have hf := x_neg q11 hf
        refine lv_lload (pc := 120) E.1 E.2.1 dX8_isLess_120 (lv_at hl 3 rfl) ?_
        refine lv_lstore (lv' := [(8, .long x10), (19, .long (x12 - x12 / x14 * x14)), (17, .long (x8 - x8 / x10 * x10)), (10, .long x10), (12, .long x12), (14, .long x14), (16, .int x16)]) (pc := 122) E.1 E.2.1 dX8_isLess_122 hl (by decide) rfl (fun ls hl => ?_)
        refine lv_lload (pc := 124) E.1 E.2.1 dX8_isLess_124 (lv_at hl 2 rfl) ?_
        refine lv_lstore (lv' := [(10, .long (x8 - x8 / x10 * x10)), (8, .long x10), (19, .long (x12 - x12 / x14 * x14)), (17, .long (x8 - x8 / x10 * x10)), (12, .long x12), (14, .long x14), (16, .int x16)]) (pc := 126) E.1 E.2.1 dX8_isLess_126 hl (by decide) rfl (fun ls hl => ?_)
        refine lv_lload (pc := 128) E.1 E.2.1 dX8_isLess_128 (lv_at hl 5 rfl) ?_
        refine lv_lstore (lv' := [(12, .long x14), (10, .long (x8 - x8 / x10 * x10)), (8, .long x10), (19, .long (x12 - x12 / x14 * x14)), (17, .long (x8 - x8 / x10 * x10)), (14, .long x14), (16, .int x16)]) (pc := 130) E.1 E.2.1 dX8_isLess_130 hl (by decide) rfl (fun ls hl => ?_)
        refine lv_lload (pc := 132) E.1 E.2.1 dX8_isLess_132 (lv_at hl 3 rfl) ?_
        refine lv_lstore (lv' := [(14, .long (x12 - x12 / x14 * x14)), (12, .long x14), (10, .long (x8 - x8 / x10 * x10)), (8, .long x10), (19, .long (x12 - x12 / x14 * x14)), (17, .long (x8 - x8 / x10 * x10)), (16, .int x16)]) (pc := 134) E.1 E.2.1 dX8_isLess_134 hl (by decide) rfl (fun ls hl => ?_)
        refine lv_iload (pc := 136) E.1 E.2.1 dX8_isLess_136 (lv_at hl 6 rfl) ?_
        refine lv_if_ne (tgt := 145) (pc := 138) E.1 E.2.1 dX8_isLess_138 (by decide) (fun q12 => ?_) (fun q12 => ?_)
        · have hf := x_neg q12 hf
          refine lv_iconst (v := 0) (pc := 145) E.1 E.2.1 dX8_isLess_145 (by decide) ?_
          refine lv_istore (lv' := [(16, .int 0), (14, .long (x12 - x12 / x14 * x14)), (12, .long x14), (10, .long (x8 - x8 / x10 * x10)), (8, .long x10), (19, .long (x12 - x12 / x14 * x14)), (17, .long (x8 - x8 / x10 * x10))]) (pc := 146) E.1 E.2.1 dX8_isLess_146 hl (by decide) rfl (fun ls hl => ?_)
          refine lv_goto (tgt := 17) (pc := 148) E.1 E.2.1 dX8_isLess_148 (by decide) ?_
          exact hk17 x10 (x8 - x8 / x10 * x10) x14 (x12 - x12 / x14 * x14) 0 z hw (lv_sub hl [4, 3, 2, 1, 0] rfl) hf
        · have hf := x_pos q12 hf
          refine lv_iconst (v := 1) (pc := 141) E.1 E.2.1 dX8_isLess_141 (by decide) ?_
          refine lv_goto (tgt := 146) (pc := 142) E.1 E.2.1 dX8_isLess_142 (by decide) ?_
          refine lv_istore (lv' := [(16, .int 1), (14, .long (x12 - x12 / x14 * x14)), (12, .long x14), (10, .long (x8 - x8 / x10 * x10)), (8, .long x10), (19, .long (x12 - x12 / x14 * x14)), (17, .long (x8 - x8 / x10 * x10))]) (pc := 146) E.1 E.2.1 dX8_isLess_146 hl (by decide) rfl (fun ls hl => ?_)
          refine lv_goto (tgt := 17) (pc := 148) E.1 E.2.1 dX8_isLess_148 (by decide) ?_
          exact hk17 x10 (x8 - x8 / x10 * x10) x14 (x12 - x12 / x14 * x14) 1 z hw (lv_sub hl [4, 3, 2, 1, 0] rfl) hf
      · have hf := x_pos q11 hf
        exact w_X8_isLess_p89 E hr hk  x16 (x8 - x8 / x10 * x10) (x12 - x12 / x14 * x14) z hw (lv_sub hl [6, 1, 0] rfl) hf
  · have hf := x_neg q5 hf
    refine lv_lload (pc := 31) E.1 E.2.1 dX8_isLess_31 (lv_at hl 0 rfl) ?_
    refine lv_lload (pc := 33) E.1 E.2.1 dX8_isLess_33 (lv_at hl 1 rfl) ?_
    obtain ⟨u14, g13, hf⟩ := x_bind hf
    refine lv_ldiv (pc := 35) E.1 E.2.1 dX8_isLess_35 (x_nzl_some g13) ?_
    refine lv_lload (pc := 36) E.1 E.2.1 dX8_isLess_36 (lv_at hl 2 rfl) ?_
    refine lv_lload (pc := 38) E.1 E.2.1 dX8_isLess_38 (lv_at hl 3 rfl) ?_
    obtain ⟨u16, g15, hf⟩ := x_bind hf
    refine lv_ldiv (pc := 40) E.1 E.2.1 dX8_isLess_40 (x_nzl_some g15) ?_
    refine W.lcmp (pc := 41) E.1 E.2.1 dX8_isLess_41 ?_
    refine lv_if_ge (tgt := 49) (pc := 42) E.1 E.2.1 dX8_isLess_42 (by decide) (fun q17 => ?_) (fun q17 => ?_)
    · have hf := x_pos q17 hf
      refine lv_iconst (v := 0) (pc := 49) E.1 E.2.1 dX8_isLess_49 (by decide) ?_
      exact w_X8_isLess_p50 E hr hk  x16 0 z hw (lv_sub hl [4] rfl) hf
    · have hf := x_neg q17 hf
      refine lv_iconst (v := 1) (pc := 45) E.1 E.2.1 dX8_isLess_45 (by decide) ?_
      refine lv_goto (tgt := 50) (pc := 46) E.1 E.2.1 dX8_isLess_46 (by decide) ?_
      exact w_X8_isLess_p50 E hr hk  x16 1 z hw (lv_sub hl [4] rfl) hf
set_option maxHeartbeats 4000000 in
set_option maxRecDepth 100000 in
theorem wl_X8_isLess_p17 {p : Program} {l : Launch} {e : Env} {sS : State} {m : MethodId} {args : Array Value} {below : List Frame} {meth : Method} {c : Code} {G : xG} {W0 : va_W}    (E : xE p sS m args c cX8_isLess 21 RX8 G (x_in W0)) (hr : meth.sig.returnType = (some .boolean)) (hk : meth.locks = false)  : ∀ (x8' : Int64) (x10' : Int64) (x12' : Int64) (x14' : Int64) (x16' : Int32) (z : Int32) {H : Heap} {locs : List Loc} {ls : Array Slot}, xW G (x_in W0) sS.heap [] H locs → lv_has ls 21 [(8, .long x8'), (10, .long x10'), (12, .long x12'), (14, .long x14'), (16, .int x16')] → lp_X8_isLess_p17  x8' x10' x12' x14' x16' = some z → W p l e (rm_X8_isLess) sS m args below meth c H locs 0 0 (MQ below (xQ G W0 [] (some (.int z))) args sS 0 0 (x_in W0)) (F0 m 17 ls []) := by
  intro x8 x10 x12 x14 x16 z H locs ls hw hl hf
  exact x_loop_W (P := fun (q : Int64 × Int64 × Int64 × Int64 × Int32) (z : Int32) => ∀ {H : Heap} {locs : List Loc} {ls : Array Slot}, xW G (x_in W0) sS.heap [] H locs → lv_has ls 21 [(8, .long q.1), (10, .long q.2.1), (12, .long q.2.2.1), (14, .long q.2.2.2.1), (16, .int q.2.2.2.2)] → W p l e (rm_X8_isLess) sS m args below meth c H locs 0 0 (MQ below (xQ G W0 [] (some (.int z))) args sS 0 0 (x_in W0)) (F0 m 17 ls [])) (fun k hkk q z hf H locs ls hw hl => w_X8_isLess_p17 E hr hk  (fun x8 x10 x12 x14 x16 z H locs ls hw hl hf => hkk (x8, x10, x12, x14, x16) z hf hw hl) q.1 q.2.1 q.2.2.1 q.2.2.2.1 q.2.2.2.2 z hw hl hf) FU (x8, x10, x12, x14, x16) z hf hw hl
set_option maxHeartbeats 4000000 in
set_option maxRecDepth 100000 in
theorem w_X8_isLess_p0 {p : Program} {l : Launch} {e : Env} {sS : State} {m : MethodId} {args : Array Value} {below : List Frame} {meth : Method} {c : Code} {G : xG} {W0 : va_W}    (E : xE p sS m args c cX8_isLess 21 RX8 G (x_in W0)) (hr : meth.sig.returnType = (some .boolean)) (hk : meth.locks = false)  : ∀ (x0' : Int64) (x2' : Int64) (x4' : Int64) (x6' : Int64) (z : Int32) {H : Heap} {locs : List Loc} {ls : Array Slot}, xW G (x_in W0) sS.heap [] H locs → lv_has ls 21 [(0, .long x0'), (2, .long x2'), (4, .long x4'), (6, .long x6')] → f_X8_isLess  x0' x2' x4' x6' = some z → W p l e (rm_X8_isLess) sS m args below meth c H locs 0 0 (MQ below (xQ G W0 [] (some (.int z))) args sS 0 0 (x_in W0)) (F0 m 0 ls []) := by
  intro x0 x2 x4 x6 z H locs ls hw hl hf
  unfold f_X8_isLess at hf
  refine lv_lload_n (pc := 0) E.1 E.2.1 dX8_isLess_0 rfl (lv_at hl 0 rfl) ?_
  refine lv_lstore (lv' := [(8, .long x0), (0, .long x0), (2, .long x2), (4, .long x4), (6, .long x6)]) (pc := 1) E.1 E.2.1 dX8_isLess_1 hl (by decide) rfl (fun ls hl => ?_)
  refine lv_lload_n (pc := 3) E.1 E.2.1 dX8_isLess_3 rfl (lv_at hl 2 rfl) ?_
  refine lv_lstore (lv' := [(10, .long x2), (8, .long x0), (0, .long x0), (2, .long x2), (4, .long x4), (6, .long x6)]) (pc := 4) E.1 E.2.1 dX8_isLess_4 hl (by decide) rfl (fun ls hl => ?_)
  refine lv_lload (pc := 6) E.1 E.2.1 dX8_isLess_6 (lv_at hl 4 rfl) ?_
  refine lv_lstore (lv' := [(12, .long x4), (10, .long x2), (8, .long x0), (0, .long x0), (2, .long x2), (4, .long x4), (6, .long x6)]) (pc := 8) E.1 E.2.1 dX8_isLess_8 hl (by decide) rfl (fun ls hl => ?_)
  refine lv_lload (pc := 10) E.1 E.2.1 dX8_isLess_10 (lv_at hl 6 rfl) ?_
  refine lv_lstore (lv' := [(14, .long x6), (12, .long x4), (10, .long x2), (8, .long x0), (0, .long x0), (2, .long x2), (4, .long x4), (6, .long x6)]) (pc := 12) E.1 E.2.1 dX8_isLess_12 hl (by decide) rfl (fun ls hl => ?_)
  refine lv_iconst (v := 0) (pc := 14) E.1 E.2.1 dX8_isLess_14 (by decide) ?_
  refine lv_istore (lv' := [(16, .int 0), (14, .long x6), (12, .long x4), (10, .long x2), (8, .long x0), (0, .long x0), (2, .long x2), (4, .long x4), (6, .long x6)]) (pc := 15) E.1 E.2.1 dX8_isLess_15 hl (by decide) rfl (fun ls hl => ?_)
  exact wl_X8_isLess_p17 E hr hk  x0 x2 x4 x6 0 z hw (lv_sub hl [4, 3, 2, 1, 0] rfl) hf
set_option maxHeartbeats 4000000 in
set_option maxRecDepth 100000 in
theorem c_X8_isLess (l : Launch) (G : xG)  (x0 : Int64) (x2 : Int64) (x4 : Int64) (x6 : Int64) {z : Int32} (hf : f_X8_isLess x0 x2 x4 x6 = some z) : xC l yX8_isLess cX8_isLess 21 (some .boolean) (rm_X8_isLess) G [.long x0, .long x2, .long x4, .long x6] [] (some (.int z)) [] :=
  x_met (by decide) (Nat.le_of_ble_eq_true rfl) (fun p e sS m below meth c E hr hk ls hl hw => w_X8_isLess_p0 E hr hk x0 x2 x4 x6 z hw hl hf)
set_option maxHeartbeats 4000000 in
set_option maxRecDepth 100000 in
theorem w_X8_lossIn_p5 {p : Program} {l : Launch} {e : Env} {sS : State} {m : MethodId} {args : Array Value} {below : List Frame} {meth : Method} {c : Code} {G : xG} {W0 : va_W} {ad : Nat → Nat}  {k5 : S8 → Int32 → Int32 → Int32 → Int32 → Option (Int32)} (E : xE p sS m args c cX8_lossIn 5 RX8 G (x_in W0)) (hr : meth.sig.returnType = (some .int)) (hk : meth.locks = false) (hk5 : ∀ (s' : S8) (x1' : Int32) (x2' : Int32) (x3' : Int32) (x4' : Int32) (z : Int32) {H : Heap} {locs : List Loc} {ls : Array Slot}, xW G (x_in W0) sS.heap (cells8 G ad s') H locs → lv_has ls 5 [(0, .ref (ad 0)), (1, .int x1'), (2, .int x2'), (3, .int x3'), (4, .int x4')] → k5  s' x1' x2' x3' x4' = some z → W p l e (rm_X8_lossIn) sS m args below meth c H locs 0 0 (MQ below (xQ G W0 (cells8 G ad s') (some (.int z))) args sS 0 0 (x_in W0)) (F0 m 5 ls [])) : ∀ (s' : S8) (x1' : Int32) (x2' : Int32) (x3' : Int32) (x4' : Int32) (z : Int32) {H : Heap} {locs : List Loc} {ls : Array Slot}, xW G (x_in W0) sS.heap (cells8 G ad s') H locs → lv_has ls 5 [(0, .ref (ad 0)), (1, .int x1'), (2, .int x2'), (3, .int x3'), (4, .int x4')] → f_X8_lossIn_p5 k5 s' x1' x2' x3' x4' = some z → W p l e (rm_X8_lossIn) sS m args below meth c H locs 0 0 (MQ below (xQ G W0 (cells8 G ad s') (some (.int z))) args sS 0 0 (x_in W0)) (F0 m 5 ls []) := by
  intro s x1 x2 x3 x4 z H locs ls hw hl hf
  unfold f_X8_lossIn_p5 at hf
  refine lv_iload (pc := 5) E.1 E.2.1 dX8_lossIn_5 (lv_at hl 4 rfl) ?_
  refine lv_aload_n (pc := 7) E.1 E.2.1 dX8_lossIn_7 rfl (lv_at hl 0 rfl) ?_
  obtain ⟨v1, g2, hf⟩ := x_bind hf
  refine x_callVA (pc := 8) (As := []) (rest := [.int x4]) (st1 := [.int v1, .int x4]) (ws' := (cells8 G ad s)) E hw hl (c_X8_claims l G ad s g2) xv_X8_88 xd_X8_claims rfl rfl ⟨Nat.le_of_ble_eq_true rfl, Nat.le_of_ble_eq_true rfl⟩ (q0 := 0) rfl rfl rfl rfl (Nat.le_of_ble_eq_true rfl) rfl rfl dX8_lossIn_8 (fun H locs hw => ?_)
  refine lv_icmp_ge (tgt := 49) (pc := 11) E.1 E.2.1 dX8_lossIn_11 (by decide) (fun q3 => ?_) (fun q3 => ?_)
  · have hf := x_pos q3 hf
    refine lv_iload_n (pc := 49) E.1 E.2.1 dX8_lossIn_49 rfl (lv_at hl 3 rfl) ?_
    obtain rfl := Option.some.inj hf
    exact x_reti (pc := 50) E hr hk hw dX8_lossIn_50
  · have hf := x_neg q3 hf
    refine lv_aload_n (pc := 14) E.1 E.2.1 dX8_lossIn_14 rfl (lv_at hl 0 rfl) ?_
    refine lv_iload (pc := 15) E.1 E.2.1 dX8_lossIn_15 (lv_at hl 4 rfl) ?_
    obtain ⟨v4, g5, hf⟩ := x_bind hf
    refine x_callVA (pc := 17) (As := [.int x4]) (rest := []) (st1 := [.int v4]) (ws' := (cells8 G ad s)) E hw hl (c_X8_fleetOf l G ad s x4 g5) xv_X8_98 xd_X8_fleetOf rfl rfl ⟨Nat.le_of_ble_eq_true rfl, Nat.le_of_ble_eq_true rfl⟩ (q0 := 0) rfl rfl rfl rfl (Nat.le_of_ble_eq_true rfl) rfl rfl dX8_lossIn_17 (fun H locs hw => ?_)
    refine lv_iload_n (pc := 20) E.1 E.2.1 dX8_lossIn_20 rfl (lv_at hl 1 rfl) ?_
    refine lv_icmp_ne (tgt := 43) (pc := 21) E.1 E.2.1 dX8_lossIn_21 (by decide) (fun q6 => ?_) (fun q6 => ?_)
    · have hf := x_neg q6 hf
      refine lv_iinc (v := (x4 + 1)) (lv' := [(4, .int (x4 + 1)), (0, .ref (ad 0)), (1, .int x1), (2, .int x2), (3, .int x3)]) (pc := 43) E.1 E.2.1 dX8_lossIn_43 hl (k := 4) rfl rfl (by decide) rfl (fun ls hl => ?_)
      refine lv_goto (tgt := 5) (pc := 46) E.1 E.2.1 dX8_lossIn_46 (by decide) ?_
      exact hk5 s x1 x2 x3 (x4 + 1) z hw (lv_sub hl [1, 2, 3, 4, 0] rfl) hf
    · have hf := x_pos q6 hf
      refine lv_aload_n (pc := 24) E.1 E.2.1 dX8_lossIn_24 rfl (lv_at hl 0 rfl) ?_
      refine lv_iload (pc := 25) E.1 E.2.1 dX8_lossIn_25 (lv_at hl 4 rfl) ?_
      obtain ⟨v7, g8, hf⟩ := x_bind hf
      refine x_callVA (pc := 27) (As := [.int x4]) (rest := []) (st1 := [.int v7]) (ws' := (cells8 G ad s)) E hw hl (c_X8_yearOf l G ad s x4 g8) xv_X8_101 xd_X8_yearOf rfl rfl ⟨Nat.le_of_ble_eq_true rfl, Nat.le_of_ble_eq_true rfl⟩ (q0 := 0) rfl rfl rfl rfl (Nat.le_of_ble_eq_true rfl) rfl rfl dX8_lossIn_27 (fun H locs hw => ?_)
      refine lv_iload_n (pc := 30) E.1 E.2.1 dX8_lossIn_30 rfl (lv_at hl 2 rfl) ?_
      refine lv_icmp_ne (tgt := 43) (pc := 31) E.1 E.2.1 dX8_lossIn_31 (by decide) (fun q9 => ?_) (fun q9 => ?_)
      · have hf := x_neg q9 hf
        refine lv_iinc (v := (x4 + 1)) (lv' := [(4, .int (x4 + 1)), (0, .ref (ad 0)), (1, .int x1), (2, .int x2), (3, .int x3)]) (pc := 43) E.1 E.2.1 dX8_lossIn_43 hl (k := 4) rfl rfl (by decide) rfl (fun ls hl => ?_)
        refine lv_goto (tgt := 5) (pc := 46) E.1 E.2.1 dX8_lossIn_46 (by decide) ?_
        exact hk5 s x1 x2 x3 (x4 + 1) z hw (lv_sub hl [1, 2, 3, 4, 0] rfl) hf
      · have hf := x_pos q9 hf
        refine lv_iload_n (pc := 34) E.1 E.2.1 dX8_lossIn_34 rfl (lv_at hl 3 rfl) ?_
        refine lv_aload_n (pc := 35) E.1 E.2.1 dX8_lossIn_35 rfl (lv_at hl 0 rfl) ?_
        refine lv_iload (pc := 36) E.1 E.2.1 dX8_lossIn_36 (lv_at hl 4 rfl) ?_
        obtain ⟨v10, g11, hf⟩ := x_bind hf
        refine x_callVA (pc := 38) (As := [.int x4]) (rest := [.int x3]) (st1 := [.int v10, .int x3]) (ws' := (cells8 G ad s)) E hw hl (c_X8_counted l G ad s x4 g11) xv_X8_172 xd_X8_counted rfl rfl ⟨Nat.le_of_ble_eq_true rfl, Nat.le_of_ble_eq_true rfl⟩ (q0 := 0) rfl rfl rfl rfl (Nat.le_of_ble_eq_true rfl) rfl rfl dX8_lossIn_38 (fun H locs hw => ?_)
        refine lv_iadd (pc := 41) E.1 E.2.1 dX8_lossIn_41 ?_
        refine lv_istore_n (lv' := [(3, .int (x3 + v10)), (0, .ref (ad 0)), (1, .int x1), (2, .int x2), (4, .int x4)]) (pc := 42) E.1 E.2.1 dX8_lossIn_42 rfl hl (by decide) rfl (fun ls hl => ?_)
        refine lv_iinc (v := (x4 + 1)) (lv' := [(4, .int (x4 + 1)), (3, .int (x3 + v10)), (0, .ref (ad 0)), (1, .int x1), (2, .int x2)]) (pc := 43) E.1 E.2.1 dX8_lossIn_43 hl (k := 4) rfl rfl (by decide) rfl (fun ls hl => ?_)
        refine lv_goto (tgt := 5) (pc := 46) E.1 E.2.1 dX8_lossIn_46 (by decide) ?_
        exact hk5 s x1 x2 (x3 + v10) (x4 + 1) z hw (lv_sub hl [2, 3, 4, 1, 0] rfl) hf
set_option maxHeartbeats 4000000 in
set_option maxRecDepth 100000 in
theorem wl_X8_lossIn_p5 {p : Program} {l : Launch} {e : Env} {sS : State} {m : MethodId} {args : Array Value} {below : List Frame} {meth : Method} {c : Code} {G : xG} {W0 : va_W} {ad : Nat → Nat}   (E : xE p sS m args c cX8_lossIn 5 RX8 G (x_in W0)) (hr : meth.sig.returnType = (some .int)) (hk : meth.locks = false)  : ∀ (s' : S8) (x1' : Int32) (x2' : Int32) (x3' : Int32) (x4' : Int32) (z : Int32) {H : Heap} {locs : List Loc} {ls : Array Slot}, xW G (x_in W0) sS.heap (cells8 G ad s') H locs → lv_has ls 5 [(0, .ref (ad 0)), (1, .int x1'), (2, .int x2'), (3, .int x3'), (4, .int x4')] → lp_X8_lossIn_p5  s' x1' x2' x3' x4' = some z → W p l e (rm_X8_lossIn) sS m args below meth c H locs 0 0 (MQ below (xQ G W0 (cells8 G ad s') (some (.int z))) args sS 0 0 (x_in W0)) (F0 m 5 ls []) := by
  intro s x1 x2 x3 x4 z H locs ls hw hl hf
  exact x_loop_W (P := fun (q : S8 × Int32 × Int32 × Int32 × Int32) (z : Int32) => ∀ {H : Heap} {locs : List Loc} {ls : Array Slot}, xW G (x_in W0) sS.heap (cells8 G ad q.1) H locs → lv_has ls 5 [(0, .ref (ad 0)), (1, .int q.2.1), (2, .int q.2.2.1), (3, .int q.2.2.2.1), (4, .int q.2.2.2.2)] → W p l e (rm_X8_lossIn) sS m args below meth c H locs 0 0 (MQ below (xQ G W0 (cells8 G ad q.1) (some (.int z))) args sS 0 0 (x_in W0)) (F0 m 5 ls [])) (fun k hkk q z hf H locs ls hw hl => w_X8_lossIn_p5 E hr hk  (fun s x1 x2 x3 x4 z H locs ls hw hl hf => hkk (s, x1, x2, x3, x4) z hf hw hl) q.1 q.2.1 q.2.2.1 q.2.2.2.1 q.2.2.2.2 z hw hl hf) FU (s, x1, x2, x3, x4) z hf hw hl
set_option maxHeartbeats 4000000 in
set_option maxRecDepth 100000 in
theorem w_X8_lossIn_p0 {p : Program} {l : Launch} {e : Env} {sS : State} {m : MethodId} {args : Array Value} {below : List Frame} {meth : Method} {c : Code} {G : xG} {W0 : va_W} {ad : Nat → Nat}   (E : xE p sS m args c cX8_lossIn 5 RX8 G (x_in W0)) (hr : meth.sig.returnType = (some .int)) (hk : meth.locks = false)  : ∀ (s' : S8) (x1' : Int32) (x2' : Int32) (z : Int32) {H : Heap} {locs : List Loc} {ls : Array Slot}, xW G (x_in W0) sS.heap (cells8 G ad s') H locs → lv_has ls 5 [(0, .ref (ad 0)), (1, .int x1'), (2, .int x2')] → f_X8_lossIn  s' x1' x2' = some z → W p l e (rm_X8_lossIn) sS m args below meth c H locs 0 0 (MQ below (xQ G W0 (cells8 G ad s') (some (.int z))) args sS 0 0 (x_in W0)) (F0 m 0 ls []) := by
  intro s x1 x2 z H locs ls hw hl hf
  unfold f_X8_lossIn at hf
  refine lv_iconst (v := 0) (pc := 0) E.1 E.2.1 dX8_lossIn_0 (by decide) ?_
  refine lv_istore_n (lv' := [(3, .int 0), (0, .ref (ad 0)), (1, .int x1), (2, .int x2)]) (pc := 1) E.1 E.2.1 dX8_lossIn_1 rfl hl (by decide) rfl (fun ls hl => ?_)
  refine lv_iconst (v := 0) (pc := 2) E.1 E.2.1 dX8_lossIn_2 (by decide) ?_
  refine lv_istore (lv' := [(4, .int 0), (3, .int 0), (0, .ref (ad 0)), (1, .int x1), (2, .int x2)]) (pc := 3) E.1 E.2.1 dX8_lossIn_3 hl (by decide) rfl (fun ls hl => ?_)
  exact wl_X8_lossIn_p5 E hr hk  s x1 x2 0 0 z hw (lv_sub hl [2, 3, 4, 1, 0] rfl) hf
set_option maxHeartbeats 4000000 in
set_option maxRecDepth 100000 in
theorem c_X8_lossIn (l : Launch) (G : xG) (ad : Nat → Nat) (s : S8) (x1 : Int32) (x2 : Int32) {z : Int32} (hf : f_X8_lossIn s x1 x2 = some z) : xC l yX8_lossIn cX8_lossIn 5 (some .int) (rm_X8_lossIn) G [.ref (ad 0), .int x1, .int x2] (cells8 G ad s) (some (.int z)) (cells8 G ad s) :=
  x_met (by decide) (Nat.le_of_ble_eq_true rfl) (fun p e sS m below meth c E hr hk ls hl hw => w_X8_lossIn_p0 E hr hk s x1 x2 z hw hl hf)
set_option maxHeartbeats 4000000 in
set_option maxRecDepth 100000 in
theorem w_X8_sums_p79 {p : Program} {l : Launch} {e : Env} {sS : State} {m : MethodId} {args : Array Value} {below : List Frame} {meth : Method} {c : Code} {G : xG} {W0 : va_W} {ad : Nat → Nat}  {k40 : S8 → Int32 → Int32 → Int32 → Option (S8)} {k79 : S8 → Int32 → Int32 → Int32 → Int32 → Option (S8)} (E : xE p sS m args c cX8_sums 6 RX8 G (x_in W0)) (hr : meth.sig.returnType = none) (hk : meth.locks = false) (hk40 : ∀ (s' : S8) (x1' : Int32) (x2' : Int32) (x3' : Int32) (z : S8) {H : Heap} {locs : List Loc} {ls : Array Slot}, xW G (x_in W0) sS.heap (cells8 G ad s') H locs → lv_has ls 6 [(0, .ref (ad 0)), (1, .int x1'), (2, .int x2'), (3, .int x3')] → k40  s' x1' x2' x3' = some z → W p l e (rm_X8_sums) sS m args below meth c H locs 0 0 (MQ below (xQ G W0 (cells8 G ad z) none) args sS 0 0 (x_in W0)) (F0 m 40 ls [])) (hk79 : ∀ (s' : S8) (x1' : Int32) (x2' : Int32) (x3' : Int32) (x4' : Int32) (z : S8) {H : Heap} {locs : List Loc} {ls : Array Slot}, xW G (x_in W0) sS.heap (cells8 G ad s') H locs → lv_has ls 6 [(0, .ref (ad 0)), (1, .int x1'), (2, .int x2'), (3, .int x3'), (4, .int x4')] → k79  s' x1' x2' x3' x4' = some z → W p l e (rm_X8_sums) sS m args below meth c H locs 0 0 (MQ below (xQ G W0 (cells8 G ad z) none) args sS 0 0 (x_in W0)) (F0 m 79 ls [])) : ∀ (s' : S8) (x1' : Int32) (x2' : Int32) (x3' : Int32) (x4' : Int32) (z : S8) {H : Heap} {locs : List Loc} {ls : Array Slot}, xW G (x_in W0) sS.heap (cells8 G ad s') H locs → lv_has ls 6 [(0, .ref (ad 0)), (1, .int x1'), (2, .int x2'), (3, .int x3'), (4, .int x4')] → f_X8_sums_p79 k40 k79 s' x1' x2' x3' x4' = some z → W p l e (rm_X8_sums) sS m args below meth c H locs 0 0 (MQ below (xQ G W0 (cells8 G ad z) none) args sS 0 0 (x_in W0)) (F0 m 79 ls []) := by
  intro s x1 x2 x3 x4 z H locs ls hw hl hf
  unfold f_X8_sums_p79 at hf
  refine lv_iload (pc := 79) E.1 E.2.1 dX8_sums_79 (lv_at hl 4 rfl) ?_
  refine lv_iconst (v := 5) (pc := 81) E.1 E.2.1 dX8_sums_81 (by decide) ?_
  refine lv_icmp_ge (tgt := 125) (pc := 82) E.1 E.2.1 dX8_sums_82 (by decide) (fun q1 => ?_) (fun q1 => ?_)
  · have hf := x_pos q1 hf
    refine lv_aload_n (pc := 125) E.1 E.2.1 dX8_sums_125 rfl (lv_at hl 0 rfl) ?_
    refine xg_X8_26 (pc := 126) (v := .ref (ad 5)) E hw 0 rfl rfl dX8_sums_126 ?_
    refine lv_iload_n (pc := 129) E.1 E.2.1 dX8_sums_129 rfl (lv_at hl 3 rfl) ?_
    obtain ⟨v3, g2, hf⟩ := x_bind hf
    refine x_iald (pc := 130) E hw 5 rfl g2 dX8_sums_130 ?_
    refine lv_if_ne (tgt := 137) (pc := 131) E.1 E.2.1 dX8_sums_131 (by decide) (fun q4 => ?_) (fun q4 => ?_)
    · have hf := x_neg q4 hf
      refine lv_aload_n (pc := 137) E.1 E.2.1 dX8_sums_137 rfl (lv_at hl 0 rfl) ?_
      refine xg_X8_45 (pc := 138) (v := .ref (ad 11)) E hw 0 rfl rfl dX8_sums_138 ?_
      refine lv_aload_n (pc := 141) E.1 E.2.1 dX8_sums_141 rfl (lv_at hl 0 rfl) ?_
      refine lv_iload_n (pc := 142) E.1 E.2.1 dX8_sums_142 rfl (lv_at hl 3 rfl) ?_
      obtain ⟨v5, g6, hf⟩ := x_bind hf
      refine x_callVA (pc := 143) (As := [.int x3]) (rest := [.ref (ad 11)]) (st1 := [.int v5, .ref (ad 11)]) (ws' := (cells8 G ad s)) E hw hl (c_X8_classOf l G ad s x3 g6) xv_X8_125 xd_X8_classOf rfl rfl ⟨Nat.le_of_ble_eq_true rfl, Nat.le_of_ble_eq_true rfl⟩ (q0 := 0) rfl rfl rfl rfl (Nat.le_of_ble_eq_true rfl) rfl rfl dX8_sums_143 (fun H locs hw => ?_)
      refine lv_dup2_11 (pc := 146) E.1 E.2.1 dX8_sums_146 rfl rfl ?_
      obtain ⟨v8, g7, hf⟩ := x_bind hf
      refine x_iald (pc := 147) E hw 11 rfl g7 dX8_sums_147 ?_
      refine lv_iconst (v := 1) (pc := 148) E.1 E.2.1 dX8_sums_148 (by decide) ?_
      refine lv_iadd (pc := 149) E.1 E.2.1 dX8_sums_149 ?_
      obtain ⟨w10, g9, hf⟩ := x_bind hf
      refine x_iast (pc := 150) (ws' := (cells8 G ad (u8_have s w10))) E hw 11 rfl g9 rfl dX8_sums_150 (fun H locs hw => ?_)
      refine lv_aload_n (pc := 151) E.1 E.2.1 dX8_sums_151 rfl (lv_at hl 0 rfl) ?_
      refine xg_X8_48 (pc := 152) (v := .ref (ad 12)) E hw 0 rfl rfl dX8_sums_152 ?_
      refine lv_aload_n (pc := 155) E.1 E.2.1 dX8_sums_155 rfl (lv_at hl 0 rfl) ?_
      refine lv_iload_n (pc := 156) E.1 E.2.1 dX8_sums_156 rfl (lv_at hl 3 rfl) ?_
      obtain ⟨v11, g12, hf⟩ := x_bind hf
      refine x_callVA (pc := 157) (As := [.int x3]) (rest := [.ref (ad 12)]) (st1 := [.int v11, .ref (ad 12)]) (ws' := (cells8 G ad (u8_have s w10))) E hw hl (c_X8_classOf l G ad (u8_have s w10) x3 g12) xv_X8_125 xd_X8_classOf rfl rfl ⟨Nat.le_of_ble_eq_true rfl, Nat.le_of_ble_eq_true rfl⟩ (q0 := 0) rfl rfl rfl rfl (Nat.le_of_ble_eq_true rfl) rfl rfl dX8_sums_157 (fun H locs hw => ?_)
      refine lv_dup2_11 (pc := 160) E.1 E.2.1 dX8_sums_160 rfl rfl ?_
      obtain ⟨v14, g13, hf⟩ := x_bind hf
      refine x_iald (pc := 161) E hw 12 rfl g13 dX8_sums_161 ?_
      refine lv_aload_n (pc := 162) E.1 E.2.1 dX8_sums_162 rfl (lv_at hl 0 rfl) ?_
      refine xg_X8_26 (pc := 163) (v := .ref (ad 5)) E hw 0 rfl rfl dX8_sums_163 ?_
      refine lv_iload_n (pc := 166) E.1 E.2.1 dX8_sums_166 rfl (lv_at hl 3 rfl) ?_
      obtain ⟨v16, g15, hf⟩ := x_bind hf
      refine x_iald (pc := 167) E hw 5 rfl g15 dX8_sums_167 ?_
      refine lv_iadd (pc := 168) E.1 E.2.1 dX8_sums_168 ?_
      obtain ⟨w18, g17, hf⟩ := x_bind hf
      refine x_iast (pc := 169) (ws' := (cells8 G ad (u8_spans (u8_have s w10) w18))) E hw 12 rfl g17 rfl dX8_sums_169 (fun H locs hw => ?_)
      refine lv_aload_n (pc := 170) E.1 E.2.1 dX8_sums_170 rfl (lv_at hl 0 rfl) ?_
      refine xg_X8_51 (pc := 171) (v := .ref (ad 13)) E hw 0 rfl rfl dX8_sums_171 ?_
      refine lv_aload_n (pc := 174) E.1 E.2.1 dX8_sums_174 rfl (lv_at hl 0 rfl) ?_
      refine lv_iload_n (pc := 175) E.1 E.2.1 dX8_sums_175 rfl (lv_at hl 3 rfl) ?_
      obtain ⟨v19, g20, hf⟩ := x_bind hf
      refine x_callVA (pc := 176) (As := [.int x3]) (rest := [.ref (ad 13)]) (st1 := [.int v19, .ref (ad 13)]) (ws' := (cells8 G ad (u8_spans (u8_have s w10) w18))) E hw hl (c_X8_classOf l G ad (u8_spans (u8_have s w10) w18) x3 g20) xv_X8_125 xd_X8_classOf rfl rfl ⟨Nat.le_of_ble_eq_true rfl, Nat.le_of_ble_eq_true rfl⟩ (q0 := 0) rfl rfl rfl rfl (Nat.le_of_ble_eq_true rfl) rfl rfl dX8_sums_176 (fun H locs hw => ?_)
      refine lv_dup2_11 (pc := 179) E.1 E.2.1 dX8_sums_179 rfl rfl ?_
      obtain ⟨v22, g21, hf⟩ := x_bind hf
      refine x_iald (pc := 180) E hw 13 rfl g21 dX8_sums_180 ?_
      refine lv_aload_n (pc := 181) E.1 E.2.1 dX8_sums_181 rfl (lv_at hl 0 rfl) ?_
      refine xg_X8_29 (pc := 182) (v := .ref (ad 6)) E hw 0 rfl rfl dX8_sums_182 ?_
      refine lv_iload_n (pc := 185) E.1 E.2.1 dX8_sums_185 rfl (lv_at hl 3 rfl) ?_
      obtain ⟨v24, g23, hf⟩ := x_bind hf
      refine x_iald (pc := 186) E hw 6 rfl g23 dX8_sums_186 ?_
      refine lv_iadd (pc := 187) E.1 E.2.1 dX8_sums_187 ?_
      obtain ⟨w26, g25, hf⟩ := x_bind hf
      refine x_iast (pc := 188) (ws' := (cells8 G ad (u8_totals (u8_spans (u8_have s w10) w18) w26))) E hw 13 rfl g25 rfl dX8_sums_188 (fun H locs hw => ?_)
      refine lv_iload_n (pc := 189) E.1 E.2.1 dX8_sums_189 rfl (lv_at hl 2 rfl) ?_
      refine lv_aload_n (pc := 190) E.1 E.2.1 dX8_sums_190 rfl (lv_at hl 0 rfl) ?_
      refine xg_X8_26 (pc := 191) (v := .ref (ad 5)) E hw 0 rfl rfl dX8_sums_191 ?_
      refine lv_iload_n (pc := 194) E.1 E.2.1 dX8_sums_194 rfl (lv_at hl 3 rfl) ?_
      obtain ⟨v28, g27, hf⟩ := x_bind hf
      refine x_iald (pc := 195) E hw 5 rfl g27 dX8_sums_195 ?_
      refine lv_iadd (pc := 196) E.1 E.2.1 dX8_sums_196 ?_
      refine lv_istore_n (lv' := [(2, .int (x2 + v28)), (0, .ref (ad 0)), (1, .int x1), (3, .int x3), (4, .int x4)]) (pc := 197) E.1 E.2.1 dX8_sums_197 rfl hl (by decide) rfl (fun ls hl => ?_)
      refine lv_iload_n (pc := 198) E.1 E.2.1 dX8_sums_198 rfl (lv_at hl 2 rfl) ?_
      refine lv_aload_n (pc := 199) E.1 E.2.1 dX8_sums_199 rfl (lv_at hl 1 rfl) ?_
      refine xg_X8_29 (pc := 200) (v := .ref (ad 6)) E hw 0 rfl rfl dX8_sums_200 ?_
      refine lv_iload_n (pc := 203) E.1 E.2.1 dX8_sums_203 rfl (lv_at hl 3 rfl) ?_
      obtain ⟨v30, g29, hf⟩ := x_bind hf
      refine x_iald (pc := 204) E hw 6 rfl g29 dX8_sums_204 ?_
      refine lv_iadd (pc := 205) E.1 E.2.1 dX8_sums_205 ?_
      refine lv_istore_n (lv' := [(1, .int (x1 + v30)), (2, .int (x2 + v28)), (0, .ref (ad 0)), (3, .int x3), (4, .int x4)]) (pc := 206) E.1 E.2.1 dX8_sums_206 rfl hl (by decide) rfl (fun ls hl => ?_)
      refine lv_iinc (v := (x3 + 1)) (lv' := [(3, .int (x3 + 1)), (1, .int (x1 + v30)), (2, .int (x2 + v28)), (0, .ref (ad 0)), (4, .int x4)]) (pc := 207) E.1 E.2.1 dX8_sums_207 hl (k := 3) rfl rfl (by decide) rfl (fun ls hl => ?_)
      refine lv_goto (tgt := 40) (pc := 210) E.1 E.2.1 dX8_sums_210 (by decide) ?_
      exact hk40 (u8_totals (u8_spans (u8_have s w10) w18) w26) (x1 + v30) (x2 + v28) (x3 + 1) z hw (lv_sub hl [3, 1, 2, 0] rfl) hf
    · have hf := x_pos q4 hf
      refine lv_goto (tgt := 207) (pc := 134) E.1 E.2.1 dX8_sums_134 (by decide) ?_
      refine lv_iinc (v := (x3 + 1)) (lv' := [(3, .int (x3 + 1)), (0, .ref (ad 0)), (1, .int x1), (2, .int x2), (4, .int x4)]) (pc := 207) E.1 E.2.1 dX8_sums_207 hl (k := 3) rfl rfl (by decide) rfl (fun ls hl => ?_)
      refine lv_goto (tgt := 40) (pc := 210) E.1 E.2.1 dX8_sums_210 (by decide) ?_
      exact hk40 s x1 x2 (x3 + 1) z hw (lv_sub hl [1, 2, 3, 0] rfl) hf
  · have hf := x_neg q1 hf
    refine lv_aload_n (pc := 85) E.1 E.2.1 dX8_sums_85 rfl (lv_at hl 0 rfl) ?_
    refine lv_iload_n (pc := 86) E.1 E.2.1 dX8_sums_86 rfl (lv_at hl 3 rfl) ?_
    refine lv_iload (pc := 87) E.1 E.2.1 dX8_sums_87 (lv_at hl 4 rfl) ?_
    obtain ⟨v31, g32, hf⟩ := x_bind hf
    refine x_callVA (pc := 89) (As := [.int x3, .int x4]) (rest := []) (st1 := [.int v31]) (ws' := (cells8 G ad s)) E hw hl (c_X8_lossIn l G ad s x3 x4 g32) xv_X8_175 xd_X8_lossIn rfl rfl ⟨Nat.le_of_ble_eq_true rfl, Nat.le_of_ble_eq_true rfl⟩ (q0 := 0) rfl rfl rfl rfl (Nat.le_of_ble_eq_true rfl) rfl rfl dX8_sums_89 (fun H locs hw => ?_)
    refine lv_istore (lv' := [(5, .int v31), (0, .ref (ad 0)), (1, .int x1), (2, .int x2), (3, .int x3), (4, .int x4)]) (pc := 92) E.1 E.2.1 dX8_sums_92 hl (by decide) rfl (fun ls hl => ?_)
    refine lv_aload_n (pc := 94) E.1 E.2.1 dX8_sums_94 rfl (lv_at hl 1 rfl) ?_
    refine xg_X8_29 (pc := 95) (v := .ref (ad 6)) E hw 0 rfl rfl dX8_sums_95 ?_
    refine lv_iload_n (pc := 98) E.1 E.2.1 dX8_sums_98 rfl (lv_at hl 4 rfl) ?_
    refine lv_dup2_11 (pc := 99) E.1 E.2.1 dX8_sums_99 rfl rfl ?_
    obtain ⟨v34, g33, hf⟩ := x_bind hf
    refine x_iald (pc := 100) E hw 6 rfl g33 dX8_sums_100 ?_
    refine lv_iload (pc := 101) E.1 E.2.1 dX8_sums_101 (lv_at hl 0 rfl) ?_
    refine lv_iadd (pc := 103) E.1 E.2.1 dX8_sums_103 ?_
    obtain ⟨w36, g35, hf⟩ := x_bind hf
    refine x_iast (pc := 104) (ws' := (cells8 G ad (u8_losses s w36))) E hw 6 rfl g35 rfl dX8_sums_104 (fun H locs hw => ?_)
    refine lv_aload_n (pc := 105) E.1 E.2.1 dX8_sums_105 rfl (lv_at hl 1 rfl) ?_
    refine xg_X8_32 (pc := 106) (v := .ref (ad 7)) E hw 0 rfl rfl dX8_sums_106 ?_
    refine lv_iload_n (pc := 109) E.1 E.2.1 dX8_sums_109 rfl (lv_at hl 4 rfl) ?_
    refine lv_dup2_11 (pc := 110) E.1 E.2.1 dX8_sums_110 rfl rfl ?_
    obtain ⟨v38, g37, hf⟩ := x_bind hf
    refine x_iald (pc := 111) E hw 7 rfl g37 dX8_sums_111 ?_
    refine lv_iload (pc := 112) E.1 E.2.1 dX8_sums_112 (lv_at hl 0 rfl) ?_
    refine lv_iload (pc := 114) E.1 E.2.1 dX8_sums_114 (lv_at hl 0 rfl) ?_
    refine lv_imul (pc := 116) E.1 E.2.1 dX8_sums_116 ?_
    refine lv_iadd (pc := 117) E.1 E.2.1 dX8_sums_117 ?_
    obtain ⟨w40, g39, hf⟩ := x_bind hf
    refine x_iast (pc := 118) (ws' := (cells8 G ad (u8_squares (u8_losses s w36) w40))) E hw 7 rfl g39 rfl dX8_sums_118 (fun H locs hw => ?_)
    refine lv_iinc (v := (x4 + 1)) (lv' := [(4, .int (x4 + 1)), (5, .int v31), (0, .ref (ad 0)), (1, .int x1), (2, .int x2), (3, .int x3)]) (pc := 119) E.1 E.2.1 dX8_sums_119 hl (k := 5) rfl rfl (by decide) rfl (fun ls hl => ?_)
    refine lv_goto (tgt := 79) (pc := 122) E.1 E.2.1 dX8_sums_122 (by decide) ?_
    exact hk79 (u8_squares (u8_losses s w36) w40) x1 x2 x3 (x4 + 1) z hw (lv_sub hl [2, 3, 4, 5, 0] rfl) hf
set_option maxHeartbeats 4000000 in
set_option maxRecDepth 100000 in
theorem wl_X8_sums_p79 {p : Program} {l : Launch} {e : Env} {sS : State} {m : MethodId} {args : Array Value} {below : List Frame} {meth : Method} {c : Code} {G : xG} {W0 : va_W} {ad : Nat → Nat}  {k40 : S8 → Int32 → Int32 → Int32 → Option (S8)} (E : xE p sS m args c cX8_sums 6 RX8 G (x_in W0)) (hr : meth.sig.returnType = none) (hk : meth.locks = false) (hk40 : ∀ (s' : S8) (x1' : Int32) (x2' : Int32) (x3' : Int32) (z : S8) {H : Heap} {locs : List Loc} {ls : Array Slot}, xW G (x_in W0) sS.heap (cells8 G ad s') H locs → lv_has ls 6 [(0, .ref (ad 0)), (1, .int x1'), (2, .int x2'), (3, .int x3')] → k40  s' x1' x2' x3' = some z → W p l e (rm_X8_sums) sS m args below meth c H locs 0 0 (MQ below (xQ G W0 (cells8 G ad z) none) args sS 0 0 (x_in W0)) (F0 m 40 ls [])) : ∀ (s' : S8) (x1' : Int32) (x2' : Int32) (x3' : Int32) (x4' : Int32) (z : S8) {H : Heap} {locs : List Loc} {ls : Array Slot}, xW G (x_in W0) sS.heap (cells8 G ad s') H locs → lv_has ls 6 [(0, .ref (ad 0)), (1, .int x1'), (2, .int x2'), (3, .int x3'), (4, .int x4')] → lp_X8_sums_p79 k40 s' x1' x2' x3' x4' = some z → W p l e (rm_X8_sums) sS m args below meth c H locs 0 0 (MQ below (xQ G W0 (cells8 G ad z) none) args sS 0 0 (x_in W0)) (F0 m 79 ls []) := by
  intro s x1 x2 x3 x4 z H locs ls hw hl hf
  exact x_loop_W (P := fun (q : S8 × Int32 × Int32 × Int32 × Int32) (z : S8) => ∀ {H : Heap} {locs : List Loc} {ls : Array Slot}, xW G (x_in W0) sS.heap (cells8 G ad q.1) H locs → lv_has ls 6 [(0, .ref (ad 0)), (1, .int q.2.1), (2, .int q.2.2.1), (3, .int q.2.2.2.1), (4, .int q.2.2.2.2)] → W p l e (rm_X8_sums) sS m args below meth c H locs 0 0 (MQ below (xQ G W0 (cells8 G ad z) none) args sS 0 0 (x_in W0)) (F0 m 79 ls [])) (fun k hkk q z hf H locs ls hw hl => w_X8_sums_p79 E hr hk hk40 (fun s x1 x2 x3 x4 z H locs ls hw hl hf => hkk (s, x1, x2, x3, x4) z hf hw hl) q.1 q.2.1 q.2.2.1 q.2.2.2.1 q.2.2.2.2 z hw hl hf) FU (s, x1, x2, x3, x4) z hf hw hl
set_option maxHeartbeats 4000000 in
set_option maxRecDepth 100000 in
theorem w_X8_sums_p40 {p : Program} {l : Launch} {e : Env} {sS : State} {m : MethodId} {args : Array Value} {below : List Frame} {meth : Method} {c : Code} {G : xG} {W0 : va_W} {ad : Nat → Nat}  {k40 : S8 → Int32 → Int32 → Int32 → Option (S8)} (E : xE p sS m args c cX8_sums 6 RX8 G (x_in W0)) (hr : meth.sig.returnType = none) (hk : meth.locks = false) (hk40 : ∀ (s' : S8) (x1' : Int32) (x2' : Int32) (x3' : Int32) (z : S8) {H : Heap} {locs : List Loc} {ls : Array Slot}, xW G (x_in W0) sS.heap (cells8 G ad s') H locs → lv_has ls 6 [(0, .ref (ad 0)), (1, .int x1'), (2, .int x2'), (3, .int x3')] → k40  s' x1' x2' x3' = some z → W p l e (rm_X8_sums) sS m args below meth c H locs 0 0 (MQ below (xQ G W0 (cells8 G ad z) none) args sS 0 0 (x_in W0)) (F0 m 40 ls [])) : ∀ (s' : S8) (x1' : Int32) (x2' : Int32) (x3' : Int32) (z : S8) {H : Heap} {locs : List Loc} {ls : Array Slot}, xW G (x_in W0) sS.heap (cells8 G ad s') H locs → lv_has ls 6 [(0, .ref (ad 0)), (1, .int x1'), (2, .int x2'), (3, .int x3')] → f_X8_sums_p40 k40 s' x1' x2' x3' = some z → W p l e (rm_X8_sums) sS m args below meth c H locs 0 0 (MQ below (xQ G W0 (cells8 G ad z) none) args sS 0 0 (x_in W0)) (F0 m 40 ls []) := by
  intro s x1 x2 x3 z H locs ls hw hl hf
  unfold f_X8_sums_p40 at hf
  refine lv_iload_n (pc := 40) E.1 E.2.1 dX8_sums_40 rfl (lv_at hl 3 rfl) ?_
  refine lv_aload_n (pc := 41) E.1 E.2.1 dX8_sums_41 rfl (lv_at hl 0 rfl) ?_
  obtain ⟨v1, g2, hf⟩ := x_bind hf
  refine x_callVA (pc := 42) (As := []) (rest := [.int x3]) (st1 := [.int v1, .int x3]) (ws' := (cells8 G ad s)) E hw hl (c_X8_many l G ad s g2) xv_X8_80 xd_X8_many rfl rfl ⟨Nat.le_of_ble_eq_true rfl, Nat.le_of_ble_eq_true rfl⟩ (q0 := 0) rfl rfl rfl rfl (Nat.le_of_ble_eq_true rfl) rfl rfl dX8_sums_42 (fun H locs hw => ?_)
  refine lv_icmp_ge (tgt := 213) (pc := 45) E.1 E.2.1 dX8_sums_45 (by decide) (fun q3 => ?_) (fun q3 => ?_)
  · have hf := x_pos q3 hf
    refine lv_aload_n (pc := 213) E.1 E.2.1 dX8_sums_213 rfl (lv_at hl 0 rfl) ?_
    refine lv_lconst (v := 0) (pc := 214) E.1 E.2.1 dX8_sums_214 (by decide) ?_
    refine xp_X8_178 (pc := 215) (v := .long 0) (ws' := (cells8 G ad (u8_wholeLow s 0))) E hw 0 rfl rfl rfl (Nat.le_of_ble_eq_true rfl) rfl dX8_sums_215 (fun H locs hw => ?_)
    refine lv_aload_n (pc := 218) E.1 E.2.1 dX8_sums_218 rfl (lv_at hl 0 rfl) ?_
    refine lv_lconst (v := 0) (pc := 219) E.1 E.2.1 dX8_sums_219 (by decide) ?_
    refine xp_X8_181 (pc := 220) (v := .long 0) (ws' := (cells8 G ad (u8_wholeUp (u8_wholeLow s 0) 0))) E hw 0 rfl rfl rfl (Nat.le_of_ble_eq_true rfl) rfl dX8_sums_220 (fun H locs hw => ?_)
    refine lv_iload_n (pc := 223) E.1 E.2.1 dX8_sums_223 rfl (lv_at hl 2 rfl) ?_
    refine lv_if_le (tgt := 251) (pc := 224) E.1 E.2.1 dX8_sums_224 (by decide) (fun q4 => ?_) (fun q4 => ?_)
    · have hf := x_pos q4 hf
      obtain rfl := Option.some.inj hf
      exact x_retv (pc := 251) E hr hk hw dX8_sums_251
    · have hf := x_neg q4 hf
      refine lv_aload_n (pc := 227) E.1 E.2.1 dX8_sums_227 rfl (lv_at hl 0 rfl) ?_
      refine lv_iload_n (pc := 228) E.1 E.2.1 dX8_sums_228 rfl (lv_at hl 1 rfl) ?_
      refine lv_i2l (v := (Int32.toInt64 x1)) (pc := 229) E.1 E.2.1 dX8_sums_229 rfl ?_
      refine lv_iload_n (pc := 230) E.1 E.2.1 dX8_sums_230 rfl (lv_at hl 2 rfl) ?_
      refine lv_i2l (v := (Int32.toInt64 x2)) (pc := 231) E.1 E.2.1 dX8_sums_231 rfl ?_
      obtain ⟨v5, g6, hf⟩ := x_bind hf
      refine x_callVA (pc := 232) (As := [.long (Int32.toInt64 x1), .long (Int32.toInt64 x2)]) (rest := []) (st1 := []) (ws' := (cells8 G ad v5)) E hw hl (c_X8_is l G ad (u8_wholeUp (u8_wholeLow s 0) 0) (Int32.toInt64 x1) (Int32.toInt64 x2) g6) xv_X8_168 xd_X8_is rfl rfl ⟨Nat.le_of_ble_eq_true rfl, Nat.le_of_ble_eq_true rfl⟩ (q0 := 0) rfl rfl rfl rfl (Nat.le_of_ble_eq_true rfl) rfl rfl dX8_sums_232 (fun H locs hw => ?_)
      refine lv_aload_n (pc := 235) E.1 E.2.1 dX8_sums_235 rfl (lv_at hl 0 rfl) ?_
      refine lv_aload_n (pc := 236) E.1 E.2.1 dX8_sums_236 rfl (lv_at hl 0 rfl) ?_
      refine xg_X8_161 (pc := 237) (v := .long (g8_upper v5)) E hw 0 rfl rfl dX8_sums_237 ?_
      refine xp_X8_181 (pc := 240) (v := .long (g8_upper v5)) (ws' := (cells8 G ad (u8_wholeUp v5 (g8_upper v5)))) E hw 0 rfl rfl rfl (Nat.le_of_ble_eq_true rfl) rfl dX8_sums_240 (fun H locs hw => ?_)
      refine lv_aload_n (pc := 243) E.1 E.2.1 dX8_sums_243 rfl (lv_at hl 0 rfl) ?_
      refine lv_aload_n (pc := 244) E.1 E.2.1 dX8_sums_244 rfl (lv_at hl 0 rfl) ?_
      refine xg_X8_165 (pc := 245) (v := .long (g8_lower (u8_wholeUp v5 (g8_upper v5)))) E hw 0 rfl rfl dX8_sums_245 ?_
      refine xp_X8_178 (pc := 248) (v := .long (g8_lower (u8_wholeUp v5 (g8_upper v5)))) (ws' := (cells8 G ad (u8_wholeLow (u8_wholeUp v5 (g8_upper v5)) (g8_lower (u8_wholeUp v5 (g8_upper v5)))))) E hw 0 rfl rfl rfl (Nat.le_of_ble_eq_true rfl) rfl dX8_sums_248 (fun H locs hw => ?_)
      obtain rfl := Option.some.inj hf
      exact x_retv (pc := 251) E hr hk hw dX8_sums_251
  · have hf := x_neg q3 hf
    refine lv_aload_n (pc := 48) E.1 E.2.1 dX8_sums_48 rfl (lv_at hl 0 rfl) ?_
    refine xg_X8_26 (pc := 49) (v := .ref (ad 5)) E hw 0 rfl rfl dX8_sums_49 ?_
    refine lv_iload_n (pc := 52) E.1 E.2.1 dX8_sums_52 rfl (lv_at hl 3 rfl) ?_
    refine lv_aload_n (pc := 53) E.1 E.2.1 dX8_sums_53 rfl (lv_at hl 0 rfl) ?_
    refine lv_iload_n (pc := 54) E.1 E.2.1 dX8_sums_54 rfl (lv_at hl 3 rfl) ?_
    obtain ⟨v7, g8, hf⟩ := x_bind hf
    refine x_callVA (pc := 55) (As := [.int x3]) (rest := [.int x3, .ref (ad 5)]) (st1 := [.int v7, .int x3, .ref (ad 5)]) (ws' := (cells8 G ad s)) E hw hl (c_X8_yearsOf l G ad s x3 g8) xv_X8_91 xd_X8_yearsOf rfl rfl ⟨Nat.le_of_ble_eq_true rfl, Nat.le_of_ble_eq_true rfl⟩ (q0 := 0) rfl rfl rfl rfl (Nat.le_of_ble_eq_true rfl) rfl rfl dX8_sums_55 (fun H locs hw => ?_)
    obtain ⟨v9, g10, hf⟩ := x_bind hf
    refine x_callS0 (pc := 58) (As := [.int v7]) (rest := [.int x3, .ref (ad 5)]) (st1 := [.int v9, .int x3, .ref (ad 5)]) E hw hl (c_X8_ones l G  v7 g10) xs_X8_138 xd_X8_ones rfl rfl ⟨Nat.le_of_ble_eq_true rfl, Nat.le_of_ble_eq_true rfl⟩ rfl rfl (Nat.le_of_ble_eq_true rfl) rfl dX8_sums_58 (fun H locs hw => ?_)
    obtain ⟨w12, g11, hf⟩ := x_bind hf
    refine x_iast (pc := 61) (ws' := (cells8 G ad (u8_n s w12))) E hw 5 rfl g11 rfl dX8_sums_61 (fun H locs hw => ?_)
    refine lv_aload_n (pc := 62) E.1 E.2.1 dX8_sums_62 rfl (lv_at hl 0 rfl) ?_
    refine xg_X8_29 (pc := 63) (v := .ref (ad 6)) E hw 0 rfl rfl dX8_sums_63 ?_
    refine lv_iload_n (pc := 66) E.1 E.2.1 dX8_sums_66 rfl (lv_at hl 3 rfl) ?_
    refine lv_iconst (v := 0) (pc := 67) E.1 E.2.1 dX8_sums_67 (by decide) ?_
    obtain ⟨w14, g13, hf⟩ := x_bind hf
    refine x_iast (pc := 68) (ws' := (cells8 G ad (u8_losses (u8_n s w12) w14))) E hw 6 rfl g13 rfl dX8_sums_68 (fun H locs hw => ?_)
    refine lv_aload_n (pc := 69) E.1 E.2.1 dX8_sums_69 rfl (lv_at hl 0 rfl) ?_
    refine xg_X8_32 (pc := 70) (v := .ref (ad 7)) E hw 0 rfl rfl dX8_sums_70 ?_
    refine lv_iload_n (pc := 73) E.1 E.2.1 dX8_sums_73 rfl (lv_at hl 3 rfl) ?_
    refine lv_iconst (v := 0) (pc := 74) E.1 E.2.1 dX8_sums_74 (by decide) ?_
    obtain ⟨w16, g15, hf⟩ := x_bind hf
    refine x_iast (pc := 75) (ws' := (cells8 G ad (u8_squares (u8_losses (u8_n s w12) w14) w16))) E hw 7 rfl g15 rfl dX8_sums_75 (fun H locs hw => ?_)
    refine lv_iconst (v := 0) (pc := 76) E.1 E.2.1 dX8_sums_76 (by decide) ?_
    refine lv_istore (lv' := [(4, .int 0), (0, .ref (ad 0)), (1, .int x1), (2, .int x2), (3, .int x3)]) (pc := 77) E.1 E.2.1 dX8_sums_77 hl (by decide) rfl (fun ls hl => ?_)
    exact wl_X8_sums_p79 E hr hk hk40 (u8_squares (u8_losses (u8_n s w12) w14) w16) x1 x2 x3 0 z hw (lv_sub hl [1, 2, 3, 4, 0] rfl) hf
set_option maxHeartbeats 4000000 in
set_option maxRecDepth 100000 in
theorem wl_X8_sums_p40 {p : Program} {l : Launch} {e : Env} {sS : State} {m : MethodId} {args : Array Value} {below : List Frame} {meth : Method} {c : Code} {G : xG} {W0 : va_W} {ad : Nat → Nat}   (E : xE p sS m args c cX8_sums 6 RX8 G (x_in W0)) (hr : meth.sig.returnType = none) (hk : meth.locks = false)  : ∀ (s' : S8) (x1' : Int32) (x2' : Int32) (x3' : Int32) (z : S8) {H : Heap} {locs : List Loc} {ls : Array Slot}, xW G (x_in W0) sS.heap (cells8 G ad s') H locs → lv_has ls 6 [(0, .ref (ad 0)), (1, .int x1'), (2, .int x2'), (3, .int x3')] → lp_X8_sums_p40  s' x1' x2' x3' = some z → W p l e (rm_X8_sums) sS m args below meth c H locs 0 0 (MQ below (xQ G W0 (cells8 G ad z) none) args sS 0 0 (x_in W0)) (F0 m 40 ls []) := by
  intro s x1 x2 x3 z H locs ls hw hl hf
  exact x_loop_W (P := fun (q : S8 × Int32 × Int32 × Int32) (z : S8) => ∀ {H : Heap} {locs : List Loc} {ls : Array Slot}, xW G (x_in W0) sS.heap (cells8 G ad q.1) H locs → lv_has ls 6 [(0, .ref (ad 0)), (1, .int q.2.1), (2, .int q.2.2.1), (3, .int q.2.2.2)] → W p l e (rm_X8_sums) sS m args below meth c H locs 0 0 (MQ below (xQ G W0 (cells8 G ad z) none) args sS 0 0 (x_in W0)) (F0 m 40 ls [])) (fun k hkk q z hf H locs ls hw hl => w_X8_sums_p40 E hr hk  (fun s x1 x2 x3 z H locs ls hw hl hf => hkk (s, x1, x2, x3) z hf hw hl) q.1 q.2.1 q.2.2.1 q.2.2.2 z hw hl hf) FU (s, x1, x2, x3) z hf hw hl
set_option maxHeartbeats 4000000 in
set_option maxRecDepth 100000 in
theorem w_X8_sums_p6 {p : Program} {l : Launch} {e : Env} {sS : State} {m : MethodId} {args : Array Value} {below : List Frame} {meth : Method} {c : Code} {G : xG} {W0 : va_W} {ad : Nat → Nat}  {k6 : S8 → Int32 → Int32 → Int32 → Option (S8)} (E : xE p sS m args c cX8_sums 6 RX8 G (x_in W0)) (hr : meth.sig.returnType = none) (hk : meth.locks = false) (hk6 : ∀ (s' : S8) (x1' : Int32) (x2' : Int32) (x3' : Int32) (z : S8) {H : Heap} {locs : List Loc} {ls : Array Slot}, xW G (x_in W0) sS.heap (cells8 G ad s') H locs → lv_has ls 6 [(0, .ref (ad 0)), (1, .int x1'), (2, .int x2'), (3, .int x3')] → k6  s' x1' x2' x3' = some z → W p l e (rm_X8_sums) sS m args below meth c H locs 0 0 (MQ below (xQ G W0 (cells8 G ad z) none) args sS 0 0 (x_in W0)) (F0 m 6 ls [])) : ∀ (s' : S8) (x1' : Int32) (x2' : Int32) (x3' : Int32) (z : S8) {H : Heap} {locs : List Loc} {ls : Array Slot}, xW G (x_in W0) sS.heap (cells8 G ad s') H locs → lv_has ls 6 [(0, .ref (ad 0)), (1, .int x1'), (2, .int x2'), (3, .int x3')] → f_X8_sums_p6 k6 s' x1' x2' x3' = some z → W p l e (rm_X8_sums) sS m args below meth c H locs 0 0 (MQ below (xQ G W0 (cells8 G ad z) none) args sS 0 0 (x_in W0)) (F0 m 6 ls []) := by
  intro s x1 x2 x3 z H locs ls hw hl hf
  unfold f_X8_sums_p6 at hf
  refine lv_iload_n (pc := 6) E.1 E.2.1 dX8_sums_6 rfl (lv_at hl 3 rfl) ?_
  refine lv_iconst (v := 3) (pc := 7) E.1 E.2.1 dX8_sums_7 (by decide) ?_
  refine lv_icmp_ge (tgt := 38) (pc := 8) E.1 E.2.1 dX8_sums_8 (by decide) (fun q1 => ?_) (fun q1 => ?_)
  · have hf := x_pos q1 hf
    refine lv_iconst (v := 0) (pc := 38) E.1 E.2.1 dX8_sums_38 (by decide) ?_
    refine lv_istore_n (lv' := [(3, .int 0), (0, .ref (ad 0)), (1, .int x1), (2, .int x2)]) (pc := 39) E.1 E.2.1 dX8_sums_39 rfl hl (by decide) rfl (fun ls hl => ?_)
    exact wl_X8_sums_p40 E hr hk  s x1 x2 0 z hw (lv_sub hl [1, 2, 3, 0] rfl) hf
  · have hf := x_neg q1 hf
    refine lv_aload_n (pc := 11) E.1 E.2.1 dX8_sums_11 rfl (lv_at hl 0 rfl) ?_
    refine xg_X8_45 (pc := 12) (v := .ref (ad 11)) E hw 0 rfl rfl dX8_sums_12 ?_
    refine lv_iload_n (pc := 15) E.1 E.2.1 dX8_sums_15 rfl (lv_at hl 3 rfl) ?_
    refine lv_iconst (v := 0) (pc := 16) E.1 E.2.1 dX8_sums_16 (by decide) ?_
    obtain ⟨w3, g2, hf⟩ := x_bind hf
    refine x_iast (pc := 17) (ws' := (cells8 G ad (u8_have s w3))) E hw 11 rfl g2 rfl dX8_sums_17 (fun H locs hw => ?_)
    refine lv_aload_n (pc := 18) E.1 E.2.1 dX8_sums_18 rfl (lv_at hl 0 rfl) ?_
    refine xg_X8_48 (pc := 19) (v := .ref (ad 12)) E hw 0 rfl rfl dX8_sums_19 ?_
    refine lv_iload_n (pc := 22) E.1 E.2.1 dX8_sums_22 rfl (lv_at hl 3 rfl) ?_
    refine lv_iconst (v := 0) (pc := 23) E.1 E.2.1 dX8_sums_23 (by decide) ?_
    obtain ⟨w5, g4, hf⟩ := x_bind hf
    refine x_iast (pc := 24) (ws' := (cells8 G ad (u8_spans (u8_have s w3) w5))) E hw 12 rfl g4 rfl dX8_sums_24 (fun H locs hw => ?_)
    refine lv_aload_n (pc := 25) E.1 E.2.1 dX8_sums_25 rfl (lv_at hl 0 rfl) ?_
    refine xg_X8_51 (pc := 26) (v := .ref (ad 13)) E hw 0 rfl rfl dX8_sums_26 ?_
    refine lv_iload_n (pc := 29) E.1 E.2.1 dX8_sums_29 rfl (lv_at hl 3 rfl) ?_
    refine lv_iconst (v := 0) (pc := 30) E.1 E.2.1 dX8_sums_30 (by decide) ?_
    obtain ⟨w7, g6, hf⟩ := x_bind hf
    refine x_iast (pc := 31) (ws' := (cells8 G ad (u8_totals (u8_spans (u8_have s w3) w5) w7))) E hw 13 rfl g6 rfl dX8_sums_31 (fun H locs hw => ?_)
    refine lv_iinc (v := (x3 + 1)) (lv' := [(3, .int (x3 + 1)), (0, .ref (ad 0)), (1, .int x1), (2, .int x2)]) (pc := 32) E.1 E.2.1 dX8_sums_32 hl (k := 3) rfl rfl (by decide) rfl (fun ls hl => ?_)
    refine lv_goto (tgt := 6) (pc := 35) E.1 E.2.1 dX8_sums_35 (by decide) ?_
    exact hk6 (u8_totals (u8_spans (u8_have s w3) w5) w7) x1 x2 (x3 + 1) z hw (lv_sub hl [1, 2, 3, 0] rfl) hf
set_option maxHeartbeats 4000000 in
set_option maxRecDepth 100000 in
theorem wl_X8_sums_p6 {p : Program} {l : Launch} {e : Env} {sS : State} {m : MethodId} {args : Array Value} {below : List Frame} {meth : Method} {c : Code} {G : xG} {W0 : va_W} {ad : Nat → Nat}   (E : xE p sS m args c cX8_sums 6 RX8 G (x_in W0)) (hr : meth.sig.returnType = none) (hk : meth.locks = false)  : ∀ (s' : S8) (x1' : Int32) (x2' : Int32) (x3' : Int32) (z : S8) {H : Heap} {locs : List Loc} {ls : Array Slot}, xW G (x_in W0) sS.heap (cells8 G ad s') H locs → lv_has ls 6 [(0, .ref (ad 0)), (1, .int x1'), (2, .int x2'), (3, .int x3')] → lp_X8_sums_p6  s' x1' x2' x3' = some z → W p l e (rm_X8_sums) sS m args below meth c H locs 0 0 (MQ below (xQ G W0 (cells8 G ad z) none) args sS 0 0 (x_in W0)) (F0 m 6 ls []) := by
  intro s x1 x2 x3 z H locs ls hw hl hf
  exact x_loop_W (P := fun (q : S8 × Int32 × Int32 × Int32) (z : S8) => ∀ {H : Heap} {locs : List Loc} {ls : Array Slot}, xW G (x_in W0) sS.heap (cells8 G ad q.1) H locs → lv_has ls 6 [(0, .ref (ad 0)), (1, .int q.2.1), (2, .int q.2.2.1), (3, .int q.2.2.2)] → W p l e (rm_X8_sums) sS m args below meth c H locs 0 0 (MQ below (xQ G W0 (cells8 G ad z) none) args sS 0 0 (x_in W0)) (F0 m 6 ls [])) (fun k hkk q z hf H locs ls hw hl => w_X8_sums_p6 E hr hk  (fun s x1 x2 x3 z H locs ls hw hl hf => hkk (s, x1, x2, x3) z hf hw hl) q.1 q.2.1 q.2.2.1 q.2.2.2 z hw hl hf) FU (s, x1, x2, x3) z hf hw hl
set_option maxHeartbeats 4000000 in
set_option maxRecDepth 100000 in
theorem w_X8_sums_p0 {p : Program} {l : Launch} {e : Env} {sS : State} {m : MethodId} {args : Array Value} {below : List Frame} {meth : Method} {c : Code} {G : xG} {W0 : va_W} {ad : Nat → Nat}   (E : xE p sS m args c cX8_sums 6 RX8 G (x_in W0)) (hr : meth.sig.returnType = none) (hk : meth.locks = false)  : ∀ (s' : S8) (z : S8) {H : Heap} {locs : List Loc} {ls : Array Slot}, xW G (x_in W0) sS.heap (cells8 G ad s') H locs → lv_has ls 6 [(0, .ref (ad 0))] → f_X8_sums  s' = some z → W p l e (rm_X8_sums) sS m args below meth c H locs 0 0 (MQ below (xQ G W0 (cells8 G ad z) none) args sS 0 0 (x_in W0)) (F0 m 0 ls []) := by
  intro s z H locs ls hw hl hf
  unfold f_X8_sums at hf
  refine lv_iconst (v := 0) (pc := 0) E.1 E.2.1 dX8_sums_0 (by decide) ?_
  refine lv_istore_n (lv' := [(1, .int 0), (0, .ref (ad 0))]) (pc := 1) E.1 E.2.1 dX8_sums_1 rfl hl (by decide) rfl (fun ls hl => ?_)
  refine lv_iconst (v := 0) (pc := 2) E.1 E.2.1 dX8_sums_2 (by decide) ?_
  refine lv_istore_n (lv' := [(2, .int 0), (1, .int 0), (0, .ref (ad 0))]) (pc := 3) E.1 E.2.1 dX8_sums_3 rfl hl (by decide) rfl (fun ls hl => ?_)
  refine lv_iconst (v := 0) (pc := 4) E.1 E.2.1 dX8_sums_4 (by decide) ?_
  refine lv_istore_n (lv' := [(3, .int 0), (2, .int 0), (1, .int 0), (0, .ref (ad 0))]) (pc := 5) E.1 E.2.1 dX8_sums_5 rfl hl (by decide) rfl (fun ls hl => ?_)
  exact wl_X8_sums_p6 E hr hk  s 0 0 0 z hw (lv_sub hl [3, 2, 1, 0] rfl) hf
set_option maxHeartbeats 4000000 in
set_option maxRecDepth 100000 in
theorem c_X8_sums (l : Launch) (G : xG) (ad : Nat → Nat) (s : S8) {z : S8} (hf : f_X8_sums s = some z) : xC l yX8_sums cX8_sums 6 none (rm_X8_sums) G [.ref (ad 0)] (cells8 G ad s) none (cells8 G ad z) :=
  x_met (by decide) (Nat.le_of_ble_eq_true rfl) (fun p e sS m below meth c E hr hk ls hl hw => w_X8_sums_p0 E hr hk s z hw hl hf)
set_option maxHeartbeats 4000000 in
set_option maxRecDepth 100000 in
theorem w_X8_isIn_p0 {p : Program} {l : Launch} {e : Env} {sS : State} {m : MethodId} {args : Array Value} {below : List Frame} {meth : Method} {c : Code} {G : xG} {W0 : va_W} {ad : Nat → Nat}   (E : xE p sS m args c cX8_isIn 3 RX8 G (x_in W0)) (hr : meth.sig.returnType = (some .boolean)) (hk : meth.locks = false)  : ∀ (s' : S8) (x1' : Int32) (x2' : Int32) (z : Int32) {H : Heap} {locs : List Loc} {ls : Array Slot}, xW G (x_in W0) sS.heap (cells8 G ad s') H locs → lv_has ls 3 [(0, .ref (ad 0)), (1, .int x1'), (2, .int x2')] → f_X8_isIn  s' x1' x2' = some z → W p l e (rm_X8_isIn) sS m args below meth c H locs 0 0 (MQ below (xQ G W0 (cells8 G ad s') (some (.int z))) args sS 0 0 (x_in W0)) (F0 m 0 ls []) := by
  intro s x1 x2 z H locs ls hw hl hf
  unfold f_X8_isIn at hf
  refine lv_aload_n (pc := 0) E.1 E.2.1 dX8_isIn_0 rfl (lv_at hl 0 rfl) ?_
  refine lv_iload_n (pc := 1) E.1 E.2.1 dX8_isIn_1 rfl (lv_at hl 1 rfl) ?_
  obtain ⟨v1, g2, hf⟩ := x_bind hf
  refine x_callVA (pc := 2) (As := [.int x1]) (rest := []) (st1 := [.int v1]) (ws' := (cells8 G ad s)) E hw hl (c_X8_classOf l G ad s x1 g2) xv_X8_125 xd_X8_classOf rfl rfl ⟨Nat.le_of_ble_eq_true rfl, Nat.le_of_ble_eq_true rfl⟩ (q0 := 0) rfl rfl rfl rfl (Nat.le_of_ble_eq_true rfl) rfl rfl dX8_isIn_2 (fun H locs hw => ?_)
  refine lv_iload_n (pc := 5) E.1 E.2.1 dX8_isIn_5 rfl (lv_at hl 2 rfl) ?_
  refine lv_icmp_ne (tgt := 22) (pc := 6) E.1 E.2.1 dX8_isIn_6 (by decide) (fun q3 => ?_) (fun q3 => ?_)
  · have hf := x_neg q3 hf
    refine lv_iconst (v := 0) (pc := 22) E.1 E.2.1 dX8_isIn_22 (by decide) ?_
    obtain rfl := Option.some.inj hf
    exact x_retz (pc := 23) (v := 0) (r := 0) E hr hk hw (by decide) dX8_isIn_23
  · have hf := x_pos q3 hf
    refine lv_aload_n (pc := 9) E.1 E.2.1 dX8_isIn_9 rfl (lv_at hl 0 rfl) ?_
    refine xg_X8_26 (pc := 10) (v := .ref (ad 5)) E hw 0 rfl rfl dX8_isIn_10 ?_
    refine lv_iload_n (pc := 13) E.1 E.2.1 dX8_isIn_13 rfl (lv_at hl 1 rfl) ?_
    obtain ⟨v5, g4, hf⟩ := x_bind hf
    refine x_iald (pc := 14) E hw 5 rfl g4 dX8_isIn_14 ?_
    refine lv_if_le (tgt := 22) (pc := 15) E.1 E.2.1 dX8_isIn_15 (by decide) (fun q6 => ?_) (fun q6 => ?_)
    · have hf := x_pos q6 hf
      refine lv_iconst (v := 0) (pc := 22) E.1 E.2.1 dX8_isIn_22 (by decide) ?_
      obtain rfl := Option.some.inj hf
      exact x_retz (pc := 23) (v := 0) (r := 0) E hr hk hw (by decide) dX8_isIn_23
    · have hf := x_neg q6 hf
      refine lv_iconst (v := 1) (pc := 18) E.1 E.2.1 dX8_isIn_18 (by decide) ?_
      refine lv_goto (tgt := 23) (pc := 19) E.1 E.2.1 dX8_isIn_19 (by decide) ?_
      obtain rfl := Option.some.inj hf
      exact x_retz (pc := 23) (v := 1) (r := 1) E hr hk hw (by decide) dX8_isIn_23
set_option maxHeartbeats 4000000 in
set_option maxRecDepth 100000 in
theorem c_X8_isIn (l : Launch) (G : xG) (ad : Nat → Nat) (s : S8) (x1 : Int32) (x2 : Int32) {z : Int32} (hf : f_X8_isIn s x1 x2 = some z) : xC l yX8_isIn cX8_isIn 3 (some .boolean) (rm_X8_isIn) G [.ref (ad 0), .int x1, .int x2] (cells8 G ad s) (some (.int z)) (cells8 G ad s) :=
  x_met (by decide) (Nat.le_of_ble_eq_true rfl) (fun p e sS m below meth c E hr hk ls hl hw => w_X8_isIn_p0 E hr hk s x1 x2 z hw hl hf)
set_option maxHeartbeats 4000000 in
set_option maxRecDepth 100000 in
theorem w_X8_puts_p0 {p : Program} {l : Launch} {e : Env} {sS : State} {m : MethodId} {args : Array Value} {below : List Frame} {meth : Method} {c : Code} {G : xG} {W0 : va_W} {ad : Nat → Nat}   (E : xE p sS m args c cX8_puts 3 RX8 G (x_in W0)) (hr : meth.sig.returnType = none) (hk : meth.locks = false)  : ∀ (s' : S8) (x1' : Int32) (x2' : Int32) (z : S8) {H : Heap} {locs : List Loc} {ls : Array Slot}, xW G (x_in W0) sS.heap (cells8 G ad s') H locs → lv_has ls 3 [(0, .ref (ad 0)), (1, .int x1'), (2, .int x2')] → f_X8_puts  s' x1' x2' = some z → W p l e (rm_X8_puts) sS m args below meth c H locs 0 0 (MQ below (xQ G W0 (cells8 G ad z) none) args sS 0 0 (x_in W0)) (F0 m 0 ls []) := by
  intro s x1 x2 z H locs ls hw hl hf
  unfold f_X8_puts at hf
  refine lv_aload_n (pc := 0) E.1 E.2.1 dX8_puts_0 rfl (lv_at hl 0 rfl) ?_
  refine xg_X8_57 (pc := 1) (v := .ref (ad 15)) E hw 0 rfl rfl dX8_puts_1 ?_
  refine lv_iconst (v := 5) (pc := 4) E.1 E.2.1 dX8_puts_4 (by decide) ?_
  refine lv_iload_n (pc := 5) E.1 E.2.1 dX8_puts_5 rfl (lv_at hl 1 rfl) ?_
  refine lv_imul (pc := 6) E.1 E.2.1 dX8_puts_6 ?_
  refine lv_iload_n (pc := 7) E.1 E.2.1 dX8_puts_7 rfl (lv_at hl 2 rfl) ?_
  refine lv_iadd (pc := 8) E.1 E.2.1 dX8_puts_8 ?_
  refine lv_aload_n (pc := 9) E.1 E.2.1 dX8_puts_9 rfl (lv_at hl 0 rfl) ?_
  refine xg_X8_161 (pc := 10) (v := .long (g8_upper s)) E hw 0 rfl rfl dX8_puts_10 ?_
  obtain ⟨w2, g1, hf⟩ := x_bind hf
  refine x_last (pc := 13) (ws' := (cells8 G ad (u8_up s w2))) E hw 15 rfl g1 rfl dX8_puts_13 (fun H locs hw => ?_)
  refine lv_aload_n (pc := 14) E.1 E.2.1 dX8_puts_14 rfl (lv_at hl 0 rfl) ?_
  refine xg_X8_60 (pc := 15) (v := .ref (ad 16)) E hw 0 rfl rfl dX8_puts_15 ?_
  refine lv_iconst (v := 5) (pc := 18) E.1 E.2.1 dX8_puts_18 (by decide) ?_
  refine lv_iload_n (pc := 19) E.1 E.2.1 dX8_puts_19 rfl (lv_at hl 1 rfl) ?_
  refine lv_imul (pc := 20) E.1 E.2.1 dX8_puts_20 ?_
  refine lv_iload_n (pc := 21) E.1 E.2.1 dX8_puts_21 rfl (lv_at hl 2 rfl) ?_
  refine lv_iadd (pc := 22) E.1 E.2.1 dX8_puts_22 ?_
  refine lv_aload_n (pc := 23) E.1 E.2.1 dX8_puts_23 rfl (lv_at hl 0 rfl) ?_
  refine xg_X8_165 (pc := 24) (v := .long (g8_lower (u8_up s w2))) E hw 0 rfl rfl dX8_puts_24 ?_
  obtain ⟨w4, g3, hf⟩ := x_bind hf
  refine x_last (pc := 27) (ws' := (cells8 G ad (u8_low (u8_up s w2) w4))) E hw 16 rfl g3 rfl dX8_puts_27 (fun H locs hw => ?_)
  obtain rfl := Option.some.inj hf
  exact x_retv (pc := 28) E hr hk hw dX8_puts_28
set_option maxHeartbeats 4000000 in
set_option maxRecDepth 100000 in
theorem c_X8_puts (l : Launch) (G : xG) (ad : Nat → Nat) (s : S8) (x1 : Int32) (x2 : Int32) {z : S8} (hf : f_X8_puts s x1 x2 = some z) : xC l yX8_puts cX8_puts 3 none (rm_X8_puts) G [.ref (ad 0), .int x1, .int x2] (cells8 G ad s) none (cells8 G ad z) :=
  x_met (by decide) (Nat.le_of_ble_eq_true rfl) (fun p e sS m below meth c E hr hk ls hl hw => w_X8_puts_p0 E hr hk s x1 x2 z hw hl hf)
set_option maxHeartbeats 4000000 in
set_option maxRecDepth 100000 in
theorem w_X8_spreads_p330 {p : Program} {l : Launch} {e : Env} {sS : State} {m : MethodId} {args : Array Value} {below : List Frame} {meth : Method} {c : Code} {G : xG} {W0 : va_W} {ad : Nat → Nat}   (E : xE p sS m args c cX8_spreads 14 RX8 G (x_in W0)) (hr : meth.sig.returnType = none) (hk : meth.locks = false)  : ∀ (s' : S8) (x1' : Int32) (x8' : Int32) (z : S8) {H : Heap} {locs : List Loc} {ls : Array Slot}, xW G (x_in W0) sS.heap (cells8 G ad s') H locs → lv_has ls 14 [(0, .ref (ad 0)), (1, .int x1'), (8, .int x8')] → f_X8_spreads_p330  s' x1' x8' = some z → W p l e (rm_X8_spreads) sS m args below meth c H locs 0 0 (MQ below (xQ G W0 (cells8 G ad z) none) args sS 0 0 (x_in W0)) (F0 m 330 ls []) := by
  intro s x1 x8 z H locs ls hw hl hf
  unfold f_X8_spreads_p330 at hf
  refine lv_aload_n (pc := 330) E.1 E.2.1 dX8_spreads_330 rfl (lv_at hl 0 rfl) ?_
  refine lv_aload_n (pc := 331) E.1 E.2.1 dX8_spreads_331 rfl (lv_at hl 0 rfl) ?_
  refine xg_X8_161 (pc := 332) (v := .long (g8_upper s)) E hw 0 rfl rfl dX8_spreads_332 ?_
  refine lv_aload_n (pc := 335) E.1 E.2.1 dX8_spreads_335 rfl (lv_at hl 0 rfl) ?_
  refine xg_X8_165 (pc := 336) (v := .long (g8_lower s)) E hw 0 rfl rfl dX8_spreads_336 ?_
  refine lv_aload_n (pc := 339) E.1 E.2.1 dX8_spreads_339 rfl (lv_at hl 0 rfl) ?_
  refine xg_X8_48 (pc := 340) (v := .ref (ad 12)) E hw 0 rfl rfl dX8_spreads_340 ?_
  refine lv_iload_n (pc := 343) E.1 E.2.1 dX8_spreads_343 rfl (lv_at hl 1 rfl) ?_
  obtain ⟨v2, g1, hf⟩ := x_bind hf
  refine x_iald (pc := 344) E hw 12 rfl g1 dX8_spreads_344 ?_
  refine lv_i2l (v := (Int32.toInt64 v2)) (pc := 345) E.1 E.2.1 dX8_spreads_345 rfl ?_
  refine lv_aload_n (pc := 346) E.1 E.2.1 dX8_spreads_346 rfl (lv_at hl 0 rfl) ?_
  refine xg_X8_48 (pc := 347) (v := .ref (ad 12)) E hw 0 rfl rfl dX8_spreads_347 ?_
  refine lv_iload_n (pc := 350) E.1 E.2.1 dX8_spreads_350 rfl (lv_at hl 1 rfl) ?_
  obtain ⟨v4, g3, hf⟩ := x_bind hf
  refine x_iald (pc := 351) E hw 12 rfl g3 dX8_spreads_351 ?_
  refine lv_i2l (v := (Int32.toInt64 v4)) (pc := 352) E.1 E.2.1 dX8_spreads_352 rfl ?_
  refine lv_aload_n (pc := 353) E.1 E.2.1 dX8_spreads_353 rfl (lv_at hl 0 rfl) ?_
  refine xg_X8_48 (pc := 354) (v := .ref (ad 12)) E hw 0 rfl rfl dX8_spreads_354 ?_
  refine lv_iload_n (pc := 357) E.1 E.2.1 dX8_spreads_357 rfl (lv_at hl 1 rfl) ?_
  obtain ⟨v6, g5, hf⟩ := x_bind hf
  refine x_iald (pc := 358) E hw 12 rfl g5 dX8_spreads_358 ?_
  refine lv_i2l (v := (Int32.toInt64 v6)) (pc := 359) E.1 E.2.1 dX8_spreads_359 rfl ?_
  refine lv_lmul (pc := 360) E.1 E.2.1 dX8_spreads_360 ?_
  refine lv_iload (pc := 361) E.1 E.2.1 dX8_spreads_361 (lv_at hl 2 rfl) ?_
  refine lv_i2l (v := (Int32.toInt64 x8)) (pc := 363) E.1 E.2.1 dX8_spreads_363 rfl ?_
  refine lv_lsub (pc := 364) E.1 E.2.1 dX8_spreads_364 ?_
  obtain ⟨v7, g8, hf⟩ := x_bind hf
  refine x_callVA (pc := 365) (As := [.long (g8_upper s), .long (g8_lower s), .long (Int32.toInt64 v2), .long (((Int32.toInt64 v4) * (Int32.toInt64 v6)) - (Int32.toInt64 x8))]) (rest := []) (st1 := []) (ws' := (cells8 G ad v7)) E hw hl (c_X8_multiplies l G ad s (g8_upper s) (g8_lower s) (Int32.toInt64 v2) (((Int32.toInt64 v4) * (Int32.toInt64 v6)) - (Int32.toInt64 x8)) g8) xv_X8_191 xd_X8_multiplies rfl rfl ⟨Nat.le_of_ble_eq_true rfl, Nat.le_of_ble_eq_true rfl⟩ (q0 := 0) rfl rfl rfl rfl (Nat.le_of_ble_eq_true rfl) rfl rfl dX8_spreads_365 (fun H locs hw => ?_)
  refine lv_aload_n (pc := 368) E.1 E.2.1 dX8_spreads_368 rfl (lv_at hl 0 rfl) ?_
  refine lv_iload_n (pc := 369) E.1 E.2.1 dX8_spreads_369 rfl (lv_at hl 1 rfl) ?_
  refine lv_iconst (v := 1) (pc := 370) E.1 E.2.1 dX8_spreads_370 (by decide) ?_
  obtain ⟨v9, g10, hf⟩ := x_bind hf
  refine x_callVA (pc := 371) (As := [.int x1, .int 1]) (rest := []) (st1 := []) (ws' := (cells8 G ad v9)) E hw hl (c_X8_puts l G ad v7 x1 1 g10) xv_X8_194 xd_X8_puts rfl rfl ⟨Nat.le_of_ble_eq_true rfl, Nat.le_of_ble_eq_true rfl⟩ (q0 := 0) rfl rfl rfl rfl (Nat.le_of_ble_eq_true rfl) rfl rfl dX8_spreads_371 (fun H locs hw => ?_)
  obtain rfl := Option.some.inj hf
  exact x_retv (pc := 374) E hr hk hw dX8_spreads_374
set_option maxHeartbeats 4000000 in
set_option maxRecDepth 100000 in
theorem w_X8_spreads_p49 {p : Program} {l : Launch} {e : Env} {sS : State} {m : MethodId} {args : Array Value} {below : List Frame} {meth : Method} {c : Code} {G : xG} {W0 : va_W} {ad : Nat → Nat}  {k49 : S8 → Int32 → Int32 → Int64 → Int64 → Int32 → Int32 → Int32 → Option (S8)} (E : xE p sS m args c cX8_spreads 14 RX8 G (x_in W0)) (hr : meth.sig.returnType = none) (hk : meth.locks = false) (hk49 : ∀ (s' : S8) (x1' : Int32) (x2' : Int32) (x3' : Int64) (x5' : Int64) (x7' : Int32) (x8' : Int32) (x9' : Int32) (z : S8) {H : Heap} {locs : List Loc} {ls : Array Slot}, xW G (x_in W0) sS.heap (cells8 G ad s') H locs → lv_has ls 14 [(0, .ref (ad 0)), (1, .int x1'), (2, .int x2'), (3, .long x3'), (5, .long x5'), (7, .int x7'), (8, .int x8'), (9, .int x9')] → k49  s' x1' x2' x3' x5' x7' x8' x9' = some z → W p l e (rm_X8_spreads) sS m args below meth c H locs 0 0 (MQ below (xQ G W0 (cells8 G ad z) none) args sS 0 0 (x_in W0)) (F0 m 49 ls [])) : ∀ (s' : S8) (x1' : Int32) (x2' : Int32) (x3' : Int64) (x5' : Int64) (x7' : Int32) (x8' : Int32) (x9' : Int32) (z : S8) {H : Heap} {locs : List Loc} {ls : Array Slot}, xW G (x_in W0) sS.heap (cells8 G ad s') H locs → lv_has ls 14 [(0, .ref (ad 0)), (1, .int x1'), (2, .int x2'), (3, .long x3'), (5, .long x5'), (7, .int x7'), (8, .int x8'), (9, .int x9')] → f_X8_spreads_p49 k49 s' x1' x2' x3' x5' x7' x8' x9' = some z → W p l e (rm_X8_spreads) sS m args below meth c H locs 0 0 (MQ below (xQ G W0 (cells8 G ad z) none) args sS 0 0 (x_in W0)) (F0 m 49 ls []) := by
  intro s x1 x2 x3 x5 x7 x8 x9 z H locs ls hw hl hf
  unfold f_X8_spreads_p49 at hf
  refine lv_iload (pc := 49) E.1 E.2.1 dX8_spreads_49 (lv_at hl 7 rfl) ?_
  refine lv_aload_n (pc := 51) E.1 E.2.1 dX8_spreads_51 rfl (lv_at hl 0 rfl) ?_
  obtain ⟨v1, g2, hf⟩ := x_bind hf
  refine x_callVA (pc := 52) (As := []) (rest := [.int x9]) (st1 := [.int v1, .int x9]) (ws' := (cells8 G ad s)) E hw hl (c_X8_many l G ad s g2) xv_X8_80 xd_X8_many rfl rfl ⟨Nat.le_of_ble_eq_true rfl, Nat.le_of_ble_eq_true rfl⟩ (q0 := 0) rfl rfl rfl rfl (Nat.le_of_ble_eq_true rfl) rfl rfl dX8_spreads_52 (fun H locs hw => ?_)
  refine lv_icmp_ge (tgt := 152) (pc := 55) E.1 E.2.1 dX8_spreads_55 (by decide) (fun q3 => ?_) (fun q3 => ?_)
  · have hf := x_pos q3 hf
    refine lv_aload_n (pc := 152) E.1 E.2.1 dX8_spreads_152 rfl (lv_at hl 0 rfl) ?_
    refine xg_X8_48 (pc := 153) (v := .ref (ad 12)) E hw 0 rfl rfl dX8_spreads_153 ?_
    refine lv_iload_n (pc := 156) E.1 E.2.1 dX8_spreads_156 rfl (lv_at hl 1 rfl) ?_
    obtain ⟨v5, g4, hf⟩ := x_bind hf
    refine x_iald (pc := 157) E hw 12 rfl g4 dX8_spreads_157 ?_
    refine lv_aload_n (pc := 158) E.1 E.2.1 dX8_spreads_158 rfl (lv_at hl 0 rfl) ?_
    refine xg_X8_45 (pc := 159) (v := .ref (ad 11)) E hw 0 rfl rfl dX8_spreads_159 ?_
    refine lv_iload_n (pc := 162) E.1 E.2.1 dX8_spreads_162 rfl (lv_at hl 1 rfl) ?_
    obtain ⟨v7, g6, hf⟩ := x_bind hf
    refine x_iald (pc := 163) E hw 11 rfl g6 dX8_spreads_163 ?_
    refine lv_isub (pc := 164) E.1 E.2.1 dX8_spreads_164 ?_
    refine lv_istore (lv' := [(9, .int (v5 - v7)), (0, .ref (ad 0)), (1, .int x1), (2, .int x2), (3, .long x3), (5, .long x5), (7, .int x7), (8, .int x8)]) (pc := 165) E.1 E.2.1 dX8_spreads_165 hl (by decide) rfl (fun ls hl => ?_)
    refine lv_iload (pc := 167) E.1 E.2.1 dX8_spreads_167 (lv_at hl 0 rfl) ?_
    refine lv_if_ne (tgt := 173) (pc := 169) E.1 E.2.1 dX8_spreads_169 (by decide) (fun q8 => ?_) (fun q8 => ?_)
    · have hf := x_neg q8 hf
      refine lv_aload_n (pc := 173) E.1 E.2.1 dX8_spreads_173 rfl (lv_at hl 1 rfl) ?_
      refine lv_iload (pc := 174) E.1 E.2.1 dX8_spreads_174 (lv_at hl 6 rfl) ?_
      refine lv_i2l (v := (Int32.toInt64 x7)) (pc := 176) E.1 E.2.1 dX8_spreads_176 rfl ?_
      refine lv_lconst (v := 1) (pc := 177) E.1 E.2.1 dX8_spreads_177 (by decide) ?_
      refine lv_lload_n (pc := 178) E.1 E.2.1 dX8_spreads_178 rfl (lv_at hl 4 rfl) ?_
      refine lv_lneg (pc := 179) E.1 E.2.1 dX8_spreads_179 ?_
      refine lv_lload (pc := 180) E.1 E.2.1 dX8_spreads_180 (lv_at hl 5 rfl) ?_
      obtain ⟨v9, g10, hf⟩ := x_bind hf
      refine x_callVA (pc := 182) (As := [.long (Int32.toInt64 x7), .long 1, .long (-x3), .long x5]) (rest := []) (st1 := []) (ws' := (cells8 G ad v9)) E hw hl (c_X8_adds l G ad s (Int32.toInt64 x7) 1 (-x3) x5 g10) xv_X8_187 xd_X8_adds rfl rfl ⟨Nat.le_of_ble_eq_true rfl, Nat.le_of_ble_eq_true rfl⟩ (q0 := 0) rfl rfl rfl rfl (Nat.le_of_ble_eq_true rfl) rfl rfl dX8_spreads_182 (fun H locs hw => ?_)
      refine lv_aload_n (pc := 185) E.1 E.2.1 dX8_spreads_185 rfl (lv_at hl 1 rfl) ?_
      refine lv_aload_n (pc := 186) E.1 E.2.1 dX8_spreads_186 rfl (lv_at hl 1 rfl) ?_
      refine xg_X8_161 (pc := 187) (v := .long (g8_upper v9)) E hw 0 rfl rfl dX8_spreads_187 ?_
      refine lv_aload_n (pc := 190) E.1 E.2.1 dX8_spreads_190 rfl (lv_at hl 1 rfl) ?_
      refine xg_X8_165 (pc := 191) (v := .long (g8_lower v9)) E hw 0 rfl rfl dX8_spreads_191 ?_
      refine lv_lconst (v := 1) (pc := 194) E.1 E.2.1 dX8_spreads_194 (by decide) ?_
      refine lv_iload (pc := 195) E.1 E.2.1 dX8_spreads_195 (lv_at hl 0 rfl) ?_
      refine lv_i2l (v := (Int32.toInt64 (v5 - v7))) (pc := 197) E.1 E.2.1 dX8_spreads_197 rfl ?_
      obtain ⟨v11, g12, hf⟩ := x_bind hf
      refine x_callVA (pc := 198) (As := [.long (g8_upper v9), .long (g8_lower v9), .long 1, .long (Int32.toInt64 (v5 - v7))]) (rest := []) (st1 := []) (ws' := (cells8 G ad v11)) E hw hl (c_X8_multiplies l G ad v9 (g8_upper v9) (g8_lower v9) 1 (Int32.toInt64 (v5 - v7)) g12) xv_X8_191 xd_X8_multiplies rfl rfl ⟨Nat.le_of_ble_eq_true rfl, Nat.le_of_ble_eq_true rfl⟩ (q0 := 0) rfl rfl rfl rfl (Nat.le_of_ble_eq_true rfl) rfl rfl dX8_spreads_198 (fun H locs hw => ?_)
      refine lv_aload_n (pc := 201) E.1 E.2.1 dX8_spreads_201 rfl (lv_at hl 1 rfl) ?_
      refine lv_iload_n (pc := 202) E.1 E.2.1 dX8_spreads_202 rfl (lv_at hl 2 rfl) ?_
      refine lv_iconst (v := 0) (pc := 203) E.1 E.2.1 dX8_spreads_203 (by decide) ?_
      obtain ⟨v13, g14, hf⟩ := x_bind hf
      refine x_callVA (pc := 204) (As := [.int x1, .int 0]) (rest := []) (st1 := []) (ws' := (cells8 G ad v13)) E hw hl (c_X8_puts l G ad v11 x1 0 g14) xv_X8_194 xd_X8_puts rfl rfl ⟨Nat.le_of_ble_eq_true rfl, Nat.le_of_ble_eq_true rfl⟩ (q0 := 0) rfl rfl rfl rfl (Nat.le_of_ble_eq_true rfl) rfl rfl dX8_spreads_204 (fun H locs hw => ?_)
      refine lv_aload_n (pc := 207) E.1 E.2.1 dX8_spreads_207 rfl (lv_at hl 1 rfl) ?_
      refine xg_X8_45 (pc := 208) (v := .ref (ad 11)) E hw 0 rfl rfl dX8_spreads_208 ?_
      refine lv_iload_n (pc := 211) E.1 E.2.1 dX8_spreads_211 rfl (lv_at hl 2 rfl) ?_
      obtain ⟨v16, g15, hf⟩ := x_bind hf
      refine x_iald (pc := 212) E hw 11 rfl g15 dX8_spreads_212 ?_
      refine lv_iconst (v := 2) (pc := 213) E.1 E.2.1 dX8_spreads_213 (by decide) ?_
      refine lv_icmp_ge (tgt := 218) (pc := 214) E.1 E.2.1 dX8_spreads_214 (by decide) (fun q17 => ?_) (fun q17 => ?_)
      · have hf := x_pos q17 hf
        refine lv_aload_n (pc := 218) E.1 E.2.1 dX8_spreads_218 rfl (lv_at hl 1 rfl) ?_
        refine lv_aload_n (pc := 219) E.1 E.2.1 dX8_spreads_219 rfl (lv_at hl 1 rfl) ?_
        refine xg_X8_57 (pc := 220) (v := .ref (ad 15)) E hw 0 rfl rfl dX8_spreads_220 ?_
        refine lv_iload_n (pc := 223) E.1 E.2.1 dX8_spreads_223 rfl (lv_at hl 3 rfl) ?_
        obtain ⟨v19, g18, hf⟩ := x_bind hf
        refine x_lald (pc := 224) E hw 15 rfl g18 dX8_spreads_224 ?_
        refine lv_aload_n (pc := 225) E.1 E.2.1 dX8_spreads_225 rfl (lv_at hl 1 rfl) ?_
        refine xg_X8_60 (pc := 226) (v := .ref (ad 16)) E hw 0 rfl rfl dX8_spreads_226 ?_
        refine lv_iload_n (pc := 229) E.1 E.2.1 dX8_spreads_229 rfl (lv_at hl 3 rfl) ?_
        obtain ⟨v21, g20, hf⟩ := x_bind hf
        refine x_lald (pc := 230) E hw 16 rfl g20 dX8_spreads_230 ?_
        refine lv_aload_n (pc := 231) E.1 E.2.1 dX8_spreads_231 rfl (lv_at hl 1 rfl) ?_
        refine xg_X8_45 (pc := 232) (v := .ref (ad 11)) E hw 0 rfl rfl dX8_spreads_232 ?_
        refine lv_iload_n (pc := 235) E.1 E.2.1 dX8_spreads_235 rfl (lv_at hl 2 rfl) ?_
        obtain ⟨v23, g22, hf⟩ := x_bind hf
        refine x_iald (pc := 236) E hw 11 rfl g22 dX8_spreads_236 ?_
        refine lv_i2l (v := (Int32.toInt64 v23)) (pc := 237) E.1 E.2.1 dX8_spreads_237 rfl ?_
        refine lv_lconst (v := 1) (pc := 238) E.1 E.2.1 dX8_spreads_238 (by decide) ?_
        refine lv_lsub (pc := 239) E.1 E.2.1 dX8_spreads_239 ?_
        refine lv_lconst (v := 1) (pc := 240) E.1 E.2.1 dX8_spreads_240 (by decide) ?_
        obtain ⟨v24, g25, hf⟩ := x_bind hf
        refine x_callVA (pc := 241) (As := [.long v19, .long v21, .long ((Int32.toInt64 v23) - 1), .long 1]) (rest := []) (st1 := []) (ws' := (cells8 G ad v24)) E hw hl (c_X8_multiplies l G ad v13 v19 v21 ((Int32.toInt64 v23) - 1) 1 g25) xv_X8_191 xd_X8_multiplies rfl rfl ⟨Nat.le_of_ble_eq_true rfl, Nat.le_of_ble_eq_true rfl⟩ (q0 := 0) rfl rfl rfl rfl (Nat.le_of_ble_eq_true rfl) rfl rfl dX8_spreads_241 (fun H locs hw => ?_)
        refine lv_aload_n (pc := 244) E.1 E.2.1 dX8_spreads_244 rfl (lv_at hl 1 rfl) ?_
        refine lv_lload_n (pc := 245) E.1 E.2.1 dX8_spreads_245 rfl (lv_at hl 4 rfl) ?_
        refine lv_lload (pc := 246) E.1 E.2.1 dX8_spreads_246 (lv_at hl 5 rfl) ?_
        refine lv_aload_n (pc := 248) E.1 E.2.1 dX8_spreads_248 rfl (lv_at hl 1 rfl) ?_
        refine xg_X8_161 (pc := 249) (v := .long (g8_upper v24)) E hw 0 rfl rfl dX8_spreads_249 ?_
        refine lv_lneg (pc := 252) E.1 E.2.1 dX8_spreads_252 ?_
        refine lv_aload_n (pc := 253) E.1 E.2.1 dX8_spreads_253 rfl (lv_at hl 1 rfl) ?_
        refine xg_X8_165 (pc := 254) (v := .long (g8_lower v24)) E hw 0 rfl rfl dX8_spreads_254 ?_
        obtain ⟨v26, g27, hf⟩ := x_bind hf
        refine x_callVA (pc := 257) (As := [.long x3, .long x5, .long (-(g8_upper v24)), .long (g8_lower v24)]) (rest := []) (st1 := []) (ws' := (cells8 G ad v26)) E hw hl (c_X8_adds l G ad v24 x3 x5 (-(g8_upper v24)) (g8_lower v24) g27) xv_X8_187 xd_X8_adds rfl rfl ⟨Nat.le_of_ble_eq_true rfl, Nat.le_of_ble_eq_true rfl⟩ (q0 := 0) rfl rfl rfl rfl (Nat.le_of_ble_eq_true rfl) rfl rfl dX8_spreads_257 (fun H locs hw => ?_)
        refine lv_aload_n (pc := 260) E.1 E.2.1 dX8_spreads_260 rfl (lv_at hl 1 rfl) ?_
        refine xg_X8_161 (pc := 261) (v := .long (g8_upper v26)) E hw 0 rfl rfl dX8_spreads_261 ?_
        refine lv_lstore (lv' := [(10, .long (g8_upper v26)), (9, .int (v5 - v7)), (0, .ref (ad 0)), (1, .int x1), (2, .int x2), (3, .long x3), (5, .long x5), (7, .int x7), (8, .int x8)]) (pc := 264) E.1 E.2.1 dX8_spreads_264 hl (by decide) rfl (fun ls hl => ?_)
        refine lv_aload_n (pc := 266) E.1 E.2.1 dX8_spreads_266 rfl (lv_at hl 2 rfl) ?_
        refine xg_X8_165 (pc := 267) (v := .long (g8_lower v26)) E hw 0 rfl rfl dX8_spreads_267 ?_
        refine lv_lstore (lv' := [(12, .long (g8_lower v26)), (10, .long (g8_upper v26)), (9, .int (v5 - v7)), (0, .ref (ad 0)), (1, .int x1), (2, .int x2), (3, .long x3), (5, .long x5), (7, .int x7), (8, .int x8)]) (pc := 270) E.1 E.2.1 dX8_spreads_270 hl (by decide) rfl (fun ls hl => ?_)
        refine lv_aload_n (pc := 272) E.1 E.2.1 dX8_spreads_272 rfl (lv_at hl 3 rfl) ?_
        refine lv_aload_n (pc := 273) E.1 E.2.1 dX8_spreads_273 rfl (lv_at hl 3 rfl) ?_
        refine xg_X8_51 (pc := 274) (v := .ref (ad 13)) E hw 0 rfl rfl dX8_spreads_274 ?_
        refine lv_iload_n (pc := 277) E.1 E.2.1 dX8_spreads_277 rfl (lv_at hl 4 rfl) ?_
        obtain ⟨v29, g28, hf⟩ := x_bind hf
        refine x_iald (pc := 278) E hw 13 rfl g28 dX8_spreads_278 ?_
        refine lv_i2l (v := (Int32.toInt64 v29)) (pc := 279) E.1 E.2.1 dX8_spreads_279 rfl ?_
        refine lv_aload_n (pc := 280) E.1 E.2.1 dX8_spreads_280 rfl (lv_at hl 3 rfl) ?_
        refine xg_X8_51 (pc := 281) (v := .ref (ad 13)) E hw 0 rfl rfl dX8_spreads_281 ?_
        refine lv_iload_n (pc := 284) E.1 E.2.1 dX8_spreads_284 rfl (lv_at hl 4 rfl) ?_
        obtain ⟨v31, g30, hf⟩ := x_bind hf
        refine x_iald (pc := 285) E hw 13 rfl g30 dX8_spreads_285 ?_
        refine lv_i2l (v := (Int32.toInt64 v31)) (pc := 286) E.1 E.2.1 dX8_spreads_286 rfl ?_
        refine lv_lmul (pc := 287) E.1 E.2.1 dX8_spreads_287 ?_
        refine lv_aload_n (pc := 288) E.1 E.2.1 dX8_spreads_288 rfl (lv_at hl 3 rfl) ?_
        refine xg_X8_48 (pc := 289) (v := .ref (ad 12)) E hw 0 rfl rfl dX8_spreads_289 ?_
        refine lv_iload_n (pc := 292) E.1 E.2.1 dX8_spreads_292 rfl (lv_at hl 4 rfl) ?_
        obtain ⟨v33, g32, hf⟩ := x_bind hf
        refine x_iald (pc := 293) E hw 12 rfl g32 dX8_spreads_293 ?_
        refine lv_i2l (v := (Int32.toInt64 v33)) (pc := 294) E.1 E.2.1 dX8_spreads_294 rfl ?_
        obtain ⟨v34, g35, hf⟩ := x_bind hf
        refine x_callVA (pc := 295) (As := [.long ((Int32.toInt64 v29) * (Int32.toInt64 v31)), .long (Int32.toInt64 v33)]) (rest := []) (st1 := []) (ws' := (cells8 G ad v34)) E hw hl (c_X8_is l G ad v26 ((Int32.toInt64 v29) * (Int32.toInt64 v31)) (Int32.toInt64 v33) g35) xv_X8_168 xd_X8_is rfl rfl ⟨Nat.le_of_ble_eq_true rfl, Nat.le_of_ble_eq_true rfl⟩ (q0 := 0) rfl rfl rfl rfl (Nat.le_of_ble_eq_true rfl) rfl rfl dX8_spreads_295 (fun H locs hw => ?_)
        refine lv_aload_n (pc := 298) E.1 E.2.1 dX8_spreads_298 rfl (lv_at hl 3 rfl) ?_
        refine lv_lload (pc := 299) E.1 E.2.1 dX8_spreads_299 (lv_at hl 1 rfl) ?_
        refine lv_lload (pc := 301) E.1 E.2.1 dX8_spreads_301 (lv_at hl 0 rfl) ?_
        refine lv_aload_n (pc := 303) E.1 E.2.1 dX8_spreads_303 rfl (lv_at hl 3 rfl) ?_
        refine xg_X8_161 (pc := 304) (v := .long (g8_upper v34)) E hw 0 rfl rfl dX8_spreads_304 ?_
        refine lv_lneg (pc := 307) E.1 E.2.1 dX8_spreads_307 ?_
        refine lv_aload_n (pc := 308) E.1 E.2.1 dX8_spreads_308 rfl (lv_at hl 3 rfl) ?_
        refine xg_X8_165 (pc := 309) (v := .long (g8_lower v34)) E hw 0 rfl rfl dX8_spreads_309 ?_
        obtain ⟨v36, g37, hf⟩ := x_bind hf
        refine x_callVA (pc := 312) (As := [.long (g8_upper v26), .long (g8_lower v26), .long (-(g8_upper v34)), .long (g8_lower v34)]) (rest := []) (st1 := []) (ws' := (cells8 G ad v36)) E hw hl (c_X8_adds l G ad v34 (g8_upper v26) (g8_lower v26) (-(g8_upper v34)) (g8_lower v34) g37) xv_X8_187 xd_X8_adds rfl rfl ⟨Nat.le_of_ble_eq_true rfl, Nat.le_of_ble_eq_true rfl⟩ (q0 := 0) rfl rfl rfl rfl (Nat.le_of_ble_eq_true rfl) rfl rfl dX8_spreads_312 (fun H locs hw => ?_)
        refine lv_aload_n (pc := 315) E.1 E.2.1 dX8_spreads_315 rfl (lv_at hl 3 rfl) ?_
        refine xg_X8_161 (pc := 316) (v := .long (g8_upper v36)) E hw 0 rfl rfl dX8_spreads_316 ?_
        refine lv_lconst (v := 0) (pc := 319) E.1 E.2.1 dX8_spreads_319 (by decide) ?_
        refine W.lcmp (pc := 320) E.1 E.2.1 dX8_spreads_320 ?_
        refine lv_if_gt (tgt := 330) (pc := 321) E.1 E.2.1 dX8_spreads_321 (by decide) (fun q38 => ?_) (fun q38 => ?_)
        · have hf := x_pos q38 hf
          exact w_X8_spreads_p330 E hr hk  v36 x1 x8 z hw (lv_sub hl [3, 4, 9] rfl) hf
        · have hf := x_neg q38 hf
          refine lv_aload_n (pc := 324) E.1 E.2.1 dX8_spreads_324 rfl (lv_at hl 3 rfl) ?_
          refine lv_lconst (v := 0) (pc := 325) E.1 E.2.1 dX8_spreads_325 (by decide) ?_
          refine lv_lconst (v := 1) (pc := 326) E.1 E.2.1 dX8_spreads_326 (by decide) ?_
          obtain ⟨v39, g40, hf⟩ := x_bind hf
          refine x_callVA (pc := 327) (As := [.long 0, .long 1]) (rest := []) (st1 := []) (ws' := (cells8 G ad v39)) E hw hl (c_X8_is l G ad v36 0 1 g40) xv_X8_168 xd_X8_is rfl rfl ⟨Nat.le_of_ble_eq_true rfl, Nat.le_of_ble_eq_true rfl⟩ (q0 := 0) rfl rfl rfl rfl (Nat.le_of_ble_eq_true rfl) rfl rfl dX8_spreads_327 (fun H locs hw => ?_)
          exact w_X8_spreads_p330 E hr hk  v39 x1 x8 z hw (lv_sub hl [3, 4, 9] rfl) hf
      · have hf := x_neg q17 hf
        obtain rfl := Option.some.inj hf
        exact x_retv (pc := 217) E hr hk hw dX8_spreads_217
    · have hf := x_pos q8 hf
      obtain rfl := Option.some.inj hf
      exact x_retv (pc := 172) E hr hk hw dX8_spreads_172
  · have hf := x_neg q3 hf
    refine lv_aload_n (pc := 58) E.1 E.2.1 dX8_spreads_58 rfl (lv_at hl 0 rfl) ?_
    refine lv_iload (pc := 59) E.1 E.2.1 dX8_spreads_59 (lv_at hl 7 rfl) ?_
    refine lv_iload_n (pc := 61) E.1 E.2.1 dX8_spreads_61 rfl (lv_at hl 1 rfl) ?_
    obtain ⟨v41, g42, hf⟩ := x_bind hf
    refine x_callVA (pc := 62) (As := [.int x9, .int x1]) (rest := []) (st1 := [.int v41]) (ws' := (cells8 G ad s)) E hw hl (c_X8_isIn l G ad s x9 x1 g42) xv_X8_184 xd_X8_isIn rfl rfl ⟨Nat.le_of_ble_eq_true rfl, Nat.le_of_ble_eq_true rfl⟩ (q0 := 0) rfl rfl rfl rfl (Nat.le_of_ble_eq_true rfl) rfl rfl dX8_spreads_62 (fun H locs hw => ?_)
    refine lv_if_ne (tgt := 71) (pc := 65) E.1 E.2.1 dX8_spreads_65 (by decide) (fun q43 => ?_) (fun q43 => ?_)
    · have hf := x_neg q43 hf
      refine lv_aload_n (pc := 71) E.1 E.2.1 dX8_spreads_71 rfl (lv_at hl 0 rfl) ?_
      refine lv_lload_n (pc := 72) E.1 E.2.1 dX8_spreads_72 rfl (lv_at hl 3 rfl) ?_
      refine lv_lload (pc := 73) E.1 E.2.1 dX8_spreads_73 (lv_at hl 4 rfl) ?_
      refine lv_aload_n (pc := 75) E.1 E.2.1 dX8_spreads_75 rfl (lv_at hl 0 rfl) ?_
      refine xg_X8_29 (pc := 76) (v := .ref (ad 6)) E hw 0 rfl rfl dX8_spreads_76 ?_
      refine lv_iload (pc := 79) E.1 E.2.1 dX8_spreads_79 (lv_at hl 7 rfl) ?_
      obtain ⟨v45, g44, hf⟩ := x_bind hf
      refine x_iald (pc := 81) E hw 6 rfl g44 dX8_spreads_81 ?_
      refine lv_i2l (v := (Int32.toInt64 v45)) (pc := 82) E.1 E.2.1 dX8_spreads_82 rfl ?_
      refine lv_aload_n (pc := 83) E.1 E.2.1 dX8_spreads_83 rfl (lv_at hl 0 rfl) ?_
      refine xg_X8_29 (pc := 84) (v := .ref (ad 6)) E hw 0 rfl rfl dX8_spreads_84 ?_
      refine lv_iload (pc := 87) E.1 E.2.1 dX8_spreads_87 (lv_at hl 7 rfl) ?_
      obtain ⟨v47, g46, hf⟩ := x_bind hf
      refine x_iald (pc := 89) E hw 6 rfl g46 dX8_spreads_89 ?_
      refine lv_i2l (v := (Int32.toInt64 v47)) (pc := 90) E.1 E.2.1 dX8_spreads_90 rfl ?_
      refine lv_lmul (pc := 91) E.1 E.2.1 dX8_spreads_91 ?_
      refine lv_aload_n (pc := 92) E.1 E.2.1 dX8_spreads_92 rfl (lv_at hl 0 rfl) ?_
      refine xg_X8_26 (pc := 93) (v := .ref (ad 5)) E hw 0 rfl rfl dX8_spreads_93 ?_
      refine lv_iload (pc := 96) E.1 E.2.1 dX8_spreads_96 (lv_at hl 7 rfl) ?_
      obtain ⟨v49, g48, hf⟩ := x_bind hf
      refine x_iald (pc := 98) E hw 5 rfl g48 dX8_spreads_98 ?_
      refine lv_i2l (v := (Int32.toInt64 v49)) (pc := 99) E.1 E.2.1 dX8_spreads_99 rfl ?_
      obtain ⟨v50, g51, hf⟩ := x_bind hf
      refine x_callVA (pc := 100) (As := [.long x3, .long x5, .long ((Int32.toInt64 v45) * (Int32.toInt64 v47)), .long (Int32.toInt64 v49)]) (rest := []) (st1 := []) (ws' := (cells8 G ad v50)) E hw hl (c_X8_adds l G ad s x3 x5 ((Int32.toInt64 v45) * (Int32.toInt64 v47)) (Int32.toInt64 v49) g51) xv_X8_187 xd_X8_adds rfl rfl ⟨Nat.le_of_ble_eq_true rfl, Nat.le_of_ble_eq_true rfl⟩ (q0 := 0) rfl rfl rfl rfl (Nat.le_of_ble_eq_true rfl) rfl rfl dX8_spreads_100 (fun H locs hw => ?_)
      refine lv_aload_n (pc := 103) E.1 E.2.1 dX8_spreads_103 rfl (lv_at hl 0 rfl) ?_
      refine xg_X8_161 (pc := 104) (v := .long (g8_upper v50)) E hw 0 rfl rfl dX8_spreads_104 ?_
      refine lv_lstore_n (lv' := [(3, .long (g8_upper v50)), (0, .ref (ad 0)), (1, .int x1), (2, .int x2), (5, .long x5), (7, .int x7), (8, .int x8), (9, .int x9)]) (pc := 107) E.1 E.2.1 dX8_spreads_107 rfl hl (by decide) rfl (fun ls hl => ?_)
      refine lv_aload_n (pc := 108) E.1 E.2.1 dX8_spreads_108 rfl (lv_at hl 1 rfl) ?_
      refine xg_X8_165 (pc := 109) (v := .long (g8_lower v50)) E hw 0 rfl rfl dX8_spreads_109 ?_
      refine lv_lstore (lv' := [(5, .long (g8_lower v50)), (3, .long (g8_upper v50)), (0, .ref (ad 0)), (1, .int x1), (2, .int x2), (7, .int x7), (8, .int x8), (9, .int x9)]) (pc := 112) E.1 E.2.1 dX8_spreads_112 hl (by decide) rfl (fun ls hl => ?_)
      refine lv_iload (pc := 114) E.1 E.2.1 dX8_spreads_114 (lv_at hl 5 rfl) ?_
      refine lv_aload_n (pc := 116) E.1 E.2.1 dX8_spreads_116 rfl (lv_at hl 2 rfl) ?_
      refine xg_X8_32 (pc := 117) (v := .ref (ad 7)) E hw 0 rfl rfl dX8_spreads_117 ?_
      refine lv_iload (pc := 120) E.1 E.2.1 dX8_spreads_120 (lv_at hl 7 rfl) ?_
      obtain ⟨v53, g52, hf⟩ := x_bind hf
      refine x_iald (pc := 122) E hw 7 rfl g52 dX8_spreads_122 ?_
      refine lv_iadd (pc := 123) E.1 E.2.1 dX8_spreads_123 ?_
      refine lv_istore (lv' := [(7, .int (x7 + v53)), (5, .long (g8_lower v50)), (3, .long (g8_upper v50)), (0, .ref (ad 0)), (1, .int x1), (2, .int x2), (8, .int x8), (9, .int x9)]) (pc := 124) E.1 E.2.1 dX8_spreads_124 hl (by decide) rfl (fun ls hl => ?_)
      refine lv_iload (pc := 126) E.1 E.2.1 dX8_spreads_126 (lv_at hl 6 rfl) ?_
      refine lv_aload_n (pc := 128) E.1 E.2.1 dX8_spreads_128 rfl (lv_at hl 3 rfl) ?_
      refine xg_X8_26 (pc := 129) (v := .ref (ad 5)) E hw 0 rfl rfl dX8_spreads_129 ?_
      refine lv_iload (pc := 132) E.1 E.2.1 dX8_spreads_132 (lv_at hl 7 rfl) ?_
      obtain ⟨v55, g54, hf⟩ := x_bind hf
      refine x_iald (pc := 134) E hw 5 rfl g54 dX8_spreads_134 ?_
      refine lv_aload_n (pc := 135) E.1 E.2.1 dX8_spreads_135 rfl (lv_at hl 3 rfl) ?_
      refine xg_X8_26 (pc := 136) (v := .ref (ad 5)) E hw 0 rfl rfl dX8_spreads_136 ?_
      refine lv_iload (pc := 139) E.1 E.2.1 dX8_spreads_139 (lv_at hl 7 rfl) ?_
      obtain ⟨v57, g56, hf⟩ := x_bind hf
      refine x_iald (pc := 141) E hw 5 rfl g56 dX8_spreads_141 ?_
      refine lv_imul (pc := 142) E.1 E.2.1 dX8_spreads_142 ?_
      refine lv_iadd (pc := 143) E.1 E.2.1 dX8_spreads_143 ?_
      refine lv_istore (lv' := [(8, .int (x8 + (v55 * v57))), (7, .int (x7 + v53)), (5, .long (g8_lower v50)), (3, .long (g8_upper v50)), (0, .ref (ad 0)), (1, .int x1), (2, .int x2), (9, .int x9)]) (pc := 144) E.1 E.2.1 dX8_spreads_144 hl (by decide) rfl (fun ls hl => ?_)
      refine lv_iinc (v := (x9 + 1)) (lv' := [(9, .int (x9 + 1)), (8, .int (x8 + (v55 * v57))), (7, .int (x7 + v53)), (5, .long (g8_lower v50)), (3, .long (g8_upper v50)), (0, .ref (ad 0)), (1, .int x1), (2, .int x2)]) (pc := 146) E.1 E.2.1 dX8_spreads_146 hl (k := 7) rfl rfl (by decide) rfl (fun ls hl => ?_)
      refine lv_goto (tgt := 49) (pc := 149) E.1 E.2.1 dX8_spreads_149 (by decide) ?_
      exact hk49 v50 x1 x2 (g8_upper v50) (g8_lower v50) (x7 + v53) (x8 + (v55 * v57)) (x9 + 1) z hw (lv_sub hl [5, 6, 7, 4, 3, 2, 1, 0] rfl) hf
    · have hf := x_pos q43 hf
      refine lv_goto (tgt := 146) (pc := 68) E.1 E.2.1 dX8_spreads_68 (by decide) ?_
      refine lv_iinc (v := (x9 + 1)) (lv' := [(9, .int (x9 + 1)), (0, .ref (ad 0)), (1, .int x1), (2, .int x2), (3, .long x3), (5, .long x5), (7, .int x7), (8, .int x8)]) (pc := 146) E.1 E.2.1 dX8_spreads_146 hl (k := 7) rfl rfl (by decide) rfl (fun ls hl => ?_)
      refine lv_goto (tgt := 49) (pc := 149) E.1 E.2.1 dX8_spreads_149 (by decide) ?_
      exact hk49 s x1 x2 x3 x5 x7 x8 (x9 + 1) z hw (lv_sub hl [1, 2, 3, 4, 5, 6, 7, 0] rfl) hf
set_option maxHeartbeats 4000000 in
set_option maxRecDepth 100000 in
theorem wl_X8_spreads_p49 {p : Program} {l : Launch} {e : Env} {sS : State} {m : MethodId} {args : Array Value} {below : List Frame} {meth : Method} {c : Code} {G : xG} {W0 : va_W} {ad : Nat → Nat}   (E : xE p sS m args c cX8_spreads 14 RX8 G (x_in W0)) (hr : meth.sig.returnType = none) (hk : meth.locks = false)  : ∀ (s' : S8) (x1' : Int32) (x2' : Int32) (x3' : Int64) (x5' : Int64) (x7' : Int32) (x8' : Int32) (x9' : Int32) (z : S8) {H : Heap} {locs : List Loc} {ls : Array Slot}, xW G (x_in W0) sS.heap (cells8 G ad s') H locs → lv_has ls 14 [(0, .ref (ad 0)), (1, .int x1'), (2, .int x2'), (3, .long x3'), (5, .long x5'), (7, .int x7'), (8, .int x8'), (9, .int x9')] → lp_X8_spreads_p49  s' x1' x2' x3' x5' x7' x8' x9' = some z → W p l e (rm_X8_spreads) sS m args below meth c H locs 0 0 (MQ below (xQ G W0 (cells8 G ad z) none) args sS 0 0 (x_in W0)) (F0 m 49 ls []) := by
  intro s x1 x2 x3 x5 x7 x8 x9 z H locs ls hw hl hf
  exact x_loop_W (P := fun (q : S8 × Int32 × Int32 × Int64 × Int64 × Int32 × Int32 × Int32) (z : S8) => ∀ {H : Heap} {locs : List Loc} {ls : Array Slot}, xW G (x_in W0) sS.heap (cells8 G ad q.1) H locs → lv_has ls 14 [(0, .ref (ad 0)), (1, .int q.2.1), (2, .int q.2.2.1), (3, .long q.2.2.2.1), (5, .long q.2.2.2.2.1), (7, .int q.2.2.2.2.2.1), (8, .int q.2.2.2.2.2.2.1), (9, .int q.2.2.2.2.2.2.2)] → W p l e (rm_X8_spreads) sS m args below meth c H locs 0 0 (MQ below (xQ G W0 (cells8 G ad z) none) args sS 0 0 (x_in W0)) (F0 m 49 ls [])) (fun k hkk q z hf H locs ls hw hl => w_X8_spreads_p49 E hr hk  (fun s x1 x2 x3 x5 x7 x8 x9 z H locs ls hw hl hf => hkk (s, x1, x2, x3, x5, x7, x8, x9) z hf hw hl) q.1 q.2.1 q.2.2.1 q.2.2.2.1 q.2.2.2.2.1 q.2.2.2.2.2.1 q.2.2.2.2.2.2.1 q.2.2.2.2.2.2.2 z hw hl hf) FU (s, x1, x2, x3, x5, x7, x8, x9) z hf hw hl
set_option maxHeartbeats 4000000 in
set_option maxRecDepth 100000 in
theorem w_X8_spreads_p6 {p : Program} {l : Launch} {e : Env} {sS : State} {m : MethodId} {args : Array Value} {below : List Frame} {meth : Method} {c : Code} {G : xG} {W0 : va_W} {ad : Nat → Nat}  {k6 : S8 → Int32 → Int32 → Int32 → Option (S8)} (E : xE p sS m args c cX8_spreads 14 RX8 G (x_in W0)) (hr : meth.sig.returnType = none) (hk : meth.locks = false) (hk6 : ∀ (s' : S8) (x1' : Int32) (x2' : Int32) (x3' : Int32) (z : S8) {H : Heap} {locs : List Loc} {ls : Array Slot}, xW G (x_in W0) sS.heap (cells8 G ad s') H locs → lv_has ls 14 [(0, .ref (ad 0)), (1, .int x1'), (2, .int x2'), (3, .int x3')] → k6  s' x1' x2' x3' = some z → W p l e (rm_X8_spreads) sS m args below meth c H locs 0 0 (MQ below (xQ G W0 (cells8 G ad z) none) args sS 0 0 (x_in W0)) (F0 m 6 ls [])) : ∀ (s' : S8) (x1' : Int32) (x2' : Int32) (x3' : Int32) (z : S8) {H : Heap} {locs : List Loc} {ls : Array Slot}, xW G (x_in W0) sS.heap (cells8 G ad s') H locs → lv_has ls 14 [(0, .ref (ad 0)), (1, .int x1'), (2, .int x2'), (3, .int x3')] → f_X8_spreads_p6 k6 s' x1' x2' x3' = some z → W p l e (rm_X8_spreads) sS m args below meth c H locs 0 0 (MQ below (xQ G W0 (cells8 G ad z) none) args sS 0 0 (x_in W0)) (F0 m 6 ls []) := by
  intro s x1 x2 x3 z H locs ls hw hl hf
  unfold f_X8_spreads_p6 at hf
  refine lv_iload_n (pc := 6) E.1 E.2.1 dX8_spreads_6 rfl (lv_at hl 3 rfl) ?_
  refine lv_iconst (v := 5) (pc := 7) E.1 E.2.1 dX8_spreads_7 (by decide) ?_
  refine lv_icmp_ge (tgt := 35) (pc := 8) E.1 E.2.1 dX8_spreads_8 (by decide) (fun q1 => ?_) (fun q1 => ?_)
  · have hf := x_pos q1 hf
    refine lv_lconst (v := 0) (pc := 35) E.1 E.2.1 dX8_spreads_35 (by decide) ?_
    refine lv_lstore_n (lv' := [(3, .long 0), (0, .ref (ad 0)), (1, .int x1), (2, .int x2)]) (pc := 36) E.1 E.2.1 dX8_spreads_36 rfl hl (by decide) rfl (fun ls hl => ?_)
    refine lv_lconst (v := 1) (pc := 37) E.1 E.2.1 dX8_spreads_37 (by decide) ?_
    refine lv_lstore (lv' := [(5, .long 1), (3, .long 0), (0, .ref (ad 0)), (1, .int x1), (2, .int x2)]) (pc := 38) E.1 E.2.1 dX8_spreads_38 hl (by decide) rfl (fun ls hl => ?_)
    refine lv_iconst (v := 0) (pc := 40) E.1 E.2.1 dX8_spreads_40 (by decide) ?_
    refine lv_istore (lv' := [(7, .int 0), (5, .long 1), (3, .long 0), (0, .ref (ad 0)), (1, .int x1), (2, .int x2)]) (pc := 41) E.1 E.2.1 dX8_spreads_41 hl (by decide) rfl (fun ls hl => ?_)
    refine lv_iconst (v := 0) (pc := 43) E.1 E.2.1 dX8_spreads_43 (by decide) ?_
    refine lv_istore (lv' := [(8, .int 0), (7, .int 0), (5, .long 1), (3, .long 0), (0, .ref (ad 0)), (1, .int x1), (2, .int x2)]) (pc := 44) E.1 E.2.1 dX8_spreads_44 hl (by decide) rfl (fun ls hl => ?_)
    refine lv_iconst (v := 0) (pc := 46) E.1 E.2.1 dX8_spreads_46 (by decide) ?_
    refine lv_istore (lv' := [(9, .int 0), (8, .int 0), (7, .int 0), (5, .long 1), (3, .long 0), (0, .ref (ad 0)), (1, .int x1), (2, .int x2)]) (pc := 47) E.1 E.2.1 dX8_spreads_47 hl (by decide) rfl (fun ls hl => ?_)
    exact wl_X8_spreads_p49 E hr hk  s x1 x2 0 1 0 0 0 z hw (lv_sub hl [5, 6, 7, 4, 3, 2, 1, 0] rfl) hf
  · have hf := x_neg q1 hf
    refine lv_aload_n (pc := 11) E.1 E.2.1 dX8_spreads_11 rfl (lv_at hl 0 rfl) ?_
    refine xg_X8_57 (pc := 12) (v := .ref (ad 15)) E hw 0 rfl rfl dX8_spreads_12 ?_
    refine lv_iload_n (pc := 15) E.1 E.2.1 dX8_spreads_15 rfl (lv_at hl 2 rfl) ?_
    refine lv_iload_n (pc := 16) E.1 E.2.1 dX8_spreads_16 rfl (lv_at hl 3 rfl) ?_
    refine lv_iadd (pc := 17) E.1 E.2.1 dX8_spreads_17 ?_
    refine lv_lconst (v := 0) (pc := 18) E.1 E.2.1 dX8_spreads_18 (by decide) ?_
    obtain ⟨w3, g2, hf⟩ := x_bind hf
    refine x_last (pc := 19) (ws' := (cells8 G ad (u8_up s w3))) E hw 15 rfl g2 rfl dX8_spreads_19 (fun H locs hw => ?_)
    refine lv_aload_n (pc := 20) E.1 E.2.1 dX8_spreads_20 rfl (lv_at hl 0 rfl) ?_
    refine xg_X8_60 (pc := 21) (v := .ref (ad 16)) E hw 0 rfl rfl dX8_spreads_21 ?_
    refine lv_iload_n (pc := 24) E.1 E.2.1 dX8_spreads_24 rfl (lv_at hl 2 rfl) ?_
    refine lv_iload_n (pc := 25) E.1 E.2.1 dX8_spreads_25 rfl (lv_at hl 3 rfl) ?_
    refine lv_iadd (pc := 26) E.1 E.2.1 dX8_spreads_26 ?_
    refine lv_lconst (v := 0) (pc := 27) E.1 E.2.1 dX8_spreads_27 (by decide) ?_
    obtain ⟨w5, g4, hf⟩ := x_bind hf
    refine x_last (pc := 28) (ws' := (cells8 G ad (u8_low (u8_up s w3) w5))) E hw 16 rfl g4 rfl dX8_spreads_28 (fun H locs hw => ?_)
    refine lv_iinc (v := (x3 + 1)) (lv' := [(3, .int (x3 + 1)), (0, .ref (ad 0)), (1, .int x1), (2, .int x2)]) (pc := 29) E.1 E.2.1 dX8_spreads_29 hl (k := 3) rfl rfl (by decide) rfl (fun ls hl => ?_)
    refine lv_goto (tgt := 6) (pc := 32) E.1 E.2.1 dX8_spreads_32 (by decide) ?_
    exact hk6 (u8_low (u8_up s w3) w5) x1 x2 (x3 + 1) z hw (lv_sub hl [1, 2, 3, 0] rfl) hf
set_option maxHeartbeats 4000000 in
set_option maxRecDepth 100000 in
theorem wl_X8_spreads_p6 {p : Program} {l : Launch} {e : Env} {sS : State} {m : MethodId} {args : Array Value} {below : List Frame} {meth : Method} {c : Code} {G : xG} {W0 : va_W} {ad : Nat → Nat}   (E : xE p sS m args c cX8_spreads 14 RX8 G (x_in W0)) (hr : meth.sig.returnType = none) (hk : meth.locks = false)  : ∀ (s' : S8) (x1' : Int32) (x2' : Int32) (x3' : Int32) (z : S8) {H : Heap} {locs : List Loc} {ls : Array Slot}, xW G (x_in W0) sS.heap (cells8 G ad s') H locs → lv_has ls 14 [(0, .ref (ad 0)), (1, .int x1'), (2, .int x2'), (3, .int x3')] → lp_X8_spreads_p6  s' x1' x2' x3' = some z → W p l e (rm_X8_spreads) sS m args below meth c H locs 0 0 (MQ below (xQ G W0 (cells8 G ad z) none) args sS 0 0 (x_in W0)) (F0 m 6 ls []) := by
  intro s x1 x2 x3 z H locs ls hw hl hf
  exact x_loop_W (P := fun (q : S8 × Int32 × Int32 × Int32) (z : S8) => ∀ {H : Heap} {locs : List Loc} {ls : Array Slot}, xW G (x_in W0) sS.heap (cells8 G ad q.1) H locs → lv_has ls 14 [(0, .ref (ad 0)), (1, .int q.2.1), (2, .int q.2.2.1), (3, .int q.2.2.2)] → W p l e (rm_X8_spreads) sS m args below meth c H locs 0 0 (MQ below (xQ G W0 (cells8 G ad z) none) args sS 0 0 (x_in W0)) (F0 m 6 ls [])) (fun k hkk q z hf H locs ls hw hl => w_X8_spreads_p6 E hr hk  (fun s x1 x2 x3 z H locs ls hw hl hf => hkk (s, x1, x2, x3) z hf hw hl) q.1 q.2.1 q.2.2.1 q.2.2.2 z hw hl hf) FU (s, x1, x2, x3) z hf hw hl
set_option maxHeartbeats 4000000 in
set_option maxRecDepth 100000 in
theorem w_X8_spreads_p0 {p : Program} {l : Launch} {e : Env} {sS : State} {m : MethodId} {args : Array Value} {below : List Frame} {meth : Method} {c : Code} {G : xG} {W0 : va_W} {ad : Nat → Nat}   (E : xE p sS m args c cX8_spreads 14 RX8 G (x_in W0)) (hr : meth.sig.returnType = none) (hk : meth.locks = false)  : ∀ (s' : S8) (x1' : Int32) (z : S8) {H : Heap} {locs : List Loc} {ls : Array Slot}, xW G (x_in W0) sS.heap (cells8 G ad s') H locs → lv_has ls 14 [(0, .ref (ad 0)), (1, .int x1')] → f_X8_spreads  s' x1' = some z → W p l e (rm_X8_spreads) sS m args below meth c H locs 0 0 (MQ below (xQ G W0 (cells8 G ad z) none) args sS 0 0 (x_in W0)) (F0 m 0 ls []) := by
  intro s x1 z H locs ls hw hl hf
  unfold f_X8_spreads at hf
  refine lv_iconst (v := 5) (pc := 0) E.1 E.2.1 dX8_spreads_0 (by decide) ?_
  refine lv_iload_n (pc := 1) E.1 E.2.1 dX8_spreads_1 rfl (lv_at hl 1 rfl) ?_
  refine lv_imul (pc := 2) E.1 E.2.1 dX8_spreads_2 ?_
  refine lv_istore_n (lv' := [(2, .int (5 * x1)), (0, .ref (ad 0)), (1, .int x1)]) (pc := 3) E.1 E.2.1 dX8_spreads_3 rfl hl (by decide) rfl (fun ls hl => ?_)
  refine lv_iconst (v := 0) (pc := 4) E.1 E.2.1 dX8_spreads_4 (by decide) ?_
  refine lv_istore_n (lv' := [(3, .int 0), (2, .int (5 * x1)), (0, .ref (ad 0)), (1, .int x1)]) (pc := 5) E.1 E.2.1 dX8_spreads_5 rfl hl (by decide) rfl (fun ls hl => ?_)
  exact wl_X8_spreads_p6 E hr hk  s x1 (5 * x1) 0 z hw (lv_sub hl [2, 3, 1, 0] rfl) hf
set_option maxHeartbeats 4000000 in
set_option maxRecDepth 100000 in
theorem c_X8_spreads (l : Launch) (G : xG) (ad : Nat → Nat) (s : S8) (x1 : Int32) {z : S8} (hf : f_X8_spreads s x1 = some z) : xC l yX8_spreads cX8_spreads 14 none (rm_X8_spreads) G [.ref (ad 0), .int x1] (cells8 G ad s) none (cells8 G ad z) :=
  x_met (by decide) (Nat.le_of_ble_eq_true rfl) (fun p e sS m below meth c E hr hk ls hl hw => w_X8_spreads_p0 E hr hk s x1 z hw hl hf)
set_option maxHeartbeats 4000000 in
set_option maxRecDepth 100000 in
theorem w_X8_shareOf_p0 {p : Program} {l : Launch} {e : Env} {sS : State} {m : MethodId} {args : Array Value} {below : List Frame} {meth : Method} {c : Code} {G : xG} {W0 : va_W} {ad : Nat → Nat}   (E : xE p sS m args c cX8_shareOf 8 RX8 G (x_in W0)) (hr : meth.sig.returnType = (some .int)) (hk : meth.locks = false)  : ∀ (s' : S8) (x1' : Int32) (x2' : Int32) (z : Int32 × S8) {H : Heap} {locs : List Loc} {ls : Array Slot}, xW G (x_in W0) sS.heap (cells8 G ad s') H locs → lv_has ls 8 [(0, .ref (ad 0)), (1, .int x1'), (2, .int x2')] → f_X8_shareOf  s' x1' x2' = some z → W p l e (rm_X8_shareOf) sS m args below meth c H locs 0 0 (MQ below (xQ G W0 (cells8 G ad z.2) (some (.int z.1))) args sS 0 0 (x_in W0)) (F0 m 0 ls []) := by
  intro s x1 x2 z H locs ls hw hl hf
  unfold f_X8_shareOf at hf
  refine lv_iconst (v := 5) (pc := 0) E.1 E.2.1 dX8_shareOf_0 (by decide) ?_
  refine lv_iload_n (pc := 1) E.1 E.2.1 dX8_shareOf_1 rfl (lv_at hl 1 rfl) ?_
  refine lv_imul (pc := 2) E.1 E.2.1 dX8_shareOf_2 ?_
  refine lv_istore_n (lv' := [(3, .int (5 * x1)), (0, .ref (ad 0)), (1, .int x1), (2, .int x2)]) (pc := 3) E.1 E.2.1 dX8_shareOf_3 rfl hl (by decide) rfl (fun ls hl => ?_)
  refine lv_aload_n (pc := 4) E.1 E.2.1 dX8_shareOf_4 rfl (lv_at hl 1 rfl) ?_
  refine xg_X8_60 (pc := 5) (v := .ref (ad 16)) E hw 0 rfl rfl dX8_shareOf_5 ?_
  refine lv_iload_n (pc := 8) E.1 E.2.1 dX8_shareOf_8 rfl (lv_at hl 0 rfl) ?_
  refine lv_iconst (v := 1) (pc := 9) E.1 E.2.1 dX8_shareOf_9 (by decide) ?_
  refine lv_iadd (pc := 10) E.1 E.2.1 dX8_shareOf_10 ?_
  obtain ⟨v2, g1, hf⟩ := x_bind hf
  refine x_lald (pc := 11) E hw 16 rfl g1 dX8_shareOf_11 ?_
  refine lv_lconst (v := 0) (pc := 12) E.1 E.2.1 dX8_shareOf_12 (by decide) ?_
  refine W.lcmp (pc := 13) E.1 E.2.1 dX8_shareOf_13 ?_
  refine lv_if_eq (tgt := 30) (pc := 14) E.1 E.2.1 dX8_shareOf_14 (by decide) (fun q3 => ?_) (fun q3 => ?_)
  · have hf := x_pos q3 hf
    refine lv_iconst (v := 0) (pc := 30) E.1 E.2.1 dX8_shareOf_30 (by decide) ?_
    obtain rfl := Option.some.inj hf
    exact x_reti (pc := 31) E hr hk hw dX8_shareOf_31
  · have hf := x_neg q3 hf
    refine lv_aload_n (pc := 17) E.1 E.2.1 dX8_shareOf_17 rfl (lv_at hl 1 rfl) ?_
    refine xg_X8_57 (pc := 18) (v := .ref (ad 15)) E hw 0 rfl rfl dX8_shareOf_18 ?_
    refine lv_iload_n (pc := 21) E.1 E.2.1 dX8_shareOf_21 rfl (lv_at hl 0 rfl) ?_
    refine lv_iconst (v := 1) (pc := 22) E.1 E.2.1 dX8_shareOf_22 (by decide) ?_
    refine lv_iadd (pc := 23) E.1 E.2.1 dX8_shareOf_23 ?_
    obtain ⟨v5, g4, hf⟩ := x_bind hf
    refine x_lald (pc := 24) E hw 15 rfl g4 dX8_shareOf_24 ?_
    refine lv_lconst (v := 0) (pc := 25) E.1 E.2.1 dX8_shareOf_25 (by decide) ?_
    refine W.lcmp (pc := 26) E.1 E.2.1 dX8_shareOf_26 ?_
    refine lv_if_ne (tgt := 32) (pc := 27) E.1 E.2.1 dX8_shareOf_27 (by decide) (fun q6 => ?_) (fun q6 => ?_)
    · have hf := x_neg q6 hf
      refine lv_aload_n (pc := 32) E.1 E.2.1 dX8_shareOf_32 rfl (lv_at hl 1 rfl) ?_
      refine lv_aload_n (pc := 33) E.1 E.2.1 dX8_shareOf_33 rfl (lv_at hl 1 rfl) ?_
      refine xg_X8_57 (pc := 34) (v := .ref (ad 15)) E hw 0 rfl rfl dX8_shareOf_34 ?_
      refine lv_iload_n (pc := 37) E.1 E.2.1 dX8_shareOf_37 rfl (lv_at hl 0 rfl) ?_
      refine lv_iconst (v := 1) (pc := 38) E.1 E.2.1 dX8_shareOf_38 (by decide) ?_
      refine lv_iadd (pc := 39) E.1 E.2.1 dX8_shareOf_39 ?_
      obtain ⟨v8, g7, hf⟩ := x_bind hf
      refine x_lald (pc := 40) E hw 15 rfl g7 dX8_shareOf_40 ?_
      refine lv_aload_n (pc := 41) E.1 E.2.1 dX8_shareOf_41 rfl (lv_at hl 1 rfl) ?_
      refine xg_X8_60 (pc := 42) (v := .ref (ad 16)) E hw 0 rfl rfl dX8_shareOf_42 ?_
      refine lv_iload_n (pc := 45) E.1 E.2.1 dX8_shareOf_45 rfl (lv_at hl 0 rfl) ?_
      refine lv_iconst (v := 1) (pc := 46) E.1 E.2.1 dX8_shareOf_46 (by decide) ?_
      refine lv_iadd (pc := 47) E.1 E.2.1 dX8_shareOf_47 ?_
      obtain ⟨v10, g9, hf⟩ := x_bind hf
      refine x_lald (pc := 48) E hw 16 rfl g9 dX8_shareOf_48 ?_
      refine lv_iload_n (pc := 49) E.1 E.2.1 dX8_shareOf_49 rfl (lv_at hl 3 rfl) ?_
      refine lv_i2l (v := (Int32.toInt64 x2)) (pc := 50) E.1 E.2.1 dX8_shareOf_50 rfl ?_
      refine lv_lconst (v := 1) (pc := 51) E.1 E.2.1 dX8_shareOf_51 (by decide) ?_
      obtain ⟨v11, g12, hf⟩ := x_bind hf
      refine x_callVA (pc := 52) (As := [.long v8, .long v10, .long (Int32.toInt64 x2), .long 1]) (rest := []) (st1 := []) (ws' := (cells8 G ad v11)) E hw hl (c_X8_multiplies l G ad s v8 v10 (Int32.toInt64 x2) 1 g12) xv_X8_191 xd_X8_multiplies rfl rfl ⟨Nat.le_of_ble_eq_true rfl, Nat.le_of_ble_eq_true rfl⟩ (q0 := 0) rfl rfl rfl rfl (Nat.le_of_ble_eq_true rfl) rfl rfl dX8_shareOf_52 (fun H locs hw => ?_)
      refine lv_aload_n (pc := 55) E.1 E.2.1 dX8_shareOf_55 rfl (lv_at hl 1 rfl) ?_
      refine xg_X8_161 (pc := 56) (v := .long (g8_upper v11)) E hw 0 rfl rfl dX8_shareOf_56 ?_
      refine lv_lstore (lv' := [(4, .long (g8_upper v11)), (3, .int (5 * x1)), (0, .ref (ad 0)), (1, .int x1), (2, .int x2)]) (pc := 59) E.1 E.2.1 dX8_shareOf_59 hl (by decide) rfl (fun ls hl => ?_)
      refine lv_aload_n (pc := 61) E.1 E.2.1 dX8_shareOf_61 rfl (lv_at hl 2 rfl) ?_
      refine xg_X8_165 (pc := 62) (v := .long (g8_lower v11)) E hw 0 rfl rfl dX8_shareOf_62 ?_
      refine lv_lstore (lv' := [(6, .long (g8_lower v11)), (4, .long (g8_upper v11)), (3, .int (5 * x1)), (0, .ref (ad 0)), (1, .int x1), (2, .int x2)]) (pc := 65) E.1 E.2.1 dX8_shareOf_65 hl (by decide) rfl (fun ls hl => ?_)
      refine lv_aload_n (pc := 67) E.1 E.2.1 dX8_shareOf_67 rfl (lv_at hl 3 rfl) ?_
      refine lv_lload (pc := 68) E.1 E.2.1 dX8_shareOf_68 (lv_at hl 1 rfl) ?_
      refine lv_lload (pc := 70) E.1 E.2.1 dX8_shareOf_70 (lv_at hl 0 rfl) ?_
      refine lv_aload_n (pc := 72) E.1 E.2.1 dX8_shareOf_72 rfl (lv_at hl 3 rfl) ?_
      refine xg_X8_57 (pc := 73) (v := .ref (ad 15)) E hw 0 rfl rfl dX8_shareOf_73 ?_
      refine lv_iload_n (pc := 76) E.1 E.2.1 dX8_shareOf_76 rfl (lv_at hl 2 rfl) ?_
      obtain ⟨v14, g13, hf⟩ := x_bind hf
      refine x_lald (pc := 77) E hw 15 rfl g13 dX8_shareOf_77 ?_
      refine lv_aload_n (pc := 78) E.1 E.2.1 dX8_shareOf_78 rfl (lv_at hl 3 rfl) ?_
      refine xg_X8_60 (pc := 79) (v := .ref (ad 16)) E hw 0 rfl rfl dX8_shareOf_79 ?_
      refine lv_iload_n (pc := 82) E.1 E.2.1 dX8_shareOf_82 rfl (lv_at hl 2 rfl) ?_
      obtain ⟨v16, g15, hf⟩ := x_bind hf
      refine x_lald (pc := 83) E hw 16 rfl g15 dX8_shareOf_83 ?_
      obtain ⟨v17, g18, hf⟩ := x_bind hf
      refine x_callVA (pc := 84) (As := [.long (g8_upper v11), .long (g8_lower v11), .long v14, .long v16]) (rest := []) (st1 := []) (ws' := (cells8 G ad v17)) E hw hl (c_X8_adds l G ad v11 (g8_upper v11) (g8_lower v11) v14 v16 g18) xv_X8_187 xd_X8_adds rfl rfl ⟨Nat.le_of_ble_eq_true rfl, Nat.le_of_ble_eq_true rfl⟩ (q0 := 0) rfl rfl rfl rfl (Nat.le_of_ble_eq_true rfl) rfl rfl dX8_shareOf_84 (fun H locs hw => ?_)
      refine lv_aload_n (pc := 87) E.1 E.2.1 dX8_shareOf_87 rfl (lv_at hl 3 rfl) ?_
      refine lv_lload (pc := 88) E.1 E.2.1 dX8_shareOf_88 (lv_at hl 1 rfl) ?_
      refine lv_lload (pc := 90) E.1 E.2.1 dX8_shareOf_90 (lv_at hl 0 rfl) ?_
      refine lv_aload_n (pc := 92) E.1 E.2.1 dX8_shareOf_92 rfl (lv_at hl 3 rfl) ?_
      refine xg_X8_165 (pc := 93) (v := .long (g8_lower v17)) E hw 0 rfl rfl dX8_shareOf_93 ?_
      refine lv_aload_n (pc := 96) E.1 E.2.1 dX8_shareOf_96 rfl (lv_at hl 3 rfl) ?_
      refine xg_X8_161 (pc := 97) (v := .long (g8_upper v17)) E hw 0 rfl rfl dX8_shareOf_97 ?_
      obtain ⟨v19, g20, hf⟩ := x_bind hf
      refine x_callVA (pc := 100) (As := [.long (g8_upper v11), .long (g8_lower v11), .long (g8_lower v17), .long (g8_upper v17)]) (rest := []) (st1 := []) (ws' := (cells8 G ad v19)) E hw hl (c_X8_multiplies l G ad v17 (g8_upper v11) (g8_lower v11) (g8_lower v17) (g8_upper v17) g20) xv_X8_191 xd_X8_multiplies rfl rfl ⟨Nat.le_of_ble_eq_true rfl, Nat.le_of_ble_eq_true rfl⟩ (q0 := 0) rfl rfl rfl rfl (Nat.le_of_ble_eq_true rfl) rfl rfl dX8_shareOf_100 (fun H locs hw => ?_)
      refine lv_aload_n (pc := 103) E.1 E.2.1 dX8_shareOf_103 rfl (lv_at hl 3 rfl) ?_
      refine xg_X8_161 (pc := 104) (v := .long (g8_upper v19)) E hw 0 rfl rfl dX8_shareOf_104 ?_
      refine lv_ldc2 (v := 1000) (pc := 107) E.1 E.2.1 E.2.2.2.1 (E.2.2.2.2.1 _ wq_1483) dX8_shareOf_107 ?_
      refine lv_lmul (pc := 110) E.1 E.2.1 dX8_shareOf_110 ?_
      refine lv_aload_n (pc := 111) E.1 E.2.1 dX8_shareOf_111 rfl (lv_at hl 3 rfl) ?_
      refine xg_X8_165 (pc := 112) (v := .long (g8_lower v19)) E hw 0 rfl rfl dX8_shareOf_112 ?_
      obtain ⟨u22, g21, hf⟩ := x_bind hf
      refine lv_ldiv (pc := 115) E.1 E.2.1 dX8_shareOf_115 (x_nzl_some g21) ?_
      refine lv_l2i (v := (Int64.toInt32 (((g8_upper v19) * 1000) / (g8_lower v19)))) (pc := 116) E.1 E.2.1 dX8_shareOf_116 rfl ?_
      obtain rfl := Option.some.inj hf
      exact x_reti (pc := 117) E hr hk hw dX8_shareOf_117
    · have hf := x_pos q6 hf
      refine lv_iconst (v := 0) (pc := 30) E.1 E.2.1 dX8_shareOf_30 (by decide) ?_
      obtain rfl := Option.some.inj hf
      exact x_reti (pc := 31) E hr hk hw dX8_shareOf_31
set_option maxHeartbeats 4000000 in
set_option maxRecDepth 100000 in
theorem c_X8_shareOf (l : Launch) (G : xG) (ad : Nat → Nat) (s : S8) (x1 : Int32) (x2 : Int32) {z : Int32 × S8} (hf : f_X8_shareOf s x1 x2 = some z) : xC l yX8_shareOf cX8_shareOf 8 (some .int) (rm_X8_shareOf) G [.ref (ad 0), .int x1, .int x2] (cells8 G ad s) (some (.int z.1)) (cells8 G ad z.2) :=
  x_met (by decide) (Nat.le_of_ble_eq_true rfl) (fun p e sS m below meth c E hr hk ls hl hw => w_X8_shareOf_p0 E hr hk s x1 x2 z hw hl hf)
set_option maxHeartbeats 4000000 in
set_option maxRecDepth 100000 in
theorem w_X8_shares_p4 {p : Program} {l : Launch} {e : Env} {sS : State} {m : MethodId} {args : Array Value} {below : List Frame} {meth : Method} {c : Code} {G : xG} {W0 : va_W} {ad : Nat → Nat}  {k4 : S8 → Int32 → Int32 → Int32 → Option (Int32)} (E : xE p sS m args c cX8_shares 4 RX8 G (x_in W0)) (hr : meth.sig.returnType = (some .int)) (hk : meth.locks = false) (hk4 : ∀ (s' : S8) (x1' : Int32) (x2' : Int32) (x3' : Int32) (z : Int32) {H : Heap} {locs : List Loc} {ls : Array Slot}, xW G (x_in W0) sS.heap (cells8 G ad s') H locs → lv_has ls 4 [(0, .ref (ad 0)), (1, .int x1'), (2, .int x2'), (3, .int x3')] → k4  s' x1' x2' x3' = some z → W p l e (rm_X8_shares) sS m args below meth c H locs 0 0 (MQ below (xQ G W0 (cells8 G ad s') (some (.int z))) args sS 0 0 (x_in W0)) (F0 m 4 ls [])) : ∀ (s' : S8) (x1' : Int32) (x2' : Int32) (x3' : Int32) (z : Int32) {H : Heap} {locs : List Loc} {ls : Array Slot}, xW G (x_in W0) sS.heap (cells8 G ad s') H locs → lv_has ls 4 [(0, .ref (ad 0)), (1, .int x1'), (2, .int x2'), (3, .int x3')] → f_X8_shares_p4 k4 s' x1' x2' x3' = some z → W p l e (rm_X8_shares) sS m args below meth c H locs 0 0 (MQ below (xQ G W0 (cells8 G ad s') (some (.int z))) args sS 0 0 (x_in W0)) (F0 m 4 ls []) := by
  intro s x1 x2 x3 z H locs ls hw hl hf
  unfold f_X8_shares_p4 at hf
  refine lv_iload_n (pc := 4) E.1 E.2.1 dX8_shares_4 rfl (lv_at hl 3 rfl) ?_
  refine lv_aload_n (pc := 5) E.1 E.2.1 dX8_shares_5 rfl (lv_at hl 0 rfl) ?_
  obtain ⟨v1, g2, hf⟩ := x_bind hf
  refine x_callVA (pc := 6) (As := []) (rest := [.int x3]) (st1 := [.int v1, .int x3]) (ws' := (cells8 G ad s)) E hw hl (c_X8_many l G ad s g2) xv_X8_80 xd_X8_many rfl rfl ⟨Nat.le_of_ble_eq_true rfl, Nat.le_of_ble_eq_true rfl⟩ (q0 := 0) rfl rfl rfl rfl (Nat.le_of_ble_eq_true rfl) rfl rfl dX8_shares_6 (fun H locs hw => ?_)
  refine lv_icmp_ge (tgt := 36) (pc := 9) E.1 E.2.1 dX8_shares_9 (by decide) (fun q3 => ?_) (fun q3 => ?_)
  · have hf := x_pos q3 hf
    refine lv_iload_n (pc := 36) E.1 E.2.1 dX8_shares_36 rfl (lv_at hl 2 rfl) ?_
    obtain rfl := Option.some.inj hf
    exact x_reti (pc := 37) E hr hk hw dX8_shares_37
  · have hf := x_neg q3 hf
    refine lv_aload_n (pc := 12) E.1 E.2.1 dX8_shares_12 rfl (lv_at hl 0 rfl) ?_
    refine lv_iload_n (pc := 13) E.1 E.2.1 dX8_shares_13 rfl (lv_at hl 3 rfl) ?_
    refine lv_iload_n (pc := 14) E.1 E.2.1 dX8_shares_14 rfl (lv_at hl 1 rfl) ?_
    obtain ⟨v4, g5, hf⟩ := x_bind hf
    refine x_callVA (pc := 15) (As := [.int x3, .int x1]) (rest := []) (st1 := [.int v4]) (ws' := (cells8 G ad s)) E hw hl (c_X8_isIn l G ad s x3 x1 g5) xv_X8_184 xd_X8_isIn rfl rfl ⟨Nat.le_of_ble_eq_true rfl, Nat.le_of_ble_eq_true rfl⟩ (q0 := 0) rfl rfl rfl rfl (Nat.le_of_ble_eq_true rfl) rfl rfl dX8_shares_15 (fun H locs hw => ?_)
    refine lv_if_eq (tgt := 30) (pc := 18) E.1 E.2.1 dX8_shares_18 (by decide) (fun q6 => ?_) (fun q6 => ?_)
    · have hf := x_pos q6 hf
      refine lv_iinc (v := (x3 + 1)) (lv' := [(3, .int (x3 + 1)), (0, .ref (ad 0)), (1, .int x1), (2, .int x2)]) (pc := 30) E.1 E.2.1 dX8_shares_30 hl (k := 3) rfl rfl (by decide) rfl (fun ls hl => ?_)
      refine lv_goto (tgt := 4) (pc := 33) E.1 E.2.1 dX8_shares_33 (by decide) ?_
      exact hk4 s x1 x2 (x3 + 1) z hw (lv_sub hl [1, 2, 3, 0] rfl) hf
    · have hf := x_neg q6 hf
      refine lv_iload_n (pc := 21) E.1 E.2.1 dX8_shares_21 rfl (lv_at hl 2 rfl) ?_
      refine lv_aload_n (pc := 22) E.1 E.2.1 dX8_shares_22 rfl (lv_at hl 0 rfl) ?_
      refine xg_X8_35 (pc := 23) (v := .ref (ad 8)) E hw 0 rfl rfl dX8_shares_23 ?_
      refine lv_iload_n (pc := 26) E.1 E.2.1 dX8_shares_26 rfl (lv_at hl 3 rfl) ?_
      obtain ⟨v8, g7, hf⟩ := x_bind hf
      refine x_iald (pc := 27) E hw 8 rfl g7 dX8_shares_27 ?_
      refine lv_iadd (pc := 28) E.1 E.2.1 dX8_shares_28 ?_
      refine lv_istore_n (lv' := [(2, .int (x2 + v8)), (0, .ref (ad 0)), (1, .int x1), (3, .int x3)]) (pc := 29) E.1 E.2.1 dX8_shares_29 rfl hl (by decide) rfl (fun ls hl => ?_)
      refine lv_iinc (v := (x3 + 1)) (lv' := [(3, .int (x3 + 1)), (2, .int (x2 + v8)), (0, .ref (ad 0)), (1, .int x1)]) (pc := 30) E.1 E.2.1 dX8_shares_30 hl (k := 3) rfl rfl (by decide) rfl (fun ls hl => ?_)
      refine lv_goto (tgt := 4) (pc := 33) E.1 E.2.1 dX8_shares_33 (by decide) ?_
      exact hk4 s x1 (x2 + v8) (x3 + 1) z hw (lv_sub hl [2, 3, 1, 0] rfl) hf
set_option maxHeartbeats 4000000 in
set_option maxRecDepth 100000 in
theorem wl_X8_shares_p4 {p : Program} {l : Launch} {e : Env} {sS : State} {m : MethodId} {args : Array Value} {below : List Frame} {meth : Method} {c : Code} {G : xG} {W0 : va_W} {ad : Nat → Nat}   (E : xE p sS m args c cX8_shares 4 RX8 G (x_in W0)) (hr : meth.sig.returnType = (some .int)) (hk : meth.locks = false)  : ∀ (s' : S8) (x1' : Int32) (x2' : Int32) (x3' : Int32) (z : Int32) {H : Heap} {locs : List Loc} {ls : Array Slot}, xW G (x_in W0) sS.heap (cells8 G ad s') H locs → lv_has ls 4 [(0, .ref (ad 0)), (1, .int x1'), (2, .int x2'), (3, .int x3')] → lp_X8_shares_p4  s' x1' x2' x3' = some z → W p l e (rm_X8_shares) sS m args below meth c H locs 0 0 (MQ below (xQ G W0 (cells8 G ad s') (some (.int z))) args sS 0 0 (x_in W0)) (F0 m 4 ls []) := by
  intro s x1 x2 x3 z H locs ls hw hl hf
  exact x_loop_W (P := fun (q : S8 × Int32 × Int32 × Int32) (z : Int32) => ∀ {H : Heap} {locs : List Loc} {ls : Array Slot}, xW G (x_in W0) sS.heap (cells8 G ad q.1) H locs → lv_has ls 4 [(0, .ref (ad 0)), (1, .int q.2.1), (2, .int q.2.2.1), (3, .int q.2.2.2)] → W p l e (rm_X8_shares) sS m args below meth c H locs 0 0 (MQ below (xQ G W0 (cells8 G ad q.1) (some (.int z))) args sS 0 0 (x_in W0)) (F0 m 4 ls [])) (fun k hkk q z hf H locs ls hw hl => w_X8_shares_p4 E hr hk  (fun s x1 x2 x3 z H locs ls hw hl hf => hkk (s, x1, x2, x3) z hf hw hl) q.1 q.2.1 q.2.2.1 q.2.2.2 z hw hl hf) FU (s, x1, x2, x3) z hf hw hl
set_option maxHeartbeats 4000000 in
set_option maxRecDepth 100000 in
theorem w_X8_shares_p0 {p : Program} {l : Launch} {e : Env} {sS : State} {m : MethodId} {args : Array Value} {below : List Frame} {meth : Method} {c : Code} {G : xG} {W0 : va_W} {ad : Nat → Nat}   (E : xE p sS m args c cX8_shares 4 RX8 G (x_in W0)) (hr : meth.sig.returnType = (some .int)) (hk : meth.locks = false)  : ∀ (s' : S8) (x1' : Int32) (z : Int32) {H : Heap} {locs : List Loc} {ls : Array Slot}, xW G (x_in W0) sS.heap (cells8 G ad s') H locs → lv_has ls 4 [(0, .ref (ad 0)), (1, .int x1')] → f_X8_shares  s' x1' = some z → W p l e (rm_X8_shares) sS m args below meth c H locs 0 0 (MQ below (xQ G W0 (cells8 G ad s') (some (.int z))) args sS 0 0 (x_in W0)) (F0 m 0 ls []) := by
  intro s x1 z H locs ls hw hl hf
  unfold f_X8_shares at hf
  refine lv_iconst (v := 0) (pc := 0) E.1 E.2.1 dX8_shares_0 (by decide) ?_
  refine lv_istore_n (lv' := [(2, .int 0), (0, .ref (ad 0)), (1, .int x1)]) (pc := 1) E.1 E.2.1 dX8_shares_1 rfl hl (by decide) rfl (fun ls hl => ?_)
  refine lv_iconst (v := 0) (pc := 2) E.1 E.2.1 dX8_shares_2 (by decide) ?_
  refine lv_istore_n (lv' := [(3, .int 0), (2, .int 0), (0, .ref (ad 0)), (1, .int x1)]) (pc := 3) E.1 E.2.1 dX8_shares_3 rfl hl (by decide) rfl (fun ls hl => ?_)
  exact wl_X8_shares_p4 E hr hk  s x1 0 0 z hw (lv_sub hl [2, 3, 1, 0] rfl) hf
set_option maxHeartbeats 4000000 in
set_option maxRecDepth 100000 in
theorem c_X8_shares (l : Launch) (G : xG) (ad : Nat → Nat) (s : S8) (x1 : Int32) {z : Int32} (hf : f_X8_shares s x1 = some z) : xC l yX8_shares cX8_shares 4 (some .int) (rm_X8_shares) G [.ref (ad 0), .int x1] (cells8 G ad s) (some (.int z)) (cells8 G ad s) :=
  x_met (by decide) (Nat.le_of_ble_eq_true rfl) (fun p e sS m below meth c E hr hk ls hl hw => w_X8_shares_p0 E hr hk s x1 z hw hl hf)
set_option maxHeartbeats 4000000 in
set_option maxRecDepth 100000 in
theorem w_X8_mixes_p0 {p : Program} {l : Launch} {e : Env} {sS : State} {m : MethodId} {args : Array Value} {below : List Frame} {meth : Method} {c : Code} {G : xG} {W0 : va_W} {ad : Nat → Nat}   (E : xE p sS m args c cX8_mixes 14 RX8 G (x_in W0)) (hr : meth.sig.returnType = none) (hk : meth.locks = false)  : ∀ (s' : S8) (x1' : Int32) (x2' : Int64) (x4' : Int64) (x6' : Int64) (x8' : Int64) (z : S8) {H : Heap} {locs : List Loc} {ls : Array Slot}, xW G (x_in W0) sS.heap (cells8 G ad s') H locs → lv_has ls 14 [(0, .ref (ad 0)), (1, .int x1'), (2, .long x2'), (4, .long x4'), (6, .long x6'), (8, .long x8')] → f_X8_mixes  s' x1' x2' x4' x6' x8' = some z → W p l e (rm_X8_mixes) sS m args below meth c H locs 0 0 (MQ below (xQ G W0 (cells8 G ad z) none) args sS 0 0 (x_in W0)) (F0 m 0 ls []) := by
  intro s x1 x2 x4 x6 x8 z H locs ls hw hl hf
  unfold f_X8_mixes at hf
  refine lv_aload_n (pc := 0) E.1 E.2.1 dX8_mixes_0 rfl (lv_at hl 0 rfl) ?_
  refine lv_lload_n (pc := 1) E.1 E.2.1 dX8_mixes_1 rfl (lv_at hl 2 rfl) ?_
  refine lv_lload (pc := 2) E.1 E.2.1 dX8_mixes_2 (lv_at hl 3 rfl) ?_
  refine lv_iload_n (pc := 4) E.1 E.2.1 dX8_mixes_4 rfl (lv_at hl 1 rfl) ?_
  refine lv_i2l (v := (Int32.toInt64 x1)) (pc := 5) E.1 E.2.1 dX8_mixes_5 rfl ?_
  refine lv_ldc2 (v := 1000) (pc := 6) E.1 E.2.1 E.2.2.2.1 (E.2.2.2.2.1 _ wq_1483) dX8_mixes_6 ?_
  obtain ⟨v1, g2, hf⟩ := x_bind hf
  refine x_callVA (pc := 9) (As := [.long x2, .long x4, .long (Int32.toInt64 x1), .long 1000]) (rest := []) (st1 := []) (ws' := (cells8 G ad v1)) E hw hl (c_X8_multiplies l G ad s x2 x4 (Int32.toInt64 x1) 1000 g2) xv_X8_191 xd_X8_multiplies rfl rfl ⟨Nat.le_of_ble_eq_true rfl, Nat.le_of_ble_eq_true rfl⟩ (q0 := 0) rfl rfl rfl rfl (Nat.le_of_ble_eq_true rfl) rfl rfl dX8_mixes_9 (fun H locs hw => ?_)
  refine lv_aload_n (pc := 12) E.1 E.2.1 dX8_mixes_12 rfl (lv_at hl 0 rfl) ?_
  refine xg_X8_161 (pc := 13) (v := .long (g8_upper v1)) E hw 0 rfl rfl dX8_mixes_13 ?_
  refine lv_lstore (lv' := [(10, .long (g8_upper v1)), (0, .ref (ad 0)), (1, .int x1), (2, .long x2), (4, .long x4), (6, .long x6), (8, .long x8)]) (pc := 16) E.1 E.2.1 dX8_mixes_16 hl (by decide) rfl (fun ls hl => ?_)
  refine lv_aload_n (pc := 18) E.1 E.2.1 dX8_mixes_18 rfl (lv_at hl 1 rfl) ?_
  refine xg_X8_165 (pc := 19) (v := .long (g8_lower v1)) E hw 0 rfl rfl dX8_mixes_19 ?_
  refine lv_lstore (lv' := [(12, .long (g8_lower v1)), (10, .long (g8_upper v1)), (0, .ref (ad 0)), (1, .int x1), (2, .long x2), (4, .long x4), (6, .long x6), (8, .long x8)]) (pc := 22) E.1 E.2.1 dX8_mixes_22 hl (by decide) rfl (fun ls hl => ?_)
  refine lv_aload_n (pc := 24) E.1 E.2.1 dX8_mixes_24 rfl (lv_at hl 2 rfl) ?_
  refine lv_lload (pc := 25) E.1 E.2.1 dX8_mixes_25 (lv_at hl 6 rfl) ?_
  refine lv_lload (pc := 27) E.1 E.2.1 dX8_mixes_27 (lv_at hl 7 rfl) ?_
  refine lv_sipush (v := 1000) (pc := 29) E.1 E.2.1 dX8_mixes_29 (by decide) ?_
  refine lv_iload_n (pc := 32) E.1 E.2.1 dX8_mixes_32 rfl (lv_at hl 3 rfl) ?_
  refine lv_isub (pc := 33) E.1 E.2.1 dX8_mixes_33 ?_
  refine lv_i2l (v := (Int32.toInt64 (1000 - x1))) (pc := 34) E.1 E.2.1 dX8_mixes_34 rfl ?_
  refine lv_ldc2 (v := 1000) (pc := 35) E.1 E.2.1 E.2.2.2.1 (E.2.2.2.2.1 _ wq_1483) dX8_mixes_35 ?_
  obtain ⟨v3, g4, hf⟩ := x_bind hf
  refine x_callVA (pc := 38) (As := [.long x6, .long x8, .long (Int32.toInt64 (1000 - x1)), .long 1000]) (rest := []) (st1 := []) (ws' := (cells8 G ad v3)) E hw hl (c_X8_multiplies l G ad v1 x6 x8 (Int32.toInt64 (1000 - x1)) 1000 g4) xv_X8_191 xd_X8_multiplies rfl rfl ⟨Nat.le_of_ble_eq_true rfl, Nat.le_of_ble_eq_true rfl⟩ (q0 := 0) rfl rfl rfl rfl (Nat.le_of_ble_eq_true rfl) rfl rfl dX8_mixes_38 (fun H locs hw => ?_)
  refine lv_aload_n (pc := 41) E.1 E.2.1 dX8_mixes_41 rfl (lv_at hl 2 rfl) ?_
  refine lv_lload (pc := 42) E.1 E.2.1 dX8_mixes_42 (lv_at hl 1 rfl) ?_
  refine lv_lload (pc := 44) E.1 E.2.1 dX8_mixes_44 (lv_at hl 0 rfl) ?_
  refine lv_aload_n (pc := 46) E.1 E.2.1 dX8_mixes_46 rfl (lv_at hl 2 rfl) ?_
  refine xg_X8_161 (pc := 47) (v := .long (g8_upper v3)) E hw 0 rfl rfl dX8_mixes_47 ?_
  refine lv_aload_n (pc := 50) E.1 E.2.1 dX8_mixes_50 rfl (lv_at hl 2 rfl) ?_
  refine xg_X8_165 (pc := 51) (v := .long (g8_lower v3)) E hw 0 rfl rfl dX8_mixes_51 ?_
  obtain ⟨v5, g6, hf⟩ := x_bind hf
  refine x_callVA (pc := 54) (As := [.long (g8_upper v1), .long (g8_lower v1), .long (g8_upper v3), .long (g8_lower v3)]) (rest := []) (st1 := []) (ws' := (cells8 G ad v5)) E hw hl (c_X8_adds l G ad v3 (g8_upper v1) (g8_lower v1) (g8_upper v3) (g8_lower v3) g6) xv_X8_187 xd_X8_adds rfl rfl ⟨Nat.le_of_ble_eq_true rfl, Nat.le_of_ble_eq_true rfl⟩ (q0 := 0) rfl rfl rfl rfl (Nat.le_of_ble_eq_true rfl) rfl rfl dX8_mixes_54 (fun H locs hw => ?_)
  obtain rfl := Option.some.inj hf
  exact x_retv (pc := 57) E hr hk hw dX8_mixes_57
set_option maxHeartbeats 4000000 in
set_option maxRecDepth 100000 in
theorem c_X8_mixes (l : Launch) (G : xG) (ad : Nat → Nat) (s : S8) (x1 : Int32) (x2 : Int64) (x4 : Int64) (x6 : Int64) (x8 : Int64) {z : S8} (hf : f_X8_mixes s x1 x2 x4 x6 x8 = some z) : xC l yX8_mixes cX8_mixes 14 none (rm_X8_mixes) G [.ref (ad 0), .int x1, .long x2, .long x4, .long x6, .long x8] (cells8 G ad s) none (cells8 G ad z) :=
  x_met (by decide) (Nat.le_of_ble_eq_true rfl) (fun p e sS m below meth c E hr hk ls hl hw => w_X8_mixes_p0 E hr hk s x1 x2 x4 x6 x8 z hw hl hf)
set_option maxHeartbeats 4000000 in
set_option maxRecDepth 100000 in
theorem w_X8_centres_p120 {p : Program} {l : Launch} {e : Env} {sS : State} {m : MethodId} {args : Array Value} {below : List Frame} {meth : Method} {c : Code} {G : xG} {W0 : va_W} {ad : Nat → Nat}   (E : xE p sS m args c cX8_centres 8 RX8 G (x_in W0)) (hr : meth.sig.returnType = none) (hk : meth.locks = false)  : ∀ (s' : S8) (x1' : Int32) (z : S8) {H : Heap} {locs : List Loc} {ls : Array Slot}, xW G (x_in W0) sS.heap (cells8 G ad s') H locs → lv_has ls 8 [(0, .ref (ad 0)), (1, .int x1')] → f_X8_centres_p120  s' x1' = some z → W p l e (rm_X8_centres) sS m args below meth c H locs 0 0 (MQ below (xQ G W0 (cells8 G ad z) none) args sS 0 0 (x_in W0)) (F0 m 120 ls []) := by
  intro s x1 z H locs ls hw hl hf
  unfold f_X8_centres_p120 at hf
  refine lv_aload_n (pc := 120) E.1 E.2.1 dX8_centres_120 rfl (lv_at hl 0 rfl) ?_
  refine lv_iload_n (pc := 121) E.1 E.2.1 dX8_centres_121 rfl (lv_at hl 1 rfl) ?_
  refine lv_iconst (v := 2) (pc := 122) E.1 E.2.1 dX8_centres_122 (by decide) ?_
  obtain ⟨v1, g2, hf⟩ := x_bind hf
  refine x_callVA (pc := 123) (As := [.int x1, .int 2]) (rest := []) (st1 := []) (ws' := (cells8 G ad v1)) E hw hl (c_X8_puts l G ad s x1 2 g2) xv_X8_194 xd_X8_puts rfl rfl ⟨Nat.le_of_ble_eq_true rfl, Nat.le_of_ble_eq_true rfl⟩ (q0 := 0) rfl rfl rfl rfl (Nat.le_of_ble_eq_true rfl) rfl rfl dX8_centres_123 (fun H locs hw => ?_)
  refine lv_aload_n (pc := 126) E.1 E.2.1 dX8_centres_126 rfl (lv_at hl 0 rfl) ?_
  refine xg_X8_54 (pc := 127) (v := .ref (ad 14)) E hw 0 rfl rfl dX8_centres_127 ?_
  refine lv_iload_n (pc := 130) E.1 E.2.1 dX8_centres_130 rfl (lv_at hl 1 rfl) ?_
  refine lv_sipush (v := 1000) (pc := 131) E.1 E.2.1 dX8_centres_131 (by decide) ?_
  refine lv_aload_n (pc := 134) E.1 E.2.1 dX8_centres_134 rfl (lv_at hl 0 rfl) ?_
  refine xg_X8_48 (pc := 135) (v := .ref (ad 12)) E hw 0 rfl rfl dX8_centres_135 ?_
  refine lv_iload_n (pc := 138) E.1 E.2.1 dX8_centres_138 rfl (lv_at hl 1 rfl) ?_
  obtain ⟨v4, g3, hf⟩ := x_bind hf
  refine x_iald (pc := 139) E hw 12 rfl g3 dX8_centres_139 ?_
  refine lv_imul (pc := 140) E.1 E.2.1 dX8_centres_140 ?_
  refine lv_aload_n (pc := 141) E.1 E.2.1 dX8_centres_141 rfl (lv_at hl 0 rfl) ?_
  refine xg_X8_48 (pc := 142) (v := .ref (ad 12)) E hw 0 rfl rfl dX8_centres_142 ?_
  refine lv_iload_n (pc := 145) E.1 E.2.1 dX8_centres_145 rfl (lv_at hl 1 rfl) ?_
  obtain ⟨v6, g5, hf⟩ := x_bind hf
  refine x_iald (pc := 146) E hw 12 rfl g5 dX8_centres_146 ?_
  refine lv_aload_n (pc := 147) E.1 E.2.1 dX8_centres_147 rfl (lv_at hl 0 rfl) ?_
  refine xg_X8_13 (pc := 148) (v := .ref (ad 1)) E hw 0 rfl rfl dX8_centres_148 ?_
  refine lv_iconst (v := 1) (pc := 151) E.1 E.2.1 dX8_centres_151 (by decide) ?_
  obtain ⟨v8, g7, hf⟩ := x_bind hf
  refine x_iald (pc := 152) E hw 1 rfl g7 dX8_centres_152 ?_
  refine lv_iadd (pc := 153) E.1 E.2.1 dX8_centres_153 ?_
  obtain ⟨u10, g9, hf⟩ := x_bind hf
  refine lv_idiv (pc := 154) E.1 E.2.1 dX8_centres_154 (x_nz_some g9) ?_
  obtain ⟨w12, g11, hf⟩ := x_bind hf
  refine x_iast (pc := 155) (ws' := (cells8 G ad (u8_steadied v1 w12))) E hw 14 rfl g11 rfl dX8_centres_155 (fun H locs hw => ?_)
  refine lv_aload_n (pc := 156) E.1 E.2.1 dX8_centres_156 rfl (lv_at hl 0 rfl) ?_
  refine lv_aload_n (pc := 157) E.1 E.2.1 dX8_centres_157 rfl (lv_at hl 0 rfl) ?_
  refine xg_X8_54 (pc := 158) (v := .ref (ad 14)) E hw 0 rfl rfl dX8_centres_158 ?_
  refine lv_iload_n (pc := 161) E.1 E.2.1 dX8_centres_161 rfl (lv_at hl 1 rfl) ?_
  obtain ⟨v14, g13, hf⟩ := x_bind hf
  refine x_iald (pc := 162) E hw 14 rfl g13 dX8_centres_162 ?_
  refine lv_aload_n (pc := 163) E.1 E.2.1 dX8_centres_163 rfl (lv_at hl 0 rfl) ?_
  refine xg_X8_161 (pc := 164) (v := .long (g8_upper (u8_steadied v1 w12))) E hw 0 rfl rfl dX8_centres_164 ?_
  refine lv_aload_n (pc := 167) E.1 E.2.1 dX8_centres_167 rfl (lv_at hl 0 rfl) ?_
  refine xg_X8_165 (pc := 168) (v := .long (g8_lower (u8_steadied v1 w12))) E hw 0 rfl rfl dX8_centres_168 ?_
  refine lv_aload_n (pc := 171) E.1 E.2.1 dX8_centres_171 rfl (lv_at hl 0 rfl) ?_
  refine xg_X8_181 (pc := 172) (v := .long (g8_wholeUp (u8_steadied v1 w12))) E hw 0 rfl rfl dX8_centres_172 ?_
  refine lv_aload_n (pc := 175) E.1 E.2.1 dX8_centres_175 rfl (lv_at hl 0 rfl) ?_
  refine xg_X8_178 (pc := 176) (v := .long (g8_wholeLow (u8_steadied v1 w12))) E hw 0 rfl rfl dX8_centres_176 ?_
  obtain ⟨v15, g16, hf⟩ := x_bind hf
  refine x_callVA (pc := 179) (As := [.int v14, .long (g8_upper (u8_steadied v1 w12)), .long (g8_lower (u8_steadied v1 w12)), .long (g8_wholeUp (u8_steadied v1 w12)), .long (g8_wholeLow (u8_steadied v1 w12))]) (rest := []) (st1 := []) (ws' := (cells8 G ad v15)) E hw hl (c_X8_mixes l G ad (u8_steadied v1 w12) v14 (g8_upper (u8_steadied v1 w12)) (g8_lower (u8_steadied v1 w12)) (g8_wholeUp (u8_steadied v1 w12)) (g8_wholeLow (u8_steadied v1 w12)) g16) xv_X8_202 xd_X8_mixes rfl rfl ⟨Nat.le_of_ble_eq_true rfl, Nat.le_of_ble_eq_true rfl⟩ (q0 := 0) rfl rfl rfl rfl (Nat.le_of_ble_eq_true rfl) rfl rfl dX8_centres_179 (fun H locs hw => ?_)
  refine lv_aload_n (pc := 182) E.1 E.2.1 dX8_centres_182 rfl (lv_at hl 0 rfl) ?_
  refine lv_iload_n (pc := 183) E.1 E.2.1 dX8_centres_183 rfl (lv_at hl 1 rfl) ?_
  refine lv_iconst (v := 3) (pc := 184) E.1 E.2.1 dX8_centres_184 (by decide) ?_
  obtain ⟨v17, g18, hf⟩ := x_bind hf
  refine x_callVA (pc := 185) (As := [.int x1, .int 3]) (rest := []) (st1 := []) (ws' := (cells8 G ad v17)) E hw hl (c_X8_puts l G ad v15 x1 3 g18) xv_X8_194 xd_X8_puts rfl rfl ⟨Nat.le_of_ble_eq_true rfl, Nat.le_of_ble_eq_true rfl⟩ (q0 := 0) rfl rfl rfl rfl (Nat.le_of_ble_eq_true rfl) rfl rfl dX8_centres_185 (fun H locs hw => ?_)
  obtain rfl := Option.some.inj hf
  exact x_retv (pc := 188) E hr hk hw dX8_centres_188
set_option maxHeartbeats 4000000 in
set_option maxRecDepth 100000 in
theorem w_X8_centres_p39 {p : Program} {l : Launch} {e : Env} {sS : State} {m : MethodId} {args : Array Value} {below : List Frame} {meth : Method} {c : Code} {G : xG} {W0 : va_W} {ad : Nat → Nat}  {k39 : S8 → Int32 → Int32 → Int64 → Int64 → Int32 → Option (S8)} (E : xE p sS m args c cX8_centres 8 RX8 G (x_in W0)) (hr : meth.sig.returnType = none) (hk : meth.locks = false) (hk39 : ∀ (s' : S8) (x1' : Int32) (x2' : Int32) (x3' : Int64) (x5' : Int64) (x7' : Int32) (z : S8) {H : Heap} {locs : List Loc} {ls : Array Slot}, xW G (x_in W0) sS.heap (cells8 G ad s') H locs → lv_has ls 8 [(0, .ref (ad 0)), (1, .int x1'), (2, .int x2'), (3, .long x3'), (5, .long x5'), (7, .int x7')] → k39  s' x1' x2' x3' x5' x7' = some z → W p l e (rm_X8_centres) sS m args below meth c H locs 0 0 (MQ below (xQ G W0 (cells8 G ad z) none) args sS 0 0 (x_in W0)) (F0 m 39 ls [])) : ∀ (s' : S8) (x1' : Int32) (x2' : Int32) (x3' : Int64) (x5' : Int64) (x7' : Int32) (z : S8) {H : Heap} {locs : List Loc} {ls : Array Slot}, xW G (x_in W0) sS.heap (cells8 G ad s') H locs → lv_has ls 8 [(0, .ref (ad 0)), (1, .int x1'), (2, .int x2'), (3, .long x3'), (5, .long x5'), (7, .int x7')] → f_X8_centres_p39 k39 s' x1' x2' x3' x5' x7' = some z → W p l e (rm_X8_centres) sS m args below meth c H locs 0 0 (MQ below (xQ G W0 (cells8 G ad z) none) args sS 0 0 (x_in W0)) (F0 m 39 ls []) := by
  intro s x1 x2 x3 x5 x7 z H locs ls hw hl hf
  unfold f_X8_centres_p39 at hf
  refine lv_iload (pc := 39) E.1 E.2.1 dX8_centres_39 (lv_at hl 5 rfl) ?_
  refine lv_aload_n (pc := 41) E.1 E.2.1 dX8_centres_41 rfl (lv_at hl 0 rfl) ?_
  obtain ⟨v1, g2, hf⟩ := x_bind hf
  refine x_callVA (pc := 42) (As := []) (rest := [.int x7]) (st1 := [.int v1, .int x7]) (ws' := (cells8 G ad s)) E hw hl (c_X8_many l G ad s g2) xv_X8_80 xd_X8_many rfl rfl ⟨Nat.le_of_ble_eq_true rfl, Nat.le_of_ble_eq_true rfl⟩ (q0 := 0) rfl rfl rfl rfl (Nat.le_of_ble_eq_true rfl) rfl rfl dX8_centres_42 (fun H locs hw => ?_)
  refine lv_icmp_ge (tgt := 110) (pc := 45) E.1 E.2.1 dX8_centres_45 (by decide) (fun q3 => ?_) (fun q3 => ?_)
  · have hf := x_pos q3 hf
    refine lv_aload_n (pc := 110) E.1 E.2.1 dX8_centres_110 rfl (lv_at hl 0 rfl) ?_
    refine lv_lload_n (pc := 111) E.1 E.2.1 dX8_centres_111 rfl (lv_at hl 3 rfl) ?_
    refine lv_lload (pc := 112) E.1 E.2.1 dX8_centres_112 (lv_at hl 4 rfl) ?_
    refine lv_lconst (v := 1) (pc := 114) E.1 E.2.1 dX8_centres_114 (by decide) ?_
    refine lv_iload_n (pc := 115) E.1 E.2.1 dX8_centres_115 rfl (lv_at hl 2 rfl) ?_
    refine lv_i2l (v := (Int32.toInt64 x2)) (pc := 116) E.1 E.2.1 dX8_centres_116 rfl ?_
    obtain ⟨v4, g5, hf⟩ := x_bind hf
    refine x_callVA (pc := 117) (As := [.long x3, .long x5, .long 1, .long (Int32.toInt64 x2)]) (rest := []) (st1 := []) (ws' := (cells8 G ad v4)) E hw hl (c_X8_multiplies l G ad s x3 x5 1 (Int32.toInt64 x2) g5) xv_X8_191 xd_X8_multiplies rfl rfl ⟨Nat.le_of_ble_eq_true rfl, Nat.le_of_ble_eq_true rfl⟩ (q0 := 0) rfl rfl rfl rfl (Nat.le_of_ble_eq_true rfl) rfl rfl dX8_centres_117 (fun H locs hw => ?_)
    exact w_X8_centres_p120 E hr hk  v4 x1 z hw (lv_sub hl [0, 1] rfl) hf
  · have hf := x_neg q3 hf
    refine lv_aload_n (pc := 48) E.1 E.2.1 dX8_centres_48 rfl (lv_at hl 0 rfl) ?_
    refine lv_iload (pc := 49) E.1 E.2.1 dX8_centres_49 (lv_at hl 5 rfl) ?_
    refine lv_iload_n (pc := 51) E.1 E.2.1 dX8_centres_51 rfl (lv_at hl 1 rfl) ?_
    obtain ⟨v6, g7, hf⟩ := x_bind hf
    refine x_callVA (pc := 52) (As := [.int x7, .int x1]) (rest := []) (st1 := [.int v6]) (ws' := (cells8 G ad s)) E hw hl (c_X8_isIn l G ad s x7 x1 g7) xv_X8_184 xd_X8_isIn rfl rfl ⟨Nat.le_of_ble_eq_true rfl, Nat.le_of_ble_eq_true rfl⟩ (q0 := 0) rfl rfl rfl rfl (Nat.le_of_ble_eq_true rfl) rfl rfl dX8_centres_52 (fun H locs hw => ?_)
    refine lv_if_ne (tgt := 61) (pc := 55) E.1 E.2.1 dX8_centres_55 (by decide) (fun q8 => ?_) (fun q8 => ?_)
    · have hf := x_neg q8 hf
      refine lv_aload_n (pc := 61) E.1 E.2.1 dX8_centres_61 rfl (lv_at hl 0 rfl) ?_
      refine lv_lload_n (pc := 62) E.1 E.2.1 dX8_centres_62 rfl (lv_at hl 3 rfl) ?_
      refine lv_lload (pc := 63) E.1 E.2.1 dX8_centres_63 (lv_at hl 4 rfl) ?_
      refine lv_aload_n (pc := 65) E.1 E.2.1 dX8_centres_65 rfl (lv_at hl 0 rfl) ?_
      refine xg_X8_29 (pc := 66) (v := .ref (ad 6)) E hw 0 rfl rfl dX8_centres_66 ?_
      refine lv_iload (pc := 69) E.1 E.2.1 dX8_centres_69 (lv_at hl 5 rfl) ?_
      obtain ⟨v10, g9, hf⟩ := x_bind hf
      refine x_iald (pc := 71) E hw 6 rfl g9 dX8_centres_71 ?_
      refine lv_i2l (v := (Int32.toInt64 v10)) (pc := 72) E.1 E.2.1 dX8_centres_72 rfl ?_
      refine lv_aload_n (pc := 73) E.1 E.2.1 dX8_centres_73 rfl (lv_at hl 0 rfl) ?_
      refine xg_X8_35 (pc := 74) (v := .ref (ad 8)) E hw 0 rfl rfl dX8_centres_74 ?_
      refine lv_iload (pc := 77) E.1 E.2.1 dX8_centres_77 (lv_at hl 5 rfl) ?_
      obtain ⟨v12, g11, hf⟩ := x_bind hf
      refine x_iald (pc := 79) E hw 8 rfl g11 dX8_centres_79 ?_
      refine lv_i2l (v := (Int32.toInt64 v12)) (pc := 80) E.1 E.2.1 dX8_centres_80 rfl ?_
      refine lv_lmul (pc := 81) E.1 E.2.1 dX8_centres_81 ?_
      refine lv_aload_n (pc := 82) E.1 E.2.1 dX8_centres_82 rfl (lv_at hl 0 rfl) ?_
      refine xg_X8_26 (pc := 83) (v := .ref (ad 5)) E hw 0 rfl rfl dX8_centres_83 ?_
      refine lv_iload (pc := 86) E.1 E.2.1 dX8_centres_86 (lv_at hl 5 rfl) ?_
      obtain ⟨v14, g13, hf⟩ := x_bind hf
      refine x_iald (pc := 88) E hw 5 rfl g13 dX8_centres_88 ?_
      refine lv_i2l (v := (Int32.toInt64 v14)) (pc := 89) E.1 E.2.1 dX8_centres_89 rfl ?_
      obtain ⟨v15, g16, hf⟩ := x_bind hf
      refine x_callVA (pc := 90) (As := [.long x3, .long x5, .long ((Int32.toInt64 v10) * (Int32.toInt64 v12)), .long (Int32.toInt64 v14)]) (rest := []) (st1 := []) (ws' := (cells8 G ad v15)) E hw hl (c_X8_adds l G ad s x3 x5 ((Int32.toInt64 v10) * (Int32.toInt64 v12)) (Int32.toInt64 v14) g16) xv_X8_187 xd_X8_adds rfl rfl ⟨Nat.le_of_ble_eq_true rfl, Nat.le_of_ble_eq_true rfl⟩ (q0 := 0) rfl rfl rfl rfl (Nat.le_of_ble_eq_true rfl) rfl rfl dX8_centres_90 (fun H locs hw => ?_)
      refine lv_aload_n (pc := 93) E.1 E.2.1 dX8_centres_93 rfl (lv_at hl 0 rfl) ?_
      refine xg_X8_161 (pc := 94) (v := .long (g8_upper v15)) E hw 0 rfl rfl dX8_centres_94 ?_
      refine lv_lstore_n (lv' := [(3, .long (g8_upper v15)), (0, .ref (ad 0)), (1, .int x1), (2, .int x2), (5, .long x5), (7, .int x7)]) (pc := 97) E.1 E.2.1 dX8_centres_97 rfl hl (by decide) rfl (fun ls hl => ?_)
      refine lv_aload_n (pc := 98) E.1 E.2.1 dX8_centres_98 rfl (lv_at hl 1 rfl) ?_
      refine xg_X8_165 (pc := 99) (v := .long (g8_lower v15)) E hw 0 rfl rfl dX8_centres_99 ?_
      refine lv_lstore (lv' := [(5, .long (g8_lower v15)), (3, .long (g8_upper v15)), (0, .ref (ad 0)), (1, .int x1), (2, .int x2), (7, .int x7)]) (pc := 102) E.1 E.2.1 dX8_centres_102 hl (by decide) rfl (fun ls hl => ?_)
      refine lv_iinc (v := (x7 + 1)) (lv' := [(7, .int (x7 + 1)), (5, .long (g8_lower v15)), (3, .long (g8_upper v15)), (0, .ref (ad 0)), (1, .int x1), (2, .int x2)]) (pc := 104) E.1 E.2.1 dX8_centres_104 hl (k := 5) rfl rfl (by decide) rfl (fun ls hl => ?_)
      refine lv_goto (tgt := 39) (pc := 107) E.1 E.2.1 dX8_centres_107 (by decide) ?_
      exact hk39 v15 x1 x2 (g8_upper v15) (g8_lower v15) (x7 + 1) z hw (lv_sub hl [3, 4, 5, 2, 1, 0] rfl) hf
    · have hf := x_pos q8 hf
      refine lv_goto (tgt := 104) (pc := 58) E.1 E.2.1 dX8_centres_58 (by decide) ?_
      refine lv_iinc (v := (x7 + 1)) (lv' := [(7, .int (x7 + 1)), (0, .ref (ad 0)), (1, .int x1), (2, .int x2), (3, .long x3), (5, .long x5)]) (pc := 104) E.1 E.2.1 dX8_centres_104 hl (k := 5) rfl rfl (by decide) rfl (fun ls hl => ?_)
      refine lv_goto (tgt := 39) (pc := 107) E.1 E.2.1 dX8_centres_107 (by decide) ?_
      exact hk39 s x1 x2 x3 x5 (x7 + 1) z hw (lv_sub hl [1, 2, 3, 4, 5, 0] rfl) hf
set_option maxHeartbeats 4000000 in
set_option maxRecDepth 100000 in
theorem wl_X8_centres_p39 {p : Program} {l : Launch} {e : Env} {sS : State} {m : MethodId} {args : Array Value} {below : List Frame} {meth : Method} {c : Code} {G : xG} {W0 : va_W} {ad : Nat → Nat}   (E : xE p sS m args c cX8_centres 8 RX8 G (x_in W0)) (hr : meth.sig.returnType = none) (hk : meth.locks = false)  : ∀ (s' : S8) (x1' : Int32) (x2' : Int32) (x3' : Int64) (x5' : Int64) (x7' : Int32) (z : S8) {H : Heap} {locs : List Loc} {ls : Array Slot}, xW G (x_in W0) sS.heap (cells8 G ad s') H locs → lv_has ls 8 [(0, .ref (ad 0)), (1, .int x1'), (2, .int x2'), (3, .long x3'), (5, .long x5'), (7, .int x7')] → lp_X8_centres_p39  s' x1' x2' x3' x5' x7' = some z → W p l e (rm_X8_centres) sS m args below meth c H locs 0 0 (MQ below (xQ G W0 (cells8 G ad z) none) args sS 0 0 (x_in W0)) (F0 m 39 ls []) := by
  intro s x1 x2 x3 x5 x7 z H locs ls hw hl hf
  exact x_loop_W (P := fun (q : S8 × Int32 × Int32 × Int64 × Int64 × Int32) (z : S8) => ∀ {H : Heap} {locs : List Loc} {ls : Array Slot}, xW G (x_in W0) sS.heap (cells8 G ad q.1) H locs → lv_has ls 8 [(0, .ref (ad 0)), (1, .int q.2.1), (2, .int q.2.2.1), (3, .long q.2.2.2.1), (5, .long q.2.2.2.2.1), (7, .int q.2.2.2.2.2)] → W p l e (rm_X8_centres) sS m args below meth c H locs 0 0 (MQ below (xQ G W0 (cells8 G ad z) none) args sS 0 0 (x_in W0)) (F0 m 39 ls [])) (fun k hkk q z hf H locs ls hw hl => w_X8_centres_p39 E hr hk  (fun s x1 x2 x3 x5 x7 z H locs ls hw hl hf => hkk (s, x1, x2, x3, x5, x7) z hf hw hl) q.1 q.2.1 q.2.2.1 q.2.2.2.1 q.2.2.2.2.1 q.2.2.2.2.2 z hw hl hf) FU (s, x1, x2, x3, x5, x7) z hf hw hl
set_option maxHeartbeats 4000000 in
set_option maxRecDepth 100000 in
theorem w_X8_centres_p0 {p : Program} {l : Launch} {e : Env} {sS : State} {m : MethodId} {args : Array Value} {below : List Frame} {meth : Method} {c : Code} {G : xG} {W0 : va_W} {ad : Nat → Nat}   (E : xE p sS m args c cX8_centres 8 RX8 G (x_in W0)) (hr : meth.sig.returnType = none) (hk : meth.locks = false)  : ∀ (s' : S8) (x1' : Int32) (z : S8) {H : Heap} {locs : List Loc} {ls : Array Slot}, xW G (x_in W0) sS.heap (cells8 G ad s') H locs → lv_has ls 8 [(0, .ref (ad 0)), (1, .int x1')] → f_X8_centres  s' x1' = some z → W p l e (rm_X8_centres) sS m args below meth c H locs 0 0 (MQ below (xQ G W0 (cells8 G ad z) none) args sS 0 0 (x_in W0)) (F0 m 0 ls []) := by
  intro s x1 z H locs ls hw hl hf
  unfold f_X8_centres at hf
  refine lv_aload_n (pc := 0) E.1 E.2.1 dX8_centres_0 rfl (lv_at hl 0 rfl) ?_
  refine lv_iload_n (pc := 1) E.1 E.2.1 dX8_centres_1 rfl (lv_at hl 1 rfl) ?_
  obtain ⟨v1, g2, hf⟩ := x_bind hf
  refine x_callVA (pc := 2) (As := [.int x1]) (rest := []) (st1 := [.int v1]) (ws' := (cells8 G ad s)) E hw hl (c_X8_shares l G ad s x1 g2) xv_X8_199 xd_X8_shares rfl rfl ⟨Nat.le_of_ble_eq_true rfl, Nat.le_of_ble_eq_true rfl⟩ (q0 := 0) rfl rfl rfl rfl (Nat.le_of_ble_eq_true rfl) rfl rfl dX8_centres_2 (fun H locs hw => ?_)
  refine lv_istore_n (lv' := [(2, .int v1), (0, .ref (ad 0)), (1, .int x1)]) (pc := 5) E.1 E.2.1 dX8_centres_5 rfl hl (by decide) rfl (fun ls hl => ?_)
  refine lv_iload_n (pc := 6) E.1 E.2.1 dX8_centres_6 rfl (lv_at hl 0 rfl) ?_
  refine lv_if_ne (tgt := 31) (pc := 7) E.1 E.2.1 dX8_centres_7 (by decide) (fun q3 => ?_) (fun q3 => ?_)
  · have hf := x_neg q3 hf
    refine lv_lconst (v := 0) (pc := 31) E.1 E.2.1 dX8_centres_31 (by decide) ?_
    refine lv_lstore_n (lv' := [(3, .long 0), (2, .int v1), (0, .ref (ad 0)), (1, .int x1)]) (pc := 32) E.1 E.2.1 dX8_centres_32 rfl hl (by decide) rfl (fun ls hl => ?_)
    refine lv_lconst (v := 1) (pc := 33) E.1 E.2.1 dX8_centres_33 (by decide) ?_
    refine lv_lstore (lv' := [(5, .long 1), (3, .long 0), (2, .int v1), (0, .ref (ad 0)), (1, .int x1)]) (pc := 34) E.1 E.2.1 dX8_centres_34 hl (by decide) rfl (fun ls hl => ?_)
    refine lv_iconst (v := 0) (pc := 36) E.1 E.2.1 dX8_centres_36 (by decide) ?_
    refine lv_istore (lv' := [(7, .int 0), (5, .long 1), (3, .long 0), (2, .int v1), (0, .ref (ad 0)), (1, .int x1)]) (pc := 37) E.1 E.2.1 dX8_centres_37 hl (by decide) rfl (fun ls hl => ?_)
    exact wl_X8_centres_p39 E hr hk  s x1 v1 0 1 0 z hw (lv_sub hl [4, 5, 3, 2, 1, 0] rfl) hf
  · have hf := x_pos q3 hf
    refine lv_aload_n (pc := 10) E.1 E.2.1 dX8_centres_10 rfl (lv_at hl 1 rfl) ?_
    refine lv_aload_n (pc := 11) E.1 E.2.1 dX8_centres_11 rfl (lv_at hl 1 rfl) ?_
    refine xg_X8_51 (pc := 12) (v := .ref (ad 13)) E hw 0 rfl rfl dX8_centres_12 ?_
    refine lv_iload_n (pc := 15) E.1 E.2.1 dX8_centres_15 rfl (lv_at hl 2 rfl) ?_
    obtain ⟨v5, g4, hf⟩ := x_bind hf
    refine x_iald (pc := 16) E hw 13 rfl g4 dX8_centres_16 ?_
    refine lv_i2l (v := (Int32.toInt64 v5)) (pc := 17) E.1 E.2.1 dX8_centres_17 rfl ?_
    refine lv_aload_n (pc := 18) E.1 E.2.1 dX8_centres_18 rfl (lv_at hl 1 rfl) ?_
    refine xg_X8_48 (pc := 19) (v := .ref (ad 12)) E hw 0 rfl rfl dX8_centres_19 ?_
    refine lv_iload_n (pc := 22) E.1 E.2.1 dX8_centres_22 rfl (lv_at hl 2 rfl) ?_
    obtain ⟨v7, g6, hf⟩ := x_bind hf
    refine x_iald (pc := 23) E hw 12 rfl g6 dX8_centres_23 ?_
    refine lv_i2l (v := (Int32.toInt64 v7)) (pc := 24) E.1 E.2.1 dX8_centres_24 rfl ?_
    obtain ⟨v8, g9, hf⟩ := x_bind hf
    refine x_callVA (pc := 25) (As := [.long (Int32.toInt64 v5), .long (Int32.toInt64 v7)]) (rest := []) (st1 := []) (ws' := (cells8 G ad v8)) E hw hl (c_X8_is l G ad s (Int32.toInt64 v5) (Int32.toInt64 v7) g9) xv_X8_168 xd_X8_is rfl rfl ⟨Nat.le_of_ble_eq_true rfl, Nat.le_of_ble_eq_true rfl⟩ (q0 := 0) rfl rfl rfl rfl (Nat.le_of_ble_eq_true rfl) rfl rfl dX8_centres_25 (fun H locs hw => ?_)
    refine lv_goto (tgt := 120) (pc := 28) E.1 E.2.1 dX8_centres_28 (by decide) ?_
    exact w_X8_centres_p120 E hr hk  v8 x1 z hw (lv_sub hl [1, 2] rfl) hf
set_option maxHeartbeats 4000000 in
set_option maxRecDepth 100000 in
theorem c_X8_centres (l : Launch) (G : xG) (ad : Nat → Nat) (s : S8) (x1 : Int32) {z : S8} (hf : f_X8_centres s x1 = some z) : xC l yX8_centres cX8_centres 8 none (rm_X8_centres) G [.ref (ad 0), .int x1] (cells8 G ad s) none (cells8 G ad z) :=
  x_met (by decide) (Nat.le_of_ble_eq_true rfl) (fun p e sS m below meth c E hr hk ls hl hw => w_X8_centres_p0 E hr hk s x1 z hw hl hf)
set_option maxHeartbeats 4000000 in
set_option maxRecDepth 100000 in
theorem w_X8_rates_p15 {p : Program} {l : Launch} {e : Env} {sS : State} {m : MethodId} {args : Array Value} {below : List Frame} {meth : Method} {c : Code} {G : xG} {W0 : va_W} {ad : Nat → Nat}  {k15 : S8 → Int32 → Int64 → Int64 → Int32 → Option (S8)} (E : xE p sS m args c cX8_rates 7 RX8 G (x_in W0)) (hr : meth.sig.returnType = none) (hk : meth.locks = false) (hk15 : ∀ (s' : S8) (x1' : Int32) (x2' : Int64) (x4' : Int64) (x6' : Int32) (z : S8) {H : Heap} {locs : List Loc} {ls : Array Slot}, xW G (x_in W0) sS.heap (cells8 G ad s') H locs → lv_has ls 7 [(0, .ref (ad 0)), (1, .int x1'), (2, .long x2'), (4, .long x4'), (6, .int x6')] → k15  s' x1' x2' x4' x6' = some z → W p l e (rm_X8_rates) sS m args below meth c H locs 0 0 (MQ below (xQ G W0 (cells8 G ad z) none) args sS 0 0 (x_in W0)) (F0 m 15 ls [])) : ∀ (s' : S8) (x1' : Int32) (x2' : Int64) (x4' : Int64) (x6' : Int32) (z : S8) {H : Heap} {locs : List Loc} {ls : Array Slot}, xW G (x_in W0) sS.heap (cells8 G ad s') H locs → lv_has ls 7 [(0, .ref (ad 0)), (1, .int x1'), (2, .long x2'), (4, .long x4'), (6, .int x6')] → f_X8_rates_p15 k15 s' x1' x2' x4' x6' = some z → W p l e (rm_X8_rates) sS m args below meth c H locs 0 0 (MQ below (xQ G W0 (cells8 G ad z) none) args sS 0 0 (x_in W0)) (F0 m 15 ls []) := by
  intro s x1 x2 x4 x6 z H locs ls hw hl hf
  unfold f_X8_rates_p15 at hf
  refine lv_iload (pc := 15) E.1 E.2.1 dX8_rates_15 (lv_at hl 4 rfl) ?_
  refine lv_aload_n (pc := 17) E.1 E.2.1 dX8_rates_17 rfl (lv_at hl 0 rfl) ?_
  obtain ⟨v1, g2, hf⟩ := x_bind hf
  refine x_callVA (pc := 18) (As := []) (rest := [.int x6]) (st1 := [.int v1, .int x6]) (ws' := (cells8 G ad s)) E hw hl (c_X8_many l G ad s g2) xv_X8_80 xd_X8_many rfl rfl ⟨Nat.le_of_ble_eq_true rfl, Nat.le_of_ble_eq_true rfl⟩ (q0 := 0) rfl rfl rfl rfl (Nat.le_of_ble_eq_true rfl) rfl rfl dX8_rates_18 (fun H locs hw => ?_)
  refine lv_icmp_ge (tgt := 159) (pc := 21) E.1 E.2.1 dX8_rates_21 (by decide) (fun q3 => ?_) (fun q3 => ?_)
  · have hf := x_pos q3 hf
    refine lv_aload_n (pc := 159) E.1 E.2.1 dX8_rates_159 rfl (lv_at hl 0 rfl) ?_
    refine lv_lload_n (pc := 160) E.1 E.2.1 dX8_rates_160 rfl (lv_at hl 2 rfl) ?_
    refine lv_lload (pc := 161) E.1 E.2.1 dX8_rates_161 (lv_at hl 3 rfl) ?_
    obtain ⟨v4, g5, hf⟩ := x_bind hf
    refine x_callVA (pc := 163) (As := [.long x2, .long x4]) (rest := []) (st1 := []) (ws' := (cells8 G ad v4)) E hw hl (c_X8_is l G ad s x2 x4 g5) xv_X8_168 xd_X8_is rfl rfl ⟨Nat.le_of_ble_eq_true rfl, Nat.le_of_ble_eq_true rfl⟩ (q0 := 0) rfl rfl rfl rfl (Nat.le_of_ble_eq_true rfl) rfl rfl dX8_rates_163 (fun H locs hw => ?_)
    refine lv_aload_n (pc := 166) E.1 E.2.1 dX8_rates_166 rfl (lv_at hl 0 rfl) ?_
    refine lv_iload_n (pc := 167) E.1 E.2.1 dX8_rates_167 rfl (lv_at hl 1 rfl) ?_
    refine lv_iconst (v := 4) (pc := 168) E.1 E.2.1 dX8_rates_168 (by decide) ?_
    obtain ⟨v6, g7, hf⟩ := x_bind hf
    refine x_callVA (pc := 169) (As := [.int x1, .int 4]) (rest := []) (st1 := []) (ws' := (cells8 G ad v6)) E hw hl (c_X8_puts l G ad v4 x1 4 g7) xv_X8_194 xd_X8_puts rfl rfl ⟨Nat.le_of_ble_eq_true rfl, Nat.le_of_ble_eq_true rfl⟩ (q0 := 0) rfl rfl rfl rfl (Nat.le_of_ble_eq_true rfl) rfl rfl dX8_rates_169 (fun H locs hw => ?_)
    obtain rfl := Option.some.inj hf
    exact x_retv (pc := 172) E hr hk hw dX8_rates_172
  · have hf := x_neg q3 hf
    refine lv_aload_n (pc := 24) E.1 E.2.1 dX8_rates_24 rfl (lv_at hl 0 rfl) ?_
    refine lv_iload (pc := 25) E.1 E.2.1 dX8_rates_25 (lv_at hl 4 rfl) ?_
    refine lv_iload_n (pc := 27) E.1 E.2.1 dX8_rates_27 rfl (lv_at hl 1 rfl) ?_
    obtain ⟨v8, g9, hf⟩ := x_bind hf
    refine x_callVA (pc := 28) (As := [.int x6, .int x1]) (rest := []) (st1 := [.int v8]) (ws' := (cells8 G ad s)) E hw hl (c_X8_isIn l G ad s x6 x1 g9) xv_X8_184 xd_X8_isIn rfl rfl ⟨Nat.le_of_ble_eq_true rfl, Nat.le_of_ble_eq_true rfl⟩ (q0 := 0) rfl rfl rfl rfl (Nat.le_of_ble_eq_true rfl) rfl rfl dX8_rates_28 (fun H locs hw => ?_)
    refine lv_if_ne (tgt := 37) (pc := 31) E.1 E.2.1 dX8_rates_31 (by decide) (fun q10 => ?_) (fun q10 => ?_)
    · have hf := x_neg q10 hf
      refine lv_aload_n (pc := 37) E.1 E.2.1 dX8_rates_37 rfl (lv_at hl 0 rfl) ?_
      refine lv_aload_n (pc := 38) E.1 E.2.1 dX8_rates_38 rfl (lv_at hl 0 rfl) ?_
      refine xg_X8_35 (pc := 39) (v := .ref (ad 8)) E hw 0 rfl rfl dX8_rates_39 ?_
      refine lv_iload (pc := 42) E.1 E.2.1 dX8_rates_42 (lv_at hl 4 rfl) ?_
      obtain ⟨v12, g11, hf⟩ := x_bind hf
      refine x_iald (pc := 44) E hw 8 rfl g11 dX8_rates_44 ?_
      refine lv_aload_n (pc := 45) E.1 E.2.1 dX8_rates_45 rfl (lv_at hl 0 rfl) ?_
      refine xg_X8_29 (pc := 46) (v := .ref (ad 6)) E hw 0 rfl rfl dX8_rates_46 ?_
      refine lv_iload (pc := 49) E.1 E.2.1 dX8_rates_49 (lv_at hl 4 rfl) ?_
      obtain ⟨v14, g13, hf⟩ := x_bind hf
      refine x_iald (pc := 51) E hw 6 rfl g13 dX8_rates_51 ?_
      refine lv_i2l (v := (Int32.toInt64 v14)) (pc := 52) E.1 E.2.1 dX8_rates_52 rfl ?_
      refine lv_aload_n (pc := 53) E.1 E.2.1 dX8_rates_53 rfl (lv_at hl 0 rfl) ?_
      refine xg_X8_26 (pc := 54) (v := .ref (ad 5)) E hw 0 rfl rfl dX8_rates_54 ?_
      refine lv_iload (pc := 57) E.1 E.2.1 dX8_rates_57 (lv_at hl 4 rfl) ?_
      obtain ⟨v16, g15, hf⟩ := x_bind hf
      refine x_iald (pc := 59) E hw 5 rfl g15 dX8_rates_59 ?_
      refine lv_i2l (v := (Int32.toInt64 v16)) (pc := 60) E.1 E.2.1 dX8_rates_60 rfl ?_
      refine lv_aload_n (pc := 61) E.1 E.2.1 dX8_rates_61 rfl (lv_at hl 0 rfl) ?_
      refine xg_X8_57 (pc := 62) (v := .ref (ad 15)) E hw 0 rfl rfl dX8_rates_62 ?_
      refine lv_iconst (v := 5) (pc := 65) E.1 E.2.1 dX8_rates_65 (by decide) ?_
      refine lv_iload_n (pc := 66) E.1 E.2.1 dX8_rates_66 rfl (lv_at hl 1 rfl) ?_
      refine lv_imul (pc := 67) E.1 E.2.1 dX8_rates_67 ?_
      refine lv_iconst (v := 3) (pc := 68) E.1 E.2.1 dX8_rates_68 (by decide) ?_
      refine lv_iadd (pc := 69) E.1 E.2.1 dX8_rates_69 ?_
      obtain ⟨v18, g17, hf⟩ := x_bind hf
      refine x_lald (pc := 70) E hw 15 rfl g17 dX8_rates_70 ?_
      refine lv_aload_n (pc := 71) E.1 E.2.1 dX8_rates_71 rfl (lv_at hl 0 rfl) ?_
      refine xg_X8_60 (pc := 72) (v := .ref (ad 16)) E hw 0 rfl rfl dX8_rates_72 ?_
      refine lv_iconst (v := 5) (pc := 75) E.1 E.2.1 dX8_rates_75 (by decide) ?_
      refine lv_iload_n (pc := 76) E.1 E.2.1 dX8_rates_76 rfl (lv_at hl 1 rfl) ?_
      refine lv_imul (pc := 77) E.1 E.2.1 dX8_rates_77 ?_
      refine lv_iconst (v := 3) (pc := 78) E.1 E.2.1 dX8_rates_78 (by decide) ?_
      refine lv_iadd (pc := 79) E.1 E.2.1 dX8_rates_79 ?_
      obtain ⟨v20, g19, hf⟩ := x_bind hf
      refine x_lald (pc := 80) E hw 16 rfl g19 dX8_rates_80 ?_
      obtain ⟨v21, g22, hf⟩ := x_bind hf
      refine x_callVA (pc := 81) (As := [.int v12, .long (Int32.toInt64 v14), .long (Int32.toInt64 v16), .long v18, .long v20]) (rest := []) (st1 := []) (ws' := (cells8 G ad v21)) E hw hl (c_X8_mixes l G ad s v12 (Int32.toInt64 v14) (Int32.toInt64 v16) v18 v20 g22) xv_X8_202 xd_X8_mixes rfl rfl ⟨Nat.le_of_ble_eq_true rfl, Nat.le_of_ble_eq_true rfl⟩ (q0 := 0) rfl rfl rfl rfl (Nat.le_of_ble_eq_true rfl) rfl rfl dX8_rates_81 (fun H locs hw => ?_)
      refine lv_aload_n (pc := 84) E.1 E.2.1 dX8_rates_84 rfl (lv_at hl 0 rfl) ?_
      refine xg_X8_38 (pc := 85) (v := .ref (ad 9)) E hw 0 rfl rfl dX8_rates_85 ?_
      refine lv_iload (pc := 88) E.1 E.2.1 dX8_rates_88 (lv_at hl 4 rfl) ?_
      refine lv_aload_n (pc := 90) E.1 E.2.1 dX8_rates_90 rfl (lv_at hl 0 rfl) ?_
      refine xg_X8_161 (pc := 91) (v := .long (g8_upper v21)) E hw 0 rfl rfl dX8_rates_91 ?_
      obtain ⟨w24, g23, hf⟩ := x_bind hf
      refine x_last (pc := 94) (ws' := (cells8 G ad (u8_rateUp v21 w24))) E hw 9 rfl g23 rfl dX8_rates_94 (fun H locs hw => ?_)
      refine lv_aload_n (pc := 95) E.1 E.2.1 dX8_rates_95 rfl (lv_at hl 0 rfl) ?_
      refine xg_X8_42 (pc := 96) (v := .ref (ad 10)) E hw 0 rfl rfl dX8_rates_96 ?_
      refine lv_iload (pc := 99) E.1 E.2.1 dX8_rates_99 (lv_at hl 4 rfl) ?_
      refine lv_aload_n (pc := 101) E.1 E.2.1 dX8_rates_101 rfl (lv_at hl 0 rfl) ?_
      refine xg_X8_165 (pc := 102) (v := .long (g8_lower (u8_rateUp v21 w24))) E hw 0 rfl rfl dX8_rates_102 ?_
      obtain ⟨w26, g25, hf⟩ := x_bind hf
      refine x_last (pc := 105) (ws' := (cells8 G ad (u8_rateLow (u8_rateUp v21 w24) w26))) E hw 10 rfl g25 rfl dX8_rates_105 (fun H locs hw => ?_)
      refine lv_aload_n (pc := 106) E.1 E.2.1 dX8_rates_106 rfl (lv_at hl 0 rfl) ?_
      refine lv_aload_n (pc := 107) E.1 E.2.1 dX8_rates_107 rfl (lv_at hl 0 rfl) ?_
      refine xg_X8_161 (pc := 108) (v := .long (g8_upper (u8_rateLow (u8_rateUp v21 w24) w26))) E hw 0 rfl rfl dX8_rates_108 ?_
      refine lv_aload_n (pc := 111) E.1 E.2.1 dX8_rates_111 rfl (lv_at hl 0 rfl) ?_
      refine xg_X8_165 (pc := 112) (v := .long (g8_lower (u8_rateLow (u8_rateUp v21 w24) w26))) E hw 0 rfl rfl dX8_rates_112 ?_
      refine lv_aload_n (pc := 115) E.1 E.2.1 dX8_rates_115 rfl (lv_at hl 0 rfl) ?_
      refine xg_X8_26 (pc := 116) (v := .ref (ad 5)) E hw 0 rfl rfl dX8_rates_116 ?_
      refine lv_iload (pc := 119) E.1 E.2.1 dX8_rates_119 (lv_at hl 4 rfl) ?_
      obtain ⟨v28, g27, hf⟩ := x_bind hf
      refine x_iald (pc := 121) E hw 5 rfl g27 dX8_rates_121 ?_
      refine lv_i2l (v := (Int32.toInt64 v28)) (pc := 122) E.1 E.2.1 dX8_rates_122 rfl ?_
      refine lv_lconst (v := 1) (pc := 123) E.1 E.2.1 dX8_rates_123 (by decide) ?_
      obtain ⟨v29, g30, hf⟩ := x_bind hf
      refine x_callVA (pc := 124) (As := [.long (g8_upper (u8_rateLow (u8_rateUp v21 w24) w26)), .long (g8_lower (u8_rateLow (u8_rateUp v21 w24) w26)), .long (Int32.toInt64 v28), .long 1]) (rest := []) (st1 := []) (ws' := (cells8 G ad v29)) E hw hl (c_X8_multiplies l G ad (u8_rateLow (u8_rateUp v21 w24) w26) (g8_upper (u8_rateLow (u8_rateUp v21 w24) w26)) (g8_lower (u8_rateLow (u8_rateUp v21 w24) w26)) (Int32.toInt64 v28) 1 g30) xv_X8_191 xd_X8_multiplies rfl rfl ⟨Nat.le_of_ble_eq_true rfl, Nat.le_of_ble_eq_true rfl⟩ (q0 := 0) rfl rfl rfl rfl (Nat.le_of_ble_eq_true rfl) rfl rfl dX8_rates_124 (fun H locs hw => ?_)
      refine lv_aload_n (pc := 127) E.1 E.2.1 dX8_rates_127 rfl (lv_at hl 0 rfl) ?_
      refine lv_lload_n (pc := 128) E.1 E.2.1 dX8_rates_128 rfl (lv_at hl 2 rfl) ?_
      refine lv_lload (pc := 129) E.1 E.2.1 dX8_rates_129 (lv_at hl 3 rfl) ?_
      refine lv_aload_n (pc := 131) E.1 E.2.1 dX8_rates_131 rfl (lv_at hl 0 rfl) ?_
      refine xg_X8_161 (pc := 132) (v := .long (g8_upper v29)) E hw 0 rfl rfl dX8_rates_132 ?_
      refine lv_aload_n (pc := 135) E.1 E.2.1 dX8_rates_135 rfl (lv_at hl 0 rfl) ?_
      refine xg_X8_165 (pc := 136) (v := .long (g8_lower v29)) E hw 0 rfl rfl dX8_rates_136 ?_
      obtain ⟨v31, g32, hf⟩ := x_bind hf
      refine x_callVA (pc := 139) (As := [.long x2, .long x4, .long (g8_upper v29), .long (g8_lower v29)]) (rest := []) (st1 := []) (ws' := (cells8 G ad v31)) E hw hl (c_X8_adds l G ad v29 x2 x4 (g8_upper v29) (g8_lower v29) g32) xv_X8_187 xd_X8_adds rfl rfl ⟨Nat.le_of_ble_eq_true rfl, Nat.le_of_ble_eq_true rfl⟩ (q0 := 0) rfl rfl rfl rfl (Nat.le_of_ble_eq_true rfl) rfl rfl dX8_rates_139 (fun H locs hw => ?_)
      refine lv_aload_n (pc := 142) E.1 E.2.1 dX8_rates_142 rfl (lv_at hl 0 rfl) ?_
      refine xg_X8_161 (pc := 143) (v := .long (g8_upper v31)) E hw 0 rfl rfl dX8_rates_143 ?_
      refine lv_lstore_n (lv' := [(2, .long (g8_upper v31)), (0, .ref (ad 0)), (1, .int x1), (4, .long x4), (6, .int x6)]) (pc := 146) E.1 E.2.1 dX8_rates_146 rfl hl (by decide) rfl (fun ls hl => ?_)
      refine lv_aload_n (pc := 147) E.1 E.2.1 dX8_rates_147 rfl (lv_at hl 1 rfl) ?_
      refine xg_X8_165 (pc := 148) (v := .long (g8_lower v31)) E hw 0 rfl rfl dX8_rates_148 ?_
      refine lv_lstore (lv' := [(4, .long (g8_lower v31)), (2, .long (g8_upper v31)), (0, .ref (ad 0)), (1, .int x1), (6, .int x6)]) (pc := 151) E.1 E.2.1 dX8_rates_151 hl (by decide) rfl (fun ls hl => ?_)
      refine lv_iinc (v := (x6 + 1)) (lv' := [(6, .int (x6 + 1)), (4, .long (g8_lower v31)), (2, .long (g8_upper v31)), (0, .ref (ad 0)), (1, .int x1)]) (pc := 153) E.1 E.2.1 dX8_rates_153 hl (k := 4) rfl rfl (by decide) rfl (fun ls hl => ?_)
      refine lv_goto (tgt := 15) (pc := 156) E.1 E.2.1 dX8_rates_156 (by decide) ?_
      exact hk15 v31 x1 (g8_upper v31) (g8_lower v31) (x6 + 1) z hw (lv_sub hl [3, 4, 2, 1, 0] rfl) hf
    · have hf := x_pos q10 hf
      refine lv_goto (tgt := 153) (pc := 34) E.1 E.2.1 dX8_rates_34 (by decide) ?_
      refine lv_iinc (v := (x6 + 1)) (lv' := [(6, .int (x6 + 1)), (0, .ref (ad 0)), (1, .int x1), (2, .long x2), (4, .long x4)]) (pc := 153) E.1 E.2.1 dX8_rates_153 hl (k := 4) rfl rfl (by decide) rfl (fun ls hl => ?_)
      refine lv_goto (tgt := 15) (pc := 156) E.1 E.2.1 dX8_rates_156 (by decide) ?_
      exact hk15 s x1 x2 x4 (x6 + 1) z hw (lv_sub hl [1, 2, 3, 4, 0] rfl) hf
set_option maxHeartbeats 4000000 in
set_option maxRecDepth 100000 in
theorem wl_X8_rates_p15 {p : Program} {l : Launch} {e : Env} {sS : State} {m : MethodId} {args : Array Value} {below : List Frame} {meth : Method} {c : Code} {G : xG} {W0 : va_W} {ad : Nat → Nat}   (E : xE p sS m args c cX8_rates 7 RX8 G (x_in W0)) (hr : meth.sig.returnType = none) (hk : meth.locks = false)  : ∀ (s' : S8) (x1' : Int32) (x2' : Int64) (x4' : Int64) (x6' : Int32) (z : S8) {H : Heap} {locs : List Loc} {ls : Array Slot}, xW G (x_in W0) sS.heap (cells8 G ad s') H locs → lv_has ls 7 [(0, .ref (ad 0)), (1, .int x1'), (2, .long x2'), (4, .long x4'), (6, .int x6')] → lp_X8_rates_p15  s' x1' x2' x4' x6' = some z → W p l e (rm_X8_rates) sS m args below meth c H locs 0 0 (MQ below (xQ G W0 (cells8 G ad z) none) args sS 0 0 (x_in W0)) (F0 m 15 ls []) := by
  intro s x1 x2 x4 x6 z H locs ls hw hl hf
  exact x_loop_W (P := fun (q : S8 × Int32 × Int64 × Int64 × Int32) (z : S8) => ∀ {H : Heap} {locs : List Loc} {ls : Array Slot}, xW G (x_in W0) sS.heap (cells8 G ad q.1) H locs → lv_has ls 7 [(0, .ref (ad 0)), (1, .int q.2.1), (2, .long q.2.2.1), (4, .long q.2.2.2.1), (6, .int q.2.2.2.2)] → W p l e (rm_X8_rates) sS m args below meth c H locs 0 0 (MQ below (xQ G W0 (cells8 G ad z) none) args sS 0 0 (x_in W0)) (F0 m 15 ls [])) (fun k hkk q z hf H locs ls hw hl => w_X8_rates_p15 E hr hk  (fun s x1 x2 x4 x6 z H locs ls hw hl hf => hkk (s, x1, x2, x4, x6) z hf hw hl) q.1 q.2.1 q.2.2.1 q.2.2.2.1 q.2.2.2.2 z hw hl hf) FU (s, x1, x2, x4, x6) z hf hw hl
set_option maxHeartbeats 4000000 in
set_option maxRecDepth 100000 in
theorem w_X8_rates_p0 {p : Program} {l : Launch} {e : Env} {sS : State} {m : MethodId} {args : Array Value} {below : List Frame} {meth : Method} {c : Code} {G : xG} {W0 : va_W} {ad : Nat → Nat}   (E : xE p sS m args c cX8_rates 7 RX8 G (x_in W0)) (hr : meth.sig.returnType = none) (hk : meth.locks = false)  : ∀ (s' : S8) (x1' : Int32) (z : S8) {H : Heap} {locs : List Loc} {ls : Array Slot}, xW G (x_in W0) sS.heap (cells8 G ad s') H locs → lv_has ls 7 [(0, .ref (ad 0)), (1, .int x1')] → f_X8_rates  s' x1' = some z → W p l e (rm_X8_rates) sS m args below meth c H locs 0 0 (MQ below (xQ G W0 (cells8 G ad z) none) args sS 0 0 (x_in W0)) (F0 m 0 ls []) := by
  intro s x1 z H locs ls hw hl hf
  unfold f_X8_rates at hf
  refine lv_aload_n (pc := 0) E.1 E.2.1 dX8_rates_0 rfl (lv_at hl 0 rfl) ?_
  refine xg_X8_51 (pc := 1) (v := .ref (ad 13)) E hw 0 rfl rfl dX8_rates_1 ?_
  refine lv_iload_n (pc := 4) E.1 E.2.1 dX8_rates_4 rfl (lv_at hl 1 rfl) ?_
  obtain ⟨v2, g1, hf⟩ := x_bind hf
  refine x_iald (pc := 5) E hw 13 rfl g1 dX8_rates_5 ?_
  refine lv_ineg (pc := 6) E.1 E.2.1 dX8_rates_6 ?_
  refine lv_i2l (v := (Int32.toInt64 (-v2))) (pc := 7) E.1 E.2.1 dX8_rates_7 rfl ?_
  refine lv_lstore_n (lv' := [(2, .long (Int32.toInt64 (-v2))), (0, .ref (ad 0)), (1, .int x1)]) (pc := 8) E.1 E.2.1 dX8_rates_8 rfl hl (by decide) rfl (fun ls hl => ?_)
  refine lv_lconst (v := 1) (pc := 9) E.1 E.2.1 dX8_rates_9 (by decide) ?_
  refine lv_lstore (lv' := [(4, .long 1), (2, .long (Int32.toInt64 (-v2))), (0, .ref (ad 0)), (1, .int x1)]) (pc := 10) E.1 E.2.1 dX8_rates_10 hl (by decide) rfl (fun ls hl => ?_)
  refine lv_iconst (v := 0) (pc := 12) E.1 E.2.1 dX8_rates_12 (by decide) ?_
  refine lv_istore (lv' := [(6, .int 0), (4, .long 1), (2, .long (Int32.toInt64 (-v2))), (0, .ref (ad 0)), (1, .int x1)]) (pc := 13) E.1 E.2.1 dX8_rates_13 hl (by decide) rfl (fun ls hl => ?_)
  exact wl_X8_rates_p15 E hr hk  s x1 (Int32.toInt64 (-v2)) 1 0 z hw (lv_sub hl [3, 4, 2, 1, 0] rfl) hf
set_option maxHeartbeats 4000000 in
set_option maxRecDepth 100000 in
theorem c_X8_rates (l : Launch) (G : xG) (ad : Nat → Nat) (s : S8) (x1 : Int32) {z : S8} (hf : f_X8_rates s x1 = some z) : xC l yX8_rates cX8_rates 7 none (rm_X8_rates) G [.ref (ad 0), .int x1] (cells8 G ad s) none (cells8 G ad z) :=
  x_met (by decide) (Nat.le_of_ble_eq_true rfl) (fun p e sS m below meth c E hr hk ls hl hw => w_X8_rates_p0 E hr hk s x1 z hw hl hf)
set_option maxHeartbeats 4000000 in
set_option maxRecDepth 100000 in
theorem w_X8_works_p38 {p : Program} {l : Launch} {e : Env} {sS : State} {m : MethodId} {args : Array Value} {below : List Frame} {meth : Method} {c : Code} {G : xG} {W0 : va_W} {ad : Nat → Nat}  {k6 : S8 → Int32 → Option (S8)} {k38 : S8 → Int32 → Int32 → Option (S8)} (E : xE p sS m args c cX8_works 3 RX8 G (x_in W0)) (hr : meth.sig.returnType = none) (hk : meth.locks = false) (hk6 : ∀ (s' : S8) (x1' : Int32) (z : S8) {H : Heap} {locs : List Loc} {ls : Array Slot}, xW G (x_in W0) sS.heap (cells8 G ad s') H locs → lv_has ls 3 [(0, .ref (ad 0)), (1, .int x1')] → k6  s' x1' = some z → W p l e (rm_X8_works) sS m args below meth c H locs 0 0 (MQ below (xQ G W0 (cells8 G ad z) none) args sS 0 0 (x_in W0)) (F0 m 6 ls [])) (hk38 : ∀ (s' : S8) (x1' : Int32) (x2' : Int32) (z : S8) {H : Heap} {locs : List Loc} {ls : Array Slot}, xW G (x_in W0) sS.heap (cells8 G ad s') H locs → lv_has ls 3 [(0, .ref (ad 0)), (1, .int x1'), (2, .int x2')] → k38  s' x1' x2' = some z → W p l e (rm_X8_works) sS m args below meth c H locs 0 0 (MQ below (xQ G W0 (cells8 G ad z) none) args sS 0 0 (x_in W0)) (F0 m 38 ls [])) : ∀ (s' : S8) (x1' : Int32) (x2' : Int32) (z : S8) {H : Heap} {locs : List Loc} {ls : Array Slot}, xW G (x_in W0) sS.heap (cells8 G ad s') H locs → lv_has ls 3 [(0, .ref (ad 0)), (1, .int x1'), (2, .int x2')] → f_X8_works_p38 k6 k38 s' x1' x2' = some z → W p l e (rm_X8_works) sS m args below meth c H locs 0 0 (MQ below (xQ G W0 (cells8 G ad z) none) args sS 0 0 (x_in W0)) (F0 m 38 ls []) := by
  intro s x1 x2 z H locs ls hw hl hf
  unfold f_X8_works_p38 at hf
  refine lv_iload_n (pc := 38) E.1 E.2.1 dX8_works_38 rfl (lv_at hl 2 rfl) ?_
  refine lv_aload_n (pc := 39) E.1 E.2.1 dX8_works_39 rfl (lv_at hl 0 rfl) ?_
  obtain ⟨v1, g2, hf⟩ := x_bind hf
  refine x_callVA (pc := 40) (As := []) (rest := [.int x2]) (st1 := [.int v1, .int x2]) (ws' := (cells8 G ad s)) E hw hl (c_X8_many l G ad s g2) xv_X8_80 xd_X8_many rfl rfl ⟨Nat.le_of_ble_eq_true rfl, Nat.le_of_ble_eq_true rfl⟩ (q0 := 0) rfl rfl rfl rfl (Nat.le_of_ble_eq_true rfl) rfl rfl dX8_works_40 (fun H locs hw => ?_)
  refine lv_icmp_ge (tgt := 78) (pc := 43) E.1 E.2.1 dX8_works_43 (by decide) (fun q3 => ?_) (fun q3 => ?_)
  · have hf := x_pos q3 hf
    refine lv_aload_n (pc := 78) E.1 E.2.1 dX8_works_78 rfl (lv_at hl 0 rfl) ?_
    refine lv_iload_n (pc := 79) E.1 E.2.1 dX8_works_79 rfl (lv_at hl 1 rfl) ?_
    obtain ⟨v4, g5, hf⟩ := x_bind hf
    refine x_callVA (pc := 80) (As := [.int x1]) (rest := []) (st1 := []) (ws' := (cells8 G ad v4)) E hw hl (c_X8_centres l G ad s x1 g5) xv_X8_215 xd_X8_centres rfl rfl ⟨Nat.le_of_ble_eq_true rfl, Nat.le_of_ble_eq_true rfl⟩ (q0 := 0) rfl rfl rfl rfl (Nat.le_of_ble_eq_true rfl) rfl rfl dX8_works_80 (fun H locs hw => ?_)
    refine lv_aload_n (pc := 83) E.1 E.2.1 dX8_works_83 rfl (lv_at hl 0 rfl) ?_
    refine lv_iload_n (pc := 84) E.1 E.2.1 dX8_works_84 rfl (lv_at hl 1 rfl) ?_
    obtain ⟨v6, g7, hf⟩ := x_bind hf
    refine x_callVA (pc := 85) (As := [.int x1]) (rest := []) (st1 := []) (ws' := (cells8 G ad v6)) E hw hl (c_X8_rates l G ad v4 x1 g7) xv_X8_218 xd_X8_rates rfl rfl ⟨Nat.le_of_ble_eq_true rfl, Nat.le_of_ble_eq_true rfl⟩ (q0 := 0) rfl rfl rfl rfl (Nat.le_of_ble_eq_true rfl) rfl rfl dX8_works_85 (fun H locs hw => ?_)
    refine lv_iinc (v := (x1 + 1)) (lv' := [(1, .int (x1 + 1)), (0, .ref (ad 0)), (2, .int x2)]) (pc := 88) E.1 E.2.1 dX8_works_88 hl (k := 1) rfl rfl (by decide) rfl (fun ls hl => ?_)
    refine lv_goto (tgt := 6) (pc := 91) E.1 E.2.1 dX8_works_91 (by decide) ?_
    exact hk6 v6 (x1 + 1) z hw (lv_sub hl [1, 0] rfl) hf
  · have hf := x_neg q3 hf
    refine lv_aload_n (pc := 46) E.1 E.2.1 dX8_works_46 rfl (lv_at hl 0 rfl) ?_
    refine lv_iload_n (pc := 47) E.1 E.2.1 dX8_works_47 rfl (lv_at hl 2 rfl) ?_
    refine lv_iload_n (pc := 48) E.1 E.2.1 dX8_works_48 rfl (lv_at hl 1 rfl) ?_
    obtain ⟨v8, g9, hf⟩ := x_bind hf
    refine x_callVA (pc := 49) (As := [.int x2, .int x1]) (rest := []) (st1 := [.int v8]) (ws' := (cells8 G ad s)) E hw hl (c_X8_isIn l G ad s x2 x1 g9) xv_X8_184 xd_X8_isIn rfl rfl ⟨Nat.le_of_ble_eq_true rfl, Nat.le_of_ble_eq_true rfl⟩ (q0 := 0) rfl rfl rfl rfl (Nat.le_of_ble_eq_true rfl) rfl rfl dX8_works_49 (fun H locs hw => ?_)
    refine lv_if_eq (tgt := 72) (pc := 52) E.1 E.2.1 dX8_works_52 (by decide) (fun q10 => ?_) (fun q10 => ?_)
    · have hf := x_pos q10 hf
      refine lv_iinc (v := (x2 + 1)) (lv' := [(2, .int (x2 + 1)), (0, .ref (ad 0)), (1, .int x1)]) (pc := 72) E.1 E.2.1 dX8_works_72 hl (k := 2) rfl rfl (by decide) rfl (fun ls hl => ?_)
      refine lv_goto (tgt := 38) (pc := 75) E.1 E.2.1 dX8_works_75 (by decide) ?_
      exact hk38 s x1 (x2 + 1) z hw (lv_sub hl [1, 2, 0] rfl) hf
    · have hf := x_neg q10 hf
      refine lv_aload_n (pc := 55) E.1 E.2.1 dX8_works_55 rfl (lv_at hl 0 rfl) ?_
      refine xg_X8_35 (pc := 56) (v := .ref (ad 8)) E hw 0 rfl rfl dX8_works_56 ?_
      refine lv_iload_n (pc := 59) E.1 E.2.1 dX8_works_59 rfl (lv_at hl 2 rfl) ?_
      refine lv_aload_n (pc := 60) E.1 E.2.1 dX8_works_60 rfl (lv_at hl 0 rfl) ?_
      refine lv_iload_n (pc := 61) E.1 E.2.1 dX8_works_61 rfl (lv_at hl 1 rfl) ?_
      refine lv_aload_n (pc := 62) E.1 E.2.1 dX8_works_62 rfl (lv_at hl 0 rfl) ?_
      refine xg_X8_26 (pc := 63) (v := .ref (ad 5)) E hw 0 rfl rfl dX8_works_63 ?_
      refine lv_iload_n (pc := 66) E.1 E.2.1 dX8_works_66 rfl (lv_at hl 2 rfl) ?_
      obtain ⟨v12, g11, hf⟩ := x_bind hf
      refine x_iald (pc := 67) E hw 5 rfl g11 dX8_works_67 ?_
      obtain ⟨v13, g14, hf⟩ := x_bind hf
      refine x_callVA (pc := 68) (As := [.int x1, .int v12]) (rest := [.int x2, .ref (ad 8)]) (st1 := [.int v13.1, .int x2, .ref (ad 8)]) (ws' := (cells8 G ad v13.2)) E hw hl (c_X8_shareOf l G ad s x1 v12 g14) xv_X8_212 xd_X8_shareOf rfl rfl ⟨Nat.le_of_ble_eq_true rfl, Nat.le_of_ble_eq_true rfl⟩ (q0 := 0) rfl rfl rfl rfl (Nat.le_of_ble_eq_true rfl) rfl rfl dX8_works_68 (fun H locs hw => ?_)
      obtain ⟨w16, g15, hf⟩ := x_bind hf
      refine x_iast (pc := 71) (ws' := (cells8 G ad (u8_share v13.2 w16))) E hw 8 rfl g15 rfl dX8_works_71 (fun H locs hw => ?_)
      refine lv_iinc (v := (x2 + 1)) (lv' := [(2, .int (x2 + 1)), (0, .ref (ad 0)), (1, .int x1)]) (pc := 72) E.1 E.2.1 dX8_works_72 hl (k := 2) rfl rfl (by decide) rfl (fun ls hl => ?_)
      refine lv_goto (tgt := 38) (pc := 75) E.1 E.2.1 dX8_works_75 (by decide) ?_
      exact hk38 (u8_share v13.2 w16) x1 (x2 + 1) z hw (lv_sub hl [1, 2, 0] rfl) hf
set_option maxHeartbeats 4000000 in
set_option maxRecDepth 100000 in
theorem wl_X8_works_p38 {p : Program} {l : Launch} {e : Env} {sS : State} {m : MethodId} {args : Array Value} {below : List Frame} {meth : Method} {c : Code} {G : xG} {W0 : va_W} {ad : Nat → Nat}  {k6 : S8 → Int32 → Option (S8)} (E : xE p sS m args c cX8_works 3 RX8 G (x_in W0)) (hr : meth.sig.returnType = none) (hk : meth.locks = false) (hk6 : ∀ (s' : S8) (x1' : Int32) (z : S8) {H : Heap} {locs : List Loc} {ls : Array Slot}, xW G (x_in W0) sS.heap (cells8 G ad s') H locs → lv_has ls 3 [(0, .ref (ad 0)), (1, .int x1')] → k6  s' x1' = some z → W p l e (rm_X8_works) sS m args below meth c H locs 0 0 (MQ below (xQ G W0 (cells8 G ad z) none) args sS 0 0 (x_in W0)) (F0 m 6 ls [])) : ∀ (s' : S8) (x1' : Int32) (x2' : Int32) (z : S8) {H : Heap} {locs : List Loc} {ls : Array Slot}, xW G (x_in W0) sS.heap (cells8 G ad s') H locs → lv_has ls 3 [(0, .ref (ad 0)), (1, .int x1'), (2, .int x2')] → lp_X8_works_p38 k6 s' x1' x2' = some z → W p l e (rm_X8_works) sS m args below meth c H locs 0 0 (MQ below (xQ G W0 (cells8 G ad z) none) args sS 0 0 (x_in W0)) (F0 m 38 ls []) := by
  intro s x1 x2 z H locs ls hw hl hf
  exact x_loop_W (P := fun (q : S8 × Int32 × Int32) (z : S8) => ∀ {H : Heap} {locs : List Loc} {ls : Array Slot}, xW G (x_in W0) sS.heap (cells8 G ad q.1) H locs → lv_has ls 3 [(0, .ref (ad 0)), (1, .int q.2.1), (2, .int q.2.2)] → W p l e (rm_X8_works) sS m args below meth c H locs 0 0 (MQ below (xQ G W0 (cells8 G ad z) none) args sS 0 0 (x_in W0)) (F0 m 38 ls [])) (fun k hkk q z hf H locs ls hw hl => w_X8_works_p38 E hr hk hk6 (fun s x1 x2 z H locs ls hw hl hf => hkk (s, x1, x2) z hf hw hl) q.1 q.2.1 q.2.2 z hw hl hf) FU (s, x1, x2) z hf hw hl
set_option maxHeartbeats 4000000 in
set_option maxRecDepth 100000 in
theorem w_X8_works_p6 {p : Program} {l : Launch} {e : Env} {sS : State} {m : MethodId} {args : Array Value} {below : List Frame} {meth : Method} {c : Code} {G : xG} {W0 : va_W} {ad : Nat → Nat}  {k6 : S8 → Int32 → Option (S8)} (E : xE p sS m args c cX8_works 3 RX8 G (x_in W0)) (hr : meth.sig.returnType = none) (hk : meth.locks = false) (hk6 : ∀ (s' : S8) (x1' : Int32) (z : S8) {H : Heap} {locs : List Loc} {ls : Array Slot}, xW G (x_in W0) sS.heap (cells8 G ad s') H locs → lv_has ls 3 [(0, .ref (ad 0)), (1, .int x1')] → k6  s' x1' = some z → W p l e (rm_X8_works) sS m args below meth c H locs 0 0 (MQ below (xQ G W0 (cells8 G ad z) none) args sS 0 0 (x_in W0)) (F0 m 6 ls [])) : ∀ (s' : S8) (x1' : Int32) (z : S8) {H : Heap} {locs : List Loc} {ls : Array Slot}, xW G (x_in W0) sS.heap (cells8 G ad s') H locs → lv_has ls 3 [(0, .ref (ad 0)), (1, .int x1')] → f_X8_works_p6 k6 s' x1' = some z → W p l e (rm_X8_works) sS m args below meth c H locs 0 0 (MQ below (xQ G W0 (cells8 G ad z) none) args sS 0 0 (x_in W0)) (F0 m 6 ls []) := by
  intro s x1 z H locs ls hw hl hf
  unfold f_X8_works_p6 at hf
  refine lv_iload_n (pc := 6) E.1 E.2.1 dX8_works_6 rfl (lv_at hl 1 rfl) ?_
  refine lv_iconst (v := 3) (pc := 7) E.1 E.2.1 dX8_works_7 (by decide) ?_
  refine lv_icmp_ge (tgt := 94) (pc := 8) E.1 E.2.1 dX8_works_8 (by decide) (fun q1 => ?_) (fun q1 => ?_)
  · have hf := x_pos q1 hf
    obtain rfl := Option.some.inj hf
    exact x_retv (pc := 94) E hr hk hw dX8_works_94
  · have hf := x_neg q1 hf
    refine lv_aload_n (pc := 11) E.1 E.2.1 dX8_works_11 rfl (lv_at hl 0 rfl) ?_
    refine lv_iload_n (pc := 12) E.1 E.2.1 dX8_works_12 rfl (lv_at hl 1 rfl) ?_
    obtain ⟨v2, g3, hf⟩ := x_bind hf
    refine x_callVA (pc := 13) (As := [.int x1]) (rest := []) (st1 := []) (ws' := (cells8 G ad v2)) E hw hl (c_X8_spreads l G ad s x1 g3) xv_X8_209 xd_X8_spreads rfl rfl ⟨Nat.le_of_ble_eq_true rfl, Nat.le_of_ble_eq_true rfl⟩ (q0 := 0) rfl rfl rfl rfl (Nat.le_of_ble_eq_true rfl) rfl rfl dX8_works_13 (fun H locs hw => ?_)
    refine lv_aload_n (pc := 16) E.1 E.2.1 dX8_works_16 rfl (lv_at hl 0 rfl) ?_
    refine xg_X8_54 (pc := 17) (v := .ref (ad 14)) E hw 0 rfl rfl dX8_works_17 ?_
    refine lv_iload_n (pc := 20) E.1 E.2.1 dX8_works_20 rfl (lv_at hl 1 rfl) ?_
    refine lv_bipush (v := (-2)) (pc := 21) E.1 E.2.1 dX8_works_21 (by decide) ?_
    obtain ⟨w5, g4, hf⟩ := x_bind hf
    refine x_iast (pc := 23) (ws' := (cells8 G ad (u8_steadied v2 w5))) E hw 14 rfl g4 rfl dX8_works_23 (fun H locs hw => ?_)
    refine lv_aload_n (pc := 24) E.1 E.2.1 dX8_works_24 rfl (lv_at hl 0 rfl) ?_
    refine xg_X8_45 (pc := 25) (v := .ref (ad 11)) E hw 0 rfl rfl dX8_works_25 ?_
    refine lv_iload_n (pc := 28) E.1 E.2.1 dX8_works_28 rfl (lv_at hl 1 rfl) ?_
    obtain ⟨v7, g6, hf⟩ := x_bind hf
    refine x_iald (pc := 29) E hw 11 rfl g6 dX8_works_29 ?_
    refine lv_if_ne (tgt := 36) (pc := 30) E.1 E.2.1 dX8_works_30 (by decide) (fun q8 => ?_) (fun q8 => ?_)
    · have hf := x_neg q8 hf
      refine lv_iconst (v := 0) (pc := 36) E.1 E.2.1 dX8_works_36 (by decide) ?_
      refine lv_istore_n (lv' := [(2, .int 0), (0, .ref (ad 0)), (1, .int x1)]) (pc := 37) E.1 E.2.1 dX8_works_37 rfl hl (by decide) rfl (fun ls hl => ?_)
      exact wl_X8_works_p38 E hr hk hk6 (u8_steadied v2 w5) x1 0 z hw (lv_sub hl [1, 2, 0] rfl) hf
    · have hf := x_pos q8 hf
      refine lv_goto (tgt := 88) (pc := 33) E.1 E.2.1 dX8_works_33 (by decide) ?_
      refine lv_iinc (v := (x1 + 1)) (lv' := [(1, .int (x1 + 1)), (0, .ref (ad 0))]) (pc := 88) E.1 E.2.1 dX8_works_88 hl (k := 1) rfl rfl (by decide) rfl (fun ls hl => ?_)
      refine lv_goto (tgt := 6) (pc := 91) E.1 E.2.1 dX8_works_91 (by decide) ?_
      exact hk6 (u8_steadied v2 w5) (x1 + 1) z hw (lv_sub hl [1, 0] rfl) hf
set_option maxHeartbeats 4000000 in
set_option maxRecDepth 100000 in
theorem wl_X8_works_p6 {p : Program} {l : Launch} {e : Env} {sS : State} {m : MethodId} {args : Array Value} {below : List Frame} {meth : Method} {c : Code} {G : xG} {W0 : va_W} {ad : Nat → Nat}   (E : xE p sS m args c cX8_works 3 RX8 G (x_in W0)) (hr : meth.sig.returnType = none) (hk : meth.locks = false)  : ∀ (s' : S8) (x1' : Int32) (z : S8) {H : Heap} {locs : List Loc} {ls : Array Slot}, xW G (x_in W0) sS.heap (cells8 G ad s') H locs → lv_has ls 3 [(0, .ref (ad 0)), (1, .int x1')] → lp_X8_works_p6  s' x1' = some z → W p l e (rm_X8_works) sS m args below meth c H locs 0 0 (MQ below (xQ G W0 (cells8 G ad z) none) args sS 0 0 (x_in W0)) (F0 m 6 ls []) := by
  intro s x1 z H locs ls hw hl hf
  exact x_loop_W (P := fun (q : S8 × Int32) (z : S8) => ∀ {H : Heap} {locs : List Loc} {ls : Array Slot}, xW G (x_in W0) sS.heap (cells8 G ad q.1) H locs → lv_has ls 3 [(0, .ref (ad 0)), (1, .int q.2)] → W p l e (rm_X8_works) sS m args below meth c H locs 0 0 (MQ below (xQ G W0 (cells8 G ad z) none) args sS 0 0 (x_in W0)) (F0 m 6 ls [])) (fun k hkk q z hf H locs ls hw hl => w_X8_works_p6 E hr hk  (fun s x1 z H locs ls hw hl hf => hkk (s, x1) z hf hw hl) q.1 q.2 z hw hl hf) FU (s, x1) z hf hw hl
set_option maxHeartbeats 4000000 in
set_option maxRecDepth 100000 in
theorem w_X8_works_p0 {p : Program} {l : Launch} {e : Env} {sS : State} {m : MethodId} {args : Array Value} {below : List Frame} {meth : Method} {c : Code} {G : xG} {W0 : va_W} {ad : Nat → Nat}   (E : xE p sS m args c cX8_works 3 RX8 G (x_in W0)) (hr : meth.sig.returnType = none) (hk : meth.locks = false)  : ∀ (s' : S8) (z : S8) {H : Heap} {locs : List Loc} {ls : Array Slot}, xW G (x_in W0) sS.heap (cells8 G ad s') H locs → lv_has ls 3 [(0, .ref (ad 0))] → f_X8_works  s' = some z → W p l e (rm_X8_works) sS m args below meth c H locs 0 0 (MQ below (xQ G W0 (cells8 G ad z) none) args sS 0 0 (x_in W0)) (F0 m 0 ls []) := by
  intro s z H locs ls hw hl hf
  unfold f_X8_works at hf
  refine lv_aload_n (pc := 0) E.1 E.2.1 dX8_works_0 rfl (lv_at hl 0 rfl) ?_
  obtain ⟨v1, g2, hf⟩ := x_bind hf
  refine x_callVA (pc := 1) (As := []) (rest := []) (st1 := []) (ws' := (cells8 G ad v1)) E hw hl (c_X8_sums l G ad s g2) xv_X8_206 xd_X8_sums rfl rfl ⟨Nat.le_of_ble_eq_true rfl, Nat.le_of_ble_eq_true rfl⟩ (q0 := 0) rfl rfl rfl rfl (Nat.le_of_ble_eq_true rfl) rfl rfl dX8_works_1 (fun H locs hw => ?_)
  refine lv_iconst (v := 0) (pc := 4) E.1 E.2.1 dX8_works_4 (by decide) ?_
  refine lv_istore_n (lv' := [(1, .int 0), (0, .ref (ad 0))]) (pc := 5) E.1 E.2.1 dX8_works_5 rfl hl (by decide) rfl (fun ls hl => ?_)
  exact wl_X8_works_p6 E hr hk  v1 0 z hw (lv_sub hl [1, 0] rfl) hf
set_option maxHeartbeats 4000000 in
set_option maxRecDepth 100000 in
theorem c_X8_works (l : Launch) (G : xG) (ad : Nat → Nat) (s : S8) {z : S8} (hf : f_X8_works s = some z) : xC l yX8_works cX8_works 3 none (rm_X8_works) G [.ref (ad 0)] (cells8 G ad s) none (cells8 G ad z) :=
  x_met (by decide) (Nat.le_of_ble_eq_true rfl) (fun p e sS m below meth c E hr hk ls hl hw => w_X8_works_p0 E hr hk s z hw hl hf)
set_option maxHeartbeats 4000000 in
set_option maxRecDepth 100000 in
theorem w_X8_inThousandths_p0 {p : Program} {l : Launch} {e : Env} {sS : State} {m : MethodId} {args : Array Value} {below : List Frame} {meth : Method} {c : Code} {G : xG} {W0 : va_W} {ad : Nat → Nat}   (E : xE p sS m args c cX8_inThousandths 2 RX8 G (x_in W0)) (hr : meth.sig.returnType = (some .int)) (hk : meth.locks = false)  : ∀ (s' : S8) (x1' : Int32) (z : Int32) {H : Heap} {locs : List Loc} {ls : Array Slot}, xW G (x_in W0) sS.heap (cells8 G ad s') H locs → lv_has ls 2 [(0, .ref (ad 0)), (1, .int x1')] → f_X8_inThousandths  s' x1' = some z → W p l e (rm_X8_inThousandths) sS m args below meth c H locs 0 0 (MQ below (xQ G W0 (cells8 G ad s') (some (.int z))) args sS 0 0 (x_in W0)) (F0 m 0 ls []) := by
  intro s x1 z H locs ls hw hl hf
  unfold f_X8_inThousandths at hf
  refine lv_aload_n (pc := 0) E.1 E.2.1 dX8_inThousandths_0 rfl (lv_at hl 0 rfl) ?_
  refine xg_X8_38 (pc := 1) (v := .ref (ad 9)) E hw 0 rfl rfl dX8_inThousandths_1 ?_
  refine lv_iload_n (pc := 4) E.1 E.2.1 dX8_inThousandths_4 rfl (lv_at hl 1 rfl) ?_
  obtain ⟨v2, g1, hf⟩ := x_bind hf
  refine x_lald (pc := 5) E hw 9 rfl g1 dX8_inThousandths_5 ?_
  refine lv_aload_n (pc := 6) E.1 E.2.1 dX8_inThousandths_6 rfl (lv_at hl 0 rfl) ?_
  refine xg_X8_42 (pc := 7) (v := .ref (ad 10)) E hw 0 rfl rfl dX8_inThousandths_7 ?_
  refine lv_iload_n (pc := 10) E.1 E.2.1 dX8_inThousandths_10 rfl (lv_at hl 1 rfl) ?_
  obtain ⟨v4, g3, hf⟩ := x_bind hf
  refine x_lald (pc := 11) E hw 10 rfl g3 dX8_inThousandths_11 ?_
  obtain ⟨u6, g5, hf⟩ := x_bind hf
  refine lv_ldiv (pc := 12) E.1 E.2.1 dX8_inThousandths_12 (x_nzl_some g5) ?_
  refine lv_ldc2 (v := 1000) (pc := 13) E.1 E.2.1 E.2.2.2.1 (E.2.2.2.2.1 _ wq_1483) dX8_inThousandths_13 ?_
  refine lv_lmul (pc := 16) E.1 E.2.1 dX8_inThousandths_16 ?_
  refine lv_aload_n (pc := 17) E.1 E.2.1 dX8_inThousandths_17 rfl (lv_at hl 0 rfl) ?_
  refine xg_X8_38 (pc := 18) (v := .ref (ad 9)) E hw 0 rfl rfl dX8_inThousandths_18 ?_
  refine lv_iload_n (pc := 21) E.1 E.2.1 dX8_inThousandths_21 rfl (lv_at hl 1 rfl) ?_
  obtain ⟨v8, g7, hf⟩ := x_bind hf
  refine x_lald (pc := 22) E hw 9 rfl g7 dX8_inThousandths_22 ?_
  refine lv_aload_n (pc := 23) E.1 E.2.1 dX8_inThousandths_23 rfl (lv_at hl 0 rfl) ?_
  refine xg_X8_42 (pc := 24) (v := .ref (ad 10)) E hw 0 rfl rfl dX8_inThousandths_24 ?_
  refine lv_iload_n (pc := 27) E.1 E.2.1 dX8_inThousandths_27 rfl (lv_at hl 1 rfl) ?_
  obtain ⟨v10, g9, hf⟩ := x_bind hf
  refine x_lald (pc := 28) E hw 10 rfl g9 dX8_inThousandths_28 ?_
  obtain ⟨u12, g11, hf⟩ := x_bind hf
  refine lv_lrem (pc := 29) E.1 E.2.1 dX8_inThousandths_29 (x_nzl_some g11) ?_
  refine lv_ldc2 (v := 1000) (pc := 30) E.1 E.2.1 E.2.2.2.1 (E.2.2.2.2.1 _ wq_1483) dX8_inThousandths_30 ?_
  refine lv_lmul (pc := 33) E.1 E.2.1 dX8_inThousandths_33 ?_
  refine lv_aload_n (pc := 34) E.1 E.2.1 dX8_inThousandths_34 rfl (lv_at hl 0 rfl) ?_
  refine xg_X8_42 (pc := 35) (v := .ref (ad 10)) E hw 0 rfl rfl dX8_inThousandths_35 ?_
  refine lv_iload_n (pc := 38) E.1 E.2.1 dX8_inThousandths_38 rfl (lv_at hl 1 rfl) ?_
  obtain ⟨v14, g13, hf⟩ := x_bind hf
  refine x_lald (pc := 39) E hw 10 rfl g13 dX8_inThousandths_39 ?_
  obtain ⟨u16, g15, hf⟩ := x_bind hf
  refine lv_ldiv (pc := 40) E.1 E.2.1 dX8_inThousandths_40 (x_nzl_some g15) ?_
  refine lv_ladd (pc := 41) E.1 E.2.1 dX8_inThousandths_41 ?_
  refine lv_l2i (v := (Int64.toInt32 (((v2 / v4) * 1000) + (((v8 - v8 / v10 * v10) * 1000) / v14)))) (pc := 42) E.1 E.2.1 dX8_inThousandths_42 rfl ?_
  obtain rfl := Option.some.inj hf
  exact x_reti (pc := 43) E hr hk hw dX8_inThousandths_43
set_option maxHeartbeats 4000000 in
set_option maxRecDepth 100000 in
theorem c_X8_inThousandths (l : Launch) (G : xG) (ad : Nat → Nat) (s : S8) (x1 : Int32) {z : Int32} (hf : f_X8_inThousandths s x1 = some z) : xC l yX8_inThousandths cX8_inThousandths 2 (some .int) (rm_X8_inThousandths) G [.ref (ad 0), .int x1] (cells8 G ad s) (some (.int z)) (cells8 G ad s) :=
  x_met (by decide) (Nat.le_of_ble_eq_true rfl) (fun p e sS m below meth c E hr hk ls hl hw => w_X8_inThousandths_p0 E hr hk s x1 z hw hl hf)
set_option maxHeartbeats 4000000 in
set_option maxRecDepth 100000 in
theorem w_X8_isRated_p0 {p : Program} {l : Launch} {e : Env} {sS : State} {m : MethodId} {args : Array Value} {below : List Frame} {meth : Method} {c : Code} {G : xG} {W0 : va_W} {ad : Nat → Nat}   (E : xE p sS m args c cX8_isRated 2 RX8 G (x_in W0)) (hr : meth.sig.returnType = (some .boolean)) (hk : meth.locks = false)  : ∀ (s' : S8) (x1' : Int32) (z : Int32) {H : Heap} {locs : List Loc} {ls : Array Slot}, xW G (x_in W0) sS.heap (cells8 G ad s') H locs → lv_has ls 2 [(0, .ref (ad 0)), (1, .int x1')] → f_X8_isRated  s' x1' = some z → W p l e (rm_X8_isRated) sS m args below meth c H locs 0 0 (MQ below (xQ G W0 (cells8 G ad s') (some (.int z))) args sS 0 0 (x_in W0)) (F0 m 0 ls []) := by
  intro s x1 z H locs ls hw hl hf
  unfold f_X8_isRated at hf
  refine lv_aload_n (pc := 0) E.1 E.2.1 dX8_isRated_0 rfl (lv_at hl 0 rfl) ?_
  refine lv_iload_n (pc := 1) E.1 E.2.1 dX8_isRated_1 rfl (lv_at hl 1 rfl) ?_
  obtain ⟨v1, g2, hf⟩ := x_bind hf
  refine x_callVA (pc := 2) (As := [.int x1]) (rest := []) (st1 := [.int v1]) (ws' := (cells8 G ad s)) E hw hl (c_X8_yearsOf l G ad s x1 g2) xv_X8_91 xd_X8_yearsOf rfl rfl ⟨Nat.le_of_ble_eq_true rfl, Nat.le_of_ble_eq_true rfl⟩ (q0 := 0) rfl rfl rfl rfl (Nat.le_of_ble_eq_true rfl) rfl rfl dX8_isRated_2 (fun H locs hw => ?_)
  refine lv_if_eq (tgt := 12) (pc := 5) E.1 E.2.1 dX8_isRated_5 (by decide) (fun q3 => ?_) (fun q3 => ?_)
  · have hf := x_pos q3 hf
    refine lv_iconst (v := 0) (pc := 12) E.1 E.2.1 dX8_isRated_12 (by decide) ?_
    obtain rfl := Option.some.inj hf
    exact x_retz (pc := 13) (v := 0) (r := 0) E hr hk hw (by decide) dX8_isRated_13
  · have hf := x_neg q3 hf
    refine lv_iconst (v := 1) (pc := 8) E.1 E.2.1 dX8_isRated_8 (by decide) ?_
    refine lv_goto (tgt := 13) (pc := 9) E.1 E.2.1 dX8_isRated_9 (by decide) ?_
    obtain rfl := Option.some.inj hf
    exact x_retz (pc := 13) (v := 1) (r := 1) E hr hk hw (by decide) dX8_isRated_13
set_option maxHeartbeats 4000000 in
set_option maxRecDepth 100000 in
theorem c_X8_isRated (l : Launch) (G : xG) (ad : Nat → Nat) (s : S8) (x1 : Int32) {z : Int32} (hf : f_X8_isRated s x1 = some z) : xC l yX8_isRated cX8_isRated 2 (some .boolean) (rm_X8_isRated) G [.ref (ad 0), .int x1] (cells8 G ad s) (some (.int z)) (cells8 G ad s) :=
  x_met (by decide) (Nat.le_of_ble_eq_true rfl) (fun p e sS m below meth c E hr hk ls hl hw => w_X8_isRated_p0 E hr hk s x1 z hw hl hf)
set_option maxHeartbeats 4000000 in
set_option maxRecDepth 100000 in
theorem w_X8_ratedNow_p0 {p : Program} {l : Launch} {e : Env} {sS : State} {m : MethodId} {args : Array Value} {below : List Frame} {meth : Method} {c : Code} {G : xG} {W0 : va_W} {ad : Nat → Nat}   (E : xE p sS m args c cX8_ratedNow 2 RX8 G (x_in W0)) (hr : meth.sig.returnType = (some .int)) (hk : meth.locks = false)  : ∀ (s' : S8) (x1' : Int32) (z : Int32 × S8) {H : Heap} {locs : List Loc} {ls : Array Slot}, xW G (x_in W0) sS.heap (cells8 G ad s') H locs → lv_has ls 2 [(0, .ref (ad 0)), (1, .int x1')] → f_X8_ratedNow  s' x1' = some z → W p l e (rm_X8_ratedNow) sS m args below meth c H locs 0 0 (MQ below (xQ G W0 (cells8 G ad z.2) (some (.int z.1))) args sS 0 0 (x_in W0)) (F0 m 0 ls []) := by
  intro s x1 z H locs ls hw hl hf
  unfold f_X8_ratedNow at hf
  refine lv_aload_n (pc := 0) E.1 E.2.1 dX8_ratedNow_0 rfl (lv_at hl 0 rfl) ?_
  obtain ⟨v1, g2, hf⟩ := x_bind hf
  refine x_callVA (pc := 1) (As := []) (rest := []) (st1 := []) (ws' := (cells8 G ad v1)) E hw hl (c_X8_works l G ad s g2) xv_X8_221 xd_X8_works rfl rfl ⟨Nat.le_of_ble_eq_true rfl, Nat.le_of_ble_eq_true rfl⟩ (q0 := 0) rfl rfl rfl rfl (Nat.le_of_ble_eq_true rfl) rfl rfl dX8_ratedNow_1 (fun H locs hw => ?_)
  refine lv_aload_n (pc := 4) E.1 E.2.1 dX8_ratedNow_4 rfl (lv_at hl 0 rfl) ?_
  refine lv_iload_n (pc := 5) E.1 E.2.1 dX8_ratedNow_5 rfl (lv_at hl 1 rfl) ?_
  obtain ⟨v3, g4, hf⟩ := x_bind hf
  refine x_callVA (pc := 6) (As := [.int x1]) (rest := []) (st1 := [.int v3]) (ws' := (cells8 G ad v1)) E hw hl (c_X8_inThousandths l G ad v1 x1 g4) xv_X8_224 xd_X8_inThousandths rfl rfl ⟨Nat.le_of_ble_eq_true rfl, Nat.le_of_ble_eq_true rfl⟩ (q0 := 0) rfl rfl rfl rfl (Nat.le_of_ble_eq_true rfl) rfl rfl dX8_ratedNow_6 (fun H locs hw => ?_)
  obtain rfl := Option.some.inj hf
  exact x_reti (pc := 9) E hr hk hw dX8_ratedNow_9
set_option maxHeartbeats 4000000 in
set_option maxRecDepth 100000 in
theorem c_X8_ratedNow (l : Launch) (G : xG) (ad : Nat → Nat) (s : S8) (x1 : Int32) {z : Int32 × S8} (hf : f_X8_ratedNow s x1 = some z) : xC l yX8_ratedNow cX8_ratedNow 2 (some .int) (rm_X8_ratedNow) G [.ref (ad 0), .int x1] (cells8 G ad s) (some (.int z.1)) (cells8 G ad z.2) :=
  x_met (by decide) (Nat.le_of_ble_eq_true rfl) (fun p e sS m below meth c E hr hk ls hl hw => w_X8_ratedNow_p0 E hr hk s x1 z hw hl hf)
set_option maxHeartbeats 4000000 in
set_option maxRecDepth 100000 in
theorem w_X8_aboveCap_p26 {p : Program} {l : Launch} {e : Env} {sS : State} {m : MethodId} {args : Array Value} {below : List Frame} {meth : Method} {c : Code} {G : xG} {W0 : va_W} {ad : Nat → Nat}  {k4 : S8 → Int32 → Int32 → Int32 → Option (Int32)} (E : xE p sS m args c cX8_aboveCap 4 RX8 G (x_in W0)) (hr : meth.sig.returnType = (some .int)) (hk : meth.locks = false) (hk4 : ∀ (s' : S8) (x1' : Int32) (x2' : Int32) (x3' : Int32) (z : Int32) {H : Heap} {locs : List Loc} {ls : Array Slot}, xW G (x_in W0) sS.heap (cells8 G ad s') H locs → lv_has ls 4 [(0, .ref (ad 0)), (1, .int x1'), (2, .int x2'), (3, .int x3')] → k4  s' x1' x2' x3' = some z → W p l e (rm_X8_aboveCap) sS m args below meth c H locs 0 0 (MQ below (xQ G W0 (cells8 G ad s') (some (.int z))) args sS 0 0 (x_in W0)) (F0 m 4 ls [])) : ∀ (s' : S8) (x1' : Int32) (x2' : Int32) (x3' : Int32) (z : Int32) {H : Heap} {locs : List Loc} {ls : Array Slot}, xW G (x_in W0) sS.heap (cells8 G ad s') H locs → lv_has ls 4 [(0, .ref (ad 0)), (1, .int x1'), (2, .int x2'), (3, .int x3')] → f_X8_aboveCap_p26 k4 s' x1' x2' x3' = some z → W p l e (rm_X8_aboveCap) sS m args below meth c H locs 0 0 (MQ below (xQ G W0 (cells8 G ad s') (some (.int z))) args sS 0 0 (x_in W0)) (F0 m 26 ls []) := by
  intro s x1 x2 x3 z H locs ls hw hl hf
  unfold f_X8_aboveCap_p26 at hf
  refine lv_aload_n (pc := 26) E.1 E.2.1 dX8_aboveCap_26 rfl (lv_at hl 0 rfl) ?_
  refine lv_iload_n (pc := 27) E.1 E.2.1 dX8_aboveCap_27 rfl (lv_at hl 3 rfl) ?_
  obtain ⟨v1, g2, hf⟩ := x_bind hf
  refine x_callVA (pc := 28) (As := [.int x3]) (rest := []) (st1 := [.int v1]) (ws' := (cells8 G ad s)) E hw hl (c_X8_amountOf l G ad s x3 g2) xv_X8_95 xd_X8_amountOf rfl rfl ⟨Nat.le_of_ble_eq_true rfl, Nat.le_of_ble_eq_true rfl⟩ (q0 := 0) rfl rfl rfl rfl (Nat.le_of_ble_eq_true rfl) rfl rfl dX8_aboveCap_28 (fun H locs hw => ?_)
  refine lv_aload_n (pc := 31) E.1 E.2.1 dX8_aboveCap_31 rfl (lv_at hl 0 rfl) ?_
  refine xg_X8_13 (pc := 32) (v := .ref (ad 1)) E hw 0 rfl rfl dX8_aboveCap_32 ?_
  refine lv_iconst (v := 0) (pc := 35) E.1 E.2.1 dX8_aboveCap_35 (by decide) ?_
  obtain ⟨v4, g3, hf⟩ := x_bind hf
  refine x_iald (pc := 36) E hw 1 rfl g3 dX8_aboveCap_36 ?_
  refine lv_icmp_le (tgt := 43) (pc := 37) E.1 E.2.1 dX8_aboveCap_37 (by decide) (fun q5 => ?_) (fun q5 => ?_)
  · have hf := x_pos q5 hf
    refine lv_iinc (v := (x3 + 1)) (lv' := [(3, .int (x3 + 1)), (0, .ref (ad 0)), (1, .int x1), (2, .int x2)]) (pc := 43) E.1 E.2.1 dX8_aboveCap_43 hl (k := 3) rfl rfl (by decide) rfl (fun ls hl => ?_)
    refine lv_goto (tgt := 4) (pc := 46) E.1 E.2.1 dX8_aboveCap_46 (by decide) ?_
    exact hk4 s x1 x2 (x3 + 1) z hw (lv_sub hl [1, 2, 3, 0] rfl) hf
  · have hf := x_neg q5 hf
    refine lv_iinc (v := (x2 + 1)) (lv' := [(2, .int (x2 + 1)), (0, .ref (ad 0)), (1, .int x1), (3, .int x3)]) (pc := 40) E.1 E.2.1 dX8_aboveCap_40 hl (k := 2) rfl rfl (by decide) rfl (fun ls hl => ?_)
    refine lv_iinc (v := (x3 + 1)) (lv' := [(3, .int (x3 + 1)), (2, .int (x2 + 1)), (0, .ref (ad 0)), (1, .int x1)]) (pc := 43) E.1 E.2.1 dX8_aboveCap_43 hl (k := 3) rfl rfl (by decide) rfl (fun ls hl => ?_)
    refine lv_goto (tgt := 4) (pc := 46) E.1 E.2.1 dX8_aboveCap_46 (by decide) ?_
    exact hk4 s x1 (x2 + 1) (x3 + 1) z hw (lv_sub hl [2, 3, 1, 0] rfl) hf
set_option maxHeartbeats 4000000 in
set_option maxRecDepth 100000 in
theorem w_X8_aboveCap_p4 {p : Program} {l : Launch} {e : Env} {sS : State} {m : MethodId} {args : Array Value} {below : List Frame} {meth : Method} {c : Code} {G : xG} {W0 : va_W} {ad : Nat → Nat}  {k4 : S8 → Int32 → Int32 → Int32 → Option (Int32)} (E : xE p sS m args c cX8_aboveCap 4 RX8 G (x_in W0)) (hr : meth.sig.returnType = (some .int)) (hk : meth.locks = false) (hk4 : ∀ (s' : S8) (x1' : Int32) (x2' : Int32) (x3' : Int32) (z : Int32) {H : Heap} {locs : List Loc} {ls : Array Slot}, xW G (x_in W0) sS.heap (cells8 G ad s') H locs → lv_has ls 4 [(0, .ref (ad 0)), (1, .int x1'), (2, .int x2'), (3, .int x3')] → k4  s' x1' x2' x3' = some z → W p l e (rm_X8_aboveCap) sS m args below meth c H locs 0 0 (MQ below (xQ G W0 (cells8 G ad s') (some (.int z))) args sS 0 0 (x_in W0)) (F0 m 4 ls [])) : ∀ (s' : S8) (x1' : Int32) (x2' : Int32) (x3' : Int32) (z : Int32) {H : Heap} {locs : List Loc} {ls : Array Slot}, xW G (x_in W0) sS.heap (cells8 G ad s') H locs → lv_has ls 4 [(0, .ref (ad 0)), (1, .int x1'), (2, .int x2'), (3, .int x3')] → f_X8_aboveCap_p4 k4 s' x1' x2' x3' = some z → W p l e (rm_X8_aboveCap) sS m args below meth c H locs 0 0 (MQ below (xQ G W0 (cells8 G ad s') (some (.int z))) args sS 0 0 (x_in W0)) (F0 m 4 ls []) := by
  intro s x1 x2 x3 z H locs ls hw hl hf
  unfold f_X8_aboveCap_p4 at hf
  refine lv_iload_n (pc := 4) E.1 E.2.1 dX8_aboveCap_4 rfl (lv_at hl 3 rfl) ?_
  refine lv_aload_n (pc := 5) E.1 E.2.1 dX8_aboveCap_5 rfl (lv_at hl 0 rfl) ?_
  obtain ⟨v1, g2, hf⟩ := x_bind hf
  refine x_callVA (pc := 6) (As := []) (rest := [.int x3]) (st1 := [.int v1, .int x3]) (ws' := (cells8 G ad s)) E hw hl (c_X8_claims l G ad s g2) xv_X8_88 xd_X8_claims rfl rfl ⟨Nat.le_of_ble_eq_true rfl, Nat.le_of_ble_eq_true rfl⟩ (q0 := 0) rfl rfl rfl rfl (Nat.le_of_ble_eq_true rfl) rfl rfl dX8_aboveCap_6 (fun H locs hw => ?_)
  refine lv_icmp_ge (tgt := 49) (pc := 9) E.1 E.2.1 dX8_aboveCap_9 (by decide) (fun q3 => ?_) (fun q3 => ?_)
  · have hf := x_pos q3 hf
    refine lv_iload_n (pc := 49) E.1 E.2.1 dX8_aboveCap_49 rfl (lv_at hl 2 rfl) ?_
    obtain rfl := Option.some.inj hf
    exact x_reti (pc := 50) E hr hk hw dX8_aboveCap_50
  · have hf := x_neg q3 hf
    refine lv_iload_n (pc := 12) E.1 E.2.1 dX8_aboveCap_12 rfl (lv_at hl 1 rfl) ?_
    refine lv_iconst (v := (-1)) (pc := 13) E.1 E.2.1 dX8_aboveCap_13 (by decide) ?_
    refine lv_icmp_eq (tgt := 26) (pc := 14) E.1 E.2.1 dX8_aboveCap_14 (by decide) (fun q4 => ?_) (fun q4 => ?_)
    · have hf := x_pos q4 hf
      exact w_X8_aboveCap_p26 E hr hk hk4 s x1 x2 x3 z hw (lv_sub hl [0, 1, 2, 3] rfl) hf
    · have hf := x_neg q4 hf
      refine lv_aload_n (pc := 17) E.1 E.2.1 dX8_aboveCap_17 rfl (lv_at hl 0 rfl) ?_
      refine lv_iload_n (pc := 18) E.1 E.2.1 dX8_aboveCap_18 rfl (lv_at hl 3 rfl) ?_
      obtain ⟨v5, g6, hf⟩ := x_bind hf
      refine x_callVA (pc := 19) (As := [.int x3]) (rest := []) (st1 := [.int v5]) (ws' := (cells8 G ad s)) E hw hl (c_X8_fleetOf l G ad s x3 g6) xv_X8_98 xd_X8_fleetOf rfl rfl ⟨Nat.le_of_ble_eq_true rfl, Nat.le_of_ble_eq_true rfl⟩ (q0 := 0) rfl rfl rfl rfl (Nat.le_of_ble_eq_true rfl) rfl rfl dX8_aboveCap_19 (fun H locs hw => ?_)
      refine lv_iload_n (pc := 22) E.1 E.2.1 dX8_aboveCap_22 rfl (lv_at hl 1 rfl) ?_
      refine lv_icmp_ne (tgt := 43) (pc := 23) E.1 E.2.1 dX8_aboveCap_23 (by decide) (fun q7 => ?_) (fun q7 => ?_)
      · have hf := x_neg q7 hf
        refine lv_iinc (v := (x3 + 1)) (lv' := [(3, .int (x3 + 1)), (0, .ref (ad 0)), (1, .int x1), (2, .int x2)]) (pc := 43) E.1 E.2.1 dX8_aboveCap_43 hl (k := 3) rfl rfl (by decide) rfl (fun ls hl => ?_)
        refine lv_goto (tgt := 4) (pc := 46) E.1 E.2.1 dX8_aboveCap_46 (by decide) ?_
        exact hk4 s x1 x2 (x3 + 1) z hw (lv_sub hl [1, 2, 3, 0] rfl) hf
      · have hf := x_pos q7 hf
        exact w_X8_aboveCap_p26 E hr hk hk4 s x1 x2 x3 z hw (lv_sub hl [0, 1, 2, 3] rfl) hf
set_option maxHeartbeats 4000000 in
set_option maxRecDepth 100000 in
theorem wl_X8_aboveCap_p4 {p : Program} {l : Launch} {e : Env} {sS : State} {m : MethodId} {args : Array Value} {below : List Frame} {meth : Method} {c : Code} {G : xG} {W0 : va_W} {ad : Nat → Nat}   (E : xE p sS m args c cX8_aboveCap 4 RX8 G (x_in W0)) (hr : meth.sig.returnType = (some .int)) (hk : meth.locks = false)  : ∀ (s' : S8) (x1' : Int32) (x2' : Int32) (x3' : Int32) (z : Int32) {H : Heap} {locs : List Loc} {ls : Array Slot}, xW G (x_in W0) sS.heap (cells8 G ad s') H locs → lv_has ls 4 [(0, .ref (ad 0)), (1, .int x1'), (2, .int x2'), (3, .int x3')] → lp_X8_aboveCap_p4  s' x1' x2' x3' = some z → W p l e (rm_X8_aboveCap) sS m args below meth c H locs 0 0 (MQ below (xQ G W0 (cells8 G ad s') (some (.int z))) args sS 0 0 (x_in W0)) (F0 m 4 ls []) := by
  intro s x1 x2 x3 z H locs ls hw hl hf
  exact x_loop_W (P := fun (q : S8 × Int32 × Int32 × Int32) (z : Int32) => ∀ {H : Heap} {locs : List Loc} {ls : Array Slot}, xW G (x_in W0) sS.heap (cells8 G ad q.1) H locs → lv_has ls 4 [(0, .ref (ad 0)), (1, .int q.2.1), (2, .int q.2.2.1), (3, .int q.2.2.2)] → W p l e (rm_X8_aboveCap) sS m args below meth c H locs 0 0 (MQ below (xQ G W0 (cells8 G ad q.1) (some (.int z))) args sS 0 0 (x_in W0)) (F0 m 4 ls [])) (fun k hkk q z hf H locs ls hw hl => w_X8_aboveCap_p4 E hr hk  (fun s x1 x2 x3 z H locs ls hw hl hf => hkk (s, x1, x2, x3) z hf hw hl) q.1 q.2.1 q.2.2.1 q.2.2.2 z hw hl hf) FU (s, x1, x2, x3) z hf hw hl
set_option maxHeartbeats 4000000 in
set_option maxRecDepth 100000 in
theorem w_X8_aboveCap_p0 {p : Program} {l : Launch} {e : Env} {sS : State} {m : MethodId} {args : Array Value} {below : List Frame} {meth : Method} {c : Code} {G : xG} {W0 : va_W} {ad : Nat → Nat}   (E : xE p sS m args c cX8_aboveCap 4 RX8 G (x_in W0)) (hr : meth.sig.returnType = (some .int)) (hk : meth.locks = false)  : ∀ (s' : S8) (x1' : Int32) (z : Int32) {H : Heap} {locs : List Loc} {ls : Array Slot}, xW G (x_in W0) sS.heap (cells8 G ad s') H locs → lv_has ls 4 [(0, .ref (ad 0)), (1, .int x1')] → f_X8_aboveCap  s' x1' = some z → W p l e (rm_X8_aboveCap) sS m args below meth c H locs 0 0 (MQ below (xQ G W0 (cells8 G ad s') (some (.int z))) args sS 0 0 (x_in W0)) (F0 m 0 ls []) := by
  intro s x1 z H locs ls hw hl hf
  unfold f_X8_aboveCap at hf
  refine lv_iconst (v := 0) (pc := 0) E.1 E.2.1 dX8_aboveCap_0 (by decide) ?_
  refine lv_istore_n (lv' := [(2, .int 0), (0, .ref (ad 0)), (1, .int x1)]) (pc := 1) E.1 E.2.1 dX8_aboveCap_1 rfl hl (by decide) rfl (fun ls hl => ?_)
  refine lv_iconst (v := 0) (pc := 2) E.1 E.2.1 dX8_aboveCap_2 (by decide) ?_
  refine lv_istore_n (lv' := [(3, .int 0), (2, .int 0), (0, .ref (ad 0)), (1, .int x1)]) (pc := 3) E.1 E.2.1 dX8_aboveCap_3 rfl hl (by decide) rfl (fun ls hl => ?_)
  exact wl_X8_aboveCap_p4 E hr hk  s x1 0 0 z hw (lv_sub hl [2, 3, 1, 0] rfl) hf
set_option maxHeartbeats 4000000 in
set_option maxRecDepth 100000 in
theorem c_X8_aboveCap (l : Launch) (G : xG) (ad : Nat → Nat) (s : S8) (x1 : Int32) {z : Int32} (hf : f_X8_aboveCap s x1 = some z) : xC l yX8_aboveCap cX8_aboveCap 4 (some .int) (rm_X8_aboveCap) G [.ref (ad 0), .int x1] (cells8 G ad s) (some (.int z)) (cells8 G ad s) :=
  x_met (by decide) (Nat.le_of_ble_eq_true rfl) (fun p e sS m below meth c E hr hk ls hl hw => w_X8_aboveCap_p0 E hr hk s x1 z hw hl hf)
set_option maxHeartbeats 4000000 in
set_option maxRecDepth 100000 in
theorem w_X8_of_p0 {p : Program} {l : Launch} {e : Env} {sS : State} {m : MethodId} {args : Array Value} {below : List Frame} {meth : Method} {c : Code} {G : xG} {W0 : va_W} {ad : Nat → Nat}   (E : xE p sS m args c cX8_of 3 RX8 G (x_in W0)) (hr : meth.sig.returnType = (some .int)) (hk : meth.locks = false)  : ∀ (s' : S8) (x1' : Int32) (x2' : Int32) (z : Int32 × S8) {H : Heap} {locs : List Loc} {ls : Array Slot}, xW G (x_in W0) sS.heap (cells8 G ad s') H locs → lv_has ls 3 [(0, .ref (ad 0)), (1, .int x1'), (2, .int x2')] → f_X8_of  s' x1' x2' = some z → W p l e (rm_X8_of) sS m args below meth c H locs 0 0 (MQ below (xQ G W0 (cells8 G ad z.2) (some (.int z.1))) args sS 0 0 (x_in W0)) (F0 m 0 ls []) := by
  intro s x1 x2 z H locs ls hw hl hf
  unfold f_X8_of at hf
  refine lv_aload_n (pc := 0) E.1 E.2.1 dX8_of_0 rfl (lv_at hl 0 rfl) ?_
  refine lv_iload_n (pc := 1) E.1 E.2.1 dX8_of_1 rfl (lv_at hl 1 rfl) ?_
  obtain ⟨v1, g2, hf⟩ := x_bind hf
  refine x_callVA (pc := 2) (As := [.int x1]) (rest := []) (st1 := [.int v1]) (ws' := (cells8 G ad s)) E hw hl (c_X8_isFleet l G ad s x1 g2) xv_X8_115 xd_X8_isFleet rfl rfl ⟨Nat.le_of_ble_eq_true rfl, Nat.le_of_ble_eq_true rfl⟩ (q0 := 0) rfl rfl rfl rfl (Nat.le_of_ble_eq_true rfl) rfl rfl dX8_of_2 (fun H locs hw => ?_)
  refine lv_if_eq (tgt := 18) (pc := 5) E.1 E.2.1 dX8_of_5 (by decide) (fun q3 => ?_) (fun q3 => ?_)
  · have hf := x_pos q3 hf
    refine lv_iconst (v := (-1)) (pc := 18) E.1 E.2.1 dX8_of_18 (by decide) ?_
    obtain rfl := Option.some.inj hf
    exact x_reti (pc := 19) E hr hk hw dX8_of_19
  · have hf := x_neg q3 hf
    refine lv_iload_n (pc := 8) E.1 E.2.1 dX8_of_8 rfl (lv_at hl 2 rfl) ?_
    refine lv_iconst (v := 0) (pc := 9) E.1 E.2.1 dX8_of_9 (by decide) ?_
    refine lv_bipush (v := 7) (pc := 10) E.1 E.2.1 dX8_of_10 (by decide) ?_
    obtain ⟨v4, g5, hf⟩ := x_bind hf
    refine x_callS0 (pc := 12) (As := [.int x2, .int 0, .int 7]) (rest := []) (st1 := [.int v4]) E hw hl (c_X8_in l G  x2 0 7 g5) xs_X8_84 xd_X8_in rfl rfl ⟨Nat.le_of_ble_eq_true rfl, Nat.le_of_ble_eq_true rfl⟩ rfl rfl (Nat.le_of_ble_eq_true rfl) rfl dX8_of_12 (fun H locs hw => ?_)
    refine lv_if_ne (tgt := 20) (pc := 15) E.1 E.2.1 dX8_of_15 (by decide) (fun q6 => ?_) (fun q6 => ?_)
    · have hf := x_neg q6 hf
      refine lv_aload_n (pc := 20) E.1 E.2.1 dX8_of_20 rfl (lv_at hl 0 rfl) ?_
      obtain ⟨v7, g8, hf⟩ := x_bind hf
      refine x_callVA (pc := 21) (As := []) (rest := []) (st1 := []) (ws' := (cells8 G ad v7)) E hw hl (c_X8_works l G ad s g8) xv_X8_221 xd_X8_works rfl rfl ⟨Nat.le_of_ble_eq_true rfl, Nat.le_of_ble_eq_true rfl⟩ (q0 := 0) rfl rfl rfl rfl (Nat.le_of_ble_eq_true rfl) rfl rfl dX8_of_21 (fun H locs hw => ?_)
      refine lv_iload_n (pc := 24) E.1 E.2.1 dX8_of_24 rfl (lv_at hl 2 rfl) ?_
      by_cases q9 : x2 = 0
      · have hf := x_pos q9 hf
        refine x_swi (pc := 25) (v := 0) (tgt := 68) E q9 dX8_of_25 (by decide) (by decide) rfl (by decide) ?_
        refine lv_aload_n (pc := 68) E.1 E.2.1 dX8_of_68 rfl (lv_at hl 0 rfl) ?_
        refine lv_iload_n (pc := 69) E.1 E.2.1 dX8_of_69 rfl (lv_at hl 1 rfl) ?_
        obtain ⟨v10, g11, hf⟩ := x_bind hf
        refine x_callVA (pc := 70) (As := [.int x1]) (rest := []) (st1 := [.int v10]) (ws' := (cells8 G ad v7)) E hw hl (c_X8_classOf l G ad v7 x1 g11) xv_X8_125 xd_X8_classOf rfl rfl ⟨Nat.le_of_ble_eq_true rfl, Nat.le_of_ble_eq_true rfl⟩ (q0 := 0) rfl rfl rfl rfl (Nat.le_of_ble_eq_true rfl) rfl rfl dX8_of_70 (fun H locs hw => ?_)
        obtain rfl := Option.some.inj hf
        exact x_reti (pc := 73) E hr hk hw dX8_of_73
      · have hf := x_neg q9 hf
        by_cases q12 : x2 = 1
        · have hf := x_pos q12 hf
          refine x_swi (pc := 25) (v := 1) (tgt := 74) E q12 dX8_of_25 (by decide) (by decide) rfl (by decide) ?_
          refine lv_aload_n (pc := 74) E.1 E.2.1 dX8_of_74 rfl (lv_at hl 0 rfl) ?_
          refine lv_iload_n (pc := 75) E.1 E.2.1 dX8_of_75 rfl (lv_at hl 1 rfl) ?_
          obtain ⟨v13, g14, hf⟩ := x_bind hf
          refine x_callVA (pc := 76) (As := [.int x1]) (rest := []) (st1 := [.int v13]) (ws' := (cells8 G ad v7)) E hw hl (c_X8_yearsOf l G ad v7 x1 g14) xv_X8_91 xd_X8_yearsOf rfl rfl ⟨Nat.le_of_ble_eq_true rfl, Nat.le_of_ble_eq_true rfl⟩ (q0 := 0) rfl rfl rfl rfl (Nat.le_of_ble_eq_true rfl) rfl rfl dX8_of_76 (fun H locs hw => ?_)
          obtain rfl := Option.some.inj hf
          exact x_reti (pc := 79) E hr hk hw dX8_of_79
        · have hf := x_neg q12 hf
          by_cases q15 : x2 = 2
          · have hf := x_pos q15 hf
            refine x_swi (pc := 25) (v := 2) (tgt := 80) E q15 dX8_of_25 (by decide) (by decide) rfl (by decide) ?_
            refine lv_aload_n (pc := 80) E.1 E.2.1 dX8_of_80 rfl (lv_at hl 0 rfl) ?_
            refine xg_X8_26 (pc := 81) (v := .ref (ad 5)) E hw 0 rfl rfl dX8_of_81 ?_
            refine lv_iload_n (pc := 84) E.1 E.2.1 dX8_of_84 rfl (lv_at hl 1 rfl) ?_
            obtain ⟨v17, g16, hf⟩ := x_bind hf
            refine x_iald (pc := 85) E hw 5 rfl g16 dX8_of_85 ?_
            obtain rfl := Option.some.inj hf
            exact x_reti (pc := 86) E hr hk hw dX8_of_86
          · have hf := x_neg q15 hf
            by_cases q18 : x2 = 3
            · have hf := x_pos q18 hf
              refine x_swi (pc := 25) (v := 3) (tgt := 87) E q18 dX8_of_25 (by decide) (by decide) rfl (by decide) ?_
              refine lv_aload_n (pc := 87) E.1 E.2.1 dX8_of_87 rfl (lv_at hl 0 rfl) ?_
              refine xg_X8_29 (pc := 88) (v := .ref (ad 6)) E hw 0 rfl rfl dX8_of_88 ?_
              refine lv_iload_n (pc := 91) E.1 E.2.1 dX8_of_91 rfl (lv_at hl 1 rfl) ?_
              obtain ⟨v20, g19, hf⟩ := x_bind hf
              refine x_iald (pc := 92) E hw 6 rfl g19 dX8_of_92 ?_
              obtain rfl := Option.some.inj hf
              exact x_reti (pc := 93) E hr hk hw dX8_of_93
            · have hf := x_neg q18 hf
              by_cases q21 : x2 = 4
              · have hf := x_pos q21 hf
                refine x_swi (pc := 25) (v := 4) (tgt := 94) E q21 dX8_of_25 (by decide) (by decide) rfl (by decide) ?_
                refine lv_aload_n (pc := 94) E.1 E.2.1 dX8_of_94 rfl (lv_at hl 0 rfl) ?_
                refine xg_X8_32 (pc := 95) (v := .ref (ad 7)) E hw 0 rfl rfl dX8_of_95 ?_
                refine lv_iload_n (pc := 98) E.1 E.2.1 dX8_of_98 rfl (lv_at hl 1 rfl) ?_
                obtain ⟨v23, g22, hf⟩ := x_bind hf
                refine x_iald (pc := 99) E hw 7 rfl g22 dX8_of_99 ?_
                obtain rfl := Option.some.inj hf
                exact x_reti (pc := 100) E hr hk hw dX8_of_100
              · have hf := x_neg q21 hf
                by_cases q24 : x2 = 5
                · have hf := x_pos q24 hf
                  refine x_swi (pc := 25) (v := 5) (tgt := 101) E q24 dX8_of_25 (by decide) (by decide) rfl (by decide) ?_
                  refine lv_aload_n (pc := 101) E.1 E.2.1 dX8_of_101 rfl (lv_at hl 0 rfl) ?_
                  refine lv_iload_n (pc := 102) E.1 E.2.1 dX8_of_102 rfl (lv_at hl 1 rfl) ?_
                  refine lv_iconst (v := (-1)) (pc := 103) E.1 E.2.1 dX8_of_103 (by decide) ?_
                  obtain ⟨v25, g26, hf⟩ := x_bind hf
                  refine x_callVA (pc := 104) (As := [.int x1, .int (-1)]) (rest := []) (st1 := [.int v25]) (ws' := (cells8 G ad v7)) E hw hl (c_X8_claimsOf l G ad v7 x1 (-1) g26) xv_X8_144 xd_X8_claimsOf rfl rfl ⟨Nat.le_of_ble_eq_true rfl, Nat.le_of_ble_eq_true rfl⟩ (q0 := 0) rfl rfl rfl rfl (Nat.le_of_ble_eq_true rfl) rfl rfl dX8_of_104 (fun H locs hw => ?_)
                  obtain rfl := Option.some.inj hf
                  exact x_reti (pc := 107) E hr hk hw dX8_of_107
                · have hf := x_neg q24 hf
                  by_cases q27 : x2 = 6
                  · have hf := x_pos q27 hf
                    refine x_swi (pc := 25) (v := 6) (tgt := 108) E q27 dX8_of_25 (by decide) (by decide) rfl (by decide) ?_
                    refine lv_aload_n (pc := 108) E.1 E.2.1 dX8_of_108 rfl (lv_at hl 0 rfl) ?_
                    refine lv_iload_n (pc := 109) E.1 E.2.1 dX8_of_109 rfl (lv_at hl 1 rfl) ?_
                    obtain ⟨v28, g29, hf⟩ := x_bind hf
                    refine x_callVA (pc := 110) (As := [.int x1]) (rest := []) (st1 := [.int v28]) (ws' := (cells8 G ad v7)) E hw hl (c_X8_aboveCap l G ad v7 x1 g29) xv_X8_227 xd_X8_aboveCap rfl rfl ⟨Nat.le_of_ble_eq_true rfl, Nat.le_of_ble_eq_true rfl⟩ (q0 := 0) rfl rfl rfl rfl (Nat.le_of_ble_eq_true rfl) rfl rfl dX8_of_110 (fun H locs hw => ?_)
                    obtain rfl := Option.some.inj hf
                    exact x_reti (pc := 113) E hr hk hw dX8_of_113
                  · have hf := x_neg q27 hf
                    refine x_swo (pc := 25) (n := 7) (tgt := 114) E (lt_s (lt_s (lt_s (lt_s (lt_s (lt_s (lt_s lt_0 q9) q12) q15) q18) q21) q24) q27) (by decide) dX8_of_25 (by decide) ?_
                    refine lv_aload_n (pc := 114) E.1 E.2.1 dX8_of_114 rfl (lv_at hl 0 rfl) ?_
                    refine xg_X8_26 (pc := 115) (v := .ref (ad 5)) E hw 0 rfl rfl dX8_of_115 ?_
                    refine lv_iload_n (pc := 118) E.1 E.2.1 dX8_of_118 rfl (lv_at hl 1 rfl) ?_
                    obtain ⟨v31, g30, hf⟩ := x_bind hf
                    refine x_iald (pc := 119) E hw 5 rfl g30 dX8_of_119 ?_
                    refine lv_if_ne (tgt := 128) (pc := 120) E.1 E.2.1 dX8_of_120 (by decide) (fun q32 => ?_) (fun q32 => ?_)
                    · have hf := x_neg q32 hf
                      refine lv_aload_n (pc := 128) E.1 E.2.1 dX8_of_128 rfl (lv_at hl 0 rfl) ?_
                      refine xg_X8_35 (pc := 129) (v := .ref (ad 8)) E hw 0 rfl rfl dX8_of_129 ?_
                      refine lv_iload_n (pc := 132) E.1 E.2.1 dX8_of_132 rfl (lv_at hl 1 rfl) ?_
                      obtain ⟨v34, g33, hf⟩ := x_bind hf
                      refine x_iald (pc := 133) E hw 8 rfl g33 dX8_of_133 ?_
                      obtain rfl := Option.some.inj hf
                      exact x_reti (pc := 134) E hr hk hw dX8_of_134
                    · have hf := x_pos q32 hf
                      refine lv_bipush (v := (-2)) (pc := 123) E.1 E.2.1 dX8_of_123 (by decide) ?_
                      refine lv_goto (tgt := 134) (pc := 125) E.1 E.2.1 dX8_of_125 (by decide) ?_
                      obtain rfl := Option.some.inj hf
                      exact x_reti (pc := 134) E hr hk hw dX8_of_134
    · have hf := x_pos q6 hf
      refine lv_iconst (v := (-1)) (pc := 18) E.1 E.2.1 dX8_of_18 (by decide) ?_
      obtain rfl := Option.some.inj hf
      exact x_reti (pc := 19) E hr hk hw dX8_of_19
set_option maxHeartbeats 4000000 in
set_option maxRecDepth 100000 in
theorem c_X8_of (l : Launch) (G : xG) (ad : Nat → Nat) (s : S8) (x1 : Int32) (x2 : Int32) {z : Int32 × S8} (hf : f_X8_of s x1 x2 = some z) : xC l yX8_of cX8_of 3 (some .int) (rm_X8_of) G [.ref (ad 0), .int x1, .int x2] (cells8 G ad s) (some (.int z.1)) (cells8 G ad z.2) :=
  x_met (by decide) (Nat.le_of_ble_eq_true rfl) (fun p e sS m below meth c E hr hk ls hl hw => w_X8_of_p0 E hr hk s x1 x2 z hw hl hf)
set_option maxHeartbeats 4000000 in
set_option maxRecDepth 100000 in
theorem w_X8_loss_p0 {p : Program} {l : Launch} {e : Env} {sS : State} {m : MethodId} {args : Array Value} {below : List Frame} {meth : Method} {c : Code} {G : xG} {W0 : va_W} {ad : Nat → Nat}   (E : xE p sS m args c cX8_loss 3 RX8 G (x_in W0)) (hr : meth.sig.returnType = (some .int)) (hk : meth.locks = false)  : ∀ (s' : S8) (x1' : Int32) (x2' : Int32) (z : Int32) {H : Heap} {locs : List Loc} {ls : Array Slot}, xW G (x_in W0) sS.heap (cells8 G ad s') H locs → lv_has ls 3 [(0, .ref (ad 0)), (1, .int x1'), (2, .int x2')] → f_X8_loss  s' x1' x2' = some z → W p l e (rm_X8_loss) sS m args below meth c H locs 0 0 (MQ below (xQ G W0 (cells8 G ad s') (some (.int z))) args sS 0 0 (x_in W0)) (F0 m 0 ls []) := by
  intro s x1 x2 z H locs ls hw hl hf
  unfold f_X8_loss at hf
  refine lv_aload_n (pc := 0) E.1 E.2.1 dX8_loss_0 rfl (lv_at hl 0 rfl) ?_
  refine lv_iload_n (pc := 1) E.1 E.2.1 dX8_loss_1 rfl (lv_at hl 1 rfl) ?_
  obtain ⟨v1, g2, hf⟩ := x_bind hf
  refine x_callVA (pc := 2) (As := [.int x1]) (rest := []) (st1 := [.int v1]) (ws' := (cells8 G ad s)) E hw hl (c_X8_isFleet l G ad s x1 g2) xv_X8_115 xd_X8_isFleet rfl rfl ⟨Nat.le_of_ble_eq_true rfl, Nat.le_of_ble_eq_true rfl⟩ (q0 := 0) rfl rfl rfl rfl (Nat.le_of_ble_eq_true rfl) rfl rfl dX8_loss_2 (fun H locs hw => ?_)
  refine lv_if_eq (tgt := 15) (pc := 5) E.1 E.2.1 dX8_loss_5 (by decide) (fun q3 => ?_) (fun q3 => ?_)
  · have hf := x_pos q3 hf
    refine lv_iconst (v := (-1)) (pc := 15) E.1 E.2.1 dX8_loss_15 (by decide) ?_
    obtain rfl := Option.some.inj hf
    exact x_reti (pc := 16) E hr hk hw dX8_loss_16
  · have hf := x_neg q3 hf
    refine lv_iload_n (pc := 8) E.1 E.2.1 dX8_loss_8 rfl (lv_at hl 2 rfl) ?_
    obtain ⟨v4, g5, hf⟩ := x_bind hf
    refine x_callS0 (pc := 9) (As := [.int x2]) (rest := []) (st1 := [.int v4]) E hw hl (c_X8_isYear l G  x2 g5) xs_X8_131 xd_X8_isYear rfl rfl ⟨Nat.le_of_ble_eq_true rfl, Nat.le_of_ble_eq_true rfl⟩ rfl rfl (Nat.le_of_ble_eq_true rfl) rfl dX8_loss_9 (fun H locs hw => ?_)
    refine lv_if_ne (tgt := 17) (pc := 12) E.1 E.2.1 dX8_loss_12 (by decide) (fun q6 => ?_) (fun q6 => ?_)
    · have hf := x_neg q6 hf
      refine lv_aload_n (pc := 17) E.1 E.2.1 dX8_loss_17 rfl (lv_at hl 0 rfl) ?_
      refine lv_iload_n (pc := 18) E.1 E.2.1 dX8_loss_18 rfl (lv_at hl 1 rfl) ?_
      refine lv_iload_n (pc := 19) E.1 E.2.1 dX8_loss_19 rfl (lv_at hl 2 rfl) ?_
      obtain ⟨v7, g8, hf⟩ := x_bind hf
      refine x_callVA (pc := 20) (As := [.int x1, .int x2]) (rest := []) (st1 := [.int v7]) (ws' := (cells8 G ad s)) E hw hl (c_X8_isInsured l G ad s x1 x2 g8) xv_X8_134 xd_X8_isInsured rfl rfl ⟨Nat.le_of_ble_eq_true rfl, Nat.le_of_ble_eq_true rfl⟩ (q0 := 0) rfl rfl rfl rfl (Nat.le_of_ble_eq_true rfl) rfl rfl dX8_loss_20 (fun H locs hw => ?_)
      refine lv_if_eq (tgt := 35) (pc := 23) E.1 E.2.1 dX8_loss_23 (by decide) (fun q9 => ?_) (fun q9 => ?_)
      · have hf := x_pos q9 hf
        refine lv_bipush (v := (-2)) (pc := 35) E.1 E.2.1 dX8_loss_35 (by decide) ?_
        obtain rfl := Option.some.inj hf
        exact x_reti (pc := 37) E hr hk hw dX8_loss_37
      · have hf := x_neg q9 hf
        refine lv_aload_n (pc := 26) E.1 E.2.1 dX8_loss_26 rfl (lv_at hl 0 rfl) ?_
        refine lv_iload_n (pc := 27) E.1 E.2.1 dX8_loss_27 rfl (lv_at hl 1 rfl) ?_
        refine lv_iload_n (pc := 28) E.1 E.2.1 dX8_loss_28 rfl (lv_at hl 2 rfl) ?_
        obtain ⟨v10, g11, hf⟩ := x_bind hf
        refine x_callVA (pc := 29) (As := [.int x1, .int x2]) (rest := []) (st1 := [.int v10]) (ws' := (cells8 G ad s)) E hw hl (c_X8_lossIn l G ad s x1 x2 g11) xv_X8_175 xd_X8_lossIn rfl rfl ⟨Nat.le_of_ble_eq_true rfl, Nat.le_of_ble_eq_true rfl⟩ (q0 := 0) rfl rfl rfl rfl (Nat.le_of_ble_eq_true rfl) rfl rfl dX8_loss_29 (fun H locs hw => ?_)
        refine lv_goto (tgt := 37) (pc := 32) E.1 E.2.1 dX8_loss_32 (by decide) ?_
        obtain rfl := Option.some.inj hf
        exact x_reti (pc := 37) E hr hk hw dX8_loss_37
    · have hf := x_pos q6 hf
      refine lv_iconst (v := (-1)) (pc := 15) E.1 E.2.1 dX8_loss_15 (by decide) ?_
      obtain rfl := Option.some.inj hf
      exact x_reti (pc := 16) E hr hk hw dX8_loss_16
set_option maxHeartbeats 4000000 in
set_option maxRecDepth 100000 in
theorem c_X8_loss (l : Launch) (G : xG) (ad : Nat → Nat) (s : S8) (x1 : Int32) (x2 : Int32) {z : Int32} (hf : f_X8_loss s x1 x2 = some z) : xC l yX8_loss cX8_loss 3 (some .int) (rm_X8_loss) G [.ref (ad 0), .int x1, .int x2] (cells8 G ad s) (some (.int z)) (cells8 G ad s) :=
  x_met (by decide) (Nat.le_of_ble_eq_true rfl) (fun p e sS m below meth c E hr hk ls hl hw => w_X8_loss_p0 E hr hk s x1 x2 z hw hl hf)
set_option maxHeartbeats 4000000 in
set_option maxRecDepth 100000 in
theorem w_X8_claimOf_p0 {p : Program} {l : Launch} {e : Env} {sS : State} {m : MethodId} {args : Array Value} {below : List Frame} {meth : Method} {c : Code} {G : xG} {W0 : va_W} {ad : Nat → Nat}   (E : xE p sS m args c cX8_claimOf 3 RX8 G (x_in W0)) (hr : meth.sig.returnType = (some .int)) (hk : meth.locks = false)  : ∀ (s' : S8) (x1' : Int32) (x2' : Int32) (z : Int32) {H : Heap} {locs : List Loc} {ls : Array Slot}, xW G (x_in W0) sS.heap (cells8 G ad s') H locs → lv_has ls 3 [(0, .ref (ad 0)), (1, .int x1'), (2, .int x2')] → f_X8_claimOf  s' x1' x2' = some z → W p l e (rm_X8_claimOf) sS m args below meth c H locs 0 0 (MQ below (xQ G W0 (cells8 G ad s') (some (.int z))) args sS 0 0 (x_in W0)) (F0 m 0 ls []) := by
  intro s x1 x2 z H locs ls hw hl hf
  unfold f_X8_claimOf at hf
  refine lv_aload_n (pc := 0) E.1 E.2.1 dX8_claimOf_0 rfl (lv_at hl 0 rfl) ?_
  refine lv_iload_n (pc := 1) E.1 E.2.1 dX8_claimOf_1 rfl (lv_at hl 1 rfl) ?_
  obtain ⟨v1, g2, hf⟩ := x_bind hf
  refine x_callVA (pc := 2) (As := [.int x1]) (rest := []) (st1 := [.int v1]) (ws' := (cells8 G ad s)) E hw hl (c_X8_isClaim l G ad s x1 g2) xv_X8_147 xd_X8_isClaim rfl rfl ⟨Nat.le_of_ble_eq_true rfl, Nat.le_of_ble_eq_true rfl⟩ (q0 := 0) rfl rfl rfl rfl (Nat.le_of_ble_eq_true rfl) rfl rfl dX8_claimOf_2 (fun H locs hw => ?_)
  refine lv_if_eq (tgt := 17) (pc := 5) E.1 E.2.1 dX8_claimOf_5 (by decide) (fun q3 => ?_) (fun q3 => ?_)
  · have hf := x_pos q3 hf
    refine lv_iconst (v := (-1)) (pc := 17) E.1 E.2.1 dX8_claimOf_17 (by decide) ?_
    obtain rfl := Option.some.inj hf
    exact x_reti (pc := 18) E hr hk hw dX8_claimOf_18
  · have hf := x_neg q3 hf
    refine lv_iload_n (pc := 8) E.1 E.2.1 dX8_claimOf_8 rfl (lv_at hl 2 rfl) ?_
    refine lv_iconst (v := 0) (pc := 9) E.1 E.2.1 dX8_claimOf_9 (by decide) ?_
    refine lv_iconst (v := 3) (pc := 10) E.1 E.2.1 dX8_claimOf_10 (by decide) ?_
    obtain ⟨v4, g5, hf⟩ := x_bind hf
    refine x_callS0 (pc := 11) (As := [.int x2, .int 0, .int 3]) (rest := []) (st1 := [.int v4]) E hw hl (c_X8_in l G  x2 0 3 g5) xs_X8_84 xd_X8_in rfl rfl ⟨Nat.le_of_ble_eq_true rfl, Nat.le_of_ble_eq_true rfl⟩ rfl rfl (Nat.le_of_ble_eq_true rfl) rfl dX8_claimOf_11 (fun H locs hw => ?_)
    refine lv_if_ne (tgt := 19) (pc := 14) E.1 E.2.1 dX8_claimOf_14 (by decide) (fun q6 => ?_) (fun q6 => ?_)
    · have hf := x_neg q6 hf
      refine lv_iload_n (pc := 19) E.1 E.2.1 dX8_claimOf_19 rfl (lv_at hl 2 rfl) ?_
      refine lv_iconst (v := 3) (pc := 20) E.1 E.2.1 dX8_claimOf_20 (by decide) ?_
      refine lv_icmp_ge (tgt := 40) (pc := 21) E.1 E.2.1 dX8_claimOf_21 (by decide) (fun q7 => ?_) (fun q7 => ?_)
      · have hf := x_pos q7 hf
        refine lv_aload_n (pc := 40) E.1 E.2.1 dX8_claimOf_40 rfl (lv_at hl 0 rfl) ?_
        refine lv_iload_n (pc := 41) E.1 E.2.1 dX8_claimOf_41 rfl (lv_at hl 1 rfl) ?_
        obtain ⟨v8, g9, hf⟩ := x_bind hf
        refine x_callVA (pc := 42) (As := [.int x1]) (rest := []) (st1 := [.int v8]) (ws' := (cells8 G ad s)) E hw hl (c_X8_counted l G ad s x1 g9) xv_X8_172 xd_X8_counted rfl rfl ⟨Nat.le_of_ble_eq_true rfl, Nat.le_of_ble_eq_true rfl⟩ (q0 := 0) rfl rfl rfl rfl (Nat.le_of_ble_eq_true rfl) rfl rfl dX8_claimOf_42 (fun H locs hw => ?_)
        obtain rfl := Option.some.inj hf
        exact x_reti (pc := 45) E hr hk hw dX8_claimOf_45
      · have hf := x_neg q7 hf
        refine lv_aload_n (pc := 24) E.1 E.2.1 dX8_claimOf_24 rfl (lv_at hl 0 rfl) ?_
        refine xg_X8_13 (pc := 25) (v := .ref (ad 1)) E hw 0 rfl rfl dX8_claimOf_25 ?_
        refine lv_bipush (v := 20) (pc := 28) E.1 E.2.1 dX8_claimOf_28 (by decide) ?_
        refine lv_iconst (v := 3) (pc := 30) E.1 E.2.1 dX8_claimOf_30 (by decide) ?_
        refine lv_iload_n (pc := 31) E.1 E.2.1 dX8_claimOf_31 rfl (lv_at hl 1 rfl) ?_
        refine lv_imul (pc := 32) E.1 E.2.1 dX8_claimOf_32 ?_
        refine lv_iadd (pc := 33) E.1 E.2.1 dX8_claimOf_33 ?_
        refine lv_iload_n (pc := 34) E.1 E.2.1 dX8_claimOf_34 rfl (lv_at hl 2 rfl) ?_
        refine lv_iadd (pc := 35) E.1 E.2.1 dX8_claimOf_35 ?_
        obtain ⟨v11, g10, hf⟩ := x_bind hf
        refine x_iald (pc := 36) E hw 1 rfl g10 dX8_claimOf_36 ?_
        refine lv_goto (tgt := 45) (pc := 37) E.1 E.2.1 dX8_claimOf_37 (by decide) ?_
        obtain rfl := Option.some.inj hf
        exact x_reti (pc := 45) E hr hk hw dX8_claimOf_45
    · have hf := x_pos q6 hf
      refine lv_iconst (v := (-1)) (pc := 17) E.1 E.2.1 dX8_claimOf_17 (by decide) ?_
      obtain rfl := Option.some.inj hf
      exact x_reti (pc := 18) E hr hk hw dX8_claimOf_18
set_option maxHeartbeats 4000000 in
set_option maxRecDepth 100000 in
theorem c_X8_claimOf (l : Launch) (G : xG) (ad : Nat → Nat) (s : S8) (x1 : Int32) (x2 : Int32) {z : Int32} (hf : f_X8_claimOf s x1 x2 = some z) : xC l yX8_claimOf cX8_claimOf 3 (some .int) (rm_X8_claimOf) G [.ref (ad 0), .int x1, .int x2] (cells8 G ad s) (some (.int z)) (cells8 G ad s) :=
  x_met (by decide) (Nat.le_of_ble_eq_true rfl) (fun p e sS m below meth c E hr hk ls hl hw => w_X8_claimOf_p0 E hr hk s x1 x2 z hw hl hf)
set_option maxHeartbeats 4000000 in
set_option maxRecDepth 100000 in
theorem w_X8_group_p89 {p : Program} {l : Launch} {e : Env} {sS : State} {m : MethodId} {args : Array Value} {below : List Frame} {meth : Method} {c : Code} {G : xG} {W0 : va_W} {ad : Nat → Nat}  {k89 : S8 → Int32 → Int32 → Int32 → Option (Int32 × S8)} (E : xE p sS m args c cX8_group 5 RX8 G (x_in W0)) (hr : meth.sig.returnType = (some .int)) (hk : meth.locks = false) (hk89 : ∀ (s' : S8) (x1' : Int32) (x3' : Int32) (x4' : Int32) (z : Int32 × S8) {H : Heap} {locs : List Loc} {ls : Array Slot}, xW G (x_in W0) sS.heap (cells8 G ad s') H locs → lv_has ls 5 [(0, .ref (ad 0)), (1, .int x1'), (3, .int x3'), (4, .int x4')] → k89  s' x1' x3' x4' = some z → W p l e (rm_X8_group) sS m args below meth c H locs 0 0 (MQ below (xQ G W0 (cells8 G ad z.2) (some (.int z.1))) args sS 0 0 (x_in W0)) (F0 m 89 ls [])) : ∀ (s' : S8) (x1' : Int32) (x3' : Int32) (x4' : Int32) (z : Int32 × S8) {H : Heap} {locs : List Loc} {ls : Array Slot}, xW G (x_in W0) sS.heap (cells8 G ad s') H locs → lv_has ls 5 [(0, .ref (ad 0)), (1, .int x1'), (3, .int x3'), (4, .int x4')] → f_X8_group_p89 k89 s' x1' x3' x4' = some z → W p l e (rm_X8_group) sS m args below meth c H locs 0 0 (MQ below (xQ G W0 (cells8 G ad z.2) (some (.int z.1))) args sS 0 0 (x_in W0)) (F0 m 89 ls []) := by
  intro s x1 x3 x4 z H locs ls hw hl hf
  unfold f_X8_group_p89 at hf
  refine lv_iload (pc := 89) E.1 E.2.1 dX8_group_89 (lv_at hl 3 rfl) ?_
  refine lv_aload_n (pc := 91) E.1 E.2.1 dX8_group_91 rfl (lv_at hl 0 rfl) ?_
  obtain ⟨v1, g2, hf⟩ := x_bind hf
  refine x_callVA (pc := 92) (As := []) (rest := [.int x4]) (st1 := [.int v1, .int x4]) (ws' := (cells8 G ad s)) E hw hl (c_X8_many l G ad s g2) xv_X8_80 xd_X8_many rfl rfl ⟨Nat.le_of_ble_eq_true rfl, Nat.le_of_ble_eq_true rfl⟩ (q0 := 0) rfl rfl rfl rfl (Nat.le_of_ble_eq_true rfl) rfl rfl dX8_group_92 (fun H locs hw => ?_)
  refine lv_icmp_ge (tgt := 121) (pc := 95) E.1 E.2.1 dX8_group_95 (by decide) (fun q3 => ?_) (fun q3 => ?_)
  · have hf := x_pos q3 hf
    refine lv_iload_n (pc := 121) E.1 E.2.1 dX8_group_121 rfl (lv_at hl 2 rfl) ?_
    obtain rfl := Option.some.inj hf
    exact x_reti (pc := 122) E hr hk hw dX8_group_122
  · have hf := x_neg q3 hf
    refine lv_aload_n (pc := 98) E.1 E.2.1 dX8_group_98 rfl (lv_at hl 0 rfl) ?_
    refine lv_iload (pc := 99) E.1 E.2.1 dX8_group_99 (lv_at hl 3 rfl) ?_
    obtain ⟨v4, g5, hf⟩ := x_bind hf
    refine x_callVA (pc := 101) (As := [.int x4]) (rest := []) (st1 := [.int v4]) (ws' := (cells8 G ad s)) E hw hl (c_X8_classOf l G ad s x4 g5) xv_X8_125 xd_X8_classOf rfl rfl ⟨Nat.le_of_ble_eq_true rfl, Nat.le_of_ble_eq_true rfl⟩ (q0 := 0) rfl rfl rfl rfl (Nat.le_of_ble_eq_true rfl) rfl rfl dX8_group_101 (fun H locs hw => ?_)
    refine lv_iload_n (pc := 104) E.1 E.2.1 dX8_group_104 rfl (lv_at hl 1 rfl) ?_
    refine lv_icmp_ne (tgt := 115) (pc := 105) E.1 E.2.1 dX8_group_105 (by decide) (fun q6 => ?_) (fun q6 => ?_)
    · have hf := x_neg q6 hf
      refine lv_iinc (v := (x4 + 1)) (lv' := [(4, .int (x4 + 1)), (0, .ref (ad 0)), (1, .int x1), (3, .int x3)]) (pc := 115) E.1 E.2.1 dX8_group_115 hl (k := 3) rfl rfl (by decide) rfl (fun ls hl => ?_)
      refine lv_goto (tgt := 89) (pc := 118) E.1 E.2.1 dX8_group_118 (by decide) ?_
      exact hk89 s x1 x3 (x4 + 1) z hw (lv_sub hl [1, 2, 3, 0] rfl) hf
    · have hf := x_pos q6 hf
      refine lv_iload_n (pc := 108) E.1 E.2.1 dX8_group_108 rfl (lv_at hl 2 rfl) ?_
      refine lv_iconst (v := 1) (pc := 109) E.1 E.2.1 dX8_group_109 (by decide) ?_
      refine lv_iload (pc := 110) E.1 E.2.1 dX8_group_110 (lv_at hl 3 rfl) ?_
      refine lv_ishl (pc := 112) E.1 E.2.1 dX8_group_112 ?_
      refine lv_ior (pc := 113) E.1 E.2.1 dX8_group_113 ?_
      refine lv_istore_n (lv' := [(3, .int (x3 ||| (1 <<< (x4 &&& 31)))), (0, .ref (ad 0)), (1, .int x1), (4, .int x4)]) (pc := 114) E.1 E.2.1 dX8_group_114 rfl hl (by decide) rfl (fun ls hl => ?_)
      refine lv_iinc (v := (x4 + 1)) (lv' := [(4, .int (x4 + 1)), (3, .int (x3 ||| (1 <<< (x4 &&& 31)))), (0, .ref (ad 0)), (1, .int x1)]) (pc := 115) E.1 E.2.1 dX8_group_115 hl (k := 3) rfl rfl (by decide) rfl (fun ls hl => ?_)
      refine lv_goto (tgt := 89) (pc := 118) E.1 E.2.1 dX8_group_118 (by decide) ?_
      exact hk89 s x1 (x3 ||| (1 <<< (x4 &&& 31))) (x4 + 1) z hw (lv_sub hl [2, 3, 1, 0] rfl) hf
set_option maxHeartbeats 4000000 in
set_option maxRecDepth 100000 in
theorem wl_X8_group_p89 {p : Program} {l : Launch} {e : Env} {sS : State} {m : MethodId} {args : Array Value} {below : List Frame} {meth : Method} {c : Code} {G : xG} {W0 : va_W} {ad : Nat → Nat}   (E : xE p sS m args c cX8_group 5 RX8 G (x_in W0)) (hr : meth.sig.returnType = (some .int)) (hk : meth.locks = false)  : ∀ (s' : S8) (x1' : Int32) (x3' : Int32) (x4' : Int32) (z : Int32 × S8) {H : Heap} {locs : List Loc} {ls : Array Slot}, xW G (x_in W0) sS.heap (cells8 G ad s') H locs → lv_has ls 5 [(0, .ref (ad 0)), (1, .int x1'), (3, .int x3'), (4, .int x4')] → lp_X8_group_p89  s' x1' x3' x4' = some z → W p l e (rm_X8_group) sS m args below meth c H locs 0 0 (MQ below (xQ G W0 (cells8 G ad z.2) (some (.int z.1))) args sS 0 0 (x_in W0)) (F0 m 89 ls []) := by
  intro s x1 x3 x4 z H locs ls hw hl hf
  exact x_loop_W (P := fun (q : S8 × Int32 × Int32 × Int32) (z : Int32 × S8) => ∀ {H : Heap} {locs : List Loc} {ls : Array Slot}, xW G (x_in W0) sS.heap (cells8 G ad q.1) H locs → lv_has ls 5 [(0, .ref (ad 0)), (1, .int q.2.1), (3, .int q.2.2.1), (4, .int q.2.2.2)] → W p l e (rm_X8_group) sS m args below meth c H locs 0 0 (MQ below (xQ G W0 (cells8 G ad z.2) (some (.int z.1))) args sS 0 0 (x_in W0)) (F0 m 89 ls [])) (fun k hkk q z hf H locs ls hw hl => w_X8_group_p89 E hr hk  (fun s x1 x3 x4 z H locs ls hw hl hf => hkk (s, x1, x3, x4) z hf hw hl) q.1 q.2.1 q.2.2.1 q.2.2.2 z hw hl hf) FU (s, x1, x3, x4) z hf hw hl
set_option maxHeartbeats 4000000 in
set_option maxRecDepth 100000 in
theorem w_X8_group_p0 {p : Program} {l : Launch} {e : Env} {sS : State} {m : MethodId} {args : Array Value} {below : List Frame} {meth : Method} {c : Code} {G : xG} {W0 : va_W} {ad : Nat → Nat}   (E : xE p sS m args c cX8_group 5 RX8 G (x_in W0)) (hr : meth.sig.returnType = (some .int)) (hk : meth.locks = false)  : ∀ (s' : S8) (x1' : Int32) (x2' : Int32) (z : Int32 × S8) {H : Heap} {locs : List Loc} {ls : Array Slot}, xW G (x_in W0) sS.heap (cells8 G ad s') H locs → lv_has ls 5 [(0, .ref (ad 0)), (1, .int x1'), (2, .int x2')] → f_X8_group  s' x1' x2' = some z → W p l e (rm_X8_group) sS m args below meth c H locs 0 0 (MQ below (xQ G W0 (cells8 G ad z.2) (some (.int z.1))) args sS 0 0 (x_in W0)) (F0 m 0 ls []) := by
  intro s x1 x2 z H locs ls hw hl hf
  unfold f_X8_group at hf
  refine lv_iload_n (pc := 0) E.1 E.2.1 dX8_group_0 rfl (lv_at hl 1 rfl) ?_
  obtain ⟨v1, g2, hf⟩ := x_bind hf
  refine x_callS0 (pc := 1) (As := [.int x1]) (rest := []) (st1 := [.int v1]) E hw hl (c_X8_isClass l G  x1 g2) xs_X8_108 xd_X8_isClass rfl rfl ⟨Nat.le_of_ble_eq_true rfl, Nat.le_of_ble_eq_true rfl⟩ rfl rfl (Nat.le_of_ble_eq_true rfl) rfl dX8_group_1 (fun H locs hw => ?_)
  refine lv_if_eq (tgt := 16) (pc := 4) E.1 E.2.1 dX8_group_4 (by decide) (fun q3 => ?_) (fun q3 => ?_)
  · have hf := x_pos q3 hf
    refine lv_iconst (v := (-1)) (pc := 16) E.1 E.2.1 dX8_group_16 (by decide) ?_
    obtain rfl := Option.some.inj hf
    exact x_reti (pc := 17) E hr hk hw dX8_group_17
  · have hf := x_neg q3 hf
    refine lv_iload_n (pc := 7) E.1 E.2.1 dX8_group_7 rfl (lv_at hl 2 rfl) ?_
    refine lv_iconst (v := 0) (pc := 8) E.1 E.2.1 dX8_group_8 (by decide) ?_
    refine lv_iconst (v := 5) (pc := 9) E.1 E.2.1 dX8_group_9 (by decide) ?_
    obtain ⟨v4, g5, hf⟩ := x_bind hf
    refine x_callS0 (pc := 10) (As := [.int x2, .int 0, .int 5]) (rest := []) (st1 := [.int v4]) E hw hl (c_X8_in l G  x2 0 5 g5) xs_X8_84 xd_X8_in rfl rfl ⟨Nat.le_of_ble_eq_true rfl, Nat.le_of_ble_eq_true rfl⟩ rfl rfl (Nat.le_of_ble_eq_true rfl) rfl dX8_group_10 (fun H locs hw => ?_)
    refine lv_if_ne (tgt := 18) (pc := 13) E.1 E.2.1 dX8_group_13 (by decide) (fun q6 => ?_) (fun q6 => ?_)
    · have hf := x_neg q6 hf
      refine lv_aload_n (pc := 18) E.1 E.2.1 dX8_group_18 rfl (lv_at hl 0 rfl) ?_
      obtain ⟨v7, g8, hf⟩ := x_bind hf
      refine x_callVA (pc := 19) (As := []) (rest := []) (st1 := []) (ws' := (cells8 G ad v7)) E hw hl (c_X8_works l G ad s g8) xv_X8_221 xd_X8_works rfl rfl ⟨Nat.le_of_ble_eq_true rfl, Nat.le_of_ble_eq_true rfl⟩ (q0 := 0) rfl rfl rfl rfl (Nat.le_of_ble_eq_true rfl) rfl rfl dX8_group_19 (fun H locs hw => ?_)
      refine lv_iload_n (pc := 22) E.1 E.2.1 dX8_group_22 rfl (lv_at hl 2 rfl) ?_
      by_cases q9 : x2 = 0
      · have hf := x_pos q9 hf
        refine x_swi (pc := 23) (v := 0) (tgt := 56) E q9 dX8_group_23 (by decide) (by decide) rfl (by decide) ?_
        refine lv_aload_n (pc := 56) E.1 E.2.1 dX8_group_56 rfl (lv_at hl 0 rfl) ?_
        refine xg_X8_45 (pc := 57) (v := .ref (ad 11)) E hw 0 rfl rfl dX8_group_57 ?_
        refine lv_iload_n (pc := 60) E.1 E.2.1 dX8_group_60 rfl (lv_at hl 1 rfl) ?_
        obtain ⟨v11, g10, hf⟩ := x_bind hf
        refine x_iald (pc := 61) E hw 11 rfl g10 dX8_group_61 ?_
        obtain rfl := Option.some.inj hf
        exact x_reti (pc := 62) E hr hk hw dX8_group_62
      · have hf := x_neg q9 hf
        by_cases q12 : x2 = 1
        · have hf := x_pos q12 hf
          refine x_swi (pc := 23) (v := 1) (tgt := 63) E q12 dX8_group_23 (by decide) (by decide) rfl (by decide) ?_
          refine lv_aload_n (pc := 63) E.1 E.2.1 dX8_group_63 rfl (lv_at hl 0 rfl) ?_
          refine xg_X8_48 (pc := 64) (v := .ref (ad 12)) E hw 0 rfl rfl dX8_group_64 ?_
          refine lv_iload_n (pc := 67) E.1 E.2.1 dX8_group_67 rfl (lv_at hl 1 rfl) ?_
          obtain ⟨v14, g13, hf⟩ := x_bind hf
          refine x_iald (pc := 68) E hw 12 rfl g13 dX8_group_68 ?_
          obtain rfl := Option.some.inj hf
          exact x_reti (pc := 69) E hr hk hw dX8_group_69
        · have hf := x_neg q12 hf
          by_cases q15 : x2 = 2
          · have hf := x_pos q15 hf
            refine x_swi (pc := 23) (v := 2) (tgt := 70) E q15 dX8_group_23 (by decide) (by decide) rfl (by decide) ?_
            refine lv_aload_n (pc := 70) E.1 E.2.1 dX8_group_70 rfl (lv_at hl 0 rfl) ?_
            refine xg_X8_51 (pc := 71) (v := .ref (ad 13)) E hw 0 rfl rfl dX8_group_71 ?_
            refine lv_iload_n (pc := 74) E.1 E.2.1 dX8_group_74 rfl (lv_at hl 1 rfl) ?_
            obtain ⟨v17, g16, hf⟩ := x_bind hf
            refine x_iald (pc := 75) E hw 13 rfl g16 dX8_group_75 ?_
            obtain rfl := Option.some.inj hf
            exact x_reti (pc := 76) E hr hk hw dX8_group_76
          · have hf := x_neg q15 hf
            by_cases q18 : x2 = 3
            · have hf := x_pos q18 hf
              refine x_swi (pc := 23) (v := 3) (tgt := 77) E q18 dX8_group_23 (by decide) (by decide) rfl (by decide) ?_
              refine lv_aload_n (pc := 77) E.1 E.2.1 dX8_group_77 rfl (lv_at hl 0 rfl) ?_
              refine xg_X8_54 (pc := 78) (v := .ref (ad 14)) E hw 0 rfl rfl dX8_group_78 ?_
              refine lv_iload_n (pc := 81) E.1 E.2.1 dX8_group_81 rfl (lv_at hl 1 rfl) ?_
              obtain ⟨v20, g19, hf⟩ := x_bind hf
              refine x_iald (pc := 82) E hw 14 rfl g19 dX8_group_82 ?_
              obtain rfl := Option.some.inj hf
              exact x_reti (pc := 83) E hr hk hw dX8_group_83
            · have hf := x_neg q18 hf
              by_cases q21 : x2 = 4
              · have hf := x_pos q21 hf
                refine x_swi (pc := 23) (v := 4) (tgt := 84) E q21 dX8_group_23 (by decide) (by decide) rfl (by decide) ?_
                refine lv_iconst (v := 0) (pc := 84) E.1 E.2.1 dX8_group_84 (by decide) ?_
                refine lv_istore_n (lv' := [(3, .int 0), (0, .ref (ad 0)), (1, .int x1), (2, .int x2)]) (pc := 85) E.1 E.2.1 dX8_group_85 rfl hl (by decide) rfl (fun ls hl => ?_)
                refine lv_iconst (v := 0) (pc := 86) E.1 E.2.1 dX8_group_86 (by decide) ?_
                refine lv_istore (lv' := [(4, .int 0), (3, .int 0), (0, .ref (ad 0)), (1, .int x1), (2, .int x2)]) (pc := 87) E.1 E.2.1 dX8_group_87 hl (by decide) rfl (fun ls hl => ?_)
                exact wl_X8_group_p89 E hr hk  v7 x1 0 0 z hw (lv_sub hl [2, 3, 1, 0] rfl) hf
              · have hf := x_neg q21 hf
                refine x_swo (pc := 23) (n := 5) (tgt := 123) E (lt_s (lt_s (lt_s (lt_s (lt_s lt_0 q9) q12) q15) q18) q21) (by decide) dX8_group_23 (by decide) ?_
                refine lv_aload_n (pc := 123) E.1 E.2.1 dX8_group_123 rfl (lv_at hl 0 rfl) ?_
                refine lv_iload_n (pc := 124) E.1 E.2.1 dX8_group_124 rfl (lv_at hl 1 rfl) ?_
                obtain ⟨v22, g23, hf⟩ := x_bind hf
                refine x_callVA (pc := 125) (As := [.int x1]) (rest := []) (st1 := [.int v22]) (ws' := (cells8 G ad v7)) E hw hl (c_X8_shares l G ad v7 x1 g23) xv_X8_199 xd_X8_shares rfl rfl ⟨Nat.le_of_ble_eq_true rfl, Nat.le_of_ble_eq_true rfl⟩ (q0 := 0) rfl rfl rfl rfl (Nat.le_of_ble_eq_true rfl) rfl rfl dX8_group_125 (fun H locs hw => ?_)
                obtain rfl := Option.some.inj hf
                exact x_reti (pc := 128) E hr hk hw dX8_group_128
    · have hf := x_pos q6 hf
      refine lv_iconst (v := (-1)) (pc := 16) E.1 E.2.1 dX8_group_16 (by decide) ?_
      obtain rfl := Option.some.inj hf
      exact x_reti (pc := 17) E hr hk hw dX8_group_17
set_option maxHeartbeats 4000000 in
set_option maxRecDepth 100000 in
theorem c_X8_group (l : Launch) (G : xG) (ad : Nat → Nat) (s : S8) (x1 : Int32) (x2 : Int32) {z : Int32 × S8} (hf : f_X8_group s x1 x2 = some z) : xC l yX8_group cX8_group 5 (some .int) (rm_X8_group) G [.ref (ad 0), .int x1, .int x2] (cells8 G ad s) (some (.int z.1)) (cells8 G ad z.2) :=
  x_met (by decide) (Nat.le_of_ble_eq_true rfl) (fun p e sS m below meth c E hr hk ls hl hw => w_X8_group_p0 E hr hk s x1 x2 z hw hl hf)
set_option maxHeartbeats 4000000 in
set_option maxRecDepth 100000 in
theorem w_X8_spreadNow_p0 {p : Program} {l : Launch} {e : Env} {sS : State} {m : MethodId} {args : Array Value} {below : List Frame} {meth : Method} {c : Code} {G : xG} {W0 : va_W} {ad : Nat → Nat}   (E : xE p sS m args c cX8_spreadNow 5 RX8 G (x_in W0)) (hr : meth.sig.returnType = (some .long)) (hk : meth.locks = false)  : ∀ (s' : S8) (x1' : Int32) (x2' : Int32) (x3' : Int32) (z : Int64 × S8) {H : Heap} {locs : List Loc} {ls : Array Slot}, xW G (x_in W0) sS.heap (cells8 G ad s') H locs → lv_has ls 5 [(0, .ref (ad 0)), (1, .int x1'), (2, .int x2'), (3, .int x3')] → f_X8_spreadNow  s' x1' x2' x3' = some z → W p l e (rm_X8_spreadNow) sS m args below meth c H locs 0 0 (MQ below (xQ G W0 (cells8 G ad z.2) (some (.long z.1))) args sS 0 0 (x_in W0)) (F0 m 0 ls []) := by
  intro s x1 x2 x3 z H locs ls hw hl hf
  unfold f_X8_spreadNow at hf
  refine lv_aload_n (pc := 0) E.1 E.2.1 dX8_spreadNow_0 rfl (lv_at hl 0 rfl) ?_
  obtain ⟨v1, g2, hf⟩ := x_bind hf
  refine x_callVA (pc := 1) (As := []) (rest := []) (st1 := []) (ws' := (cells8 G ad v1)) E hw hl (c_X8_works l G ad s g2) xv_X8_221 xd_X8_works rfl rfl ⟨Nat.le_of_ble_eq_true rfl, Nat.le_of_ble_eq_true rfl⟩ (q0 := 0) rfl rfl rfl rfl (Nat.le_of_ble_eq_true rfl) rfl rfl dX8_spreadNow_1 (fun H locs hw => ?_)
  refine lv_iconst (v := 5) (pc := 4) E.1 E.2.1 dX8_spreadNow_4 (by decide) ?_
  refine lv_iload_n (pc := 5) E.1 E.2.1 dX8_spreadNow_5 rfl (lv_at hl 1 rfl) ?_
  refine lv_imul (pc := 6) E.1 E.2.1 dX8_spreadNow_6 ?_
  refine lv_iload_n (pc := 7) E.1 E.2.1 dX8_spreadNow_7 rfl (lv_at hl 2 rfl) ?_
  refine lv_iadd (pc := 8) E.1 E.2.1 dX8_spreadNow_8 ?_
  refine lv_istore (lv' := [(4, .int ((5 * x1) + x2)), (0, .ref (ad 0)), (1, .int x1), (2, .int x2), (3, .int x3)]) (pc := 9) E.1 E.2.1 dX8_spreadNow_9 hl (by decide) rfl (fun ls hl => ?_)
  refine lv_aload_n (pc := 11) E.1 E.2.1 dX8_spreadNow_11 rfl (lv_at hl 1 rfl) ?_
  refine xg_X8_60 (pc := 12) (v := .ref (ad 16)) E hw 0 rfl rfl dX8_spreadNow_12 ?_
  refine lv_iload (pc := 15) E.1 E.2.1 dX8_spreadNow_15 (lv_at hl 0 rfl) ?_
  obtain ⟨v4, g3, hf⟩ := x_bind hf
  refine x_lald (pc := 17) E hw 16 rfl g3 dX8_spreadNow_17 ?_
  refine lv_lconst (v := 0) (pc := 18) E.1 E.2.1 dX8_spreadNow_18 (by decide) ?_
  refine W.lcmp (pc := 19) E.1 E.2.1 dX8_spreadNow_19 ?_
  refine lv_if_ne (tgt := 29) (pc := 20) E.1 E.2.1 dX8_spreadNow_20 (by decide) (fun q5 => ?_) (fun q5 => ?_)
  · have hf := x_neg q5 hf
    refine lv_iload_n (pc := 29) E.1 E.2.1 dX8_spreadNow_29 rfl (lv_at hl 4 rfl) ?_
    refine lv_if_eq (tgt := 43) (pc := 30) E.1 E.2.1 dX8_spreadNow_30 (by decide) (fun q6 => ?_) (fun q6 => ?_)
    · have hf := x_pos q6 hf
      refine lv_aload_n (pc := 43) E.1 E.2.1 dX8_spreadNow_43 rfl (lv_at hl 1 rfl) ?_
      refine xg_X8_57 (pc := 44) (v := .ref (ad 15)) E hw 0 rfl rfl dX8_spreadNow_44 ?_
      refine lv_iload (pc := 47) E.1 E.2.1 dX8_spreadNow_47 (lv_at hl 0 rfl) ?_
      obtain ⟨v8, g7, hf⟩ := x_bind hf
      refine x_lald (pc := 49) E hw 15 rfl g7 dX8_spreadNow_49 ?_
      obtain rfl := Option.some.inj hf
      exact x_retl (pc := 50) E hr hk hw dX8_spreadNow_50
    · have hf := x_neg q6 hf
      refine lv_aload_n (pc := 33) E.1 E.2.1 dX8_spreadNow_33 rfl (lv_at hl 1 rfl) ?_
      refine xg_X8_60 (pc := 34) (v := .ref (ad 16)) E hw 0 rfl rfl dX8_spreadNow_34 ?_
      refine lv_iload (pc := 37) E.1 E.2.1 dX8_spreadNow_37 (lv_at hl 0 rfl) ?_
      obtain ⟨v10, g9, hf⟩ := x_bind hf
      refine x_lald (pc := 39) E hw 16 rfl g9 dX8_spreadNow_39 ?_
      refine lv_goto (tgt := 50) (pc := 40) E.1 E.2.1 dX8_spreadNow_40 (by decide) ?_
      obtain rfl := Option.some.inj hf
      exact x_retl (pc := 50) E hr hk hw dX8_spreadNow_50
  · have hf := x_pos q5 hf
    refine lv_ldc2 (v := (-1000000000)) (pc := 23) E.1 E.2.1 E.2.2.2.1 (E.2.2.2.2.1 _ wq_1520) dX8_spreadNow_23 ?_
    refine lv_goto (tgt := 50) (pc := 26) E.1 E.2.1 dX8_spreadNow_26 (by decide) ?_
    obtain rfl := Option.some.inj hf
    exact x_retl (pc := 50) E hr hk hw dX8_spreadNow_50
set_option maxHeartbeats 4000000 in
set_option maxRecDepth 100000 in
theorem c_X8_spreadNow (l : Launch) (G : xG) (ad : Nat → Nat) (s : S8) (x1 : Int32) (x2 : Int32) (x3 : Int32) {z : Int64 × S8} (hf : f_X8_spreadNow s x1 x2 x3 = some z) : xC l yX8_spreadNow cX8_spreadNow 5 (some .long) (rm_X8_spreadNow) G [.ref (ad 0), .int x1, .int x2, .int x3] (cells8 G ad s) (some (.long z.1)) (cells8 G ad z.2) :=
  x_met (by decide) (Nat.le_of_ble_eq_true rfl) (fun p e sS m below meth c E hr hk ls hl hw => w_X8_spreadNow_p0 E hr hk s x1 x2 x3 z hw hl hf)
set_option maxHeartbeats 4000000 in
set_option maxRecDepth 100000 in
theorem w_X8_spread_p0 {p : Program} {l : Launch} {e : Env} {sS : State} {m : MethodId} {args : Array Value} {below : List Frame} {meth : Method} {c : Code} {G : xG} {W0 : va_W} {ad : Nat → Nat}   (E : xE p sS m args c cX8_spread 4 RX8 G (x_in W0)) (hr : meth.sig.returnType = (some .long)) (hk : meth.locks = false)  : ∀ (s' : S8) (x1' : Int32) (x2' : Int32) (x3' : Int32) (z : Int64 × S8) {H : Heap} {locs : List Loc} {ls : Array Slot}, xW G (x_in W0) sS.heap (cells8 G ad s') H locs → lv_has ls 4 [(0, .ref (ad 0)), (1, .int x1'), (2, .int x2'), (3, .int x3')] → f_X8_spread  s' x1' x2' x3' = some z → W p l e (rm_X8_spread) sS m args below meth c H locs 0 0 (MQ below (xQ G W0 (cells8 G ad z.2) (some (.long z.1))) args sS 0 0 (x_in W0)) (F0 m 0 ls []) := by
  intro s x1 x2 x3 z H locs ls hw hl hf
  unfold f_X8_spread at hf
  refine lv_iload_n (pc := 0) E.1 E.2.1 dX8_spread_0 rfl (lv_at hl 1 rfl) ?_
  obtain ⟨v1, g2, hf⟩ := x_bind hf
  refine x_callS0 (pc := 1) (As := [.int x1]) (rest := []) (st1 := [.int v1]) E hw hl (c_X8_isClass l G  x1 g2) xs_X8_108 xd_X8_isClass rfl rfl ⟨Nat.le_of_ble_eq_true rfl, Nat.le_of_ble_eq_true rfl⟩ rfl rfl (Nat.le_of_ble_eq_true rfl) rfl dX8_spread_1 (fun H locs hw => ?_)
  refine lv_if_eq (tgt := 16) (pc := 4) E.1 E.2.1 dX8_spread_4 (by decide) (fun q3 => ?_) (fun q3 => ?_)
  · have hf := x_pos q3 hf
    refine lv_ldc2 (v := (-1000000000)) (pc := 16) E.1 E.2.1 E.2.2.2.1 (E.2.2.2.2.1 _ wq_1520) dX8_spread_16 ?_
    obtain rfl := Option.some.inj hf
    exact x_retl (pc := 19) E hr hk hw dX8_spread_19
  · have hf := x_neg q3 hf
    refine lv_iload_n (pc := 7) E.1 E.2.1 dX8_spread_7 rfl (lv_at hl 2 rfl) ?_
    refine lv_iconst (v := 0) (pc := 8) E.1 E.2.1 dX8_spread_8 (by decide) ?_
    refine lv_iconst (v := 4) (pc := 9) E.1 E.2.1 dX8_spread_9 (by decide) ?_
    obtain ⟨v4, g5, hf⟩ := x_bind hf
    refine x_callS0 (pc := 10) (As := [.int x2, .int 0, .int 4]) (rest := []) (st1 := [.int v4]) E hw hl (c_X8_in l G  x2 0 4 g5) xs_X8_84 xd_X8_in rfl rfl ⟨Nat.le_of_ble_eq_true rfl, Nat.le_of_ble_eq_true rfl⟩ rfl rfl (Nat.le_of_ble_eq_true rfl) rfl dX8_spread_10 (fun H locs hw => ?_)
    refine lv_if_ne (tgt := 20) (pc := 13) E.1 E.2.1 dX8_spread_13 (by decide) (fun q6 => ?_) (fun q6 => ?_)
    · have hf := x_neg q6 hf
      refine lv_aload_n (pc := 20) E.1 E.2.1 dX8_spread_20 rfl (lv_at hl 0 rfl) ?_
      refine lv_iload_n (pc := 21) E.1 E.2.1 dX8_spread_21 rfl (lv_at hl 1 rfl) ?_
      refine lv_iload_n (pc := 22) E.1 E.2.1 dX8_spread_22 rfl (lv_at hl 2 rfl) ?_
      refine lv_iload_n (pc := 23) E.1 E.2.1 dX8_spread_23 rfl (lv_at hl 3 rfl) ?_
      obtain ⟨v7, g8, hf⟩ := x_bind hf
      refine x_callVA (pc := 24) (As := [.int x1, .int x2, .int x3]) (rest := []) (st1 := [.long v7.1]) (ws' := (cells8 G ad v7.2)) E hw hl (c_X8_spreadNow l G ad s x1 x2 x3 g8) xv_X8_232 xd_X8_spreadNow rfl rfl ⟨Nat.le_of_ble_eq_true rfl, Nat.le_of_ble_eq_true rfl⟩ (q0 := 0) rfl rfl rfl rfl (Nat.le_of_ble_eq_true rfl) rfl rfl dX8_spread_24 (fun H locs hw => ?_)
      obtain rfl := Option.some.inj hf
      exact x_retl (pc := 27) E hr hk hw dX8_spread_27
    · have hf := x_pos q6 hf
      refine lv_ldc2 (v := (-1000000000)) (pc := 16) E.1 E.2.1 E.2.2.2.1 (E.2.2.2.2.1 _ wq_1520) dX8_spread_16 ?_
      obtain rfl := Option.some.inj hf
      exact x_retl (pc := 19) E hr hk hw dX8_spread_19
set_option maxHeartbeats 4000000 in
set_option maxRecDepth 100000 in
theorem c_X8_spread (l : Launch) (G : xG) (ad : Nat → Nat) (s : S8) (x1 : Int32) (x2 : Int32) (x3 : Int32) {z : Int64 × S8} (hf : f_X8_spread s x1 x2 x3 = some z) : xC l yX8_spread cX8_spread 4 (some .long) (rm_X8_spread) G [.ref (ad 0), .int x1, .int x2, .int x3] (cells8 G ad s) (some (.long z.1)) (cells8 G ad z.2) :=
  x_met (by decide) (Nat.le_of_ble_eq_true rfl) (fun p e sS m below meth c E hr hk ls hl hw => w_X8_spread_p0 E hr hk s x1 x2 x3 z hw hl hf)
set_option maxHeartbeats 4000000 in
set_option maxRecDepth 100000 in
theorem w_X8_whole_p0 {p : Program} {l : Launch} {e : Env} {sS : State} {m : MethodId} {args : Array Value} {below : List Frame} {meth : Method} {c : Code} {G : xG} {W0 : va_W} {ad : Nat → Nat}   (E : xE p sS m args c cX8_whole 2 RX8 G (x_in W0)) (hr : meth.sig.returnType = (some .long)) (hk : meth.locks = false)  : ∀ (s' : S8) (x1' : Int32) (z : Int64 × S8) {H : Heap} {locs : List Loc} {ls : Array Slot}, xW G (x_in W0) sS.heap (cells8 G ad s') H locs → lv_has ls 2 [(0, .ref (ad 0)), (1, .int x1')] → f_X8_whole  s' x1' = some z → W p l e (rm_X8_whole) sS m args below meth c H locs 0 0 (MQ below (xQ G W0 (cells8 G ad z.2) (some (.long z.1))) args sS 0 0 (x_in W0)) (F0 m 0 ls []) := by
  intro s x1 z H locs ls hw hl hf
  unfold f_X8_whole at hf
  refine lv_aload_n (pc := 0) E.1 E.2.1 dX8_whole_0 rfl (lv_at hl 0 rfl) ?_
  obtain ⟨v1, g2, hf⟩ := x_bind hf
  refine x_callVA (pc := 1) (As := []) (rest := []) (st1 := []) (ws' := (cells8 G ad v1)) E hw hl (c_X8_sums l G ad s g2) xv_X8_206 xd_X8_sums rfl rfl ⟨Nat.le_of_ble_eq_true rfl, Nat.le_of_ble_eq_true rfl⟩ (q0 := 0) rfl rfl rfl rfl (Nat.le_of_ble_eq_true rfl) rfl rfl dX8_whole_1 (fun H locs hw => ?_)
  refine lv_aload_n (pc := 4) E.1 E.2.1 dX8_whole_4 rfl (lv_at hl 0 rfl) ?_
  refine xg_X8_178 (pc := 5) (v := .long (g8_wholeLow v1)) E hw 0 rfl rfl dX8_whole_5 ?_
  refine lv_lconst (v := 0) (pc := 8) E.1 E.2.1 dX8_whole_8 (by decide) ?_
  refine W.lcmp (pc := 9) E.1 E.2.1 dX8_whole_9 ?_
  refine lv_if_ne (tgt := 19) (pc := 10) E.1 E.2.1 dX8_whole_10 (by decide) (fun q3 => ?_) (fun q3 => ?_)
  · have hf := x_neg q3 hf
    refine lv_iload_n (pc := 19) E.1 E.2.1 dX8_whole_19 rfl (lv_at hl 1 rfl) ?_
    refine lv_if_eq (tgt := 30) (pc := 20) E.1 E.2.1 dX8_whole_20 (by decide) (fun q4 => ?_) (fun q4 => ?_)
    · have hf := x_pos q4 hf
      refine lv_aload_n (pc := 30) E.1 E.2.1 dX8_whole_30 rfl (lv_at hl 0 rfl) ?_
      refine xg_X8_181 (pc := 31) (v := .long (g8_wholeUp v1)) E hw 0 rfl rfl dX8_whole_31 ?_
      obtain rfl := Option.some.inj hf
      exact x_retl (pc := 34) E hr hk hw dX8_whole_34
    · have hf := x_neg q4 hf
      refine lv_aload_n (pc := 23) E.1 E.2.1 dX8_whole_23 rfl (lv_at hl 0 rfl) ?_
      refine xg_X8_178 (pc := 24) (v := .long (g8_wholeLow v1)) E hw 0 rfl rfl dX8_whole_24 ?_
      refine lv_goto (tgt := 34) (pc := 27) E.1 E.2.1 dX8_whole_27 (by decide) ?_
      obtain rfl := Option.some.inj hf
      exact x_retl (pc := 34) E hr hk hw dX8_whole_34
  · have hf := x_pos q3 hf
    refine lv_ldc2 (v := (-1000000000)) (pc := 13) E.1 E.2.1 E.2.2.2.1 (E.2.2.2.2.1 _ wq_1520) dX8_whole_13 ?_
    refine lv_goto (tgt := 34) (pc := 16) E.1 E.2.1 dX8_whole_16 (by decide) ?_
    obtain rfl := Option.some.inj hf
    exact x_retl (pc := 34) E hr hk hw dX8_whole_34
set_option maxHeartbeats 4000000 in
set_option maxRecDepth 100000 in
theorem c_X8_whole (l : Launch) (G : xG) (ad : Nat → Nat) (s : S8) (x1 : Int32) {z : Int64 × S8} (hf : f_X8_whole s x1 = some z) : xC l yX8_whole cX8_whole 2 (some .long) (rm_X8_whole) G [.ref (ad 0), .int x1] (cells8 G ad s) (some (.long z.1)) (cells8 G ad z.2) :=
  x_met (by decide) (Nat.le_of_ble_eq_true rfl) (fun p e sS m below meth c E hr hk ls hl hw => w_X8_whole_p0 E hr hk s x1 z hw hl hf)
set_option maxHeartbeats 4000000 in
set_option maxRecDepth 100000 in
theorem w_X8_rate_p0 {p : Program} {l : Launch} {e : Env} {sS : State} {m : MethodId} {args : Array Value} {below : List Frame} {meth : Method} {c : Code} {G : xG} {W0 : va_W} {ad : Nat → Nat}   (E : xE p sS m args c cX8_rate 3 RX8 G (x_in W0)) (hr : meth.sig.returnType = (some .long)) (hk : meth.locks = false)  : ∀ (s' : S8) (x1' : Int32) (x2' : Int32) (z : Int64 × S8) {H : Heap} {locs : List Loc} {ls : Array Slot}, xW G (x_in W0) sS.heap (cells8 G ad s') H locs → lv_has ls 3 [(0, .ref (ad 0)), (1, .int x1'), (2, .int x2')] → f_X8_rate  s' x1' x2' = some z → W p l e (rm_X8_rate) sS m args below meth c H locs 0 0 (MQ below (xQ G W0 (cells8 G ad z.2) (some (.long z.1))) args sS 0 0 (x_in W0)) (F0 m 0 ls []) := by
  intro s x1 x2 z H locs ls hw hl hf
  unfold f_X8_rate at hf
  refine lv_aload_n (pc := 0) E.1 E.2.1 dX8_rate_0 rfl (lv_at hl 0 rfl) ?_
  refine lv_iload_n (pc := 1) E.1 E.2.1 dX8_rate_1 rfl (lv_at hl 1 rfl) ?_
  obtain ⟨v1, g2, hf⟩ := x_bind hf
  refine x_callVA (pc := 2) (As := [.int x1]) (rest := []) (st1 := [.int v1]) (ws' := (cells8 G ad s)) E hw hl (c_X8_isFleet l G ad s x1 g2) xv_X8_115 xd_X8_isFleet rfl rfl ⟨Nat.le_of_ble_eq_true rfl, Nat.le_of_ble_eq_true rfl⟩ (q0 := 0) rfl rfl rfl rfl (Nat.le_of_ble_eq_true rfl) rfl rfl dX8_rate_2 (fun H locs hw => ?_)
  refine lv_if_eq (tgt := 16) (pc := 5) E.1 E.2.1 dX8_rate_5 (by decide) (fun q3 => ?_) (fun q3 => ?_)
  · have hf := x_pos q3 hf
    refine lv_ldc2 (v := (-1000000000)) (pc := 16) E.1 E.2.1 E.2.2.2.1 (E.2.2.2.2.1 _ wq_1520) dX8_rate_16 ?_
    obtain rfl := Option.some.inj hf
    exact x_retl (pc := 19) E hr hk hw dX8_rate_19
  · have hf := x_neg q3 hf
    refine lv_aload_n (pc := 8) E.1 E.2.1 dX8_rate_8 rfl (lv_at hl 0 rfl) ?_
    refine lv_iload_n (pc := 9) E.1 E.2.1 dX8_rate_9 rfl (lv_at hl 1 rfl) ?_
    obtain ⟨v4, g5, hf⟩ := x_bind hf
    refine x_callVA (pc := 10) (As := [.int x1]) (rest := []) (st1 := [.int v4]) (ws' := (cells8 G ad s)) E hw hl (c_X8_isRated l G ad s x1 g5) xv_X8_236 xd_X8_isRated rfl rfl ⟨Nat.le_of_ble_eq_true rfl, Nat.le_of_ble_eq_true rfl⟩ (q0 := 0) rfl rfl rfl rfl (Nat.le_of_ble_eq_true rfl) rfl rfl dX8_rate_10 (fun H locs hw => ?_)
    refine lv_if_ne (tgt := 20) (pc := 13) E.1 E.2.1 dX8_rate_13 (by decide) (fun q6 => ?_) (fun q6 => ?_)
    · have hf := x_neg q6 hf
      refine lv_aload_n (pc := 20) E.1 E.2.1 dX8_rate_20 rfl (lv_at hl 0 rfl) ?_
      obtain ⟨v7, g8, hf⟩ := x_bind hf
      refine x_callVA (pc := 21) (As := []) (rest := []) (st1 := []) (ws' := (cells8 G ad v7)) E hw hl (c_X8_works l G ad s g8) xv_X8_221 xd_X8_works rfl rfl ⟨Nat.le_of_ble_eq_true rfl, Nat.le_of_ble_eq_true rfl⟩ (q0 := 0) rfl rfl rfl rfl (Nat.le_of_ble_eq_true rfl) rfl rfl dX8_rate_21 (fun H locs hw => ?_)
      refine lv_iload_n (pc := 24) E.1 E.2.1 dX8_rate_24 rfl (lv_at hl 2 rfl) ?_
      refine lv_if_eq (tgt := 37) (pc := 25) E.1 E.2.1 dX8_rate_25 (by decide) (fun q9 => ?_) (fun q9 => ?_)
      · have hf := x_pos q9 hf
        refine lv_aload_n (pc := 37) E.1 E.2.1 dX8_rate_37 rfl (lv_at hl 0 rfl) ?_
        refine xg_X8_38 (pc := 38) (v := .ref (ad 9)) E hw 0 rfl rfl dX8_rate_38 ?_
        refine lv_iload_n (pc := 41) E.1 E.2.1 dX8_rate_41 rfl (lv_at hl 1 rfl) ?_
        obtain ⟨v11, g10, hf⟩ := x_bind hf
        refine x_lald (pc := 42) E hw 9 rfl g10 dX8_rate_42 ?_
        obtain rfl := Option.some.inj hf
        exact x_retl (pc := 43) E hr hk hw dX8_rate_43
      · have hf := x_neg q9 hf
        refine lv_aload_n (pc := 28) E.1 E.2.1 dX8_rate_28 rfl (lv_at hl 0 rfl) ?_
        refine xg_X8_42 (pc := 29) (v := .ref (ad 10)) E hw 0 rfl rfl dX8_rate_29 ?_
        refine lv_iload_n (pc := 32) E.1 E.2.1 dX8_rate_32 rfl (lv_at hl 1 rfl) ?_
        obtain ⟨v13, g12, hf⟩ := x_bind hf
        refine x_lald (pc := 33) E hw 10 rfl g12 dX8_rate_33 ?_
        refine lv_goto (tgt := 43) (pc := 34) E.1 E.2.1 dX8_rate_34 (by decide) ?_
        obtain rfl := Option.some.inj hf
        exact x_retl (pc := 43) E hr hk hw dX8_rate_43
    · have hf := x_pos q6 hf
      refine lv_ldc2 (v := (-1000000000)) (pc := 16) E.1 E.2.1 E.2.2.2.1 (E.2.2.2.2.1 _ wq_1520) dX8_rate_16 ?_
      obtain rfl := Option.some.inj hf
      exact x_retl (pc := 19) E hr hk hw dX8_rate_19
set_option maxHeartbeats 4000000 in
set_option maxRecDepth 100000 in
theorem c_X8_rate (l : Launch) (G : xG) (ad : Nat → Nat) (s : S8) (x1 : Int32) (x2 : Int32) {z : Int64 × S8} (hf : f_X8_rate s x1 x2 = some z) : xC l yX8_rate cX8_rate 3 (some .long) (rm_X8_rate) G [.ref (ad 0), .int x1, .int x2] (cells8 G ad s) (some (.long z.1)) (cells8 G ad z.2) :=
  x_met (by decide) (Nat.le_of_ble_eq_true rfl) (fun p e sS m below meth c E hr hk ls hl hw => w_X8_rate_p0 E hr hk s x1 x2 z hw hl hf)
set_option maxHeartbeats 4000000 in
set_option maxRecDepth 100000 in
theorem w_X8_thousandths_p0 {p : Program} {l : Launch} {e : Env} {sS : State} {m : MethodId} {args : Array Value} {below : List Frame} {meth : Method} {c : Code} {G : xG} {W0 : va_W} {ad : Nat → Nat}   (E : xE p sS m args c cX8_thousandths 2 RX8 G (x_in W0)) (hr : meth.sig.returnType = (some .int)) (hk : meth.locks = false)  : ∀ (s' : S8) (x1' : Int32) (z : Int32 × S8) {H : Heap} {locs : List Loc} {ls : Array Slot}, xW G (x_in W0) sS.heap (cells8 G ad s') H locs → lv_has ls 2 [(0, .ref (ad 0)), (1, .int x1')] → f_X8_thousandths  s' x1' = some z → W p l e (rm_X8_thousandths) sS m args below meth c H locs 0 0 (MQ below (xQ G W0 (cells8 G ad z.2) (some (.int z.1))) args sS 0 0 (x_in W0)) (F0 m 0 ls []) := by
  intro s x1 z H locs ls hw hl hf
  unfold f_X8_thousandths at hf
  refine lv_aload_n (pc := 0) E.1 E.2.1 dX8_thousandths_0 rfl (lv_at hl 0 rfl) ?_
  refine lv_iload_n (pc := 1) E.1 E.2.1 dX8_thousandths_1 rfl (lv_at hl 1 rfl) ?_
  obtain ⟨v1, g2, hf⟩ := x_bind hf
  refine x_callVA (pc := 2) (As := [.int x1]) (rest := []) (st1 := [.int v1]) (ws' := (cells8 G ad s)) E hw hl (c_X8_isFleet l G ad s x1 g2) xv_X8_115 xd_X8_isFleet rfl rfl ⟨Nat.le_of_ble_eq_true rfl, Nat.le_of_ble_eq_true rfl⟩ (q0 := 0) rfl rfl rfl rfl (Nat.le_of_ble_eq_true rfl) rfl rfl dX8_thousandths_2 (fun H locs hw => ?_)
  refine lv_if_ne (tgt := 10) (pc := 5) E.1 E.2.1 dX8_thousandths_5 (by decide) (fun q3 => ?_) (fun q3 => ?_)
  · have hf := x_neg q3 hf
    refine lv_aload_n (pc := 10) E.1 E.2.1 dX8_thousandths_10 rfl (lv_at hl 0 rfl) ?_
    refine lv_iload_n (pc := 11) E.1 E.2.1 dX8_thousandths_11 rfl (lv_at hl 1 rfl) ?_
    obtain ⟨v4, g5, hf⟩ := x_bind hf
    refine x_callVA (pc := 12) (As := [.int x1]) (rest := []) (st1 := [.int v4]) (ws' := (cells8 G ad s)) E hw hl (c_X8_isRated l G ad s x1 g5) xv_X8_236 xd_X8_isRated rfl rfl ⟨Nat.le_of_ble_eq_true rfl, Nat.le_of_ble_eq_true rfl⟩ (q0 := 0) rfl rfl rfl rfl (Nat.le_of_ble_eq_true rfl) rfl rfl dX8_thousandths_12 (fun H locs hw => ?_)
    refine lv_if_eq (tgt := 26) (pc := 15) E.1 E.2.1 dX8_thousandths_15 (by decide) (fun q6 => ?_) (fun q6 => ?_)
    · have hf := x_pos q6 hf
      refine lv_bipush (v := (-2)) (pc := 26) E.1 E.2.1 dX8_thousandths_26 (by decide) ?_
      obtain rfl := Option.some.inj hf
      exact x_reti (pc := 28) E hr hk hw dX8_thousandths_28
    · have hf := x_neg q6 hf
      refine lv_aload_n (pc := 18) E.1 E.2.1 dX8_thousandths_18 rfl (lv_at hl 0 rfl) ?_
      refine lv_iload_n (pc := 19) E.1 E.2.1 dX8_thousandths_19 rfl (lv_at hl 1 rfl) ?_
      obtain ⟨v7, g8, hf⟩ := x_bind hf
      refine x_callVA (pc := 20) (As := [.int x1]) (rest := []) (st1 := [.int v7.1]) (ws' := (cells8 G ad v7.2)) E hw hl (c_X8_ratedNow l G ad s x1 g8) xv_X8_239 xd_X8_ratedNow rfl rfl ⟨Nat.le_of_ble_eq_true rfl, Nat.le_of_ble_eq_true rfl⟩ (q0 := 0) rfl rfl rfl rfl (Nat.le_of_ble_eq_true rfl) rfl rfl dX8_thousandths_20 (fun H locs hw => ?_)
      refine lv_goto (tgt := 28) (pc := 23) E.1 E.2.1 dX8_thousandths_23 (by decide) ?_
      obtain rfl := Option.some.inj hf
      exact x_reti (pc := 28) E hr hk hw dX8_thousandths_28
  · have hf := x_pos q3 hf
    refine lv_iconst (v := (-1)) (pc := 8) E.1 E.2.1 dX8_thousandths_8 (by decide) ?_
    obtain rfl := Option.some.inj hf
    exact x_reti (pc := 9) E hr hk hw dX8_thousandths_9
set_option maxHeartbeats 4000000 in
set_option maxRecDepth 100000 in
theorem c_X8_thousandths (l : Launch) (G : xG) (ad : Nat → Nat) (s : S8) (x1 : Int32) {z : Int32 × S8} (hf : f_X8_thousandths s x1 = some z) : xC l yX8_thousandths cX8_thousandths 2 (some .int) (rm_X8_thousandths) G [.ref (ad 0), .int x1] (cells8 G ad s) (some (.int z.1)) (cells8 G ad z.2) :=
  x_met (by decide) (Nat.le_of_ble_eq_true rfl) (fun p e sS m below meth c E hr hk ls hl hw => w_X8_thousandths_p0 E hr hk s x1 z hw hl hf)
set_option maxHeartbeats 4000000 in
set_option maxRecDepth 100000 in
theorem w_X8_isAhead_p0 {p : Program} {l : Launch} {e : Env} {sS : State} {m : MethodId} {args : Array Value} {below : List Frame} {meth : Method} {c : Code} {G : xG} {W0 : va_W} {ad : Nat → Nat}   (E : xE p sS m args c cX8_isAhead 3 RX8 G (x_in W0)) (hr : meth.sig.returnType = (some .boolean)) (hk : meth.locks = false)  : ∀ (s' : S8) (x1' : Int32) (x2' : Int32) (z : Int32) {H : Heap} {locs : List Loc} {ls : Array Slot}, xW G (x_in W0) sS.heap (cells8 G ad s') H locs → lv_has ls 3 [(0, .ref (ad 0)), (1, .int x1'), (2, .int x2')] → f_X8_isAhead  s' x1' x2' = some z → W p l e (rm_X8_isAhead) sS m args below meth c H locs 0 0 (MQ below (xQ G W0 (cells8 G ad s') (some (.int z))) args sS 0 0 (x_in W0)) (F0 m 0 ls []) := by
  intro s x1 x2 z H locs ls hw hl hf
  unfold f_X8_isAhead at hf
  refine lv_aload_n (pc := 0) E.1 E.2.1 dX8_isAhead_0 rfl (lv_at hl 0 rfl) ?_
  refine xg_X8_38 (pc := 1) (v := .ref (ad 9)) E hw 0 rfl rfl dX8_isAhead_1 ?_
  refine lv_iload_n (pc := 4) E.1 E.2.1 dX8_isAhead_4 rfl (lv_at hl 2 rfl) ?_
  obtain ⟨v2, g1, hf⟩ := x_bind hf
  refine x_lald (pc := 5) E hw 9 rfl g1 dX8_isAhead_5 ?_
  refine lv_aload_n (pc := 6) E.1 E.2.1 dX8_isAhead_6 rfl (lv_at hl 0 rfl) ?_
  refine xg_X8_42 (pc := 7) (v := .ref (ad 10)) E hw 0 rfl rfl dX8_isAhead_7 ?_
  refine lv_iload_n (pc := 10) E.1 E.2.1 dX8_isAhead_10 rfl (lv_at hl 2 rfl) ?_
  obtain ⟨v4, g3, hf⟩ := x_bind hf
  refine x_lald (pc := 11) E hw 10 rfl g3 dX8_isAhead_11 ?_
  refine lv_aload_n (pc := 12) E.1 E.2.1 dX8_isAhead_12 rfl (lv_at hl 0 rfl) ?_
  refine xg_X8_38 (pc := 13) (v := .ref (ad 9)) E hw 0 rfl rfl dX8_isAhead_13 ?_
  refine lv_iload_n (pc := 16) E.1 E.2.1 dX8_isAhead_16 rfl (lv_at hl 1 rfl) ?_
  obtain ⟨v6, g5, hf⟩ := x_bind hf
  refine x_lald (pc := 17) E hw 9 rfl g5 dX8_isAhead_17 ?_
  refine lv_aload_n (pc := 18) E.1 E.2.1 dX8_isAhead_18 rfl (lv_at hl 0 rfl) ?_
  refine xg_X8_42 (pc := 19) (v := .ref (ad 10)) E hw 0 rfl rfl dX8_isAhead_19 ?_
  refine lv_iload_n (pc := 22) E.1 E.2.1 dX8_isAhead_22 rfl (lv_at hl 1 rfl) ?_
  obtain ⟨v8, g7, hf⟩ := x_bind hf
  refine x_lald (pc := 23) E hw 10 rfl g7 dX8_isAhead_23 ?_
  obtain ⟨v9, g10, hf⟩ := x_bind hf
  refine x_callS0 (pc := 24) (As := [.long v2, .long v4, .long v6, .long v8]) (rest := []) (st1 := [.int v9]) E hw hl (c_X8_isLess l G  v2 v4 v6 v8 g10) xs_X8_242 xd_X8_isLess rfl rfl ⟨Nat.le_of_ble_eq_true rfl, Nat.le_of_ble_eq_true rfl⟩ rfl rfl (Nat.le_of_ble_eq_true rfl) rfl dX8_isAhead_24 (fun H locs hw => ?_)
  refine lv_if_eq (tgt := 32) (pc := 27) E.1 E.2.1 dX8_isAhead_27 (by decide) (fun q11 => ?_) (fun q11 => ?_)
  · have hf := x_pos q11 hf
    refine lv_iload_n (pc := 32) E.1 E.2.1 dX8_isAhead_32 rfl (lv_at hl 1 rfl) ?_
    refine lv_iload_n (pc := 33) E.1 E.2.1 dX8_isAhead_33 rfl (lv_at hl 2 rfl) ?_
    refine lv_icmp_ge (tgt := 71) (pc := 34) E.1 E.2.1 dX8_isAhead_34 (by decide) (fun q12 => ?_) (fun q12 => ?_)
    · have hf := x_pos q12 hf
      refine lv_iconst (v := 0) (pc := 71) E.1 E.2.1 dX8_isAhead_71 (by decide) ?_
      obtain rfl := Option.some.inj hf
      exact x_retz (pc := 72) (v := 0) (r := 0) E hr hk hw (by decide) dX8_isAhead_72
    · have hf := x_neg q12 hf
      refine lv_aload_n (pc := 37) E.1 E.2.1 dX8_isAhead_37 rfl (lv_at hl 0 rfl) ?_
      refine xg_X8_38 (pc := 38) (v := .ref (ad 9)) E hw 0 rfl rfl dX8_isAhead_38 ?_
      refine lv_iload_n (pc := 41) E.1 E.2.1 dX8_isAhead_41 rfl (lv_at hl 1 rfl) ?_
      obtain ⟨v14, g13, hf⟩ := x_bind hf
      refine x_lald (pc := 42) E hw 9 rfl g13 dX8_isAhead_42 ?_
      refine lv_aload_n (pc := 43) E.1 E.2.1 dX8_isAhead_43 rfl (lv_at hl 0 rfl) ?_
      refine xg_X8_42 (pc := 44) (v := .ref (ad 10)) E hw 0 rfl rfl dX8_isAhead_44 ?_
      refine lv_iload_n (pc := 47) E.1 E.2.1 dX8_isAhead_47 rfl (lv_at hl 1 rfl) ?_
      obtain ⟨v16, g15, hf⟩ := x_bind hf
      refine x_lald (pc := 48) E hw 10 rfl g15 dX8_isAhead_48 ?_
      refine lv_aload_n (pc := 49) E.1 E.2.1 dX8_isAhead_49 rfl (lv_at hl 0 rfl) ?_
      refine xg_X8_38 (pc := 50) (v := .ref (ad 9)) E hw 0 rfl rfl dX8_isAhead_50 ?_
      refine lv_iload_n (pc := 53) E.1 E.2.1 dX8_isAhead_53 rfl (lv_at hl 2 rfl) ?_
      obtain ⟨v18, g17, hf⟩ := x_bind hf
      refine x_lald (pc := 54) E hw 9 rfl g17 dX8_isAhead_54 ?_
      refine lv_aload_n (pc := 55) E.1 E.2.1 dX8_isAhead_55 rfl (lv_at hl 0 rfl) ?_
      refine xg_X8_42 (pc := 56) (v := .ref (ad 10)) E hw 0 rfl rfl dX8_isAhead_56 ?_
      refine lv_iload_n (pc := 59) E.1 E.2.1 dX8_isAhead_59 rfl (lv_at hl 2 rfl) ?_
      obtain ⟨v20, g19, hf⟩ := x_bind hf
      refine x_lald (pc := 60) E hw 10 rfl g19 dX8_isAhead_60 ?_
      obtain ⟨v21, g22, hf⟩ := x_bind hf
      refine x_callS0 (pc := 61) (As := [.long v14, .long v16, .long v18, .long v20]) (rest := []) (st1 := [.int v21]) E hw hl (c_X8_isLess l G  v14 v16 v18 v20 g22) xs_X8_242 xd_X8_isLess rfl rfl ⟨Nat.le_of_ble_eq_true rfl, Nat.le_of_ble_eq_true rfl⟩ rfl rfl (Nat.le_of_ble_eq_true rfl) rfl dX8_isAhead_61 (fun H locs hw => ?_)
      refine lv_if_ne (tgt := 71) (pc := 64) E.1 E.2.1 dX8_isAhead_64 (by decide) (fun q23 => ?_) (fun q23 => ?_)
      · have hf := x_neg q23 hf
        refine lv_iconst (v := 0) (pc := 71) E.1 E.2.1 dX8_isAhead_71 (by decide) ?_
        obtain rfl := Option.some.inj hf
        exact x_retz (pc := 72) (v := 0) (r := 0) E hr hk hw (by decide) dX8_isAhead_72
      · have hf := x_pos q23 hf
        refine lv_iconst (v := 1) (pc := 67) E.1 E.2.1 dX8_isAhead_67 (by decide) ?_
        refine lv_goto (tgt := 72) (pc := 68) E.1 E.2.1 dX8_isAhead_68 (by decide) ?_
        obtain rfl := Option.some.inj hf
        exact x_retz (pc := 72) (v := 1) (r := 1) E hr hk hw (by decide) dX8_isAhead_72
  · have hf := x_neg q11 hf
    refine lv_iconst (v := 1) (pc := 30) E.1 E.2.1 dX8_isAhead_30 (by decide) ?_
    obtain rfl := Option.some.inj hf
    exact x_retz (pc := 31) (v := 1) (r := 1) E hr hk hw (by decide) dX8_isAhead_31
set_option maxHeartbeats 4000000 in
set_option maxRecDepth 100000 in
theorem c_X8_isAhead (l : Launch) (G : xG) (ad : Nat → Nat) (s : S8) (x1 : Int32) (x2 : Int32) {z : Int32} (hf : f_X8_isAhead s x1 x2 = some z) : xC l yX8_isAhead cX8_isAhead 3 (some .boolean) (rm_X8_isAhead) G [.ref (ad 0), .int x1, .int x2] (cells8 G ad s) (some (.int z)) (cells8 G ad s) :=
  x_met (by decide) (Nat.le_of_ble_eq_true rfl) (fun p e sS m below meth c E hr hk ls hl hw => w_X8_isAhead_p0 E hr hk s x1 x2 z hw hl hf)
set_option maxHeartbeats 4000000 in
set_option maxRecDepth 100000 in
theorem w_X8_ranked_p31 {p : Program} {l : Launch} {e : Env} {sS : State} {m : MethodId} {args : Array Value} {below : List Frame} {meth : Method} {c : Code} {G : xG} {W0 : va_W} {ad : Nat → Nat}  {k6 : S8 → Int32 → Int32 → Option (Int32 × S8)} {k31 : S8 → Int32 → Int32 → Int32 → Int32 → Option (Int32 × S8)} (E : xE p sS m args c cX8_ranked 5 RX8 G (x_in W0)) (hr : meth.sig.returnType = (some .int)) (hk : meth.locks = false) (hk6 : ∀ (s' : S8) (x1' : Int32) (x2' : Int32) (z : Int32 × S8) {H : Heap} {locs : List Loc} {ls : Array Slot}, xW G (x_in W0) sS.heap (cells8 G ad s') H locs → lv_has ls 5 [(0, .ref (ad 0)), (1, .int x1'), (2, .int x2')] → k6  s' x1' x2' = some z → W p l e (rm_X8_ranked) sS m args below meth c H locs 0 0 (MQ below (xQ G W0 (cells8 G ad z.2) (some (.int z.1))) args sS 0 0 (x_in W0)) (F0 m 6 ls [])) (hk31 : ∀ (s' : S8) (x1' : Int32) (x2' : Int32) (x3' : Int32) (x4' : Int32) (z : Int32 × S8) {H : Heap} {locs : List Loc} {ls : Array Slot}, xW G (x_in W0) sS.heap (cells8 G ad s') H locs → lv_has ls 5 [(0, .ref (ad 0)), (1, .int x1'), (2, .int x2'), (3, .int x3'), (4, .int x4')] → k31  s' x1' x2' x3' x4' = some z → W p l e (rm_X8_ranked) sS m args below meth c H locs 0 0 (MQ below (xQ G W0 (cells8 G ad z.2) (some (.int z.1))) args sS 0 0 (x_in W0)) (F0 m 31 ls [])) : ∀ (s' : S8) (x1' : Int32) (x2' : Int32) (x3' : Int32) (x4' : Int32) (z : Int32 × S8) {H : Heap} {locs : List Loc} {ls : Array Slot}, xW G (x_in W0) sS.heap (cells8 G ad s') H locs → lv_has ls 5 [(0, .ref (ad 0)), (1, .int x1'), (2, .int x2'), (3, .int x3'), (4, .int x4')] → f_X8_ranked_p31 k6 k31 s' x1' x2' x3' x4' = some z → W p l e (rm_X8_ranked) sS m args below meth c H locs 0 0 (MQ below (xQ G W0 (cells8 G ad z.2) (some (.int z.1))) args sS 0 0 (x_in W0)) (F0 m 31 ls []) := by
  intro s x1 x2 x3 x4 z H locs ls hw hl hf
  unfold f_X8_ranked_p31 at hf
  refine lv_iload (pc := 31) E.1 E.2.1 dX8_ranked_31 (lv_at hl 4 rfl) ?_
  refine lv_aload_n (pc := 33) E.1 E.2.1 dX8_ranked_33 rfl (lv_at hl 0 rfl) ?_
  obtain ⟨v1, g2, hf⟩ := x_bind hf
  refine x_callVA (pc := 34) (As := []) (rest := [.int x4]) (st1 := [.int v1, .int x4]) (ws' := (cells8 G ad s)) E hw hl (c_X8_many l G ad s g2) xv_X8_80 xd_X8_many rfl rfl ⟨Nat.le_of_ble_eq_true rfl, Nat.le_of_ble_eq_true rfl⟩ (q0 := 0) rfl rfl rfl rfl (Nat.le_of_ble_eq_true rfl) rfl rfl dX8_ranked_34 (fun H locs hw => ?_)
  refine lv_icmp_ge (tgt := 75) (pc := 37) E.1 E.2.1 dX8_ranked_37 (by decide) (fun q3 => ?_) (fun q3 => ?_)
  · have hf := x_pos q3 hf
    refine lv_iload_n (pc := 75) E.1 E.2.1 dX8_ranked_75 rfl (lv_at hl 3 rfl) ?_
    refine lv_iload_n (pc := 76) E.1 E.2.1 dX8_ranked_76 rfl (lv_at hl 1 rfl) ?_
    refine lv_icmp_ne (tgt := 82) (pc := 77) E.1 E.2.1 dX8_ranked_77 (by decide) (fun q4 => ?_) (fun q4 => ?_)
    · have hf := x_neg q4 hf
      refine lv_iinc (v := (x2 + 1)) (lv' := [(2, .int (x2 + 1)), (0, .ref (ad 0)), (1, .int x1), (3, .int x3), (4, .int x4)]) (pc := 82) E.1 E.2.1 dX8_ranked_82 hl (k := 2) rfl rfl (by decide) rfl (fun ls hl => ?_)
      refine lv_goto (tgt := 6) (pc := 85) E.1 E.2.1 dX8_ranked_85 (by decide) ?_
      exact hk6 s x1 (x2 + 1) z hw (lv_sub hl [1, 2, 0] rfl) hf
    · have hf := x_pos q4 hf
      refine lv_iload_n (pc := 80) E.1 E.2.1 dX8_ranked_80 rfl (lv_at hl 2 rfl) ?_
      obtain rfl := Option.some.inj hf
      exact x_reti (pc := 81) E hr hk hw dX8_ranked_81
  · have hf := x_neg q3 hf
    refine lv_iload (pc := 40) E.1 E.2.1 dX8_ranked_40 (lv_at hl 4 rfl) ?_
    refine lv_iload_n (pc := 42) E.1 E.2.1 dX8_ranked_42 rfl (lv_at hl 2 rfl) ?_
    refine lv_icmp_eq (tgt := 69) (pc := 43) E.1 E.2.1 dX8_ranked_43 (by decide) (fun q5 => ?_) (fun q5 => ?_)
    · have hf := x_pos q5 hf
      refine lv_iinc (v := (x4 + 1)) (lv' := [(4, .int (x4 + 1)), (0, .ref (ad 0)), (1, .int x1), (2, .int x2), (3, .int x3)]) (pc := 69) E.1 E.2.1 dX8_ranked_69 hl (k := 4) rfl rfl (by decide) rfl (fun ls hl => ?_)
      refine lv_goto (tgt := 31) (pc := 72) E.1 E.2.1 dX8_ranked_72 (by decide) ?_
      exact hk31 s x1 x2 x3 (x4 + 1) z hw (lv_sub hl [1, 2, 3, 4, 0] rfl) hf
    · have hf := x_neg q5 hf
      refine lv_aload_n (pc := 46) E.1 E.2.1 dX8_ranked_46 rfl (lv_at hl 0 rfl) ?_
      refine xg_X8_26 (pc := 47) (v := .ref (ad 5)) E hw 0 rfl rfl dX8_ranked_47 ?_
      refine lv_iload (pc := 50) E.1 E.2.1 dX8_ranked_50 (lv_at hl 4 rfl) ?_
      obtain ⟨v7, g6, hf⟩ := x_bind hf
      refine x_iald (pc := 52) E hw 5 rfl g6 dX8_ranked_52 ?_
      refine lv_if_le (tgt := 69) (pc := 53) E.1 E.2.1 dX8_ranked_53 (by decide) (fun q8 => ?_) (fun q8 => ?_)
      · have hf := x_pos q8 hf
        refine lv_iinc (v := (x4 + 1)) (lv' := [(4, .int (x4 + 1)), (0, .ref (ad 0)), (1, .int x1), (2, .int x2), (3, .int x3)]) (pc := 69) E.1 E.2.1 dX8_ranked_69 hl (k := 4) rfl rfl (by decide) rfl (fun ls hl => ?_)
        refine lv_goto (tgt := 31) (pc := 72) E.1 E.2.1 dX8_ranked_72 (by decide) ?_
        exact hk31 s x1 x2 x3 (x4 + 1) z hw (lv_sub hl [1, 2, 3, 4, 0] rfl) hf
      · have hf := x_neg q8 hf
        refine lv_aload_n (pc := 56) E.1 E.2.1 dX8_ranked_56 rfl (lv_at hl 0 rfl) ?_
        refine lv_iload (pc := 57) E.1 E.2.1 dX8_ranked_57 (lv_at hl 4 rfl) ?_
        refine lv_iload_n (pc := 59) E.1 E.2.1 dX8_ranked_59 rfl (lv_at hl 2 rfl) ?_
        obtain ⟨v9, g10, hf⟩ := x_bind hf
        refine x_callVA (pc := 60) (As := [.int x4, .int x2]) (rest := []) (st1 := [.int v9]) (ws' := (cells8 G ad s)) E hw hl (c_X8_isAhead l G ad s x4 x2 g10) xv_X8_246 xd_X8_isAhead rfl rfl ⟨Nat.le_of_ble_eq_true rfl, Nat.le_of_ble_eq_true rfl⟩ (q0 := 0) rfl rfl rfl rfl (Nat.le_of_ble_eq_true rfl) rfl rfl dX8_ranked_60 (fun H locs hw => ?_)
        refine lv_if_eq (tgt := 69) (pc := 63) E.1 E.2.1 dX8_ranked_63 (by decide) (fun q11 => ?_) (fun q11 => ?_)
        · have hf := x_pos q11 hf
          refine lv_iinc (v := (x4 + 1)) (lv' := [(4, .int (x4 + 1)), (0, .ref (ad 0)), (1, .int x1), (2, .int x2), (3, .int x3)]) (pc := 69) E.1 E.2.1 dX8_ranked_69 hl (k := 4) rfl rfl (by decide) rfl (fun ls hl => ?_)
          refine lv_goto (tgt := 31) (pc := 72) E.1 E.2.1 dX8_ranked_72 (by decide) ?_
          exact hk31 s x1 x2 x3 (x4 + 1) z hw (lv_sub hl [1, 2, 3, 4, 0] rfl) hf
        · have hf := x_neg q11 hf
          refine lv_iinc (v := (x3 + 1)) (lv' := [(3, .int (x3 + 1)), (0, .ref (ad 0)), (1, .int x1), (2, .int x2), (4, .int x4)]) (pc := 66) E.1 E.2.1 dX8_ranked_66 hl (k := 3) rfl rfl (by decide) rfl (fun ls hl => ?_)
          refine lv_iinc (v := (x4 + 1)) (lv' := [(4, .int (x4 + 1)), (3, .int (x3 + 1)), (0, .ref (ad 0)), (1, .int x1), (2, .int x2)]) (pc := 69) E.1 E.2.1 dX8_ranked_69 hl (k := 4) rfl rfl (by decide) rfl (fun ls hl => ?_)
          refine lv_goto (tgt := 31) (pc := 72) E.1 E.2.1 dX8_ranked_72 (by decide) ?_
          exact hk31 s x1 x2 (x3 + 1) (x4 + 1) z hw (lv_sub hl [2, 3, 4, 1, 0] rfl) hf
set_option maxHeartbeats 4000000 in
set_option maxRecDepth 100000 in
theorem wl_X8_ranked_p31 {p : Program} {l : Launch} {e : Env} {sS : State} {m : MethodId} {args : Array Value} {below : List Frame} {meth : Method} {c : Code} {G : xG} {W0 : va_W} {ad : Nat → Nat}  {k6 : S8 → Int32 → Int32 → Option (Int32 × S8)} (E : xE p sS m args c cX8_ranked 5 RX8 G (x_in W0)) (hr : meth.sig.returnType = (some .int)) (hk : meth.locks = false) (hk6 : ∀ (s' : S8) (x1' : Int32) (x2' : Int32) (z : Int32 × S8) {H : Heap} {locs : List Loc} {ls : Array Slot}, xW G (x_in W0) sS.heap (cells8 G ad s') H locs → lv_has ls 5 [(0, .ref (ad 0)), (1, .int x1'), (2, .int x2')] → k6  s' x1' x2' = some z → W p l e (rm_X8_ranked) sS m args below meth c H locs 0 0 (MQ below (xQ G W0 (cells8 G ad z.2) (some (.int z.1))) args sS 0 0 (x_in W0)) (F0 m 6 ls [])) : ∀ (s' : S8) (x1' : Int32) (x2' : Int32) (x3' : Int32) (x4' : Int32) (z : Int32 × S8) {H : Heap} {locs : List Loc} {ls : Array Slot}, xW G (x_in W0) sS.heap (cells8 G ad s') H locs → lv_has ls 5 [(0, .ref (ad 0)), (1, .int x1'), (2, .int x2'), (3, .int x3'), (4, .int x4')] → lp_X8_ranked_p31 k6 s' x1' x2' x3' x4' = some z → W p l e (rm_X8_ranked) sS m args below meth c H locs 0 0 (MQ below (xQ G W0 (cells8 G ad z.2) (some (.int z.1))) args sS 0 0 (x_in W0)) (F0 m 31 ls []) := by
  intro s x1 x2 x3 x4 z H locs ls hw hl hf
  exact x_loop_W (P := fun (q : S8 × Int32 × Int32 × Int32 × Int32) (z : Int32 × S8) => ∀ {H : Heap} {locs : List Loc} {ls : Array Slot}, xW G (x_in W0) sS.heap (cells8 G ad q.1) H locs → lv_has ls 5 [(0, .ref (ad 0)), (1, .int q.2.1), (2, .int q.2.2.1), (3, .int q.2.2.2.1), (4, .int q.2.2.2.2)] → W p l e (rm_X8_ranked) sS m args below meth c H locs 0 0 (MQ below (xQ G W0 (cells8 G ad z.2) (some (.int z.1))) args sS 0 0 (x_in W0)) (F0 m 31 ls [])) (fun k hkk q z hf H locs ls hw hl => w_X8_ranked_p31 E hr hk hk6 (fun s x1 x2 x3 x4 z H locs ls hw hl hf => hkk (s, x1, x2, x3, x4) z hf hw hl) q.1 q.2.1 q.2.2.1 q.2.2.2.1 q.2.2.2.2 z hw hl hf) FU (s, x1, x2, x3, x4) z hf hw hl
set_option maxHeartbeats 4000000 in
set_option maxRecDepth 100000 in
theorem w_X8_ranked_p6 {p : Program} {l : Launch} {e : Env} {sS : State} {m : MethodId} {args : Array Value} {below : List Frame} {meth : Method} {c : Code} {G : xG} {W0 : va_W} {ad : Nat → Nat}  {k6 : S8 → Int32 → Int32 → Option (Int32 × S8)} (E : xE p sS m args c cX8_ranked 5 RX8 G (x_in W0)) (hr : meth.sig.returnType = (some .int)) (hk : meth.locks = false) (hk6 : ∀ (s' : S8) (x1' : Int32) (x2' : Int32) (z : Int32 × S8) {H : Heap} {locs : List Loc} {ls : Array Slot}, xW G (x_in W0) sS.heap (cells8 G ad s') H locs → lv_has ls 5 [(0, .ref (ad 0)), (1, .int x1'), (2, .int x2')] → k6  s' x1' x2' = some z → W p l e (rm_X8_ranked) sS m args below meth c H locs 0 0 (MQ below (xQ G W0 (cells8 G ad z.2) (some (.int z.1))) args sS 0 0 (x_in W0)) (F0 m 6 ls [])) : ∀ (s' : S8) (x1' : Int32) (x2' : Int32) (z : Int32 × S8) {H : Heap} {locs : List Loc} {ls : Array Slot}, xW G (x_in W0) sS.heap (cells8 G ad s') H locs → lv_has ls 5 [(0, .ref (ad 0)), (1, .int x1'), (2, .int x2')] → f_X8_ranked_p6 k6 s' x1' x2' = some z → W p l e (rm_X8_ranked) sS m args below meth c H locs 0 0 (MQ below (xQ G W0 (cells8 G ad z.2) (some (.int z.1))) args sS 0 0 (x_in W0)) (F0 m 6 ls []) := by
  intro s x1 x2 z H locs ls hw hl hf
  unfold f_X8_ranked_p6 at hf
  refine lv_iload_n (pc := 6) E.1 E.2.1 dX8_ranked_6 rfl (lv_at hl 2 rfl) ?_
  refine lv_aload_n (pc := 7) E.1 E.2.1 dX8_ranked_7 rfl (lv_at hl 0 rfl) ?_
  obtain ⟨v1, g2, hf⟩ := x_bind hf
  refine x_callVA (pc := 8) (As := []) (rest := [.int x2]) (st1 := [.int v1, .int x2]) (ws' := (cells8 G ad s)) E hw hl (c_X8_many l G ad s g2) xv_X8_80 xd_X8_many rfl rfl ⟨Nat.le_of_ble_eq_true rfl, Nat.le_of_ble_eq_true rfl⟩ (q0 := 0) rfl rfl rfl rfl (Nat.le_of_ble_eq_true rfl) rfl rfl dX8_ranked_8 (fun H locs hw => ?_)
  refine lv_icmp_ge (tgt := 88) (pc := 11) E.1 E.2.1 dX8_ranked_11 (by decide) (fun q3 => ?_) (fun q3 => ?_)
  · have hf := x_pos q3 hf
    refine lv_iconst (v := (-1)) (pc := 88) E.1 E.2.1 dX8_ranked_88 (by decide) ?_
    obtain rfl := Option.some.inj hf
    exact x_reti (pc := 89) E hr hk hw dX8_ranked_89
  · have hf := x_neg q3 hf
    refine lv_aload_n (pc := 14) E.1 E.2.1 dX8_ranked_14 rfl (lv_at hl 0 rfl) ?_
    refine xg_X8_26 (pc := 15) (v := .ref (ad 5)) E hw 0 rfl rfl dX8_ranked_15 ?_
    refine lv_iload_n (pc := 18) E.1 E.2.1 dX8_ranked_18 rfl (lv_at hl 2 rfl) ?_
    obtain ⟨v5, g4, hf⟩ := x_bind hf
    refine x_iald (pc := 19) E hw 5 rfl g4 dX8_ranked_19 ?_
    refine lv_if_ne (tgt := 26) (pc := 20) E.1 E.2.1 dX8_ranked_20 (by decide) (fun q6 => ?_) (fun q6 => ?_)
    · have hf := x_neg q6 hf
      refine lv_iconst (v := 0) (pc := 26) E.1 E.2.1 dX8_ranked_26 (by decide) ?_
      refine lv_istore_n (lv' := [(3, .int 0), (0, .ref (ad 0)), (1, .int x1), (2, .int x2)]) (pc := 27) E.1 E.2.1 dX8_ranked_27 rfl hl (by decide) rfl (fun ls hl => ?_)
      refine lv_iconst (v := 0) (pc := 28) E.1 E.2.1 dX8_ranked_28 (by decide) ?_
      refine lv_istore (lv' := [(4, .int 0), (3, .int 0), (0, .ref (ad 0)), (1, .int x1), (2, .int x2)]) (pc := 29) E.1 E.2.1 dX8_ranked_29 hl (by decide) rfl (fun ls hl => ?_)
      exact wl_X8_ranked_p31 E hr hk hk6 s x1 x2 0 0 z hw (lv_sub hl [2, 3, 4, 1, 0] rfl) hf
    · have hf := x_pos q6 hf
      refine lv_goto (tgt := 82) (pc := 23) E.1 E.2.1 dX8_ranked_23 (by decide) ?_
      refine lv_iinc (v := (x2 + 1)) (lv' := [(2, .int (x2 + 1)), (0, .ref (ad 0)), (1, .int x1)]) (pc := 82) E.1 E.2.1 dX8_ranked_82 hl (k := 2) rfl rfl (by decide) rfl (fun ls hl => ?_)
      refine lv_goto (tgt := 6) (pc := 85) E.1 E.2.1 dX8_ranked_85 (by decide) ?_
      exact hk6 s x1 (x2 + 1) z hw (lv_sub hl [1, 2, 0] rfl) hf
set_option maxHeartbeats 4000000 in
set_option maxRecDepth 100000 in
theorem wl_X8_ranked_p6 {p : Program} {l : Launch} {e : Env} {sS : State} {m : MethodId} {args : Array Value} {below : List Frame} {meth : Method} {c : Code} {G : xG} {W0 : va_W} {ad : Nat → Nat}   (E : xE p sS m args c cX8_ranked 5 RX8 G (x_in W0)) (hr : meth.sig.returnType = (some .int)) (hk : meth.locks = false)  : ∀ (s' : S8) (x1' : Int32) (x2' : Int32) (z : Int32 × S8) {H : Heap} {locs : List Loc} {ls : Array Slot}, xW G (x_in W0) sS.heap (cells8 G ad s') H locs → lv_has ls 5 [(0, .ref (ad 0)), (1, .int x1'), (2, .int x2')] → lp_X8_ranked_p6  s' x1' x2' = some z → W p l e (rm_X8_ranked) sS m args below meth c H locs 0 0 (MQ below (xQ G W0 (cells8 G ad z.2) (some (.int z.1))) args sS 0 0 (x_in W0)) (F0 m 6 ls []) := by
  intro s x1 x2 z H locs ls hw hl hf
  exact x_loop_W (P := fun (q : S8 × Int32 × Int32) (z : Int32 × S8) => ∀ {H : Heap} {locs : List Loc} {ls : Array Slot}, xW G (x_in W0) sS.heap (cells8 G ad q.1) H locs → lv_has ls 5 [(0, .ref (ad 0)), (1, .int q.2.1), (2, .int q.2.2)] → W p l e (rm_X8_ranked) sS m args below meth c H locs 0 0 (MQ below (xQ G W0 (cells8 G ad z.2) (some (.int z.1))) args sS 0 0 (x_in W0)) (F0 m 6 ls [])) (fun k hkk q z hf H locs ls hw hl => w_X8_ranked_p6 E hr hk  (fun s x1 x2 z H locs ls hw hl hf => hkk (s, x1, x2) z hf hw hl) q.1 q.2.1 q.2.2 z hw hl hf) FU (s, x1, x2) z hf hw hl
set_option maxHeartbeats 4000000 in
set_option maxRecDepth 100000 in
theorem w_X8_ranked_p0 {p : Program} {l : Launch} {e : Env} {sS : State} {m : MethodId} {args : Array Value} {below : List Frame} {meth : Method} {c : Code} {G : xG} {W0 : va_W} {ad : Nat → Nat}   (E : xE p sS m args c cX8_ranked 5 RX8 G (x_in W0)) (hr : meth.sig.returnType = (some .int)) (hk : meth.locks = false)  : ∀ (s' : S8) (x1' : Int32) (z : Int32 × S8) {H : Heap} {locs : List Loc} {ls : Array Slot}, xW G (x_in W0) sS.heap (cells8 G ad s') H locs → lv_has ls 5 [(0, .ref (ad 0)), (1, .int x1')] → f_X8_ranked  s' x1' = some z → W p l e (rm_X8_ranked) sS m args below meth c H locs 0 0 (MQ below (xQ G W0 (cells8 G ad z.2) (some (.int z.1))) args sS 0 0 (x_in W0)) (F0 m 0 ls []) := by
  intro s x1 z H locs ls hw hl hf
  unfold f_X8_ranked at hf
  refine lv_aload_n (pc := 0) E.1 E.2.1 dX8_ranked_0 rfl (lv_at hl 0 rfl) ?_
  obtain ⟨v1, g2, hf⟩ := x_bind hf
  refine x_callVA (pc := 1) (As := []) (rest := []) (st1 := []) (ws' := (cells8 G ad v1)) E hw hl (c_X8_works l G ad s g2) xv_X8_221 xd_X8_works rfl rfl ⟨Nat.le_of_ble_eq_true rfl, Nat.le_of_ble_eq_true rfl⟩ (q0 := 0) rfl rfl rfl rfl (Nat.le_of_ble_eq_true rfl) rfl rfl dX8_ranked_1 (fun H locs hw => ?_)
  refine lv_iconst (v := 0) (pc := 4) E.1 E.2.1 dX8_ranked_4 (by decide) ?_
  refine lv_istore_n (lv' := [(2, .int 0), (0, .ref (ad 0)), (1, .int x1)]) (pc := 5) E.1 E.2.1 dX8_ranked_5 rfl hl (by decide) rfl (fun ls hl => ?_)
  exact wl_X8_ranked_p6 E hr hk  v1 x1 0 z hw (lv_sub hl [1, 2, 0] rfl) hf
set_option maxHeartbeats 4000000 in
set_option maxRecDepth 100000 in
theorem c_X8_ranked (l : Launch) (G : xG) (ad : Nat → Nat) (s : S8) (x1 : Int32) {z : Int32 × S8} (hf : f_X8_ranked s x1 = some z) : xC l yX8_ranked cX8_ranked 5 (some .int) (rm_X8_ranked) G [.ref (ad 0), .int x1] (cells8 G ad s) (some (.int z.1)) (cells8 G ad z.2) :=
  x_met (by decide) (Nat.le_of_ble_eq_true rfl) (fun p e sS m below meth c E hr hk ls hl hw => w_X8_ranked_p0 E hr hk s x1 z hw hl hf)
set_option maxHeartbeats 4000000 in
set_option maxRecDepth 100000 in
theorem w_X8_isGreater_p0 {p : Program} {l : Launch} {e : Env} {sS : State} {m : MethodId} {args : Array Value} {below : List Frame} {meth : Method} {c : Code} {G : xG} {W0 : va_W} {ad : Nat → Nat}   (E : xE p sS m args c cX8_isGreater 3 RX8 G (x_in W0)) (hr : meth.sig.returnType = (some .boolean)) (hk : meth.locks = false)  : ∀ (s' : S8) (x1' : Int32) (x2' : Int32) (z : Int32) {H : Heap} {locs : List Loc} {ls : Array Slot}, xW G (x_in W0) sS.heap (cells8 G ad s') H locs → lv_has ls 3 [(0, .ref (ad 0)), (1, .int x1'), (2, .int x2')] → f_X8_isGreater  s' x1' x2' = some z → W p l e (rm_X8_isGreater) sS m args below meth c H locs 0 0 (MQ below (xQ G W0 (cells8 G ad s') (some (.int z))) args sS 0 0 (x_in W0)) (F0 m 0 ls []) := by
  intro s x1 x2 z H locs ls hw hl hf
  unfold f_X8_isGreater at hf
  refine lv_aload_n (pc := 0) E.1 E.2.1 dX8_isGreater_0 rfl (lv_at hl 0 rfl) ?_
  refine lv_iload_n (pc := 1) E.1 E.2.1 dX8_isGreater_1 rfl (lv_at hl 1 rfl) ?_
  obtain ⟨v1, g2, hf⟩ := x_bind hf
  refine x_callVA (pc := 2) (As := [.int x1]) (rest := []) (st1 := [.int v1]) (ws' := (cells8 G ad s)) E hw hl (c_X8_amountOf l G ad s x1 g2) xv_X8_95 xd_X8_amountOf rfl rfl ⟨Nat.le_of_ble_eq_true rfl, Nat.le_of_ble_eq_true rfl⟩ (q0 := 0) rfl rfl rfl rfl (Nat.le_of_ble_eq_true rfl) rfl rfl dX8_isGreater_2 (fun H locs hw => ?_)
  refine lv_aload_n (pc := 5) E.1 E.2.1 dX8_isGreater_5 rfl (lv_at hl 0 rfl) ?_
  refine lv_iload_n (pc := 6) E.1 E.2.1 dX8_isGreater_6 rfl (lv_at hl 2 rfl) ?_
  obtain ⟨v3, g4, hf⟩ := x_bind hf
  refine x_callVA (pc := 7) (As := [.int x2]) (rest := [.int v1]) (st1 := [.int v3, .int v1]) (ws' := (cells8 G ad s)) E hw hl (c_X8_amountOf l G ad s x2 g4) xv_X8_95 xd_X8_amountOf rfl rfl ⟨Nat.le_of_ble_eq_true rfl, Nat.le_of_ble_eq_true rfl⟩ (q0 := 0) rfl rfl rfl rfl (Nat.le_of_ble_eq_true rfl) rfl rfl dX8_isGreater_7 (fun H locs hw => ?_)
  refine lv_icmp_gt (tgt := 31) (pc := 10) E.1 E.2.1 dX8_isGreater_10 (by decide) (fun q5 => ?_) (fun q5 => ?_)
  · have hf := x_pos q5 hf
    refine lv_iconst (v := 1) (pc := 31) E.1 E.2.1 dX8_isGreater_31 (by decide) ?_
    refine lv_goto (tgt := 36) (pc := 32) E.1 E.2.1 dX8_isGreater_32 (by decide) ?_
    obtain rfl := Option.some.inj hf
    exact x_retz (pc := 36) (v := 1) (r := 1) E hr hk hw (by decide) dX8_isGreater_36
  · have hf := x_neg q5 hf
    refine lv_aload_n (pc := 13) E.1 E.2.1 dX8_isGreater_13 rfl (lv_at hl 0 rfl) ?_
    refine lv_iload_n (pc := 14) E.1 E.2.1 dX8_isGreater_14 rfl (lv_at hl 1 rfl) ?_
    obtain ⟨v6, g7, hf⟩ := x_bind hf
    refine x_callVA (pc := 15) (As := [.int x1]) (rest := []) (st1 := [.int v6]) (ws' := (cells8 G ad s)) E hw hl (c_X8_amountOf l G ad s x1 g7) xv_X8_95 xd_X8_amountOf rfl rfl ⟨Nat.le_of_ble_eq_true rfl, Nat.le_of_ble_eq_true rfl⟩ (q0 := 0) rfl rfl rfl rfl (Nat.le_of_ble_eq_true rfl) rfl rfl dX8_isGreater_15 (fun H locs hw => ?_)
    refine lv_aload_n (pc := 18) E.1 E.2.1 dX8_isGreater_18 rfl (lv_at hl 0 rfl) ?_
    refine lv_iload_n (pc := 19) E.1 E.2.1 dX8_isGreater_19 rfl (lv_at hl 2 rfl) ?_
    obtain ⟨v8, g9, hf⟩ := x_bind hf
    refine x_callVA (pc := 20) (As := [.int x2]) (rest := [.int v6]) (st1 := [.int v8, .int v6]) (ws' := (cells8 G ad s)) E hw hl (c_X8_amountOf l G ad s x2 g9) xv_X8_95 xd_X8_amountOf rfl rfl ⟨Nat.le_of_ble_eq_true rfl, Nat.le_of_ble_eq_true rfl⟩ (q0 := 0) rfl rfl rfl rfl (Nat.le_of_ble_eq_true rfl) rfl rfl dX8_isGreater_20 (fun H locs hw => ?_)
    refine lv_icmp_ne (tgt := 35) (pc := 23) E.1 E.2.1 dX8_isGreater_23 (by decide) (fun q10 => ?_) (fun q10 => ?_)
    · have hf := x_neg q10 hf
      refine lv_iconst (v := 0) (pc := 35) E.1 E.2.1 dX8_isGreater_35 (by decide) ?_
      obtain rfl := Option.some.inj hf
      exact x_retz (pc := 36) (v := 0) (r := 0) E hr hk hw (by decide) dX8_isGreater_36
    · have hf := x_pos q10 hf
      refine lv_iload_n (pc := 26) E.1 E.2.1 dX8_isGreater_26 rfl (lv_at hl 1 rfl) ?_
      refine lv_iload_n (pc := 27) E.1 E.2.1 dX8_isGreater_27 rfl (lv_at hl 2 rfl) ?_
      refine lv_icmp_ge (tgt := 35) (pc := 28) E.1 E.2.1 dX8_isGreater_28 (by decide) (fun q11 => ?_) (fun q11 => ?_)
      · have hf := x_pos q11 hf
        refine lv_iconst (v := 0) (pc := 35) E.1 E.2.1 dX8_isGreater_35 (by decide) ?_
        obtain rfl := Option.some.inj hf
        exact x_retz (pc := 36) (v := 0) (r := 0) E hr hk hw (by decide) dX8_isGreater_36
      · have hf := x_neg q11 hf
        refine lv_iconst (v := 1) (pc := 31) E.1 E.2.1 dX8_isGreater_31 (by decide) ?_
        refine lv_goto (tgt := 36) (pc := 32) E.1 E.2.1 dX8_isGreater_32 (by decide) ?_
        obtain rfl := Option.some.inj hf
        exact x_retz (pc := 36) (v := 1) (r := 1) E hr hk hw (by decide) dX8_isGreater_36
set_option maxHeartbeats 4000000 in
set_option maxRecDepth 100000 in
theorem c_X8_isGreater (l : Launch) (G : xG) (ad : Nat → Nat) (s : S8) (x1 : Int32) (x2 : Int32) {z : Int32} (hf : f_X8_isGreater s x1 x2 = some z) : xC l yX8_isGreater cX8_isGreater 3 (some .boolean) (rm_X8_isGreater) G [.ref (ad 0), .int x1, .int x2] (cells8 G ad s) (some (.int z)) (cells8 G ad s) :=
  x_met (by decide) (Nat.le_of_ble_eq_true rfl) (fun p e sS m below meth c E hr hk ls hl hw => w_X8_isGreater_p0 E hr hk s x1 x2 z hw hl hf)
set_option maxHeartbeats 4000000 in
set_option maxRecDepth 100000 in
theorem w_X8_greatest_p38 {p : Program} {l : Launch} {e : Env} {sS : State} {m : MethodId} {args : Array Value} {below : List Frame} {meth : Method} {c : Code} {G : xG} {W0 : va_W} {ad : Nat → Nat}  {k12 : S8 → Int32 → Int32 → Int32 → Option (Int32)} {k38 : S8 → Int32 → Int32 → Int32 → Int32 → Int32 → Option (Int32)} (E : xE p sS m args c cX8_greatest 6 RX8 G (x_in W0)) (hr : meth.sig.returnType = (some .int)) (hk : meth.locks = false) (hk12 : ∀ (s' : S8) (x1' : Int32) (x2' : Int32) (x3' : Int32) (z : Int32) {H : Heap} {locs : List Loc} {ls : Array Slot}, xW G (x_in W0) sS.heap (cells8 G ad s') H locs → lv_has ls 6 [(0, .ref (ad 0)), (1, .int x1'), (2, .int x2'), (3, .int x3')] → k12  s' x1' x2' x3' = some z → W p l e (rm_X8_greatest) sS m args below meth c H locs 0 0 (MQ below (xQ G W0 (cells8 G ad s') (some (.int z))) args sS 0 0 (x_in W0)) (F0 m 12 ls [])) (hk38 : ∀ (s' : S8) (x1' : Int32) (x2' : Int32) (x3' : Int32) (x4' : Int32) (x5' : Int32) (z : Int32) {H : Heap} {locs : List Loc} {ls : Array Slot}, xW G (x_in W0) sS.heap (cells8 G ad s') H locs → lv_has ls 6 [(0, .ref (ad 0)), (1, .int x1'), (2, .int x2'), (3, .int x3'), (4, .int x4'), (5, .int x5')] → k38  s' x1' x2' x3' x4' x5' = some z → W p l e (rm_X8_greatest) sS m args below meth c H locs 0 0 (MQ below (xQ G W0 (cells8 G ad s') (some (.int z))) args sS 0 0 (x_in W0)) (F0 m 38 ls [])) : ∀ (s' : S8) (x1' : Int32) (x2' : Int32) (x3' : Int32) (x4' : Int32) (x5' : Int32) (z : Int32) {H : Heap} {locs : List Loc} {ls : Array Slot}, xW G (x_in W0) sS.heap (cells8 G ad s') H locs → lv_has ls 6 [(0, .ref (ad 0)), (1, .int x1'), (2, .int x2'), (3, .int x3'), (4, .int x4'), (5, .int x5')] → f_X8_greatest_p38 k12 k38 s' x1' x2' x3' x4' x5' = some z → W p l e (rm_X8_greatest) sS m args below meth c H locs 0 0 (MQ below (xQ G W0 (cells8 G ad s') (some (.int z))) args sS 0 0 (x_in W0)) (F0 m 38 ls []) := by
  intro s x1 x2 x3 x4 x5 z H locs ls hw hl hf
  unfold f_X8_greatest_p38 at hf
  refine lv_iload (pc := 38) E.1 E.2.1 dX8_greatest_38 (lv_at hl 5 rfl) ?_
  refine lv_aload_n (pc := 40) E.1 E.2.1 dX8_greatest_40 rfl (lv_at hl 0 rfl) ?_
  obtain ⟨v1, g2, hf⟩ := x_bind hf
  refine x_callVA (pc := 41) (As := []) (rest := [.int x5]) (st1 := [.int v1, .int x5]) (ws' := (cells8 G ad s)) E hw hl (c_X8_claims l G ad s g2) xv_X8_88 xd_X8_claims rfl rfl ⟨Nat.le_of_ble_eq_true rfl, Nat.le_of_ble_eq_true rfl⟩ (q0 := 0) rfl rfl rfl rfl (Nat.le_of_ble_eq_true rfl) rfl rfl dX8_greatest_41 (fun H locs hw => ?_)
  refine lv_icmp_ge (tgt := 76) (pc := 44) E.1 E.2.1 dX8_greatest_44 (by decide) (fun q3 => ?_) (fun q3 => ?_)
  · have hf := x_pos q3 hf
    refine lv_iload (pc := 76) E.1 E.2.1 dX8_greatest_76 (lv_at hl 4 rfl) ?_
    refine lv_iload_n (pc := 78) E.1 E.2.1 dX8_greatest_78 rfl (lv_at hl 2 rfl) ?_
    refine lv_icmp_ne (tgt := 84) (pc := 79) E.1 E.2.1 dX8_greatest_79 (by decide) (fun q4 => ?_) (fun q4 => ?_)
    · have hf := x_neg q4 hf
      refine lv_iinc (v := (x3 + 1)) (lv' := [(3, .int (x3 + 1)), (0, .ref (ad 0)), (1, .int x1), (2, .int x2), (4, .int x4), (5, .int x5)]) (pc := 84) E.1 E.2.1 dX8_greatest_84 hl (k := 3) rfl rfl (by decide) rfl (fun ls hl => ?_)
      refine lv_goto (tgt := 12) (pc := 87) E.1 E.2.1 dX8_greatest_87 (by decide) ?_
      exact hk12 s x1 x2 (x3 + 1) z hw (lv_sub hl [1, 2, 3, 0] rfl) hf
    · have hf := x_pos q4 hf
      refine lv_iload_n (pc := 82) E.1 E.2.1 dX8_greatest_82 rfl (lv_at hl 3 rfl) ?_
      obtain rfl := Option.some.inj hf
      exact x_reti (pc := 83) E hr hk hw dX8_greatest_83
  · have hf := x_neg q3 hf
    refine lv_aload_n (pc := 47) E.1 E.2.1 dX8_greatest_47 rfl (lv_at hl 0 rfl) ?_
    refine lv_iload (pc := 48) E.1 E.2.1 dX8_greatest_48 (lv_at hl 5 rfl) ?_
    obtain ⟨v5, g6, hf⟩ := x_bind hf
    refine x_callVA (pc := 50) (As := [.int x5]) (rest := []) (st1 := [.int v5]) (ws' := (cells8 G ad s)) E hw hl (c_X8_fleetOf l G ad s x5 g6) xv_X8_98 xd_X8_fleetOf rfl rfl ⟨Nat.le_of_ble_eq_true rfl, Nat.le_of_ble_eq_true rfl⟩ (q0 := 0) rfl rfl rfl rfl (Nat.le_of_ble_eq_true rfl) rfl rfl dX8_greatest_50 (fun H locs hw => ?_)
    refine lv_iload_n (pc := 53) E.1 E.2.1 dX8_greatest_53 rfl (lv_at hl 1 rfl) ?_
    refine lv_icmp_ne (tgt := 70) (pc := 54) E.1 E.2.1 dX8_greatest_54 (by decide) (fun q7 => ?_) (fun q7 => ?_)
    · have hf := x_neg q7 hf
      refine lv_iinc (v := (x5 + 1)) (lv' := [(5, .int (x5 + 1)), (0, .ref (ad 0)), (1, .int x1), (2, .int x2), (3, .int x3), (4, .int x4)]) (pc := 70) E.1 E.2.1 dX8_greatest_70 hl (k := 5) rfl rfl (by decide) rfl (fun ls hl => ?_)
      refine lv_goto (tgt := 38) (pc := 73) E.1 E.2.1 dX8_greatest_73 (by decide) ?_
      exact hk38 s x1 x2 x3 x4 (x5 + 1) z hw (lv_sub hl [1, 2, 3, 4, 5, 0] rfl) hf
    · have hf := x_pos q7 hf
      refine lv_aload_n (pc := 57) E.1 E.2.1 dX8_greatest_57 rfl (lv_at hl 0 rfl) ?_
      refine lv_iload (pc := 58) E.1 E.2.1 dX8_greatest_58 (lv_at hl 5 rfl) ?_
      refine lv_iload_n (pc := 60) E.1 E.2.1 dX8_greatest_60 rfl (lv_at hl 3 rfl) ?_
      obtain ⟨v8, g9, hf⟩ := x_bind hf
      refine x_callVA (pc := 61) (As := [.int x5, .int x3]) (rest := []) (st1 := [.int v8]) (ws' := (cells8 G ad s)) E hw hl (c_X8_isGreater l G ad s x5 x3 g9) xv_X8_249 xd_X8_isGreater rfl rfl ⟨Nat.le_of_ble_eq_true rfl, Nat.le_of_ble_eq_true rfl⟩ (q0 := 0) rfl rfl rfl rfl (Nat.le_of_ble_eq_true rfl) rfl rfl dX8_greatest_61 (fun H locs hw => ?_)
      refine lv_if_eq (tgt := 70) (pc := 64) E.1 E.2.1 dX8_greatest_64 (by decide) (fun q10 => ?_) (fun q10 => ?_)
      · have hf := x_pos q10 hf
        refine lv_iinc (v := (x5 + 1)) (lv' := [(5, .int (x5 + 1)), (0, .ref (ad 0)), (1, .int x1), (2, .int x2), (3, .int x3), (4, .int x4)]) (pc := 70) E.1 E.2.1 dX8_greatest_70 hl (k := 5) rfl rfl (by decide) rfl (fun ls hl => ?_)
        refine lv_goto (tgt := 38) (pc := 73) E.1 E.2.1 dX8_greatest_73 (by decide) ?_
        exact hk38 s x1 x2 x3 x4 (x5 + 1) z hw (lv_sub hl [1, 2, 3, 4, 5, 0] rfl) hf
      · have hf := x_neg q10 hf
        refine lv_iinc (v := (x4 + 1)) (lv' := [(4, .int (x4 + 1)), (0, .ref (ad 0)), (1, .int x1), (2, .int x2), (3, .int x3), (5, .int x5)]) (pc := 67) E.1 E.2.1 dX8_greatest_67 hl (k := 4) rfl rfl (by decide) rfl (fun ls hl => ?_)
        refine lv_iinc (v := (x5 + 1)) (lv' := [(5, .int (x5 + 1)), (4, .int (x4 + 1)), (0, .ref (ad 0)), (1, .int x1), (2, .int x2), (3, .int x3)]) (pc := 70) E.1 E.2.1 dX8_greatest_70 hl (k := 5) rfl rfl (by decide) rfl (fun ls hl => ?_)
        refine lv_goto (tgt := 38) (pc := 73) E.1 E.2.1 dX8_greatest_73 (by decide) ?_
        exact hk38 s x1 x2 x3 (x4 + 1) (x5 + 1) z hw (lv_sub hl [2, 3, 4, 5, 1, 0] rfl) hf
set_option maxHeartbeats 4000000 in
set_option maxRecDepth 100000 in
theorem wl_X8_greatest_p38 {p : Program} {l : Launch} {e : Env} {sS : State} {m : MethodId} {args : Array Value} {below : List Frame} {meth : Method} {c : Code} {G : xG} {W0 : va_W} {ad : Nat → Nat}  {k12 : S8 → Int32 → Int32 → Int32 → Option (Int32)} (E : xE p sS m args c cX8_greatest 6 RX8 G (x_in W0)) (hr : meth.sig.returnType = (some .int)) (hk : meth.locks = false) (hk12 : ∀ (s' : S8) (x1' : Int32) (x2' : Int32) (x3' : Int32) (z : Int32) {H : Heap} {locs : List Loc} {ls : Array Slot}, xW G (x_in W0) sS.heap (cells8 G ad s') H locs → lv_has ls 6 [(0, .ref (ad 0)), (1, .int x1'), (2, .int x2'), (3, .int x3')] → k12  s' x1' x2' x3' = some z → W p l e (rm_X8_greatest) sS m args below meth c H locs 0 0 (MQ below (xQ G W0 (cells8 G ad s') (some (.int z))) args sS 0 0 (x_in W0)) (F0 m 12 ls [])) : ∀ (s' : S8) (x1' : Int32) (x2' : Int32) (x3' : Int32) (x4' : Int32) (x5' : Int32) (z : Int32) {H : Heap} {locs : List Loc} {ls : Array Slot}, xW G (x_in W0) sS.heap (cells8 G ad s') H locs → lv_has ls 6 [(0, .ref (ad 0)), (1, .int x1'), (2, .int x2'), (3, .int x3'), (4, .int x4'), (5, .int x5')] → lp_X8_greatest_p38 k12 s' x1' x2' x3' x4' x5' = some z → W p l e (rm_X8_greatest) sS m args below meth c H locs 0 0 (MQ below (xQ G W0 (cells8 G ad s') (some (.int z))) args sS 0 0 (x_in W0)) (F0 m 38 ls []) := by
  intro s x1 x2 x3 x4 x5 z H locs ls hw hl hf
  exact x_loop_W (P := fun (q : S8 × Int32 × Int32 × Int32 × Int32 × Int32) (z : Int32) => ∀ {H : Heap} {locs : List Loc} {ls : Array Slot}, xW G (x_in W0) sS.heap (cells8 G ad q.1) H locs → lv_has ls 6 [(0, .ref (ad 0)), (1, .int q.2.1), (2, .int q.2.2.1), (3, .int q.2.2.2.1), (4, .int q.2.2.2.2.1), (5, .int q.2.2.2.2.2)] → W p l e (rm_X8_greatest) sS m args below meth c H locs 0 0 (MQ below (xQ G W0 (cells8 G ad q.1) (some (.int z))) args sS 0 0 (x_in W0)) (F0 m 38 ls [])) (fun k hkk q z hf H locs ls hw hl => w_X8_greatest_p38 E hr hk hk12 (fun s x1 x2 x3 x4 x5 z H locs ls hw hl hf => hkk (s, x1, x2, x3, x4, x5) z hf hw hl) q.1 q.2.1 q.2.2.1 q.2.2.2.1 q.2.2.2.2.1 q.2.2.2.2.2 z hw hl hf) FU (s, x1, x2, x3, x4, x5) z hf hw hl
set_option maxHeartbeats 4000000 in
set_option maxRecDepth 100000 in
theorem w_X8_greatest_p12 {p : Program} {l : Launch} {e : Env} {sS : State} {m : MethodId} {args : Array Value} {below : List Frame} {meth : Method} {c : Code} {G : xG} {W0 : va_W} {ad : Nat → Nat}  {k12 : S8 → Int32 → Int32 → Int32 → Option (Int32)} (E : xE p sS m args c cX8_greatest 6 RX8 G (x_in W0)) (hr : meth.sig.returnType = (some .int)) (hk : meth.locks = false) (hk12 : ∀ (s' : S8) (x1' : Int32) (x2' : Int32) (x3' : Int32) (z : Int32) {H : Heap} {locs : List Loc} {ls : Array Slot}, xW G (x_in W0) sS.heap (cells8 G ad s') H locs → lv_has ls 6 [(0, .ref (ad 0)), (1, .int x1'), (2, .int x2'), (3, .int x3')] → k12  s' x1' x2' x3' = some z → W p l e (rm_X8_greatest) sS m args below meth c H locs 0 0 (MQ below (xQ G W0 (cells8 G ad s') (some (.int z))) args sS 0 0 (x_in W0)) (F0 m 12 ls [])) : ∀ (s' : S8) (x1' : Int32) (x2' : Int32) (x3' : Int32) (z : Int32) {H : Heap} {locs : List Loc} {ls : Array Slot}, xW G (x_in W0) sS.heap (cells8 G ad s') H locs → lv_has ls 6 [(0, .ref (ad 0)), (1, .int x1'), (2, .int x2'), (3, .int x3')] → f_X8_greatest_p12 k12 s' x1' x2' x3' = some z → W p l e (rm_X8_greatest) sS m args below meth c H locs 0 0 (MQ below (xQ G W0 (cells8 G ad s') (some (.int z))) args sS 0 0 (x_in W0)) (F0 m 12 ls []) := by
  intro s x1 x2 x3 z H locs ls hw hl hf
  unfold f_X8_greatest_p12 at hf
  refine lv_iload_n (pc := 12) E.1 E.2.1 dX8_greatest_12 rfl (lv_at hl 3 rfl) ?_
  refine lv_aload_n (pc := 13) E.1 E.2.1 dX8_greatest_13 rfl (lv_at hl 0 rfl) ?_
  obtain ⟨v1, g2, hf⟩ := x_bind hf
  refine x_callVA (pc := 14) (As := []) (rest := [.int x3]) (st1 := [.int v1, .int x3]) (ws' := (cells8 G ad s)) E hw hl (c_X8_claims l G ad s g2) xv_X8_88 xd_X8_claims rfl rfl ⟨Nat.le_of_ble_eq_true rfl, Nat.le_of_ble_eq_true rfl⟩ (q0 := 0) rfl rfl rfl rfl (Nat.le_of_ble_eq_true rfl) rfl rfl dX8_greatest_14 (fun H locs hw => ?_)
  refine lv_icmp_ge (tgt := 90) (pc := 17) E.1 E.2.1 dX8_greatest_17 (by decide) (fun q3 => ?_) (fun q3 => ?_)
  · have hf := x_pos q3 hf
    refine lv_iconst (v := (-1)) (pc := 90) E.1 E.2.1 dX8_greatest_90 (by decide) ?_
    obtain rfl := Option.some.inj hf
    exact x_reti (pc := 91) E hr hk hw dX8_greatest_91
  · have hf := x_neg q3 hf
    refine lv_aload_n (pc := 20) E.1 E.2.1 dX8_greatest_20 rfl (lv_at hl 0 rfl) ?_
    refine lv_iload_n (pc := 21) E.1 E.2.1 dX8_greatest_21 rfl (lv_at hl 3 rfl) ?_
    obtain ⟨v4, g5, hf⟩ := x_bind hf
    refine x_callVA (pc := 22) (As := [.int x3]) (rest := []) (st1 := [.int v4]) (ws' := (cells8 G ad s)) E hw hl (c_X8_fleetOf l G ad s x3 g5) xv_X8_98 xd_X8_fleetOf rfl rfl ⟨Nat.le_of_ble_eq_true rfl, Nat.le_of_ble_eq_true rfl⟩ (q0 := 0) rfl rfl rfl rfl (Nat.le_of_ble_eq_true rfl) rfl rfl dX8_greatest_22 (fun H locs hw => ?_)
    refine lv_iload_n (pc := 25) E.1 E.2.1 dX8_greatest_25 rfl (lv_at hl 1 rfl) ?_
    refine lv_icmp_eq (tgt := 32) (pc := 26) E.1 E.2.1 dX8_greatest_26 (by decide) (fun q6 => ?_) (fun q6 => ?_)
    · have hf := x_pos q6 hf
      refine lv_iconst (v := 0) (pc := 32) E.1 E.2.1 dX8_greatest_32 (by decide) ?_
      refine lv_istore (lv' := [(4, .int 0), (0, .ref (ad 0)), (1, .int x1), (2, .int x2), (3, .int x3)]) (pc := 33) E.1 E.2.1 dX8_greatest_33 hl (by decide) rfl (fun ls hl => ?_)
      refine lv_iconst (v := 0) (pc := 35) E.1 E.2.1 dX8_greatest_35 (by decide) ?_
      refine lv_istore (lv' := [(5, .int 0), (4, .int 0), (0, .ref (ad 0)), (1, .int x1), (2, .int x2), (3, .int x3)]) (pc := 36) E.1 E.2.1 dX8_greatest_36 hl (by decide) rfl (fun ls hl => ?_)
      exact wl_X8_greatest_p38 E hr hk hk12 s x1 x2 x3 0 0 z hw (lv_sub hl [2, 3, 4, 5, 1, 0] rfl) hf
    · have hf := x_neg q6 hf
      refine lv_goto (tgt := 84) (pc := 29) E.1 E.2.1 dX8_greatest_29 (by decide) ?_
      refine lv_iinc (v := (x3 + 1)) (lv' := [(3, .int (x3 + 1)), (0, .ref (ad 0)), (1, .int x1), (2, .int x2)]) (pc := 84) E.1 E.2.1 dX8_greatest_84 hl (k := 3) rfl rfl (by decide) rfl (fun ls hl => ?_)
      refine lv_goto (tgt := 12) (pc := 87) E.1 E.2.1 dX8_greatest_87 (by decide) ?_
      exact hk12 s x1 x2 (x3 + 1) z hw (lv_sub hl [1, 2, 3, 0] rfl) hf
set_option maxHeartbeats 4000000 in
set_option maxRecDepth 100000 in
theorem wl_X8_greatest_p12 {p : Program} {l : Launch} {e : Env} {sS : State} {m : MethodId} {args : Array Value} {below : List Frame} {meth : Method} {c : Code} {G : xG} {W0 : va_W} {ad : Nat → Nat}   (E : xE p sS m args c cX8_greatest 6 RX8 G (x_in W0)) (hr : meth.sig.returnType = (some .int)) (hk : meth.locks = false)  : ∀ (s' : S8) (x1' : Int32) (x2' : Int32) (x3' : Int32) (z : Int32) {H : Heap} {locs : List Loc} {ls : Array Slot}, xW G (x_in W0) sS.heap (cells8 G ad s') H locs → lv_has ls 6 [(0, .ref (ad 0)), (1, .int x1'), (2, .int x2'), (3, .int x3')] → lp_X8_greatest_p12  s' x1' x2' x3' = some z → W p l e (rm_X8_greatest) sS m args below meth c H locs 0 0 (MQ below (xQ G W0 (cells8 G ad s') (some (.int z))) args sS 0 0 (x_in W0)) (F0 m 12 ls []) := by
  intro s x1 x2 x3 z H locs ls hw hl hf
  exact x_loop_W (P := fun (q : S8 × Int32 × Int32 × Int32) (z : Int32) => ∀ {H : Heap} {locs : List Loc} {ls : Array Slot}, xW G (x_in W0) sS.heap (cells8 G ad q.1) H locs → lv_has ls 6 [(0, .ref (ad 0)), (1, .int q.2.1), (2, .int q.2.2.1), (3, .int q.2.2.2)] → W p l e (rm_X8_greatest) sS m args below meth c H locs 0 0 (MQ below (xQ G W0 (cells8 G ad q.1) (some (.int z))) args sS 0 0 (x_in W0)) (F0 m 12 ls [])) (fun k hkk q z hf H locs ls hw hl => w_X8_greatest_p12 E hr hk  (fun s x1 x2 x3 z H locs ls hw hl hf => hkk (s, x1, x2, x3) z hf hw hl) q.1 q.2.1 q.2.2.1 q.2.2.2 z hw hl hf) FU (s, x1, x2, x3) z hf hw hl
set_option maxHeartbeats 4000000 in
set_option maxRecDepth 100000 in
theorem w_X8_greatest_p0 {p : Program} {l : Launch} {e : Env} {sS : State} {m : MethodId} {args : Array Value} {below : List Frame} {meth : Method} {c : Code} {G : xG} {W0 : va_W} {ad : Nat → Nat}   (E : xE p sS m args c cX8_greatest 6 RX8 G (x_in W0)) (hr : meth.sig.returnType = (some .int)) (hk : meth.locks = false)  : ∀ (s' : S8) (x1' : Int32) (x2' : Int32) (z : Int32) {H : Heap} {locs : List Loc} {ls : Array Slot}, xW G (x_in W0) sS.heap (cells8 G ad s') H locs → lv_has ls 6 [(0, .ref (ad 0)), (1, .int x1'), (2, .int x2')] → f_X8_greatest  s' x1' x2' = some z → W p l e (rm_X8_greatest) sS m args below meth c H locs 0 0 (MQ below (xQ G W0 (cells8 G ad s') (some (.int z))) args sS 0 0 (x_in W0)) (F0 m 0 ls []) := by
  intro s x1 x2 z H locs ls hw hl hf
  unfold f_X8_greatest at hf
  refine lv_aload_n (pc := 0) E.1 E.2.1 dX8_greatest_0 rfl (lv_at hl 0 rfl) ?_
  refine lv_iload_n (pc := 1) E.1 E.2.1 dX8_greatest_1 rfl (lv_at hl 1 rfl) ?_
  obtain ⟨v1, g2, hf⟩ := x_bind hf
  refine x_callVA (pc := 2) (As := [.int x1]) (rest := []) (st1 := [.int v1]) (ws' := (cells8 G ad s)) E hw hl (c_X8_isFleet l G ad s x1 g2) xv_X8_115 xd_X8_isFleet rfl rfl ⟨Nat.le_of_ble_eq_true rfl, Nat.le_of_ble_eq_true rfl⟩ (q0 := 0) rfl rfl rfl rfl (Nat.le_of_ble_eq_true rfl) rfl rfl dX8_greatest_2 (fun H locs hw => ?_)
  refine lv_if_ne (tgt := 10) (pc := 5) E.1 E.2.1 dX8_greatest_5 (by decide) (fun q3 => ?_) (fun q3 => ?_)
  · have hf := x_neg q3 hf
    refine lv_iconst (v := 0) (pc := 10) E.1 E.2.1 dX8_greatest_10 (by decide) ?_
    refine lv_istore_n (lv' := [(3, .int 0), (0, .ref (ad 0)), (1, .int x1), (2, .int x2)]) (pc := 11) E.1 E.2.1 dX8_greatest_11 rfl hl (by decide) rfl (fun ls hl => ?_)
    exact wl_X8_greatest_p12 E hr hk  s x1 x2 0 z hw (lv_sub hl [1, 2, 3, 0] rfl) hf
  · have hf := x_pos q3 hf
    refine lv_iconst (v := (-1)) (pc := 8) E.1 E.2.1 dX8_greatest_8 (by decide) ?_
    obtain rfl := Option.some.inj hf
    exact x_reti (pc := 9) E hr hk hw dX8_greatest_9
set_option maxHeartbeats 4000000 in
set_option maxRecDepth 100000 in
theorem c_X8_greatest (l : Launch) (G : xG) (ad : Nat → Nat) (s : S8) (x1 : Int32) (x2 : Int32) {z : Int32} (hf : f_X8_greatest s x1 x2 = some z) : xC l yX8_greatest cX8_greatest 6 (some .int) (rm_X8_greatest) G [.ref (ad 0), .int x1, .int x2] (cells8 G ad s) (some (.int z)) (cells8 G ad s) :=
  x_met (by decide) (Nat.le_of_ble_eq_true rfl) (fun p e sS m below meth c E hr hk ls hl hw => w_X8_greatest_p0 E hr hk s x1 x2 z hw hl hf)
set_option maxHeartbeats 4000000 in
set_option maxRecDepth 100000 in
theorem w_X8_worst_p14 {p : Program} {l : Launch} {e : Env} {sS : State} {m : MethodId} {args : Array Value} {below : List Frame} {meth : Method} {c : Code} {G : xG} {W0 : va_W} {ad : Nat → Nat}  {k14 : S8 → Int32 → Int32 → Int32 → Option (Int32)} (E : xE p sS m args c cX8_worst 4 RX8 G (x_in W0)) (hr : meth.sig.returnType = (some .int)) (hk : meth.locks = false) (hk14 : ∀ (s' : S8) (x1' : Int32) (x2' : Int32) (x3' : Int32) (z : Int32) {H : Heap} {locs : List Loc} {ls : Array Slot}, xW G (x_in W0) sS.heap (cells8 G ad s') H locs → lv_has ls 4 [(0, .ref (ad 0)), (1, .int x1'), (2, .int x2'), (3, .int x3')] → k14  s' x1' x2' x3' = some z → W p l e (rm_X8_worst) sS m args below meth c H locs 0 0 (MQ below (xQ G W0 (cells8 G ad s') (some (.int z))) args sS 0 0 (x_in W0)) (F0 m 14 ls [])) : ∀ (s' : S8) (x1' : Int32) (x2' : Int32) (x3' : Int32) (z : Int32) {H : Heap} {locs : List Loc} {ls : Array Slot}, xW G (x_in W0) sS.heap (cells8 G ad s') H locs → lv_has ls 4 [(0, .ref (ad 0)), (1, .int x1'), (2, .int x2'), (3, .int x3')] → f_X8_worst_p14 k14 s' x1' x2' x3' = some z → W p l e (rm_X8_worst) sS m args below meth c H locs 0 0 (MQ below (xQ G W0 (cells8 G ad s') (some (.int z))) args sS 0 0 (x_in W0)) (F0 m 14 ls []) := by
  intro s x1 x2 x3 z H locs ls hw hl hf
  unfold f_X8_worst_p14 at hf
  refine lv_iload_n (pc := 14) E.1 E.2.1 dX8_worst_14 rfl (lv_at hl 3 rfl) ?_
  refine lv_aload_n (pc := 15) E.1 E.2.1 dX8_worst_15 rfl (lv_at hl 0 rfl) ?_
  obtain ⟨v1, g2, hf⟩ := x_bind hf
  refine x_callVA (pc := 16) (As := []) (rest := [.int x3]) (st1 := [.int v1, .int x3]) (ws' := (cells8 G ad s)) E hw hl (c_X8_many l G ad s g2) xv_X8_80 xd_X8_many rfl rfl ⟨Nat.le_of_ble_eq_true rfl, Nat.le_of_ble_eq_true rfl⟩ (q0 := 0) rfl rfl rfl rfl (Nat.le_of_ble_eq_true rfl) rfl rfl dX8_worst_16 (fun H locs hw => ?_)
  refine lv_icmp_ge (tgt := 58) (pc := 19) E.1 E.2.1 dX8_worst_19 (by decide) (fun q3 => ?_) (fun q3 => ?_)
  · have hf := x_pos q3 hf
    refine lv_iload_n (pc := 58) E.1 E.2.1 dX8_worst_58 rfl (lv_at hl 2 rfl) ?_
    obtain rfl := Option.some.inj hf
    exact x_reti (pc := 59) E hr hk hw dX8_worst_59
  · have hf := x_neg q3 hf
    refine lv_aload_n (pc := 22) E.1 E.2.1 dX8_worst_22 rfl (lv_at hl 0 rfl) ?_
    refine lv_iload_n (pc := 23) E.1 E.2.1 dX8_worst_23 rfl (lv_at hl 3 rfl) ?_
    refine lv_iload_n (pc := 24) E.1 E.2.1 dX8_worst_24 rfl (lv_at hl 1 rfl) ?_
    obtain ⟨v4, g5, hf⟩ := x_bind hf
    refine x_callVA (pc := 25) (As := [.int x3, .int x1]) (rest := []) (st1 := [.int v4]) (ws' := (cells8 G ad s)) E hw hl (c_X8_isInsured l G ad s x3 x1 g5) xv_X8_134 xd_X8_isInsured rfl rfl ⟨Nat.le_of_ble_eq_true rfl, Nat.le_of_ble_eq_true rfl⟩ (q0 := 0) rfl rfl rfl rfl (Nat.le_of_ble_eq_true rfl) rfl rfl dX8_worst_25 (fun H locs hw => ?_)
    refine lv_if_eq (tgt := 52) (pc := 28) E.1 E.2.1 dX8_worst_28 (by decide) (fun q6 => ?_) (fun q6 => ?_)
    · have hf := x_pos q6 hf
      refine lv_iinc (v := (x3 + 1)) (lv' := [(3, .int (x3 + 1)), (0, .ref (ad 0)), (1, .int x1), (2, .int x2)]) (pc := 52) E.1 E.2.1 dX8_worst_52 hl (k := 3) rfl rfl (by decide) rfl (fun ls hl => ?_)
      refine lv_goto (tgt := 14) (pc := 55) E.1 E.2.1 dX8_worst_55 (by decide) ?_
      exact hk14 s x1 x2 (x3 + 1) z hw (lv_sub hl [1, 2, 3, 0] rfl) hf
    · have hf := x_neg q6 hf
      refine lv_iload_n (pc := 31) E.1 E.2.1 dX8_worst_31 rfl (lv_at hl 2 rfl) ?_
      refine lv_if_lt (tgt := 50) (pc := 32) E.1 E.2.1 dX8_worst_32 (by decide) (fun q7 => ?_) (fun q7 => ?_)
      · have hf := x_pos q7 hf
        refine lv_iload_n (pc := 50) E.1 E.2.1 dX8_worst_50 rfl (lv_at hl 3 rfl) ?_
        refine lv_istore_n (lv' := [(2, .int x3), (0, .ref (ad 0)), (1, .int x1), (3, .int x3)]) (pc := 51) E.1 E.2.1 dX8_worst_51 rfl hl (by decide) rfl (fun ls hl => ?_)
        refine lv_iinc (v := (x3 + 1)) (lv' := [(3, .int (x3 + 1)), (2, .int x3), (0, .ref (ad 0)), (1, .int x1)]) (pc := 52) E.1 E.2.1 dX8_worst_52 hl (k := 3) rfl rfl (by decide) rfl (fun ls hl => ?_)
        refine lv_goto (tgt := 14) (pc := 55) E.1 E.2.1 dX8_worst_55 (by decide) ?_
        exact hk14 s x1 x3 (x3 + 1) z hw (lv_sub hl [2, 3, 1, 0] rfl) hf
      · have hf := x_neg q7 hf
        refine lv_aload_n (pc := 35) E.1 E.2.1 dX8_worst_35 rfl (lv_at hl 0 rfl) ?_
        refine lv_iload_n (pc := 36) E.1 E.2.1 dX8_worst_36 rfl (lv_at hl 3 rfl) ?_
        refine lv_iload_n (pc := 37) E.1 E.2.1 dX8_worst_37 rfl (lv_at hl 1 rfl) ?_
        obtain ⟨v8, g9, hf⟩ := x_bind hf
        refine x_callVA (pc := 38) (As := [.int x3, .int x1]) (rest := []) (st1 := [.int v8]) (ws' := (cells8 G ad s)) E hw hl (c_X8_lossIn l G ad s x3 x1 g9) xv_X8_175 xd_X8_lossIn rfl rfl ⟨Nat.le_of_ble_eq_true rfl, Nat.le_of_ble_eq_true rfl⟩ (q0 := 0) rfl rfl rfl rfl (Nat.le_of_ble_eq_true rfl) rfl rfl dX8_worst_38 (fun H locs hw => ?_)
        refine lv_aload_n (pc := 41) E.1 E.2.1 dX8_worst_41 rfl (lv_at hl 0 rfl) ?_
        refine lv_iload_n (pc := 42) E.1 E.2.1 dX8_worst_42 rfl (lv_at hl 2 rfl) ?_
        refine lv_iload_n (pc := 43) E.1 E.2.1 dX8_worst_43 rfl (lv_at hl 1 rfl) ?_
        obtain ⟨v10, g11, hf⟩ := x_bind hf
        refine x_callVA (pc := 44) (As := [.int x2, .int x1]) (rest := [.int v8]) (st1 := [.int v10, .int v8]) (ws' := (cells8 G ad s)) E hw hl (c_X8_lossIn l G ad s x2 x1 g11) xv_X8_175 xd_X8_lossIn rfl rfl ⟨Nat.le_of_ble_eq_true rfl, Nat.le_of_ble_eq_true rfl⟩ (q0 := 0) rfl rfl rfl rfl (Nat.le_of_ble_eq_true rfl) rfl rfl dX8_worst_44 (fun H locs hw => ?_)
        refine lv_icmp_le (tgt := 52) (pc := 47) E.1 E.2.1 dX8_worst_47 (by decide) (fun q12 => ?_) (fun q12 => ?_)
        · have hf := x_pos q12 hf
          refine lv_iinc (v := (x3 + 1)) (lv' := [(3, .int (x3 + 1)), (0, .ref (ad 0)), (1, .int x1), (2, .int x2)]) (pc := 52) E.1 E.2.1 dX8_worst_52 hl (k := 3) rfl rfl (by decide) rfl (fun ls hl => ?_)
          refine lv_goto (tgt := 14) (pc := 55) E.1 E.2.1 dX8_worst_55 (by decide) ?_
          exact hk14 s x1 x2 (x3 + 1) z hw (lv_sub hl [1, 2, 3, 0] rfl) hf
        · have hf := x_neg q12 hf
          refine lv_iload_n (pc := 50) E.1 E.2.1 dX8_worst_50 rfl (lv_at hl 3 rfl) ?_
          refine lv_istore_n (lv' := [(2, .int x3), (0, .ref (ad 0)), (1, .int x1), (3, .int x3)]) (pc := 51) E.1 E.2.1 dX8_worst_51 rfl hl (by decide) rfl (fun ls hl => ?_)
          refine lv_iinc (v := (x3 + 1)) (lv' := [(3, .int (x3 + 1)), (2, .int x3), (0, .ref (ad 0)), (1, .int x1)]) (pc := 52) E.1 E.2.1 dX8_worst_52 hl (k := 3) rfl rfl (by decide) rfl (fun ls hl => ?_)
          refine lv_goto (tgt := 14) (pc := 55) E.1 E.2.1 dX8_worst_55 (by decide) ?_
          exact hk14 s x1 x3 (x3 + 1) z hw (lv_sub hl [2, 3, 1, 0] rfl) hf
set_option maxHeartbeats 4000000 in
set_option maxRecDepth 100000 in
theorem wl_X8_worst_p14 {p : Program} {l : Launch} {e : Env} {sS : State} {m : MethodId} {args : Array Value} {below : List Frame} {meth : Method} {c : Code} {G : xG} {W0 : va_W} {ad : Nat → Nat}   (E : xE p sS m args c cX8_worst 4 RX8 G (x_in W0)) (hr : meth.sig.returnType = (some .int)) (hk : meth.locks = false)  : ∀ (s' : S8) (x1' : Int32) (x2' : Int32) (x3' : Int32) (z : Int32) {H : Heap} {locs : List Loc} {ls : Array Slot}, xW G (x_in W0) sS.heap (cells8 G ad s') H locs → lv_has ls 4 [(0, .ref (ad 0)), (1, .int x1'), (2, .int x2'), (3, .int x3')] → lp_X8_worst_p14  s' x1' x2' x3' = some z → W p l e (rm_X8_worst) sS m args below meth c H locs 0 0 (MQ below (xQ G W0 (cells8 G ad s') (some (.int z))) args sS 0 0 (x_in W0)) (F0 m 14 ls []) := by
  intro s x1 x2 x3 z H locs ls hw hl hf
  exact x_loop_W (P := fun (q : S8 × Int32 × Int32 × Int32) (z : Int32) => ∀ {H : Heap} {locs : List Loc} {ls : Array Slot}, xW G (x_in W0) sS.heap (cells8 G ad q.1) H locs → lv_has ls 4 [(0, .ref (ad 0)), (1, .int q.2.1), (2, .int q.2.2.1), (3, .int q.2.2.2)] → W p l e (rm_X8_worst) sS m args below meth c H locs 0 0 (MQ below (xQ G W0 (cells8 G ad q.1) (some (.int z))) args sS 0 0 (x_in W0)) (F0 m 14 ls [])) (fun k hkk q z hf H locs ls hw hl => w_X8_worst_p14 E hr hk  (fun s x1 x2 x3 z H locs ls hw hl hf => hkk (s, x1, x2, x3) z hf hw hl) q.1 q.2.1 q.2.2.1 q.2.2.2 z hw hl hf) FU (s, x1, x2, x3) z hf hw hl
set_option maxHeartbeats 4000000 in
set_option maxRecDepth 100000 in
theorem w_X8_worst_p0 {p : Program} {l : Launch} {e : Env} {sS : State} {m : MethodId} {args : Array Value} {below : List Frame} {meth : Method} {c : Code} {G : xG} {W0 : va_W} {ad : Nat → Nat}   (E : xE p sS m args c cX8_worst 4 RX8 G (x_in W0)) (hr : meth.sig.returnType = (some .int)) (hk : meth.locks = false)  : ∀ (s' : S8) (x1' : Int32) (z : Int32) {H : Heap} {locs : List Loc} {ls : Array Slot}, xW G (x_in W0) sS.heap (cells8 G ad s') H locs → lv_has ls 4 [(0, .ref (ad 0)), (1, .int x1')] → f_X8_worst  s' x1' = some z → W p l e (rm_X8_worst) sS m args below meth c H locs 0 0 (MQ below (xQ G W0 (cells8 G ad s') (some (.int z))) args sS 0 0 (x_in W0)) (F0 m 0 ls []) := by
  intro s x1 z H locs ls hw hl hf
  unfold f_X8_worst at hf
  refine lv_iload_n (pc := 0) E.1 E.2.1 dX8_worst_0 rfl (lv_at hl 1 rfl) ?_
  obtain ⟨v1, g2, hf⟩ := x_bind hf
  refine x_callS0 (pc := 1) (As := [.int x1]) (rest := []) (st1 := [.int v1]) E hw hl (c_X8_isYear l G  x1 g2) xs_X8_131 xd_X8_isYear rfl rfl ⟨Nat.le_of_ble_eq_true rfl, Nat.le_of_ble_eq_true rfl⟩ rfl rfl (Nat.le_of_ble_eq_true rfl) rfl dX8_worst_1 (fun H locs hw => ?_)
  refine lv_if_ne (tgt := 9) (pc := 4) E.1 E.2.1 dX8_worst_4 (by decide) (fun q3 => ?_) (fun q3 => ?_)
  · have hf := x_neg q3 hf
    refine lv_bipush (v := (-2)) (pc := 9) E.1 E.2.1 dX8_worst_9 (by decide) ?_
    refine lv_istore_n (lv' := [(2, .int (-2)), (0, .ref (ad 0)), (1, .int x1)]) (pc := 11) E.1 E.2.1 dX8_worst_11 rfl hl (by decide) rfl (fun ls hl => ?_)
    refine lv_iconst (v := 0) (pc := 12) E.1 E.2.1 dX8_worst_12 (by decide) ?_
    refine lv_istore_n (lv' := [(3, .int 0), (2, .int (-2)), (0, .ref (ad 0)), (1, .int x1)]) (pc := 13) E.1 E.2.1 dX8_worst_13 rfl hl (by decide) rfl (fun ls hl => ?_)
    exact wl_X8_worst_p14 E hr hk  s x1 (-2) 0 z hw (lv_sub hl [2, 3, 1, 0] rfl) hf
  · have hf := x_pos q3 hf
    refine lv_iconst (v := (-1)) (pc := 7) E.1 E.2.1 dX8_worst_7 (by decide) ?_
    obtain rfl := Option.some.inj hf
    exact x_reti (pc := 8) E hr hk hw dX8_worst_8
set_option maxHeartbeats 4000000 in
set_option maxRecDepth 100000 in
theorem c_X8_worst (l : Launch) (G : xG) (ad : Nat → Nat) (s : S8) (x1 : Int32) {z : Int32} (hf : f_X8_worst s x1 = some z) : xC l yX8_worst cX8_worst 4 (some .int) (rm_X8_worst) G [.ref (ad 0), .int x1] (cells8 G ad s) (some (.int z)) (cells8 G ad s) :=
  x_met (by decide) (Nat.le_of_ble_eq_true rfl) (fun p e sS m below meth c E hr hk ls hl hw => w_X8_worst_p0 E hr hk s x1 z hw hl hf)
set_option maxHeartbeats 4000000 in
set_option maxRecDepth 100000 in
theorem w_X8_dearestOf_p18 {p : Program} {l : Launch} {e : Env} {sS : State} {m : MethodId} {args : Array Value} {below : List Frame} {meth : Method} {c : Code} {G : xG} {W0 : va_W} {ad : Nat → Nat}  {k18 : S8 → Int32 → Int32 → Int32 → Option (Int32 × S8)} (E : xE p sS m args c cX8_dearestOf 4 RX8 G (x_in W0)) (hr : meth.sig.returnType = (some .int)) (hk : meth.locks = false) (hk18 : ∀ (s' : S8) (x1' : Int32) (x2' : Int32) (x3' : Int32) (z : Int32 × S8) {H : Heap} {locs : List Loc} {ls : Array Slot}, xW G (x_in W0) sS.heap (cells8 G ad s') H locs → lv_has ls 4 [(0, .ref (ad 0)), (1, .int x1'), (2, .int x2'), (3, .int x3')] → k18  s' x1' x2' x3' = some z → W p l e (rm_X8_dearestOf) sS m args below meth c H locs 0 0 (MQ below (xQ G W0 (cells8 G ad z.2) (some (.int z.1))) args sS 0 0 (x_in W0)) (F0 m 18 ls [])) : ∀ (s' : S8) (x1' : Int32) (x2' : Int32) (x3' : Int32) (z : Int32 × S8) {H : Heap} {locs : List Loc} {ls : Array Slot}, xW G (x_in W0) sS.heap (cells8 G ad s') H locs → lv_has ls 4 [(0, .ref (ad 0)), (1, .int x1'), (2, .int x2'), (3, .int x3')] → f_X8_dearestOf_p18 k18 s' x1' x2' x3' = some z → W p l e (rm_X8_dearestOf) sS m args below meth c H locs 0 0 (MQ below (xQ G W0 (cells8 G ad z.2) (some (.int z.1))) args sS 0 0 (x_in W0)) (F0 m 18 ls []) := by
  intro s x1 x2 x3 z H locs ls hw hl hf
  unfold f_X8_dearestOf_p18 at hf
  refine lv_iload_n (pc := 18) E.1 E.2.1 dX8_dearestOf_18 rfl (lv_at hl 3 rfl) ?_
  refine lv_aload_n (pc := 19) E.1 E.2.1 dX8_dearestOf_19 rfl (lv_at hl 0 rfl) ?_
  obtain ⟨v1, g2, hf⟩ := x_bind hf
  refine x_callVA (pc := 20) (As := []) (rest := [.int x3]) (st1 := [.int v1, .int x3]) (ws' := (cells8 G ad s)) E hw hl (c_X8_many l G ad s g2) xv_X8_80 xd_X8_many rfl rfl ⟨Nat.le_of_ble_eq_true rfl, Nat.le_of_ble_eq_true rfl⟩ (q0 := 0) rfl rfl rfl rfl (Nat.le_of_ble_eq_true rfl) rfl rfl dX8_dearestOf_20 (fun H locs hw => ?_)
  refine lv_icmp_ge (tgt := 56) (pc := 23) E.1 E.2.1 dX8_dearestOf_23 (by decide) (fun q3 => ?_) (fun q3 => ?_)
  · have hf := x_pos q3 hf
    refine lv_iload_n (pc := 56) E.1 E.2.1 dX8_dearestOf_56 rfl (lv_at hl 2 rfl) ?_
    obtain rfl := Option.some.inj hf
    exact x_reti (pc := 57) E hr hk hw dX8_dearestOf_57
  · have hf := x_neg q3 hf
    refine lv_aload_n (pc := 26) E.1 E.2.1 dX8_dearestOf_26 rfl (lv_at hl 0 rfl) ?_
    refine lv_iload_n (pc := 27) E.1 E.2.1 dX8_dearestOf_27 rfl (lv_at hl 3 rfl) ?_
    refine lv_iload_n (pc := 28) E.1 E.2.1 dX8_dearestOf_28 rfl (lv_at hl 1 rfl) ?_
    obtain ⟨v4, g5, hf⟩ := x_bind hf
    refine x_callVA (pc := 29) (As := [.int x3, .int x1]) (rest := []) (st1 := [.int v4]) (ws' := (cells8 G ad s)) E hw hl (c_X8_isIn l G ad s x3 x1 g5) xv_X8_184 xd_X8_isIn rfl rfl ⟨Nat.le_of_ble_eq_true rfl, Nat.le_of_ble_eq_true rfl⟩ (q0 := 0) rfl rfl rfl rfl (Nat.le_of_ble_eq_true rfl) rfl rfl dX8_dearestOf_29 (fun H locs hw => ?_)
    refine lv_if_eq (tgt := 50) (pc := 32) E.1 E.2.1 dX8_dearestOf_32 (by decide) (fun q6 => ?_) (fun q6 => ?_)
    · have hf := x_pos q6 hf
      refine lv_iinc (v := (x3 + 1)) (lv' := [(3, .int (x3 + 1)), (0, .ref (ad 0)), (1, .int x1), (2, .int x2)]) (pc := 50) E.1 E.2.1 dX8_dearestOf_50 hl (k := 3) rfl rfl (by decide) rfl (fun ls hl => ?_)
      refine lv_goto (tgt := 18) (pc := 53) E.1 E.2.1 dX8_dearestOf_53 (by decide) ?_
      exact hk18 s x1 x2 (x3 + 1) z hw (lv_sub hl [1, 2, 3, 0] rfl) hf
    · have hf := x_neg q6 hf
      refine lv_iload_n (pc := 35) E.1 E.2.1 dX8_dearestOf_35 rfl (lv_at hl 2 rfl) ?_
      refine lv_if_lt (tgt := 48) (pc := 36) E.1 E.2.1 dX8_dearestOf_36 (by decide) (fun q7 => ?_) (fun q7 => ?_)
      · have hf := x_pos q7 hf
        refine lv_iload_n (pc := 48) E.1 E.2.1 dX8_dearestOf_48 rfl (lv_at hl 3 rfl) ?_
        refine lv_istore_n (lv' := [(2, .int x3), (0, .ref (ad 0)), (1, .int x1), (3, .int x3)]) (pc := 49) E.1 E.2.1 dX8_dearestOf_49 rfl hl (by decide) rfl (fun ls hl => ?_)
        refine lv_iinc (v := (x3 + 1)) (lv' := [(3, .int (x3 + 1)), (2, .int x3), (0, .ref (ad 0)), (1, .int x1)]) (pc := 50) E.1 E.2.1 dX8_dearestOf_50 hl (k := 3) rfl rfl (by decide) rfl (fun ls hl => ?_)
        refine lv_goto (tgt := 18) (pc := 53) E.1 E.2.1 dX8_dearestOf_53 (by decide) ?_
        exact hk18 s x1 x3 (x3 + 1) z hw (lv_sub hl [2, 3, 1, 0] rfl) hf
      · have hf := x_neg q7 hf
        refine lv_aload_n (pc := 39) E.1 E.2.1 dX8_dearestOf_39 rfl (lv_at hl 0 rfl) ?_
        refine lv_iload_n (pc := 40) E.1 E.2.1 dX8_dearestOf_40 rfl (lv_at hl 3 rfl) ?_
        refine lv_iload_n (pc := 41) E.1 E.2.1 dX8_dearestOf_41 rfl (lv_at hl 2 rfl) ?_
        obtain ⟨v8, g9, hf⟩ := x_bind hf
        refine x_callVA (pc := 42) (As := [.int x3, .int x2]) (rest := []) (st1 := [.int v8]) (ws' := (cells8 G ad s)) E hw hl (c_X8_isAhead l G ad s x3 x2 g9) xv_X8_246 xd_X8_isAhead rfl rfl ⟨Nat.le_of_ble_eq_true rfl, Nat.le_of_ble_eq_true rfl⟩ (q0 := 0) rfl rfl rfl rfl (Nat.le_of_ble_eq_true rfl) rfl rfl dX8_dearestOf_42 (fun H locs hw => ?_)
        refine lv_if_eq (tgt := 50) (pc := 45) E.1 E.2.1 dX8_dearestOf_45 (by decide) (fun q10 => ?_) (fun q10 => ?_)
        · have hf := x_pos q10 hf
          refine lv_iinc (v := (x3 + 1)) (lv' := [(3, .int (x3 + 1)), (0, .ref (ad 0)), (1, .int x1), (2, .int x2)]) (pc := 50) E.1 E.2.1 dX8_dearestOf_50 hl (k := 3) rfl rfl (by decide) rfl (fun ls hl => ?_)
          refine lv_goto (tgt := 18) (pc := 53) E.1 E.2.1 dX8_dearestOf_53 (by decide) ?_
          exact hk18 s x1 x2 (x3 + 1) z hw (lv_sub hl [1, 2, 3, 0] rfl) hf
        · have hf := x_neg q10 hf
          refine lv_iload_n (pc := 48) E.1 E.2.1 dX8_dearestOf_48 rfl (lv_at hl 3 rfl) ?_
          refine lv_istore_n (lv' := [(2, .int x3), (0, .ref (ad 0)), (1, .int x1), (3, .int x3)]) (pc := 49) E.1 E.2.1 dX8_dearestOf_49 rfl hl (by decide) rfl (fun ls hl => ?_)
          refine lv_iinc (v := (x3 + 1)) (lv' := [(3, .int (x3 + 1)), (2, .int x3), (0, .ref (ad 0)), (1, .int x1)]) (pc := 50) E.1 E.2.1 dX8_dearestOf_50 hl (k := 3) rfl rfl (by decide) rfl (fun ls hl => ?_)
          refine lv_goto (tgt := 18) (pc := 53) E.1 E.2.1 dX8_dearestOf_53 (by decide) ?_
          exact hk18 s x1 x3 (x3 + 1) z hw (lv_sub hl [2, 3, 1, 0] rfl) hf
set_option maxHeartbeats 4000000 in
set_option maxRecDepth 100000 in
theorem wl_X8_dearestOf_p18 {p : Program} {l : Launch} {e : Env} {sS : State} {m : MethodId} {args : Array Value} {below : List Frame} {meth : Method} {c : Code} {G : xG} {W0 : va_W} {ad : Nat → Nat}   (E : xE p sS m args c cX8_dearestOf 4 RX8 G (x_in W0)) (hr : meth.sig.returnType = (some .int)) (hk : meth.locks = false)  : ∀ (s' : S8) (x1' : Int32) (x2' : Int32) (x3' : Int32) (z : Int32 × S8) {H : Heap} {locs : List Loc} {ls : Array Slot}, xW G (x_in W0) sS.heap (cells8 G ad s') H locs → lv_has ls 4 [(0, .ref (ad 0)), (1, .int x1'), (2, .int x2'), (3, .int x3')] → lp_X8_dearestOf_p18  s' x1' x2' x3' = some z → W p l e (rm_X8_dearestOf) sS m args below meth c H locs 0 0 (MQ below (xQ G W0 (cells8 G ad z.2) (some (.int z.1))) args sS 0 0 (x_in W0)) (F0 m 18 ls []) := by
  intro s x1 x2 x3 z H locs ls hw hl hf
  exact x_loop_W (P := fun (q : S8 × Int32 × Int32 × Int32) (z : Int32 × S8) => ∀ {H : Heap} {locs : List Loc} {ls : Array Slot}, xW G (x_in W0) sS.heap (cells8 G ad q.1) H locs → lv_has ls 4 [(0, .ref (ad 0)), (1, .int q.2.1), (2, .int q.2.2.1), (3, .int q.2.2.2)] → W p l e (rm_X8_dearestOf) sS m args below meth c H locs 0 0 (MQ below (xQ G W0 (cells8 G ad z.2) (some (.int z.1))) args sS 0 0 (x_in W0)) (F0 m 18 ls [])) (fun k hkk q z hf H locs ls hw hl => w_X8_dearestOf_p18 E hr hk  (fun s x1 x2 x3 z H locs ls hw hl hf => hkk (s, x1, x2, x3) z hf hw hl) q.1 q.2.1 q.2.2.1 q.2.2.2 z hw hl hf) FU (s, x1, x2, x3) z hf hw hl
set_option maxHeartbeats 4000000 in
set_option maxRecDepth 100000 in
theorem w_X8_dearestOf_p0 {p : Program} {l : Launch} {e : Env} {sS : State} {m : MethodId} {args : Array Value} {below : List Frame} {meth : Method} {c : Code} {G : xG} {W0 : va_W} {ad : Nat → Nat}   (E : xE p sS m args c cX8_dearestOf 4 RX8 G (x_in W0)) (hr : meth.sig.returnType = (some .int)) (hk : meth.locks = false)  : ∀ (s' : S8) (x1' : Int32) (z : Int32 × S8) {H : Heap} {locs : List Loc} {ls : Array Slot}, xW G (x_in W0) sS.heap (cells8 G ad s') H locs → lv_has ls 4 [(0, .ref (ad 0)), (1, .int x1')] → f_X8_dearestOf  s' x1' = some z → W p l e (rm_X8_dearestOf) sS m args below meth c H locs 0 0 (MQ below (xQ G W0 (cells8 G ad z.2) (some (.int z.1))) args sS 0 0 (x_in W0)) (F0 m 0 ls []) := by
  intro s x1 z H locs ls hw hl hf
  unfold f_X8_dearestOf at hf
  refine lv_iload_n (pc := 0) E.1 E.2.1 dX8_dearestOf_0 rfl (lv_at hl 1 rfl) ?_
  obtain ⟨v1, g2, hf⟩ := x_bind hf
  refine x_callS0 (pc := 1) (As := [.int x1]) (rest := []) (st1 := [.int v1]) E hw hl (c_X8_isClass l G  x1 g2) xs_X8_108 xd_X8_isClass rfl rfl ⟨Nat.le_of_ble_eq_true rfl, Nat.le_of_ble_eq_true rfl⟩ rfl rfl (Nat.le_of_ble_eq_true rfl) rfl dX8_dearestOf_1 (fun H locs hw => ?_)
  refine lv_if_ne (tgt := 9) (pc := 4) E.1 E.2.1 dX8_dearestOf_4 (by decide) (fun q3 => ?_) (fun q3 => ?_)
  · have hf := x_neg q3 hf
    refine lv_aload_n (pc := 9) E.1 E.2.1 dX8_dearestOf_9 rfl (lv_at hl 0 rfl) ?_
    obtain ⟨v4, g5, hf⟩ := x_bind hf
    refine x_callVA (pc := 10) (As := []) (rest := []) (st1 := []) (ws' := (cells8 G ad v4)) E hw hl (c_X8_works l G ad s g5) xv_X8_221 xd_X8_works rfl rfl ⟨Nat.le_of_ble_eq_true rfl, Nat.le_of_ble_eq_true rfl⟩ (q0 := 0) rfl rfl rfl rfl (Nat.le_of_ble_eq_true rfl) rfl rfl dX8_dearestOf_10 (fun H locs hw => ?_)
    refine lv_bipush (v := (-2)) (pc := 13) E.1 E.2.1 dX8_dearestOf_13 (by decide) ?_
    refine lv_istore_n (lv' := [(2, .int (-2)), (0, .ref (ad 0)), (1, .int x1)]) (pc := 15) E.1 E.2.1 dX8_dearestOf_15 rfl hl (by decide) rfl (fun ls hl => ?_)
    refine lv_iconst (v := 0) (pc := 16) E.1 E.2.1 dX8_dearestOf_16 (by decide) ?_
    refine lv_istore_n (lv' := [(3, .int 0), (2, .int (-2)), (0, .ref (ad 0)), (1, .int x1)]) (pc := 17) E.1 E.2.1 dX8_dearestOf_17 rfl hl (by decide) rfl (fun ls hl => ?_)
    exact wl_X8_dearestOf_p18 E hr hk  v4 x1 (-2) 0 z hw (lv_sub hl [2, 3, 1, 0] rfl) hf
  · have hf := x_pos q3 hf
    refine lv_iconst (v := (-1)) (pc := 7) E.1 E.2.1 dX8_dearestOf_7 (by decide) ?_
    obtain rfl := Option.some.inj hf
    exact x_reti (pc := 8) E hr hk hw dX8_dearestOf_8
set_option maxHeartbeats 4000000 in
set_option maxRecDepth 100000 in
theorem c_X8_dearestOf (l : Launch) (G : xG) (ad : Nat → Nat) (s : S8) (x1 : Int32) {z : Int32 × S8} (hf : f_X8_dearestOf s x1 = some z) : xC l yX8_dearestOf cX8_dearestOf 4 (some .int) (rm_X8_dearestOf) G [.ref (ad 0), .int x1] (cells8 G ad s) (some (.int z.1)) (cells8 G ad z.2) :=
  x_met (by decide) (Nat.le_of_ble_eq_true rfl) (fun p e sS m below meth c E hr hk ls hl hw => w_X8_dearestOf_p0 E hr hk s x1 z hw hl hf)
set_option maxHeartbeats 4000000 in
set_option maxRecDepth 100000 in
theorem w_X8_claimsIn_p13 {p : Program} {l : Launch} {e : Env} {sS : State} {m : MethodId} {args : Array Value} {below : List Frame} {meth : Method} {c : Code} {G : xG} {W0 : va_W} {ad : Nat → Nat}  {k13 : S8 → Int32 → Int32 → Int32 → Option (Int32)} (E : xE p sS m args c cX8_claimsIn 4 RX8 G (x_in W0)) (hr : meth.sig.returnType = (some .int)) (hk : meth.locks = false) (hk13 : ∀ (s' : S8) (x1' : Int32) (x2' : Int32) (x3' : Int32) (z : Int32) {H : Heap} {locs : List Loc} {ls : Array Slot}, xW G (x_in W0) sS.heap (cells8 G ad s') H locs → lv_has ls 4 [(0, .ref (ad 0)), (1, .int x1'), (2, .int x2'), (3, .int x3')] → k13  s' x1' x2' x3' = some z → W p l e (rm_X8_claimsIn) sS m args below meth c H locs 0 0 (MQ below (xQ G W0 (cells8 G ad s') (some (.int z))) args sS 0 0 (x_in W0)) (F0 m 13 ls [])) : ∀ (s' : S8) (x1' : Int32) (x2' : Int32) (x3' : Int32) (z : Int32) {H : Heap} {locs : List Loc} {ls : Array Slot}, xW G (x_in W0) sS.heap (cells8 G ad s') H locs → lv_has ls 4 [(0, .ref (ad 0)), (1, .int x1'), (2, .int x2'), (3, .int x3')] → f_X8_claimsIn_p13 k13 s' x1' x2' x3' = some z → W p l e (rm_X8_claimsIn) sS m args below meth c H locs 0 0 (MQ below (xQ G W0 (cells8 G ad s') (some (.int z))) args sS 0 0 (x_in W0)) (F0 m 13 ls []) := by
  intro s x1 x2 x3 z H locs ls hw hl hf
  unfold f_X8_claimsIn_p13 at hf
  refine lv_iload_n (pc := 13) E.1 E.2.1 dX8_claimsIn_13 rfl (lv_at hl 3 rfl) ?_
  refine lv_aload_n (pc := 14) E.1 E.2.1 dX8_claimsIn_14 rfl (lv_at hl 0 rfl) ?_
  obtain ⟨v1, g2, hf⟩ := x_bind hf
  refine x_callVA (pc := 15) (As := []) (rest := [.int x3]) (st1 := [.int v1, .int x3]) (ws' := (cells8 G ad s)) E hw hl (c_X8_claims l G ad s g2) xv_X8_88 xd_X8_claims rfl rfl ⟨Nat.le_of_ble_eq_true rfl, Nat.le_of_ble_eq_true rfl⟩ (q0 := 0) rfl rfl rfl rfl (Nat.le_of_ble_eq_true rfl) rfl rfl dX8_claimsIn_15 (fun H locs hw => ?_)
  refine lv_icmp_ge (tgt := 39) (pc := 18) E.1 E.2.1 dX8_claimsIn_18 (by decide) (fun q3 => ?_) (fun q3 => ?_)
  · have hf := x_pos q3 hf
    refine lv_iload_n (pc := 39) E.1 E.2.1 dX8_claimsIn_39 rfl (lv_at hl 2 rfl) ?_
    obtain rfl := Option.some.inj hf
    exact x_reti (pc := 40) E hr hk hw dX8_claimsIn_40
  · have hf := x_neg q3 hf
    refine lv_aload_n (pc := 21) E.1 E.2.1 dX8_claimsIn_21 rfl (lv_at hl 0 rfl) ?_
    refine lv_iload_n (pc := 22) E.1 E.2.1 dX8_claimsIn_22 rfl (lv_at hl 3 rfl) ?_
    obtain ⟨v4, g5, hf⟩ := x_bind hf
    refine x_callVA (pc := 23) (As := [.int x3]) (rest := []) (st1 := [.int v4]) (ws' := (cells8 G ad s)) E hw hl (c_X8_yearOf l G ad s x3 g5) xv_X8_101 xd_X8_yearOf rfl rfl ⟨Nat.le_of_ble_eq_true rfl, Nat.le_of_ble_eq_true rfl⟩ (q0 := 0) rfl rfl rfl rfl (Nat.le_of_ble_eq_true rfl) rfl rfl dX8_claimsIn_23 (fun H locs hw => ?_)
    refine lv_iload_n (pc := 26) E.1 E.2.1 dX8_claimsIn_26 rfl (lv_at hl 1 rfl) ?_
    refine lv_icmp_ne (tgt := 33) (pc := 27) E.1 E.2.1 dX8_claimsIn_27 (by decide) (fun q6 => ?_) (fun q6 => ?_)
    · have hf := x_neg q6 hf
      refine lv_iinc (v := (x3 + 1)) (lv' := [(3, .int (x3 + 1)), (0, .ref (ad 0)), (1, .int x1), (2, .int x2)]) (pc := 33) E.1 E.2.1 dX8_claimsIn_33 hl (k := 3) rfl rfl (by decide) rfl (fun ls hl => ?_)
      refine lv_goto (tgt := 13) (pc := 36) E.1 E.2.1 dX8_claimsIn_36 (by decide) ?_
      exact hk13 s x1 x2 (x3 + 1) z hw (lv_sub hl [1, 2, 3, 0] rfl) hf
    · have hf := x_pos q6 hf
      refine lv_iinc (v := (x2 + 1)) (lv' := [(2, .int (x2 + 1)), (0, .ref (ad 0)), (1, .int x1), (3, .int x3)]) (pc := 30) E.1 E.2.1 dX8_claimsIn_30 hl (k := 2) rfl rfl (by decide) rfl (fun ls hl => ?_)
      refine lv_iinc (v := (x3 + 1)) (lv' := [(3, .int (x3 + 1)), (2, .int (x2 + 1)), (0, .ref (ad 0)), (1, .int x1)]) (pc := 33) E.1 E.2.1 dX8_claimsIn_33 hl (k := 3) rfl rfl (by decide) rfl (fun ls hl => ?_)
      refine lv_goto (tgt := 13) (pc := 36) E.1 E.2.1 dX8_claimsIn_36 (by decide) ?_
      exact hk13 s x1 (x2 + 1) (x3 + 1) z hw (lv_sub hl [2, 3, 1, 0] rfl) hf
set_option maxHeartbeats 4000000 in
set_option maxRecDepth 100000 in
theorem wl_X8_claimsIn_p13 {p : Program} {l : Launch} {e : Env} {sS : State} {m : MethodId} {args : Array Value} {below : List Frame} {meth : Method} {c : Code} {G : xG} {W0 : va_W} {ad : Nat → Nat}   (E : xE p sS m args c cX8_claimsIn 4 RX8 G (x_in W0)) (hr : meth.sig.returnType = (some .int)) (hk : meth.locks = false)  : ∀ (s' : S8) (x1' : Int32) (x2' : Int32) (x3' : Int32) (z : Int32) {H : Heap} {locs : List Loc} {ls : Array Slot}, xW G (x_in W0) sS.heap (cells8 G ad s') H locs → lv_has ls 4 [(0, .ref (ad 0)), (1, .int x1'), (2, .int x2'), (3, .int x3')] → lp_X8_claimsIn_p13  s' x1' x2' x3' = some z → W p l e (rm_X8_claimsIn) sS m args below meth c H locs 0 0 (MQ below (xQ G W0 (cells8 G ad s') (some (.int z))) args sS 0 0 (x_in W0)) (F0 m 13 ls []) := by
  intro s x1 x2 x3 z H locs ls hw hl hf
  exact x_loop_W (P := fun (q : S8 × Int32 × Int32 × Int32) (z : Int32) => ∀ {H : Heap} {locs : List Loc} {ls : Array Slot}, xW G (x_in W0) sS.heap (cells8 G ad q.1) H locs → lv_has ls 4 [(0, .ref (ad 0)), (1, .int q.2.1), (2, .int q.2.2.1), (3, .int q.2.2.2)] → W p l e (rm_X8_claimsIn) sS m args below meth c H locs 0 0 (MQ below (xQ G W0 (cells8 G ad q.1) (some (.int z))) args sS 0 0 (x_in W0)) (F0 m 13 ls [])) (fun k hkk q z hf H locs ls hw hl => w_X8_claimsIn_p13 E hr hk  (fun s x1 x2 x3 z H locs ls hw hl hf => hkk (s, x1, x2, x3) z hf hw hl) q.1 q.2.1 q.2.2.1 q.2.2.2 z hw hl hf) FU (s, x1, x2, x3) z hf hw hl
set_option maxHeartbeats 4000000 in
set_option maxRecDepth 100000 in
theorem w_X8_claimsIn_p0 {p : Program} {l : Launch} {e : Env} {sS : State} {m : MethodId} {args : Array Value} {below : List Frame} {meth : Method} {c : Code} {G : xG} {W0 : va_W} {ad : Nat → Nat}   (E : xE p sS m args c cX8_claimsIn 4 RX8 G (x_in W0)) (hr : meth.sig.returnType = (some .int)) (hk : meth.locks = false)  : ∀ (s' : S8) (x1' : Int32) (z : Int32) {H : Heap} {locs : List Loc} {ls : Array Slot}, xW G (x_in W0) sS.heap (cells8 G ad s') H locs → lv_has ls 4 [(0, .ref (ad 0)), (1, .int x1')] → f_X8_claimsIn  s' x1' = some z → W p l e (rm_X8_claimsIn) sS m args below meth c H locs 0 0 (MQ below (xQ G W0 (cells8 G ad s') (some (.int z))) args sS 0 0 (x_in W0)) (F0 m 0 ls []) := by
  intro s x1 z H locs ls hw hl hf
  unfold f_X8_claimsIn at hf
  refine lv_iload_n (pc := 0) E.1 E.2.1 dX8_claimsIn_0 rfl (lv_at hl 1 rfl) ?_
  obtain ⟨v1, g2, hf⟩ := x_bind hf
  refine x_callS0 (pc := 1) (As := [.int x1]) (rest := []) (st1 := [.int v1]) E hw hl (c_X8_isYear l G  x1 g2) xs_X8_131 xd_X8_isYear rfl rfl ⟨Nat.le_of_ble_eq_true rfl, Nat.le_of_ble_eq_true rfl⟩ rfl rfl (Nat.le_of_ble_eq_true rfl) rfl dX8_claimsIn_1 (fun H locs hw => ?_)
  refine lv_if_ne (tgt := 9) (pc := 4) E.1 E.2.1 dX8_claimsIn_4 (by decide) (fun q3 => ?_) (fun q3 => ?_)
  · have hf := x_neg q3 hf
    refine lv_iconst (v := 0) (pc := 9) E.1 E.2.1 dX8_claimsIn_9 (by decide) ?_
    refine lv_istore_n (lv' := [(2, .int 0), (0, .ref (ad 0)), (1, .int x1)]) (pc := 10) E.1 E.2.1 dX8_claimsIn_10 rfl hl (by decide) rfl (fun ls hl => ?_)
    refine lv_iconst (v := 0) (pc := 11) E.1 E.2.1 dX8_claimsIn_11 (by decide) ?_
    refine lv_istore_n (lv' := [(3, .int 0), (2, .int 0), (0, .ref (ad 0)), (1, .int x1)]) (pc := 12) E.1 E.2.1 dX8_claimsIn_12 rfl hl (by decide) rfl (fun ls hl => ?_)
    exact wl_X8_claimsIn_p13 E hr hk  s x1 0 0 z hw (lv_sub hl [2, 3, 1, 0] rfl) hf
  · have hf := x_pos q3 hf
    refine lv_iconst (v := (-1)) (pc := 7) E.1 E.2.1 dX8_claimsIn_7 (by decide) ?_
    obtain rfl := Option.some.inj hf
    exact x_reti (pc := 8) E hr hk hw dX8_claimsIn_8
set_option maxHeartbeats 4000000 in
set_option maxRecDepth 100000 in
theorem c_X8_claimsIn (l : Launch) (G : xG) (ad : Nat → Nat) (s : S8) (x1 : Int32) {z : Int32} (hf : f_X8_claimsIn s x1 = some z) : xC l yX8_claimsIn cX8_claimsIn 4 (some .int) (rm_X8_claimsIn) G [.ref (ad 0), .int x1] (cells8 G ad s) (some (.int z)) (cells8 G ad s) :=
  x_met (by decide) (Nat.le_of_ble_eq_true rfl) (fun p e sS m below meth c E hr hk ls hl hw => w_X8_claimsIn_p0 E hr hk s x1 z hw hl hf)
set_option maxHeartbeats 4000000 in
set_option maxRecDepth 100000 in
theorem w_X8_gap_p0 {p : Program} {l : Launch} {e : Env} {sS : State} {m : MethodId} {args : Array Value} {below : List Frame} {meth : Method} {c : Code} {G : xG} {W0 : va_W} {ad : Nat → Nat}   (E : xE p sS m args c cX8_gap 3 RX8 G (x_in W0)) (hr : meth.sig.returnType = (some .int)) (hk : meth.locks = false)  : ∀ (s' : S8) (x1' : Int32) (x2' : Int32) (z : Int32 × S8) {H : Heap} {locs : List Loc} {ls : Array Slot}, xW G (x_in W0) sS.heap (cells8 G ad s') H locs → lv_has ls 3 [(0, .ref (ad 0)), (1, .int x1'), (2, .int x2')] → f_X8_gap  s' x1' x2' = some z → W p l e (rm_X8_gap) sS m args below meth c H locs 0 0 (MQ below (xQ G W0 (cells8 G ad z.2) (some (.int z.1))) args sS 0 0 (x_in W0)) (F0 m 0 ls []) := by
  intro s x1 x2 z H locs ls hw hl hf
  unfold f_X8_gap at hf
  refine lv_aload_n (pc := 0) E.1 E.2.1 dX8_gap_0 rfl (lv_at hl 0 rfl) ?_
  refine lv_iload_n (pc := 1) E.1 E.2.1 dX8_gap_1 rfl (lv_at hl 1 rfl) ?_
  obtain ⟨v1, g2, hf⟩ := x_bind hf
  refine x_callVA (pc := 2) (As := [.int x1]) (rest := []) (st1 := [.int v1]) (ws' := (cells8 G ad s)) E hw hl (c_X8_isFleet l G ad s x1 g2) xv_X8_115 xd_X8_isFleet rfl rfl ⟨Nat.le_of_ble_eq_true rfl, Nat.le_of_ble_eq_true rfl⟩ (q0 := 0) rfl rfl rfl rfl (Nat.le_of_ble_eq_true rfl) rfl rfl dX8_gap_2 (fun H locs hw => ?_)
  refine lv_if_eq (tgt := 32) (pc := 5) E.1 E.2.1 dX8_gap_5 (by decide) (fun q3 => ?_) (fun q3 => ?_)
  · have hf := x_pos q3 hf
    refine lv_ldc (v := (-1000000)) (pc := 32) E.1 E.2.1 E.2.2.2.1 (E.2.2.2.2.1 _ wq_1584) dX8_gap_32 ?_
    obtain rfl := Option.some.inj hf
    exact x_reti (pc := 34) E hr hk hw dX8_gap_34
  · have hf := x_neg q3 hf
    refine lv_aload_n (pc := 8) E.1 E.2.1 dX8_gap_8 rfl (lv_at hl 0 rfl) ?_
    refine lv_iload_n (pc := 9) E.1 E.2.1 dX8_gap_9 rfl (lv_at hl 2 rfl) ?_
    obtain ⟨v4, g5, hf⟩ := x_bind hf
    refine x_callVA (pc := 10) (As := [.int x2]) (rest := []) (st1 := [.int v4]) (ws' := (cells8 G ad s)) E hw hl (c_X8_isFleet l G ad s x2 g5) xv_X8_115 xd_X8_isFleet rfl rfl ⟨Nat.le_of_ble_eq_true rfl, Nat.le_of_ble_eq_true rfl⟩ (q0 := 0) rfl rfl rfl rfl (Nat.le_of_ble_eq_true rfl) rfl rfl dX8_gap_10 (fun H locs hw => ?_)
    refine lv_if_eq (tgt := 32) (pc := 13) E.1 E.2.1 dX8_gap_13 (by decide) (fun q6 => ?_) (fun q6 => ?_)
    · have hf := x_pos q6 hf
      refine lv_ldc (v := (-1000000)) (pc := 32) E.1 E.2.1 E.2.2.2.1 (E.2.2.2.2.1 _ wq_1584) dX8_gap_32 ?_
      obtain rfl := Option.some.inj hf
      exact x_reti (pc := 34) E hr hk hw dX8_gap_34
    · have hf := x_neg q6 hf
      refine lv_aload_n (pc := 16) E.1 E.2.1 dX8_gap_16 rfl (lv_at hl 0 rfl) ?_
      refine lv_iload_n (pc := 17) E.1 E.2.1 dX8_gap_17 rfl (lv_at hl 1 rfl) ?_
      obtain ⟨v7, g8, hf⟩ := x_bind hf
      refine x_callVA (pc := 18) (As := [.int x1]) (rest := []) (st1 := [.int v7]) (ws' := (cells8 G ad s)) E hw hl (c_X8_isRated l G ad s x1 g8) xv_X8_236 xd_X8_isRated rfl rfl ⟨Nat.le_of_ble_eq_true rfl, Nat.le_of_ble_eq_true rfl⟩ (q0 := 0) rfl rfl rfl rfl (Nat.le_of_ble_eq_true rfl) rfl rfl dX8_gap_18 (fun H locs hw => ?_)
      refine lv_if_eq (tgt := 32) (pc := 21) E.1 E.2.1 dX8_gap_21 (by decide) (fun q9 => ?_) (fun q9 => ?_)
      · have hf := x_pos q9 hf
        refine lv_ldc (v := (-1000000)) (pc := 32) E.1 E.2.1 E.2.2.2.1 (E.2.2.2.2.1 _ wq_1584) dX8_gap_32 ?_
        obtain rfl := Option.some.inj hf
        exact x_reti (pc := 34) E hr hk hw dX8_gap_34
      · have hf := x_neg q9 hf
        refine lv_aload_n (pc := 24) E.1 E.2.1 dX8_gap_24 rfl (lv_at hl 0 rfl) ?_
        refine lv_iload_n (pc := 25) E.1 E.2.1 dX8_gap_25 rfl (lv_at hl 2 rfl) ?_
        obtain ⟨v10, g11, hf⟩ := x_bind hf
        refine x_callVA (pc := 26) (As := [.int x2]) (rest := []) (st1 := [.int v10]) (ws' := (cells8 G ad s)) E hw hl (c_X8_isRated l G ad s x2 g11) xv_X8_236 xd_X8_isRated rfl rfl ⟨Nat.le_of_ble_eq_true rfl, Nat.le_of_ble_eq_true rfl⟩ (q0 := 0) rfl rfl rfl rfl (Nat.le_of_ble_eq_true rfl) rfl rfl dX8_gap_26 (fun H locs hw => ?_)
        refine lv_if_ne (tgt := 35) (pc := 29) E.1 E.2.1 dX8_gap_29 (by decide) (fun q12 => ?_) (fun q12 => ?_)
        · have hf := x_neg q12 hf
          refine lv_aload_n (pc := 35) E.1 E.2.1 dX8_gap_35 rfl (lv_at hl 0 rfl) ?_
          obtain ⟨v13, g14, hf⟩ := x_bind hf
          refine x_callVA (pc := 36) (As := []) (rest := []) (st1 := []) (ws' := (cells8 G ad v13)) E hw hl (c_X8_works l G ad s g14) xv_X8_221 xd_X8_works rfl rfl ⟨Nat.le_of_ble_eq_true rfl, Nat.le_of_ble_eq_true rfl⟩ (q0 := 0) rfl rfl rfl rfl (Nat.le_of_ble_eq_true rfl) rfl rfl dX8_gap_36 (fun H locs hw => ?_)
          refine lv_aload_n (pc := 39) E.1 E.2.1 dX8_gap_39 rfl (lv_at hl 0 rfl) ?_
          refine lv_iload_n (pc := 40) E.1 E.2.1 dX8_gap_40 rfl (lv_at hl 1 rfl) ?_
          obtain ⟨v15, g16, hf⟩ := x_bind hf
          refine x_callVA (pc := 41) (As := [.int x1]) (rest := []) (st1 := [.int v15]) (ws' := (cells8 G ad v13)) E hw hl (c_X8_inThousandths l G ad v13 x1 g16) xv_X8_224 xd_X8_inThousandths rfl rfl ⟨Nat.le_of_ble_eq_true rfl, Nat.le_of_ble_eq_true rfl⟩ (q0 := 0) rfl rfl rfl rfl (Nat.le_of_ble_eq_true rfl) rfl rfl dX8_gap_41 (fun H locs hw => ?_)
          refine lv_aload_n (pc := 44) E.1 E.2.1 dX8_gap_44 rfl (lv_at hl 0 rfl) ?_
          refine lv_iload_n (pc := 45) E.1 E.2.1 dX8_gap_45 rfl (lv_at hl 2 rfl) ?_
          obtain ⟨v17, g18, hf⟩ := x_bind hf
          refine x_callVA (pc := 46) (As := [.int x2]) (rest := [.int v15]) (st1 := [.int v17, .int v15]) (ws' := (cells8 G ad v13)) E hw hl (c_X8_inThousandths l G ad v13 x2 g18) xv_X8_224 xd_X8_inThousandths rfl rfl ⟨Nat.le_of_ble_eq_true rfl, Nat.le_of_ble_eq_true rfl⟩ (q0 := 0) rfl rfl rfl rfl (Nat.le_of_ble_eq_true rfl) rfl rfl dX8_gap_46 (fun H locs hw => ?_)
          refine lv_isub (pc := 49) E.1 E.2.1 dX8_gap_49 ?_
          obtain rfl := Option.some.inj hf
          exact x_reti (pc := 50) E hr hk hw dX8_gap_50
        · have hf := x_pos q12 hf
          refine lv_ldc (v := (-1000000)) (pc := 32) E.1 E.2.1 E.2.2.2.1 (E.2.2.2.2.1 _ wq_1584) dX8_gap_32 ?_
          obtain rfl := Option.some.inj hf
          exact x_reti (pc := 34) E hr hk hw dX8_gap_34
set_option maxHeartbeats 4000000 in
set_option maxRecDepth 100000 in
theorem c_X8_gap (l : Launch) (G : xG) (ad : Nat → Nat) (s : S8) (x1 : Int32) (x2 : Int32) {z : Int32 × S8} (hf : f_X8_gap s x1 x2 = some z) : xC l yX8_gap cX8_gap 3 (some .int) (rm_X8_gap) G [.ref (ad 0), .int x1, .int x2] (cells8 G ad s) (some (.int z.1)) (cells8 G ad z.2) :=
  x_met (by decide) (Nat.le_of_ble_eq_true rfl) (fun p e sS m below meth c E hr hk ls hl hw => w_X8_gap_p0 E hr hk s x1 x2 z hw hl hf)
set_option maxHeartbeats 4000000 in
set_option maxRecDepth 100000 in
theorem w_X8_premium_p0 {p : Program} {l : Launch} {e : Env} {sS : State} {m : MethodId} {args : Array Value} {below : List Frame} {meth : Method} {c : Code} {G : xG} {W0 : va_W} {ad : Nat → Nat}   (E : xE p sS m args c cX8_premium 3 RX8 G (x_in W0)) (hr : meth.sig.returnType = (some .int)) (hk : meth.locks = false)  : ∀ (s' : S8) (x1' : Int32) (x2' : Int32) (z : Int32 × S8) {H : Heap} {locs : List Loc} {ls : Array Slot}, xW G (x_in W0) sS.heap (cells8 G ad s') H locs → lv_has ls 3 [(0, .ref (ad 0)), (1, .int x1'), (2, .int x2')] → f_X8_premium  s' x1' x2' = some z → W p l e (rm_X8_premium) sS m args below meth c H locs 0 0 (MQ below (xQ G W0 (cells8 G ad z.2) (some (.int z.1))) args sS 0 0 (x_in W0)) (F0 m 0 ls []) := by
  intro s x1 x2 z H locs ls hw hl hf
  unfold f_X8_premium at hf
  refine lv_aload_n (pc := 0) E.1 E.2.1 dX8_premium_0 rfl (lv_at hl 0 rfl) ?_
  refine lv_iload_n (pc := 1) E.1 E.2.1 dX8_premium_1 rfl (lv_at hl 1 rfl) ?_
  obtain ⟨v1, g2, hf⟩ := x_bind hf
  refine x_callVA (pc := 2) (As := [.int x1]) (rest := []) (st1 := [.int v1]) (ws' := (cells8 G ad s)) E hw hl (c_X8_isFleet l G ad s x1 g2) xv_X8_115 xd_X8_isFleet rfl rfl ⟨Nat.le_of_ble_eq_true rfl, Nat.le_of_ble_eq_true rfl⟩ (q0 := 0) rfl rfl rfl rfl (Nat.le_of_ble_eq_true rfl) rfl rfl dX8_premium_2 (fun H locs hw => ?_)
  refine lv_if_eq (tgt := 18) (pc := 5) E.1 E.2.1 dX8_premium_5 (by decide) (fun q3 => ?_) (fun q3 => ?_)
  · have hf := x_pos q3 hf
    refine lv_iconst (v := (-1)) (pc := 18) E.1 E.2.1 dX8_premium_18 (by decide) ?_
    obtain rfl := Option.some.inj hf
    exact x_reti (pc := 19) E hr hk hw dX8_premium_19
  · have hf := x_neg q3 hf
    refine lv_iload_n (pc := 8) E.1 E.2.1 dX8_premium_8 rfl (lv_at hl 2 rfl) ?_
    refine lv_iconst (v := 1) (pc := 9) E.1 E.2.1 dX8_premium_9 (by decide) ?_
    refine lv_bipush (v := 60) (pc := 10) E.1 E.2.1 dX8_premium_10 (by decide) ?_
    obtain ⟨v4, g5, hf⟩ := x_bind hf
    refine x_callS0 (pc := 12) (As := [.int x2, .int 1, .int 60]) (rest := []) (st1 := [.int v4]) E hw hl (c_X8_in l G  x2 1 60 g5) xs_X8_84 xd_X8_in rfl rfl ⟨Nat.le_of_ble_eq_true rfl, Nat.le_of_ble_eq_true rfl⟩ rfl rfl (Nat.le_of_ble_eq_true rfl) rfl dX8_premium_12 (fun H locs hw => ?_)
    refine lv_if_ne (tgt := 20) (pc := 15) E.1 E.2.1 dX8_premium_15 (by decide) (fun q6 => ?_) (fun q6 => ?_)
    · have hf := x_neg q6 hf
      refine lv_aload_n (pc := 20) E.1 E.2.1 dX8_premium_20 rfl (lv_at hl 0 rfl) ?_
      refine lv_iload_n (pc := 21) E.1 E.2.1 dX8_premium_21 rfl (lv_at hl 1 rfl) ?_
      obtain ⟨v7, g8, hf⟩ := x_bind hf
      refine x_callVA (pc := 22) (As := [.int x1]) (rest := []) (st1 := [.int v7]) (ws' := (cells8 G ad s)) E hw hl (c_X8_isRated l G ad s x1 g8) xv_X8_236 xd_X8_isRated rfl rfl ⟨Nat.le_of_ble_eq_true rfl, Nat.le_of_ble_eq_true rfl⟩ (q0 := 0) rfl rfl rfl rfl (Nat.le_of_ble_eq_true rfl) rfl rfl dX8_premium_22 (fun H locs hw => ?_)
      refine lv_if_eq (tgt := 41) (pc := 25) E.1 E.2.1 dX8_premium_25 (by decide) (fun q9 => ?_) (fun q9 => ?_)
      · have hf := x_pos q9 hf
        refine lv_bipush (v := (-2)) (pc := 41) E.1 E.2.1 dX8_premium_41 (by decide) ?_
        obtain rfl := Option.some.inj hf
        exact x_reti (pc := 43) E hr hk hw dX8_premium_43
      · have hf := x_neg q9 hf
        refine lv_aload_n (pc := 28) E.1 E.2.1 dX8_premium_28 rfl (lv_at hl 0 rfl) ?_
        refine lv_iload_n (pc := 29) E.1 E.2.1 dX8_premium_29 rfl (lv_at hl 1 rfl) ?_
        obtain ⟨v10, g11, hf⟩ := x_bind hf
        refine x_callVA (pc := 30) (As := [.int x1]) (rest := []) (st1 := [.int v10.1]) (ws' := (cells8 G ad v10.2)) E hw hl (c_X8_ratedNow l G ad s x1 g11) xv_X8_239 xd_X8_ratedNow rfl rfl ⟨Nat.le_of_ble_eq_true rfl, Nat.le_of_ble_eq_true rfl⟩ (q0 := 0) rfl rfl rfl rfl (Nat.le_of_ble_eq_true rfl) rfl rfl dX8_premium_30 (fun H locs hw => ?_)
        refine lv_iload_n (pc := 33) E.1 E.2.1 dX8_premium_33 rfl (lv_at hl 2 rfl) ?_
        refine lv_imul (pc := 34) E.1 E.2.1 dX8_premium_34 ?_
        refine lv_bipush (v := 12) (pc := 35) E.1 E.2.1 dX8_premium_35 (by decide) ?_
        refine lv_idiv (pc := 37) E.1 E.2.1 dX8_premium_37 (by decide) ?_
        refine lv_goto (tgt := 43) (pc := 38) E.1 E.2.1 dX8_premium_38 (by decide) ?_
        obtain rfl := Option.some.inj hf
        exact x_reti (pc := 43) E hr hk hw dX8_premium_43
    · have hf := x_pos q6 hf
      refine lv_iconst (v := (-1)) (pc := 18) E.1 E.2.1 dX8_premium_18 (by decide) ?_
      obtain rfl := Option.some.inj hf
      exact x_reti (pc := 19) E hr hk hw dX8_premium_19
set_option maxHeartbeats 4000000 in
set_option maxRecDepth 100000 in
theorem c_X8_premium (l : Launch) (G : xG) (ad : Nat → Nat) (s : S8) (x1 : Int32) (x2 : Int32) {z : Int32 × S8} (hf : f_X8_premium s x1 x2 = some z) : xC l yX8_premium cX8_premium 3 (some .int) (rm_X8_premium) G [.ref (ad 0), .int x1, .int x2] (cells8 G ad s) (some (.int z.1)) (cells8 G ad z.2) :=
  x_met (by decide) (Nat.le_of_ble_eq_true rfl) (fun p e sS m below meth c E hr hk ls hl hw => w_X8_premium_p0 E hr hk s x1 x2 z hw hl hf)
set_option maxHeartbeats 4000000 in
set_option maxRecDepth 100000 in
theorem w_X8_sharedBy_p0 {p : Program} {l : Launch} {e : Env} {sS : State} {m : MethodId} {args : Array Value} {below : List Frame} {meth : Method} {c : Code} {G : xG} {W0 : va_W} {ad : Nat → Nat}   (E : xE p sS m args c cX8_sharedBy 3 RX8 G (x_in W0)) (hr : meth.sig.returnType = (some .int)) (hk : meth.locks = false)  : ∀ (s' : S8) (x1' : Int32) (x2' : Int32) (z : Int32 × S8) {H : Heap} {locs : List Loc} {ls : Array Slot}, xW G (x_in W0) sS.heap (cells8 G ad s') H locs → lv_has ls 3 [(0, .ref (ad 0)), (1, .int x1'), (2, .int x2')] → f_X8_sharedBy  s' x1' x2' = some z → W p l e (rm_X8_sharedBy) sS m args below meth c H locs 0 0 (MQ below (xQ G W0 (cells8 G ad z.2) (some (.int z.1))) args sS 0 0 (x_in W0)) (F0 m 0 ls []) := by
  intro s x1 x2 z H locs ls hw hl hf
  unfold f_X8_sharedBy at hf
  refine lv_aload_n (pc := 0) E.1 E.2.1 dX8_sharedBy_0 rfl (lv_at hl 0 rfl) ?_
  refine lv_aload_n (pc := 1) E.1 E.2.1 dX8_sharedBy_1 rfl (lv_at hl 0 rfl) ?_
  refine lv_iload_n (pc := 2) E.1 E.2.1 dX8_sharedBy_2 rfl (lv_at hl 1 rfl) ?_
  obtain ⟨v1, g2, hf⟩ := x_bind hf
  refine x_callVA (pc := 3) (As := [.int x1]) (rest := [.ref (ad 0)]) (st1 := [.int v1, .ref (ad 0)]) (ws' := (cells8 G ad s)) E hw hl (c_X8_classOf l G ad s x1 g2) xv_X8_125 xd_X8_classOf rfl rfl ⟨Nat.le_of_ble_eq_true rfl, Nat.le_of_ble_eq_true rfl⟩ (q0 := 0) rfl rfl rfl rfl (Nat.le_of_ble_eq_true rfl) rfl rfl dX8_sharedBy_3 (fun H locs hw => ?_)
  refine lv_iload_n (pc := 6) E.1 E.2.1 dX8_sharedBy_6 rfl (lv_at hl 2 rfl) ?_
  obtain ⟨v3, g4, hf⟩ := x_bind hf
  refine x_callVA (pc := 7) (As := [.int v1, .int x2]) (rest := []) (st1 := [.int v3.1]) (ws' := (cells8 G ad v3.2)) E hw hl (c_X8_shareOf l G ad s v1 x2 g4) xv_X8_212 xd_X8_shareOf rfl rfl ⟨Nat.le_of_ble_eq_true rfl, Nat.le_of_ble_eq_true rfl⟩ (q0 := 0) rfl rfl rfl rfl (Nat.le_of_ble_eq_true rfl) rfl rfl dX8_sharedBy_7 (fun H locs hw => ?_)
  obtain rfl := Option.some.inj hf
  exact x_reti (pc := 10) E hr hk hw dX8_sharedBy_10
set_option maxHeartbeats 4000000 in
set_option maxRecDepth 100000 in
theorem c_X8_sharedBy (l : Launch) (G : xG) (ad : Nat → Nat) (s : S8) (x1 : Int32) (x2 : Int32) {z : Int32 × S8} (hf : f_X8_sharedBy s x1 x2 = some z) : xC l yX8_sharedBy cX8_sharedBy 3 (some .int) (rm_X8_sharedBy) G [.ref (ad 0), .int x1, .int x2] (cells8 G ad s) (some (.int z.1)) (cells8 G ad z.2) :=
  x_met (by decide) (Nat.le_of_ble_eq_true rfl) (fun p e sS m below meth c E hr hk ls hl hw => w_X8_sharedBy_p0 E hr hk s x1 x2 z hw hl hf)
set_option maxHeartbeats 4000000 in
set_option maxRecDepth 100000 in
theorem w_X8_shareBy_p0 {p : Program} {l : Launch} {e : Env} {sS : State} {m : MethodId} {args : Array Value} {below : List Frame} {meth : Method} {c : Code} {G : xG} {W0 : va_W} {ad : Nat → Nat}   (E : xE p sS m args c cX8_shareBy 3 RX8 G (x_in W0)) (hr : meth.sig.returnType = (some .int)) (hk : meth.locks = false)  : ∀ (s' : S8) (x1' : Int32) (x2' : Int32) (z : Int32 × S8) {H : Heap} {locs : List Loc} {ls : Array Slot}, xW G (x_in W0) sS.heap (cells8 G ad s') H locs → lv_has ls 3 [(0, .ref (ad 0)), (1, .int x1'), (2, .int x2')] → f_X8_shareBy  s' x1' x2' = some z → W p l e (rm_X8_shareBy) sS m args below meth c H locs 0 0 (MQ below (xQ G W0 (cells8 G ad z.2) (some (.int z.1))) args sS 0 0 (x_in W0)) (F0 m 0 ls []) := by
  intro s x1 x2 z H locs ls hw hl hf
  unfold f_X8_shareBy at hf
  refine lv_aload_n (pc := 0) E.1 E.2.1 dX8_shareBy_0 rfl (lv_at hl 0 rfl) ?_
  refine lv_iload_n (pc := 1) E.1 E.2.1 dX8_shareBy_1 rfl (lv_at hl 1 rfl) ?_
  obtain ⟨v1, g2, hf⟩ := x_bind hf
  refine x_callVA (pc := 2) (As := [.int x1]) (rest := []) (st1 := [.int v1]) (ws' := (cells8 G ad s)) E hw hl (c_X8_isFleet l G ad s x1 g2) xv_X8_115 xd_X8_isFleet rfl rfl ⟨Nat.le_of_ble_eq_true rfl, Nat.le_of_ble_eq_true rfl⟩ (q0 := 0) rfl rfl rfl rfl (Nat.le_of_ble_eq_true rfl) rfl rfl dX8_shareBy_2 (fun H locs hw => ?_)
  refine lv_if_eq (tgt := 15) (pc := 5) E.1 E.2.1 dX8_shareBy_5 (by decide) (fun q3 => ?_) (fun q3 => ?_)
  · have hf := x_pos q3 hf
    refine lv_iconst (v := (-1)) (pc := 15) E.1 E.2.1 dX8_shareBy_15 (by decide) ?_
    obtain rfl := Option.some.inj hf
    exact x_reti (pc := 16) E hr hk hw dX8_shareBy_16
  · have hf := x_neg q3 hf
    refine lv_iload_n (pc := 8) E.1 E.2.1 dX8_shareBy_8 rfl (lv_at hl 2 rfl) ?_
    obtain ⟨v4, g5, hf⟩ := x_bind hf
    refine x_callS0 (pc := 9) (As := [.int x2]) (rest := []) (st1 := [.int v4]) E hw hl (c_X8_isAmount l G  x2 g5) xs_X8_141 xd_X8_isAmount rfl rfl ⟨Nat.le_of_ble_eq_true rfl, Nat.le_of_ble_eq_true rfl⟩ rfl rfl (Nat.le_of_ble_eq_true rfl) rfl dX8_shareBy_9 (fun H locs hw => ?_)
    refine lv_if_ne (tgt := 17) (pc := 12) E.1 E.2.1 dX8_shareBy_12 (by decide) (fun q6 => ?_) (fun q6 => ?_)
    · have hf := x_neg q6 hf
      refine lv_aload_n (pc := 17) E.1 E.2.1 dX8_shareBy_17 rfl (lv_at hl 0 rfl) ?_
      refine lv_iload_n (pc := 18) E.1 E.2.1 dX8_shareBy_18 rfl (lv_at hl 1 rfl) ?_
      obtain ⟨v7, g8, hf⟩ := x_bind hf
      refine x_callVA (pc := 19) (As := [.int x1]) (rest := []) (st1 := [.int v7]) (ws' := (cells8 G ad s)) E hw hl (c_X8_isRated l G ad s x1 g8) xv_X8_236 xd_X8_isRated rfl rfl ⟨Nat.le_of_ble_eq_true rfl, Nat.le_of_ble_eq_true rfl⟩ (q0 := 0) rfl rfl rfl rfl (Nat.le_of_ble_eq_true rfl) rfl rfl dX8_shareBy_19 (fun H locs hw => ?_)
      refine lv_if_ne (tgt := 28) (pc := 22) E.1 E.2.1 dX8_shareBy_22 (by decide) (fun q9 => ?_) (fun q9 => ?_)
      · have hf := x_neg q9 hf
        refine lv_aload_n (pc := 28) E.1 E.2.1 dX8_shareBy_28 rfl (lv_at hl 0 rfl) ?_
        obtain ⟨v10, g11, hf⟩ := x_bind hf
        refine x_callVA (pc := 29) (As := []) (rest := []) (st1 := []) (ws' := (cells8 G ad v10)) E hw hl (c_X8_works l G ad s g11) xv_X8_221 xd_X8_works rfl rfl ⟨Nat.le_of_ble_eq_true rfl, Nat.le_of_ble_eq_true rfl⟩ (q0 := 0) rfl rfl rfl rfl (Nat.le_of_ble_eq_true rfl) rfl rfl dX8_shareBy_29 (fun H locs hw => ?_)
        refine lv_aload_n (pc := 32) E.1 E.2.1 dX8_shareBy_32 rfl (lv_at hl 0 rfl) ?_
        refine lv_iload_n (pc := 33) E.1 E.2.1 dX8_shareBy_33 rfl (lv_at hl 1 rfl) ?_
        refine lv_iload_n (pc := 34) E.1 E.2.1 dX8_shareBy_34 rfl (lv_at hl 2 rfl) ?_
        obtain ⟨v12, g13, hf⟩ := x_bind hf
        refine x_callVA (pc := 35) (As := [.int x1, .int x2]) (rest := []) (st1 := [.int v12.1]) (ws' := (cells8 G ad v12.2)) E hw hl (c_X8_sharedBy l G ad v10 x1 x2 g13) xv_X8_253 xd_X8_sharedBy rfl rfl ⟨Nat.le_of_ble_eq_true rfl, Nat.le_of_ble_eq_true rfl⟩ (q0 := 0) rfl rfl rfl rfl (Nat.le_of_ble_eq_true rfl) rfl rfl dX8_shareBy_35 (fun H locs hw => ?_)
        obtain rfl := Option.some.inj hf
        exact x_reti (pc := 38) E hr hk hw dX8_shareBy_38
      · have hf := x_pos q9 hf
        refine lv_bipush (v := (-2)) (pc := 25) E.1 E.2.1 dX8_shareBy_25 (by decide) ?_
        obtain rfl := Option.some.inj hf
        exact x_reti (pc := 27) E hr hk hw dX8_shareBy_27
    · have hf := x_pos q6 hf
      refine lv_iconst (v := (-1)) (pc := 15) E.1 E.2.1 dX8_shareBy_15 (by decide) ?_
      obtain rfl := Option.some.inj hf
      exact x_reti (pc := 16) E hr hk hw dX8_shareBy_16
set_option maxHeartbeats 4000000 in
set_option maxRecDepth 100000 in
theorem c_X8_shareBy (l : Launch) (G : xG) (ad : Nat → Nat) (s : S8) (x1 : Int32) (x2 : Int32) {z : Int32 × S8} (hf : f_X8_shareBy s x1 x2 = some z) : xC l yX8_shareBy cX8_shareBy 3 (some .int) (rm_X8_shareBy) G [.ref (ad 0), .int x1, .int x2] (cells8 G ad s) (some (.int z.1)) (cells8 G ad z.2) :=
  x_met (by decide) (Nat.le_of_ble_eq_true rfl) (fun p e sS m below meth c E hr hk ls hl hw => w_X8_shareBy_p0 E hr hk s x1 x2 z hw hl hf)
set_option maxHeartbeats 4000000 in
set_option maxRecDepth 100000 in
theorem w_X8_yearsFor_p38 {p : Program} {l : Launch} {e : Env} {sS : State} {m : MethodId} {args : Array Value} {below : List Frame} {meth : Method} {c : Code} {G : xG} {W0 : va_W} {ad : Nat → Nat}  {k38 : S8 → Int32 → Int32 → Int32 → Option (Int32 × S8)} (E : xE p sS m args c cX8_yearsFor 4 RX8 G (x_in W0)) (hr : meth.sig.returnType = (some .int)) (hk : meth.locks = false) (hk38 : ∀ (s' : S8) (x1' : Int32) (x2' : Int32) (x3' : Int32) (z : Int32 × S8) {H : Heap} {locs : List Loc} {ls : Array Slot}, xW G (x_in W0) sS.heap (cells8 G ad s') H locs → lv_has ls 4 [(0, .ref (ad 0)), (1, .int x1'), (2, .int x2'), (3, .int x3')] → k38  s' x1' x2' x3' = some z → W p l e (rm_X8_yearsFor) sS m args below meth c H locs 0 0 (MQ below (xQ G W0 (cells8 G ad z.2) (some (.int z.1))) args sS 0 0 (x_in W0)) (F0 m 38 ls [])) : ∀ (s' : S8) (x1' : Int32) (x2' : Int32) (x3' : Int32) (z : Int32 × S8) {H : Heap} {locs : List Loc} {ls : Array Slot}, xW G (x_in W0) sS.heap (cells8 G ad s') H locs → lv_has ls 4 [(0, .ref (ad 0)), (1, .int x1'), (2, .int x2'), (3, .int x3')] → f_X8_yearsFor_p38 k38 s' x1' x2' x3' = some z → W p l e (rm_X8_yearsFor) sS m args below meth c H locs 0 0 (MQ below (xQ G W0 (cells8 G ad z.2) (some (.int z.1))) args sS 0 0 (x_in W0)) (F0 m 38 ls []) := by
  intro s x1 x2 x3 z H locs ls hw hl hf
  unfold f_X8_yearsFor_p38 at hf
  refine lv_iload_n (pc := 38) E.1 E.2.1 dX8_yearsFor_38 rfl (lv_at hl 3 rfl) ?_
  refine lv_bipush (v := 99) (pc := 39) E.1 E.2.1 dX8_yearsFor_39 (by decide) ?_
  refine lv_icmp_gt (tgt := 62) (pc := 41) E.1 E.2.1 dX8_yearsFor_41 (by decide) (fun q1 => ?_) (fun q1 => ?_)
  · have hf := x_pos q1 hf
    refine lv_bipush (v := (-2)) (pc := 62) E.1 E.2.1 dX8_yearsFor_62 (by decide) ?_
    obtain rfl := Option.some.inj hf
    exact x_reti (pc := 64) E hr hk hw dX8_yearsFor_64
  · have hf := x_neg q1 hf
    refine lv_aload_n (pc := 44) E.1 E.2.1 dX8_yearsFor_44 rfl (lv_at hl 0 rfl) ?_
    refine lv_iload_n (pc := 45) E.1 E.2.1 dX8_yearsFor_45 rfl (lv_at hl 1 rfl) ?_
    refine lv_iload_n (pc := 46) E.1 E.2.1 dX8_yearsFor_46 rfl (lv_at hl 3 rfl) ?_
    obtain ⟨v2, g3, hf⟩ := x_bind hf
    refine x_callVA (pc := 47) (As := [.int x1, .int x3]) (rest := []) (st1 := [.int v2.1]) (ws' := (cells8 G ad v2.2)) E hw hl (c_X8_sharedBy l G ad s x1 x3 g3) xv_X8_253 xd_X8_sharedBy rfl rfl ⟨Nat.le_of_ble_eq_true rfl, Nat.le_of_ble_eq_true rfl⟩ (q0 := 0) rfl rfl rfl rfl (Nat.le_of_ble_eq_true rfl) rfl rfl dX8_yearsFor_47 (fun H locs hw => ?_)
    refine lv_iload_n (pc := 50) E.1 E.2.1 dX8_yearsFor_50 rfl (lv_at hl 2 rfl) ?_
    refine lv_icmp_lt (tgt := 56) (pc := 51) E.1 E.2.1 dX8_yearsFor_51 (by decide) (fun q4 => ?_) (fun q4 => ?_)
    · have hf := x_pos q4 hf
      refine lv_iinc (v := (x3 + 1)) (lv' := [(3, .int (x3 + 1)), (0, .ref (ad 0)), (1, .int x1), (2, .int x2)]) (pc := 56) E.1 E.2.1 dX8_yearsFor_56 hl (k := 3) rfl rfl (by decide) rfl (fun ls hl => ?_)
      refine lv_goto (tgt := 38) (pc := 59) E.1 E.2.1 dX8_yearsFor_59 (by decide) ?_
      exact hk38 v2.2 x1 x2 (x3 + 1) z hw (lv_sub hl [1, 2, 3, 0] rfl) hf
    · have hf := x_neg q4 hf
      refine lv_iload_n (pc := 54) E.1 E.2.1 dX8_yearsFor_54 rfl (lv_at hl 3 rfl) ?_
      obtain rfl := Option.some.inj hf
      exact x_reti (pc := 55) E hr hk hw dX8_yearsFor_55
set_option maxHeartbeats 4000000 in
set_option maxRecDepth 100000 in
theorem wl_X8_yearsFor_p38 {p : Program} {l : Launch} {e : Env} {sS : State} {m : MethodId} {args : Array Value} {below : List Frame} {meth : Method} {c : Code} {G : xG} {W0 : va_W} {ad : Nat → Nat}   (E : xE p sS m args c cX8_yearsFor 4 RX8 G (x_in W0)) (hr : meth.sig.returnType = (some .int)) (hk : meth.locks = false)  : ∀ (s' : S8) (x1' : Int32) (x2' : Int32) (x3' : Int32) (z : Int32 × S8) {H : Heap} {locs : List Loc} {ls : Array Slot}, xW G (x_in W0) sS.heap (cells8 G ad s') H locs → lv_has ls 4 [(0, .ref (ad 0)), (1, .int x1'), (2, .int x2'), (3, .int x3')] → lp_X8_yearsFor_p38  s' x1' x2' x3' = some z → W p l e (rm_X8_yearsFor) sS m args below meth c H locs 0 0 (MQ below (xQ G W0 (cells8 G ad z.2) (some (.int z.1))) args sS 0 0 (x_in W0)) (F0 m 38 ls []) := by
  intro s x1 x2 x3 z H locs ls hw hl hf
  exact x_loop_W (P := fun (q : S8 × Int32 × Int32 × Int32) (z : Int32 × S8) => ∀ {H : Heap} {locs : List Loc} {ls : Array Slot}, xW G (x_in W0) sS.heap (cells8 G ad q.1) H locs → lv_has ls 4 [(0, .ref (ad 0)), (1, .int q.2.1), (2, .int q.2.2.1), (3, .int q.2.2.2)] → W p l e (rm_X8_yearsFor) sS m args below meth c H locs 0 0 (MQ below (xQ G W0 (cells8 G ad z.2) (some (.int z.1))) args sS 0 0 (x_in W0)) (F0 m 38 ls [])) (fun k hkk q z hf H locs ls hw hl => w_X8_yearsFor_p38 E hr hk  (fun s x1 x2 x3 z H locs ls hw hl hf => hkk (s, x1, x2, x3) z hf hw hl) q.1 q.2.1 q.2.2.1 q.2.2.2 z hw hl hf) FU (s, x1, x2, x3) z hf hw hl
set_option maxHeartbeats 4000000 in
set_option maxRecDepth 100000 in
theorem w_X8_yearsFor_p0 {p : Program} {l : Launch} {e : Env} {sS : State} {m : MethodId} {args : Array Value} {below : List Frame} {meth : Method} {c : Code} {G : xG} {W0 : va_W} {ad : Nat → Nat}   (E : xE p sS m args c cX8_yearsFor 4 RX8 G (x_in W0)) (hr : meth.sig.returnType = (some .int)) (hk : meth.locks = false)  : ∀ (s' : S8) (x1' : Int32) (x2' : Int32) (z : Int32 × S8) {H : Heap} {locs : List Loc} {ls : Array Slot}, xW G (x_in W0) sS.heap (cells8 G ad s') H locs → lv_has ls 4 [(0, .ref (ad 0)), (1, .int x1'), (2, .int x2')] → f_X8_yearsFor  s' x1' x2' = some z → W p l e (rm_X8_yearsFor) sS m args below meth c H locs 0 0 (MQ below (xQ G W0 (cells8 G ad z.2) (some (.int z.1))) args sS 0 0 (x_in W0)) (F0 m 0 ls []) := by
  intro s x1 x2 z H locs ls hw hl hf
  unfold f_X8_yearsFor at hf
  refine lv_aload_n (pc := 0) E.1 E.2.1 dX8_yearsFor_0 rfl (lv_at hl 0 rfl) ?_
  refine lv_iload_n (pc := 1) E.1 E.2.1 dX8_yearsFor_1 rfl (lv_at hl 1 rfl) ?_
  obtain ⟨v1, g2, hf⟩ := x_bind hf
  refine x_callVA (pc := 2) (As := [.int x1]) (rest := []) (st1 := [.int v1]) (ws' := (cells8 G ad s)) E hw hl (c_X8_isFleet l G ad s x1 g2) xv_X8_115 xd_X8_isFleet rfl rfl ⟨Nat.le_of_ble_eq_true rfl, Nat.le_of_ble_eq_true rfl⟩ (q0 := 0) rfl rfl rfl rfl (Nat.le_of_ble_eq_true rfl) rfl rfl dX8_yearsFor_2 (fun H locs hw => ?_)
  refine lv_if_eq (tgt := 19) (pc := 5) E.1 E.2.1 dX8_yearsFor_5 (by decide) (fun q3 => ?_) (fun q3 => ?_)
  · have hf := x_pos q3 hf
    refine lv_iconst (v := (-1)) (pc := 19) E.1 E.2.1 dX8_yearsFor_19 (by decide) ?_
    obtain rfl := Option.some.inj hf
    exact x_reti (pc := 20) E hr hk hw dX8_yearsFor_20
  · have hf := x_neg q3 hf
    refine lv_iload_n (pc := 8) E.1 E.2.1 dX8_yearsFor_8 rfl (lv_at hl 2 rfl) ?_
    refine lv_iconst (v := 1) (pc := 9) E.1 E.2.1 dX8_yearsFor_9 (by decide) ?_
    refine lv_sipush (v := 1000) (pc := 10) E.1 E.2.1 dX8_yearsFor_10 (by decide) ?_
    obtain ⟨v4, g5, hf⟩ := x_bind hf
    refine x_callS0 (pc := 13) (As := [.int x2, .int 1, .int 1000]) (rest := []) (st1 := [.int v4]) E hw hl (c_X8_in l G  x2 1 1000 g5) xs_X8_84 xd_X8_in rfl rfl ⟨Nat.le_of_ble_eq_true rfl, Nat.le_of_ble_eq_true rfl⟩ rfl rfl (Nat.le_of_ble_eq_true rfl) rfl dX8_yearsFor_13 (fun H locs hw => ?_)
    refine lv_if_ne (tgt := 21) (pc := 16) E.1 E.2.1 dX8_yearsFor_16 (by decide) (fun q6 => ?_) (fun q6 => ?_)
    · have hf := x_neg q6 hf
      refine lv_aload_n (pc := 21) E.1 E.2.1 dX8_yearsFor_21 rfl (lv_at hl 0 rfl) ?_
      refine lv_iload_n (pc := 22) E.1 E.2.1 dX8_yearsFor_22 rfl (lv_at hl 1 rfl) ?_
      obtain ⟨v7, g8, hf⟩ := x_bind hf
      refine x_callVA (pc := 23) (As := [.int x1]) (rest := []) (st1 := [.int v7]) (ws' := (cells8 G ad s)) E hw hl (c_X8_isRated l G ad s x1 g8) xv_X8_236 xd_X8_isRated rfl rfl ⟨Nat.le_of_ble_eq_true rfl, Nat.le_of_ble_eq_true rfl⟩ (q0 := 0) rfl rfl rfl rfl (Nat.le_of_ble_eq_true rfl) rfl rfl dX8_yearsFor_23 (fun H locs hw => ?_)
      refine lv_if_ne (tgt := 32) (pc := 26) E.1 E.2.1 dX8_yearsFor_26 (by decide) (fun q9 => ?_) (fun q9 => ?_)
      · have hf := x_neg q9 hf
        refine lv_aload_n (pc := 32) E.1 E.2.1 dX8_yearsFor_32 rfl (lv_at hl 0 rfl) ?_
        obtain ⟨v10, g11, hf⟩ := x_bind hf
        refine x_callVA (pc := 33) (As := []) (rest := []) (st1 := []) (ws' := (cells8 G ad v10)) E hw hl (c_X8_works l G ad s g11) xv_X8_221 xd_X8_works rfl rfl ⟨Nat.le_of_ble_eq_true rfl, Nat.le_of_ble_eq_true rfl⟩ (q0 := 0) rfl rfl rfl rfl (Nat.le_of_ble_eq_true rfl) rfl rfl dX8_yearsFor_33 (fun H locs hw => ?_)
        refine lv_iconst (v := 1) (pc := 36) E.1 E.2.1 dX8_yearsFor_36 (by decide) ?_
        refine lv_istore_n (lv' := [(3, .int 1), (0, .ref (ad 0)), (1, .int x1), (2, .int x2)]) (pc := 37) E.1 E.2.1 dX8_yearsFor_37 rfl hl (by decide) rfl (fun ls hl => ?_)
        exact wl_X8_yearsFor_p38 E hr hk  v10 x1 x2 1 z hw (lv_sub hl [1, 2, 3, 0] rfl) hf
      · have hf := x_pos q9 hf
        refine lv_bipush (v := (-2)) (pc := 29) E.1 E.2.1 dX8_yearsFor_29 (by decide) ?_
        obtain rfl := Option.some.inj hf
        exact x_reti (pc := 31) E hr hk hw dX8_yearsFor_31
    · have hf := x_pos q6 hf
      refine lv_iconst (v := (-1)) (pc := 19) E.1 E.2.1 dX8_yearsFor_19 (by decide) ?_
      obtain rfl := Option.some.inj hf
      exact x_reti (pc := 20) E hr hk hw dX8_yearsFor_20
set_option maxHeartbeats 4000000 in
set_option maxRecDepth 100000 in
theorem c_X8_yearsFor (l : Launch) (G : xG) (ad : Nat → Nat) (s : S8) (x1 : Int32) (x2 : Int32) {z : Int32 × S8} (hf : f_X8_yearsFor s x1 x2 = some z) : xC l yX8_yearsFor cX8_yearsFor 4 (some .int) (rm_X8_yearsFor) G [.ref (ad 0), .int x1, .int x2] (cells8 G ad s) (some (.int z.1)) (cells8 G ad z.2) :=
  x_met (by decide) (Nat.le_of_ble_eq_true rfl) (fun p e sS m below meth c E hr hk ls hl hw => w_X8_yearsFor_p0 E hr hk s x1 x2 z hw hl hf)
set_option maxHeartbeats 4000000 in
set_option maxRecDepth 100000 in
theorem w_X8_ratedBy_p0 {p : Program} {l : Launch} {e : Env} {sS : State} {m : MethodId} {args : Array Value} {below : List Frame} {meth : Method} {c : Code} {G : xG} {W0 : va_W} {ad : Nat → Nat}   (E : xE p sS m args c cX8_ratedBy 6 RX8 G (x_in W0)) (hr : meth.sig.returnType = (some .int)) (hk : meth.locks = false)  : ∀ (s' : S8) (x1' : Int32) (x2' : Int32) (x3' : Int32) (z : Int32 × S8) {H : Heap} {locs : List Loc} {ls : Array Slot}, xW G (x_in W0) sS.heap (cells8 G ad s') H locs → lv_has ls 6 [(0, .ref (ad 0)), (1, .int x1'), (2, .int x2'), (3, .int x3')] → f_X8_ratedBy  s' x1' x2' x3' = some z → W p l e (rm_X8_ratedBy) sS m args below meth c H locs 0 0 (MQ below (xQ G W0 (cells8 G ad z.2) (some (.int z.1))) args sS 0 0 (x_in W0)) (F0 m 0 ls []) := by
  intro s x1 x2 x3 z H locs ls hw hl hf
  unfold f_X8_ratedBy at hf
  refine lv_aload_n (pc := 0) E.1 E.2.1 dX8_ratedBy_0 rfl (lv_at hl 0 rfl) ?_
  refine xg_X8_13 (pc := 1) (v := .ref (ad 1)) E hw 0 rfl rfl dX8_ratedBy_1 ?_
  refine lv_iload_n (pc := 4) E.1 E.2.1 dX8_ratedBy_4 rfl (lv_at hl 2 rfl) ?_
  obtain ⟨v2, g1, hf⟩ := x_bind hf
  refine x_iald (pc := 5) E hw 1 rfl g1 dX8_ratedBy_5 ?_
  refine lv_istore (lv' := [(4, .int v2), (0, .ref (ad 0)), (1, .int x1), (2, .int x2), (3, .int x3)]) (pc := 6) E.1 E.2.1 dX8_ratedBy_6 hl (by decide) rfl (fun ls hl => ?_)
  refine lv_aload_n (pc := 8) E.1 E.2.1 dX8_ratedBy_8 rfl (lv_at hl 1 rfl) ?_
  refine xg_X8_13 (pc := 9) (v := .ref (ad 1)) E hw 0 rfl rfl dX8_ratedBy_9 ?_
  refine lv_iload_n (pc := 12) E.1 E.2.1 dX8_ratedBy_12 rfl (lv_at hl 3 rfl) ?_
  refine lv_iload_n (pc := 13) E.1 E.2.1 dX8_ratedBy_13 rfl (lv_at hl 4 rfl) ?_
  obtain ⟨w4, g3, hf⟩ := x_bind hf
  refine x_iast (pc := 14) (ws' := (cells8 G ad (u8_now s w4))) E hw 1 rfl g3 rfl dX8_ratedBy_14 (fun H locs hw => ?_)
  refine lv_aload_n (pc := 15) E.1 E.2.1 dX8_ratedBy_15 rfl (lv_at hl 1 rfl) ?_
  refine lv_iload_n (pc := 16) E.1 E.2.1 dX8_ratedBy_16 rfl (lv_at hl 2 rfl) ?_
  obtain ⟨v5, g6, hf⟩ := x_bind hf
  refine x_callVA (pc := 17) (As := [.int x1]) (rest := []) (st1 := [.int v5.1]) (ws' := (cells8 G ad v5.2)) E hw hl (c_X8_ratedNow l G ad (u8_now s w4) x1 g6) xv_X8_239 xd_X8_ratedNow rfl rfl ⟨Nat.le_of_ble_eq_true rfl, Nat.le_of_ble_eq_true rfl⟩ (q0 := 0) rfl rfl rfl rfl (Nat.le_of_ble_eq_true rfl) rfl rfl dX8_ratedBy_17 (fun H locs hw => ?_)
  refine lv_istore (lv' := [(5, .int v5.1), (4, .int v2), (0, .ref (ad 0)), (1, .int x1), (2, .int x2), (3, .int x3)]) (pc := 20) E.1 E.2.1 dX8_ratedBy_20 hl (by decide) rfl (fun ls hl => ?_)
  refine lv_aload_n (pc := 22) E.1 E.2.1 dX8_ratedBy_22 rfl (lv_at hl 2 rfl) ?_
  refine xg_X8_13 (pc := 23) (v := .ref (ad 1)) E hw 0 rfl rfl dX8_ratedBy_23 ?_
  refine lv_iload_n (pc := 26) E.1 E.2.1 dX8_ratedBy_26 rfl (lv_at hl 4 rfl) ?_
  refine lv_iload (pc := 27) E.1 E.2.1 dX8_ratedBy_27 (lv_at hl 1 rfl) ?_
  obtain ⟨w8, g7, hf⟩ := x_bind hf
  refine x_iast (pc := 29) (ws' := (cells8 G ad (u8_now v5.2 w8))) E hw 1 rfl g7 rfl dX8_ratedBy_29 (fun H locs hw => ?_)
  refine lv_iload (pc := 30) E.1 E.2.1 dX8_ratedBy_30 (lv_at hl 0 rfl) ?_
  obtain rfl := Option.some.inj hf
  exact x_reti (pc := 32) E hr hk hw dX8_ratedBy_32
set_option maxHeartbeats 4000000 in
set_option maxRecDepth 100000 in
theorem c_X8_ratedBy (l : Launch) (G : xG) (ad : Nat → Nat) (s : S8) (x1 : Int32) (x2 : Int32) (x3 : Int32) {z : Int32 × S8} (hf : f_X8_ratedBy s x1 x2 x3 = some z) : xC l yX8_ratedBy cX8_ratedBy 6 (some .int) (rm_X8_ratedBy) G [.ref (ad 0), .int x1, .int x2, .int x3] (cells8 G ad s) (some (.int z.1)) (cells8 G ad z.2) :=
  x_met (by decide) (Nat.le_of_ble_eq_true rfl) (fun p e sS m below meth c E hr hk ls hl hw => w_X8_ratedBy_p0 E hr hk s x1 x2 x3 z hw hl hf)
set_option maxHeartbeats 4000000 in
set_option maxRecDepth 100000 in
theorem w_X8_inClass_p0 {p : Program} {l : Launch} {e : Env} {sS : State} {m : MethodId} {args : Array Value} {below : List Frame} {meth : Method} {c : Code} {G : xG} {W0 : va_W} {ad : Nat → Nat}   (E : xE p sS m args c cX8_inClass 3 RX8 G (x_in W0)) (hr : meth.sig.returnType = (some .int)) (hk : meth.locks = false)  : ∀ (s' : S8) (x1' : Int32) (x2' : Int32) (z : Int32 × S8) {H : Heap} {locs : List Loc} {ls : Array Slot}, xW G (x_in W0) sS.heap (cells8 G ad s') H locs → lv_has ls 3 [(0, .ref (ad 0)), (1, .int x1'), (2, .int x2')] → f_X8_inClass  s' x1' x2' = some z → W p l e (rm_X8_inClass) sS m args below meth c H locs 0 0 (MQ below (xQ G W0 (cells8 G ad z.2) (some (.int z.1))) args sS 0 0 (x_in W0)) (F0 m 0 ls []) := by
  intro s x1 x2 z H locs ls hw hl hf
  unfold f_X8_inClass at hf
  refine lv_aload_n (pc := 0) E.1 E.2.1 dX8_inClass_0 rfl (lv_at hl 0 rfl) ?_
  refine lv_iload_n (pc := 1) E.1 E.2.1 dX8_inClass_1 rfl (lv_at hl 1 rfl) ?_
  obtain ⟨v1, g2, hf⟩ := x_bind hf
  refine x_callVA (pc := 2) (As := [.int x1]) (rest := []) (st1 := [.int v1]) (ws' := (cells8 G ad s)) E hw hl (c_X8_isFleet l G ad s x1 g2) xv_X8_115 xd_X8_isFleet rfl rfl ⟨Nat.le_of_ble_eq_true rfl, Nat.le_of_ble_eq_true rfl⟩ (q0 := 0) rfl rfl rfl rfl (Nat.le_of_ble_eq_true rfl) rfl rfl dX8_inClass_2 (fun H locs hw => ?_)
  refine lv_if_eq (tgt := 15) (pc := 5) E.1 E.2.1 dX8_inClass_5 (by decide) (fun q3 => ?_) (fun q3 => ?_)
  · have hf := x_pos q3 hf
    refine lv_iconst (v := (-1)) (pc := 15) E.1 E.2.1 dX8_inClass_15 (by decide) ?_
    obtain rfl := Option.some.inj hf
    exact x_reti (pc := 16) E hr hk hw dX8_inClass_16
  · have hf := x_neg q3 hf
    refine lv_iload_n (pc := 8) E.1 E.2.1 dX8_inClass_8 rfl (lv_at hl 2 rfl) ?_
    obtain ⟨v4, g5, hf⟩ := x_bind hf
    refine x_callS0 (pc := 9) (As := [.int x2]) (rest := []) (st1 := [.int v4]) E hw hl (c_X8_isClass l G  x2 g5) xs_X8_108 xd_X8_isClass rfl rfl ⟨Nat.le_of_ble_eq_true rfl, Nat.le_of_ble_eq_true rfl⟩ rfl rfl (Nat.le_of_ble_eq_true rfl) rfl dX8_inClass_9 (fun H locs hw => ?_)
    refine lv_if_ne (tgt := 17) (pc := 12) E.1 E.2.1 dX8_inClass_12 (by decide) (fun q6 => ?_) (fun q6 => ?_)
    · have hf := x_neg q6 hf
      refine lv_aload_n (pc := 17) E.1 E.2.1 dX8_inClass_17 rfl (lv_at hl 0 rfl) ?_
      refine lv_iload_n (pc := 18) E.1 E.2.1 dX8_inClass_18 rfl (lv_at hl 1 rfl) ?_
      obtain ⟨v7, g8, hf⟩ := x_bind hf
      refine x_callVA (pc := 19) (As := [.int x1]) (rest := []) (st1 := [.int v7]) (ws' := (cells8 G ad s)) E hw hl (c_X8_isRated l G ad s x1 g8) xv_X8_236 xd_X8_isRated rfl rfl ⟨Nat.le_of_ble_eq_true rfl, Nat.le_of_ble_eq_true rfl⟩ (q0 := 0) rfl rfl rfl rfl (Nat.le_of_ble_eq_true rfl) rfl rfl dX8_inClass_19 (fun H locs hw => ?_)
      refine lv_if_eq (tgt := 39) (pc := 22) E.1 E.2.1 dX8_inClass_22 (by decide) (fun q9 => ?_) (fun q9 => ?_)
      · have hf := x_pos q9 hf
        refine lv_bipush (v := (-2)) (pc := 39) E.1 E.2.1 dX8_inClass_39 (by decide) ?_
        obtain rfl := Option.some.inj hf
        exact x_reti (pc := 41) E hr hk hw dX8_inClass_41
      · have hf := x_neg q9 hf
        refine lv_aload_n (pc := 25) E.1 E.2.1 dX8_inClass_25 rfl (lv_at hl 0 rfl) ?_
        refine lv_iload_n (pc := 26) E.1 E.2.1 dX8_inClass_26 rfl (lv_at hl 1 rfl) ?_
        refine lv_iconst (v := 4) (pc := 27) E.1 E.2.1 dX8_inClass_27 (by decide) ?_
        refine lv_iconst (v := 2) (pc := 28) E.1 E.2.1 dX8_inClass_28 (by decide) ?_
        refine lv_iload_n (pc := 29) E.1 E.2.1 dX8_inClass_29 rfl (lv_at hl 1 rfl) ?_
        refine lv_imul (pc := 30) E.1 E.2.1 dX8_inClass_30 ?_
        refine lv_iadd (pc := 31) E.1 E.2.1 dX8_inClass_31 ?_
        refine lv_iload_n (pc := 32) E.1 E.2.1 dX8_inClass_32 rfl (lv_at hl 2 rfl) ?_
        obtain ⟨v10, g11, hf⟩ := x_bind hf
        refine x_callVA (pc := 33) (As := [.int x1, .int (4 + (2 * x1)), .int x2]) (rest := []) (st1 := [.int v10.1]) (ws' := (cells8 G ad v10.2)) E hw hl (c_X8_ratedBy l G ad s x1 (4 + (2 * x1)) x2 g11) xv_X8_256 xd_X8_ratedBy rfl rfl ⟨Nat.le_of_ble_eq_true rfl, Nat.le_of_ble_eq_true rfl⟩ (q0 := 0) rfl rfl rfl rfl (Nat.le_of_ble_eq_true rfl) rfl rfl dX8_inClass_33 (fun H locs hw => ?_)
        refine lv_goto (tgt := 41) (pc := 36) E.1 E.2.1 dX8_inClass_36 (by decide) ?_
        obtain rfl := Option.some.inj hf
        exact x_reti (pc := 41) E hr hk hw dX8_inClass_41
    · have hf := x_pos q6 hf
      refine lv_iconst (v := (-1)) (pc := 15) E.1 E.2.1 dX8_inClass_15 (by decide) ?_
      obtain rfl := Option.some.inj hf
      exact x_reti (pc := 16) E hr hk hw dX8_inClass_16
set_option maxHeartbeats 4000000 in
set_option maxRecDepth 100000 in
theorem c_X8_inClass (l : Launch) (G : xG) (ad : Nat → Nat) (s : S8) (x1 : Int32) (x2 : Int32) {z : Int32 × S8} (hf : f_X8_inClass s x1 x2 = some z) : xC l yX8_inClass cX8_inClass 3 (some .int) (rm_X8_inClass) G [.ref (ad 0), .int x1, .int x2] (cells8 G ad s) (some (.int z.1)) (cells8 G ad z.2) :=
  x_met (by decide) (Nat.le_of_ble_eq_true rfl) (fun p e sS m below meth c E hr hk ls hl hw => w_X8_inClass_p0 E hr hk s x1 x2 z hw hl hf)
set_option maxHeartbeats 4000000 in
set_option maxRecDepth 100000 in
theorem w_X8_bestClass_p38 {p : Program} {l : Launch} {e : Env} {sS : State} {m : MethodId} {args : Array Value} {below : List Frame} {meth : Method} {c : Code} {G : xG} {W0 : va_W} {ad : Nat → Nat}  {k38 : S8 → Int32 → Int32 → Int32 → Int32 → Option (Int32 × S8)} (E : xE p sS m args c cX8_bestClass 6 RX8 G (x_in W0)) (hr : meth.sig.returnType = (some .int)) (hk : meth.locks = false) (hk38 : ∀ (s' : S8) (x1' : Int32) (x2' : Int32) (x3' : Int32) (x4' : Int32) (z : Int32 × S8) {H : Heap} {locs : List Loc} {ls : Array Slot}, xW G (x_in W0) sS.heap (cells8 G ad s') H locs → lv_has ls 6 [(0, .ref (ad 0)), (1, .int x1'), (2, .int x2'), (3, .int x3'), (4, .int x4')] → k38  s' x1' x2' x3' x4' = some z → W p l e (rm_X8_bestClass) sS m args below meth c H locs 0 0 (MQ below (xQ G W0 (cells8 G ad z.2) (some (.int z.1))) args sS 0 0 (x_in W0)) (F0 m 38 ls [])) : ∀ (s' : S8) (x1' : Int32) (x2' : Int32) (x3' : Int32) (x4' : Int32) (z : Int32 × S8) {H : Heap} {locs : List Loc} {ls : Array Slot}, xW G (x_in W0) sS.heap (cells8 G ad s') H locs → lv_has ls 6 [(0, .ref (ad 0)), (1, .int x1'), (2, .int x2'), (3, .int x3'), (4, .int x4')] → f_X8_bestClass_p38 k38 s' x1' x2' x3' x4' = some z → W p l e (rm_X8_bestClass) sS m args below meth c H locs 0 0 (MQ below (xQ G W0 (cells8 G ad z.2) (some (.int z.1))) args sS 0 0 (x_in W0)) (F0 m 38 ls []) := by
  intro s x1 x2 x3 x4 z H locs ls hw hl hf
  unfold f_X8_bestClass_p38 at hf
  refine lv_iload (pc := 38) E.1 E.2.1 dX8_bestClass_38 (lv_at hl 4 rfl) ?_
  refine lv_iconst (v := 3) (pc := 40) E.1 E.2.1 dX8_bestClass_40 (by decide) ?_
  refine lv_icmp_ge (tgt := 79) (pc := 41) E.1 E.2.1 dX8_bestClass_41 (by decide) (fun q1 => ?_) (fun q1 => ?_)
  · have hf := x_pos q1 hf
    refine lv_iload_n (pc := 79) E.1 E.2.1 dX8_bestClass_79 rfl (lv_at hl 2 rfl) ?_
    obtain rfl := Option.some.inj hf
    exact x_reti (pc := 80) E hr hk hw dX8_bestClass_80
  · have hf := x_neg q1 hf
    refine lv_aload_n (pc := 44) E.1 E.2.1 dX8_bestClass_44 rfl (lv_at hl 0 rfl) ?_
    refine lv_iload_n (pc := 45) E.1 E.2.1 dX8_bestClass_45 rfl (lv_at hl 1 rfl) ?_
    refine lv_iconst (v := 4) (pc := 46) E.1 E.2.1 dX8_bestClass_46 (by decide) ?_
    refine lv_iconst (v := 2) (pc := 47) E.1 E.2.1 dX8_bestClass_47 (by decide) ?_
    refine lv_iload_n (pc := 48) E.1 E.2.1 dX8_bestClass_48 rfl (lv_at hl 1 rfl) ?_
    refine lv_imul (pc := 49) E.1 E.2.1 dX8_bestClass_49 ?_
    refine lv_iadd (pc := 50) E.1 E.2.1 dX8_bestClass_50 ?_
    refine lv_iload (pc := 51) E.1 E.2.1 dX8_bestClass_51 (lv_at hl 4 rfl) ?_
    obtain ⟨v2, g3, hf⟩ := x_bind hf
    refine x_callVA (pc := 53) (As := [.int x1, .int (4 + (2 * x1)), .int x4]) (rest := []) (st1 := [.int v2.1]) (ws' := (cells8 G ad v2.2)) E hw hl (c_X8_ratedBy l G ad s x1 (4 + (2 * x1)) x4 g3) xv_X8_256 xd_X8_ratedBy rfl rfl ⟨Nat.le_of_ble_eq_true rfl, Nat.le_of_ble_eq_true rfl⟩ (q0 := 0) rfl rfl rfl rfl (Nat.le_of_ble_eq_true rfl) rfl rfl dX8_bestClass_53 (fun H locs hw => ?_)
    refine lv_istore (lv' := [(5, .int v2.1), (0, .ref (ad 0)), (1, .int x1), (2, .int x2), (3, .int x3), (4, .int x4)]) (pc := 56) E.1 E.2.1 dX8_bestClass_56 hl (by decide) rfl (fun ls hl => ?_)
    refine lv_iload (pc := 58) E.1 E.2.1 dX8_bestClass_58 (lv_at hl 0 rfl) ?_
    refine lv_iload_n (pc := 60) E.1 E.2.1 dX8_bestClass_60 rfl (lv_at hl 4 rfl) ?_
    refine lv_icmp_lt (tgt := 67) (pc := 61) E.1 E.2.1 dX8_bestClass_61 (by decide) (fun q4 => ?_) (fun q4 => ?_)
    · have hf := x_pos q4 hf
      refine lv_iload (pc := 67) E.1 E.2.1 dX8_bestClass_67 (lv_at hl 0 rfl) ?_
      refine lv_istore_n (lv' := [(3, .int v2.1), (5, .int v2.1), (0, .ref (ad 0)), (1, .int x1), (2, .int x2), (4, .int x4)]) (pc := 69) E.1 E.2.1 dX8_bestClass_69 rfl hl (by decide) rfl (fun ls hl => ?_)
      refine lv_iload (pc := 70) E.1 E.2.1 dX8_bestClass_70 (lv_at hl 5 rfl) ?_
      refine lv_istore_n (lv' := [(2, .int x4), (3, .int v2.1), (5, .int v2.1), (0, .ref (ad 0)), (1, .int x1), (4, .int x4)]) (pc := 72) E.1 E.2.1 dX8_bestClass_72 rfl hl (by decide) rfl (fun ls hl => ?_)
      refine lv_iinc (v := (x4 + 1)) (lv' := [(4, .int (x4 + 1)), (2, .int x4), (3, .int v2.1), (5, .int v2.1), (0, .ref (ad 0)), (1, .int x1)]) (pc := 73) E.1 E.2.1 dX8_bestClass_73 hl (k := 5) rfl rfl (by decide) rfl (fun ls hl => ?_)
      refine lv_goto (tgt := 38) (pc := 76) E.1 E.2.1 dX8_bestClass_76 (by decide) ?_
      exact hk38 v2.2 x1 x4 v2.1 (x4 + 1) z hw (lv_sub hl [4, 5, 1, 2, 0] rfl) hf
    · have hf := x_neg q4 hf
      refine lv_goto (tgt := 73) (pc := 64) E.1 E.2.1 dX8_bestClass_64 (by decide) ?_
      refine lv_iinc (v := (x4 + 1)) (lv' := [(4, .int (x4 + 1)), (5, .int v2.1), (0, .ref (ad 0)), (1, .int x1), (2, .int x2), (3, .int x3)]) (pc := 73) E.1 E.2.1 dX8_bestClass_73 hl (k := 5) rfl rfl (by decide) rfl (fun ls hl => ?_)
      refine lv_goto (tgt := 38) (pc := 76) E.1 E.2.1 dX8_bestClass_76 (by decide) ?_
      exact hk38 v2.2 x1 x2 x3 (x4 + 1) z hw (lv_sub hl [2, 3, 4, 5, 0] rfl) hf
set_option maxHeartbeats 4000000 in
set_option maxRecDepth 100000 in
theorem wl_X8_bestClass_p38 {p : Program} {l : Launch} {e : Env} {sS : State} {m : MethodId} {args : Array Value} {below : List Frame} {meth : Method} {c : Code} {G : xG} {W0 : va_W} {ad : Nat → Nat}   (E : xE p sS m args c cX8_bestClass 6 RX8 G (x_in W0)) (hr : meth.sig.returnType = (some .int)) (hk : meth.locks = false)  : ∀ (s' : S8) (x1' : Int32) (x2' : Int32) (x3' : Int32) (x4' : Int32) (z : Int32 × S8) {H : Heap} {locs : List Loc} {ls : Array Slot}, xW G (x_in W0) sS.heap (cells8 G ad s') H locs → lv_has ls 6 [(0, .ref (ad 0)), (1, .int x1'), (2, .int x2'), (3, .int x3'), (4, .int x4')] → lp_X8_bestClass_p38  s' x1' x2' x3' x4' = some z → W p l e (rm_X8_bestClass) sS m args below meth c H locs 0 0 (MQ below (xQ G W0 (cells8 G ad z.2) (some (.int z.1))) args sS 0 0 (x_in W0)) (F0 m 38 ls []) := by
  intro s x1 x2 x3 x4 z H locs ls hw hl hf
  exact x_loop_W (P := fun (q : S8 × Int32 × Int32 × Int32 × Int32) (z : Int32 × S8) => ∀ {H : Heap} {locs : List Loc} {ls : Array Slot}, xW G (x_in W0) sS.heap (cells8 G ad q.1) H locs → lv_has ls 6 [(0, .ref (ad 0)), (1, .int q.2.1), (2, .int q.2.2.1), (3, .int q.2.2.2.1), (4, .int q.2.2.2.2)] → W p l e (rm_X8_bestClass) sS m args below meth c H locs 0 0 (MQ below (xQ G W0 (cells8 G ad z.2) (some (.int z.1))) args sS 0 0 (x_in W0)) (F0 m 38 ls [])) (fun k hkk q z hf H locs ls hw hl => w_X8_bestClass_p38 E hr hk  (fun s x1 x2 x3 x4 z H locs ls hw hl hf => hkk (s, x1, x2, x3, x4) z hf hw hl) q.1 q.2.1 q.2.2.1 q.2.2.2.1 q.2.2.2.2 z hw hl hf) FU (s, x1, x2, x3, x4) z hf hw hl
set_option maxHeartbeats 4000000 in
set_option maxRecDepth 100000 in
theorem w_X8_bestClass_p0 {p : Program} {l : Launch} {e : Env} {sS : State} {m : MethodId} {args : Array Value} {below : List Frame} {meth : Method} {c : Code} {G : xG} {W0 : va_W} {ad : Nat → Nat}   (E : xE p sS m args c cX8_bestClass 6 RX8 G (x_in W0)) (hr : meth.sig.returnType = (some .int)) (hk : meth.locks = false)  : ∀ (s' : S8) (x1' : Int32) (z : Int32 × S8) {H : Heap} {locs : List Loc} {ls : Array Slot}, xW G (x_in W0) sS.heap (cells8 G ad s') H locs → lv_has ls 6 [(0, .ref (ad 0)), (1, .int x1')] → f_X8_bestClass  s' x1' = some z → W p l e (rm_X8_bestClass) sS m args below meth c H locs 0 0 (MQ below (xQ G W0 (cells8 G ad z.2) (some (.int z.1))) args sS 0 0 (x_in W0)) (F0 m 0 ls []) := by
  intro s x1 z H locs ls hw hl hf
  unfold f_X8_bestClass at hf
  refine lv_aload_n (pc := 0) E.1 E.2.1 dX8_bestClass_0 rfl (lv_at hl 0 rfl) ?_
  refine lv_iload_n (pc := 1) E.1 E.2.1 dX8_bestClass_1 rfl (lv_at hl 1 rfl) ?_
  obtain ⟨v1, g2, hf⟩ := x_bind hf
  refine x_callVA (pc := 2) (As := [.int x1]) (rest := []) (st1 := [.int v1]) (ws' := (cells8 G ad s)) E hw hl (c_X8_isFleet l G ad s x1 g2) xv_X8_115 xd_X8_isFleet rfl rfl ⟨Nat.le_of_ble_eq_true rfl, Nat.le_of_ble_eq_true rfl⟩ (q0 := 0) rfl rfl rfl rfl (Nat.le_of_ble_eq_true rfl) rfl rfl dX8_bestClass_2 (fun H locs hw => ?_)
  refine lv_if_ne (tgt := 10) (pc := 5) E.1 E.2.1 dX8_bestClass_5 (by decide) (fun q3 => ?_) (fun q3 => ?_)
  · have hf := x_neg q3 hf
    refine lv_aload_n (pc := 10) E.1 E.2.1 dX8_bestClass_10 rfl (lv_at hl 0 rfl) ?_
    refine lv_iload_n (pc := 11) E.1 E.2.1 dX8_bestClass_11 rfl (lv_at hl 1 rfl) ?_
    obtain ⟨v4, g5, hf⟩ := x_bind hf
    refine x_callVA (pc := 12) (As := [.int x1]) (rest := []) (st1 := [.int v4]) (ws' := (cells8 G ad s)) E hw hl (c_X8_isRated l G ad s x1 g5) xv_X8_236 xd_X8_isRated rfl rfl ⟨Nat.le_of_ble_eq_true rfl, Nat.le_of_ble_eq_true rfl⟩ (q0 := 0) rfl rfl rfl rfl (Nat.le_of_ble_eq_true rfl) rfl rfl dX8_bestClass_12 (fun H locs hw => ?_)
    refine lv_if_ne (tgt := 21) (pc := 15) E.1 E.2.1 dX8_bestClass_15 (by decide) (fun q6 => ?_) (fun q6 => ?_)
    · have hf := x_neg q6 hf
      refine lv_iconst (v := 0) (pc := 21) E.1 E.2.1 dX8_bestClass_21 (by decide) ?_
      refine lv_istore_n (lv' := [(2, .int 0), (0, .ref (ad 0)), (1, .int x1)]) (pc := 22) E.1 E.2.1 dX8_bestClass_22 rfl hl (by decide) rfl (fun ls hl => ?_)
      refine lv_aload_n (pc := 23) E.1 E.2.1 dX8_bestClass_23 rfl (lv_at hl 1 rfl) ?_
      refine lv_iload_n (pc := 24) E.1 E.2.1 dX8_bestClass_24 rfl (lv_at hl 2 rfl) ?_
      refine lv_iconst (v := 4) (pc := 25) E.1 E.2.1 dX8_bestClass_25 (by decide) ?_
      refine lv_iconst (v := 2) (pc := 26) E.1 E.2.1 dX8_bestClass_26 (by decide) ?_
      refine lv_iload_n (pc := 27) E.1 E.2.1 dX8_bestClass_27 rfl (lv_at hl 2 rfl) ?_
      refine lv_imul (pc := 28) E.1 E.2.1 dX8_bestClass_28 ?_
      refine lv_iadd (pc := 29) E.1 E.2.1 dX8_bestClass_29 ?_
      refine lv_iconst (v := 0) (pc := 30) E.1 E.2.1 dX8_bestClass_30 (by decide) ?_
      obtain ⟨v7, g8, hf⟩ := x_bind hf
      refine x_callVA (pc := 31) (As := [.int x1, .int (4 + (2 * x1)), .int 0]) (rest := []) (st1 := [.int v7.1]) (ws' := (cells8 G ad v7.2)) E hw hl (c_X8_ratedBy l G ad s x1 (4 + (2 * x1)) 0 g8) xv_X8_256 xd_X8_ratedBy rfl rfl ⟨Nat.le_of_ble_eq_true rfl, Nat.le_of_ble_eq_true rfl⟩ (q0 := 0) rfl rfl rfl rfl (Nat.le_of_ble_eq_true rfl) rfl rfl dX8_bestClass_31 (fun H locs hw => ?_)
      refine lv_istore_n (lv' := [(3, .int v7.1), (2, .int 0), (0, .ref (ad 0)), (1, .int x1)]) (pc := 34) E.1 E.2.1 dX8_bestClass_34 rfl hl (by decide) rfl (fun ls hl => ?_)
      refine lv_iconst (v := 1) (pc := 35) E.1 E.2.1 dX8_bestClass_35 (by decide) ?_
      refine lv_istore (lv' := [(4, .int 1), (3, .int v7.1), (2, .int 0), (0, .ref (ad 0)), (1, .int x1)]) (pc := 36) E.1 E.2.1 dX8_bestClass_36 hl (by decide) rfl (fun ls hl => ?_)
      exact wl_X8_bestClass_p38 E hr hk  v7.2 x1 0 v7.1 1 z hw (lv_sub hl [3, 4, 2, 1, 0] rfl) hf
    · have hf := x_pos q6 hf
      refine lv_bipush (v := (-2)) (pc := 18) E.1 E.2.1 dX8_bestClass_18 (by decide) ?_
      obtain rfl := Option.some.inj hf
      exact x_reti (pc := 20) E hr hk hw dX8_bestClass_20
  · have hf := x_pos q3 hf
    refine lv_iconst (v := (-1)) (pc := 8) E.1 E.2.1 dX8_bestClass_8 (by decide) ?_
    obtain rfl := Option.some.inj hf
    exact x_reti (pc := 9) E hr hk hw dX8_bestClass_9
set_option maxHeartbeats 4000000 in
set_option maxRecDepth 100000 in
theorem c_X8_bestClass (l : Launch) (G : xG) (ad : Nat → Nat) (s : S8) (x1 : Int32) {z : Int32 × S8} (hf : f_X8_bestClass s x1 = some z) : xC l yX8_bestClass cX8_bestClass 6 (some .int) (rm_X8_bestClass) G [.ref (ad 0), .int x1] (cells8 G ad s) (some (.int z.1)) (cells8 G ad z.2) :=
  x_met (by decide) (Nat.le_of_ble_eq_true rfl) (fun p e sS m below meth c E hr hk ls hl hw => w_X8_bestClass_p0 E hr hk s x1 z hw hl hf)
set_option maxHeartbeats 4000000 in
set_option maxRecDepth 100000 in
theorem w_X8_byCap_p0 {p : Program} {l : Launch} {e : Env} {sS : State} {m : MethodId} {args : Array Value} {below : List Frame} {meth : Method} {c : Code} {G : xG} {W0 : va_W} {ad : Nat → Nat}   (E : xE p sS m args c cX8_byCap 3 RX8 G (x_in W0)) (hr : meth.sig.returnType = (some .int)) (hk : meth.locks = false)  : ∀ (s' : S8) (x1' : Int32) (x2' : Int32) (z : Int32 × S8) {H : Heap} {locs : List Loc} {ls : Array Slot}, xW G (x_in W0) sS.heap (cells8 G ad s') H locs → lv_has ls 3 [(0, .ref (ad 0)), (1, .int x1'), (2, .int x2')] → f_X8_byCap  s' x1' x2' = some z → W p l e (rm_X8_byCap) sS m args below meth c H locs 0 0 (MQ below (xQ G W0 (cells8 G ad z.2) (some (.int z.1))) args sS 0 0 (x_in W0)) (F0 m 0 ls []) := by
  intro s x1 x2 z H locs ls hw hl hf
  unfold f_X8_byCap at hf
  refine lv_aload_n (pc := 0) E.1 E.2.1 dX8_byCap_0 rfl (lv_at hl 0 rfl) ?_
  refine lv_iload_n (pc := 1) E.1 E.2.1 dX8_byCap_1 rfl (lv_at hl 1 rfl) ?_
  obtain ⟨v1, g2, hf⟩ := x_bind hf
  refine x_callVA (pc := 2) (As := [.int x1]) (rest := []) (st1 := [.int v1]) (ws' := (cells8 G ad s)) E hw hl (c_X8_isFleet l G ad s x1 g2) xv_X8_115 xd_X8_isFleet rfl rfl ⟨Nat.le_of_ble_eq_true rfl, Nat.le_of_ble_eq_true rfl⟩ (q0 := 0) rfl rfl rfl rfl (Nat.le_of_ble_eq_true rfl) rfl rfl dX8_byCap_2 (fun H locs hw => ?_)
  refine lv_if_eq (tgt := 15) (pc := 5) E.1 E.2.1 dX8_byCap_5 (by decide) (fun q3 => ?_) (fun q3 => ?_)
  · have hf := x_pos q3 hf
    refine lv_iconst (v := (-1)) (pc := 15) E.1 E.2.1 dX8_byCap_15 (by decide) ?_
    obtain rfl := Option.some.inj hf
    exact x_reti (pc := 16) E hr hk hw dX8_byCap_16
  · have hf := x_neg q3 hf
    refine lv_iload_n (pc := 8) E.1 E.2.1 dX8_byCap_8 rfl (lv_at hl 2 rfl) ?_
    obtain ⟨v4, g5, hf⟩ := x_bind hf
    refine x_callS0 (pc := 9) (As := [.int x2]) (rest := []) (st1 := [.int v4]) E hw hl (c_X8_isAmount l G  x2 g5) xs_X8_141 xd_X8_isAmount rfl rfl ⟨Nat.le_of_ble_eq_true rfl, Nat.le_of_ble_eq_true rfl⟩ rfl rfl (Nat.le_of_ble_eq_true rfl) rfl dX8_byCap_9 (fun H locs hw => ?_)
    refine lv_if_ne (tgt := 17) (pc := 12) E.1 E.2.1 dX8_byCap_12 (by decide) (fun q6 => ?_) (fun q6 => ?_)
    · have hf := x_neg q6 hf
      refine lv_aload_n (pc := 17) E.1 E.2.1 dX8_byCap_17 rfl (lv_at hl 0 rfl) ?_
      refine lv_iload_n (pc := 18) E.1 E.2.1 dX8_byCap_18 rfl (lv_at hl 1 rfl) ?_
      obtain ⟨v7, g8, hf⟩ := x_bind hf
      refine x_callVA (pc := 19) (As := [.int x1]) (rest := []) (st1 := [.int v7]) (ws' := (cells8 G ad s)) E hw hl (c_X8_isRated l G ad s x1 g8) xv_X8_236 xd_X8_isRated rfl rfl ⟨Nat.le_of_ble_eq_true rfl, Nat.le_of_ble_eq_true rfl⟩ (q0 := 0) rfl rfl rfl rfl (Nat.le_of_ble_eq_true rfl) rfl rfl dX8_byCap_19 (fun H locs hw => ?_)
      refine lv_if_eq (tgt := 35) (pc := 22) E.1 E.2.1 dX8_byCap_22 (by decide) (fun q9 => ?_) (fun q9 => ?_)
      · have hf := x_pos q9 hf
        refine lv_bipush (v := (-2)) (pc := 35) E.1 E.2.1 dX8_byCap_35 (by decide) ?_
        obtain rfl := Option.some.inj hf
        exact x_reti (pc := 37) E hr hk hw dX8_byCap_37
      · have hf := x_neg q9 hf
        refine lv_aload_n (pc := 25) E.1 E.2.1 dX8_byCap_25 rfl (lv_at hl 0 rfl) ?_
        refine lv_iload_n (pc := 26) E.1 E.2.1 dX8_byCap_26 rfl (lv_at hl 1 rfl) ?_
        refine lv_iconst (v := 0) (pc := 27) E.1 E.2.1 dX8_byCap_27 (by decide) ?_
        refine lv_iload_n (pc := 28) E.1 E.2.1 dX8_byCap_28 rfl (lv_at hl 2 rfl) ?_
        obtain ⟨v10, g11, hf⟩ := x_bind hf
        refine x_callVA (pc := 29) (As := [.int x1, .int 0, .int x2]) (rest := []) (st1 := [.int v10.1]) (ws' := (cells8 G ad v10.2)) E hw hl (c_X8_ratedBy l G ad s x1 0 x2 g11) xv_X8_256 xd_X8_ratedBy rfl rfl ⟨Nat.le_of_ble_eq_true rfl, Nat.le_of_ble_eq_true rfl⟩ (q0 := 0) rfl rfl rfl rfl (Nat.le_of_ble_eq_true rfl) rfl rfl dX8_byCap_29 (fun H locs hw => ?_)
        refine lv_goto (tgt := 37) (pc := 32) E.1 E.2.1 dX8_byCap_32 (by decide) ?_
        obtain rfl := Option.some.inj hf
        exact x_reti (pc := 37) E hr hk hw dX8_byCap_37
    · have hf := x_pos q6 hf
      refine lv_iconst (v := (-1)) (pc := 15) E.1 E.2.1 dX8_byCap_15 (by decide) ?_
      obtain rfl := Option.some.inj hf
      exact x_reti (pc := 16) E hr hk hw dX8_byCap_16
set_option maxHeartbeats 4000000 in
set_option maxRecDepth 100000 in
theorem c_X8_byCap (l : Launch) (G : xG) (ad : Nat → Nat) (s : S8) (x1 : Int32) (x2 : Int32) {z : Int32 × S8} (hf : f_X8_byCap s x1 x2 = some z) : xC l yX8_byCap cX8_byCap 3 (some .int) (rm_X8_byCap) G [.ref (ad 0), .int x1, .int x2] (cells8 G ad s) (some (.int z.1)) (cells8 G ad z.2) :=
  x_met (by decide) (Nat.le_of_ble_eq_true rfl) (fun p e sS m below meth c E hr hk ls hl hw => w_X8_byCap_p0 E hr hk s x1 x2 z hw hl hf)
set_option maxHeartbeats 4000000 in
set_option maxRecDepth 100000 in
theorem w_X8_capFor_p32 {p : Program} {l : Launch} {e : Env} {sS : State} {m : MethodId} {args : Array Value} {below : List Frame} {meth : Method} {c : Code} {G : xG} {W0 : va_W} {ad : Nat → Nat}  {k32 : S8 → Int32 → Int32 → Int32 → Option (Int32 × S8)} (E : xE p sS m args c cX8_capFor 4 RX8 G (x_in W0)) (hr : meth.sig.returnType = (some .int)) (hk : meth.locks = false) (hk32 : ∀ (s' : S8) (x1' : Int32) (x2' : Int32) (x3' : Int32) (z : Int32 × S8) {H : Heap} {locs : List Loc} {ls : Array Slot}, xW G (x_in W0) sS.heap (cells8 G ad s') H locs → lv_has ls 4 [(0, .ref (ad 0)), (1, .int x1'), (2, .int x2'), (3, .int x3')] → k32  s' x1' x2' x3' = some z → W p l e (rm_X8_capFor) sS m args below meth c H locs 0 0 (MQ below (xQ G W0 (cells8 G ad z.2) (some (.int z.1))) args sS 0 0 (x_in W0)) (F0 m 32 ls [])) : ∀ (s' : S8) (x1' : Int32) (x2' : Int32) (x3' : Int32) (z : Int32 × S8) {H : Heap} {locs : List Loc} {ls : Array Slot}, xW G (x_in W0) sS.heap (cells8 G ad s') H locs → lv_has ls 4 [(0, .ref (ad 0)), (1, .int x1'), (2, .int x2'), (3, .int x3')] → f_X8_capFor_p32 k32 s' x1' x2' x3' = some z → W p l e (rm_X8_capFor) sS m args below meth c H locs 0 0 (MQ below (xQ G W0 (cells8 G ad z.2) (some (.int z.1))) args sS 0 0 (x_in W0)) (F0 m 32 ls []) := by
  intro s x1 x2 x3 z H locs ls hw hl hf
  unfold f_X8_capFor_p32 at hf
  refine lv_aload_n (pc := 32) E.1 E.2.1 dX8_capFor_32 rfl (lv_at hl 0 rfl) ?_
  refine lv_iload_n (pc := 33) E.1 E.2.1 dX8_capFor_33 rfl (lv_at hl 1 rfl) ?_
  refine lv_iconst (v := 0) (pc := 34) E.1 E.2.1 dX8_capFor_34 (by decide) ?_
  refine lv_iload_n (pc := 35) E.1 E.2.1 dX8_capFor_35 rfl (lv_at hl 3 rfl) ?_
  obtain ⟨v1, g2, hf⟩ := x_bind hf
  refine x_callVA (pc := 36) (As := [.int x1, .int 0, .int x3]) (rest := []) (st1 := [.int v1.1]) (ws' := (cells8 G ad v1.2)) E hw hl (c_X8_ratedBy l G ad s x1 0 x3 g2) xv_X8_256 xd_X8_ratedBy rfl rfl ⟨Nat.le_of_ble_eq_true rfl, Nat.le_of_ble_eq_true rfl⟩ (q0 := 0) rfl rfl rfl rfl (Nat.le_of_ble_eq_true rfl) rfl rfl dX8_capFor_36 (fun H locs hw => ?_)
  refine lv_iload_n (pc := 39) E.1 E.2.1 dX8_capFor_39 rfl (lv_at hl 2 rfl) ?_
  refine lv_icmp_eq (tgt := 49) (pc := 40) E.1 E.2.1 dX8_capFor_40 (by decide) (fun q3 => ?_) (fun q3 => ?_)
  · have hf := x_pos q3 hf
    refine lv_iload_n (pc := 49) E.1 E.2.1 dX8_capFor_49 rfl (lv_at hl 3 rfl) ?_
    obtain rfl := Option.some.inj hf
    exact x_reti (pc := 50) E hr hk hw dX8_capFor_50
  · have hf := x_neg q3 hf
    refine lv_iinc (v := (x3 + 1)) (lv' := [(3, .int (x3 + 1)), (0, .ref (ad 0)), (1, .int x1), (2, .int x2)]) (pc := 43) E.1 E.2.1 dX8_capFor_43 hl (k := 3) rfl rfl (by decide) rfl (fun ls hl => ?_)
    refine lv_goto (tgt := 32) (pc := 46) E.1 E.2.1 dX8_capFor_46 (by decide) ?_
    exact hk32 v1.2 x1 x2 (x3 + 1) z hw (lv_sub hl [1, 2, 3, 0] rfl) hf
set_option maxHeartbeats 4000000 in
set_option maxRecDepth 100000 in
theorem wl_X8_capFor_p32 {p : Program} {l : Launch} {e : Env} {sS : State} {m : MethodId} {args : Array Value} {below : List Frame} {meth : Method} {c : Code} {G : xG} {W0 : va_W} {ad : Nat → Nat}   (E : xE p sS m args c cX8_capFor 4 RX8 G (x_in W0)) (hr : meth.sig.returnType = (some .int)) (hk : meth.locks = false)  : ∀ (s' : S8) (x1' : Int32) (x2' : Int32) (x3' : Int32) (z : Int32 × S8) {H : Heap} {locs : List Loc} {ls : Array Slot}, xW G (x_in W0) sS.heap (cells8 G ad s') H locs → lv_has ls 4 [(0, .ref (ad 0)), (1, .int x1'), (2, .int x2'), (3, .int x3')] → lp_X8_capFor_p32  s' x1' x2' x3' = some z → W p l e (rm_X8_capFor) sS m args below meth c H locs 0 0 (MQ below (xQ G W0 (cells8 G ad z.2) (some (.int z.1))) args sS 0 0 (x_in W0)) (F0 m 32 ls []) := by
  intro s x1 x2 x3 z H locs ls hw hl hf
  exact x_loop_W (P := fun (q : S8 × Int32 × Int32 × Int32) (z : Int32 × S8) => ∀ {H : Heap} {locs : List Loc} {ls : Array Slot}, xW G (x_in W0) sS.heap (cells8 G ad q.1) H locs → lv_has ls 4 [(0, .ref (ad 0)), (1, .int q.2.1), (2, .int q.2.2.1), (3, .int q.2.2.2)] → W p l e (rm_X8_capFor) sS m args below meth c H locs 0 0 (MQ below (xQ G W0 (cells8 G ad z.2) (some (.int z.1))) args sS 0 0 (x_in W0)) (F0 m 32 ls [])) (fun k hkk q z hf H locs ls hw hl => w_X8_capFor_p32 E hr hk  (fun s x1 x2 x3 z H locs ls hw hl hf => hkk (s, x1, x2, x3) z hf hw hl) q.1 q.2.1 q.2.2.1 q.2.2.2 z hw hl hf) FU (s, x1, x2, x3) z hf hw hl
set_option maxHeartbeats 4000000 in
set_option maxRecDepth 100000 in
theorem w_X8_capFor_p0 {p : Program} {l : Launch} {e : Env} {sS : State} {m : MethodId} {args : Array Value} {below : List Frame} {meth : Method} {c : Code} {G : xG} {W0 : va_W} {ad : Nat → Nat}   (E : xE p sS m args c cX8_capFor 4 RX8 G (x_in W0)) (hr : meth.sig.returnType = (some .int)) (hk : meth.locks = false)  : ∀ (s' : S8) (x1' : Int32) (z : Int32 × S8) {H : Heap} {locs : List Loc} {ls : Array Slot}, xW G (x_in W0) sS.heap (cells8 G ad s') H locs → lv_has ls 4 [(0, .ref (ad 0)), (1, .int x1')] → f_X8_capFor  s' x1' = some z → W p l e (rm_X8_capFor) sS m args below meth c H locs 0 0 (MQ below (xQ G W0 (cells8 G ad z.2) (some (.int z.1))) args sS 0 0 (x_in W0)) (F0 m 0 ls []) := by
  intro s x1 z H locs ls hw hl hf
  unfold f_X8_capFor at hf
  refine lv_aload_n (pc := 0) E.1 E.2.1 dX8_capFor_0 rfl (lv_at hl 0 rfl) ?_
  refine lv_iload_n (pc := 1) E.1 E.2.1 dX8_capFor_1 rfl (lv_at hl 1 rfl) ?_
  obtain ⟨v1, g2, hf⟩ := x_bind hf
  refine x_callVA (pc := 2) (As := [.int x1]) (rest := []) (st1 := [.int v1]) (ws' := (cells8 G ad s)) E hw hl (c_X8_isFleet l G ad s x1 g2) xv_X8_115 xd_X8_isFleet rfl rfl ⟨Nat.le_of_ble_eq_true rfl, Nat.le_of_ble_eq_true rfl⟩ (q0 := 0) rfl rfl rfl rfl (Nat.le_of_ble_eq_true rfl) rfl rfl dX8_capFor_2 (fun H locs hw => ?_)
  refine lv_if_ne (tgt := 10) (pc := 5) E.1 E.2.1 dX8_capFor_5 (by decide) (fun q3 => ?_) (fun q3 => ?_)
  · have hf := x_neg q3 hf
    refine lv_aload_n (pc := 10) E.1 E.2.1 dX8_capFor_10 rfl (lv_at hl 0 rfl) ?_
    refine lv_iload_n (pc := 11) E.1 E.2.1 dX8_capFor_11 rfl (lv_at hl 1 rfl) ?_
    obtain ⟨v4, g5, hf⟩ := x_bind hf
    refine x_callVA (pc := 12) (As := [.int x1]) (rest := []) (st1 := [.int v4]) (ws' := (cells8 G ad s)) E hw hl (c_X8_isRated l G ad s x1 g5) xv_X8_236 xd_X8_isRated rfl rfl ⟨Nat.le_of_ble_eq_true rfl, Nat.le_of_ble_eq_true rfl⟩ (q0 := 0) rfl rfl rfl rfl (Nat.le_of_ble_eq_true rfl) rfl rfl dX8_capFor_12 (fun H locs hw => ?_)
    refine lv_if_ne (tgt := 21) (pc := 15) E.1 E.2.1 dX8_capFor_15 (by decide) (fun q6 => ?_) (fun q6 => ?_)
    · have hf := x_neg q6 hf
      refine lv_aload_n (pc := 21) E.1 E.2.1 dX8_capFor_21 rfl (lv_at hl 0 rfl) ?_
      refine lv_iload_n (pc := 22) E.1 E.2.1 dX8_capFor_22 rfl (lv_at hl 1 rfl) ?_
      refine lv_iconst (v := 0) (pc := 23) E.1 E.2.1 dX8_capFor_23 (by decide) ?_
      refine lv_bipush (v := 99) (pc := 24) E.1 E.2.1 dX8_capFor_24 (by decide) ?_
      obtain ⟨v7, g8, hf⟩ := x_bind hf
      refine x_callVA (pc := 26) (As := [.int x1, .int 0, .int 99]) (rest := []) (st1 := [.int v7.1]) (ws' := (cells8 G ad v7.2)) E hw hl (c_X8_ratedBy l G ad s x1 0 99 g8) xv_X8_256 xd_X8_ratedBy rfl rfl ⟨Nat.le_of_ble_eq_true rfl, Nat.le_of_ble_eq_true rfl⟩ (q0 := 0) rfl rfl rfl rfl (Nat.le_of_ble_eq_true rfl) rfl rfl dX8_capFor_26 (fun H locs hw => ?_)
      refine lv_istore_n (lv' := [(2, .int v7.1), (0, .ref (ad 0)), (1, .int x1)]) (pc := 29) E.1 E.2.1 dX8_capFor_29 rfl hl (by decide) rfl (fun ls hl => ?_)
      refine lv_iconst (v := 1) (pc := 30) E.1 E.2.1 dX8_capFor_30 (by decide) ?_
      refine lv_istore_n (lv' := [(3, .int 1), (2, .int v7.1), (0, .ref (ad 0)), (1, .int x1)]) (pc := 31) E.1 E.2.1 dX8_capFor_31 rfl hl (by decide) rfl (fun ls hl => ?_)
      exact wl_X8_capFor_p32 E hr hk  v7.2 x1 v7.1 1 z hw (lv_sub hl [2, 3, 1, 0] rfl) hf
    · have hf := x_pos q6 hf
      refine lv_bipush (v := (-2)) (pc := 18) E.1 E.2.1 dX8_capFor_18 (by decide) ?_
      obtain rfl := Option.some.inj hf
      exact x_reti (pc := 20) E hr hk hw dX8_capFor_20
  · have hf := x_pos q3 hf
    refine lv_iconst (v := (-1)) (pc := 8) E.1 E.2.1 dX8_capFor_8 (by decide) ?_
    obtain rfl := Option.some.inj hf
    exact x_reti (pc := 9) E hr hk hw dX8_capFor_9
set_option maxHeartbeats 4000000 in
set_option maxRecDepth 100000 in
theorem c_X8_capFor (l : Launch) (G : xG) (ad : Nat → Nat) (s : S8) (x1 : Int32) {z : Int32 × S8} (hf : f_X8_capFor s x1 = some z) : xC l yX8_capFor cX8_capFor 4 (some .int) (rm_X8_capFor) G [.ref (ad 0), .int x1] (cells8 G ad s) (some (.int z.1)) (cells8 G ad z.2) :=
  x_met (by decide) (Nat.le_of_ble_eq_true rfl) (fun p e sS m below meth c E hr hk ls hl hw => w_X8_capFor_p0 E hr hk s x1 z hw hl hf)
set_option maxHeartbeats 4000000 in
set_option maxRecDepth 100000 in
theorem w_X8_ends_p9 {p : Program} {l : Launch} {e : Env} {sS : State} {m : MethodId} {args : Array Value} {below : List Frame} {meth : Method} {c : Code} {G : xG} {W0 : va_W} {ad : Nat → Nat}  {k2 : S8 → Int32 → Option (S8)} {k9 : S8 → Int32 → Int32 → Option (S8)} (E : xE p sS m args c cX8_ends 4 RX8 G (x_in W0)) (hr : meth.sig.returnType = none) (hk : meth.locks = false) (hk2 : ∀ (s' : S8) (x2' : Int32) (z : S8) {H : Heap} {locs : List Loc} {ls : Array Slot}, xW G (x_in W0) sS.heap (cells8 G ad s') H locs → lv_has ls 4 [(0, .ref (ad 0)), (2, .int x2')] → k2  s' x2' = some z → W p l e (rm_X8_ends) sS m args below meth c H locs 0 0 (MQ below (xQ G W0 (cells8 G ad z) none) args sS 0 0 (x_in W0)) (F0 m 2 ls [])) (hk9 : ∀ (s' : S8) (x2' : Int32) (x3' : Int32) (z : S8) {H : Heap} {locs : List Loc} {ls : Array Slot}, xW G (x_in W0) sS.heap (cells8 G ad s') H locs → lv_has ls 4 [(0, .ref (ad 0)), (2, .int x2'), (3, .int x3')] → k9  s' x2' x3' = some z → W p l e (rm_X8_ends) sS m args below meth c H locs 0 0 (MQ below (xQ G W0 (cells8 G ad z) none) args sS 0 0 (x_in W0)) (F0 m 9 ls [])) : ∀ (s' : S8) (x2' : Int32) (x3' : Int32) (z : S8) {H : Heap} {locs : List Loc} {ls : Array Slot}, xW G (x_in W0) sS.heap (cells8 G ad s') H locs → lv_has ls 4 [(0, .ref (ad 0)), (2, .int x2'), (3, .int x3')] → f_X8_ends_p9 k2 k9 s' x2' x3' = some z → W p l e (rm_X8_ends) sS m args below meth c H locs 0 0 (MQ below (xQ G W0 (cells8 G ad z) none) args sS 0 0 (x_in W0)) (F0 m 9 ls []) := by
  intro s x2 x3 z H locs ls hw hl hf
  unfold f_X8_ends_p9 at hf
  refine lv_iload_n (pc := 9) E.1 E.2.1 dX8_ends_9 rfl (lv_at hl 2 rfl) ?_
  refine lv_aload_n (pc := 10) E.1 E.2.1 dX8_ends_10 rfl (lv_at hl 0 rfl) ?_
  obtain ⟨v1, g2, hf⟩ := x_bind hf
  refine x_callVA (pc := 11) (As := []) (rest := [.int x3]) (st1 := [.int v1, .int x3]) (ws' := (cells8 G ad s)) E hw hl (c_X8_many l G ad s g2) xv_X8_80 xd_X8_many rfl rfl ⟨Nat.le_of_ble_eq_true rfl, Nat.le_of_ble_eq_true rfl⟩ (q0 := 0) rfl rfl rfl rfl (Nat.le_of_ble_eq_true rfl) rfl rfl dX8_ends_11 (fun H locs hw => ?_)
  refine lv_icmp_ge (tgt := 43) (pc := 14) E.1 E.2.1 dX8_ends_14 (by decide) (fun q3 => ?_) (fun q3 => ?_)
  · have hf := x_pos q3 hf
    refine lv_aload_n (pc := 43) E.1 E.2.1 dX8_ends_43 rfl (lv_at hl 0 rfl) ?_
    refine lv_iconst (v := (-1)) (pc := 44) E.1 E.2.1 dX8_ends_44 (by decide) ?_
    refine lv_iload_n (pc := 45) E.1 E.2.1 dX8_ends_45 rfl (lv_at hl 1 rfl) ?_
    obtain ⟨v4, g5, hf⟩ := x_bind hf
    refine x_callVA (pc := 46) (As := [.int (-1), .int x2]) (rest := []) (st1 := [.int v4.1]) (ws' := (cells8 G ad v4.2)) E hw hl (c_X8_dropsAll l G ad s (-1) x2 g5) xv_X8_118 xd_X8_dropsAll rfl rfl ⟨Nat.le_of_ble_eq_true rfl, Nat.le_of_ble_eq_true rfl⟩ (q0 := 0) rfl rfl rfl rfl (Nat.le_of_ble_eq_true rfl) rfl rfl dX8_ends_46 (fun H locs hw => ?_)
    refine lv_pop (pc := 49) E.1 E.2.1 dX8_ends_49 rfl ?_
    refine lv_iinc (v := (x2 + 1)) (lv' := [(2, .int (x2 + 1)), (0, .ref (ad 0)), (3, .int x3)]) (pc := 50) E.1 E.2.1 dX8_ends_50 hl (k := 1) rfl rfl (by decide) rfl (fun ls hl => ?_)
    refine lv_goto (tgt := 2) (pc := 53) E.1 E.2.1 dX8_ends_53 (by decide) ?_
    exact hk2 v4.2 (x2 + 1) z hw (lv_sub hl [1, 0] rfl) hf
  · have hf := x_neg q3 hf
    refine lv_aload_n (pc := 17) E.1 E.2.1 dX8_ends_17 rfl (lv_at hl 0 rfl) ?_
    refine xg_X8_13 (pc := 18) (v := .ref (ad 1)) E hw 0 rfl rfl dX8_ends_18 ?_
    refine lv_iconst (v := 4) (pc := 21) E.1 E.2.1 dX8_ends_21 (by decide) ?_
    refine lv_iconst (v := 2) (pc := 22) E.1 E.2.1 dX8_ends_22 (by decide) ?_
    refine lv_iload_n (pc := 23) E.1 E.2.1 dX8_ends_23 rfl (lv_at hl 2 rfl) ?_
    refine lv_imul (pc := 24) E.1 E.2.1 dX8_ends_24 ?_
    refine lv_iadd (pc := 25) E.1 E.2.1 dX8_ends_25 ?_
    refine lv_iconst (v := 1) (pc := 26) E.1 E.2.1 dX8_ends_26 (by decide) ?_
    refine lv_iadd (pc := 27) E.1 E.2.1 dX8_ends_27 ?_
    refine lv_dup2_11 (pc := 28) E.1 E.2.1 dX8_ends_28 rfl rfl ?_
    obtain ⟨v7, g6, hf⟩ := x_bind hf
    refine x_iald (pc := 29) E hw 1 rfl g6 dX8_ends_29 ?_
    refine lv_iconst (v := 1) (pc := 30) E.1 E.2.1 dX8_ends_30 (by decide) ?_
    refine lv_iload_n (pc := 31) E.1 E.2.1 dX8_ends_31 rfl (lv_at hl 1 rfl) ?_
    refine lv_ishl (pc := 32) E.1 E.2.1 dX8_ends_32 ?_
    refine lv_iconst (v := (-1)) (pc := 33) E.1 E.2.1 dX8_ends_33 (by decide) ?_
    refine lv_ixor (pc := 34) E.1 E.2.1 dX8_ends_34 ?_
    refine lv_iand (pc := 35) E.1 E.2.1 dX8_ends_35 ?_
    obtain ⟨w9, g8, hf⟩ := x_bind hf
    refine x_iast (pc := 36) (ws' := (cells8 G ad (u8_now s w9))) E hw 1 rfl g8 rfl dX8_ends_36 (fun H locs hw => ?_)
    refine lv_iinc (v := (x3 + 1)) (lv' := [(3, .int (x3 + 1)), (0, .ref (ad 0)), (2, .int x2)]) (pc := 37) E.1 E.2.1 dX8_ends_37 hl (k := 2) rfl rfl (by decide) rfl (fun ls hl => ?_)
    refine lv_goto (tgt := 9) (pc := 40) E.1 E.2.1 dX8_ends_40 (by decide) ?_
    exact hk9 (u8_now s w9) x2 (x3 + 1) z hw (lv_sub hl [1, 2, 0] rfl) hf
set_option maxHeartbeats 4000000 in
set_option maxRecDepth 100000 in
theorem wl_X8_ends_p9 {p : Program} {l : Launch} {e : Env} {sS : State} {m : MethodId} {args : Array Value} {below : List Frame} {meth : Method} {c : Code} {G : xG} {W0 : va_W} {ad : Nat → Nat}  {k2 : S8 → Int32 → Option (S8)} (E : xE p sS m args c cX8_ends 4 RX8 G (x_in W0)) (hr : meth.sig.returnType = none) (hk : meth.locks = false) (hk2 : ∀ (s' : S8) (x2' : Int32) (z : S8) {H : Heap} {locs : List Loc} {ls : Array Slot}, xW G (x_in W0) sS.heap (cells8 G ad s') H locs → lv_has ls 4 [(0, .ref (ad 0)), (2, .int x2')] → k2  s' x2' = some z → W p l e (rm_X8_ends) sS m args below meth c H locs 0 0 (MQ below (xQ G W0 (cells8 G ad z) none) args sS 0 0 (x_in W0)) (F0 m 2 ls [])) : ∀ (s' : S8) (x2' : Int32) (x3' : Int32) (z : S8) {H : Heap} {locs : List Loc} {ls : Array Slot}, xW G (x_in W0) sS.heap (cells8 G ad s') H locs → lv_has ls 4 [(0, .ref (ad 0)), (2, .int x2'), (3, .int x3')] → lp_X8_ends_p9 k2 s' x2' x3' = some z → W p l e (rm_X8_ends) sS m args below meth c H locs 0 0 (MQ below (xQ G W0 (cells8 G ad z) none) args sS 0 0 (x_in W0)) (F0 m 9 ls []) := by
  intro s x2 x3 z H locs ls hw hl hf
  exact x_loop_W (P := fun (q : S8 × Int32 × Int32) (z : S8) => ∀ {H : Heap} {locs : List Loc} {ls : Array Slot}, xW G (x_in W0) sS.heap (cells8 G ad q.1) H locs → lv_has ls 4 [(0, .ref (ad 0)), (2, .int q.2.1), (3, .int q.2.2)] → W p l e (rm_X8_ends) sS m args below meth c H locs 0 0 (MQ below (xQ G W0 (cells8 G ad z) none) args sS 0 0 (x_in W0)) (F0 m 9 ls [])) (fun k hkk q z hf H locs ls hw hl => w_X8_ends_p9 E hr hk hk2 (fun s x2 x3 z H locs ls hw hl hf => hkk (s, x2, x3) z hf hw hl) q.1 q.2.1 q.2.2 z hw hl hf) FU (s, x2, x3) z hf hw hl
set_option maxHeartbeats 4000000 in
set_option maxRecDepth 100000 in
theorem w_X8_ends_p2 {p : Program} {l : Launch} {e : Env} {sS : State} {m : MethodId} {args : Array Value} {below : List Frame} {meth : Method} {c : Code} {G : xG} {W0 : va_W} {ad : Nat → Nat}  {k2 : S8 → Int32 → Option (S8)} (E : xE p sS m args c cX8_ends 4 RX8 G (x_in W0)) (hr : meth.sig.returnType = none) (hk : meth.locks = false) (hk2 : ∀ (s' : S8) (x2' : Int32) (z : S8) {H : Heap} {locs : List Loc} {ls : Array Slot}, xW G (x_in W0) sS.heap (cells8 G ad s') H locs → lv_has ls 4 [(0, .ref (ad 0)), (2, .int x2')] → k2  s' x2' = some z → W p l e (rm_X8_ends) sS m args below meth c H locs 0 0 (MQ below (xQ G W0 (cells8 G ad z) none) args sS 0 0 (x_in W0)) (F0 m 2 ls [])) : ∀ (s' : S8) (x2' : Int32) (z : S8) {H : Heap} {locs : List Loc} {ls : Array Slot}, xW G (x_in W0) sS.heap (cells8 G ad s') H locs → lv_has ls 4 [(0, .ref (ad 0)), (2, .int x2')] → f_X8_ends_p2 k2 s' x2' = some z → W p l e (rm_X8_ends) sS m args below meth c H locs 0 0 (MQ below (xQ G W0 (cells8 G ad z) none) args sS 0 0 (x_in W0)) (F0 m 2 ls []) := by
  intro s x2 z H locs ls hw hl hf
  unfold f_X8_ends_p2 at hf
  refine lv_iload_n (pc := 2) E.1 E.2.1 dX8_ends_2 rfl (lv_at hl 1 rfl) ?_
  refine lv_iconst (v := 5) (pc := 3) E.1 E.2.1 dX8_ends_3 (by decide) ?_
  refine lv_icmp_ge (tgt := 56) (pc := 4) E.1 E.2.1 dX8_ends_4 (by decide) (fun q1 => ?_) (fun q1 => ?_)
  · have hf := x_pos q1 hf
    obtain rfl := Option.some.inj hf
    exact x_retv (pc := 56) E hr hk hw dX8_ends_56
  · have hf := x_neg q1 hf
    refine lv_iconst (v := 0) (pc := 7) E.1 E.2.1 dX8_ends_7 (by decide) ?_
    refine lv_istore_n (lv' := [(3, .int 0), (0, .ref (ad 0)), (2, .int x2)]) (pc := 8) E.1 E.2.1 dX8_ends_8 rfl hl (by decide) rfl (fun ls hl => ?_)
    exact wl_X8_ends_p9 E hr hk hk2 s x2 0 z hw (lv_sub hl [1, 2, 0] rfl) hf
set_option maxHeartbeats 4000000 in
set_option maxRecDepth 100000 in
theorem wl_X8_ends_p2 {p : Program} {l : Launch} {e : Env} {sS : State} {m : MethodId} {args : Array Value} {below : List Frame} {meth : Method} {c : Code} {G : xG} {W0 : va_W} {ad : Nat → Nat}   (E : xE p sS m args c cX8_ends 4 RX8 G (x_in W0)) (hr : meth.sig.returnType = none) (hk : meth.locks = false)  : ∀ (s' : S8) (x2' : Int32) (z : S8) {H : Heap} {locs : List Loc} {ls : Array Slot}, xW G (x_in W0) sS.heap (cells8 G ad s') H locs → lv_has ls 4 [(0, .ref (ad 0)), (2, .int x2')] → lp_X8_ends_p2  s' x2' = some z → W p l e (rm_X8_ends) sS m args below meth c H locs 0 0 (MQ below (xQ G W0 (cells8 G ad z) none) args sS 0 0 (x_in W0)) (F0 m 2 ls []) := by
  intro s x2 z H locs ls hw hl hf
  exact x_loop_W (P := fun (q : S8 × Int32) (z : S8) => ∀ {H : Heap} {locs : List Loc} {ls : Array Slot}, xW G (x_in W0) sS.heap (cells8 G ad q.1) H locs → lv_has ls 4 [(0, .ref (ad 0)), (2, .int q.2)] → W p l e (rm_X8_ends) sS m args below meth c H locs 0 0 (MQ below (xQ G W0 (cells8 G ad z) none) args sS 0 0 (x_in W0)) (F0 m 2 ls [])) (fun k hkk q z hf H locs ls hw hl => w_X8_ends_p2 E hr hk  (fun s x2 z H locs ls hw hl hf => hkk (s, x2) z hf hw hl) q.1 q.2 z hw hl hf) FU (s, x2) z hf hw hl
set_option maxHeartbeats 4000000 in
set_option maxRecDepth 100000 in
theorem w_X8_ends_p0 {p : Program} {l : Launch} {e : Env} {sS : State} {m : MethodId} {args : Array Value} {below : List Frame} {meth : Method} {c : Code} {G : xG} {W0 : va_W} {ad : Nat → Nat}   (E : xE p sS m args c cX8_ends 4 RX8 G (x_in W0)) (hr : meth.sig.returnType = none) (hk : meth.locks = false)  : ∀ (s' : S8) (x1' : Int32) (z : S8) {H : Heap} {locs : List Loc} {ls : Array Slot}, xW G (x_in W0) sS.heap (cells8 G ad s') H locs → lv_has ls 4 [(0, .ref (ad 0)), (1, .int x1')] → f_X8_ends  s' x1' = some z → W p l e (rm_X8_ends) sS m args below meth c H locs 0 0 (MQ below (xQ G W0 (cells8 G ad z) none) args sS 0 0 (x_in W0)) (F0 m 0 ls []) := by
  intro s x1 z H locs ls hw hl hf
  unfold f_X8_ends at hf
  refine lv_iload_n (pc := 0) E.1 E.2.1 dX8_ends_0 rfl (lv_at hl 1 rfl) ?_
  refine lv_istore_n (lv' := [(2, .int x1), (0, .ref (ad 0)), (1, .int x1)]) (pc := 1) E.1 E.2.1 dX8_ends_1 rfl hl (by decide) rfl (fun ls hl => ?_)
  exact wl_X8_ends_p2 E hr hk  s x1 z hw (lv_sub hl [1, 0] rfl) hf
set_option maxHeartbeats 4000000 in
set_option maxRecDepth 100000 in
theorem c_X8_ends (l : Launch) (G : xG) (ad : Nat → Nat) (s : S8) (x1 : Int32) {z : S8} (hf : f_X8_ends s x1 = some z) : xC l yX8_ends cX8_ends 4 none (rm_X8_ends) G [.ref (ad 0), .int x1] (cells8 G ad s) none (cells8 G ad z) :=
  x_met (by decide) (Nat.le_of_ble_eq_true rfl) (fun p e sS m below meth c E hr hk ls hl hw => w_X8_ends_p0 E hr hk s x1 z hw hl hf)
set_option maxHeartbeats 4000000 in
set_option maxRecDepth 100000 in
theorem w_X8_sharedNow_p0 {p : Program} {l : Launch} {e : Env} {sS : State} {m : MethodId} {args : Array Value} {below : List Frame} {meth : Method} {c : Code} {G : xG} {W0 : va_W} {ad : Nat → Nat}   (E : xE p sS m args c cX8_sharedNow 2 RX8 G (x_in W0)) (hr : meth.sig.returnType = (some .int)) (hk : meth.locks = false)  : ∀ (s' : S8) (x1' : Int32) (z : Int32 × S8) {H : Heap} {locs : List Loc} {ls : Array Slot}, xW G (x_in W0) sS.heap (cells8 G ad s') H locs → lv_has ls 2 [(0, .ref (ad 0)), (1, .int x1')] → f_X8_sharedNow  s' x1' = some z → W p l e (rm_X8_sharedNow) sS m args below meth c H locs 0 0 (MQ below (xQ G W0 (cells8 G ad z.2) (some (.int z.1))) args sS 0 0 (x_in W0)) (F0 m 0 ls []) := by
  intro s x1 z H locs ls hw hl hf
  unfold f_X8_sharedNow at hf
  refine lv_aload_n (pc := 0) E.1 E.2.1 dX8_sharedNow_0 rfl (lv_at hl 0 rfl) ?_
  obtain ⟨v1, g2, hf⟩ := x_bind hf
  refine x_callVA (pc := 1) (As := []) (rest := []) (st1 := []) (ws' := (cells8 G ad v1)) E hw hl (c_X8_works l G ad s g2) xv_X8_221 xd_X8_works rfl rfl ⟨Nat.le_of_ble_eq_true rfl, Nat.le_of_ble_eq_true rfl⟩ (q0 := 0) rfl rfl rfl rfl (Nat.le_of_ble_eq_true rfl) rfl rfl dX8_sharedNow_1 (fun H locs hw => ?_)
  refine lv_aload_n (pc := 4) E.1 E.2.1 dX8_sharedNow_4 rfl (lv_at hl 0 rfl) ?_
  refine xg_X8_35 (pc := 5) (v := .ref (ad 8)) E hw 0 rfl rfl dX8_sharedNow_5 ?_
  refine lv_iload_n (pc := 8) E.1 E.2.1 dX8_sharedNow_8 rfl (lv_at hl 1 rfl) ?_
  obtain ⟨v4, g3, hf⟩ := x_bind hf
  refine x_iald (pc := 9) E hw 8 rfl g3 dX8_sharedNow_9 ?_
  obtain rfl := Option.some.inj hf
  exact x_reti (pc := 10) E hr hk hw dX8_sharedNow_10
set_option maxHeartbeats 4000000 in
set_option maxRecDepth 100000 in
theorem c_X8_sharedNow (l : Launch) (G : xG) (ad : Nat → Nat) (s : S8) (x1 : Int32) {z : Int32 × S8} (hf : f_X8_sharedNow s x1 = some z) : xC l yX8_sharedNow cX8_sharedNow 2 (some .int) (rm_X8_sharedNow) G [.ref (ad 0), .int x1] (cells8 G ad s) (some (.int z.1)) (cells8 G ad z.2) :=
  x_met (by decide) (Nat.le_of_ble_eq_true rfl) (fun p e sS m below meth c E hr hk ls hl hw => w_X8_sharedNow_p0 E hr hk s x1 z hw hl hf)
set_option maxHeartbeats 4000000 in
set_option maxRecDepth 100000 in
theorem w_X8_earlier_p58 {p : Program} {l : Launch} {e : Env} {sS : State} {m : MethodId} {args : Array Value} {below : List Frame} {meth : Method} {c : Code} {G : xG} {W0 : va_W} {ad : Nat → Nat}   (E : xE p sS m args c cX8_earlier 5 RX8 G (x_in W0)) (hr : meth.sig.returnType = (some .int)) (hk : meth.locks = false)  : ∀ (s' : S8) (y0' : Int32) (z : Int32 × S8) {H : Heap} {locs : List Loc} {ls : Array Slot}, xW G (x_in W0) sS.heap (cells8 G ad s') H locs → lv_has ls 5 [(0, .ref (ad 0))] → f_X8_earlier_p58  s' y0' = some z → W p l e (rm_X8_earlier) sS m args below meth c H locs 0 0 (MQ below (xQ G W0 (cells8 G ad z.2) (some (.int z.1))) args sS 0 0 (x_in W0)) (F0 m 58 ls [.int y0']) := by
  intro s y0 z H locs ls hw hl hf
  unfold f_X8_earlier_p58 at hf
  refine lv_istore (lv' := [(4, .int y0), (0, .ref (ad 0))]) (pc := 58) E.1 E.2.1 dX8_earlier_58 hl (by decide) rfl (fun ls hl => ?_)
  refine lv_aload_n (pc := 60) E.1 E.2.1 dX8_earlier_60 rfl (lv_at hl 1 rfl) ?_
  obtain ⟨v1, g2, hf⟩ := x_bind hf
  refine x_callVA (pc := 61) (As := []) (rest := []) (st1 := []) (ws' := (cells8 G ad v1)) E hw hl (c_X8_takesBack l G ad s g2) xv_X8_269 xd_X8_takesBack rfl rfl ⟨Nat.le_of_ble_eq_true rfl, Nat.le_of_ble_eq_true rfl⟩ (q0 := 0) rfl rfl rfl rfl (Nat.le_of_ble_eq_true rfl) rfl rfl dX8_earlier_61 (fun H locs hw => ?_)
  refine lv_iload (pc := 64) E.1 E.2.1 dX8_earlier_64 (lv_at hl 0 rfl) ?_
  obtain rfl := Option.some.inj hf
  exact x_reti (pc := 66) E hr hk hw dX8_earlier_66
set_option maxHeartbeats 4000000 in
set_option maxRecDepth 100000 in
theorem w_X8_earlier_p0 {p : Program} {l : Launch} {e : Env} {sS : State} {m : MethodId} {args : Array Value} {below : List Frame} {meth : Method} {c : Code} {G : xG} {W0 : va_W} {ad : Nat → Nat}   (E : xE p sS m args c cX8_earlier 5 RX8 G (x_in W0)) (hr : meth.sig.returnType = (some .int)) (hk : meth.locks = false)  : ∀ (s' : S8) (x1' : Int32) (x2' : Int32) (x3' : Int32) (z : Int32 × S8) {H : Heap} {locs : List Loc} {ls : Array Slot}, xW G (x_in W0) sS.heap (cells8 G ad s') H locs → lv_has ls 5 [(0, .ref (ad 0)), (1, .int x1'), (2, .int x2'), (3, .int x3')] → f_X8_earlier  s' x1' x2' x3' = some z → W p l e (rm_X8_earlier) sS m args below meth c H locs 0 0 (MQ below (xQ G W0 (cells8 G ad z.2) (some (.int z.1))) args sS 0 0 (x_in W0)) (F0 m 0 ls []) := by
  intro s x1 x2 x3 z H locs ls hw hl hf
  unfold f_X8_earlier at hf
  refine lv_aload_n (pc := 0) E.1 E.2.1 dX8_earlier_0 rfl (lv_at hl 0 rfl) ?_
  refine lv_iload_n (pc := 1) E.1 E.2.1 dX8_earlier_1 rfl (lv_at hl 1 rfl) ?_
  obtain ⟨v1, g2, hf⟩ := x_bind hf
  refine x_callVA (pc := 2) (As := [.int x1]) (rest := []) (st1 := [.int v1]) (ws' := (cells8 G ad s)) E hw hl (c_X8_isFleet l G ad s x1 g2) xv_X8_115 xd_X8_isFleet rfl rfl ⟨Nat.le_of_ble_eq_true rfl, Nat.le_of_ble_eq_true rfl⟩ (q0 := 0) rfl rfl rfl rfl (Nat.le_of_ble_eq_true rfl) rfl rfl dX8_earlier_2 (fun H locs hw => ?_)
  refine lv_if_eq (tgt := 17) (pc := 5) E.1 E.2.1 dX8_earlier_5 (by decide) (fun q3 => ?_) (fun q3 => ?_)
  · have hf := x_pos q3 hf
    refine lv_iconst (v := (-1)) (pc := 17) E.1 E.2.1 dX8_earlier_17 (by decide) ?_
    obtain rfl := Option.some.inj hf
    exact x_reti (pc := 18) E hr hk hw dX8_earlier_18
  · have hf := x_neg q3 hf
    refine lv_iload_n (pc := 8) E.1 E.2.1 dX8_earlier_8 rfl (lv_at hl 2 rfl) ?_
    refine lv_iconst (v := 1) (pc := 9) E.1 E.2.1 dX8_earlier_9 (by decide) ?_
    refine lv_iconst (v := 5) (pc := 10) E.1 E.2.1 dX8_earlier_10 (by decide) ?_
    obtain ⟨v4, g5, hf⟩ := x_bind hf
    refine x_callS0 (pc := 11) (As := [.int x2, .int 1, .int 5]) (rest := []) (st1 := [.int v4]) E hw hl (c_X8_in l G  x2 1 5 g5) xs_X8_84 xd_X8_in rfl rfl ⟨Nat.le_of_ble_eq_true rfl, Nat.le_of_ble_eq_true rfl⟩ rfl rfl (Nat.le_of_ble_eq_true rfl) rfl dX8_earlier_11 (fun H locs hw => ?_)
    refine lv_if_ne (tgt := 19) (pc := 14) E.1 E.2.1 dX8_earlier_14 (by decide) (fun q6 => ?_) (fun q6 => ?_)
    · have hf := x_neg q6 hf
      refine lv_aload_n (pc := 19) E.1 E.2.1 dX8_earlier_19 rfl (lv_at hl 0 rfl) ?_
      obtain ⟨v7, g8, hf⟩ := x_bind hf
      refine x_callVA (pc := 20) (As := []) (rest := []) (st1 := []) (ws' := (cells8 G ad v7)) E hw hl (c_X8_putsAside l G ad s g8) xv_X8_260 xd_X8_putsAside rfl rfl ⟨Nat.le_of_ble_eq_true rfl, Nat.le_of_ble_eq_true rfl⟩ (q0 := 0) rfl rfl rfl rfl (Nat.le_of_ble_eq_true rfl) rfl rfl dX8_earlier_20 (fun H locs hw => ?_)
      refine lv_aload_n (pc := 23) E.1 E.2.1 dX8_earlier_23 rfl (lv_at hl 0 rfl) ?_
      refine lv_iload_n (pc := 24) E.1 E.2.1 dX8_earlier_24 rfl (lv_at hl 2 rfl) ?_
      obtain ⟨v9, g10, hf⟩ := x_bind hf
      refine x_callVA (pc := 25) (As := [.int x2]) (rest := []) (st1 := []) (ws' := (cells8 G ad v9)) E hw hl (c_X8_ends l G ad v7 x2 g10) xv_X8_263 xd_X8_ends rfl rfl ⟨Nat.le_of_ble_eq_true rfl, Nat.le_of_ble_eq_true rfl⟩ (q0 := 0) rfl rfl rfl rfl (Nat.le_of_ble_eq_true rfl) rfl rfl dX8_earlier_25 (fun H locs hw => ?_)
      refine lv_aload_n (pc := 28) E.1 E.2.1 dX8_earlier_28 rfl (lv_at hl 0 rfl) ?_
      refine lv_iload_n (pc := 29) E.1 E.2.1 dX8_earlier_29 rfl (lv_at hl 1 rfl) ?_
      obtain ⟨v11, g12, hf⟩ := x_bind hf
      refine x_callVA (pc := 30) (As := [.int x1]) (rest := []) (st1 := [.int v11]) (ws' := (cells8 G ad v9)) E hw hl (c_X8_isRated l G ad v9 x1 g12) xv_X8_236 xd_X8_isRated rfl rfl ⟨Nat.le_of_ble_eq_true rfl, Nat.le_of_ble_eq_true rfl⟩ (q0 := 0) rfl rfl rfl rfl (Nat.le_of_ble_eq_true rfl) rfl rfl dX8_earlier_30 (fun H locs hw => ?_)
      refine lv_if_ne (tgt := 41) (pc := 33) E.1 E.2.1 dX8_earlier_33 (by decide) (fun q13 => ?_) (fun q13 => ?_)
      · have hf := x_neg q13 hf
        refine lv_iload_n (pc := 41) E.1 E.2.1 dX8_earlier_41 rfl (lv_at hl 3 rfl) ?_
        refine lv_if_eq (tgt := 53) (pc := 42) E.1 E.2.1 dX8_earlier_42 (by decide) (fun q14 => ?_) (fun q14 => ?_)
        · have hf := x_pos q14 hf
          refine lv_aload_n (pc := 53) E.1 E.2.1 dX8_earlier_53 rfl (lv_at hl 0 rfl) ?_
          refine lv_iload_n (pc := 54) E.1 E.2.1 dX8_earlier_54 rfl (lv_at hl 1 rfl) ?_
          obtain ⟨v15, g16, hf⟩ := x_bind hf
          refine x_callVA (pc := 55) (As := [.int x1]) (rest := []) (st1 := [.int v15.1]) (ws' := (cells8 G ad v15.2)) E hw hl (c_X8_ratedNow l G ad v9 x1 g16) xv_X8_239 xd_X8_ratedNow rfl rfl ⟨Nat.le_of_ble_eq_true rfl, Nat.le_of_ble_eq_true rfl⟩ (q0 := 0) rfl rfl rfl rfl (Nat.le_of_ble_eq_true rfl) rfl rfl dX8_earlier_55 (fun H locs hw => ?_)
          exact w_X8_earlier_p58 E hr hk  v15.2 v15.1 z hw (lv_sub hl [0] rfl) hf
        · have hf := x_neg q14 hf
          refine lv_aload_n (pc := 45) E.1 E.2.1 dX8_earlier_45 rfl (lv_at hl 0 rfl) ?_
          refine lv_iload_n (pc := 46) E.1 E.2.1 dX8_earlier_46 rfl (lv_at hl 1 rfl) ?_
          obtain ⟨v17, g18, hf⟩ := x_bind hf
          refine x_callVA (pc := 47) (As := [.int x1]) (rest := []) (st1 := [.int v17.1]) (ws' := (cells8 G ad v17.2)) E hw hl (c_X8_sharedNow l G ad v9 x1 g18) xv_X8_266 xd_X8_sharedNow rfl rfl ⟨Nat.le_of_ble_eq_true rfl, Nat.le_of_ble_eq_true rfl⟩ (q0 := 0) rfl rfl rfl rfl (Nat.le_of_ble_eq_true rfl) rfl rfl dX8_earlier_47 (fun H locs hw => ?_)
          refine lv_goto (tgt := 58) (pc := 50) E.1 E.2.1 dX8_earlier_50 (by decide) ?_
          exact w_X8_earlier_p58 E hr hk  v17.2 v17.1 z hw (lv_sub hl [0] rfl) hf
      · have hf := x_pos q13 hf
        refine lv_bipush (v := (-2)) (pc := 36) E.1 E.2.1 dX8_earlier_36 (by decide) ?_
        refine lv_goto (tgt := 58) (pc := 38) E.1 E.2.1 dX8_earlier_38 (by decide) ?_
        exact w_X8_earlier_p58 E hr hk  v9 (-2) z hw (lv_sub hl [0] rfl) hf
    · have hf := x_pos q6 hf
      refine lv_iconst (v := (-1)) (pc := 17) E.1 E.2.1 dX8_earlier_17 (by decide) ?_
      obtain rfl := Option.some.inj hf
      exact x_reti (pc := 18) E hr hk hw dX8_earlier_18
set_option maxHeartbeats 4000000 in
set_option maxRecDepth 100000 in
theorem c_X8_earlier (l : Launch) (G : xG) (ad : Nat → Nat) (s : S8) (x1 : Int32) (x2 : Int32) (x3 : Int32) {z : Int32 × S8} (hf : f_X8_earlier s x1 x2 x3 = some z) : xC l yX8_earlier cX8_earlier 5 (some .int) (rm_X8_earlier) G [.ref (ad 0), .int x1, .int x2, .int x3] (cells8 G ad s) (some (.int z.1)) (cells8 G ad z.2) :=
  x_met (by decide) (Nat.le_of_ble_eq_true rfl) (fun p e sS m below meth c E hr hk ls hl hw => w_X8_earlier_p0 E hr hk s x1 x2 x3 z hw hl hf)
set_option maxHeartbeats 4000000 in
set_option maxRecDepth 100000 in
theorem w_X8_early_p0 {p : Program} {l : Launch} {e : Env} {sS : State} {m : MethodId} {args : Array Value} {below : List Frame} {meth : Method} {c : Code} {G : xG} {W0 : va_W} {ad : Nat → Nat}   (E : xE p sS m args c cX8_early 3 RX8 G (x_in W0)) (hr : meth.sig.returnType = (some .int)) (hk : meth.locks = false)  : ∀ (s' : S8) (x1' : Int32) (x2' : Int32) (z : Int32 × S8) {H : Heap} {locs : List Loc} {ls : Array Slot}, xW G (x_in W0) sS.heap (cells8 G ad s') H locs → lv_has ls 3 [(0, .ref (ad 0)), (1, .int x1'), (2, .int x2')] → f_X8_early  s' x1' x2' = some z → W p l e (rm_X8_early) sS m args below meth c H locs 0 0 (MQ below (xQ G W0 (cells8 G ad z.2) (some (.int z.1))) args sS 0 0 (x_in W0)) (F0 m 0 ls []) := by
  intro s x1 x2 z H locs ls hw hl hf
  unfold f_X8_early at hf
  refine lv_aload_n (pc := 0) E.1 E.2.1 dX8_early_0 rfl (lv_at hl 0 rfl) ?_
  refine lv_iload_n (pc := 1) E.1 E.2.1 dX8_early_1 rfl (lv_at hl 1 rfl) ?_
  refine lv_iload_n (pc := 2) E.1 E.2.1 dX8_early_2 rfl (lv_at hl 2 rfl) ?_
  refine lv_iconst (v := 0) (pc := 3) E.1 E.2.1 dX8_early_3 (by decide) ?_
  obtain ⟨v1, g2, hf⟩ := x_bind hf
  refine x_callVA (pc := 4) (As := [.int x1, .int x2, .int 0]) (rest := []) (st1 := [.int v1.1]) (ws' := (cells8 G ad v1.2)) E hw hl (c_X8_earlier l G ad s x1 x2 0 g2) xv_X8_272 xd_X8_earlier rfl rfl ⟨Nat.le_of_ble_eq_true rfl, Nat.le_of_ble_eq_true rfl⟩ (q0 := 0) rfl rfl rfl rfl (Nat.le_of_ble_eq_true rfl) rfl rfl dX8_early_4 (fun H locs hw => ?_)
  obtain rfl := Option.some.inj hf
  exact x_reti (pc := 7) E hr hk hw dX8_early_7
set_option maxHeartbeats 4000000 in
set_option maxRecDepth 100000 in
theorem c_X8_early (l : Launch) (G : xG) (ad : Nat → Nat) (s : S8) (x1 : Int32) (x2 : Int32) {z : Int32 × S8} (hf : f_X8_early s x1 x2 = some z) : xC l yX8_early cX8_early 3 (some .int) (rm_X8_early) G [.ref (ad 0), .int x1, .int x2] (cells8 G ad s) (some (.int z.1)) (cells8 G ad z.2) :=
  x_met (by decide) (Nat.le_of_ble_eq_true rfl) (fun p e sS m below meth c E hr hk ls hl hw => w_X8_early_p0 E hr hk s x1 x2 z hw hl hf)
set_option maxHeartbeats 4000000 in
set_option maxRecDepth 100000 in
theorem w_X8_earlyShare_p0 {p : Program} {l : Launch} {e : Env} {sS : State} {m : MethodId} {args : Array Value} {below : List Frame} {meth : Method} {c : Code} {G : xG} {W0 : va_W} {ad : Nat → Nat}   (E : xE p sS m args c cX8_earlyShare 3 RX8 G (x_in W0)) (hr : meth.sig.returnType = (some .int)) (hk : meth.locks = false)  : ∀ (s' : S8) (x1' : Int32) (x2' : Int32) (z : Int32 × S8) {H : Heap} {locs : List Loc} {ls : Array Slot}, xW G (x_in W0) sS.heap (cells8 G ad s') H locs → lv_has ls 3 [(0, .ref (ad 0)), (1, .int x1'), (2, .int x2')] → f_X8_earlyShare  s' x1' x2' = some z → W p l e (rm_X8_earlyShare) sS m args below meth c H locs 0 0 (MQ below (xQ G W0 (cells8 G ad z.2) (some (.int z.1))) args sS 0 0 (x_in W0)) (F0 m 0 ls []) := by
  intro s x1 x2 z H locs ls hw hl hf
  unfold f_X8_earlyShare at hf
  refine lv_aload_n (pc := 0) E.1 E.2.1 dX8_earlyShare_0 rfl (lv_at hl 0 rfl) ?_
  refine lv_iload_n (pc := 1) E.1 E.2.1 dX8_earlyShare_1 rfl (lv_at hl 1 rfl) ?_
  refine lv_iload_n (pc := 2) E.1 E.2.1 dX8_earlyShare_2 rfl (lv_at hl 2 rfl) ?_
  refine lv_iconst (v := 1) (pc := 3) E.1 E.2.1 dX8_earlyShare_3 (by decide) ?_
  obtain ⟨v1, g2, hf⟩ := x_bind hf
  refine x_callVA (pc := 4) (As := [.int x1, .int x2, .int 1]) (rest := []) (st1 := [.int v1.1]) (ws' := (cells8 G ad v1.2)) E hw hl (c_X8_earlier l G ad s x1 x2 1 g2) xv_X8_272 xd_X8_earlier rfl rfl ⟨Nat.le_of_ble_eq_true rfl, Nat.le_of_ble_eq_true rfl⟩ (q0 := 0) rfl rfl rfl rfl (Nat.le_of_ble_eq_true rfl) rfl rfl dX8_earlyShare_4 (fun H locs hw => ?_)
  obtain rfl := Option.some.inj hf
  exact x_reti (pc := 7) E hr hk hw dX8_earlyShare_7
set_option maxHeartbeats 4000000 in
set_option maxRecDepth 100000 in
theorem c_X8_earlyShare (l : Launch) (G : xG) (ad : Nat → Nat) (s : S8) (x1 : Int32) (x2 : Int32) {z : Int32 × S8} (hf : f_X8_earlyShare s x1 x2 = some z) : xC l yX8_earlyShare cX8_earlyShare 3 (some .int) (rm_X8_earlyShare) G [.ref (ad 0), .int x1, .int x2] (cells8 G ad s) (some (.int z.1)) (cells8 G ad z.2) :=
  x_met (by decide) (Nat.le_of_ble_eq_true rfl) (fun p e sS m below meth c E hr hk ls hl hw => w_X8_earlyShare_p0 E hr hk s x1 x2 z hw hl hf)
set_option maxHeartbeats 4000000 in
set_option maxRecDepth 100000 in
theorem w_X8_withoutFleet_p63 {p : Program} {l : Launch} {e : Env} {sS : State} {m : MethodId} {args : Array Value} {below : List Frame} {meth : Method} {c : Code} {G : xG} {W0 : va_W} {ad : Nat → Nat}   (E : xE p sS m args c cX8_withoutFleet 4 RX8 G (x_in W0)) (hr : meth.sig.returnType = (some .int)) (hk : meth.locks = false)  : ∀ (s' : S8) (y1' : Int32) (z : Int32 × S8) {H : Heap} {locs : List Loc} {ls : Array Slot}, xW G (x_in W0) sS.heap (cells8 G ad s') H locs → lv_has ls 4 [(0, .ref (ad 0))] → f_X8_withoutFleet_p63  s' y1' = some z → W p l e (rm_X8_withoutFleet) sS m args below meth c H locs 0 0 (MQ below (xQ G W0 (cells8 G ad z.2) (some (.int z.1))) args sS 0 0 (x_in W0)) (F0 m 63 ls [.int y1', .ref (ad 0)]) := by
  intro s y1 z H locs ls hw hl hf
  unfold f_X8_withoutFleet_p63 at hf
  obtain ⟨v1, g2, hf⟩ := x_bind hf
  refine x_callVA (pc := 63) (As := [.int y1]) (rest := []) (st1 := [.int v1.1]) (ws' := (cells8 G ad v1.2)) E hw hl (c_X8_ratedNow l G ad s y1 g2) xv_X8_239 xd_X8_ratedNow rfl rfl ⟨Nat.le_of_ble_eq_true rfl, Nat.le_of_ble_eq_true rfl⟩ (q0 := 0) rfl rfl rfl rfl (Nat.le_of_ble_eq_true rfl) rfl rfl dX8_withoutFleet_63 (fun H locs hw => ?_)
  refine lv_istore_n (lv' := [(3, .int v1.1), (0, .ref (ad 0))]) (pc := 66) E.1 E.2.1 dX8_withoutFleet_66 rfl hl (by decide) rfl (fun ls hl => ?_)
  refine lv_aload_n (pc := 67) E.1 E.2.1 dX8_withoutFleet_67 rfl (lv_at hl 1 rfl) ?_
  obtain ⟨v3, g4, hf⟩ := x_bind hf
  refine x_callVA (pc := 68) (As := []) (rest := []) (st1 := []) (ws' := (cells8 G ad v3)) E hw hl (c_X8_takesBack l G ad v1.2 g4) xv_X8_269 xd_X8_takesBack rfl rfl ⟨Nat.le_of_ble_eq_true rfl, Nat.le_of_ble_eq_true rfl⟩ (q0 := 0) rfl rfl rfl rfl (Nat.le_of_ble_eq_true rfl) rfl rfl dX8_withoutFleet_68 (fun H locs hw => ?_)
  refine lv_iload_n (pc := 71) E.1 E.2.1 dX8_withoutFleet_71 rfl (lv_at hl 0 rfl) ?_
  obtain rfl := Option.some.inj hf
  exact x_reti (pc := 72) E hr hk hw dX8_withoutFleet_72
set_option maxHeartbeats 4000000 in
set_option maxRecDepth 100000 in
theorem w_X8_withoutFleet_p0 {p : Program} {l : Launch} {e : Env} {sS : State} {m : MethodId} {args : Array Value} {below : List Frame} {meth : Method} {c : Code} {G : xG} {W0 : va_W} {ad : Nat → Nat}   (E : xE p sS m args c cX8_withoutFleet 4 RX8 G (x_in W0)) (hr : meth.sig.returnType = (some .int)) (hk : meth.locks = false)  : ∀ (s' : S8) (x1' : Int32) (x2' : Int32) (z : Int32 × S8) {H : Heap} {locs : List Loc} {ls : Array Slot}, xW G (x_in W0) sS.heap (cells8 G ad s') H locs → lv_has ls 4 [(0, .ref (ad 0)), (1, .int x1'), (2, .int x2')] → f_X8_withoutFleet  s' x1' x2' = some z → W p l e (rm_X8_withoutFleet) sS m args below meth c H locs 0 0 (MQ below (xQ G W0 (cells8 G ad z.2) (some (.int z.1))) args sS 0 0 (x_in W0)) (F0 m 0 ls []) := by
  intro s x1 x2 z H locs ls hw hl hf
  unfold f_X8_withoutFleet at hf
  refine lv_aload_n (pc := 0) E.1 E.2.1 dX8_withoutFleet_0 rfl (lv_at hl 0 rfl) ?_
  refine lv_iload_n (pc := 1) E.1 E.2.1 dX8_withoutFleet_1 rfl (lv_at hl 1 rfl) ?_
  obtain ⟨v1, g2, hf⟩ := x_bind hf
  refine x_callVA (pc := 2) (As := [.int x1]) (rest := []) (st1 := [.int v1]) (ws' := (cells8 G ad s)) E hw hl (c_X8_isFleet l G ad s x1 g2) xv_X8_115 xd_X8_isFleet rfl rfl ⟨Nat.le_of_ble_eq_true rfl, Nat.le_of_ble_eq_true rfl⟩ (q0 := 0) rfl rfl rfl rfl (Nat.le_of_ble_eq_true rfl) rfl rfl dX8_withoutFleet_2 (fun H locs hw => ?_)
  refine lv_if_eq (tgt := 21) (pc := 5) E.1 E.2.1 dX8_withoutFleet_5 (by decide) (fun q3 => ?_) (fun q3 => ?_)
  · have hf := x_pos q3 hf
    refine lv_iconst (v := (-1)) (pc := 21) E.1 E.2.1 dX8_withoutFleet_21 (by decide) ?_
    obtain rfl := Option.some.inj hf
    exact x_reti (pc := 22) E hr hk hw dX8_withoutFleet_22
  · have hf := x_neg q3 hf
    refine lv_aload_n (pc := 8) E.1 E.2.1 dX8_withoutFleet_8 rfl (lv_at hl 0 rfl) ?_
    refine lv_iload_n (pc := 9) E.1 E.2.1 dX8_withoutFleet_9 rfl (lv_at hl 2 rfl) ?_
    obtain ⟨v4, g5, hf⟩ := x_bind hf
    refine x_callVA (pc := 10) (As := [.int x2]) (rest := []) (st1 := [.int v4]) (ws' := (cells8 G ad s)) E hw hl (c_X8_isFleet l G ad s x2 g5) xv_X8_115 xd_X8_isFleet rfl rfl ⟨Nat.le_of_ble_eq_true rfl, Nat.le_of_ble_eq_true rfl⟩ (q0 := 0) rfl rfl rfl rfl (Nat.le_of_ble_eq_true rfl) rfl rfl dX8_withoutFleet_10 (fun H locs hw => ?_)
    refine lv_if_eq (tgt := 21) (pc := 13) E.1 E.2.1 dX8_withoutFleet_13 (by decide) (fun q6 => ?_) (fun q6 => ?_)
    · have hf := x_pos q6 hf
      refine lv_iconst (v := (-1)) (pc := 21) E.1 E.2.1 dX8_withoutFleet_21 (by decide) ?_
      obtain rfl := Option.some.inj hf
      exact x_reti (pc := 22) E hr hk hw dX8_withoutFleet_22
    · have hf := x_neg q6 hf
      refine lv_iload_n (pc := 16) E.1 E.2.1 dX8_withoutFleet_16 rfl (lv_at hl 1 rfl) ?_
      refine lv_iload_n (pc := 17) E.1 E.2.1 dX8_withoutFleet_17 rfl (lv_at hl 2 rfl) ?_
      refine lv_icmp_ne (tgt := 23) (pc := 18) E.1 E.2.1 dX8_withoutFleet_18 (by decide) (fun q7 => ?_) (fun q7 => ?_)
      · have hf := x_neg q7 hf
        refine lv_aload_n (pc := 23) E.1 E.2.1 dX8_withoutFleet_23 rfl (lv_at hl 0 rfl) ?_
        refine lv_iload_n (pc := 24) E.1 E.2.1 dX8_withoutFleet_24 rfl (lv_at hl 1 rfl) ?_
        obtain ⟨v8, g9, hf⟩ := x_bind hf
        refine x_callVA (pc := 25) (As := [.int x1]) (rest := []) (st1 := [.int v8]) (ws' := (cells8 G ad s)) E hw hl (c_X8_isRated l G ad s x1 g9) xv_X8_236 xd_X8_isRated rfl rfl ⟨Nat.le_of_ble_eq_true rfl, Nat.le_of_ble_eq_true rfl⟩ (q0 := 0) rfl rfl rfl rfl (Nat.le_of_ble_eq_true rfl) rfl rfl dX8_withoutFleet_25 (fun H locs hw => ?_)
        refine lv_if_ne (tgt := 34) (pc := 28) E.1 E.2.1 dX8_withoutFleet_28 (by decide) (fun q10 => ?_) (fun q10 => ?_)
        · have hf := x_neg q10 hf
          refine lv_aload_n (pc := 34) E.1 E.2.1 dX8_withoutFleet_34 rfl (lv_at hl 0 rfl) ?_
          obtain ⟨v11, g12, hf⟩ := x_bind hf
          refine x_callVA (pc := 35) (As := []) (rest := []) (st1 := []) (ws' := (cells8 G ad v11)) E hw hl (c_X8_putsAside l G ad s g12) xv_X8_260 xd_X8_putsAside rfl rfl ⟨Nat.le_of_ble_eq_true rfl, Nat.le_of_ble_eq_true rfl⟩ (q0 := 0) rfl rfl rfl rfl (Nat.le_of_ble_eq_true rfl) rfl rfl dX8_withoutFleet_35 (fun H locs hw => ?_)
          refine lv_aload_n (pc := 38) E.1 E.2.1 dX8_withoutFleet_38 rfl (lv_at hl 0 rfl) ?_
          refine lv_iload_n (pc := 39) E.1 E.2.1 dX8_withoutFleet_39 rfl (lv_at hl 2 rfl) ?_
          refine lv_iconst (v := (-1)) (pc := 40) E.1 E.2.1 dX8_withoutFleet_40 (by decide) ?_
          obtain ⟨v13, g14, hf⟩ := x_bind hf
          refine x_callVA (pc := 41) (As := [.int x2, .int (-1)]) (rest := []) (st1 := [.int v13.1]) (ws' := (cells8 G ad v13.2)) E hw hl (c_X8_dropsAll l G ad v11 x2 (-1) g14) xv_X8_118 xd_X8_dropsAll rfl rfl ⟨Nat.le_of_ble_eq_true rfl, Nat.le_of_ble_eq_true rfl⟩ (q0 := 0) rfl rfl rfl rfl (Nat.le_of_ble_eq_true rfl) rfl rfl dX8_withoutFleet_41 (fun H locs hw => ?_)
          refine lv_pop (pc := 44) E.1 E.2.1 dX8_withoutFleet_44 rfl ?_
          refine lv_aload_n (pc := 45) E.1 E.2.1 dX8_withoutFleet_45 rfl (lv_at hl 0 rfl) ?_
          refine lv_iload_n (pc := 46) E.1 E.2.1 dX8_withoutFleet_46 rfl (lv_at hl 2 rfl) ?_
          obtain ⟨v15, g16, hf⟩ := x_bind hf
          refine x_callVA (pc := 47) (As := [.int x2]) (rest := []) (st1 := []) (ws' := (cells8 G ad v15)) E hw hl (c_X8_goes l G ad v13.2 x2 g16) xv_X8_122 xd_X8_goes rfl rfl ⟨Nat.le_of_ble_eq_true rfl, Nat.le_of_ble_eq_true rfl⟩ (q0 := 0) rfl rfl rfl rfl (Nat.le_of_ble_eq_true rfl) rfl rfl dX8_withoutFleet_47 (fun H locs hw => ?_)
          refine lv_aload_n (pc := 50) E.1 E.2.1 dX8_withoutFleet_50 rfl (lv_at hl 0 rfl) ?_
          refine lv_iload_n (pc := 51) E.1 E.2.1 dX8_withoutFleet_51 rfl (lv_at hl 2 rfl) ?_
          refine lv_iload_n (pc := 52) E.1 E.2.1 dX8_withoutFleet_52 rfl (lv_at hl 1 rfl) ?_
          refine lv_icmp_ge (tgt := 62) (pc := 53) E.1 E.2.1 dX8_withoutFleet_53 (by decide) (fun q17 => ?_) (fun q17 => ?_)
          · have hf := x_pos q17 hf
            refine lv_iload_n (pc := 62) E.1 E.2.1 dX8_withoutFleet_62 rfl (lv_at hl 1 rfl) ?_
            exact w_X8_withoutFleet_p63 E hr hk  v15 x1 z hw (lv_sub hl [0] rfl) hf
          · have hf := x_neg q17 hf
            refine lv_iload_n (pc := 56) E.1 E.2.1 dX8_withoutFleet_56 rfl (lv_at hl 1 rfl) ?_
            refine lv_iconst (v := 1) (pc := 57) E.1 E.2.1 dX8_withoutFleet_57 (by decide) ?_
            refine lv_isub (pc := 58) E.1 E.2.1 dX8_withoutFleet_58 ?_
            refine lv_goto (tgt := 63) (pc := 59) E.1 E.2.1 dX8_withoutFleet_59 (by decide) ?_
            exact w_X8_withoutFleet_p63 E hr hk  v15 (x1 - 1) z hw (lv_sub hl [0] rfl) hf
        · have hf := x_pos q10 hf
          refine lv_bipush (v := (-2)) (pc := 31) E.1 E.2.1 dX8_withoutFleet_31 (by decide) ?_
          obtain rfl := Option.some.inj hf
          exact x_reti (pc := 33) E hr hk hw dX8_withoutFleet_33
      · have hf := x_pos q7 hf
        refine lv_iconst (v := (-1)) (pc := 21) E.1 E.2.1 dX8_withoutFleet_21 (by decide) ?_
        obtain rfl := Option.some.inj hf
        exact x_reti (pc := 22) E hr hk hw dX8_withoutFleet_22
set_option maxHeartbeats 4000000 in
set_option maxRecDepth 100000 in
theorem c_X8_withoutFleet (l : Launch) (G : xG) (ad : Nat → Nat) (s : S8) (x1 : Int32) (x2 : Int32) {z : Int32 × S8} (hf : f_X8_withoutFleet s x1 x2 = some z) : xC l yX8_withoutFleet cX8_withoutFleet 4 (some .int) (rm_X8_withoutFleet) G [.ref (ad 0), .int x1, .int x2] (cells8 G ad s) (some (.int z.1)) (cells8 G ad z.2) :=
  x_met (by decide) (Nat.le_of_ble_eq_true rfl) (fun p e sS m below meth c E hr hk ls hl hw => w_X8_withoutFleet_p0 E hr hk s x1 x2 z hw hl hf)
set_option maxHeartbeats 4000000 in
set_option maxRecDepth 100000 in
theorem w_X8_joined_p0 {p : Program} {l : Launch} {e : Env} {sS : State} {m : MethodId} {args : Array Value} {below : List Frame} {meth : Method} {c : Code} {G : xG} {W0 : va_W} {ad : Nat → Nat}   (E : xE p sS m args c cX8_joined 7 RX8 G (x_in W0)) (hr : meth.sig.returnType = (some .long)) (hk : meth.locks = false)  : ∀ (s' : S8) (x1' : Int32) (x2' : Int32) (x3' : Int32) (x4' : Int32) (z : Int64 × S8) {H : Heap} {locs : List Loc} {ls : Array Slot}, xW G (x_in W0) sS.heap (cells8 G ad s') H locs → lv_has ls 7 [(0, .ref (ad 0)), (1, .int x1'), (2, .int x2'), (3, .int x3'), (4, .int x4')] → f_X8_joined  s' x1' x2' x3' x4' = some z → W p l e (rm_X8_joined) sS m args below meth c H locs 0 0 (MQ below (xQ G W0 (cells8 G ad z.2) (some (.long z.1))) args sS 0 0 (x_in W0)) (F0 m 0 ls []) := by
  intro s x1 x2 x3 x4 z H locs ls hw hl hf
  unfold f_X8_joined at hf
  refine lv_iload_n (pc := 0) E.1 E.2.1 dX8_joined_0 rfl (lv_at hl 1 rfl) ?_
  obtain ⟨v1, g2, hf⟩ := x_bind hf
  refine x_callS0 (pc := 1) (As := [.int x1]) (rest := []) (st1 := [.int v1]) E hw hl (c_X8_isClass l G  x1 g2) xs_X8_108 xd_X8_isClass rfl rfl ⟨Nat.le_of_ble_eq_true rfl, Nat.le_of_ble_eq_true rfl⟩ rfl rfl (Nat.le_of_ble_eq_true rfl) rfl dX8_joined_1 (fun H locs hw => ?_)
  refine lv_if_eq (tgt := 28) (pc := 4) E.1 E.2.1 dX8_joined_4 (by decide) (fun q3 => ?_) (fun q3 => ?_)
  · have hf := x_pos q3 hf
    refine lv_ldc2 (v := (-1000000000)) (pc := 28) E.1 E.2.1 E.2.2.2.1 (E.2.2.2.2.1 _ wq_1520) dX8_joined_28 ?_
    obtain rfl := Option.some.inj hf
    exact x_retl (pc := 31) E hr hk hw dX8_joined_31
  · have hf := x_neg q3 hf
    refine lv_iload_n (pc := 7) E.1 E.2.1 dX8_joined_7 rfl (lv_at hl 2 rfl) ?_
    obtain ⟨v4, g5, hf⟩ := x_bind hf
    refine x_callS0 (pc := 8) (As := [.int x2]) (rest := []) (st1 := [.int v4]) E hw hl (c_X8_isClass l G  x2 g5) xs_X8_108 xd_X8_isClass rfl rfl ⟨Nat.le_of_ble_eq_true rfl, Nat.le_of_ble_eq_true rfl⟩ rfl rfl (Nat.le_of_ble_eq_true rfl) rfl dX8_joined_8 (fun H locs hw => ?_)
    refine lv_if_eq (tgt := 28) (pc := 11) E.1 E.2.1 dX8_joined_11 (by decide) (fun q6 => ?_) (fun q6 => ?_)
    · have hf := x_pos q6 hf
      refine lv_ldc2 (v := (-1000000000)) (pc := 28) E.1 E.2.1 E.2.2.2.1 (E.2.2.2.2.1 _ wq_1520) dX8_joined_28 ?_
      obtain rfl := Option.some.inj hf
      exact x_retl (pc := 31) E hr hk hw dX8_joined_31
    · have hf := x_neg q6 hf
      refine lv_iload_n (pc := 14) E.1 E.2.1 dX8_joined_14 rfl (lv_at hl 1 rfl) ?_
      refine lv_iload_n (pc := 15) E.1 E.2.1 dX8_joined_15 rfl (lv_at hl 2 rfl) ?_
      refine lv_icmp_eq (tgt := 28) (pc := 16) E.1 E.2.1 dX8_joined_16 (by decide) (fun q7 => ?_) (fun q7 => ?_)
      · have hf := x_pos q7 hf
        refine lv_ldc2 (v := (-1000000000)) (pc := 28) E.1 E.2.1 E.2.2.2.1 (E.2.2.2.2.1 _ wq_1520) dX8_joined_28 ?_
        obtain rfl := Option.some.inj hf
        exact x_retl (pc := 31) E hr hk hw dX8_joined_31
      · have hf := x_neg q7 hf
        refine lv_iload_n (pc := 19) E.1 E.2.1 dX8_joined_19 rfl (lv_at hl 3 rfl) ?_
        refine lv_iconst (v := 0) (pc := 20) E.1 E.2.1 dX8_joined_20 (by decide) ?_
        refine lv_iconst (v := 4) (pc := 21) E.1 E.2.1 dX8_joined_21 (by decide) ?_
        obtain ⟨v8, g9, hf⟩ := x_bind hf
        refine x_callS0 (pc := 22) (As := [.int x3, .int 0, .int 4]) (rest := []) (st1 := [.int v8]) E hw hl (c_X8_in l G  x3 0 4 g9) xs_X8_84 xd_X8_in rfl rfl ⟨Nat.le_of_ble_eq_true rfl, Nat.le_of_ble_eq_true rfl⟩ rfl rfl (Nat.le_of_ble_eq_true rfl) rfl dX8_joined_22 (fun H locs hw => ?_)
        refine lv_if_ne (tgt := 32) (pc := 25) E.1 E.2.1 dX8_joined_25 (by decide) (fun q10 => ?_) (fun q10 => ?_)
        · have hf := x_neg q10 hf
          refine lv_aload_n (pc := 32) E.1 E.2.1 dX8_joined_32 rfl (lv_at hl 0 rfl) ?_
          obtain ⟨v11, g12, hf⟩ := x_bind hf
          refine x_callVA (pc := 33) (As := []) (rest := []) (st1 := []) (ws' := (cells8 G ad v11)) E hw hl (c_X8_putsAside l G ad s g12) xv_X8_260 xd_X8_putsAside rfl rfl ⟨Nat.le_of_ble_eq_true rfl, Nat.le_of_ble_eq_true rfl⟩ (q0 := 0) rfl rfl rfl rfl (Nat.le_of_ble_eq_true rfl) rfl rfl dX8_joined_33 (fun H locs hw => ?_)
          refine lv_aload_n (pc := 36) E.1 E.2.1 dX8_joined_36 rfl (lv_at hl 0 rfl) ?_
          refine lv_iload_n (pc := 37) E.1 E.2.1 dX8_joined_37 rfl (lv_at hl 1 rfl) ?_
          refine lv_iload_n (pc := 38) E.1 E.2.1 dX8_joined_38 rfl (lv_at hl 2 rfl) ?_
          obtain ⟨v13, g14, hf⟩ := x_bind hf
          refine x_callVA (pc := 39) (As := [.int x1, .int x2]) (rest := []) (st1 := []) (ws' := (cells8 G ad v13)) E hw hl (c_X8_joins l G ad v11 x1 x2 g14) xv_X8_150 xd_X8_joins rfl rfl ⟨Nat.le_of_ble_eq_true rfl, Nat.le_of_ble_eq_true rfl⟩ (q0 := 0) rfl rfl rfl rfl (Nat.le_of_ble_eq_true rfl) rfl rfl dX8_joined_39 (fun H locs hw => ?_)
          refine lv_aload_n (pc := 42) E.1 E.2.1 dX8_joined_42 rfl (lv_at hl 0 rfl) ?_
          refine lv_iload_n (pc := 43) E.1 E.2.1 dX8_joined_43 rfl (lv_at hl 2 rfl) ?_
          refine lv_iload_n (pc := 44) E.1 E.2.1 dX8_joined_44 rfl (lv_at hl 3 rfl) ?_
          refine lv_iload (pc := 45) E.1 E.2.1 dX8_joined_45 (lv_at hl 4 rfl) ?_
          obtain ⟨v15, g16, hf⟩ := x_bind hf
          refine x_callVA (pc := 47) (As := [.int x2, .int x3, .int x4]) (rest := []) (st1 := [.long v15.1]) (ws' := (cells8 G ad v15.2)) E hw hl (c_X8_spreadNow l G ad v13 x2 x3 x4 g16) xv_X8_232 xd_X8_spreadNow rfl rfl ⟨Nat.le_of_ble_eq_true rfl, Nat.le_of_ble_eq_true rfl⟩ (q0 := 0) rfl rfl rfl rfl (Nat.le_of_ble_eq_true rfl) rfl rfl dX8_joined_47 (fun H locs hw => ?_)
          refine lv_lstore (lv' := [(5, .long v15.1), (0, .ref (ad 0)), (1, .int x1), (2, .int x2), (3, .int x3), (4, .int x4)]) (pc := 50) E.1 E.2.1 dX8_joined_50 hl (by decide) rfl (fun ls hl => ?_)
          refine lv_aload_n (pc := 52) E.1 E.2.1 dX8_joined_52 rfl (lv_at hl 1 rfl) ?_
          obtain ⟨v17, g18, hf⟩ := x_bind hf
          refine x_callVA (pc := 53) (As := []) (rest := []) (st1 := []) (ws' := (cells8 G ad v17)) E hw hl (c_X8_takesBack l G ad v15.2 g18) xv_X8_269 xd_X8_takesBack rfl rfl ⟨Nat.le_of_ble_eq_true rfl, Nat.le_of_ble_eq_true rfl⟩ (q0 := 0) rfl rfl rfl rfl (Nat.le_of_ble_eq_true rfl) rfl rfl dX8_joined_53 (fun H locs hw => ?_)
          refine lv_lload (pc := 56) E.1 E.2.1 dX8_joined_56 (lv_at hl 0 rfl) ?_
          obtain rfl := Option.some.inj hf
          exact x_retl (pc := 58) E hr hk hw dX8_joined_58
        · have hf := x_pos q10 hf
          refine lv_ldc2 (v := (-1000000000)) (pc := 28) E.1 E.2.1 E.2.2.2.1 (E.2.2.2.2.1 _ wq_1520) dX8_joined_28 ?_
          obtain rfl := Option.some.inj hf
          exact x_retl (pc := 31) E hr hk hw dX8_joined_31
set_option maxHeartbeats 4000000 in
set_option maxRecDepth 100000 in
theorem c_X8_joined (l : Launch) (G : xG) (ad : Nat → Nat) (s : S8) (x1 : Int32) (x2 : Int32) (x3 : Int32) (x4 : Int32) {z : Int64 × S8} (hf : f_X8_joined s x1 x2 x3 x4 = some z) : xC l yX8_joined cX8_joined 7 (some .long) (rm_X8_joined) G [.ref (ad 0), .int x1, .int x2, .int x3, .int x4] (cells8 G ad s) (some (.long z.1)) (cells8 G ad z.2) :=
  x_met (by decide) (Nat.le_of_ble_eq_true rfl) (fun p e sS m below meth c E hr hk ls hl hw => w_X8_joined_p0 E hr hk s x1 x2 x3 x4 z hw hl hf)
set_option maxHeartbeats 4000000 in
set_option maxRecDepth 100000 in
theorem w_X8_ratedWithout_p0 {p : Program} {l : Launch} {e : Env} {sS : State} {m : MethodId} {args : Array Value} {below : List Frame} {meth : Method} {c : Code} {G : xG} {W0 : va_W} {ad : Nat → Nat}   (E : xE p sS m args c cX8_ratedWithout 4 RX8 G (x_in W0)) (hr : meth.sig.returnType = (some .int)) (hk : meth.locks = false)  : ∀ (s' : S8) (x1' : Int32) (x2' : Int32) (z : Int32 × S8) {H : Heap} {locs : List Loc} {ls : Array Slot}, xW G (x_in W0) sS.heap (cells8 G ad s') H locs → lv_has ls 4 [(0, .ref (ad 0)), (1, .int x1'), (2, .int x2')] → f_X8_ratedWithout  s' x1' x2' = some z → W p l e (rm_X8_ratedWithout) sS m args below meth c H locs 0 0 (MQ below (xQ G W0 (cells8 G ad z.2) (some (.int z.1))) args sS 0 0 (x_in W0)) (F0 m 0 ls []) := by
  intro s x1 x2 z H locs ls hw hl hf
  unfold f_X8_ratedWithout at hf
  refine lv_aload_n (pc := 0) E.1 E.2.1 dX8_ratedWithout_0 rfl (lv_at hl 0 rfl) ?_
  obtain ⟨v1, g2, hf⟩ := x_bind hf
  refine x_callVA (pc := 1) (As := []) (rest := []) (st1 := []) (ws' := (cells8 G ad v1)) E hw hl (c_X8_putsAside l G ad s g2) xv_X8_260 xd_X8_putsAside rfl rfl ⟨Nat.le_of_ble_eq_true rfl, Nat.le_of_ble_eq_true rfl⟩ (q0 := 0) rfl rfl rfl rfl (Nat.le_of_ble_eq_true rfl) rfl rfl dX8_ratedWithout_1 (fun H locs hw => ?_)
  refine lv_aload_n (pc := 4) E.1 E.2.1 dX8_ratedWithout_4 rfl (lv_at hl 0 rfl) ?_
  refine lv_iload_n (pc := 5) E.1 E.2.1 dX8_ratedWithout_5 rfl (lv_at hl 2 rfl) ?_
  obtain ⟨v3, g4, hf⟩ := x_bind hf
  refine x_callVA (pc := 6) (As := [.int x2]) (rest := []) (st1 := []) (ws' := (cells8 G ad v3)) E hw hl (c_X8_drops l G ad v1 x2 g4) xv_X8_104 xd_X8_drops rfl rfl ⟨Nat.le_of_ble_eq_true rfl, Nat.le_of_ble_eq_true rfl⟩ (q0 := 0) rfl rfl rfl rfl (Nat.le_of_ble_eq_true rfl) rfl rfl dX8_ratedWithout_6 (fun H locs hw => ?_)
  refine lv_aload_n (pc := 9) E.1 E.2.1 dX8_ratedWithout_9 rfl (lv_at hl 0 rfl) ?_
  refine lv_iload_n (pc := 10) E.1 E.2.1 dX8_ratedWithout_10 rfl (lv_at hl 1 rfl) ?_
  obtain ⟨v5, g6, hf⟩ := x_bind hf
  refine x_callVA (pc := 11) (As := [.int x1]) (rest := []) (st1 := [.int v5.1]) (ws' := (cells8 G ad v5.2)) E hw hl (c_X8_ratedNow l G ad v3 x1 g6) xv_X8_239 xd_X8_ratedNow rfl rfl ⟨Nat.le_of_ble_eq_true rfl, Nat.le_of_ble_eq_true rfl⟩ (q0 := 0) rfl rfl rfl rfl (Nat.le_of_ble_eq_true rfl) rfl rfl dX8_ratedWithout_11 (fun H locs hw => ?_)
  refine lv_istore_n (lv' := [(3, .int v5.1), (0, .ref (ad 0)), (1, .int x1), (2, .int x2)]) (pc := 14) E.1 E.2.1 dX8_ratedWithout_14 rfl hl (by decide) rfl (fun ls hl => ?_)
  refine lv_aload_n (pc := 15) E.1 E.2.1 dX8_ratedWithout_15 rfl (lv_at hl 1 rfl) ?_
  obtain ⟨v7, g8, hf⟩ := x_bind hf
  refine x_callVA (pc := 16) (As := []) (rest := []) (st1 := []) (ws' := (cells8 G ad v7)) E hw hl (c_X8_takesBack l G ad v5.2 g8) xv_X8_269 xd_X8_takesBack rfl rfl ⟨Nat.le_of_ble_eq_true rfl, Nat.le_of_ble_eq_true rfl⟩ (q0 := 0) rfl rfl rfl rfl (Nat.le_of_ble_eq_true rfl) rfl rfl dX8_ratedWithout_16 (fun H locs hw => ?_)
  refine lv_iload_n (pc := 19) E.1 E.2.1 dX8_ratedWithout_19 rfl (lv_at hl 0 rfl) ?_
  obtain rfl := Option.some.inj hf
  exact x_reti (pc := 20) E hr hk hw dX8_ratedWithout_20
set_option maxHeartbeats 4000000 in
set_option maxRecDepth 100000 in
theorem c_X8_ratedWithout (l : Launch) (G : xG) (ad : Nat → Nat) (s : S8) (x1 : Int32) (x2 : Int32) {z : Int32 × S8} (hf : f_X8_ratedWithout s x1 x2 = some z) : xC l yX8_ratedWithout cX8_ratedWithout 4 (some .int) (rm_X8_ratedWithout) G [.ref (ad 0), .int x1, .int x2] (cells8 G ad s) (some (.int z.1)) (cells8 G ad z.2) :=
  x_met (by decide) (Nat.le_of_ble_eq_true rfl) (fun p e sS m below meth c E hr hk ls hl hw => w_X8_ratedWithout_p0 E hr hk s x1 x2 z hw hl hf)
set_option maxHeartbeats 4000000 in
set_option maxRecDepth 100000 in
theorem w_X8_withoutClaim_p0 {p : Program} {l : Launch} {e : Env} {sS : State} {m : MethodId} {args : Array Value} {below : List Frame} {meth : Method} {c : Code} {G : xG} {W0 : va_W} {ad : Nat → Nat}   (E : xE p sS m args c cX8_withoutClaim 3 RX8 G (x_in W0)) (hr : meth.sig.returnType = (some .int)) (hk : meth.locks = false)  : ∀ (s' : S8) (x1' : Int32) (x2' : Int32) (z : Int32 × S8) {H : Heap} {locs : List Loc} {ls : Array Slot}, xW G (x_in W0) sS.heap (cells8 G ad s') H locs → lv_has ls 3 [(0, .ref (ad 0)), (1, .int x1'), (2, .int x2')] → f_X8_withoutClaim  s' x1' x2' = some z → W p l e (rm_X8_withoutClaim) sS m args below meth c H locs 0 0 (MQ below (xQ G W0 (cells8 G ad z.2) (some (.int z.1))) args sS 0 0 (x_in W0)) (F0 m 0 ls []) := by
  intro s x1 x2 z H locs ls hw hl hf
  unfold f_X8_withoutClaim at hf
  refine lv_aload_n (pc := 0) E.1 E.2.1 dX8_withoutClaim_0 rfl (lv_at hl 0 rfl) ?_
  refine lv_iload_n (pc := 1) E.1 E.2.1 dX8_withoutClaim_1 rfl (lv_at hl 1 rfl) ?_
  obtain ⟨v1, g2, hf⟩ := x_bind hf
  refine x_callVA (pc := 2) (As := [.int x1]) (rest := []) (st1 := [.int v1]) (ws' := (cells8 G ad s)) E hw hl (c_X8_isFleet l G ad s x1 g2) xv_X8_115 xd_X8_isFleet rfl rfl ⟨Nat.le_of_ble_eq_true rfl, Nat.le_of_ble_eq_true rfl⟩ (q0 := 0) rfl rfl rfl rfl (Nat.le_of_ble_eq_true rfl) rfl rfl dX8_withoutClaim_2 (fun H locs hw => ?_)
  refine lv_if_eq (tgt := 16) (pc := 5) E.1 E.2.1 dX8_withoutClaim_5 (by decide) (fun q3 => ?_) (fun q3 => ?_)
  · have hf := x_pos q3 hf
    refine lv_iconst (v := (-1)) (pc := 16) E.1 E.2.1 dX8_withoutClaim_16 (by decide) ?_
    obtain rfl := Option.some.inj hf
    exact x_reti (pc := 17) E hr hk hw dX8_withoutClaim_17
  · have hf := x_neg q3 hf
    refine lv_aload_n (pc := 8) E.1 E.2.1 dX8_withoutClaim_8 rfl (lv_at hl 0 rfl) ?_
    refine lv_iload_n (pc := 9) E.1 E.2.1 dX8_withoutClaim_9 rfl (lv_at hl 2 rfl) ?_
    obtain ⟨v4, g5, hf⟩ := x_bind hf
    refine x_callVA (pc := 10) (As := [.int x2]) (rest := []) (st1 := [.int v4]) (ws' := (cells8 G ad s)) E hw hl (c_X8_isClaim l G ad s x2 g5) xv_X8_147 xd_X8_isClaim rfl rfl ⟨Nat.le_of_ble_eq_true rfl, Nat.le_of_ble_eq_true rfl⟩ (q0 := 0) rfl rfl rfl rfl (Nat.le_of_ble_eq_true rfl) rfl rfl dX8_withoutClaim_10 (fun H locs hw => ?_)
    refine lv_if_ne (tgt := 18) (pc := 13) E.1 E.2.1 dX8_withoutClaim_13 (by decide) (fun q6 => ?_) (fun q6 => ?_)
    · have hf := x_neg q6 hf
      refine lv_aload_n (pc := 18) E.1 E.2.1 dX8_withoutClaim_18 rfl (lv_at hl 0 rfl) ?_
      refine lv_iload_n (pc := 19) E.1 E.2.1 dX8_withoutClaim_19 rfl (lv_at hl 1 rfl) ?_
      obtain ⟨v7, g8, hf⟩ := x_bind hf
      refine x_callVA (pc := 20) (As := [.int x1]) (rest := []) (st1 := [.int v7]) (ws' := (cells8 G ad s)) E hw hl (c_X8_isRated l G ad s x1 g8) xv_X8_236 xd_X8_isRated rfl rfl ⟨Nat.le_of_ble_eq_true rfl, Nat.le_of_ble_eq_true rfl⟩ (q0 := 0) rfl rfl rfl rfl (Nat.le_of_ble_eq_true rfl) rfl rfl dX8_withoutClaim_20 (fun H locs hw => ?_)
      refine lv_if_eq (tgt := 35) (pc := 23) E.1 E.2.1 dX8_withoutClaim_23 (by decide) (fun q9 => ?_) (fun q9 => ?_)
      · have hf := x_pos q9 hf
        refine lv_bipush (v := (-2)) (pc := 35) E.1 E.2.1 dX8_withoutClaim_35 (by decide) ?_
        obtain rfl := Option.some.inj hf
        exact x_reti (pc := 37) E hr hk hw dX8_withoutClaim_37
      · have hf := x_neg q9 hf
        refine lv_aload_n (pc := 26) E.1 E.2.1 dX8_withoutClaim_26 rfl (lv_at hl 0 rfl) ?_
        refine lv_iload_n (pc := 27) E.1 E.2.1 dX8_withoutClaim_27 rfl (lv_at hl 1 rfl) ?_
        refine lv_iload_n (pc := 28) E.1 E.2.1 dX8_withoutClaim_28 rfl (lv_at hl 2 rfl) ?_
        obtain ⟨v10, g11, hf⟩ := x_bind hf
        refine x_callVA (pc := 29) (As := [.int x1, .int x2]) (rest := []) (st1 := [.int v10.1]) (ws' := (cells8 G ad v10.2)) E hw hl (c_X8_ratedWithout l G ad s x1 x2 g11) xv_X8_276 xd_X8_ratedWithout rfl rfl ⟨Nat.le_of_ble_eq_true rfl, Nat.le_of_ble_eq_true rfl⟩ (q0 := 0) rfl rfl rfl rfl (Nat.le_of_ble_eq_true rfl) rfl rfl dX8_withoutClaim_29 (fun H locs hw => ?_)
        refine lv_goto (tgt := 37) (pc := 32) E.1 E.2.1 dX8_withoutClaim_32 (by decide) ?_
        obtain rfl := Option.some.inj hf
        exact x_reti (pc := 37) E hr hk hw dX8_withoutClaim_37
    · have hf := x_pos q6 hf
      refine lv_iconst (v := (-1)) (pc := 16) E.1 E.2.1 dX8_withoutClaim_16 (by decide) ?_
      obtain rfl := Option.some.inj hf
      exact x_reti (pc := 17) E hr hk hw dX8_withoutClaim_17
set_option maxHeartbeats 4000000 in
set_option maxRecDepth 100000 in
theorem c_X8_withoutClaim (l : Launch) (G : xG) (ad : Nat → Nat) (s : S8) (x1 : Int32) (x2 : Int32) {z : Int32 × S8} (hf : f_X8_withoutClaim s x1 x2 = some z) : xC l yX8_withoutClaim cX8_withoutClaim 3 (some .int) (rm_X8_withoutClaim) G [.ref (ad 0), .int x1, .int x2] (cells8 G ad s) (some (.int z.1)) (cells8 G ad z.2) :=
  x_met (by decide) (Nat.le_of_ble_eq_true rfl) (fun p e sS m below meth c E hr hk ls hl hw => w_X8_withoutClaim_p0 E hr hk s x1 x2 z hw hl hf)
set_option maxHeartbeats 4000000 in
set_option maxRecDepth 100000 in
theorem w_X8_dearest_p7 {p : Program} {l : Launch} {e : Env} {sS : State} {m : MethodId} {args : Array Value} {below : List Frame} {meth : Method} {c : Code} {G : xG} {W0 : va_W} {ad : Nat → Nat}  {k7 : S8 → Int32 → Int32 → Int32 → Option (Int32 × S8)} (E : xE p sS m args c cX8_dearest 5 RX8 G (x_in W0)) (hr : meth.sig.returnType = (some .int)) (hk : meth.locks = false) (hk7 : ∀ (s' : S8) (x1' : Int32) (x2' : Int32) (x3' : Int32) (z : Int32 × S8) {H : Heap} {locs : List Loc} {ls : Array Slot}, xW G (x_in W0) sS.heap (cells8 G ad s') H locs → lv_has ls 5 [(0, .ref (ad 0)), (1, .int x1'), (2, .int x2'), (3, .int x3')] → k7  s' x1' x2' x3' = some z → W p l e (rm_X8_dearest) sS m args below meth c H locs 0 0 (MQ below (xQ G W0 (cells8 G ad z.2) (some (.int z.1))) args sS 0 0 (x_in W0)) (F0 m 7 ls [])) : ∀ (s' : S8) (x1' : Int32) (x2' : Int32) (x3' : Int32) (z : Int32 × S8) {H : Heap} {locs : List Loc} {ls : Array Slot}, xW G (x_in W0) sS.heap (cells8 G ad s') H locs → lv_has ls 5 [(0, .ref (ad 0)), (1, .int x1'), (2, .int x2'), (3, .int x3')] → f_X8_dearest_p7 k7 s' x1' x2' x3' = some z → W p l e (rm_X8_dearest) sS m args below meth c H locs 0 0 (MQ below (xQ G W0 (cells8 G ad z.2) (some (.int z.1))) args sS 0 0 (x_in W0)) (F0 m 7 ls []) := by
  intro s x1 x2 x3 z H locs ls hw hl hf
  unfold f_X8_dearest_p7 at hf
  refine lv_iload_n (pc := 7) E.1 E.2.1 dX8_dearest_7 rfl (lv_at hl 3 rfl) ?_
  refine lv_aload_n (pc := 8) E.1 E.2.1 dX8_dearest_8 rfl (lv_at hl 0 rfl) ?_
  obtain ⟨v1, g2, hf⟩ := x_bind hf
  refine x_callVA (pc := 9) (As := []) (rest := [.int x3]) (st1 := [.int v1, .int x3]) (ws' := (cells8 G ad s)) E hw hl (c_X8_claims l G ad s g2) xv_X8_88 xd_X8_claims rfl rfl ⟨Nat.le_of_ble_eq_true rfl, Nat.le_of_ble_eq_true rfl⟩ (q0 := 0) rfl rfl rfl rfl (Nat.le_of_ble_eq_true rfl) rfl rfl dX8_dearest_9 (fun H locs hw => ?_)
  refine lv_icmp_ge (tgt := 61) (pc := 12) E.1 E.2.1 dX8_dearest_12 (by decide) (fun q3 => ?_) (fun q3 => ?_)
  · have hf := x_pos q3 hf
    refine lv_iload_n (pc := 61) E.1 E.2.1 dX8_dearest_61 rfl (lv_at hl 1 rfl) ?_
    obtain rfl := Option.some.inj hf
    exact x_reti (pc := 62) E hr hk hw dX8_dearest_62
  · have hf := x_neg q3 hf
    refine lv_aload_n (pc := 15) E.1 E.2.1 dX8_dearest_15 rfl (lv_at hl 0 rfl) ?_
    refine lv_aload_n (pc := 16) E.1 E.2.1 dX8_dearest_16 rfl (lv_at hl 0 rfl) ?_
    refine lv_iload_n (pc := 17) E.1 E.2.1 dX8_dearest_17 rfl (lv_at hl 3 rfl) ?_
    obtain ⟨v4, g5, hf⟩ := x_bind hf
    refine x_callVA (pc := 18) (As := [.int x3]) (rest := [.ref (ad 0)]) (st1 := [.int v4, .ref (ad 0)]) (ws' := (cells8 G ad s)) E hw hl (c_X8_fleetOf l G ad s x3 g5) xv_X8_98 xd_X8_fleetOf rfl rfl ⟨Nat.le_of_ble_eq_true rfl, Nat.le_of_ble_eq_true rfl⟩ (q0 := 0) rfl rfl rfl rfl (Nat.le_of_ble_eq_true rfl) rfl rfl dX8_dearest_18 (fun H locs hw => ?_)
    obtain ⟨v6, g7, hf⟩ := x_bind hf
    refine x_callVA (pc := 21) (As := [.int v4]) (rest := []) (st1 := [.int v6.1]) (ws' := (cells8 G ad v6.2)) E hw hl (c_X8_ratedNow l G ad s v4 g7) xv_X8_239 xd_X8_ratedNow rfl rfl ⟨Nat.le_of_ble_eq_true rfl, Nat.le_of_ble_eq_true rfl⟩ (q0 := 0) rfl rfl rfl rfl (Nat.le_of_ble_eq_true rfl) rfl rfl dX8_dearest_21 (fun H locs hw => ?_)
    refine lv_aload_n (pc := 24) E.1 E.2.1 dX8_dearest_24 rfl (lv_at hl 0 rfl) ?_
    refine lv_aload_n (pc := 25) E.1 E.2.1 dX8_dearest_25 rfl (lv_at hl 0 rfl) ?_
    refine lv_iload_n (pc := 26) E.1 E.2.1 dX8_dearest_26 rfl (lv_at hl 3 rfl) ?_
    obtain ⟨v8, g9, hf⟩ := x_bind hf
    refine x_callVA (pc := 27) (As := [.int x3]) (rest := [.ref (ad 0), .int v6.1]) (st1 := [.int v8, .ref (ad 0), .int v6.1]) (ws' := (cells8 G ad v6.2)) E hw hl (c_X8_fleetOf l G ad v6.2 x3 g9) xv_X8_98 xd_X8_fleetOf rfl rfl ⟨Nat.le_of_ble_eq_true rfl, Nat.le_of_ble_eq_true rfl⟩ (q0 := 0) rfl rfl rfl rfl (Nat.le_of_ble_eq_true rfl) rfl rfl dX8_dearest_27 (fun H locs hw => ?_)
    refine lv_iload_n (pc := 30) E.1 E.2.1 dX8_dearest_30 rfl (lv_at hl 3 rfl) ?_
    obtain ⟨v10, g11, hf⟩ := x_bind hf
    refine x_callVA (pc := 31) (As := [.int v8, .int x3]) (rest := [.int v6.1]) (st1 := [.int v10.1, .int v6.1]) (ws' := (cells8 G ad v10.2)) E hw hl (c_X8_ratedWithout l G ad v6.2 v8 x3 g11) xv_X8_276 xd_X8_ratedWithout rfl rfl ⟨Nat.le_of_ble_eq_true rfl, Nat.le_of_ble_eq_true rfl⟩ (q0 := 0) rfl rfl rfl rfl (Nat.le_of_ble_eq_true rfl) rfl rfl dX8_dearest_31 (fun H locs hw => ?_)
    refine lv_isub (pc := 34) E.1 E.2.1 dX8_dearest_34 ?_
    refine lv_istore (lv' := [(4, .int (v6.1 - v10.1)), (0, .ref (ad 0)), (1, .int x1), (2, .int x2), (3, .int x3)]) (pc := 35) E.1 E.2.1 dX8_dearest_35 hl (by decide) rfl (fun ls hl => ?_)
    refine lv_iload_n (pc := 37) E.1 E.2.1 dX8_dearest_37 rfl (lv_at hl 2 rfl) ?_
    refine lv_if_lt (tgt := 50) (pc := 38) E.1 E.2.1 dX8_dearest_38 (by decide) (fun q12 => ?_) (fun q12 => ?_)
    · have hf := x_pos q12 hf
      refine lv_iload (pc := 50) E.1 E.2.1 dX8_dearest_50 (lv_at hl 0 rfl) ?_
      refine lv_istore_n (lv' := [(2, .int (v6.1 - v10.1)), (4, .int (v6.1 - v10.1)), (0, .ref (ad 0)), (1, .int x1), (3, .int x3)]) (pc := 52) E.1 E.2.1 dX8_dearest_52 rfl hl (by decide) rfl (fun ls hl => ?_)
      refine lv_iload_n (pc := 53) E.1 E.2.1 dX8_dearest_53 rfl (lv_at hl 4 rfl) ?_
      refine lv_istore_n (lv' := [(1, .int x3), (2, .int (v6.1 - v10.1)), (4, .int (v6.1 - v10.1)), (0, .ref (ad 0)), (3, .int x3)]) (pc := 54) E.1 E.2.1 dX8_dearest_54 rfl hl (by decide) rfl (fun ls hl => ?_)
      refine lv_iinc (v := (x3 + 1)) (lv' := [(3, .int (x3 + 1)), (1, .int x3), (2, .int (v6.1 - v10.1)), (4, .int (v6.1 - v10.1)), (0, .ref (ad 0))]) (pc := 55) E.1 E.2.1 dX8_dearest_55 hl (k := 4) rfl rfl (by decide) rfl (fun ls hl => ?_)
      refine lv_goto (tgt := 7) (pc := 58) E.1 E.2.1 dX8_dearest_58 (by decide) ?_
      exact hk7 v10.2 x3 (v6.1 - v10.1) (x3 + 1) z hw (lv_sub hl [4, 1, 2, 0] rfl) hf
    · have hf := x_neg q12 hf
      refine lv_iload (pc := 41) E.1 E.2.1 dX8_dearest_41 (lv_at hl 0 rfl) ?_
      refine lv_iload_n (pc := 43) E.1 E.2.1 dX8_dearest_43 rfl (lv_at hl 3 rfl) ?_
      refine lv_icmp_gt (tgt := 50) (pc := 44) E.1 E.2.1 dX8_dearest_44 (by decide) (fun q13 => ?_) (fun q13 => ?_)
      · have hf := x_pos q13 hf
        refine lv_iload (pc := 50) E.1 E.2.1 dX8_dearest_50 (lv_at hl 0 rfl) ?_
        refine lv_istore_n (lv' := [(2, .int (v6.1 - v10.1)), (4, .int (v6.1 - v10.1)), (0, .ref (ad 0)), (1, .int x1), (3, .int x3)]) (pc := 52) E.1 E.2.1 dX8_dearest_52 rfl hl (by decide) rfl (fun ls hl => ?_)
        refine lv_iload_n (pc := 53) E.1 E.2.1 dX8_dearest_53 rfl (lv_at hl 4 rfl) ?_
        refine lv_istore_n (lv' := [(1, .int x3), (2, .int (v6.1 - v10.1)), (4, .int (v6.1 - v10.1)), (0, .ref (ad 0)), (3, .int x3)]) (pc := 54) E.1 E.2.1 dX8_dearest_54 rfl hl (by decide) rfl (fun ls hl => ?_)
        refine lv_iinc (v := (x3 + 1)) (lv' := [(3, .int (x3 + 1)), (1, .int x3), (2, .int (v6.1 - v10.1)), (4, .int (v6.1 - v10.1)), (0, .ref (ad 0))]) (pc := 55) E.1 E.2.1 dX8_dearest_55 hl (k := 4) rfl rfl (by decide) rfl (fun ls hl => ?_)
        refine lv_goto (tgt := 7) (pc := 58) E.1 E.2.1 dX8_dearest_58 (by decide) ?_
        exact hk7 v10.2 x3 (v6.1 - v10.1) (x3 + 1) z hw (lv_sub hl [4, 1, 2, 0] rfl) hf
      · have hf := x_neg q13 hf
        refine lv_goto (tgt := 55) (pc := 47) E.1 E.2.1 dX8_dearest_47 (by decide) ?_
        refine lv_iinc (v := (x3 + 1)) (lv' := [(3, .int (x3 + 1)), (4, .int (v6.1 - v10.1)), (0, .ref (ad 0)), (1, .int x1), (2, .int x2)]) (pc := 55) E.1 E.2.1 dX8_dearest_55 hl (k := 4) rfl rfl (by decide) rfl (fun ls hl => ?_)
        refine lv_goto (tgt := 7) (pc := 58) E.1 E.2.1 dX8_dearest_58 (by decide) ?_
        exact hk7 v10.2 x1 x2 (x3 + 1) z hw (lv_sub hl [2, 3, 4, 0] rfl) hf
set_option maxHeartbeats 4000000 in
set_option maxRecDepth 100000 in
theorem wl_X8_dearest_p7 {p : Program} {l : Launch} {e : Env} {sS : State} {m : MethodId} {args : Array Value} {below : List Frame} {meth : Method} {c : Code} {G : xG} {W0 : va_W} {ad : Nat → Nat}   (E : xE p sS m args c cX8_dearest 5 RX8 G (x_in W0)) (hr : meth.sig.returnType = (some .int)) (hk : meth.locks = false)  : ∀ (s' : S8) (x1' : Int32) (x2' : Int32) (x3' : Int32) (z : Int32 × S8) {H : Heap} {locs : List Loc} {ls : Array Slot}, xW G (x_in W0) sS.heap (cells8 G ad s') H locs → lv_has ls 5 [(0, .ref (ad 0)), (1, .int x1'), (2, .int x2'), (3, .int x3')] → lp_X8_dearest_p7  s' x1' x2' x3' = some z → W p l e (rm_X8_dearest) sS m args below meth c H locs 0 0 (MQ below (xQ G W0 (cells8 G ad z.2) (some (.int z.1))) args sS 0 0 (x_in W0)) (F0 m 7 ls []) := by
  intro s x1 x2 x3 z H locs ls hw hl hf
  exact x_loop_W (P := fun (q : S8 × Int32 × Int32 × Int32) (z : Int32 × S8) => ∀ {H : Heap} {locs : List Loc} {ls : Array Slot}, xW G (x_in W0) sS.heap (cells8 G ad q.1) H locs → lv_has ls 5 [(0, .ref (ad 0)), (1, .int q.2.1), (2, .int q.2.2.1), (3, .int q.2.2.2)] → W p l e (rm_X8_dearest) sS m args below meth c H locs 0 0 (MQ below (xQ G W0 (cells8 G ad z.2) (some (.int z.1))) args sS 0 0 (x_in W0)) (F0 m 7 ls [])) (fun k hkk q z hf H locs ls hw hl => w_X8_dearest_p7 E hr hk  (fun s x1 x2 x3 z H locs ls hw hl hf => hkk (s, x1, x2, x3) z hf hw hl) q.1 q.2.1 q.2.2.1 q.2.2.2 z hw hl hf) FU (s, x1, x2, x3) z hf hw hl
set_option maxHeartbeats 4000000 in
set_option maxRecDepth 100000 in
theorem w_X8_dearest_p0 {p : Program} {l : Launch} {e : Env} {sS : State} {m : MethodId} {args : Array Value} {below : List Frame} {meth : Method} {c : Code} {G : xG} {W0 : va_W} {ad : Nat → Nat}   (E : xE p sS m args c cX8_dearest 5 RX8 G (x_in W0)) (hr : meth.sig.returnType = (some .int)) (hk : meth.locks = false)  : ∀ (s' : S8) (z : Int32 × S8) {H : Heap} {locs : List Loc} {ls : Array Slot}, xW G (x_in W0) sS.heap (cells8 G ad s') H locs → lv_has ls 5 [(0, .ref (ad 0))] → f_X8_dearest  s' = some z → W p l e (rm_X8_dearest) sS m args below meth c H locs 0 0 (MQ below (xQ G W0 (cells8 G ad z.2) (some (.int z.1))) args sS 0 0 (x_in W0)) (F0 m 0 ls []) := by
  intro s z H locs ls hw hl hf
  unfold f_X8_dearest at hf
  refine lv_bipush (v := (-2)) (pc := 0) E.1 E.2.1 dX8_dearest_0 (by decide) ?_
  refine lv_istore_n (lv' := [(1, .int (-2)), (0, .ref (ad 0))]) (pc := 2) E.1 E.2.1 dX8_dearest_2 rfl hl (by decide) rfl (fun ls hl => ?_)
  refine lv_iconst (v := 0) (pc := 3) E.1 E.2.1 dX8_dearest_3 (by decide) ?_
  refine lv_istore_n (lv' := [(2, .int 0), (1, .int (-2)), (0, .ref (ad 0))]) (pc := 4) E.1 E.2.1 dX8_dearest_4 rfl hl (by decide) rfl (fun ls hl => ?_)
  refine lv_iconst (v := 0) (pc := 5) E.1 E.2.1 dX8_dearest_5 (by decide) ?_
  refine lv_istore_n (lv' := [(3, .int 0), (2, .int 0), (1, .int (-2)), (0, .ref (ad 0))]) (pc := 6) E.1 E.2.1 dX8_dearest_6 rfl hl (by decide) rfl (fun ls hl => ?_)
  exact wl_X8_dearest_p7 E hr hk  s (-2) 0 0 z hw (lv_sub hl [3, 2, 1, 0] rfl) hf
set_option maxHeartbeats 4000000 in
set_option maxRecDepth 100000 in
theorem c_X8_dearest (l : Launch) (G : xG) (ad : Nat → Nat) (s : S8) {z : Int32 × S8} (hf : f_X8_dearest s = some z) : xC l yX8_dearest cX8_dearest 5 (some .int) (rm_X8_dearest) G [.ref (ad 0)] (cells8 G ad s) (some (.int z.1)) (cells8 G ad z.2) :=
  x_met (by decide) (Nat.le_of_ble_eq_true rfl) (fun p e sS m below meth c E hr hk ls hl hw => w_X8_dearest_p0 E hr hk s z hw hl hf)
set_option maxHeartbeats 4000000 in
set_option maxRecDepth 100000 in
theorem w_X8_writes_p0 {p : Program} {l : Launch} {e : Env} {sS : State} {m : MethodId} {args : Array Value} {below : List Frame} {meth : Method} {c : Code} {G : xG} {W0 : va_W} {ad : Nat → Nat}   (E : xE p sS m args c cX8_writes 2 RX8 G (x_in W0)) (hr : meth.sig.returnType = none) (hk : meth.locks = false)  : ∀ (s' : S8) (x1' : Int32) (z : S8) {H : Heap} {locs : List Loc} {ls : Array Slot}, xW G (x_in W0) sS.heap (cells8 G ad s') H locs → lv_has ls 2 [(0, .ref (ad 0)), (1, .int x1')] → f_X8_writes  s' x1' = some z → W p l e (rm_X8_writes) sS m args below meth c H locs 0 0 (MQ below (xQ G W0 (cells8 G ad z) none) args sS 0 0 (x_in W0)) (F0 m 0 ls []) := by
  intro s x1 z H locs ls hw hl hf
  unfold f_X8_writes at hf
  refine lv_aload_n (pc := 0) E.1 E.2.1 dX8_writes_0 rfl (lv_at hl 0 rfl) ?_
  refine xg_X8_63 (pc := 1) (v := .ref (ad 17)) E hw 0 rfl rfl dX8_writes_1 ?_
  refine lv_aload_n (pc := 4) E.1 E.2.1 dX8_writes_4 rfl (lv_at hl 0 rfl) ?_
  refine xg_X8_279 (pc := 5) (v := .int (g8_textMany s)) E hw 0 rfl rfl dX8_writes_5 ?_
  refine lv_iload_n (pc := 8) E.1 E.2.1 dX8_writes_8 rfl (lv_at hl 1 rfl) ?_
  obtain ⟨w2, g1, hf⟩ := x_bind hf
  refine x_iast (pc := 9) (ws' := (cells8 G ad (u8_text s w2))) E hw 17 rfl g1 rfl dX8_writes_9 (fun H locs hw => ?_)
  refine lv_aload_n (pc := 10) E.1 E.2.1 dX8_writes_10 rfl (lv_at hl 0 rfl) ?_
  refine lv_dup (pc := 11) E.1 E.2.1 dX8_writes_11 rfl ?_
  refine xg_X8_279 (pc := 12) (v := .int (g8_textMany (u8_text s w2))) E hw 0 rfl rfl dX8_writes_12 ?_
  refine lv_iconst (v := 1) (pc := 15) E.1 E.2.1 dX8_writes_15 (by decide) ?_
  refine lv_iadd (pc := 16) E.1 E.2.1 dX8_writes_16 ?_
  refine xp_X8_279 (pc := 17) (v := .int ((g8_textMany (u8_text s w2)) + 1)) (ws' := (cells8 G ad (u8_textMany (u8_text s w2) ((g8_textMany (u8_text s w2)) + 1)))) E hw 0 rfl rfl rfl (Nat.le_of_ble_eq_true rfl) rfl dX8_writes_17 (fun H locs hw => ?_)
  obtain rfl := Option.some.inj hf
  exact x_retv (pc := 20) E hr hk hw dX8_writes_20
set_option maxHeartbeats 4000000 in
set_option maxRecDepth 100000 in
theorem c_X8_writes (l : Launch) (G : xG) (ad : Nat → Nat) (s : S8) (x1 : Int32) {z : S8} (hf : f_X8_writes s x1 = some z) : xC l yX8_writes cX8_writes 2 none (rm_X8_writes) G [.ref (ad 0), .int x1] (cells8 G ad s) none (cells8 G ad z) :=
  x_met (by decide) (Nat.le_of_ble_eq_true rfl) (fun p e sS m below meth c E hr hk ls hl hw => w_X8_writes_p0 E hr hk s x1 z hw hl hf)
set_option maxHeartbeats 4000000 in
set_option maxRecDepth 100000 in
theorem w_X8_wordFrom_p4 {p : Program} {l : Launch} {e : Env} {sS : State} {m : MethodId} {args : Array Value} {below : List Frame} {meth : Method} {c : Code} {G : xG} {W0 : va_W} {ad : Nat → Nat}  {k4 : S8 → Int32 → Int32 → Option (Int32)} (E : xE p sS m args c cX8_wordFrom 4 RX8 G (x_in W0)) (hr : meth.sig.returnType = (some .int)) (hk : meth.locks = false) (hk4 : ∀ (s' : S8) (x2' : Int32) (x3' : Int32) (z : Int32) {H : Heap} {locs : List Loc} {ls : Array Slot}, xW G (x_in W0) sS.heap (cells8 G ad s') H locs → lv_has ls 4 [(0, .ref (ad 0)), (2, .int x2'), (3, .int x3')] → k4  s' x2' x3' = some z → W p l e (rm_X8_wordFrom) sS m args below meth c H locs 0 0 (MQ below (xQ G W0 (cells8 G ad s') (some (.int z))) args sS 0 0 (x_in W0)) (F0 m 4 ls [])) : ∀ (s' : S8) (x2' : Int32) (x3' : Int32) (z : Int32) {H : Heap} {locs : List Loc} {ls : Array Slot}, xW G (x_in W0) sS.heap (cells8 G ad s') H locs → lv_has ls 4 [(0, .ref (ad 0)), (2, .int x2'), (3, .int x3')] → f_X8_wordFrom_p4 k4 s' x2' x3' = some z → W p l e (rm_X8_wordFrom) sS m args below meth c H locs 0 0 (MQ below (xQ G W0 (cells8 G ad s') (some (.int z))) args sS 0 0 (x_in W0)) (F0 m 4 ls []) := by
  intro s x2 x3 z H locs ls hw hl hf
  unfold f_X8_wordFrom_p4 at hf
  refine lv_iload_n (pc := 4) E.1 E.2.1 dX8_wordFrom_4 rfl (lv_at hl 2 rfl) ?_
  refine lv_if_le (tgt := 26) (pc := 5) E.1 E.2.1 dX8_wordFrom_5 (by decide) (fun q1 => ?_) (fun q1 => ?_)
  · have hf := x_pos q1 hf
    refine lv_iload_n (pc := 26) E.1 E.2.1 dX8_wordFrom_26 rfl (lv_at hl 1 rfl) ?_
    obtain rfl := Option.some.inj hf
    exact x_reti (pc := 27) E hr hk hw dX8_wordFrom_27
  · have hf := x_neg q1 hf
    refine lv_aload_n (pc := 8) E.1 E.2.1 dX8_wordFrom_8 rfl (lv_at hl 0 rfl) ?_
    refine xg_X8_69 (pc := 9) (v := .ref (ad 19)) E hw 0 rfl rfl dX8_wordFrom_9 ?_
    refine lv_iload_n (pc := 12) E.1 E.2.1 dX8_wordFrom_12 rfl (lv_at hl 1 rfl) ?_
    obtain ⟨v3, g2, hf⟩ := x_bind hf
    refine x_bald (pc := 13) E hw 19 rfl g2 dX8_wordFrom_13 ?_
    refine lv_if_ne (tgt := 20) (pc := 14) E.1 E.2.1 dX8_wordFrom_14 (by decide) (fun q4 => ?_) (fun q4 => ?_)
    · have hf := x_neg q4 hf
      refine lv_iinc (v := (x2 + 1)) (lv' := [(2, .int (x2 + 1)), (0, .ref (ad 0)), (3, .int x3)]) (pc := 20) E.1 E.2.1 dX8_wordFrom_20 hl (k := 1) rfl rfl (by decide) rfl (fun ls hl => ?_)
      refine lv_goto (tgt := 4) (pc := 23) E.1 E.2.1 dX8_wordFrom_23 (by decide) ?_
      exact hk4 s (x2 + 1) x3 z hw (lv_sub hl [1, 0, 2] rfl) hf
    · have hf := x_pos q4 hf
      refine lv_iinc (v := (x3 + (-1))) (lv' := [(3, .int (x3 + (-1))), (0, .ref (ad 0)), (2, .int x2)]) (pc := 17) E.1 E.2.1 dX8_wordFrom_17 hl (k := 2) rfl rfl (by decide) rfl (fun ls hl => ?_)
      refine lv_iinc (v := (x2 + 1)) (lv' := [(2, .int (x2 + 1)), (3, .int (x3 + (-1))), (0, .ref (ad 0))]) (pc := 20) E.1 E.2.1 dX8_wordFrom_20 hl (k := 2) rfl rfl (by decide) rfl (fun ls hl => ?_)
      refine lv_goto (tgt := 4) (pc := 23) E.1 E.2.1 dX8_wordFrom_23 (by decide) ?_
      exact hk4 s (x2 + 1) (x3 + (-1)) z hw (lv_sub hl [2, 0, 1] rfl) hf
set_option maxHeartbeats 4000000 in
set_option maxRecDepth 100000 in
theorem wl_X8_wordFrom_p4 {p : Program} {l : Launch} {e : Env} {sS : State} {m : MethodId} {args : Array Value} {below : List Frame} {meth : Method} {c : Code} {G : xG} {W0 : va_W} {ad : Nat → Nat}   (E : xE p sS m args c cX8_wordFrom 4 RX8 G (x_in W0)) (hr : meth.sig.returnType = (some .int)) (hk : meth.locks = false)  : ∀ (s' : S8) (x2' : Int32) (x3' : Int32) (z : Int32) {H : Heap} {locs : List Loc} {ls : Array Slot}, xW G (x_in W0) sS.heap (cells8 G ad s') H locs → lv_has ls 4 [(0, .ref (ad 0)), (2, .int x2'), (3, .int x3')] → lp_X8_wordFrom_p4  s' x2' x3' = some z → W p l e (rm_X8_wordFrom) sS m args below meth c H locs 0 0 (MQ below (xQ G W0 (cells8 G ad s') (some (.int z))) args sS 0 0 (x_in W0)) (F0 m 4 ls []) := by
  intro s x2 x3 z H locs ls hw hl hf
  exact x_loop_W (P := fun (q : S8 × Int32 × Int32) (z : Int32) => ∀ {H : Heap} {locs : List Loc} {ls : Array Slot}, xW G (x_in W0) sS.heap (cells8 G ad q.1) H locs → lv_has ls 4 [(0, .ref (ad 0)), (2, .int q.2.1), (3, .int q.2.2)] → W p l e (rm_X8_wordFrom) sS m args below meth c H locs 0 0 (MQ below (xQ G W0 (cells8 G ad q.1) (some (.int z))) args sS 0 0 (x_in W0)) (F0 m 4 ls [])) (fun k hkk q z hf H locs ls hw hl => w_X8_wordFrom_p4 E hr hk  (fun s x2 x3 z H locs ls hw hl hf => hkk (s, x2, x3) z hf hw hl) q.1 q.2.1 q.2.2 z hw hl hf) FU (s, x2, x3) z hf hw hl
set_option maxHeartbeats 4000000 in
set_option maxRecDepth 100000 in
theorem w_X8_wordFrom_p0 {p : Program} {l : Launch} {e : Env} {sS : State} {m : MethodId} {args : Array Value} {below : List Frame} {meth : Method} {c : Code} {G : xG} {W0 : va_W} {ad : Nat → Nat}   (E : xE p sS m args c cX8_wordFrom 4 RX8 G (x_in W0)) (hr : meth.sig.returnType = (some .int)) (hk : meth.locks = false)  : ∀ (s' : S8) (x1' : Int32) (z : Int32) {H : Heap} {locs : List Loc} {ls : Array Slot}, xW G (x_in W0) sS.heap (cells8 G ad s') H locs → lv_has ls 4 [(0, .ref (ad 0)), (1, .int x1')] → f_X8_wordFrom  s' x1' = some z → W p l e (rm_X8_wordFrom) sS m args below meth c H locs 0 0 (MQ below (xQ G W0 (cells8 G ad s') (some (.int z))) args sS 0 0 (x_in W0)) (F0 m 0 ls []) := by
  intro s x1 z H locs ls hw hl hf
  unfold f_X8_wordFrom at hf
  refine lv_iconst (v := 0) (pc := 0) E.1 E.2.1 dX8_wordFrom_0 (by decide) ?_
  refine lv_istore_n (lv' := [(2, .int 0), (0, .ref (ad 0)), (1, .int x1)]) (pc := 1) E.1 E.2.1 dX8_wordFrom_1 rfl hl (by decide) rfl (fun ls hl => ?_)
  refine lv_iload_n (pc := 2) E.1 E.2.1 dX8_wordFrom_2 rfl (lv_at hl 2 rfl) ?_
  refine lv_istore_n (lv' := [(3, .int x1), (2, .int 0), (0, .ref (ad 0)), (1, .int x1)]) (pc := 3) E.1 E.2.1 dX8_wordFrom_3 rfl hl (by decide) rfl (fun ls hl => ?_)
  exact wl_X8_wordFrom_p4 E hr hk  s 0 x1 z hw (lv_sub hl [2, 1, 0] rfl) hf
set_option maxHeartbeats 4000000 in
set_option maxRecDepth 100000 in
theorem c_X8_wordFrom (l : Launch) (G : xG) (ad : Nat → Nat) (s : S8) (x1 : Int32) {z : Int32} (hf : f_X8_wordFrom s x1 = some z) : xC l yX8_wordFrom cX8_wordFrom 4 (some .int) (rm_X8_wordFrom) G [.ref (ad 0), .int x1] (cells8 G ad s) (some (.int z)) (cells8 G ad s) :=
  x_met (by decide) (Nat.le_of_ble_eq_true rfl) (fun p e sS m below meth c E hr hk ls hl hw => w_X8_wordFrom_p0 E hr hk s x1 z hw hl hf)
set_option maxHeartbeats 4000000 in
set_option maxRecDepth 100000 in
theorem w_X8_writesWord_p6 {p : Program} {l : Launch} {e : Env} {sS : State} {m : MethodId} {args : Array Value} {below : List Frame} {meth : Method} {c : Code} {G : xG} {W0 : va_W} {ad : Nat → Nat}  {k6 : S8 → Int32 → Option (S8)} (E : xE p sS m args c cX8_writesWord 3 RX8 G (x_in W0)) (hr : meth.sig.returnType = none) (hk : meth.locks = false) (hk6 : ∀ (s' : S8) (x2' : Int32) (z : S8) {H : Heap} {locs : List Loc} {ls : Array Slot}, xW G (x_in W0) sS.heap (cells8 G ad s') H locs → lv_has ls 3 [(0, .ref (ad 0)), (2, .int x2')] → k6  s' x2' = some z → W p l e (rm_X8_writesWord) sS m args below meth c H locs 0 0 (MQ below (xQ G W0 (cells8 G ad z) none) args sS 0 0 (x_in W0)) (F0 m 6 ls [])) : ∀ (s' : S8) (x2' : Int32) (z : S8) {H : Heap} {locs : List Loc} {ls : Array Slot}, xW G (x_in W0) sS.heap (cells8 G ad s') H locs → lv_has ls 3 [(0, .ref (ad 0)), (2, .int x2')] → f_X8_writesWord_p6 k6 s' x2' = some z → W p l e (rm_X8_writesWord) sS m args below meth c H locs 0 0 (MQ below (xQ G W0 (cells8 G ad z) none) args sS 0 0 (x_in W0)) (F0 m 6 ls []) := by
  intro s x2 z H locs ls hw hl hf
  unfold f_X8_writesWord_p6 at hf
  refine lv_aload_n (pc := 6) E.1 E.2.1 dX8_writesWord_6 rfl (lv_at hl 0 rfl) ?_
  refine xg_X8_69 (pc := 7) (v := .ref (ad 19)) E hw 0 rfl rfl dX8_writesWord_7 ?_
  refine lv_iload_n (pc := 10) E.1 E.2.1 dX8_writesWord_10 rfl (lv_at hl 1 rfl) ?_
  obtain ⟨v2, g1, hf⟩ := x_bind hf
  refine x_bald (pc := 11) E hw 19 rfl g1 dX8_writesWord_11 ?_
  refine lv_if_eq (tgt := 31) (pc := 12) E.1 E.2.1 dX8_writesWord_12 (by decide) (fun q3 => ?_) (fun q3 => ?_)
  · have hf := x_pos q3 hf
    obtain rfl := Option.some.inj hf
    exact x_retv (pc := 31) E hr hk hw dX8_writesWord_31
  · have hf := x_neg q3 hf
    refine lv_aload_n (pc := 15) E.1 E.2.1 dX8_writesWord_15 rfl (lv_at hl 0 rfl) ?_
    refine lv_aload_n (pc := 16) E.1 E.2.1 dX8_writesWord_16 rfl (lv_at hl 0 rfl) ?_
    refine xg_X8_69 (pc := 17) (v := .ref (ad 19)) E hw 0 rfl rfl dX8_writesWord_17 ?_
    refine lv_iload_n (pc := 20) E.1 E.2.1 dX8_writesWord_20 rfl (lv_at hl 1 rfl) ?_
    obtain ⟨v5, g4, hf⟩ := x_bind hf
    refine x_bald (pc := 21) E hw 19 rfl g4 dX8_writesWord_21 ?_
    obtain ⟨v6, g7, hf⟩ := x_bind hf
    refine x_callVA (pc := 22) (As := [.int v5]) (rest := []) (st1 := []) (ws' := (cells8 G ad v6)) E hw hl (c_X8_writes l G ad s v5 g7) xv_X8_285 xd_X8_writes rfl rfl ⟨Nat.le_of_ble_eq_true rfl, Nat.le_of_ble_eq_true rfl⟩ (q0 := 0) rfl rfl rfl rfl (Nat.le_of_ble_eq_true rfl) rfl rfl dX8_writesWord_22 (fun H locs hw => ?_)
    refine lv_iinc (v := (x2 + 1)) (lv' := [(2, .int (x2 + 1)), (0, .ref (ad 0))]) (pc := 25) E.1 E.2.1 dX8_writesWord_25 hl (k := 1) rfl rfl (by decide) rfl (fun ls hl => ?_)
    refine lv_goto (tgt := 6) (pc := 28) E.1 E.2.1 dX8_writesWord_28 (by decide) ?_
    exact hk6 v6 (x2 + 1) z hw (lv_sub hl [1, 0] rfl) hf
set_option maxHeartbeats 4000000 in
set_option maxRecDepth 100000 in
theorem wl_X8_writesWord_p6 {p : Program} {l : Launch} {e : Env} {sS : State} {m : MethodId} {args : Array Value} {below : List Frame} {meth : Method} {c : Code} {G : xG} {W0 : va_W} {ad : Nat → Nat}   (E : xE p sS m args c cX8_writesWord 3 RX8 G (x_in W0)) (hr : meth.sig.returnType = none) (hk : meth.locks = false)  : ∀ (s' : S8) (x2' : Int32) (z : S8) {H : Heap} {locs : List Loc} {ls : Array Slot}, xW G (x_in W0) sS.heap (cells8 G ad s') H locs → lv_has ls 3 [(0, .ref (ad 0)), (2, .int x2')] → lp_X8_writesWord_p6  s' x2' = some z → W p l e (rm_X8_writesWord) sS m args below meth c H locs 0 0 (MQ below (xQ G W0 (cells8 G ad z) none) args sS 0 0 (x_in W0)) (F0 m 6 ls []) := by
  intro s x2 z H locs ls hw hl hf
  exact x_loop_W (P := fun (q : S8 × Int32) (z : S8) => ∀ {H : Heap} {locs : List Loc} {ls : Array Slot}, xW G (x_in W0) sS.heap (cells8 G ad q.1) H locs → lv_has ls 3 [(0, .ref (ad 0)), (2, .int q.2)] → W p l e (rm_X8_writesWord) sS m args below meth c H locs 0 0 (MQ below (xQ G W0 (cells8 G ad z) none) args sS 0 0 (x_in W0)) (F0 m 6 ls [])) (fun k hkk q z hf H locs ls hw hl => w_X8_writesWord_p6 E hr hk  (fun s x2 z H locs ls hw hl hf => hkk (s, x2) z hf hw hl) q.1 q.2 z hw hl hf) FU (s, x2) z hf hw hl
set_option maxHeartbeats 4000000 in
set_option maxRecDepth 100000 in
theorem w_X8_writesWord_p0 {p : Program} {l : Launch} {e : Env} {sS : State} {m : MethodId} {args : Array Value} {below : List Frame} {meth : Method} {c : Code} {G : xG} {W0 : va_W} {ad : Nat → Nat}   (E : xE p sS m args c cX8_writesWord 3 RX8 G (x_in W0)) (hr : meth.sig.returnType = none) (hk : meth.locks = false)  : ∀ (s' : S8) (x1' : Int32) (z : S8) {H : Heap} {locs : List Loc} {ls : Array Slot}, xW G (x_in W0) sS.heap (cells8 G ad s') H locs → lv_has ls 3 [(0, .ref (ad 0)), (1, .int x1')] → f_X8_writesWord  s' x1' = some z → W p l e (rm_X8_writesWord) sS m args below meth c H locs 0 0 (MQ below (xQ G W0 (cells8 G ad z) none) args sS 0 0 (x_in W0)) (F0 m 0 ls []) := by
  intro s x1 z H locs ls hw hl hf
  unfold f_X8_writesWord at hf
  refine lv_aload_n (pc := 0) E.1 E.2.1 dX8_writesWord_0 rfl (lv_at hl 0 rfl) ?_
  refine lv_iload_n (pc := 1) E.1 E.2.1 dX8_writesWord_1 rfl (lv_at hl 1 rfl) ?_
  obtain ⟨v1, g2, hf⟩ := x_bind hf
  refine x_callVA (pc := 2) (As := [.int x1]) (rest := []) (st1 := [.int v1]) (ws' := (cells8 G ad s)) E hw hl (c_X8_wordFrom l G ad s x1 g2) xv_X8_282 xd_X8_wordFrom rfl rfl ⟨Nat.le_of_ble_eq_true rfl, Nat.le_of_ble_eq_true rfl⟩ (q0 := 0) rfl rfl rfl rfl (Nat.le_of_ble_eq_true rfl) rfl rfl dX8_writesWord_2 (fun H locs hw => ?_)
  refine lv_istore_n (lv' := [(2, .int v1), (0, .ref (ad 0)), (1, .int x1)]) (pc := 5) E.1 E.2.1 dX8_writesWord_5 rfl hl (by decide) rfl (fun ls hl => ?_)
  exact wl_X8_writesWord_p6 E hr hk  s v1 z hw (lv_sub hl [1, 0] rfl) hf
set_option maxHeartbeats 4000000 in
set_option maxRecDepth 100000 in
theorem c_X8_writesWord (l : Launch) (G : xG) (ad : Nat → Nat) (s : S8) (x1 : Int32) {z : S8} (hf : f_X8_writesWord s x1 = some z) : xC l yX8_writesWord cX8_writesWord 3 none (rm_X8_writesWord) G [.ref (ad 0), .int x1] (cells8 G ad s) none (cells8 G ad z) :=
  x_met (by decide) (Nat.le_of_ble_eq_true rfl) (fun p e sS m below meth c E hr hk ls hl hw => w_X8_writesWord_p0 E hr hk s x1 z hw hl hf)
set_option maxHeartbeats 4000000 in
set_option maxRecDepth 100000 in
theorem w_X8_writesNumber_p24 {p : Program} {l : Launch} {e : Env} {sS : State} {m : MethodId} {args : Array Value} {below : List Frame} {meth : Method} {c : Code} {G : xG} {W0 : va_W} {ad : Nat → Nat}  {k24 : S8 → Int32 → Int32 → Option (S8)} (E : xE p sS m args c cX8_writesNumber 3 RX8 G (x_in W0)) (hr : meth.sig.returnType = none) (hk : meth.locks = false) (hk24 : ∀ (s' : S8) (x1' : Int32) (x2' : Int32) (z : S8) {H : Heap} {locs : List Loc} {ls : Array Slot}, xW G (x_in W0) sS.heap (cells8 G ad s') H locs → lv_has ls 3 [(0, .ref (ad 0)), (1, .int x1'), (2, .int x2')] → k24  s' x1' x2' = some z → W p l e (rm_X8_writesNumber) sS m args below meth c H locs 0 0 (MQ below (xQ G W0 (cells8 G ad z) none) args sS 0 0 (x_in W0)) (F0 m 24 ls [])) : ∀ (s' : S8) (x1' : Int32) (x2' : Int32) (z : S8) {H : Heap} {locs : List Loc} {ls : Array Slot}, xW G (x_in W0) sS.heap (cells8 G ad s') H locs → lv_has ls 3 [(0, .ref (ad 0)), (1, .int x1'), (2, .int x2')] → f_X8_writesNumber_p24 k24 s' x1' x2' = some z → W p l e (rm_X8_writesNumber) sS m args below meth c H locs 0 0 (MQ below (xQ G W0 (cells8 G ad z) none) args sS 0 0 (x_in W0)) (F0 m 24 ls []) := by
  intro s x1 x2 z H locs ls hw hl hf
  unfold f_X8_writesNumber_p24 at hf
  refine lv_iload_n (pc := 24) E.1 E.2.1 dX8_writesNumber_24 rfl (lv_at hl 2 rfl) ?_
  refine lv_if_le (tgt := 49) (pc := 25) E.1 E.2.1 dX8_writesNumber_25 (by decide) (fun q1 => ?_) (fun q1 => ?_)
  · have hf := x_pos q1 hf
    obtain rfl := Option.some.inj hf
    exact x_retv (pc := 49) E hr hk hw dX8_writesNumber_49
  · have hf := x_neg q1 hf
    refine lv_aload_n (pc := 28) E.1 E.2.1 dX8_writesNumber_28 rfl (lv_at hl 0 rfl) ?_
    refine lv_bipush (v := 48) (pc := 29) E.1 E.2.1 dX8_writesNumber_29 (by decide) ?_
    refine lv_iload_n (pc := 31) E.1 E.2.1 dX8_writesNumber_31 rfl (lv_at hl 1 rfl) ?_
    refine lv_iload_n (pc := 32) E.1 E.2.1 dX8_writesNumber_32 rfl (lv_at hl 2 rfl) ?_
    obtain ⟨u3, g2, hf⟩ := x_bind hf
    refine lv_idiv (pc := 33) E.1 E.2.1 dX8_writesNumber_33 (x_nz_some g2) ?_
    refine lv_bipush (v := 10) (pc := 34) E.1 E.2.1 dX8_writesNumber_34 (by decide) ?_
    refine lv_irem (pc := 36) E.1 E.2.1 dX8_writesNumber_36 (by decide) ?_
    refine lv_iadd (pc := 37) E.1 E.2.1 dX8_writesNumber_37 ?_
    obtain ⟨v4, g5, hf⟩ := x_bind hf
    refine x_callVA (pc := 38) (As := [.int (48 + ((x1 / x2) - (x1 / x2) / 10 * 10))]) (rest := []) (st1 := []) (ws' := (cells8 G ad v4)) E hw hl (c_X8_writes l G ad s (48 + ((x1 / x2) - (x1 / x2) / 10 * 10)) g5) xv_X8_285 xd_X8_writes rfl rfl ⟨Nat.le_of_ble_eq_true rfl, Nat.le_of_ble_eq_true rfl⟩ (q0 := 0) rfl rfl rfl rfl (Nat.le_of_ble_eq_true rfl) rfl rfl dX8_writesNumber_38 (fun H locs hw => ?_)
    refine lv_iload_n (pc := 41) E.1 E.2.1 dX8_writesNumber_41 rfl (lv_at hl 2 rfl) ?_
    refine lv_bipush (v := 10) (pc := 42) E.1 E.2.1 dX8_writesNumber_42 (by decide) ?_
    refine lv_idiv (pc := 44) E.1 E.2.1 dX8_writesNumber_44 (by decide) ?_
    refine lv_istore_n (lv' := [(2, .int (x2 / 10)), (0, .ref (ad 0)), (1, .int x1)]) (pc := 45) E.1 E.2.1 dX8_writesNumber_45 rfl hl (by decide) rfl (fun ls hl => ?_)
    refine lv_goto (tgt := 24) (pc := 46) E.1 E.2.1 dX8_writesNumber_46 (by decide) ?_
    exact hk24 v4 x1 (x2 / 10) z hw (lv_sub hl [1, 2, 0] rfl) hf
set_option maxHeartbeats 4000000 in
set_option maxRecDepth 100000 in
theorem wl_X8_writesNumber_p24 {p : Program} {l : Launch} {e : Env} {sS : State} {m : MethodId} {args : Array Value} {below : List Frame} {meth : Method} {c : Code} {G : xG} {W0 : va_W} {ad : Nat → Nat}   (E : xE p sS m args c cX8_writesNumber 3 RX8 G (x_in W0)) (hr : meth.sig.returnType = none) (hk : meth.locks = false)  : ∀ (s' : S8) (x1' : Int32) (x2' : Int32) (z : S8) {H : Heap} {locs : List Loc} {ls : Array Slot}, xW G (x_in W0) sS.heap (cells8 G ad s') H locs → lv_has ls 3 [(0, .ref (ad 0)), (1, .int x1'), (2, .int x2')] → lp_X8_writesNumber_p24  s' x1' x2' = some z → W p l e (rm_X8_writesNumber) sS m args below meth c H locs 0 0 (MQ below (xQ G W0 (cells8 G ad z) none) args sS 0 0 (x_in W0)) (F0 m 24 ls []) := by
  intro s x1 x2 z H locs ls hw hl hf
  exact x_loop_W (P := fun (q : S8 × Int32 × Int32) (z : S8) => ∀ {H : Heap} {locs : List Loc} {ls : Array Slot}, xW G (x_in W0) sS.heap (cells8 G ad q.1) H locs → lv_has ls 3 [(0, .ref (ad 0)), (1, .int q.2.1), (2, .int q.2.2)] → W p l e (rm_X8_writesNumber) sS m args below meth c H locs 0 0 (MQ below (xQ G W0 (cells8 G ad z) none) args sS 0 0 (x_in W0)) (F0 m 24 ls [])) (fun k hkk q z hf H locs ls hw hl => w_X8_writesNumber_p24 E hr hk  (fun s x1 x2 z H locs ls hw hl hf => hkk (s, x1, x2) z hf hw hl) q.1 q.2.1 q.2.2 z hw hl hf) FU (s, x1, x2) z hf hw hl
set_option maxHeartbeats 4000000 in
set_option maxRecDepth 100000 in
theorem w_X8_writesNumber_p8 {p : Program} {l : Launch} {e : Env} {sS : State} {m : MethodId} {args : Array Value} {below : List Frame} {meth : Method} {c : Code} {G : xG} {W0 : va_W} {ad : Nat → Nat}  {k8 : S8 → Int32 → Int32 → Option (S8)} (E : xE p sS m args c cX8_writesNumber 3 RX8 G (x_in W0)) (hr : meth.sig.returnType = none) (hk : meth.locks = false) (hk8 : ∀ (s' : S8) (x1' : Int32) (x2' : Int32) (z : S8) {H : Heap} {locs : List Loc} {ls : Array Slot}, xW G (x_in W0) sS.heap (cells8 G ad s') H locs → lv_has ls 3 [(0, .ref (ad 0)), (1, .int x1'), (2, .int x2')] → k8  s' x1' x2' = some z → W p l e (rm_X8_writesNumber) sS m args below meth c H locs 0 0 (MQ below (xQ G W0 (cells8 G ad z) none) args sS 0 0 (x_in W0)) (F0 m 8 ls [])) : ∀ (s' : S8) (x1' : Int32) (x2' : Int32) (z : S8) {H : Heap} {locs : List Loc} {ls : Array Slot}, xW G (x_in W0) sS.heap (cells8 G ad s') H locs → lv_has ls 3 [(0, .ref (ad 0)), (1, .int x1'), (2, .int x2')] → f_X8_writesNumber_p8 k8 s' x1' x2' = some z → W p l e (rm_X8_writesNumber) sS m args below meth c H locs 0 0 (MQ below (xQ G W0 (cells8 G ad z) none) args sS 0 0 (x_in W0)) (F0 m 8 ls []) := by
  intro s x1 x2 z H locs ls hw hl hf
  unfold f_X8_writesNumber_p8 at hf
  refine lv_iload_n (pc := 8) E.1 E.2.1 dX8_writesNumber_8 rfl (lv_at hl 1 rfl) ?_
  refine lv_iload_n (pc := 9) E.1 E.2.1 dX8_writesNumber_9 rfl (lv_at hl 2 rfl) ?_
  obtain ⟨u2, g1, hf⟩ := x_bind hf
  refine lv_idiv (pc := 10) E.1 E.2.1 dX8_writesNumber_10 (x_nz_some g1) ?_
  refine lv_bipush (v := 9) (pc := 11) E.1 E.2.1 dX8_writesNumber_11 (by decide) ?_
  refine lv_icmp_le (tgt := 24) (pc := 13) E.1 E.2.1 dX8_writesNumber_13 (by decide) (fun q3 => ?_) (fun q3 => ?_)
  · have hf := x_pos q3 hf
    exact wl_X8_writesNumber_p24 E hr hk  s x1 x2 z hw (lv_sub hl [0, 1, 2] rfl) hf
  · have hf := x_neg q3 hf
    refine lv_iload_n (pc := 16) E.1 E.2.1 dX8_writesNumber_16 rfl (lv_at hl 2 rfl) ?_
    refine lv_bipush (v := 10) (pc := 17) E.1 E.2.1 dX8_writesNumber_17 (by decide) ?_
    refine lv_imul (pc := 19) E.1 E.2.1 dX8_writesNumber_19 ?_
    refine lv_istore_n (lv' := [(2, .int (x2 * 10)), (0, .ref (ad 0)), (1, .int x1)]) (pc := 20) E.1 E.2.1 dX8_writesNumber_20 rfl hl (by decide) rfl (fun ls hl => ?_)
    refine lv_goto (tgt := 8) (pc := 21) E.1 E.2.1 dX8_writesNumber_21 (by decide) ?_
    exact hk8 s x1 (x2 * 10) z hw (lv_sub hl [1, 2, 0] rfl) hf
set_option maxHeartbeats 4000000 in
set_option maxRecDepth 100000 in
theorem wl_X8_writesNumber_p8 {p : Program} {l : Launch} {e : Env} {sS : State} {m : MethodId} {args : Array Value} {below : List Frame} {meth : Method} {c : Code} {G : xG} {W0 : va_W} {ad : Nat → Nat}   (E : xE p sS m args c cX8_writesNumber 3 RX8 G (x_in W0)) (hr : meth.sig.returnType = none) (hk : meth.locks = false)  : ∀ (s' : S8) (x1' : Int32) (x2' : Int32) (z : S8) {H : Heap} {locs : List Loc} {ls : Array Slot}, xW G (x_in W0) sS.heap (cells8 G ad s') H locs → lv_has ls 3 [(0, .ref (ad 0)), (1, .int x1'), (2, .int x2')] → lp_X8_writesNumber_p8  s' x1' x2' = some z → W p l e (rm_X8_writesNumber) sS m args below meth c H locs 0 0 (MQ below (xQ G W0 (cells8 G ad z) none) args sS 0 0 (x_in W0)) (F0 m 8 ls []) := by
  intro s x1 x2 z H locs ls hw hl hf
  exact x_loop_W (P := fun (q : S8 × Int32 × Int32) (z : S8) => ∀ {H : Heap} {locs : List Loc} {ls : Array Slot}, xW G (x_in W0) sS.heap (cells8 G ad q.1) H locs → lv_has ls 3 [(0, .ref (ad 0)), (1, .int q.2.1), (2, .int q.2.2)] → W p l e (rm_X8_writesNumber) sS m args below meth c H locs 0 0 (MQ below (xQ G W0 (cells8 G ad z) none) args sS 0 0 (x_in W0)) (F0 m 8 ls [])) (fun k hkk q z hf H locs ls hw hl => w_X8_writesNumber_p8 E hr hk  (fun s x1 x2 z H locs ls hw hl hf => hkk (s, x1, x2) z hf hw hl) q.1 q.2.1 q.2.2 z hw hl hf) FU (s, x1, x2) z hf hw hl
set_option maxHeartbeats 4000000 in
set_option maxRecDepth 100000 in
theorem w_X8_writesNumber_p0 {p : Program} {l : Launch} {e : Env} {sS : State} {m : MethodId} {args : Array Value} {below : List Frame} {meth : Method} {c : Code} {G : xG} {W0 : va_W} {ad : Nat → Nat}   (E : xE p sS m args c cX8_writesNumber 3 RX8 G (x_in W0)) (hr : meth.sig.returnType = none) (hk : meth.locks = false)  : ∀ (s' : S8) (x1' : Int32) (z : S8) {H : Heap} {locs : List Loc} {ls : Array Slot}, xW G (x_in W0) sS.heap (cells8 G ad s') H locs → lv_has ls 3 [(0, .ref (ad 0)), (1, .int x1')] → f_X8_writesNumber  s' x1' = some z → W p l e (rm_X8_writesNumber) sS m args below meth c H locs 0 0 (MQ below (xQ G W0 (cells8 G ad z) none) args sS 0 0 (x_in W0)) (F0 m 0 ls []) := by
  intro s x1 z H locs ls hw hl hf
  unfold f_X8_writesNumber at hf
  refine lv_aload_n (pc := 0) E.1 E.2.1 dX8_writesNumber_0 rfl (lv_at hl 0 rfl) ?_
  refine lv_bipush (v := 32) (pc := 1) E.1 E.2.1 dX8_writesNumber_1 (by decide) ?_
  obtain ⟨v1, g2, hf⟩ := x_bind hf
  refine x_callVA (pc := 3) (As := [.int 32]) (rest := []) (st1 := []) (ws' := (cells8 G ad v1)) E hw hl (c_X8_writes l G ad s 32 g2) xv_X8_285 xd_X8_writes rfl rfl ⟨Nat.le_of_ble_eq_true rfl, Nat.le_of_ble_eq_true rfl⟩ (q0 := 0) rfl rfl rfl rfl (Nat.le_of_ble_eq_true rfl) rfl rfl dX8_writesNumber_3 (fun H locs hw => ?_)
  refine lv_iconst (v := 1) (pc := 6) E.1 E.2.1 dX8_writesNumber_6 (by decide) ?_
  refine lv_istore_n (lv' := [(2, .int 1), (0, .ref (ad 0)), (1, .int x1)]) (pc := 7) E.1 E.2.1 dX8_writesNumber_7 rfl hl (by decide) rfl (fun ls hl => ?_)
  exact wl_X8_writesNumber_p8 E hr hk  v1 x1 1 z hw (lv_sub hl [1, 2, 0] rfl) hf
set_option maxHeartbeats 4000000 in
set_option maxRecDepth 100000 in
theorem c_X8_writesNumber (l : Launch) (G : xG) (ad : Nat → Nat) (s : S8) (x1 : Int32) {z : S8} (hf : f_X8_writesNumber s x1 = some z) : xC l yX8_writesNumber cX8_writesNumber 3 none (rm_X8_writesNumber) G [.ref (ad 0), .int x1] (cells8 G ad s) none (cells8 G ad z) :=
  x_met (by decide) (Nat.le_of_ble_eq_true rfl) (fun p e sS m below meth c E hr hk ls hl hw => w_X8_writesNumber_p0 E hr hk s x1 z hw hl hf)
set_option maxHeartbeats 4000000 in
set_option maxRecDepth 100000 in
theorem w_X8_writesOne_p0 {p : Program} {l : Launch} {e : Env} {sS : State} {m : MethodId} {args : Array Value} {below : List Frame} {meth : Method} {c : Code} {G : xG} {W0 : va_W} {ad : Nat → Nat}   (E : xE p sS m args c cX8_writesOne 3 RX8 G (x_in W0)) (hr : meth.sig.returnType = none) (hk : meth.locks = false)  : ∀ (s' : S8) (x1' : Int32) (x2' : Int32) (z : S8) {H : Heap} {locs : List Loc} {ls : Array Slot}, xW G (x_in W0) sS.heap (cells8 G ad s') H locs → lv_has ls 3 [(0, .ref (ad 0)), (1, .int x1'), (2, .int x2')] → f_X8_writesOne  s' x1' x2' = some z → W p l e (rm_X8_writesOne) sS m args below meth c H locs 0 0 (MQ below (xQ G W0 (cells8 G ad z) none) args sS 0 0 (x_in W0)) (F0 m 0 ls []) := by
  intro s x1 x2 z H locs ls hw hl hf
  unfold f_X8_writesOne at hf
  refine lv_aload_n (pc := 0) E.1 E.2.1 dX8_writesOne_0 rfl (lv_at hl 0 rfl) ?_
  refine lv_iload_n (pc := 1) E.1 E.2.1 dX8_writesOne_1 rfl (lv_at hl 1 rfl) ?_
  obtain ⟨v1, g2, hf⟩ := x_bind hf
  refine x_callVA (pc := 2) (As := [.int x1]) (rest := []) (st1 := []) (ws' := (cells8 G ad v1)) E hw hl (c_X8_writesWord l G ad s x1 g2) xv_X8_288 xd_X8_writesWord rfl rfl ⟨Nat.le_of_ble_eq_true rfl, Nat.le_of_ble_eq_true rfl⟩ (q0 := 0) rfl rfl rfl rfl (Nat.le_of_ble_eq_true rfl) rfl rfl dX8_writesOne_2 (fun H locs hw => ?_)
  refine lv_aload_n (pc := 5) E.1 E.2.1 dX8_writesOne_5 rfl (lv_at hl 0 rfl) ?_
  refine lv_iload_n (pc := 6) E.1 E.2.1 dX8_writesOne_6 rfl (lv_at hl 2 rfl) ?_
  obtain ⟨v3, g4, hf⟩ := x_bind hf
  refine x_callVA (pc := 7) (As := [.int x2]) (rest := []) (st1 := []) (ws' := (cells8 G ad v3)) E hw hl (c_X8_writesNumber l G ad v1 x2 g4) xv_X8_291 xd_X8_writesNumber rfl rfl ⟨Nat.le_of_ble_eq_true rfl, Nat.le_of_ble_eq_true rfl⟩ (q0 := 0) rfl rfl rfl rfl (Nat.le_of_ble_eq_true rfl) rfl rfl dX8_writesOne_7 (fun H locs hw => ?_)
  obtain rfl := Option.some.inj hf
  exact x_retv (pc := 10) E hr hk hw dX8_writesOne_10
set_option maxHeartbeats 4000000 in
set_option maxRecDepth 100000 in
theorem c_X8_writesOne (l : Launch) (G : xG) (ad : Nat → Nat) (s : S8) (x1 : Int32) (x2 : Int32) {z : S8} (hf : f_X8_writesOne s x1 x2 = some z) : xC l yX8_writesOne cX8_writesOne 3 none (rm_X8_writesOne) G [.ref (ad 0), .int x1, .int x2] (cells8 G ad s) none (cells8 G ad z) :=
  x_met (by decide) (Nat.le_of_ble_eq_true rfl) (fun p e sS m below meth c E hr hk ls hl hw => w_X8_writesOne_p0 E hr hk s x1 x2 z hw hl hf)
set_option maxHeartbeats 4000000 in
set_option maxRecDepth 100000 in
theorem w_X8_toldText_p0 {p : Program} {l : Launch} {e : Env} {sS : State} {m : MethodId} {args : Array Value} {below : List Frame} {meth : Method} {c : Code} {G : xG} {W0 : va_W} {ad : Nat → Nat}   (E : xE p sS m args c cX8_toldText 2 RX8 G (x_in W0)) (hr : meth.sig.returnType = (some .int)) (hk : meth.locks = false)  : ∀ (s' : S8) (x1' : Int32) (z : Int32) {H : Heap} {locs : List Loc} {ls : Array Slot}, xW G (x_in W0) sS.heap (cells8 G ad s') H locs → lv_has ls 2 [(0, .ref (ad 0)), (1, .int x1')] → f_X8_toldText  s' x1' = some z → W p l e (rm_X8_toldText) sS m args below meth c H locs 0 0 (MQ below (xQ G W0 (cells8 G ad s') (some (.int z))) args sS 0 0 (x_in W0)) (F0 m 0 ls []) := by
  intro s x1 z H locs ls hw hl hf
  unfold f_X8_toldText at hf
  refine lv_iload_n (pc := 0) E.1 E.2.1 dX8_toldText_0 rfl (lv_at hl 1 rfl) ?_
  refine lv_iconst (v := (-1)) (pc := 1) E.1 E.2.1 dX8_toldText_1 (by decide) ?_
  refine lv_icmp_ne (tgt := 12) (pc := 2) E.1 E.2.1 dX8_toldText_2 (by decide) (fun q1 => ?_) (fun q1 => ?_)
  · have hf := x_neg q1 hf
    refine lv_iload_n (pc := 12) E.1 E.2.1 dX8_toldText_12 rfl (lv_at hl 1 rfl) ?_
    refine lv_aload_n (pc := 13) E.1 E.2.1 dX8_toldText_13 rfl (lv_at hl 0 rfl) ?_
    refine xg_X8_279 (pc := 14) (v := .int (g8_textMany s)) E hw 0 rfl rfl dX8_toldText_14 ?_
    refine lv_icmp_ge (tgt := 29) (pc := 17) E.1 E.2.1 dX8_toldText_17 (by decide) (fun q2 => ?_) (fun q2 => ?_)
    · have hf := x_pos q2 hf
      refine lv_bipush (v := (-2)) (pc := 29) E.1 E.2.1 dX8_toldText_29 (by decide) ?_
      obtain rfl := Option.some.inj hf
      exact x_reti (pc := 31) E hr hk hw dX8_toldText_31
    · have hf := x_neg q2 hf
      refine lv_aload_n (pc := 20) E.1 E.2.1 dX8_toldText_20 rfl (lv_at hl 0 rfl) ?_
      refine xg_X8_63 (pc := 21) (v := .ref (ad 17)) E hw 0 rfl rfl dX8_toldText_21 ?_
      refine lv_iload_n (pc := 24) E.1 E.2.1 dX8_toldText_24 rfl (lv_at hl 1 rfl) ?_
      obtain ⟨v4, g3, hf⟩ := x_bind hf
      refine x_iald (pc := 25) E hw 17 rfl g3 dX8_toldText_25 ?_
      refine lv_goto (tgt := 31) (pc := 26) E.1 E.2.1 dX8_toldText_26 (by decide) ?_
      obtain rfl := Option.some.inj hf
      exact x_reti (pc := 31) E hr hk hw dX8_toldText_31
  · have hf := x_pos q1 hf
    refine lv_aload_n (pc := 5) E.1 E.2.1 dX8_toldText_5 rfl (lv_at hl 0 rfl) ?_
    refine xg_X8_279 (pc := 6) (v := .int (g8_textMany s)) E hw 0 rfl rfl dX8_toldText_6 ?_
    refine lv_goto (tgt := 31) (pc := 9) E.1 E.2.1 dX8_toldText_9 (by decide) ?_
    obtain rfl := Option.some.inj hf
    exact x_reti (pc := 31) E hr hk hw dX8_toldText_31
set_option maxHeartbeats 4000000 in
set_option maxRecDepth 100000 in
theorem c_X8_toldText (l : Launch) (G : xG) (ad : Nat → Nat) (s : S8) (x1 : Int32) {z : Int32} (hf : f_X8_toldText s x1 = some z) : xC l yX8_toldText cX8_toldText 2 (some .int) (rm_X8_toldText) G [.ref (ad 0), .int x1] (cells8 G ad s) (some (.int z)) (cells8 G ad s) :=
  x_met (by decide) (Nat.le_of_ble_eq_true rfl) (fun p e sS m below meth c E hr hk ls hl hw => w_X8_toldText_p0 E hr hk s x1 z hw hl hf)
set_option maxHeartbeats 4000000 in
set_option maxRecDepth 100000 in
theorem w_X8_report_p107 {p : Program} {l : Launch} {e : Env} {sS : State} {m : MethodId} {args : Array Value} {below : List Frame} {meth : Method} {c : Code} {G : xG} {W0 : va_W} {ad : Nat → Nat}   (E : xE p sS m args c cX8_report 3 RX8 G (x_in W0)) (hr : meth.sig.returnType = (some .int)) (hk : meth.locks = false)  : ∀ (s' : S8) (x2' : Int32) (z : Int32 × S8) {H : Heap} {locs : List Loc} {ls : Array Slot}, xW G (x_in W0) sS.heap (cells8 G ad s') H locs → lv_has ls 3 [(0, .ref (ad 0)), (2, .int x2')] → f_X8_report_p107  s' x2' = some z → W p l e (rm_X8_report) sS m args below meth c H locs 0 0 (MQ below (xQ G W0 (cells8 G ad z.2) (some (.int z.1))) args sS 0 0 (x_in W0)) (F0 m 107 ls []) := by
  intro s x2 z H locs ls hw hl hf
  unfold f_X8_report_p107 at hf
  refine lv_aload_n (pc := 107) E.1 E.2.1 dX8_report_107 rfl (lv_at hl 0 rfl) ?_
  refine lv_bipush (v := 59) (pc := 108) E.1 E.2.1 dX8_report_108 (by decide) ?_
  obtain ⟨v1, g2, hf⟩ := x_bind hf
  refine x_callVA (pc := 110) (As := [.int 59]) (rest := []) (st1 := []) (ws' := (cells8 G ad v1)) E hw hl (c_X8_writes l G ad s 59 g2) xv_X8_285 xd_X8_writes rfl rfl ⟨Nat.le_of_ble_eq_true rfl, Nat.le_of_ble_eq_true rfl⟩ (q0 := 0) rfl rfl rfl rfl (Nat.le_of_ble_eq_true rfl) rfl rfl dX8_report_110 (fun H locs hw => ?_)
  refine lv_aload_n (pc := 113) E.1 E.2.1 dX8_report_113 rfl (lv_at hl 0 rfl) ?_
  refine lv_iload_n (pc := 114) E.1 E.2.1 dX8_report_114 rfl (lv_at hl 1 rfl) ?_
  obtain ⟨v3, g4, hf⟩ := x_bind hf
  refine x_callVA (pc := 115) (As := [.int x2]) (rest := []) (st1 := [.int v3]) (ws' := (cells8 G ad v1)) E hw hl (c_X8_toldText l G ad v1 x2 g4) xv_X8_297 xd_X8_toldText rfl rfl ⟨Nat.le_of_ble_eq_true rfl, Nat.le_of_ble_eq_true rfl⟩ (q0 := 0) rfl rfl rfl rfl (Nat.le_of_ble_eq_true rfl) rfl rfl dX8_report_115 (fun H locs hw => ?_)
  obtain rfl := Option.some.inj hf
  exact x_reti (pc := 118) E hr hk hw dX8_report_118
set_option maxHeartbeats 4000000 in
set_option maxRecDepth 100000 in
theorem w_X8_report_p0 {p : Program} {l : Launch} {e : Env} {sS : State} {m : MethodId} {args : Array Value} {below : List Frame} {meth : Method} {c : Code} {G : xG} {W0 : va_W} {ad : Nat → Nat}   (E : xE p sS m args c cX8_report 3 RX8 G (x_in W0)) (hr : meth.sig.returnType = (some .int)) (hk : meth.locks = false)  : ∀ (s' : S8) (x1' : Int32) (x2' : Int32) (z : Int32 × S8) {H : Heap} {locs : List Loc} {ls : Array Slot}, xW G (x_in W0) sS.heap (cells8 G ad s') H locs → lv_has ls 3 [(0, .ref (ad 0)), (1, .int x1'), (2, .int x2')] → f_X8_report  s' x1' x2' = some z → W p l e (rm_X8_report) sS m args below meth c H locs 0 0 (MQ below (xQ G W0 (cells8 G ad z.2) (some (.int z.1))) args sS 0 0 (x_in W0)) (F0 m 0 ls []) := by
  intro s x1 x2 z H locs ls hw hl hf
  unfold f_X8_report at hf
  refine lv_aload_n (pc := 0) E.1 E.2.1 dX8_report_0 rfl (lv_at hl 0 rfl) ?_
  refine lv_iload_n (pc := 1) E.1 E.2.1 dX8_report_1 rfl (lv_at hl 1 rfl) ?_
  obtain ⟨v1, g2, hf⟩ := x_bind hf
  refine x_callVA (pc := 2) (As := [.int x1]) (rest := []) (st1 := [.int v1]) (ws' := (cells8 G ad s)) E hw hl (c_X8_isFleet l G ad s x1 g2) xv_X8_115 xd_X8_isFleet rfl rfl ⟨Nat.le_of_ble_eq_true rfl, Nat.le_of_ble_eq_true rfl⟩ (q0 := 0) rfl rfl rfl rfl (Nat.le_of_ble_eq_true rfl) rfl rfl dX8_report_2 (fun H locs hw => ?_)
  refine lv_if_eq (tgt := 13) (pc := 5) E.1 E.2.1 dX8_report_5 (by decide) (fun q3 => ?_) (fun q3 => ?_)
  · have hf := x_pos q3 hf
    refine lv_iconst (v := (-1)) (pc := 13) E.1 E.2.1 dX8_report_13 (by decide) ?_
    obtain rfl := Option.some.inj hf
    exact x_reti (pc := 14) E hr hk hw dX8_report_14
  · have hf := x_neg q3 hf
    refine lv_iload_n (pc := 8) E.1 E.2.1 dX8_report_8 rfl (lv_at hl 2 rfl) ?_
    refine lv_iconst (v := (-1)) (pc := 9) E.1 E.2.1 dX8_report_9 (by decide) ?_
    refine lv_icmp_ge (tgt := 15) (pc := 10) E.1 E.2.1 dX8_report_10 (by decide) (fun q4 => ?_) (fun q4 => ?_)
    · have hf := x_pos q4 hf
      refine lv_aload_n (pc := 15) E.1 E.2.1 dX8_report_15 rfl (lv_at hl 0 rfl) ?_
      obtain ⟨v5, g6, hf⟩ := x_bind hf
      refine x_callVA (pc := 16) (As := []) (rest := []) (st1 := []) (ws' := (cells8 G ad v5)) E hw hl (c_X8_works l G ad s g6) xv_X8_221 xd_X8_works rfl rfl ⟨Nat.le_of_ble_eq_true rfl, Nat.le_of_ble_eq_true rfl⟩ (q0 := 0) rfl rfl rfl rfl (Nat.le_of_ble_eq_true rfl) rfl rfl dX8_report_16 (fun H locs hw => ?_)
      refine lv_aload_n (pc := 19) E.1 E.2.1 dX8_report_19 rfl (lv_at hl 0 rfl) ?_
      refine lv_iconst (v := 0) (pc := 20) E.1 E.2.1 dX8_report_20 (by decide) ?_
      refine xp_X8_279 (pc := 21) (v := .int 0) (ws' := (cells8 G ad (u8_textMany v5 0))) E hw 0 rfl rfl rfl (Nat.le_of_ble_eq_true rfl) rfl dX8_report_21 (fun H locs hw => ?_)
      refine lv_aload_n (pc := 24) E.1 E.2.1 dX8_report_24 rfl (lv_at hl 0 rfl) ?_
      refine lv_iconst (v := 2) (pc := 25) E.1 E.2.1 dX8_report_25 (by decide) ?_
      refine lv_iload_n (pc := 26) E.1 E.2.1 dX8_report_26 rfl (lv_at hl 1 rfl) ?_
      obtain ⟨v7, g8, hf⟩ := x_bind hf
      refine x_callVA (pc := 27) (As := [.int 2, .int x1]) (rest := []) (st1 := []) (ws' := (cells8 G ad v7)) E hw hl (c_X8_writesOne l G ad (u8_textMany v5 0) 2 x1 g8) xv_X8_294 xd_X8_writesOne rfl rfl ⟨Nat.le_of_ble_eq_true rfl, Nat.le_of_ble_eq_true rfl⟩ (q0 := 0) rfl rfl rfl rfl (Nat.le_of_ble_eq_true rfl) rfl rfl dX8_report_27 (fun H locs hw => ?_)
      refine lv_aload_n (pc := 30) E.1 E.2.1 dX8_report_30 rfl (lv_at hl 0 rfl) ?_
      refine lv_bipush (v := 32) (pc := 31) E.1 E.2.1 dX8_report_31 (by decide) ?_
      obtain ⟨v9, g10, hf⟩ := x_bind hf
      refine x_callVA (pc := 33) (As := [.int 32]) (rest := []) (st1 := []) (ws' := (cells8 G ad v9)) E hw hl (c_X8_writes l G ad v7 32 g10) xv_X8_285 xd_X8_writes rfl rfl ⟨Nat.le_of_ble_eq_true rfl, Nat.le_of_ble_eq_true rfl⟩ (q0 := 0) rfl rfl rfl rfl (Nat.le_of_ble_eq_true rfl) rfl rfl dX8_report_33 (fun H locs hw => ?_)
      refine lv_aload_n (pc := 36) E.1 E.2.1 dX8_report_36 rfl (lv_at hl 0 rfl) ?_
      refine lv_iconst (v := 4) (pc := 37) E.1 E.2.1 dX8_report_37 (by decide) ?_
      refine lv_aload_n (pc := 38) E.1 E.2.1 dX8_report_38 rfl (lv_at hl 0 rfl) ?_
      refine lv_iload_n (pc := 39) E.1 E.2.1 dX8_report_39 rfl (lv_at hl 1 rfl) ?_
      obtain ⟨v11, g12, hf⟩ := x_bind hf
      refine x_callVA (pc := 40) (As := [.int x1]) (rest := [.int 4, .ref (ad 0)]) (st1 := [.int v11, .int 4, .ref (ad 0)]) (ws' := (cells8 G ad v9)) E hw hl (c_X8_classOf l G ad v9 x1 g12) xv_X8_125 xd_X8_classOf rfl rfl ⟨Nat.le_of_ble_eq_true rfl, Nat.le_of_ble_eq_true rfl⟩ (q0 := 0) rfl rfl rfl rfl (Nat.le_of_ble_eq_true rfl) rfl rfl dX8_report_40 (fun H locs hw => ?_)
      obtain ⟨v13, g14, hf⟩ := x_bind hf
      refine x_callVA (pc := 43) (As := [.int 4, .int v11]) (rest := []) (st1 := []) (ws' := (cells8 G ad v13)) E hw hl (c_X8_writesOne l G ad v9 4 v11 g14) xv_X8_294 xd_X8_writesOne rfl rfl ⟨Nat.le_of_ble_eq_true rfl, Nat.le_of_ble_eq_true rfl⟩ (q0 := 0) rfl rfl rfl rfl (Nat.le_of_ble_eq_true rfl) rfl rfl dX8_report_43 (fun H locs hw => ?_)
      refine lv_aload_n (pc := 46) E.1 E.2.1 dX8_report_46 rfl (lv_at hl 0 rfl) ?_
      refine lv_bipush (v := 32) (pc := 47) E.1 E.2.1 dX8_report_47 (by decide) ?_
      obtain ⟨v15, g16, hf⟩ := x_bind hf
      refine x_callVA (pc := 49) (As := [.int 32]) (rest := []) (st1 := []) (ws' := (cells8 G ad v15)) E hw hl (c_X8_writes l G ad v13 32 g16) xv_X8_285 xd_X8_writes rfl rfl ⟨Nat.le_of_ble_eq_true rfl, Nat.le_of_ble_eq_true rfl⟩ (q0 := 0) rfl rfl rfl rfl (Nat.le_of_ble_eq_true rfl) rfl rfl dX8_report_49 (fun H locs hw => ?_)
      refine lv_aload_n (pc := 52) E.1 E.2.1 dX8_report_52 rfl (lv_at hl 0 rfl) ?_
      refine lv_iconst (v := 5) (pc := 53) E.1 E.2.1 dX8_report_53 (by decide) ?_
      refine lv_aload_n (pc := 54) E.1 E.2.1 dX8_report_54 rfl (lv_at hl 0 rfl) ?_
      refine xg_X8_26 (pc := 55) (v := .ref (ad 5)) E hw 0 rfl rfl dX8_report_55 ?_
      refine lv_iload_n (pc := 58) E.1 E.2.1 dX8_report_58 rfl (lv_at hl 1 rfl) ?_
      obtain ⟨v18, g17, hf⟩ := x_bind hf
      refine x_iald (pc := 59) E hw 5 rfl g17 dX8_report_59 ?_
      obtain ⟨v19, g20, hf⟩ := x_bind hf
      refine x_callVA (pc := 60) (As := [.int 5, .int v18]) (rest := []) (st1 := []) (ws' := (cells8 G ad v19)) E hw hl (c_X8_writesOne l G ad v15 5 v18 g20) xv_X8_294 xd_X8_writesOne rfl rfl ⟨Nat.le_of_ble_eq_true rfl, Nat.le_of_ble_eq_true rfl⟩ (q0 := 0) rfl rfl rfl rfl (Nat.le_of_ble_eq_true rfl) rfl rfl dX8_report_60 (fun H locs hw => ?_)
      refine lv_aload_n (pc := 63) E.1 E.2.1 dX8_report_63 rfl (lv_at hl 0 rfl) ?_
      refine xg_X8_26 (pc := 64) (v := .ref (ad 5)) E hw 0 rfl rfl dX8_report_64 ?_
      refine lv_iload_n (pc := 67) E.1 E.2.1 dX8_report_67 rfl (lv_at hl 1 rfl) ?_
      obtain ⟨v22, g21, hf⟩ := x_bind hf
      refine x_iald (pc := 68) E hw 5 rfl g21 dX8_report_68 ?_
      refine lv_if_le (tgt := 107) (pc := 69) E.1 E.2.1 dX8_report_69 (by decide) (fun q23 => ?_) (fun q23 => ?_)
      · have hf := x_pos q23 hf
        exact w_X8_report_p107 E hr hk  v19 x2 z hw (lv_sub hl [0, 2] rfl) hf
      · have hf := x_neg q23 hf
        refine lv_aload_n (pc := 72) E.1 E.2.1 dX8_report_72 rfl (lv_at hl 0 rfl) ?_
        refine lv_bipush (v := 32) (pc := 73) E.1 E.2.1 dX8_report_73 (by decide) ?_
        obtain ⟨v24, g25, hf⟩ := x_bind hf
        refine x_callVA (pc := 75) (As := [.int 32]) (rest := []) (st1 := []) (ws' := (cells8 G ad v24)) E hw hl (c_X8_writes l G ad v19 32 g25) xv_X8_285 xd_X8_writes rfl rfl ⟨Nat.le_of_ble_eq_true rfl, Nat.le_of_ble_eq_true rfl⟩ (q0 := 0) rfl rfl rfl rfl (Nat.le_of_ble_eq_true rfl) rfl rfl dX8_report_75 (fun H locs hw => ?_)
        refine lv_aload_n (pc := 78) E.1 E.2.1 dX8_report_78 rfl (lv_at hl 0 rfl) ?_
        refine lv_bipush (v := 6) (pc := 79) E.1 E.2.1 dX8_report_79 (by decide) ?_
        refine lv_aload_n (pc := 81) E.1 E.2.1 dX8_report_81 rfl (lv_at hl 0 rfl) ?_
        refine xg_X8_35 (pc := 82) (v := .ref (ad 8)) E hw 0 rfl rfl dX8_report_82 ?_
        refine lv_iload_n (pc := 85) E.1 E.2.1 dX8_report_85 rfl (lv_at hl 1 rfl) ?_
        obtain ⟨v27, g26, hf⟩ := x_bind hf
        refine x_iald (pc := 86) E hw 8 rfl g26 dX8_report_86 ?_
        obtain ⟨v28, g29, hf⟩ := x_bind hf
        refine x_callVA (pc := 87) (As := [.int 6, .int v27]) (rest := []) (st1 := []) (ws' := (cells8 G ad v28)) E hw hl (c_X8_writesOne l G ad v24 6 v27 g29) xv_X8_294 xd_X8_writesOne rfl rfl ⟨Nat.le_of_ble_eq_true rfl, Nat.le_of_ble_eq_true rfl⟩ (q0 := 0) rfl rfl rfl rfl (Nat.le_of_ble_eq_true rfl) rfl rfl dX8_report_87 (fun H locs hw => ?_)
        refine lv_aload_n (pc := 90) E.1 E.2.1 dX8_report_90 rfl (lv_at hl 0 rfl) ?_
        refine lv_bipush (v := 32) (pc := 91) E.1 E.2.1 dX8_report_91 (by decide) ?_
        obtain ⟨v30, g31, hf⟩ := x_bind hf
        refine x_callVA (pc := 93) (As := [.int 32]) (rest := []) (st1 := []) (ws' := (cells8 G ad v30)) E hw hl (c_X8_writes l G ad v28 32 g31) xv_X8_285 xd_X8_writes rfl rfl ⟨Nat.le_of_ble_eq_true rfl, Nat.le_of_ble_eq_true rfl⟩ (q0 := 0) rfl rfl rfl rfl (Nat.le_of_ble_eq_true rfl) rfl rfl dX8_report_93 (fun H locs hw => ?_)
        refine lv_aload_n (pc := 96) E.1 E.2.1 dX8_report_96 rfl (lv_at hl 0 rfl) ?_
        refine lv_bipush (v := 7) (pc := 97) E.1 E.2.1 dX8_report_97 (by decide) ?_
        refine lv_aload_n (pc := 99) E.1 E.2.1 dX8_report_99 rfl (lv_at hl 0 rfl) ?_
        refine lv_iload_n (pc := 100) E.1 E.2.1 dX8_report_100 rfl (lv_at hl 1 rfl) ?_
        obtain ⟨v32, g33, hf⟩ := x_bind hf
        refine x_callVA (pc := 101) (As := [.int x1]) (rest := [.int 7, .ref (ad 0)]) (st1 := [.int v32, .int 7, .ref (ad 0)]) (ws' := (cells8 G ad v30)) E hw hl (c_X8_inThousandths l G ad v30 x1 g33) xv_X8_224 xd_X8_inThousandths rfl rfl ⟨Nat.le_of_ble_eq_true rfl, Nat.le_of_ble_eq_true rfl⟩ (q0 := 0) rfl rfl rfl rfl (Nat.le_of_ble_eq_true rfl) rfl rfl dX8_report_101 (fun H locs hw => ?_)
        obtain ⟨v34, g35, hf⟩ := x_bind hf
        refine x_callVA (pc := 104) (As := [.int 7, .int v32]) (rest := []) (st1 := []) (ws' := (cells8 G ad v34)) E hw hl (c_X8_writesOne l G ad v30 7 v32 g35) xv_X8_294 xd_X8_writesOne rfl rfl ⟨Nat.le_of_ble_eq_true rfl, Nat.le_of_ble_eq_true rfl⟩ (q0 := 0) rfl rfl rfl rfl (Nat.le_of_ble_eq_true rfl) rfl rfl dX8_report_104 (fun H locs hw => ?_)
        exact w_X8_report_p107 E hr hk  v34 x2 z hw (lv_sub hl [0, 2] rfl) hf
    · have hf := x_neg q4 hf
      refine lv_iconst (v := (-1)) (pc := 13) E.1 E.2.1 dX8_report_13 (by decide) ?_
      obtain rfl := Option.some.inj hf
      exact x_reti (pc := 14) E hr hk hw dX8_report_14
set_option maxHeartbeats 4000000 in
set_option maxRecDepth 100000 in
theorem c_X8_report (l : Launch) (G : xG) (ad : Nat → Nat) (s : S8) (x1 : Int32) (x2 : Int32) {z : Int32 × S8} (hf : f_X8_report s x1 x2 = some z) : xC l yX8_report cX8_report 3 (some .int) (rm_X8_report) G [.ref (ad 0), .int x1, .int x2] (cells8 G ad s) (some (.int z.1)) (cells8 G ad z.2) :=
  x_met (by decide) (Nat.le_of_ble_eq_true rfl) (fun p e sS m below meth c E hr hk ls hl hw => w_X8_report_p0 E hr hk s x1 x2 z hw hl hf)
set_option maxHeartbeats 4000000 in
set_option maxRecDepth 100000 in
theorem w_X8_spell_p122 {p : Program} {l : Launch} {e : Env} {sS : State} {m : MethodId} {args : Array Value} {below : List Frame} {meth : Method} {c : Code} {G : xG} {W0 : va_W} {ad : Nat → Nat}  {k107 : S8 → Int32 → Int32 → Option (Int32 × S8)} {k122 : S8 → Int32 → Int32 → Int32 → Option (Int32 × S8)} (E : xE p sS m args c cX8_spell 4 RX8 G (x_in W0)) (hr : meth.sig.returnType = (some .int)) (hk : meth.locks = false) (hk107 : ∀ (s' : S8) (x1' : Int32) (x2' : Int32) (z : Int32 × S8) {H : Heap} {locs : List Loc} {ls : Array Slot}, xW G (x_in W0) sS.heap (cells8 G ad s') H locs → lv_has ls 4 [(0, .ref (ad 0)), (1, .int x1'), (2, .int x2')] → k107  s' x1' x2' = some z → W p l e (rm_X8_spell) sS m args below meth c H locs 0 0 (MQ below (xQ G W0 (cells8 G ad z.2) (some (.int z.1))) args sS 0 0 (x_in W0)) (F0 m 107 ls [])) (hk122 : ∀ (s' : S8) (x1' : Int32) (x2' : Int32) (x3' : Int32) (z : Int32 × S8) {H : Heap} {locs : List Loc} {ls : Array Slot}, xW G (x_in W0) sS.heap (cells8 G ad s') H locs → lv_has ls 4 [(0, .ref (ad 0)), (1, .int x1'), (2, .int x2'), (3, .int x3')] → k122  s' x1' x2' x3' = some z → W p l e (rm_X8_spell) sS m args below meth c H locs 0 0 (MQ below (xQ G W0 (cells8 G ad z.2) (some (.int z.1))) args sS 0 0 (x_in W0)) (F0 m 122 ls [])) : ∀ (s' : S8) (x1' : Int32) (x2' : Int32) (x3' : Int32) (z : Int32 × S8) {H : Heap} {locs : List Loc} {ls : Array Slot}, xW G (x_in W0) sS.heap (cells8 G ad s') H locs → lv_has ls 4 [(0, .ref (ad 0)), (1, .int x1'), (2, .int x2'), (3, .int x3')] → f_X8_spell_p122 k107 k122 s' x1' x2' x3' = some z → W p l e (rm_X8_spell) sS m args below meth c H locs 0 0 (MQ below (xQ G W0 (cells8 G ad z.2) (some (.int z.1))) args sS 0 0 (x_in W0)) (F0 m 122 ls []) := by
  intro s x1 x2 x3 z H locs ls hw hl hf
  unfold f_X8_spell_p122 at hf
  refine lv_iload_n (pc := 122) E.1 E.2.1 dX8_spell_122 rfl (lv_at hl 3 rfl) ?_
  refine lv_iconst (v := 3) (pc := 123) E.1 E.2.1 dX8_spell_123 (by decide) ?_
  refine lv_icmp_ge (tgt := 150) (pc := 124) E.1 E.2.1 dX8_spell_124 (by decide) (fun q1 => ?_) (fun q1 => ?_)
  · have hf := x_pos q1 hf
    refine lv_aload_n (pc := 150) E.1 E.2.1 dX8_spell_150 rfl (lv_at hl 0 rfl) ?_
    refine lv_bipush (v := 59) (pc := 151) E.1 E.2.1 dX8_spell_151 (by decide) ?_
    obtain ⟨v2, g3, hf⟩ := x_bind hf
    refine x_callVA (pc := 153) (As := [.int 59]) (rest := []) (st1 := []) (ws' := (cells8 G ad v2)) E hw hl (c_X8_writes l G ad s 59 g3) xv_X8_285 xd_X8_writes rfl rfl ⟨Nat.le_of_ble_eq_true rfl, Nat.le_of_ble_eq_true rfl⟩ (q0 := 0) rfl rfl rfl rfl (Nat.le_of_ble_eq_true rfl) rfl rfl dX8_spell_153 (fun H locs hw => ?_)
    refine lv_iinc (v := (x2 + 1)) (lv' := [(2, .int (x2 + 1)), (0, .ref (ad 0)), (1, .int x1), (3, .int x3)]) (pc := 156) E.1 E.2.1 dX8_spell_156 hl (k := 2) rfl rfl (by decide) rfl (fun ls hl => ?_)
    refine lv_goto (tgt := 107) (pc := 159) E.1 E.2.1 dX8_spell_159 (by decide) ?_
    exact hk107 v2 x1 (x2 + 1) z hw (lv_sub hl [1, 2, 0] rfl) hf
  · have hf := x_neg q1 hf
    refine lv_aload_n (pc := 127) E.1 E.2.1 dX8_spell_127 rfl (lv_at hl 0 rfl) ?_
    refine lv_aload_n (pc := 128) E.1 E.2.1 dX8_spell_128 rfl (lv_at hl 0 rfl) ?_
    refine xg_X8_13 (pc := 129) (v := .ref (ad 1)) E hw 0 rfl rfl dX8_spell_129 ?_
    refine lv_bipush (v := 20) (pc := 132) E.1 E.2.1 dX8_spell_132 (by decide) ?_
    refine lv_iconst (v := 3) (pc := 134) E.1 E.2.1 dX8_spell_134 (by decide) ?_
    refine lv_iload_n (pc := 135) E.1 E.2.1 dX8_spell_135 rfl (lv_at hl 2 rfl) ?_
    refine lv_imul (pc := 136) E.1 E.2.1 dX8_spell_136 ?_
    refine lv_iadd (pc := 137) E.1 E.2.1 dX8_spell_137 ?_
    refine lv_iload_n (pc := 138) E.1 E.2.1 dX8_spell_138 rfl (lv_at hl 3 rfl) ?_
    refine lv_iadd (pc := 139) E.1 E.2.1 dX8_spell_139 ?_
    obtain ⟨v5, g4, hf⟩ := x_bind hf
    refine x_iald (pc := 140) E hw 1 rfl g4 dX8_spell_140 ?_
    obtain ⟨v6, g7, hf⟩ := x_bind hf
    refine x_callVA (pc := 141) (As := [.int v5]) (rest := []) (st1 := []) (ws' := (cells8 G ad v6)) E hw hl (c_X8_writesNumber l G ad s v5 g7) xv_X8_291 xd_X8_writesNumber rfl rfl ⟨Nat.le_of_ble_eq_true rfl, Nat.le_of_ble_eq_true rfl⟩ (q0 := 0) rfl rfl rfl rfl (Nat.le_of_ble_eq_true rfl) rfl rfl dX8_spell_141 (fun H locs hw => ?_)
    refine lv_iinc (v := (x3 + 1)) (lv' := [(3, .int (x3 + 1)), (0, .ref (ad 0)), (1, .int x1), (2, .int x2)]) (pc := 144) E.1 E.2.1 dX8_spell_144 hl (k := 3) rfl rfl (by decide) rfl (fun ls hl => ?_)
    refine lv_goto (tgt := 122) (pc := 147) E.1 E.2.1 dX8_spell_147 (by decide) ?_
    exact hk122 v6 x1 x2 (x3 + 1) z hw (lv_sub hl [1, 2, 3, 0] rfl) hf
set_option maxHeartbeats 4000000 in
set_option maxRecDepth 100000 in
theorem wl_X8_spell_p122 {p : Program} {l : Launch} {e : Env} {sS : State} {m : MethodId} {args : Array Value} {below : List Frame} {meth : Method} {c : Code} {G : xG} {W0 : va_W} {ad : Nat → Nat}  {k107 : S8 → Int32 → Int32 → Option (Int32 × S8)} (E : xE p sS m args c cX8_spell 4 RX8 G (x_in W0)) (hr : meth.sig.returnType = (some .int)) (hk : meth.locks = false) (hk107 : ∀ (s' : S8) (x1' : Int32) (x2' : Int32) (z : Int32 × S8) {H : Heap} {locs : List Loc} {ls : Array Slot}, xW G (x_in W0) sS.heap (cells8 G ad s') H locs → lv_has ls 4 [(0, .ref (ad 0)), (1, .int x1'), (2, .int x2')] → k107  s' x1' x2' = some z → W p l e (rm_X8_spell) sS m args below meth c H locs 0 0 (MQ below (xQ G W0 (cells8 G ad z.2) (some (.int z.1))) args sS 0 0 (x_in W0)) (F0 m 107 ls [])) : ∀ (s' : S8) (x1' : Int32) (x2' : Int32) (x3' : Int32) (z : Int32 × S8) {H : Heap} {locs : List Loc} {ls : Array Slot}, xW G (x_in W0) sS.heap (cells8 G ad s') H locs → lv_has ls 4 [(0, .ref (ad 0)), (1, .int x1'), (2, .int x2'), (3, .int x3')] → lp_X8_spell_p122 k107 s' x1' x2' x3' = some z → W p l e (rm_X8_spell) sS m args below meth c H locs 0 0 (MQ below (xQ G W0 (cells8 G ad z.2) (some (.int z.1))) args sS 0 0 (x_in W0)) (F0 m 122 ls []) := by
  intro s x1 x2 x3 z H locs ls hw hl hf
  exact x_loop_W (P := fun (q : S8 × Int32 × Int32 × Int32) (z : Int32 × S8) => ∀ {H : Heap} {locs : List Loc} {ls : Array Slot}, xW G (x_in W0) sS.heap (cells8 G ad q.1) H locs → lv_has ls 4 [(0, .ref (ad 0)), (1, .int q.2.1), (2, .int q.2.2.1), (3, .int q.2.2.2)] → W p l e (rm_X8_spell) sS m args below meth c H locs 0 0 (MQ below (xQ G W0 (cells8 G ad z.2) (some (.int z.1))) args sS 0 0 (x_in W0)) (F0 m 122 ls [])) (fun k hkk q z hf H locs ls hw hl => w_X8_spell_p122 E hr hk hk107 (fun s x1 x2 x3 z H locs ls hw hl hf => hkk (s, x1, x2, x3) z hf hw hl) q.1 q.2.1 q.2.2.1 q.2.2.2 z hw hl hf) FU (s, x1, x2, x3) z hf hw hl
set_option maxHeartbeats 4000000 in
set_option maxRecDepth 100000 in
theorem w_X8_spell_p107 {p : Program} {l : Launch} {e : Env} {sS : State} {m : MethodId} {args : Array Value} {below : List Frame} {meth : Method} {c : Code} {G : xG} {W0 : va_W} {ad : Nat → Nat}  {k107 : S8 → Int32 → Int32 → Option (Int32 × S8)} (E : xE p sS m args c cX8_spell 4 RX8 G (x_in W0)) (hr : meth.sig.returnType = (some .int)) (hk : meth.locks = false) (hk107 : ∀ (s' : S8) (x1' : Int32) (x2' : Int32) (z : Int32 × S8) {H : Heap} {locs : List Loc} {ls : Array Slot}, xW G (x_in W0) sS.heap (cells8 G ad s') H locs → lv_has ls 4 [(0, .ref (ad 0)), (1, .int x1'), (2, .int x2')] → k107  s' x1' x2' = some z → W p l e (rm_X8_spell) sS m args below meth c H locs 0 0 (MQ below (xQ G W0 (cells8 G ad z.2) (some (.int z.1))) args sS 0 0 (x_in W0)) (F0 m 107 ls [])) : ∀ (s' : S8) (x1' : Int32) (x2' : Int32) (z : Int32 × S8) {H : Heap} {locs : List Loc} {ls : Array Slot}, xW G (x_in W0) sS.heap (cells8 G ad s') H locs → lv_has ls 4 [(0, .ref (ad 0)), (1, .int x1'), (2, .int x2')] → f_X8_spell_p107 k107 s' x1' x2' = some z → W p l e (rm_X8_spell) sS m args below meth c H locs 0 0 (MQ below (xQ G W0 (cells8 G ad z.2) (some (.int z.1))) args sS 0 0 (x_in W0)) (F0 m 107 ls []) := by
  intro s x1 x2 z H locs ls hw hl hf
  unfold f_X8_spell_p107 at hf
  refine lv_iload_n (pc := 107) E.1 E.2.1 dX8_spell_107 rfl (lv_at hl 2 rfl) ?_
  refine lv_aload_n (pc := 108) E.1 E.2.1 dX8_spell_108 rfl (lv_at hl 0 rfl) ?_
  obtain ⟨v1, g2, hf⟩ := x_bind hf
  refine x_callVA (pc := 109) (As := []) (rest := [.int x2]) (st1 := [.int v1, .int x2]) (ws' := (cells8 G ad s)) E hw hl (c_X8_claims l G ad s g2) xv_X8_88 xd_X8_claims rfl rfl ⟨Nat.le_of_ble_eq_true rfl, Nat.le_of_ble_eq_true rfl⟩ (q0 := 0) rfl rfl rfl rfl (Nat.le_of_ble_eq_true rfl) rfl rfl dX8_spell_109 (fun H locs hw => ?_)
  refine lv_icmp_ge (tgt := 162) (pc := 112) E.1 E.2.1 dX8_spell_112 (by decide) (fun q3 => ?_) (fun q3 => ?_)
  · have hf := x_pos q3 hf
    refine lv_aload_n (pc := 162) E.1 E.2.1 dX8_spell_162 rfl (lv_at hl 0 rfl) ?_
    refine lv_iload_n (pc := 163) E.1 E.2.1 dX8_spell_163 rfl (lv_at hl 1 rfl) ?_
    obtain ⟨v4, g5, hf⟩ := x_bind hf
    refine x_callVA (pc := 164) (As := [.int x1]) (rest := []) (st1 := [.int v4]) (ws' := (cells8 G ad s)) E hw hl (c_X8_toldText l G ad s x1 g5) xv_X8_297 xd_X8_toldText rfl rfl ⟨Nat.le_of_ble_eq_true rfl, Nat.le_of_ble_eq_true rfl⟩ (q0 := 0) rfl rfl rfl rfl (Nat.le_of_ble_eq_true rfl) rfl rfl dX8_spell_164 (fun H locs hw => ?_)
    obtain rfl := Option.some.inj hf
    exact x_reti (pc := 167) E hr hk hw dX8_spell_167
  · have hf := x_neg q3 hf
    refine lv_aload_n (pc := 115) E.1 E.2.1 dX8_spell_115 rfl (lv_at hl 0 rfl) ?_
    refine lv_iconst (v := 3) (pc := 116) E.1 E.2.1 dX8_spell_116 (by decide) ?_
    obtain ⟨v6, g7, hf⟩ := x_bind hf
    refine x_callVA (pc := 117) (As := [.int 3]) (rest := []) (st1 := []) (ws' := (cells8 G ad v6)) E hw hl (c_X8_writesWord l G ad s 3 g7) xv_X8_288 xd_X8_writesWord rfl rfl ⟨Nat.le_of_ble_eq_true rfl, Nat.le_of_ble_eq_true rfl⟩ (q0 := 0) rfl rfl rfl rfl (Nat.le_of_ble_eq_true rfl) rfl rfl dX8_spell_117 (fun H locs hw => ?_)
    refine lv_iconst (v := 0) (pc := 120) E.1 E.2.1 dX8_spell_120 (by decide) ?_
    refine lv_istore_n (lv' := [(3, .int 0), (0, .ref (ad 0)), (1, .int x1), (2, .int x2)]) (pc := 121) E.1 E.2.1 dX8_spell_121 rfl hl (by decide) rfl (fun ls hl => ?_)
    exact wl_X8_spell_p122 E hr hk hk107 v6 x1 x2 0 z hw (lv_sub hl [1, 2, 3, 0] rfl) hf
set_option maxHeartbeats 4000000 in
set_option maxRecDepth 100000 in
theorem wl_X8_spell_p107 {p : Program} {l : Launch} {e : Env} {sS : State} {m : MethodId} {args : Array Value} {below : List Frame} {meth : Method} {c : Code} {G : xG} {W0 : va_W} {ad : Nat → Nat}   (E : xE p sS m args c cX8_spell 4 RX8 G (x_in W0)) (hr : meth.sig.returnType = (some .int)) (hk : meth.locks = false)  : ∀ (s' : S8) (x1' : Int32) (x2' : Int32) (z : Int32 × S8) {H : Heap} {locs : List Loc} {ls : Array Slot}, xW G (x_in W0) sS.heap (cells8 G ad s') H locs → lv_has ls 4 [(0, .ref (ad 0)), (1, .int x1'), (2, .int x2')] → lp_X8_spell_p107  s' x1' x2' = some z → W p l e (rm_X8_spell) sS m args below meth c H locs 0 0 (MQ below (xQ G W0 (cells8 G ad z.2) (some (.int z.1))) args sS 0 0 (x_in W0)) (F0 m 107 ls []) := by
  intro s x1 x2 z H locs ls hw hl hf
  exact x_loop_W (P := fun (q : S8 × Int32 × Int32) (z : Int32 × S8) => ∀ {H : Heap} {locs : List Loc} {ls : Array Slot}, xW G (x_in W0) sS.heap (cells8 G ad q.1) H locs → lv_has ls 4 [(0, .ref (ad 0)), (1, .int q.2.1), (2, .int q.2.2)] → W p l e (rm_X8_spell) sS m args below meth c H locs 0 0 (MQ below (xQ G W0 (cells8 G ad z.2) (some (.int z.1))) args sS 0 0 (x_in W0)) (F0 m 107 ls [])) (fun k hkk q z hf H locs ls hw hl => w_X8_spell_p107 E hr hk  (fun s x1 x2 z H locs ls hw hl hf => hkk (s, x1, x2) z hf hw hl) q.1 q.2.1 q.2.2 z hw hl hf) FU (s, x1, x2) z hf hw hl
set_option maxHeartbeats 4000000 in
set_option maxRecDepth 100000 in
theorem w_X8_spell_p68 {p : Program} {l : Launch} {e : Env} {sS : State} {m : MethodId} {args : Array Value} {below : List Frame} {meth : Method} {c : Code} {G : xG} {W0 : va_W} {ad : Nat → Nat}  {k48 : S8 → Int32 → Int32 → Option (Int32 × S8)} {k68 : S8 → Int32 → Int32 → Int32 → Option (Int32 × S8)} (E : xE p sS m args c cX8_spell 4 RX8 G (x_in W0)) (hr : meth.sig.returnType = (some .int)) (hk : meth.locks = false) (hk48 : ∀ (s' : S8) (x1' : Int32) (x2' : Int32) (z : Int32 × S8) {H : Heap} {locs : List Loc} {ls : Array Slot}, xW G (x_in W0) sS.heap (cells8 G ad s') H locs → lv_has ls 4 [(0, .ref (ad 0)), (1, .int x1'), (2, .int x2')] → k48  s' x1' x2' = some z → W p l e (rm_X8_spell) sS m args below meth c H locs 0 0 (MQ below (xQ G W0 (cells8 G ad z.2) (some (.int z.1))) args sS 0 0 (x_in W0)) (F0 m 48 ls [])) (hk68 : ∀ (s' : S8) (x1' : Int32) (x2' : Int32) (x3' : Int32) (z : Int32 × S8) {H : Heap} {locs : List Loc} {ls : Array Slot}, xW G (x_in W0) sS.heap (cells8 G ad s') H locs → lv_has ls 4 [(0, .ref (ad 0)), (1, .int x1'), (2, .int x2'), (3, .int x3')] → k68  s' x1' x2' x3' = some z → W p l e (rm_X8_spell) sS m args below meth c H locs 0 0 (MQ below (xQ G W0 (cells8 G ad z.2) (some (.int z.1))) args sS 0 0 (x_in W0)) (F0 m 68 ls [])) : ∀ (s' : S8) (x1' : Int32) (x2' : Int32) (x3' : Int32) (z : Int32 × S8) {H : Heap} {locs : List Loc} {ls : Array Slot}, xW G (x_in W0) sS.heap (cells8 G ad s') H locs → lv_has ls 4 [(0, .ref (ad 0)), (1, .int x1'), (2, .int x2'), (3, .int x3')] → f_X8_spell_p68 k48 k68 s' x1' x2' x3' = some z → W p l e (rm_X8_spell) sS m args below meth c H locs 0 0 (MQ below (xQ G W0 (cells8 G ad z.2) (some (.int z.1))) args sS 0 0 (x_in W0)) (F0 m 68 ls []) := by
  intro s x1 x2 x3 z H locs ls hw hl hf
  unfold f_X8_spell_p68 at hf
  refine lv_iload_n (pc := 68) E.1 E.2.1 dX8_spell_68 rfl (lv_at hl 3 rfl) ?_
  refine lv_iconst (v := 5) (pc := 69) E.1 E.2.1 dX8_spell_69 (by decide) ?_
  refine lv_icmp_ge (tgt := 93) (pc := 70) E.1 E.2.1 dX8_spell_70 (by decide) (fun q1 => ?_) (fun q1 => ?_)
  · have hf := x_pos q1 hf
    refine lv_aload_n (pc := 93) E.1 E.2.1 dX8_spell_93 rfl (lv_at hl 0 rfl) ?_
    refine lv_bipush (v := 59) (pc := 94) E.1 E.2.1 dX8_spell_94 (by decide) ?_
    obtain ⟨v2, g3, hf⟩ := x_bind hf
    refine x_callVA (pc := 96) (As := [.int 59]) (rest := []) (st1 := []) (ws' := (cells8 G ad v2)) E hw hl (c_X8_writes l G ad s 59 g3) xv_X8_285 xd_X8_writes rfl rfl ⟨Nat.le_of_ble_eq_true rfl, Nat.le_of_ble_eq_true rfl⟩ (q0 := 0) rfl rfl rfl rfl (Nat.le_of_ble_eq_true rfl) rfl rfl dX8_spell_96 (fun H locs hw => ?_)
    refine lv_iinc (v := (x2 + 1)) (lv' := [(2, .int (x2 + 1)), (0, .ref (ad 0)), (1, .int x1), (3, .int x3)]) (pc := 99) E.1 E.2.1 dX8_spell_99 hl (k := 2) rfl rfl (by decide) rfl (fun ls hl => ?_)
    refine lv_goto (tgt := 48) (pc := 102) E.1 E.2.1 dX8_spell_102 (by decide) ?_
    exact hk48 v2 x1 (x2 + 1) z hw (lv_sub hl [1, 2, 0] rfl) hf
  · have hf := x_neg q1 hf
    refine lv_aload_n (pc := 73) E.1 E.2.1 dX8_spell_73 rfl (lv_at hl 0 rfl) ?_
    refine lv_iload_n (pc := 74) E.1 E.2.1 dX8_spell_74 rfl (lv_at hl 2 rfl) ?_
    refine lv_iload_n (pc := 75) E.1 E.2.1 dX8_spell_75 rfl (lv_at hl 3 rfl) ?_
    obtain ⟨v4, g5, hf⟩ := x_bind hf
    refine x_callVA (pc := 76) (As := [.int x2, .int x3]) (rest := []) (st1 := [.int v4]) (ws' := (cells8 G ad s)) E hw hl (c_X8_isInsured l G ad s x2 x3 g5) xv_X8_134 xd_X8_isInsured rfl rfl ⟨Nat.le_of_ble_eq_true rfl, Nat.le_of_ble_eq_true rfl⟩ (q0 := 0) rfl rfl rfl rfl (Nat.le_of_ble_eq_true rfl) rfl rfl dX8_spell_76 (fun H locs hw => ?_)
    refine lv_if_eq (tgt := 87) (pc := 79) E.1 E.2.1 dX8_spell_79 (by decide) (fun q6 => ?_) (fun q6 => ?_)
    · have hf := x_pos q6 hf
      refine lv_iinc (v := (x3 + 1)) (lv' := [(3, .int (x3 + 1)), (0, .ref (ad 0)), (1, .int x1), (2, .int x2)]) (pc := 87) E.1 E.2.1 dX8_spell_87 hl (k := 3) rfl rfl (by decide) rfl (fun ls hl => ?_)
      refine lv_goto (tgt := 68) (pc := 90) E.1 E.2.1 dX8_spell_90 (by decide) ?_
      exact hk68 s x1 x2 (x3 + 1) z hw (lv_sub hl [1, 2, 3, 0] rfl) hf
    · have hf := x_neg q6 hf
      refine lv_aload_n (pc := 82) E.1 E.2.1 dX8_spell_82 rfl (lv_at hl 0 rfl) ?_
      refine lv_iload_n (pc := 83) E.1 E.2.1 dX8_spell_83 rfl (lv_at hl 3 rfl) ?_
      obtain ⟨v7, g8, hf⟩ := x_bind hf
      refine x_callVA (pc := 84) (As := [.int x3]) (rest := []) (st1 := []) (ws' := (cells8 G ad v7)) E hw hl (c_X8_writesNumber l G ad s x3 g8) xv_X8_291 xd_X8_writesNumber rfl rfl ⟨Nat.le_of_ble_eq_true rfl, Nat.le_of_ble_eq_true rfl⟩ (q0 := 0) rfl rfl rfl rfl (Nat.le_of_ble_eq_true rfl) rfl rfl dX8_spell_84 (fun H locs hw => ?_)
      refine lv_iinc (v := (x3 + 1)) (lv' := [(3, .int (x3 + 1)), (0, .ref (ad 0)), (1, .int x1), (2, .int x2)]) (pc := 87) E.1 E.2.1 dX8_spell_87 hl (k := 3) rfl rfl (by decide) rfl (fun ls hl => ?_)
      refine lv_goto (tgt := 68) (pc := 90) E.1 E.2.1 dX8_spell_90 (by decide) ?_
      exact hk68 v7 x1 x2 (x3 + 1) z hw (lv_sub hl [1, 2, 3, 0] rfl) hf
set_option maxHeartbeats 4000000 in
set_option maxRecDepth 100000 in
theorem wl_X8_spell_p68 {p : Program} {l : Launch} {e : Env} {sS : State} {m : MethodId} {args : Array Value} {below : List Frame} {meth : Method} {c : Code} {G : xG} {W0 : va_W} {ad : Nat → Nat}  {k48 : S8 → Int32 → Int32 → Option (Int32 × S8)} (E : xE p sS m args c cX8_spell 4 RX8 G (x_in W0)) (hr : meth.sig.returnType = (some .int)) (hk : meth.locks = false) (hk48 : ∀ (s' : S8) (x1' : Int32) (x2' : Int32) (z : Int32 × S8) {H : Heap} {locs : List Loc} {ls : Array Slot}, xW G (x_in W0) sS.heap (cells8 G ad s') H locs → lv_has ls 4 [(0, .ref (ad 0)), (1, .int x1'), (2, .int x2')] → k48  s' x1' x2' = some z → W p l e (rm_X8_spell) sS m args below meth c H locs 0 0 (MQ below (xQ G W0 (cells8 G ad z.2) (some (.int z.1))) args sS 0 0 (x_in W0)) (F0 m 48 ls [])) : ∀ (s' : S8) (x1' : Int32) (x2' : Int32) (x3' : Int32) (z : Int32 × S8) {H : Heap} {locs : List Loc} {ls : Array Slot}, xW G (x_in W0) sS.heap (cells8 G ad s') H locs → lv_has ls 4 [(0, .ref (ad 0)), (1, .int x1'), (2, .int x2'), (3, .int x3')] → lp_X8_spell_p68 k48 s' x1' x2' x3' = some z → W p l e (rm_X8_spell) sS m args below meth c H locs 0 0 (MQ below (xQ G W0 (cells8 G ad z.2) (some (.int z.1))) args sS 0 0 (x_in W0)) (F0 m 68 ls []) := by
  intro s x1 x2 x3 z H locs ls hw hl hf
  exact x_loop_W (P := fun (q : S8 × Int32 × Int32 × Int32) (z : Int32 × S8) => ∀ {H : Heap} {locs : List Loc} {ls : Array Slot}, xW G (x_in W0) sS.heap (cells8 G ad q.1) H locs → lv_has ls 4 [(0, .ref (ad 0)), (1, .int q.2.1), (2, .int q.2.2.1), (3, .int q.2.2.2)] → W p l e (rm_X8_spell) sS m args below meth c H locs 0 0 (MQ below (xQ G W0 (cells8 G ad z.2) (some (.int z.1))) args sS 0 0 (x_in W0)) (F0 m 68 ls [])) (fun k hkk q z hf H locs ls hw hl => w_X8_spell_p68 E hr hk hk48 (fun s x1 x2 x3 z H locs ls hw hl hf => hkk (s, x1, x2, x3) z hf hw hl) q.1 q.2.1 q.2.2.1 q.2.2.2 z hw hl hf) FU (s, x1, x2, x3) z hf hw hl
set_option maxHeartbeats 4000000 in
set_option maxRecDepth 100000 in
theorem w_X8_spell_p48 {p : Program} {l : Launch} {e : Env} {sS : State} {m : MethodId} {args : Array Value} {below : List Frame} {meth : Method} {c : Code} {G : xG} {W0 : va_W} {ad : Nat → Nat}  {k48 : S8 → Int32 → Int32 → Option (Int32 × S8)} (E : xE p sS m args c cX8_spell 4 RX8 G (x_in W0)) (hr : meth.sig.returnType = (some .int)) (hk : meth.locks = false) (hk48 : ∀ (s' : S8) (x1' : Int32) (x2' : Int32) (z : Int32 × S8) {H : Heap} {locs : List Loc} {ls : Array Slot}, xW G (x_in W0) sS.heap (cells8 G ad s') H locs → lv_has ls 4 [(0, .ref (ad 0)), (1, .int x1'), (2, .int x2')] → k48  s' x1' x2' = some z → W p l e (rm_X8_spell) sS m args below meth c H locs 0 0 (MQ below (xQ G W0 (cells8 G ad z.2) (some (.int z.1))) args sS 0 0 (x_in W0)) (F0 m 48 ls [])) : ∀ (s' : S8) (x1' : Int32) (x2' : Int32) (z : Int32 × S8) {H : Heap} {locs : List Loc} {ls : Array Slot}, xW G (x_in W0) sS.heap (cells8 G ad s') H locs → lv_has ls 4 [(0, .ref (ad 0)), (1, .int x1'), (2, .int x2')] → f_X8_spell_p48 k48 s' x1' x2' = some z → W p l e (rm_X8_spell) sS m args below meth c H locs 0 0 (MQ below (xQ G W0 (cells8 G ad z.2) (some (.int z.1))) args sS 0 0 (x_in W0)) (F0 m 48 ls []) := by
  intro s x1 x2 z H locs ls hw hl hf
  unfold f_X8_spell_p48 at hf
  refine lv_iload_n (pc := 48) E.1 E.2.1 dX8_spell_48 rfl (lv_at hl 2 rfl) ?_
  refine lv_aload_n (pc := 49) E.1 E.2.1 dX8_spell_49 rfl (lv_at hl 0 rfl) ?_
  obtain ⟨v1, g2, hf⟩ := x_bind hf
  refine x_callVA (pc := 50) (As := []) (rest := [.int x2]) (st1 := [.int v1, .int x2]) (ws' := (cells8 G ad s)) E hw hl (c_X8_many l G ad s g2) xv_X8_80 xd_X8_many rfl rfl ⟨Nat.le_of_ble_eq_true rfl, Nat.le_of_ble_eq_true rfl⟩ (q0 := 0) rfl rfl rfl rfl (Nat.le_of_ble_eq_true rfl) rfl rfl dX8_spell_50 (fun H locs hw => ?_)
  refine lv_icmp_ge (tgt := 105) (pc := 53) E.1 E.2.1 dX8_spell_53 (by decide) (fun q3 => ?_) (fun q3 => ?_)
  · have hf := x_pos q3 hf
    refine lv_iconst (v := 0) (pc := 105) E.1 E.2.1 dX8_spell_105 (by decide) ?_
    refine lv_istore_n (lv' := [(2, .int 0), (0, .ref (ad 0)), (1, .int x1)]) (pc := 106) E.1 E.2.1 dX8_spell_106 rfl hl (by decide) rfl (fun ls hl => ?_)
    exact wl_X8_spell_p107 E hr hk  s x1 0 z hw (lv_sub hl [1, 2, 0] rfl) hf
  · have hf := x_neg q3 hf
    refine lv_aload_n (pc := 56) E.1 E.2.1 dX8_spell_56 rfl (lv_at hl 0 rfl) ?_
    refine lv_iconst (v := 2) (pc := 57) E.1 E.2.1 dX8_spell_57 (by decide) ?_
    refine lv_aload_n (pc := 58) E.1 E.2.1 dX8_spell_58 rfl (lv_at hl 0 rfl) ?_
    refine lv_iload_n (pc := 59) E.1 E.2.1 dX8_spell_59 rfl (lv_at hl 2 rfl) ?_
    obtain ⟨v4, g5, hf⟩ := x_bind hf
    refine x_callVA (pc := 60) (As := [.int x2]) (rest := [.int 2, .ref (ad 0)]) (st1 := [.int v4, .int 2, .ref (ad 0)]) (ws' := (cells8 G ad s)) E hw hl (c_X8_classOf l G ad s x2 g5) xv_X8_125 xd_X8_classOf rfl rfl ⟨Nat.le_of_ble_eq_true rfl, Nat.le_of_ble_eq_true rfl⟩ (q0 := 0) rfl rfl rfl rfl (Nat.le_of_ble_eq_true rfl) rfl rfl dX8_spell_60 (fun H locs hw => ?_)
    obtain ⟨v6, g7, hf⟩ := x_bind hf
    refine x_callVA (pc := 63) (As := [.int 2, .int v4]) (rest := []) (st1 := []) (ws' := (cells8 G ad v6)) E hw hl (c_X8_writesOne l G ad s 2 v4 g7) xv_X8_294 xd_X8_writesOne rfl rfl ⟨Nat.le_of_ble_eq_true rfl, Nat.le_of_ble_eq_true rfl⟩ (q0 := 0) rfl rfl rfl rfl (Nat.le_of_ble_eq_true rfl) rfl rfl dX8_spell_63 (fun H locs hw => ?_)
    refine lv_iconst (v := 0) (pc := 66) E.1 E.2.1 dX8_spell_66 (by decide) ?_
    refine lv_istore_n (lv' := [(3, .int 0), (0, .ref (ad 0)), (1, .int x1), (2, .int x2)]) (pc := 67) E.1 E.2.1 dX8_spell_67 rfl hl (by decide) rfl (fun ls hl => ?_)
    exact wl_X8_spell_p68 E hr hk hk48 v6 x1 x2 0 z hw (lv_sub hl [1, 2, 3, 0] rfl) hf
set_option maxHeartbeats 4000000 in
set_option maxRecDepth 100000 in
theorem wl_X8_spell_p48 {p : Program} {l : Launch} {e : Env} {sS : State} {m : MethodId} {args : Array Value} {below : List Frame} {meth : Method} {c : Code} {G : xG} {W0 : va_W} {ad : Nat → Nat}   (E : xE p sS m args c cX8_spell 4 RX8 G (x_in W0)) (hr : meth.sig.returnType = (some .int)) (hk : meth.locks = false)  : ∀ (s' : S8) (x1' : Int32) (x2' : Int32) (z : Int32 × S8) {H : Heap} {locs : List Loc} {ls : Array Slot}, xW G (x_in W0) sS.heap (cells8 G ad s') H locs → lv_has ls 4 [(0, .ref (ad 0)), (1, .int x1'), (2, .int x2')] → lp_X8_spell_p48  s' x1' x2' = some z → W p l e (rm_X8_spell) sS m args below meth c H locs 0 0 (MQ below (xQ G W0 (cells8 G ad z.2) (some (.int z.1))) args sS 0 0 (x_in W0)) (F0 m 48 ls []) := by
  intro s x1 x2 z H locs ls hw hl hf
  exact x_loop_W (P := fun (q : S8 × Int32 × Int32) (z : Int32 × S8) => ∀ {H : Heap} {locs : List Loc} {ls : Array Slot}, xW G (x_in W0) sS.heap (cells8 G ad q.1) H locs → lv_has ls 4 [(0, .ref (ad 0)), (1, .int q.2.1), (2, .int q.2.2)] → W p l e (rm_X8_spell) sS m args below meth c H locs 0 0 (MQ below (xQ G W0 (cells8 G ad z.2) (some (.int z.1))) args sS 0 0 (x_in W0)) (F0 m 48 ls [])) (fun k hkk q z hf H locs ls hw hl => w_X8_spell_p48 E hr hk  (fun s x1 x2 z H locs ls hw hl hf => hkk (s, x1, x2) z hf hw hl) q.1 q.2.1 q.2.2 z hw hl hf) FU (s, x1, x2) z hf hw hl
set_option maxHeartbeats 4000000 in
set_option maxRecDepth 100000 in
theorem w_X8_spell_p0 {p : Program} {l : Launch} {e : Env} {sS : State} {m : MethodId} {args : Array Value} {below : List Frame} {meth : Method} {c : Code} {G : xG} {W0 : va_W} {ad : Nat → Nat}   (E : xE p sS m args c cX8_spell 4 RX8 G (x_in W0)) (hr : meth.sig.returnType = (some .int)) (hk : meth.locks = false)  : ∀ (s' : S8) (x1' : Int32) (z : Int32 × S8) {H : Heap} {locs : List Loc} {ls : Array Slot}, xW G (x_in W0) sS.heap (cells8 G ad s') H locs → lv_has ls 4 [(0, .ref (ad 0)), (1, .int x1')] → f_X8_spell  s' x1' = some z → W p l e (rm_X8_spell) sS m args below meth c H locs 0 0 (MQ below (xQ G W0 (cells8 G ad z.2) (some (.int z.1))) args sS 0 0 (x_in W0)) (F0 m 0 ls []) := by
  intro s x1 z H locs ls hw hl hf
  unfold f_X8_spell at hf
  refine lv_iload_n (pc := 0) E.1 E.2.1 dX8_spell_0 rfl (lv_at hl 1 rfl) ?_
  refine lv_iconst (v := (-1)) (pc := 1) E.1 E.2.1 dX8_spell_1 (by decide) ?_
  refine lv_icmp_ge (tgt := 7) (pc := 2) E.1 E.2.1 dX8_spell_2 (by decide) (fun q1 => ?_) (fun q1 => ?_)
  · have hf := x_pos q1 hf
    refine lv_aload_n (pc := 7) E.1 E.2.1 dX8_spell_7 rfl (lv_at hl 0 rfl) ?_
    refine lv_iconst (v := 0) (pc := 8) E.1 E.2.1 dX8_spell_8 (by decide) ?_
    refine xp_X8_279 (pc := 9) (v := .int 0) (ws' := (cells8 G ad (u8_textMany s 0))) E hw 0 rfl rfl rfl (Nat.le_of_ble_eq_true rfl) rfl dX8_spell_9 (fun H locs hw => ?_)
    refine lv_aload_n (pc := 12) E.1 E.2.1 dX8_spell_12 rfl (lv_at hl 0 rfl) ?_
    refine lv_iconst (v := 0) (pc := 13) E.1 E.2.1 dX8_spell_13 (by decide) ?_
    refine lv_aload_n (pc := 14) E.1 E.2.1 dX8_spell_14 rfl (lv_at hl 0 rfl) ?_
    refine xg_X8_13 (pc := 15) (v := .ref (ad 1)) E hw 0 rfl rfl dX8_spell_15 ?_
    refine lv_iconst (v := 0) (pc := 18) E.1 E.2.1 dX8_spell_18 (by decide) ?_
    obtain ⟨v3, g2, hf⟩ := x_bind hf
    refine x_iald (pc := 19) E hw 1 rfl g2 dX8_spell_19 ?_
    obtain ⟨v4, g5, hf⟩ := x_bind hf
    refine x_callVA (pc := 20) (As := [.int 0, .int v3]) (rest := []) (st1 := []) (ws' := (cells8 G ad v4)) E hw hl (c_X8_writesOne l G ad (u8_textMany s 0) 0 v3 g5) xv_X8_294 xd_X8_writesOne rfl rfl ⟨Nat.le_of_ble_eq_true rfl, Nat.le_of_ble_eq_true rfl⟩ (q0 := 0) rfl rfl rfl rfl (Nat.le_of_ble_eq_true rfl) rfl rfl dX8_spell_20 (fun H locs hw => ?_)
    refine lv_aload_n (pc := 23) E.1 E.2.1 dX8_spell_23 rfl (lv_at hl 0 rfl) ?_
    refine lv_bipush (v := 59) (pc := 24) E.1 E.2.1 dX8_spell_24 (by decide) ?_
    obtain ⟨v6, g7, hf⟩ := x_bind hf
    refine x_callVA (pc := 26) (As := [.int 59]) (rest := []) (st1 := []) (ws' := (cells8 G ad v6)) E hw hl (c_X8_writes l G ad v4 59 g7) xv_X8_285 xd_X8_writes rfl rfl ⟨Nat.le_of_ble_eq_true rfl, Nat.le_of_ble_eq_true rfl⟩ (q0 := 0) rfl rfl rfl rfl (Nat.le_of_ble_eq_true rfl) rfl rfl dX8_spell_26 (fun H locs hw => ?_)
    refine lv_aload_n (pc := 29) E.1 E.2.1 dX8_spell_29 rfl (lv_at hl 0 rfl) ?_
    refine lv_iconst (v := 1) (pc := 30) E.1 E.2.1 dX8_spell_30 (by decide) ?_
    refine lv_aload_n (pc := 31) E.1 E.2.1 dX8_spell_31 rfl (lv_at hl 0 rfl) ?_
    refine xg_X8_13 (pc := 32) (v := .ref (ad 1)) E hw 0 rfl rfl dX8_spell_32 ?_
    refine lv_iconst (v := 1) (pc := 35) E.1 E.2.1 dX8_spell_35 (by decide) ?_
    obtain ⟨v9, g8, hf⟩ := x_bind hf
    refine x_iald (pc := 36) E hw 1 rfl g8 dX8_spell_36 ?_
    obtain ⟨v10, g11, hf⟩ := x_bind hf
    refine x_callVA (pc := 37) (As := [.int 1, .int v9]) (rest := []) (st1 := []) (ws' := (cells8 G ad v10)) E hw hl (c_X8_writesOne l G ad v6 1 v9 g11) xv_X8_294 xd_X8_writesOne rfl rfl ⟨Nat.le_of_ble_eq_true rfl, Nat.le_of_ble_eq_true rfl⟩ (q0 := 0) rfl rfl rfl rfl (Nat.le_of_ble_eq_true rfl) rfl rfl dX8_spell_37 (fun H locs hw => ?_)
    refine lv_aload_n (pc := 40) E.1 E.2.1 dX8_spell_40 rfl (lv_at hl 0 rfl) ?_
    refine lv_bipush (v := 59) (pc := 41) E.1 E.2.1 dX8_spell_41 (by decide) ?_
    obtain ⟨v12, g13, hf⟩ := x_bind hf
    refine x_callVA (pc := 43) (As := [.int 59]) (rest := []) (st1 := []) (ws' := (cells8 G ad v12)) E hw hl (c_X8_writes l G ad v10 59 g13) xv_X8_285 xd_X8_writes rfl rfl ⟨Nat.le_of_ble_eq_true rfl, Nat.le_of_ble_eq_true rfl⟩ (q0 := 0) rfl rfl rfl rfl (Nat.le_of_ble_eq_true rfl) rfl rfl dX8_spell_43 (fun H locs hw => ?_)
    refine lv_iconst (v := 0) (pc := 46) E.1 E.2.1 dX8_spell_46 (by decide) ?_
    refine lv_istore_n (lv' := [(2, .int 0), (0, .ref (ad 0)), (1, .int x1)]) (pc := 47) E.1 E.2.1 dX8_spell_47 rfl hl (by decide) rfl (fun ls hl => ?_)
    exact wl_X8_spell_p48 E hr hk  v12 x1 0 z hw (lv_sub hl [1, 2, 0] rfl) hf
  · have hf := x_neg q1 hf
    refine lv_iconst (v := (-1)) (pc := 5) E.1 E.2.1 dX8_spell_5 (by decide) ?_
    obtain rfl := Option.some.inj hf
    exact x_reti (pc := 6) E hr hk hw dX8_spell_6
set_option maxHeartbeats 4000000 in
set_option maxRecDepth 100000 in
theorem c_X8_spell (l : Launch) (G : xG) (ad : Nat → Nat) (s : S8) (x1 : Int32) {z : Int32 × S8} (hf : f_X8_spell s x1 = some z) : xC l yX8_spell cX8_spell 4 (some .int) (rm_X8_spell) G [.ref (ad 0), .int x1] (cells8 G ad s) (some (.int z.1)) (cells8 G ad z.2) :=
  x_met (by decide) (Nat.le_of_ble_eq_true rfl) (fun p e sS m below meth c E hr hk ls hl hw => w_X8_spell_p0 E hr hk s x1 z hw hl hf)
set_option maxHeartbeats 4000000 in
set_option maxRecDepth 100000 in
theorem w_X8_count_p123 {p : Program} {l : Launch} {e : Env} {sS : State} {m : MethodId} {args : Array Value} {below : List Frame} {meth : Method} {c : Code} {G : xG} {W0 : va_W} {ad : Nat → Nat}  {k123 : S8 → Int32 → Int32 → Option (Int32)} (E : xE p sS m args c cX8_count 4 RX8 G (x_in W0)) (hr : meth.sig.returnType = (some .int)) (hk : meth.locks = false) (hk123 : ∀ (s' : S8) (x2' : Int32) (x3' : Int32) (z : Int32) {H : Heap} {locs : List Loc} {ls : Array Slot}, xW G (x_in W0) sS.heap (cells8 G ad s') H locs → lv_has ls 4 [(0, .ref (ad 0)), (2, .int x2'), (3, .int x3')] → k123  s' x2' x3' = some z → W p l e (rm_X8_count) sS m args below meth c H locs 0 0 (MQ below (xQ G W0 (cells8 G ad s') (some (.int z))) args sS 0 0 (x_in W0)) (F0 m 123 ls [])) : ∀ (s' : S8) (x2' : Int32) (x3' : Int32) (z : Int32) {H : Heap} {locs : List Loc} {ls : Array Slot}, xW G (x_in W0) sS.heap (cells8 G ad s') H locs → lv_has ls 4 [(0, .ref (ad 0)), (2, .int x2'), (3, .int x3')] → f_X8_count_p123 k123 s' x2' x3' = some z → W p l e (rm_X8_count) sS m args below meth c H locs 0 0 (MQ below (xQ G W0 (cells8 G ad s') (some (.int z))) args sS 0 0 (x_in W0)) (F0 m 123 ls []) := by
  intro s x2 x3 z H locs ls hw hl hf
  unfold f_X8_count_p123 at hf
  refine lv_iload_n (pc := 123) E.1 E.2.1 dX8_count_123 rfl (lv_at hl 2 rfl) ?_
  refine lv_aload_n (pc := 124) E.1 E.2.1 dX8_count_124 rfl (lv_at hl 0 rfl) ?_
  obtain ⟨v1, g2, hf⟩ := x_bind hf
  refine x_callVA (pc := 125) (As := []) (rest := [.int x3]) (st1 := [.int v1, .int x3]) (ws' := (cells8 G ad s)) E hw hl (c_X8_many l G ad s g2) xv_X8_80 xd_X8_many rfl rfl ⟨Nat.le_of_ble_eq_true rfl, Nat.le_of_ble_eq_true rfl⟩ (q0 := 0) rfl rfl rfl rfl (Nat.le_of_ble_eq_true rfl) rfl rfl dX8_count_125 (fun H locs hw => ?_)
  refine lv_icmp_ge (tgt := 145) (pc := 128) E.1 E.2.1 dX8_count_128 (by decide) (fun q3 => ?_) (fun q3 => ?_)
  · have hf := x_pos q3 hf
    refine lv_iload_n (pc := 145) E.1 E.2.1 dX8_count_145 rfl (lv_at hl 1 rfl) ?_
    obtain rfl := Option.some.inj hf
    exact x_reti (pc := 146) E hr hk hw dX8_count_146
  · have hf := x_neg q3 hf
    refine lv_iload_n (pc := 131) E.1 E.2.1 dX8_count_131 rfl (lv_at hl 1 rfl) ?_
    refine lv_aload_n (pc := 132) E.1 E.2.1 dX8_count_132 rfl (lv_at hl 0 rfl) ?_
    refine lv_iload_n (pc := 133) E.1 E.2.1 dX8_count_133 rfl (lv_at hl 2 rfl) ?_
    obtain ⟨v4, g5, hf⟩ := x_bind hf
    refine x_callVA (pc := 134) (As := [.int x3]) (rest := [.int x2]) (st1 := [.int v4, .int x2]) (ws' := (cells8 G ad s)) E hw hl (c_X8_yearsOf l G ad s x3 g5) xv_X8_91 xd_X8_yearsOf rfl rfl ⟨Nat.le_of_ble_eq_true rfl, Nat.le_of_ble_eq_true rfl⟩ (q0 := 0) rfl rfl rfl rfl (Nat.le_of_ble_eq_true rfl) rfl rfl dX8_count_134 (fun H locs hw => ?_)
    refine lv_ior (pc := 137) E.1 E.2.1 dX8_count_137 ?_
    refine lv_istore_n (lv' := [(2, .int (x2 ||| v4)), (0, .ref (ad 0)), (3, .int x3)]) (pc := 138) E.1 E.2.1 dX8_count_138 rfl hl (by decide) rfl (fun ls hl => ?_)
    refine lv_iinc (v := (x3 + 1)) (lv' := [(3, .int (x3 + 1)), (2, .int (x2 ||| v4)), (0, .ref (ad 0))]) (pc := 139) E.1 E.2.1 dX8_count_139 hl (k := 2) rfl rfl (by decide) rfl (fun ls hl => ?_)
    refine lv_goto (tgt := 123) (pc := 142) E.1 E.2.1 dX8_count_142 (by decide) ?_
    exact hk123 s (x2 ||| v4) (x3 + 1) z hw (lv_sub hl [2, 1, 0] rfl) hf
set_option maxHeartbeats 4000000 in
set_option maxRecDepth 100000 in
theorem wl_X8_count_p123 {p : Program} {l : Launch} {e : Env} {sS : State} {m : MethodId} {args : Array Value} {below : List Frame} {meth : Method} {c : Code} {G : xG} {W0 : va_W} {ad : Nat → Nat}   (E : xE p sS m args c cX8_count 4 RX8 G (x_in W0)) (hr : meth.sig.returnType = (some .int)) (hk : meth.locks = false)  : ∀ (s' : S8) (x2' : Int32) (x3' : Int32) (z : Int32) {H : Heap} {locs : List Loc} {ls : Array Slot}, xW G (x_in W0) sS.heap (cells8 G ad s') H locs → lv_has ls 4 [(0, .ref (ad 0)), (2, .int x2'), (3, .int x3')] → lp_X8_count_p123  s' x2' x3' = some z → W p l e (rm_X8_count) sS m args below meth c H locs 0 0 (MQ below (xQ G W0 (cells8 G ad s') (some (.int z))) args sS 0 0 (x_in W0)) (F0 m 123 ls []) := by
  intro s x2 x3 z H locs ls hw hl hf
  exact x_loop_W (P := fun (q : S8 × Int32 × Int32) (z : Int32) => ∀ {H : Heap} {locs : List Loc} {ls : Array Slot}, xW G (x_in W0) sS.heap (cells8 G ad q.1) H locs → lv_has ls 4 [(0, .ref (ad 0)), (2, .int q.2.1), (3, .int q.2.2)] → W p l e (rm_X8_count) sS m args below meth c H locs 0 0 (MQ below (xQ G W0 (cells8 G ad q.1) (some (.int z))) args sS 0 0 (x_in W0)) (F0 m 123 ls [])) (fun k hkk q z hf H locs ls hw hl => w_X8_count_p123 E hr hk  (fun s x2 x3 z H locs ls hw hl hf => hkk (s, x2, x3) z hf hw hl) q.1 q.2.1 q.2.2 z hw hl hf) FU (s, x2, x3) z hf hw hl
set_option maxHeartbeats 4000000 in
set_option maxRecDepth 100000 in
theorem w_X8_count_p94 {p : Program} {l : Launch} {e : Env} {sS : State} {m : MethodId} {args : Array Value} {below : List Frame} {meth : Method} {c : Code} {G : xG} {W0 : va_W} {ad : Nat → Nat}  {k94 : S8 → Int32 → Int32 → Option (Int32)} (E : xE p sS m args c cX8_count 4 RX8 G (x_in W0)) (hr : meth.sig.returnType = (some .int)) (hk : meth.locks = false) (hk94 : ∀ (s' : S8) (x2' : Int32) (x3' : Int32) (z : Int32) {H : Heap} {locs : List Loc} {ls : Array Slot}, xW G (x_in W0) sS.heap (cells8 G ad s') H locs → lv_has ls 4 [(0, .ref (ad 0)), (2, .int x2'), (3, .int x3')] → k94  s' x2' x3' = some z → W p l e (rm_X8_count) sS m args below meth c H locs 0 0 (MQ below (xQ G W0 (cells8 G ad s') (some (.int z))) args sS 0 0 (x_in W0)) (F0 m 94 ls [])) : ∀ (s' : S8) (x2' : Int32) (x3' : Int32) (z : Int32) {H : Heap} {locs : List Loc} {ls : Array Slot}, xW G (x_in W0) sS.heap (cells8 G ad s') H locs → lv_has ls 4 [(0, .ref (ad 0)), (2, .int x2'), (3, .int x3')] → f_X8_count_p94 k94 s' x2' x3' = some z → W p l e (rm_X8_count) sS m args below meth c H locs 0 0 (MQ below (xQ G W0 (cells8 G ad s') (some (.int z))) args sS 0 0 (x_in W0)) (F0 m 94 ls []) := by
  intro s x2 x3 z H locs ls hw hl hf
  unfold f_X8_count_p94 at hf
  refine lv_iload_n (pc := 94) E.1 E.2.1 dX8_count_94 rfl (lv_at hl 2 rfl) ?_
  refine lv_aload_n (pc := 95) E.1 E.2.1 dX8_count_95 rfl (lv_at hl 0 rfl) ?_
  obtain ⟨v1, g2, hf⟩ := x_bind hf
  refine x_callVA (pc := 96) (As := []) (rest := [.int x3]) (st1 := [.int v1, .int x3]) (ws' := (cells8 G ad s)) E hw hl (c_X8_many l G ad s g2) xv_X8_80 xd_X8_many rfl rfl ⟨Nat.le_of_ble_eq_true rfl, Nat.le_of_ble_eq_true rfl⟩ (q0 := 0) rfl rfl rfl rfl (Nat.le_of_ble_eq_true rfl) rfl rfl dX8_count_96 (fun H locs hw => ?_)
  refine lv_icmp_ge (tgt := 119) (pc := 99) E.1 E.2.1 dX8_count_99 (by decide) (fun q3 => ?_) (fun q3 => ?_)
  · have hf := x_pos q3 hf
    refine lv_iload_n (pc := 119) E.1 E.2.1 dX8_count_119 rfl (lv_at hl 1 rfl) ?_
    obtain rfl := Option.some.inj hf
    exact x_reti (pc := 120) E hr hk hw dX8_count_120
  · have hf := x_neg q3 hf
    refine lv_aload_n (pc := 102) E.1 E.2.1 dX8_count_102 rfl (lv_at hl 0 rfl) ?_
    refine lv_iload_n (pc := 103) E.1 E.2.1 dX8_count_103 rfl (lv_at hl 2 rfl) ?_
    obtain ⟨v4, g5, hf⟩ := x_bind hf
    refine x_callVA (pc := 104) (As := [.int x3]) (rest := []) (st1 := [.int v4]) (ws' := (cells8 G ad s)) E hw hl (c_X8_isRated l G ad s x3 g5) xv_X8_236 xd_X8_isRated rfl rfl ⟨Nat.le_of_ble_eq_true rfl, Nat.le_of_ble_eq_true rfl⟩ (q0 := 0) rfl rfl rfl rfl (Nat.le_of_ble_eq_true rfl) rfl rfl dX8_count_104 (fun H locs hw => ?_)
    refine lv_if_ne (tgt := 113) (pc := 107) E.1 E.2.1 dX8_count_107 (by decide) (fun q6 => ?_) (fun q6 => ?_)
    · have hf := x_neg q6 hf
      refine lv_iinc (v := (x3 + 1)) (lv' := [(3, .int (x3 + 1)), (0, .ref (ad 0)), (2, .int x2)]) (pc := 113) E.1 E.2.1 dX8_count_113 hl (k := 2) rfl rfl (by decide) rfl (fun ls hl => ?_)
      refine lv_goto (tgt := 94) (pc := 116) E.1 E.2.1 dX8_count_116 (by decide) ?_
      exact hk94 s x2 (x3 + 1) z hw (lv_sub hl [1, 2, 0] rfl) hf
    · have hf := x_pos q6 hf
      refine lv_iinc (v := (x2 + 1)) (lv' := [(2, .int (x2 + 1)), (0, .ref (ad 0)), (3, .int x3)]) (pc := 110) E.1 E.2.1 dX8_count_110 hl (k := 1) rfl rfl (by decide) rfl (fun ls hl => ?_)
      refine lv_iinc (v := (x3 + 1)) (lv' := [(3, .int (x3 + 1)), (2, .int (x2 + 1)), (0, .ref (ad 0))]) (pc := 113) E.1 E.2.1 dX8_count_113 hl (k := 2) rfl rfl (by decide) rfl (fun ls hl => ?_)
      refine lv_goto (tgt := 94) (pc := 116) E.1 E.2.1 dX8_count_116 (by decide) ?_
      exact hk94 s (x2 + 1) (x3 + 1) z hw (lv_sub hl [2, 1, 0] rfl) hf
set_option maxHeartbeats 4000000 in
set_option maxRecDepth 100000 in
theorem wl_X8_count_p94 {p : Program} {l : Launch} {e : Env} {sS : State} {m : MethodId} {args : Array Value} {below : List Frame} {meth : Method} {c : Code} {G : xG} {W0 : va_W} {ad : Nat → Nat}   (E : xE p sS m args c cX8_count 4 RX8 G (x_in W0)) (hr : meth.sig.returnType = (some .int)) (hk : meth.locks = false)  : ∀ (s' : S8) (x2' : Int32) (x3' : Int32) (z : Int32) {H : Heap} {locs : List Loc} {ls : Array Slot}, xW G (x_in W0) sS.heap (cells8 G ad s') H locs → lv_has ls 4 [(0, .ref (ad 0)), (2, .int x2'), (3, .int x3')] → lp_X8_count_p94  s' x2' x3' = some z → W p l e (rm_X8_count) sS m args below meth c H locs 0 0 (MQ below (xQ G W0 (cells8 G ad s') (some (.int z))) args sS 0 0 (x_in W0)) (F0 m 94 ls []) := by
  intro s x2 x3 z H locs ls hw hl hf
  exact x_loop_W (P := fun (q : S8 × Int32 × Int32) (z : Int32) => ∀ {H : Heap} {locs : List Loc} {ls : Array Slot}, xW G (x_in W0) sS.heap (cells8 G ad q.1) H locs → lv_has ls 4 [(0, .ref (ad 0)), (2, .int q.2.1), (3, .int q.2.2)] → W p l e (rm_X8_count) sS m args below meth c H locs 0 0 (MQ below (xQ G W0 (cells8 G ad q.1) (some (.int z))) args sS 0 0 (x_in W0)) (F0 m 94 ls [])) (fun k hkk q z hf H locs ls hw hl => w_X8_count_p94 E hr hk  (fun s x2 x3 z H locs ls hw hl hf => hkk (s, x2, x3) z hf hw hl) q.1 q.2.1 q.2.2 z hw hl hf) FU (s, x2, x3) z hf hw hl
set_option maxHeartbeats 4000000 in
set_option maxRecDepth 100000 in
theorem w_X8_count_p0 {p : Program} {l : Launch} {e : Env} {sS : State} {m : MethodId} {args : Array Value} {below : List Frame} {meth : Method} {c : Code} {G : xG} {W0 : va_W} {ad : Nat → Nat}   (E : xE p sS m args c cX8_count 4 RX8 G (x_in W0)) (hr : meth.sig.returnType = (some .int)) (hk : meth.locks = false)  : ∀ (s' : S8) (x1' : Int32) (z : Int32) {H : Heap} {locs : List Loc} {ls : Array Slot}, xW G (x_in W0) sS.heap (cells8 G ad s') H locs → lv_has ls 4 [(0, .ref (ad 0)), (1, .int x1')] → f_X8_count  s' x1' = some z → W p l e (rm_X8_count) sS m args below meth c H locs 0 0 (MQ below (xQ G W0 (cells8 G ad s') (some (.int z))) args sS 0 0 (x_in W0)) (F0 m 0 ls []) := by
  intro s x1 z H locs ls hw hl hf
  unfold f_X8_count at hf
  refine lv_iconst (v := 0) (pc := 0) E.1 E.2.1 dX8_count_0 (by decide) ?_
  refine lv_istore_n (lv' := [(2, .int 0), (0, .ref (ad 0)), (1, .int x1)]) (pc := 1) E.1 E.2.1 dX8_count_1 rfl hl (by decide) rfl (fun ls hl => ?_)
  refine lv_iload_n (pc := 2) E.1 E.2.1 dX8_count_2 rfl (lv_at hl 2 rfl) ?_
  by_cases q1 : x1 = 0
  · have hf := x_pos q1 hf
    refine x_swi (pc := 3) (v := 0) (tgt := 52) E q1 dX8_count_3 (by decide) (by decide) rfl (by decide) ?_
    refine lv_aload_n (pc := 52) E.1 E.2.1 dX8_count_52 rfl (lv_at hl 1 rfl) ?_
    obtain ⟨v2, g3, hf⟩ := x_bind hf
    refine x_callVA (pc := 53) (As := []) (rest := []) (st1 := [.int v2]) (ws' := (cells8 G ad s)) E hw hl (c_X8_many l G ad s g3) xv_X8_80 xd_X8_many rfl rfl ⟨Nat.le_of_ble_eq_true rfl, Nat.le_of_ble_eq_true rfl⟩ (q0 := 0) rfl rfl rfl rfl (Nat.le_of_ble_eq_true rfl) rfl rfl dX8_count_53 (fun H locs hw => ?_)
    obtain rfl := Option.some.inj hf
    exact x_reti (pc := 56) E hr hk hw dX8_count_56
  · have hf := x_neg q1 hf
    by_cases q4 : x1 = 1
    · have hf := x_pos q4 hf
      refine x_swi (pc := 3) (v := 1) (tgt := 57) E q4 dX8_count_3 (by decide) (by decide) rfl (by decide) ?_
      refine lv_aload_n (pc := 57) E.1 E.2.1 dX8_count_57 rfl (lv_at hl 1 rfl) ?_
      obtain ⟨v5, g6, hf⟩ := x_bind hf
      refine x_callVA (pc := 58) (As := []) (rest := []) (st1 := [.int v5]) (ws' := (cells8 G ad s)) E hw hl (c_X8_claims l G ad s g6) xv_X8_88 xd_X8_claims rfl rfl ⟨Nat.le_of_ble_eq_true rfl, Nat.le_of_ble_eq_true rfl⟩ (q0 := 0) rfl rfl rfl rfl (Nat.le_of_ble_eq_true rfl) rfl rfl dX8_count_58 (fun H locs hw => ?_)
      obtain rfl := Option.some.inj hf
      exact x_reti (pc := 61) E hr hk hw dX8_count_61
    · have hf := x_neg q4 hf
      by_cases q7 : x1 = 2
      · have hf := x_pos q7 hf
        refine x_swi (pc := 3) (v := 2) (tgt := 62) E q7 dX8_count_3 (by decide) (by decide) rfl (by decide) ?_
        refine lv_aload_n (pc := 62) E.1 E.2.1 dX8_count_62 rfl (lv_at hl 1 rfl) ?_
        refine xg_X8_13 (pc := 63) (v := .ref (ad 1)) E hw 0 rfl rfl dX8_count_63 ?_
        refine lv_iconst (v := 0) (pc := 66) E.1 E.2.1 dX8_count_66 (by decide) ?_
        obtain ⟨v9, g8, hf⟩ := x_bind hf
        refine x_iald (pc := 67) E hw 1 rfl g8 dX8_count_67 ?_
        obtain rfl := Option.some.inj hf
        exact x_reti (pc := 68) E hr hk hw dX8_count_68
      · have hf := x_neg q7 hf
        by_cases q10 : x1 = 3
        · have hf := x_pos q10 hf
          refine x_swi (pc := 3) (v := 3) (tgt := 69) E q10 dX8_count_3 (by decide) (by decide) rfl (by decide) ?_
          refine lv_aload_n (pc := 69) E.1 E.2.1 dX8_count_69 rfl (lv_at hl 1 rfl) ?_
          refine xg_X8_13 (pc := 70) (v := .ref (ad 1)) E hw 0 rfl rfl dX8_count_70 ?_
          refine lv_iconst (v := 1) (pc := 73) E.1 E.2.1 dX8_count_73 (by decide) ?_
          obtain ⟨v12, g11, hf⟩ := x_bind hf
          refine x_iald (pc := 74) E hw 1 rfl g11 dX8_count_74 ?_
          obtain rfl := Option.some.inj hf
          exact x_reti (pc := 75) E hr hk hw dX8_count_75
        · have hf := x_neg q10 hf
          by_cases q13 : x1 = 4
          · have hf := x_pos q13 hf
            refine x_swi (pc := 3) (v := 4) (tgt := 76) E q13 dX8_count_3 (by decide) (by decide) rfl (by decide) ?_
            refine lv_aload_n (pc := 76) E.1 E.2.1 dX8_count_76 rfl (lv_at hl 1 rfl) ?_
            refine xg_X8_77 (pc := 77) (v := .int (g8_acts s)) E hw 0 rfl rfl dX8_count_77 ?_
            obtain rfl := Option.some.inj hf
            exact x_reti (pc := 80) E hr hk hw dX8_count_80
          · have hf := x_neg q13 hf
            by_cases q14 : x1 = 5
            · have hf := x_pos q14 hf
              refine x_swi (pc := 3) (v := 5) (tgt := 81) E q14 dX8_count_3 (by decide) (by decide) rfl (by decide) ?_
              refine lv_aload_n (pc := 81) E.1 E.2.1 dX8_count_81 rfl (lv_at hl 1 rfl) ?_
              refine xg_X8_300 (pc := 82) (v := .int (g8_taped s)) E hw 0 rfl rfl dX8_count_82 ?_
              obtain rfl := Option.some.inj hf
              exact x_reti (pc := 85) E hr hk hw dX8_count_85
            · have hf := x_neg q14 hf
              by_cases q15 : x1 = 6
              · have hf := x_pos q15 hf
                refine x_swi (pc := 3) (v := 6) (tgt := 86) E q15 dX8_count_3 (by decide) (by decide) rfl (by decide) ?_
                refine lv_aload_n (pc := 86) E.1 E.2.1 dX8_count_86 rfl (lv_at hl 1 rfl) ?_
                refine lv_iconst (v := (-1)) (pc := 87) E.1 E.2.1 dX8_count_87 (by decide) ?_
                obtain ⟨v16, g17, hf⟩ := x_bind hf
                refine x_callVA (pc := 88) (As := [.int (-1)]) (rest := []) (st1 := [.int v16]) (ws' := (cells8 G ad s)) E hw hl (c_X8_aboveCap l G ad s (-1) g17) xv_X8_227 xd_X8_aboveCap rfl rfl ⟨Nat.le_of_ble_eq_true rfl, Nat.le_of_ble_eq_true rfl⟩ (q0 := 0) rfl rfl rfl rfl (Nat.le_of_ble_eq_true rfl) rfl rfl dX8_count_88 (fun H locs hw => ?_)
                obtain rfl := Option.some.inj hf
                exact x_reti (pc := 91) E hr hk hw dX8_count_91
              · have hf := x_neg q15 hf
                by_cases q18 : x1 = 7
                · have hf := x_pos q18 hf
                  refine x_swi (pc := 3) (v := 7) (tgt := 92) E q18 dX8_count_3 (by decide) (by decide) rfl (by decide) ?_
                  refine lv_iconst (v := 0) (pc := 92) E.1 E.2.1 dX8_count_92 (by decide) ?_
                  refine lv_istore_n (lv' := [(3, .int 0), (2, .int 0), (0, .ref (ad 0)), (1, .int x1)]) (pc := 93) E.1 E.2.1 dX8_count_93 rfl hl (by decide) rfl (fun ls hl => ?_)
                  exact wl_X8_count_p94 E hr hk  s 0 0 z hw (lv_sub hl [2, 1, 0] rfl) hf
                · have hf := x_neg q18 hf
                  by_cases q19 : x1 = 8
                  · have hf := x_pos q19 hf
                    refine x_swi (pc := 3) (v := 8) (tgt := 121) E q19 dX8_count_3 (by decide) (by decide) rfl (by decide) ?_
                    refine lv_iconst (v := 0) (pc := 121) E.1 E.2.1 dX8_count_121 (by decide) ?_
                    refine lv_istore_n (lv' := [(3, .int 0), (2, .int 0), (0, .ref (ad 0)), (1, .int x1)]) (pc := 122) E.1 E.2.1 dX8_count_122 rfl hl (by decide) rfl (fun ls hl => ?_)
                    exact wl_X8_count_p123 E hr hk  s 0 0 z hw (lv_sub hl [2, 1, 0] rfl) hf
                  · have hf := x_neg q19 hf
                    refine x_swo (pc := 3) (n := 9) (tgt := 147) E (lt_s (lt_s (lt_s (lt_s (lt_s (lt_s (lt_s (lt_s (lt_s lt_0 q1) q4) q7) q10) q13) q14) q15) q18) q19) (by decide) dX8_count_3 (by decide) ?_
                    refine lv_iconst (v := (-1)) (pc := 147) E.1 E.2.1 dX8_count_147 (by decide) ?_
                    obtain rfl := Option.some.inj hf
                    exact x_reti (pc := 148) E hr hk hw dX8_count_148
set_option maxHeartbeats 4000000 in
set_option maxRecDepth 100000 in
theorem c_X8_count (l : Launch) (G : xG) (ad : Nat → Nat) (s : S8) (x1 : Int32) {z : Int32} (hf : f_X8_count s x1 = some z) : xC l yX8_count cX8_count 4 (some .int) (rm_X8_count) G [.ref (ad 0), .int x1] (cells8 G ad s) (some (.int z)) (cells8 G ad s) :=
  x_met (by decide) (Nat.le_of_ble_eq_true rfl) (fun p e sS m below meth c E hr hk ls hl hw => w_X8_count_p0 E hr hk s x1 z hw hl hf)
set_option maxHeartbeats 4000000 in
set_option maxRecDepth 100000 in
theorem w_X8_feed_p71 {p : Program} {l : Launch} {e : Env} {sS : State} {m : MethodId} {args : Array Value} {below : List Frame} {meth : Method} {c : Code} {G : xG} {W0 : va_W} {ad : Nat → Nat}  {k18 : S8 → Int32 → Int32 → Int32 → Int32 → Int32 → Int32 → Option (Int32 × S8)} (E : xE p sS m args c cX8_feed 8 RX8 G (x_in W0)) (hr : meth.sig.returnType = (some .int)) (hk : meth.locks = false) (hk18 : ∀ (s' : S8) (x1' : Int32) (x2' : Int32) (x3' : Int32) (x4' : Int32) (x5' : Int32) (x6' : Int32) (z : Int32 × S8) {H : Heap} {locs : List Loc} {ls : Array Slot}, xW G (x_in W0) sS.heap (cells8 G ad s') H locs → lv_has ls 8 [(0, .ref (ad 0)), (1, .int x1'), (2, .int x2'), (3, .int x3'), (4, .int x4'), (5, .int x5'), (6, .int x6')] → k18  s' x1' x2' x3' x4' x5' x6' = some z → W p l e (rm_X8_feed) sS m args below meth c H locs 0 0 (MQ below (xQ G W0 (cells8 G ad z.2) (some (.int z.1))) args sS 0 0 (x_in W0)) (F0 m 18 ls [])) : ∀ (s' : S8) (x1' : Int32) (x2' : Int32) (x3' : Int32) (x4' : Int32) (x5' : Int32) (x6' : Int32) (y0' : Int32) (z : Int32 × S8) {H : Heap} {locs : List Loc} {ls : Array Slot}, xW G (x_in W0) sS.heap (cells8 G ad s') H locs → lv_has ls 8 [(0, .ref (ad 0)), (1, .int x1'), (2, .int x2'), (3, .int x3'), (4, .int x4'), (5, .int x5'), (6, .int x6')] → f_X8_feed_p71 k18 s' x1' x2' x3' x4' x5' x6' y0' = some z → W p l e (rm_X8_feed) sS m args below meth c H locs 0 0 (MQ below (xQ G W0 (cells8 G ad z.2) (some (.int z.1))) args sS 0 0 (x_in W0)) (F0 m 71 ls [.int y0']) := by
  intro s x1 x2 x3 x4 x5 x6 y0 z H locs ls hw hl hf
  unfold f_X8_feed_p71 at hf
  refine lv_istore (lv' := [(7, .int y0), (0, .ref (ad 0)), (1, .int x1), (2, .int x2), (3, .int x3), (4, .int x4), (5, .int x5), (6, .int x6)]) (pc := 71) E.1 E.2.1 dX8_feed_71 hl (by decide) rfl (fun ls hl => ?_)
  refine lv_aload_n (pc := 73) E.1 E.2.1 dX8_feed_73 rfl (lv_at hl 1 rfl) ?_
  refine xg_X8_66 (pc := 74) (v := .ref (ad 18)) E hw 0 rfl rfl dX8_feed_74 ?_
  refine lv_aload_n (pc := 77) E.1 E.2.1 dX8_feed_77 rfl (lv_at hl 1 rfl) ?_
  refine xg_X8_300 (pc := 78) (v := .int (g8_taped s)) E hw 0 rfl rfl dX8_feed_78 ?_
  refine lv_iload (pc := 81) E.1 E.2.1 dX8_feed_81 (lv_at hl 0 rfl) ?_
  refine lv_bipush (v := 24) (pc := 83) E.1 E.2.1 dX8_feed_83 (by decide) ?_
  refine lv_bipush (v := 8) (pc := 85) E.1 E.2.1 dX8_feed_85 (by decide) ?_
  refine lv_iload (pc := 87) E.1 E.2.1 dX8_feed_87 (lv_at hl 7 rfl) ?_
  refine lv_iconst (v := 4) (pc := 89) E.1 E.2.1 dX8_feed_89 (by decide) ?_
  refine lv_irem (pc := 90) E.1 E.2.1 dX8_feed_90 (by decide) ?_
  refine lv_imul (pc := 91) E.1 E.2.1 dX8_feed_91 ?_
  refine lv_isub (pc := 92) E.1 E.2.1 dX8_feed_92 ?_
  refine lv_ishr (pc := 93) E.1 E.2.1 dX8_feed_93 ?_
  refine lv_sipush (v := 255) (pc := 94) E.1 E.2.1 dX8_feed_94 (by decide) ?_
  refine lv_iand (pc := 97) E.1 E.2.1 dX8_feed_97 ?_
  obtain ⟨w2, g1, hf⟩ := x_bind hf
  refine x_iast (pc := 98) (ws' := (cells8 G ad (u8_tape s w2))) E hw 18 rfl g1 rfl dX8_feed_98 (fun H locs hw => ?_)
  refine lv_aload_n (pc := 99) E.1 E.2.1 dX8_feed_99 rfl (lv_at hl 1 rfl) ?_
  refine lv_dup (pc := 100) E.1 E.2.1 dX8_feed_100 rfl ?_
  refine xg_X8_300 (pc := 101) (v := .int (g8_taped (u8_tape s w2))) E hw 0 rfl rfl dX8_feed_101 ?_
  refine lv_iconst (v := 1) (pc := 104) E.1 E.2.1 dX8_feed_104 (by decide) ?_
  refine lv_iadd (pc := 105) E.1 E.2.1 dX8_feed_105 ?_
  refine xp_X8_300 (pc := 106) (v := .int ((g8_taped (u8_tape s w2)) + 1)) (ws' := (cells8 G ad (u8_taped (u8_tape s w2) ((g8_taped (u8_tape s w2)) + 1)))) E hw 0 rfl rfl rfl (Nat.le_of_ble_eq_true rfl) rfl dX8_feed_106 (fun H locs hw => ?_)
  refine lv_iinc (v := (x6 + 1)) (lv' := [(6, .int (x6 + 1)), (7, .int y0), (0, .ref (ad 0)), (1, .int x1), (2, .int x2), (3, .int x3), (4, .int x4), (5, .int x5)]) (pc := 109) E.1 E.2.1 dX8_feed_109 hl (k := 7) rfl rfl (by decide) rfl (fun ls hl => ?_)
  refine lv_goto (tgt := 18) (pc := 112) E.1 E.2.1 dX8_feed_112 (by decide) ?_
  exact hk18 (u8_taped (u8_tape s w2) ((g8_taped (u8_tape s w2)) + 1)) x1 x2 x3 x4 x5 (x6 + 1) z hw (lv_sub hl [2, 3, 4, 5, 6, 7, 0] rfl) hf
set_option maxHeartbeats 4000000 in
set_option maxRecDepth 100000 in
theorem w_X8_feed_p18 {p : Program} {l : Launch} {e : Env} {sS : State} {m : MethodId} {args : Array Value} {below : List Frame} {meth : Method} {c : Code} {G : xG} {W0 : va_W} {ad : Nat → Nat}  {k18 : S8 → Int32 → Int32 → Int32 → Int32 → Int32 → Int32 → Option (Int32 × S8)} (E : xE p sS m args c cX8_feed 8 RX8 G (x_in W0)) (hr : meth.sig.returnType = (some .int)) (hk : meth.locks = false) (hk18 : ∀ (s' : S8) (x1' : Int32) (x2' : Int32) (x3' : Int32) (x4' : Int32) (x5' : Int32) (x6' : Int32) (z : Int32 × S8) {H : Heap} {locs : List Loc} {ls : Array Slot}, xW G (x_in W0) sS.heap (cells8 G ad s') H locs → lv_has ls 8 [(0, .ref (ad 0)), (1, .int x1'), (2, .int x2'), (3, .int x3'), (4, .int x4'), (5, .int x5'), (6, .int x6')] → k18  s' x1' x2' x3' x4' x5' x6' = some z → W p l e (rm_X8_feed) sS m args below meth c H locs 0 0 (MQ below (xQ G W0 (cells8 G ad z.2) (some (.int z.1))) args sS 0 0 (x_in W0)) (F0 m 18 ls [])) : ∀ (s' : S8) (x1' : Int32) (x2' : Int32) (x3' : Int32) (x4' : Int32) (x5' : Int32) (x6' : Int32) (z : Int32 × S8) {H : Heap} {locs : List Loc} {ls : Array Slot}, xW G (x_in W0) sS.heap (cells8 G ad s') H locs → lv_has ls 8 [(0, .ref (ad 0)), (1, .int x1'), (2, .int x2'), (3, .int x3'), (4, .int x4'), (5, .int x5'), (6, .int x6')] → f_X8_feed_p18 k18 s' x1' x2' x3' x4' x5' x6' = some z → W p l e (rm_X8_feed) sS m args below meth c H locs 0 0 (MQ below (xQ G W0 (cells8 G ad z.2) (some (.int z.1))) args sS 0 0 (x_in W0)) (F0 m 18 ls []) := by
  intro s x1 x2 x3 x4 x5 x6 z H locs ls hw hl hf
  unfold f_X8_feed_p18 at hf
  refine lv_iload (pc := 18) E.1 E.2.1 dX8_feed_18 (lv_at hl 6 rfl) ?_
  refine lv_bipush (v := 20) (pc := 20) E.1 E.2.1 dX8_feed_20 (by decide) ?_
  refine lv_icmp_ge (tgt := 115) (pc := 22) E.1 E.2.1 dX8_feed_22 (by decide) (fun q1 => ?_) (fun q1 => ?_)
  · have hf := x_pos q1 hf
    refine lv_aload_n (pc := 115) E.1 E.2.1 dX8_feed_115 rfl (lv_at hl 0 rfl) ?_
    refine xg_X8_300 (pc := 116) (v := .int (g8_taped s)) E hw 0 rfl rfl dX8_feed_116 ?_
    obtain rfl := Option.some.inj hf
    exact x_reti (pc := 119) E hr hk hw dX8_feed_119
  · have hf := x_neg q1 hf
    refine lv_iload (pc := 25) E.1 E.2.1 dX8_feed_25 (lv_at hl 6 rfl) ?_
    refine lv_iconst (v := 4) (pc := 27) E.1 E.2.1 dX8_feed_27 (by decide) ?_
    refine lv_icmp_ge (tgt := 35) (pc := 28) E.1 E.2.1 dX8_feed_28 (by decide) (fun q2 => ?_) (fun q2 => ?_)
    · have hf := x_pos q2 hf
      refine lv_iload (pc := 35) E.1 E.2.1 dX8_feed_35 (lv_at hl 6 rfl) ?_
      refine lv_bipush (v := 8) (pc := 37) E.1 E.2.1 dX8_feed_37 (by decide) ?_
      refine lv_icmp_ge (tgt := 46) (pc := 39) E.1 E.2.1 dX8_feed_39 (by decide) (fun q3 => ?_) (fun q3 => ?_)
      · have hf := x_pos q3 hf
        refine lv_iload (pc := 46) E.1 E.2.1 dX8_feed_46 (lv_at hl 6 rfl) ?_
        refine lv_bipush (v := 12) (pc := 48) E.1 E.2.1 dX8_feed_48 (by decide) ?_
        refine lv_icmp_ge (tgt := 57) (pc := 50) E.1 E.2.1 dX8_feed_50 (by decide) (fun q4 => ?_) (fun q4 => ?_)
        · have hf := x_pos q4 hf
          refine lv_iload (pc := 57) E.1 E.2.1 dX8_feed_57 (lv_at hl 6 rfl) ?_
          refine lv_bipush (v := 16) (pc := 59) E.1 E.2.1 dX8_feed_59 (by decide) ?_
          refine lv_icmp_ge (tgt := 69) (pc := 61) E.1 E.2.1 dX8_feed_61 (by decide) (fun q5 => ?_) (fun q5 => ?_)
          · have hf := x_pos q5 hf
            refine lv_iload (pc := 69) E.1 E.2.1 dX8_feed_69 (lv_at hl 5 rfl) ?_
            exact w_X8_feed_p71 E hr hk hk18 s x1 x2 x3 x4 x5 x6 x5 z hw (lv_sub hl [0, 1, 2, 3, 4, 5, 6] rfl) hf
          · have hf := x_neg q5 hf
            refine lv_iload (pc := 64) E.1 E.2.1 dX8_feed_64 (lv_at hl 4 rfl) ?_
            refine lv_goto (tgt := 71) (pc := 66) E.1 E.2.1 dX8_feed_66 (by decide) ?_
            exact w_X8_feed_p71 E hr hk hk18 s x1 x2 x3 x4 x5 x6 x4 z hw (lv_sub hl [0, 1, 2, 3, 4, 5, 6] rfl) hf
        · have hf := x_neg q4 hf
          refine lv_iload_n (pc := 53) E.1 E.2.1 dX8_feed_53 rfl (lv_at hl 3 rfl) ?_
          refine lv_goto (tgt := 71) (pc := 54) E.1 E.2.1 dX8_feed_54 (by decide) ?_
          exact w_X8_feed_p71 E hr hk hk18 s x1 x2 x3 x4 x5 x6 x3 z hw (lv_sub hl [0, 1, 2, 3, 4, 5, 6] rfl) hf
      · have hf := x_neg q3 hf
        refine lv_iload_n (pc := 42) E.1 E.2.1 dX8_feed_42 rfl (lv_at hl 2 rfl) ?_
        refine lv_goto (tgt := 71) (pc := 43) E.1 E.2.1 dX8_feed_43 (by decide) ?_
        exact w_X8_feed_p71 E hr hk hk18 s x1 x2 x3 x4 x5 x6 x2 z hw (lv_sub hl [0, 1, 2, 3, 4, 5, 6] rfl) hf
    · have hf := x_neg q2 hf
      refine lv_iload_n (pc := 31) E.1 E.2.1 dX8_feed_31 rfl (lv_at hl 1 rfl) ?_
      refine lv_goto (tgt := 71) (pc := 32) E.1 E.2.1 dX8_feed_32 (by decide) ?_
      exact w_X8_feed_p71 E hr hk hk18 s x1 x2 x3 x4 x5 x6 x1 z hw (lv_sub hl [0, 1, 2, 3, 4, 5, 6] rfl) hf
set_option maxHeartbeats 4000000 in
set_option maxRecDepth 100000 in
theorem wl_X8_feed_p18 {p : Program} {l : Launch} {e : Env} {sS : State} {m : MethodId} {args : Array Value} {below : List Frame} {meth : Method} {c : Code} {G : xG} {W0 : va_W} {ad : Nat → Nat}   (E : xE p sS m args c cX8_feed 8 RX8 G (x_in W0)) (hr : meth.sig.returnType = (some .int)) (hk : meth.locks = false)  : ∀ (s' : S8) (x1' : Int32) (x2' : Int32) (x3' : Int32) (x4' : Int32) (x5' : Int32) (x6' : Int32) (z : Int32 × S8) {H : Heap} {locs : List Loc} {ls : Array Slot}, xW G (x_in W0) sS.heap (cells8 G ad s') H locs → lv_has ls 8 [(0, .ref (ad 0)), (1, .int x1'), (2, .int x2'), (3, .int x3'), (4, .int x4'), (5, .int x5'), (6, .int x6')] → lp_X8_feed_p18  s' x1' x2' x3' x4' x5' x6' = some z → W p l e (rm_X8_feed) sS m args below meth c H locs 0 0 (MQ below (xQ G W0 (cells8 G ad z.2) (some (.int z.1))) args sS 0 0 (x_in W0)) (F0 m 18 ls []) := by
  intro s x1 x2 x3 x4 x5 x6 z H locs ls hw hl hf
  exact x_loop_W (P := fun (q : S8 × Int32 × Int32 × Int32 × Int32 × Int32 × Int32) (z : Int32 × S8) => ∀ {H : Heap} {locs : List Loc} {ls : Array Slot}, xW G (x_in W0) sS.heap (cells8 G ad q.1) H locs → lv_has ls 8 [(0, .ref (ad 0)), (1, .int q.2.1), (2, .int q.2.2.1), (3, .int q.2.2.2.1), (4, .int q.2.2.2.2.1), (5, .int q.2.2.2.2.2.1), (6, .int q.2.2.2.2.2.2)] → W p l e (rm_X8_feed) sS m args below meth c H locs 0 0 (MQ below (xQ G W0 (cells8 G ad z.2) (some (.int z.1))) args sS 0 0 (x_in W0)) (F0 m 18 ls [])) (fun k hkk q z hf H locs ls hw hl => w_X8_feed_p18 E hr hk  (fun s x1 x2 x3 x4 x5 x6 z H locs ls hw hl hf => hkk (s, x1, x2, x3, x4, x5, x6) z hf hw hl) q.1 q.2.1 q.2.2.1 q.2.2.2.1 q.2.2.2.2.1 q.2.2.2.2.2.1 q.2.2.2.2.2.2 z hw hl hf) FU (s, x1, x2, x3, x4, x5, x6) z hf hw hl
set_option maxHeartbeats 4000000 in
set_option maxRecDepth 100000 in
theorem w_X8_feed_p0 {p : Program} {l : Launch} {e : Env} {sS : State} {m : MethodId} {args : Array Value} {below : List Frame} {meth : Method} {c : Code} {G : xG} {W0 : va_W} {ad : Nat → Nat}   (E : xE p sS m args c cX8_feed 8 RX8 G (x_in W0)) (hr : meth.sig.returnType = (some .int)) (hk : meth.locks = false)  : ∀ (s' : S8) (x1' : Int32) (x2' : Int32) (x3' : Int32) (x4' : Int32) (x5' : Int32) (z : Int32 × S8) {H : Heap} {locs : List Loc} {ls : Array Slot}, xW G (x_in W0) sS.heap (cells8 G ad s') H locs → lv_has ls 8 [(0, .ref (ad 0)), (1, .int x1'), (2, .int x2'), (3, .int x3'), (4, .int x4'), (5, .int x5')] → f_X8_feed  s' x1' x2' x3' x4' x5' = some z → W p l e (rm_X8_feed) sS m args below meth c H locs 0 0 (MQ below (xQ G W0 (cells8 G ad z.2) (some (.int z.1))) args sS 0 0 (x_in W0)) (F0 m 0 ls []) := by
  intro s x1 x2 x3 x4 x5 z H locs ls hw hl hf
  unfold f_X8_feed at hf
  refine lv_aload_n (pc := 0) E.1 E.2.1 dX8_feed_0 rfl (lv_at hl 0 rfl) ?_
  refine xg_X8_300 (pc := 1) (v := .int (g8_taped s)) E hw 0 rfl rfl dX8_feed_1 ?_
  refine lv_bipush (v := 20) (pc := 4) E.1 E.2.1 dX8_feed_4 (by decide) ?_
  refine lv_iadd (pc := 6) E.1 E.2.1 dX8_feed_6 ?_
  refine lv_sipush (v := 700) (pc := 7) E.1 E.2.1 dX8_feed_7 (by decide) ?_
  refine lv_icmp_le (tgt := 15) (pc := 10) E.1 E.2.1 dX8_feed_10 (by decide) (fun q1 => ?_) (fun q1 => ?_)
  · have hf := x_pos q1 hf
    refine lv_iconst (v := 0) (pc := 15) E.1 E.2.1 dX8_feed_15 (by decide) ?_
    refine lv_istore (lv' := [(6, .int 0), (0, .ref (ad 0)), (1, .int x1), (2, .int x2), (3, .int x3), (4, .int x4), (5, .int x5)]) (pc := 16) E.1 E.2.1 dX8_feed_16 hl (by decide) rfl (fun ls hl => ?_)
    exact wl_X8_feed_p18 E hr hk  s x1 x2 x3 x4 x5 0 z hw (lv_sub hl [1, 2, 3, 4, 5, 6, 0] rfl) hf
  · have hf := x_neg q1 hf
    refine lv_iconst (v := (-1)) (pc := 13) E.1 E.2.1 dX8_feed_13 (by decide) ?_
    obtain rfl := Option.some.inj hf
    exact x_reti (pc := 14) E hr hk hw dX8_feed_14
set_option maxHeartbeats 4000000 in
set_option maxRecDepth 100000 in
theorem c_X8_feed (l : Launch) (G : xG) (ad : Nat → Nat) (s : S8) (x1 : Int32) (x2 : Int32) (x3 : Int32) (x4 : Int32) (x5 : Int32) {z : Int32 × S8} (hf : f_X8_feed s x1 x2 x3 x4 x5 = some z) : xC l yX8_feed cX8_feed 8 (some .int) (rm_X8_feed) G [.ref (ad 0), .int x1, .int x2, .int x3, .int x4, .int x5] (cells8 G ad s) (some (.int z.1)) (cells8 G ad z.2) :=
  x_met (by decide) (Nat.le_of_ble_eq_true rfl) (fun p e sS m below meth c E hr hk ls hl hw => w_X8_feed_p0 E hr hk s x1 x2 x3 x4 x5 z hw hl hf)
set_option maxHeartbeats 4000000 in
set_option maxRecDepth 100000 in
theorem w_X8_back_p0 {p : Program} {l : Launch} {e : Env} {sS : State} {m : MethodId} {args : Array Value} {below : List Frame} {meth : Method} {c : Code} {G : xG} {W0 : va_W} {ad : Nat → Nat}   (E : xE p sS m args c cX8_back 2 RX8 G (x_in W0)) (hr : meth.sig.returnType = (some .int)) (hk : meth.locks = false)  : ∀ (s' : S8) (x1' : Int32) (z : Int32 × S8) {H : Heap} {locs : List Loc} {ls : Array Slot}, xW G (x_in W0) sS.heap (cells8 G ad s') H locs → lv_has ls 2 [(0, .ref (ad 0)), (1, .int x1')] → f_X8_back  s' x1' = some z → W p l e (rm_X8_back) sS m args below meth c H locs 0 0 (MQ below (xQ G W0 (cells8 G ad z.2) (some (.int z.1))) args sS 0 0 (x_in W0)) (F0 m 0 ls []) := by
  intro s x1 z H locs ls hw hl hf
  unfold f_X8_back at hf
  refine lv_iload_n (pc := 0) E.1 E.2.1 dX8_back_0 rfl (lv_at hl 1 rfl) ?_
  refine lv_iconst (v := 0) (pc := 1) E.1 E.2.1 dX8_back_1 (by decide) ?_
  refine lv_aload_n (pc := 2) E.1 E.2.1 dX8_back_2 rfl (lv_at hl 0 rfl) ?_
  refine xg_X8_300 (pc := 3) (v := .int (g8_taped s)) E hw 0 rfl rfl dX8_back_3 ?_
  obtain ⟨v1, g2, hf⟩ := x_bind hf
  refine x_callS0 (pc := 6) (As := [.int x1, .int 0, .int (g8_taped s)]) (rest := []) (st1 := [.int v1]) E hw hl (c_X8_in l G  x1 0 (g8_taped s) g2) xs_X8_84 xd_X8_in rfl rfl ⟨Nat.le_of_ble_eq_true rfl, Nat.le_of_ble_eq_true rfl⟩ rfl rfl (Nat.le_of_ble_eq_true rfl) rfl dX8_back_6 (fun H locs hw => ?_)
  refine lv_if_ne (tgt := 14) (pc := 9) E.1 E.2.1 dX8_back_9 (by decide) (fun q3 => ?_) (fun q3 => ?_)
  · have hf := x_neg q3 hf
    refine lv_aload_n (pc := 14) E.1 E.2.1 dX8_back_14 rfl (lv_at hl 0 rfl) ?_
    refine lv_dup (pc := 15) E.1 E.2.1 dX8_back_15 rfl ?_
    refine xg_X8_300 (pc := 16) (v := .int (g8_taped s)) E hw 0 rfl rfl dX8_back_16 ?_
    refine lv_iload_n (pc := 19) E.1 E.2.1 dX8_back_19 rfl (lv_at hl 1 rfl) ?_
    refine lv_isub (pc := 20) E.1 E.2.1 dX8_back_20 ?_
    refine xp_X8_300 (pc := 21) (v := .int ((g8_taped s) - x1)) (ws' := (cells8 G ad (u8_taped s ((g8_taped s) - x1)))) E hw 0 rfl rfl rfl (Nat.le_of_ble_eq_true rfl) rfl dX8_back_21 (fun H locs hw => ?_)
    refine lv_aload_n (pc := 24) E.1 E.2.1 dX8_back_24 rfl (lv_at hl 0 rfl) ?_
    refine xg_X8_300 (pc := 25) (v := .int (g8_taped (u8_taped s ((g8_taped s) - x1)))) E hw 0 rfl rfl dX8_back_25 ?_
    obtain rfl := Option.some.inj hf
    exact x_reti (pc := 28) E hr hk hw dX8_back_28
  · have hf := x_pos q3 hf
    refine lv_iconst (v := (-1)) (pc := 12) E.1 E.2.1 dX8_back_12 (by decide) ?_
    obtain rfl := Option.some.inj hf
    exact x_reti (pc := 13) E hr hk hw dX8_back_13
set_option maxHeartbeats 4000000 in
set_option maxRecDepth 100000 in
theorem c_X8_back (l : Launch) (G : xG) (ad : Nat → Nat) (s : S8) (x1 : Int32) {z : Int32 × S8} (hf : f_X8_back s x1 = some z) : xC l yX8_back cX8_back 2 (some .int) (rm_X8_back) G [.ref (ad 0), .int x1] (cells8 G ad s) (some (.int z.1)) (cells8 G ad z.2) :=
  x_met (by decide) (Nat.le_of_ble_eq_true rfl) (fun p e sS m below meth c E hr hk ls hl hw => w_X8_back_p0 E hr hk s x1 z hw hl hf)
set_option maxHeartbeats 4000000 in
set_option maxRecDepth 100000 in
theorem w_X8_here_p0 {p : Program} {l : Launch} {e : Env} {sS : State} {m : MethodId} {args : Array Value} {below : List Frame} {meth : Method} {c : Code} {G : xG} {W0 : va_W} {ad : Nat → Nat}   (E : xE p sS m args c cX8_here 1 RX8 G (x_in W0)) (hr : meth.sig.returnType = (some .int)) (hk : meth.locks = false)  : ∀ (s' : S8) (z : Int32) {H : Heap} {locs : List Loc} {ls : Array Slot}, xW G (x_in W0) sS.heap (cells8 G ad s') H locs → lv_has ls 1 [(0, .ref (ad 0))] → f_X8_here  s' = some z → W p l e (rm_X8_here) sS m args below meth c H locs 0 0 (MQ below (xQ G W0 (cells8 G ad s') (some (.int z))) args sS 0 0 (x_in W0)) (F0 m 0 ls []) := by
  intro s z H locs ls hw hl hf
  unfold f_X8_here at hf
  refine lv_aload_n (pc := 0) E.1 E.2.1 dX8_here_0 rfl (lv_at hl 0 rfl) ?_
  refine xg_X8_303 (pc := 1) (v := .int (g8_spot s)) E hw 0 rfl rfl dX8_here_1 ?_
  refine lv_aload_n (pc := 4) E.1 E.2.1 dX8_here_4 rfl (lv_at hl 0 rfl) ?_
  refine xg_X8_300 (pc := 5) (v := .int (g8_taped s)) E hw 0 rfl rfl dX8_here_5 ?_
  refine lv_icmp_ge (tgt := 23) (pc := 8) E.1 E.2.1 dX8_here_8 (by decide) (fun q1 => ?_) (fun q1 => ?_)
  · have hf := x_pos q1 hf
    refine lv_iconst (v := (-1)) (pc := 23) E.1 E.2.1 dX8_here_23 (by decide) ?_
    obtain rfl := Option.some.inj hf
    exact x_reti (pc := 24) E hr hk hw dX8_here_24
  · have hf := x_neg q1 hf
    refine lv_aload_n (pc := 11) E.1 E.2.1 dX8_here_11 rfl (lv_at hl 0 rfl) ?_
    refine xg_X8_66 (pc := 12) (v := .ref (ad 18)) E hw 0 rfl rfl dX8_here_12 ?_
    refine lv_aload_n (pc := 15) E.1 E.2.1 dX8_here_15 rfl (lv_at hl 0 rfl) ?_
    refine xg_X8_303 (pc := 16) (v := .int (g8_spot s)) E hw 0 rfl rfl dX8_here_16 ?_
    obtain ⟨v3, g2, hf⟩ := x_bind hf
    refine x_iald (pc := 19) E hw 18 rfl g2 dX8_here_19 ?_
    refine lv_goto (tgt := 24) (pc := 20) E.1 E.2.1 dX8_here_20 (by decide) ?_
    obtain rfl := Option.some.inj hf
    exact x_reti (pc := 24) E hr hk hw dX8_here_24
set_option maxHeartbeats 4000000 in
set_option maxRecDepth 100000 in
theorem c_X8_here (l : Launch) (G : xG) (ad : Nat → Nat) (s : S8) {z : Int32} (hf : f_X8_here s = some z) : xC l yX8_here cX8_here 1 (some .int) (rm_X8_here) G [.ref (ad 0)] (cells8 G ad s) (some (.int z)) (cells8 G ad s) :=
  x_met (by decide) (Nat.le_of_ble_eq_true rfl) (fun p e sS m below meth c E hr hk ls hl hw => w_X8_here_p0 E hr hk s z hw hl hf)
set_option maxHeartbeats 4000000 in
set_option maxRecDepth 100000 in
theorem w_X8_goesOn_p165 {p : Program} {l : Launch} {e : Env} {sS : State} {m : MethodId} {args : Array Value} {below : List Frame} {meth : Method} {c : Code} {G : xG} {W0 : va_W} {ad : Nat → Nat}  {k165 : S8 → Int32 → Option (S8)} (E : xE p sS m args c cX8_goesOn 5 RX8 G (x_in W0)) (hr : meth.sig.returnType = none) (hk : meth.locks = false) (hk165 : ∀ (s' : S8) (x3' : Int32) (z : S8) {H : Heap} {locs : List Loc} {ls : Array Slot}, xW G (x_in W0) sS.heap (cells8 G ad s') H locs → lv_has ls 5 [(0, .ref (ad 0)), (3, .int x3')] → k165  s' x3' = some z → W p l e (rm_X8_goesOn) sS m args below meth c H locs 0 0 (MQ below (xQ G W0 (cells8 G ad z) none) args sS 0 0 (x_in W0)) (F0 m 165 ls [])) : ∀ (s' : S8) (x3' : Int32) (z : S8) {H : Heap} {locs : List Loc} {ls : Array Slot}, xW G (x_in W0) sS.heap (cells8 G ad s') H locs → lv_has ls 5 [(0, .ref (ad 0)), (3, .int x3')] → f_X8_goesOn_p165 k165 s' x3' = some z → W p l e (rm_X8_goesOn) sS m args below meth c H locs 0 0 (MQ below (xQ G W0 (cells8 G ad z) none) args sS 0 0 (x_in W0)) (F0 m 165 ls []) := by
  intro s x3 z H locs ls hw hl hf
  unfold f_X8_goesOn_p165 at hf
  refine lv_aload_n (pc := 165) E.1 E.2.1 dX8_goesOn_165 rfl (lv_at hl 0 rfl) ?_
  obtain ⟨v1, g2, hf⟩ := x_bind hf
  refine x_callVA (pc := 166) (As := []) (rest := []) (st1 := [.int v1]) (ws' := (cells8 G ad s)) E hw hl (c_X8_here l G ad s g2) xv_X8_309 xd_X8_here rfl rfl ⟨Nat.le_of_ble_eq_true rfl, Nat.le_of_ble_eq_true rfl⟩ (q0 := 0) rfl rfl rfl rfl (Nat.le_of_ble_eq_true rfl) rfl rfl dX8_goesOn_166 (fun H locs hw => ?_)
  refine lv_bipush (v := 48) (pc := 169) E.1 E.2.1 dX8_goesOn_169 (by decide) ?_
  refine lv_bipush (v := 57) (pc := 171) E.1 E.2.1 dX8_goesOn_171 (by decide) ?_
  obtain ⟨v3, g4, hf⟩ := x_bind hf
  refine x_callS0 (pc := 173) (As := [.int v1, .int 48, .int 57]) (rest := []) (st1 := [.int v3]) E hw hl (c_X8_in l G  v1 48 57 g4) xs_X8_84 xd_X8_in rfl rfl ⟨Nat.le_of_ble_eq_true rfl, Nat.le_of_ble_eq_true rfl⟩ rfl rfl (Nat.le_of_ble_eq_true rfl) rfl dX8_goesOn_173 (fun H locs hw => ?_)
  refine lv_if_eq (tgt := 224) (pc := 176) E.1 E.2.1 dX8_goesOn_176 (by decide) (fun q5 => ?_) (fun q5 => ?_)
  · have hf := x_pos q5 hf
    refine lv_aload_n (pc := 224) E.1 E.2.1 dX8_goesOn_224 rfl (lv_at hl 0 rfl) ?_
    refine lv_iload_n (pc := 225) E.1 E.2.1 dX8_goesOn_225 rfl (lv_at hl 1 rfl) ?_
    refine lv_if_ne (tgt := 242) (pc := 226) E.1 E.2.1 dX8_goesOn_226 (by decide) (fun q6 => ?_) (fun q6 => ?_)
    · have hf := x_neg q6 hf
      refine lv_iconst (v := 4) (pc := 242) E.1 E.2.1 dX8_goesOn_242 (by decide) ?_
      refine lv_goto (tgt := 247) (pc := 243) E.1 E.2.1 dX8_goesOn_243 (by decide) ?_
      refine xp_X8_306 (pc := 247) (v := .int 4) (ws' := (cells8 G ad (u8_token s 4))) E hw 0 rfl rfl rfl (Nat.le_of_ble_eq_true rfl) rfl dX8_goesOn_247 (fun H locs hw => ?_)
      refine lv_goto (tgt := 279) (pc := 250) E.1 E.2.1 dX8_goesOn_250 (by decide) ?_
      obtain rfl := Option.some.inj hf
      exact x_retv (pc := 279) E hr hk hw dX8_goesOn_279
    · have hf := x_pos q6 hf
      refine lv_aload_n (pc := 229) E.1 E.2.1 dX8_goesOn_229 rfl (lv_at hl 0 rfl) ?_
      refine xg_X8_303 (pc := 230) (v := .int (g8_spot s)) E hw 0 rfl rfl dX8_goesOn_230 ?_
      refine lv_aload_n (pc := 233) E.1 E.2.1 dX8_goesOn_233 rfl (lv_at hl 0 rfl) ?_
      refine xg_X8_312 (pc := 234) (v := .int (g8_begun s)) E hw 0 rfl rfl dX8_goesOn_234 ?_
      refine lv_isub (pc := 237) E.1 E.2.1 dX8_goesOn_237 ?_
      refine lv_iconst (v := 2) (pc := 238) E.1 E.2.1 dX8_goesOn_238 (by decide) ?_
      refine lv_icmp_le (tgt := 246) (pc := 239) E.1 E.2.1 dX8_goesOn_239 (by decide) (fun q7 => ?_) (fun q7 => ?_)
      · have hf := x_pos q7 hf
        refine lv_iconst (v := 2) (pc := 246) E.1 E.2.1 dX8_goesOn_246 (by decide) ?_
        refine xp_X8_306 (pc := 247) (v := .int 2) (ws' := (cells8 G ad (u8_token s 2))) E hw 0 rfl rfl rfl (Nat.le_of_ble_eq_true rfl) rfl dX8_goesOn_247 (fun H locs hw => ?_)
        refine lv_goto (tgt := 279) (pc := 250) E.1 E.2.1 dX8_goesOn_250 (by decide) ?_
        obtain rfl := Option.some.inj hf
        exact x_retv (pc := 279) E hr hk hw dX8_goesOn_279
      · have hf := x_neg q7 hf
        refine lv_iconst (v := 4) (pc := 242) E.1 E.2.1 dX8_goesOn_242 (by decide) ?_
        refine lv_goto (tgt := 247) (pc := 243) E.1 E.2.1 dX8_goesOn_243 (by decide) ?_
        refine xp_X8_306 (pc := 247) (v := .int 4) (ws' := (cells8 G ad (u8_token s 4))) E hw 0 rfl rfl rfl (Nat.le_of_ble_eq_true rfl) rfl dX8_goesOn_247 (fun H locs hw => ?_)
        refine lv_goto (tgt := 279) (pc := 250) E.1 E.2.1 dX8_goesOn_250 (by decide) ?_
        obtain rfl := Option.some.inj hf
        exact x_retv (pc := 279) E hr hk hw dX8_goesOn_279
  · have hf := x_neg q5 hf
    refine lv_aload_n (pc := 179) E.1 E.2.1 dX8_goesOn_179 rfl (lv_at hl 0 rfl) ?_
    refine xg_X8_303 (pc := 180) (v := .int (g8_spot s)) E hw 0 rfl rfl dX8_goesOn_180 ?_
    refine lv_aload_n (pc := 183) E.1 E.2.1 dX8_goesOn_183 rfl (lv_at hl 0 rfl) ?_
    refine xg_X8_312 (pc := 184) (v := .int (g8_begun s)) E hw 0 rfl rfl dX8_goesOn_184 ?_
    refine lv_isub (pc := 187) E.1 E.2.1 dX8_goesOn_187 ?_
    refine lv_iconst (v := 2) (pc := 188) E.1 E.2.1 dX8_goesOn_188 (by decide) ?_
    refine lv_icmp_ge (tgt := 211) (pc := 189) E.1 E.2.1 dX8_goesOn_189 (by decide) (fun q8 => ?_) (fun q8 => ?_)
    · have hf := x_pos q8 hf
      refine lv_aload_n (pc := 211) E.1 E.2.1 dX8_goesOn_211 rfl (lv_at hl 0 rfl) ?_
      refine lv_dup (pc := 212) E.1 E.2.1 dX8_goesOn_212 rfl ?_
      refine xg_X8_303 (pc := 213) (v := .int (g8_spot s)) E hw 0 rfl rfl dX8_goesOn_213 ?_
      refine lv_iconst (v := 1) (pc := 216) E.1 E.2.1 dX8_goesOn_216 (by decide) ?_
      refine lv_iadd (pc := 217) E.1 E.2.1 dX8_goesOn_217 ?_
      refine xp_X8_303 (pc := 218) (v := .int ((g8_spot s) + 1)) (ws' := (cells8 G ad (u8_spot s ((g8_spot s) + 1)))) E hw 0 rfl rfl rfl (Nat.le_of_ble_eq_true rfl) rfl dX8_goesOn_218 (fun H locs hw => ?_)
      refine lv_goto (tgt := 165) (pc := 221) E.1 E.2.1 dX8_goesOn_221 (by decide) ?_
      exact hk165 (u8_spot s ((g8_spot s) + 1)) x3 z hw (lv_sub hl [0, 1] rfl) hf
    · have hf := x_neg q8 hf
      refine lv_aload_n (pc := 192) E.1 E.2.1 dX8_goesOn_192 rfl (lv_at hl 0 rfl) ?_
      refine lv_bipush (v := 10) (pc := 193) E.1 E.2.1 dX8_goesOn_193 (by decide) ?_
      refine lv_aload_n (pc := 195) E.1 E.2.1 dX8_goesOn_195 rfl (lv_at hl 0 rfl) ?_
      refine xg_X8_315 (pc := 196) (v := .int (g8_number s)) E hw 0 rfl rfl dX8_goesOn_196 ?_
      refine lv_imul (pc := 199) E.1 E.2.1 dX8_goesOn_199 ?_
      refine lv_aload_n (pc := 200) E.1 E.2.1 dX8_goesOn_200 rfl (lv_at hl 0 rfl) ?_
      obtain ⟨v9, g10, hf⟩ := x_bind hf
      refine x_callVA (pc := 201) (As := []) (rest := [.int (10 * (g8_number s)), .ref (ad 0)]) (st1 := [.int v9, .int (10 * (g8_number s)), .ref (ad 0)]) (ws' := (cells8 G ad s)) E hw hl (c_X8_here l G ad s g10) xv_X8_309 xd_X8_here rfl rfl ⟨Nat.le_of_ble_eq_true rfl, Nat.le_of_ble_eq_true rfl⟩ (q0 := 0) rfl rfl rfl rfl (Nat.le_of_ble_eq_true rfl) rfl rfl dX8_goesOn_201 (fun H locs hw => ?_)
      refine lv_iadd (pc := 204) E.1 E.2.1 dX8_goesOn_204 ?_
      refine lv_bipush (v := 48) (pc := 205) E.1 E.2.1 dX8_goesOn_205 (by decide) ?_
      refine lv_isub (pc := 207) E.1 E.2.1 dX8_goesOn_207 ?_
      refine xp_X8_315 (pc := 208) (v := .int (((10 * (g8_number s)) + v9) - 48)) (ws' := (cells8 G ad (u8_number s (((10 * (g8_number s)) + v9) - 48)))) E hw 0 rfl rfl rfl (Nat.le_of_ble_eq_true rfl) rfl dX8_goesOn_208 (fun H locs hw => ?_)
      refine lv_aload_n (pc := 211) E.1 E.2.1 dX8_goesOn_211 rfl (lv_at hl 0 rfl) ?_
      refine lv_dup (pc := 212) E.1 E.2.1 dX8_goesOn_212 rfl ?_
      refine xg_X8_303 (pc := 213) (v := .int (g8_spot (u8_number s (((10 * (g8_number s)) + v9) - 48)))) E hw 0 rfl rfl dX8_goesOn_213 ?_
      refine lv_iconst (v := 1) (pc := 216) E.1 E.2.1 dX8_goesOn_216 (by decide) ?_
      refine lv_iadd (pc := 217) E.1 E.2.1 dX8_goesOn_217 ?_
      refine xp_X8_303 (pc := 218) (v := .int ((g8_spot (u8_number s (((10 * (g8_number s)) + v9) - 48))) + 1)) (ws' := (cells8 G ad (u8_spot (u8_number s (((10 * (g8_number s)) + v9) - 48)) ((g8_spot (u8_number s (((10 * (g8_number s)) + v9) - 48))) + 1)))) E hw 0 rfl rfl rfl (Nat.le_of_ble_eq_true rfl) rfl dX8_goesOn_218 (fun H locs hw => ?_)
      refine lv_goto (tgt := 165) (pc := 221) E.1 E.2.1 dX8_goesOn_221 (by decide) ?_
      exact hk165 (u8_spot (u8_number s (((10 * (g8_number s)) + v9) - 48)) ((g8_spot (u8_number s (((10 * (g8_number s)) + v9) - 48))) + 1)) x3 z hw (lv_sub hl [0, 1] rfl) hf
set_option maxHeartbeats 4000000 in
set_option maxRecDepth 100000 in
theorem wl_X8_goesOn_p165 {p : Program} {l : Launch} {e : Env} {sS : State} {m : MethodId} {args : Array Value} {below : List Frame} {meth : Method} {c : Code} {G : xG} {W0 : va_W} {ad : Nat → Nat}   (E : xE p sS m args c cX8_goesOn 5 RX8 G (x_in W0)) (hr : meth.sig.returnType = none) (hk : meth.locks = false)  : ∀ (s' : S8) (x3' : Int32) (z : S8) {H : Heap} {locs : List Loc} {ls : Array Slot}, xW G (x_in W0) sS.heap (cells8 G ad s') H locs → lv_has ls 5 [(0, .ref (ad 0)), (3, .int x3')] → lp_X8_goesOn_p165  s' x3' = some z → W p l e (rm_X8_goesOn) sS m args below meth c H locs 0 0 (MQ below (xQ G W0 (cells8 G ad z) none) args sS 0 0 (x_in W0)) (F0 m 165 ls []) := by
  intro s x3 z H locs ls hw hl hf
  exact x_loop_W (P := fun (q : S8 × Int32) (z : S8) => ∀ {H : Heap} {locs : List Loc} {ls : Array Slot}, xW G (x_in W0) sS.heap (cells8 G ad q.1) H locs → lv_has ls 5 [(0, .ref (ad 0)), (3, .int q.2)] → W p l e (rm_X8_goesOn) sS m args below meth c H locs 0 0 (MQ below (xQ G W0 (cells8 G ad z) none) args sS 0 0 (x_in W0)) (F0 m 165 ls [])) (fun k hkk q z hf H locs ls hw hl => w_X8_goesOn_p165 E hr hk  (fun s x3 z H locs ls hw hl hf => hkk (s, x3) z hf hw hl) q.1 q.2 z hw hl hf) FU (s, x3) z hf hw hl
set_option maxHeartbeats 4000000 in
set_option maxRecDepth 100000 in
theorem w_X8_goesOn_p105 {p : Program} {l : Launch} {e : Env} {sS : State} {m : MethodId} {args : Array Value} {below : List Frame} {meth : Method} {c : Code} {G : xG} {W0 : va_W} {ad : Nat → Nat}  {k105 : S8 → Int32 → Option (S8)} (E : xE p sS m args c cX8_goesOn 5 RX8 G (x_in W0)) (hr : meth.sig.returnType = none) (hk : meth.locks = false) (hk105 : ∀ (s' : S8) (x3' : Int32) (z : S8) {H : Heap} {locs : List Loc} {ls : Array Slot}, xW G (x_in W0) sS.heap (cells8 G ad s') H locs → lv_has ls 5 [(0, .ref (ad 0)), (3, .int x3')] → k105  s' x3' = some z → W p l e (rm_X8_goesOn) sS m args below meth c H locs 0 0 (MQ below (xQ G W0 (cells8 G ad z) none) args sS 0 0 (x_in W0)) (F0 m 105 ls [])) : ∀ (s' : S8) (x3' : Int32) (z : S8) {H : Heap} {locs : List Loc} {ls : Array Slot}, xW G (x_in W0) sS.heap (cells8 G ad s') H locs → lv_has ls 5 [(0, .ref (ad 0)), (3, .int x3')] → f_X8_goesOn_p105 k105 s' x3' = some z → W p l e (rm_X8_goesOn) sS m args below meth c H locs 0 0 (MQ below (xQ G W0 (cells8 G ad z) none) args sS 0 0 (x_in W0)) (F0 m 105 ls []) := by
  intro s x3 z H locs ls hw hl hf
  unfold f_X8_goesOn_p105 at hf
  refine lv_aload_n (pc := 105) E.1 E.2.1 dX8_goesOn_105 rfl (lv_at hl 0 rfl) ?_
  obtain ⟨v1, g2, hf⟩ := x_bind hf
  refine x_callVA (pc := 106) (As := []) (rest := []) (st1 := [.int v1]) (ws' := (cells8 G ad s)) E hw hl (c_X8_here l G ad s g2) xv_X8_309 xd_X8_here rfl rfl ⟨Nat.le_of_ble_eq_true rfl, Nat.le_of_ble_eq_true rfl⟩ (q0 := 0) rfl rfl rfl rfl (Nat.le_of_ble_eq_true rfl) rfl rfl dX8_goesOn_106 (fun H locs hw => ?_)
  refine lv_bipush (v := 97) (pc := 109) E.1 E.2.1 dX8_goesOn_109 (by decide) ?_
  refine lv_bipush (v := 122) (pc := 111) E.1 E.2.1 dX8_goesOn_111 (by decide) ?_
  obtain ⟨v3, g4, hf⟩ := x_bind hf
  refine x_callS0 (pc := 113) (As := [.int v1, .int 97, .int 122]) (rest := []) (st1 := [.int v3]) E hw hl (c_X8_in l G  v1 97 122 g4) xs_X8_84 xd_X8_in rfl rfl ⟨Nat.le_of_ble_eq_true rfl, Nat.le_of_ble_eq_true rfl⟩ rfl rfl (Nat.le_of_ble_eq_true rfl) rfl dX8_goesOn_113 (fun H locs hw => ?_)
  refine lv_if_eq (tgt := 132) (pc := 116) E.1 E.2.1 dX8_goesOn_116 (by decide) (fun q5 => ?_) (fun q5 => ?_)
  · have hf := x_pos q5 hf
    refine lv_aload_n (pc := 132) E.1 E.2.1 dX8_goesOn_132 rfl (lv_at hl 0 rfl) ?_
    refine lv_iload_n (pc := 133) E.1 E.2.1 dX8_goesOn_133 rfl (lv_at hl 1 rfl) ?_
    refine lv_if_eq (tgt := 141) (pc := 134) E.1 E.2.1 dX8_goesOn_134 (by decide) (fun q6 => ?_) (fun q6 => ?_)
    · have hf := x_pos q6 hf
      refine lv_iconst (v := 1) (pc := 141) E.1 E.2.1 dX8_goesOn_141 (by decide) ?_
      refine xp_X8_306 (pc := 142) (v := .int 1) (ws' := (cells8 G ad (u8_token s 1))) E hw 0 rfl rfl rfl (Nat.le_of_ble_eq_true rfl) rfl dX8_goesOn_142 (fun H locs hw => ?_)
      refine lv_goto (tgt := 279) (pc := 145) E.1 E.2.1 dX8_goesOn_145 (by decide) ?_
      obtain rfl := Option.some.inj hf
      exact x_retv (pc := 279) E hr hk hw dX8_goesOn_279
    · have hf := x_neg q6 hf
      refine lv_iconst (v := 4) (pc := 137) E.1 E.2.1 dX8_goesOn_137 (by decide) ?_
      refine lv_goto (tgt := 142) (pc := 138) E.1 E.2.1 dX8_goesOn_138 (by decide) ?_
      refine xp_X8_306 (pc := 142) (v := .int 4) (ws' := (cells8 G ad (u8_token s 4))) E hw 0 rfl rfl rfl (Nat.le_of_ble_eq_true rfl) rfl dX8_goesOn_142 (fun H locs hw => ?_)
      refine lv_goto (tgt := 279) (pc := 145) E.1 E.2.1 dX8_goesOn_145 (by decide) ?_
      obtain rfl := Option.some.inj hf
      exact x_retv (pc := 279) E hr hk hw dX8_goesOn_279
  · have hf := x_neg q5 hf
    refine lv_aload_n (pc := 119) E.1 E.2.1 dX8_goesOn_119 rfl (lv_at hl 0 rfl) ?_
    refine lv_dup (pc := 120) E.1 E.2.1 dX8_goesOn_120 rfl ?_
    refine xg_X8_303 (pc := 121) (v := .int (g8_spot s)) E hw 0 rfl rfl dX8_goesOn_121 ?_
    refine lv_iconst (v := 1) (pc := 124) E.1 E.2.1 dX8_goesOn_124 (by decide) ?_
    refine lv_iadd (pc := 125) E.1 E.2.1 dX8_goesOn_125 ?_
    refine xp_X8_303 (pc := 126) (v := .int ((g8_spot s) + 1)) (ws' := (cells8 G ad (u8_spot s ((g8_spot s) + 1)))) E hw 0 rfl rfl rfl (Nat.le_of_ble_eq_true rfl) rfl dX8_goesOn_126 (fun H locs hw => ?_)
    refine lv_goto (tgt := 105) (pc := 129) E.1 E.2.1 dX8_goesOn_129 (by decide) ?_
    exact hk105 (u8_spot s ((g8_spot s) + 1)) x3 z hw (lv_sub hl [0, 1] rfl) hf
set_option maxHeartbeats 4000000 in
set_option maxRecDepth 100000 in
theorem wl_X8_goesOn_p105 {p : Program} {l : Launch} {e : Env} {sS : State} {m : MethodId} {args : Array Value} {below : List Frame} {meth : Method} {c : Code} {G : xG} {W0 : va_W} {ad : Nat → Nat}   (E : xE p sS m args c cX8_goesOn 5 RX8 G (x_in W0)) (hr : meth.sig.returnType = none) (hk : meth.locks = false)  : ∀ (s' : S8) (x3' : Int32) (z : S8) {H : Heap} {locs : List Loc} {ls : Array Slot}, xW G (x_in W0) sS.heap (cells8 G ad s') H locs → lv_has ls 5 [(0, .ref (ad 0)), (3, .int x3')] → lp_X8_goesOn_p105  s' x3' = some z → W p l e (rm_X8_goesOn) sS m args below meth c H locs 0 0 (MQ below (xQ G W0 (cells8 G ad z) none) args sS 0 0 (x_in W0)) (F0 m 105 ls []) := by
  intro s x3 z H locs ls hw hl hf
  exact x_loop_W (P := fun (q : S8 × Int32) (z : S8) => ∀ {H : Heap} {locs : List Loc} {ls : Array Slot}, xW G (x_in W0) sS.heap (cells8 G ad q.1) H locs → lv_has ls 5 [(0, .ref (ad 0)), (3, .int q.2)] → W p l e (rm_X8_goesOn) sS m args below meth c H locs 0 0 (MQ below (xQ G W0 (cells8 G ad z) none) args sS 0 0 (x_in W0)) (F0 m 105 ls [])) (fun k hkk q z hf H locs ls hw hl => w_X8_goesOn_p105 E hr hk  (fun s x3 z H locs ls hw hl hf => hkk (s, x3) z hf hw hl) q.1 q.2 z hw hl hf) FU (s, x3) z hf hw hl
set_option maxHeartbeats 4000000 in
set_option maxRecDepth 100000 in
theorem w_X8_goesOn_p72 {p : Program} {l : Launch} {e : Env} {sS : State} {m : MethodId} {args : Array Value} {below : List Frame} {meth : Method} {c : Code} {G : xG} {W0 : va_W} {ad : Nat → Nat}   (E : xE p sS m args c cX8_goesOn 5 RX8 G (x_in W0)) (hr : meth.sig.returnType = none) (hk : meth.locks = false)  : ∀ (s' : S8) (y0' : Int32) (z : S8) {H : Heap} {locs : List Loc} {ls : Array Slot}, xW G (x_in W0) sS.heap (cells8 G ad s') H locs → lv_has ls 5 [(0, .ref (ad 0))] → f_X8_goesOn_p72  s' y0' = some z → W p l e (rm_X8_goesOn) sS m args below meth c H locs 0 0 (MQ below (xQ G W0 (cells8 G ad z) none) args sS 0 0 (x_in W0)) (F0 m 72 ls [.int y0']) := by
  intro s y0 z H locs ls hw hl hf
  unfold f_X8_goesOn_p72 at hf
  refine lv_istore_n (lv' := [(3, .int y0), (0, .ref (ad 0))]) (pc := 72) E.1 E.2.1 dX8_goesOn_72 rfl hl (by decide) rfl (fun ls hl => ?_)
  refine lv_aload_n (pc := 73) E.1 E.2.1 dX8_goesOn_73 rfl (lv_at hl 1 rfl) ?_
  obtain ⟨v1, g2, hf⟩ := x_bind hf
  refine x_callVA (pc := 74) (As := []) (rest := []) (st1 := [.int v1]) (ws' := (cells8 G ad s)) E hw hl (c_X8_here l G ad s g2) xv_X8_309 xd_X8_here rfl rfl ⟨Nat.le_of_ble_eq_true rfl, Nat.le_of_ble_eq_true rfl⟩ (q0 := 0) rfl rfl rfl rfl (Nat.le_of_ble_eq_true rfl) rfl rfl dX8_goesOn_74 (fun H locs hw => ?_)
  refine lv_istore (lv' := [(4, .int v1), (3, .int y0), (0, .ref (ad 0))]) (pc := 77) E.1 E.2.1 dX8_goesOn_77 hl (by decide) rfl (fun ls hl => ?_)
  refine lv_iload (pc := 79) E.1 E.2.1 dX8_goesOn_79 (lv_at hl 0 rfl) ?_
  refine lv_iconst (v := (-1)) (pc := 81) E.1 E.2.1 dX8_goesOn_81 (by decide) ?_
  refine lv_icmp_ne (tgt := 93) (pc := 82) E.1 E.2.1 dX8_goesOn_82 (by decide) (fun q3 => ?_) (fun q3 => ?_)
  · have hf := x_neg q3 hf
    refine lv_iload (pc := 93) E.1 E.2.1 dX8_goesOn_93 (lv_at hl 0 rfl) ?_
    refine lv_bipush (v := 97) (pc := 95) E.1 E.2.1 dX8_goesOn_95 (by decide) ?_
    refine lv_bipush (v := 122) (pc := 97) E.1 E.2.1 dX8_goesOn_97 (by decide) ?_
    obtain ⟨v4, g5, hf⟩ := x_bind hf
    refine x_callS0 (pc := 99) (As := [.int v1, .int 97, .int 122]) (rest := []) (st1 := [.int v4]) E hw hl (c_X8_in l G  v1 97 122 g5) xs_X8_84 xd_X8_in rfl rfl ⟨Nat.le_of_ble_eq_true rfl, Nat.le_of_ble_eq_true rfl⟩ rfl rfl (Nat.le_of_ble_eq_true rfl) rfl dX8_goesOn_99 (fun H locs hw => ?_)
    refine lv_if_eq (tgt := 148) (pc := 102) E.1 E.2.1 dX8_goesOn_102 (by decide) (fun q6 => ?_) (fun q6 => ?_)
    · have hf := x_pos q6 hf
      refine lv_iload (pc := 148) E.1 E.2.1 dX8_goesOn_148 (lv_at hl 0 rfl) ?_
      refine lv_bipush (v := 48) (pc := 150) E.1 E.2.1 dX8_goesOn_150 (by decide) ?_
      refine lv_bipush (v := 57) (pc := 152) E.1 E.2.1 dX8_goesOn_152 (by decide) ?_
      obtain ⟨v7, g8, hf⟩ := x_bind hf
      refine x_callS0 (pc := 154) (As := [.int v1, .int 48, .int 57]) (rest := []) (st1 := [.int v7]) E hw hl (c_X8_in l G  v1 48 57 g8) xs_X8_84 xd_X8_in rfl rfl ⟨Nat.le_of_ble_eq_true rfl, Nat.le_of_ble_eq_true rfl⟩ rfl rfl (Nat.le_of_ble_eq_true rfl) rfl dX8_goesOn_154 (fun H locs hw => ?_)
      refine lv_if_eq (tgt := 253) (pc := 157) E.1 E.2.1 dX8_goesOn_157 (by decide) (fun q9 => ?_) (fun q9 => ?_)
      · have hf := x_pos q9 hf
        refine lv_aload_n (pc := 253) E.1 E.2.1 dX8_goesOn_253 rfl (lv_at hl 2 rfl) ?_
        refine lv_dup (pc := 254) E.1 E.2.1 dX8_goesOn_254 rfl ?_
        refine xg_X8_303 (pc := 255) (v := .int (g8_spot s)) E hw 0 rfl rfl dX8_goesOn_255 ?_
        refine lv_iconst (v := 1) (pc := 258) E.1 E.2.1 dX8_goesOn_258 (by decide) ?_
        refine lv_iadd (pc := 259) E.1 E.2.1 dX8_goesOn_259 ?_
        refine xp_X8_303 (pc := 260) (v := .int ((g8_spot s) + 1)) (ws' := (cells8 G ad (u8_spot s ((g8_spot s) + 1)))) E hw 0 rfl rfl rfl (Nat.le_of_ble_eq_true rfl) rfl dX8_goesOn_260 (fun H locs hw => ?_)
        refine lv_aload_n (pc := 263) E.1 E.2.1 dX8_goesOn_263 rfl (lv_at hl 2 rfl) ?_
        refine lv_iload (pc := 264) E.1 E.2.1 dX8_goesOn_264 (lv_at hl 0 rfl) ?_
        refine lv_bipush (v := 59) (pc := 266) E.1 E.2.1 dX8_goesOn_266 (by decide) ?_
        refine lv_icmp_ne (tgt := 275) (pc := 268) E.1 E.2.1 dX8_goesOn_268 (by decide) (fun q10 => ?_) (fun q10 => ?_)
        · have hf := x_neg q10 hf
          refine lv_iconst (v := 4) (pc := 275) E.1 E.2.1 dX8_goesOn_275 (by decide) ?_
          refine xp_X8_306 (pc := 276) (v := .int 4) (ws' := (cells8 G ad (u8_token (u8_spot s ((g8_spot s) + 1)) 4))) E hw 0 rfl rfl rfl (Nat.le_of_ble_eq_true rfl) rfl dX8_goesOn_276 (fun H locs hw => ?_)
          obtain rfl := Option.some.inj hf
          exact x_retv (pc := 279) E hr hk hw dX8_goesOn_279
        · have hf := x_pos q10 hf
          refine lv_iconst (v := 3) (pc := 271) E.1 E.2.1 dX8_goesOn_271 (by decide) ?_
          refine lv_goto (tgt := 276) (pc := 272) E.1 E.2.1 dX8_goesOn_272 (by decide) ?_
          refine xp_X8_306 (pc := 276) (v := .int 3) (ws' := (cells8 G ad (u8_token (u8_spot s ((g8_spot s) + 1)) 3))) E hw 0 rfl rfl rfl (Nat.le_of_ble_eq_true rfl) rfl dX8_goesOn_276 (fun H locs hw => ?_)
          obtain rfl := Option.some.inj hf
          exact x_retv (pc := 279) E hr hk hw dX8_goesOn_279
      · have hf := x_neg q9 hf
        refine lv_aload_n (pc := 160) E.1 E.2.1 dX8_goesOn_160 rfl (lv_at hl 2 rfl) ?_
        refine lv_iconst (v := 0) (pc := 161) E.1 E.2.1 dX8_goesOn_161 (by decide) ?_
        refine xp_X8_315 (pc := 162) (v := .int 0) (ws' := (cells8 G ad (u8_number s 0))) E hw 0 rfl rfl rfl (Nat.le_of_ble_eq_true rfl) rfl dX8_goesOn_162 (fun H locs hw => ?_)
        exact wl_X8_goesOn_p165 E hr hk  (u8_number s 0) y0 z hw (lv_sub hl [2, 1] rfl) hf
    · have hf := x_neg q6 hf
      exact wl_X8_goesOn_p105 E hr hk  s y0 z hw (lv_sub hl [2, 1] rfl) hf
  · have hf := x_pos q3 hf
    refine lv_aload_n (pc := 85) E.1 E.2.1 dX8_goesOn_85 rfl (lv_at hl 2 rfl) ?_
    refine lv_iconst (v := 0) (pc := 86) E.1 E.2.1 dX8_goesOn_86 (by decide) ?_
    refine xp_X8_306 (pc := 87) (v := .int 0) (ws' := (cells8 G ad (u8_token s 0))) E hw 0 rfl rfl rfl (Nat.le_of_ble_eq_true rfl) rfl dX8_goesOn_87 (fun H locs hw => ?_)
    refine lv_goto (tgt := 279) (pc := 90) E.1 E.2.1 dX8_goesOn_90 (by decide) ?_
    obtain rfl := Option.some.inj hf
    exact x_retv (pc := 279) E hr hk hw dX8_goesOn_279
set_option maxHeartbeats 4000000 in
set_option maxRecDepth 100000 in
theorem w_X8_goesOn_p71 {p : Program} {l : Launch} {e : Env} {sS : State} {m : MethodId} {args : Array Value} {below : List Frame} {meth : Method} {c : Code} {G : xG} {W0 : va_W} {ad : Nat → Nat}   (E : xE p sS m args c cX8_goesOn 5 RX8 G (x_in W0)) (hr : meth.sig.returnType = none) (hk : meth.locks = false)  : ∀ (s' : S8) (z : S8) {H : Heap} {locs : List Loc} {ls : Array Slot}, xW G (x_in W0) sS.heap (cells8 G ad s') H locs → lv_has ls 5 [(0, .ref (ad 0))] → f_X8_goesOn_p71  s' = some z → W p l e (rm_X8_goesOn) sS m args below meth c H locs 0 0 (MQ below (xQ G W0 (cells8 G ad z) none) args sS 0 0 (x_in W0)) (F0 m 71 ls []) := by
  intro s z H locs ls hw hl hf
  unfold f_X8_goesOn_p71 at hf
  refine lv_iconst (v := 0) (pc := 71) E.1 E.2.1 dX8_goesOn_71 (by decide) ?_
  exact w_X8_goesOn_p72 E hr hk  s 0 z hw (lv_sub hl [0] rfl) hf
set_option maxHeartbeats 4000000 in
set_option maxRecDepth 100000 in
theorem w_X8_goesOn_p67 {p : Program} {l : Launch} {e : Env} {sS : State} {m : MethodId} {args : Array Value} {below : List Frame} {meth : Method} {c : Code} {G : xG} {W0 : va_W} {ad : Nat → Nat}   (E : xE p sS m args c cX8_goesOn 5 RX8 G (x_in W0)) (hr : meth.sig.returnType = none) (hk : meth.locks = false)  : ∀ (s' : S8) (z : S8) {H : Heap} {locs : List Loc} {ls : Array Slot}, xW G (x_in W0) sS.heap (cells8 G ad s') H locs → lv_has ls 5 [(0, .ref (ad 0))] → f_X8_goesOn_p67  s' = some z → W p l e (rm_X8_goesOn) sS m args below meth c H locs 0 0 (MQ below (xQ G W0 (cells8 G ad z) none) args sS 0 0 (x_in W0)) (F0 m 67 ls []) := by
  intro s z H locs ls hw hl hf
  unfold f_X8_goesOn_p67 at hf
  refine lv_iconst (v := 1) (pc := 67) E.1 E.2.1 dX8_goesOn_67 (by decide) ?_
  refine lv_goto (tgt := 72) (pc := 68) E.1 E.2.1 dX8_goesOn_68 (by decide) ?_
  exact w_X8_goesOn_p72 E hr hk  s 1 z hw (lv_sub hl [0] rfl) hf
set_option maxHeartbeats 4000000 in
set_option maxRecDepth 100000 in
theorem w_X8_goesOn_p10 {p : Program} {l : Launch} {e : Env} {sS : State} {m : MethodId} {args : Array Value} {below : List Frame} {meth : Method} {c : Code} {G : xG} {W0 : va_W} {ad : Nat → Nat}  {k10 : S8 → Int32 → Int32 → Option (S8)} (E : xE p sS m args c cX8_goesOn 5 RX8 G (x_in W0)) (hr : meth.sig.returnType = none) (hk : meth.locks = false) (hk10 : ∀ (s' : S8) (x1' : Int32) (x2' : Int32) (z : S8) {H : Heap} {locs : List Loc} {ls : Array Slot}, xW G (x_in W0) sS.heap (cells8 G ad s') H locs → lv_has ls 5 [(0, .ref (ad 0)), (1, .int x1'), (2, .int x2')] → k10  s' x1' x2' = some z → W p l e (rm_X8_goesOn) sS m args below meth c H locs 0 0 (MQ below (xQ G W0 (cells8 G ad z) none) args sS 0 0 (x_in W0)) (F0 m 10 ls [])) : ∀ (s' : S8) (x1' : Int32) (x2' : Int32) (z : S8) {H : Heap} {locs : List Loc} {ls : Array Slot}, xW G (x_in W0) sS.heap (cells8 G ad s') H locs → lv_has ls 5 [(0, .ref (ad 0)), (1, .int x1'), (2, .int x2')] → f_X8_goesOn_p10 k10 s' x1' x2' = some z → W p l e (rm_X8_goesOn) sS m args below meth c H locs 0 0 (MQ below (xQ G W0 (cells8 G ad z) none) args sS 0 0 (x_in W0)) (F0 m 10 ls []) := by
  intro s x1 x2 z H locs ls hw hl hf
  unfold f_X8_goesOn_p10 at hf
  refine lv_aload_n (pc := 10) E.1 E.2.1 dX8_goesOn_10 rfl (lv_at hl 0 rfl) ?_
  obtain ⟨v1, g2, hf⟩ := x_bind hf
  refine x_callVA (pc := 11) (As := []) (rest := []) (st1 := [.int v1]) (ws' := (cells8 G ad s)) E hw hl (c_X8_here l G ad s g2) xv_X8_309 xd_X8_here rfl rfl ⟨Nat.le_of_ble_eq_true rfl, Nat.le_of_ble_eq_true rfl⟩ (q0 := 0) rfl rfl rfl rfl (Nat.le_of_ble_eq_true rfl) rfl rfl dX8_goesOn_11 (fun H locs hw => ?_)
  refine lv_bipush (v := 32) (pc := 14) E.1 E.2.1 dX8_goesOn_14 (by decide) ?_
  refine lv_icmp_eq (tgt := 28) (pc := 16) E.1 E.2.1 dX8_goesOn_16 (by decide) (fun q3 => ?_) (fun q3 => ?_)
  · have hf := x_pos q3 hf
    refine lv_aload_n (pc := 28) E.1 E.2.1 dX8_goesOn_28 rfl (lv_at hl 0 rfl) ?_
    refine lv_dup (pc := 29) E.1 E.2.1 dX8_goesOn_29 rfl ?_
    refine xg_X8_303 (pc := 30) (v := .int (g8_spot s)) E hw 0 rfl rfl dX8_goesOn_30 ?_
    refine lv_iconst (v := 1) (pc := 33) E.1 E.2.1 dX8_goesOn_33 (by decide) ?_
    refine lv_iadd (pc := 34) E.1 E.2.1 dX8_goesOn_34 ?_
    refine xp_X8_303 (pc := 35) (v := .int ((g8_spot s) + 1)) (ws' := (cells8 G ad (u8_spot s ((g8_spot s) + 1)))) E hw 0 rfl rfl rfl (Nat.le_of_ble_eq_true rfl) rfl dX8_goesOn_35 (fun H locs hw => ?_)
    refine lv_goto (tgt := 10) (pc := 38) E.1 E.2.1 dX8_goesOn_38 (by decide) ?_
    exact hk10 (u8_spot s ((g8_spot s) + 1)) x1 x2 z hw (lv_sub hl [0, 1, 2] rfl) hf
  · have hf := x_neg q3 hf
    refine lv_aload_n (pc := 19) E.1 E.2.1 dX8_goesOn_19 rfl (lv_at hl 0 rfl) ?_
    obtain ⟨v4, g5, hf⟩ := x_bind hf
    refine x_callVA (pc := 20) (As := []) (rest := []) (st1 := [.int v4]) (ws' := (cells8 G ad s)) E hw hl (c_X8_here l G ad s g5) xv_X8_309 xd_X8_here rfl rfl ⟨Nat.le_of_ble_eq_true rfl, Nat.le_of_ble_eq_true rfl⟩ (q0 := 0) rfl rfl rfl rfl (Nat.le_of_ble_eq_true rfl) rfl rfl dX8_goesOn_20 (fun H locs hw => ?_)
    refine lv_bipush (v := 10) (pc := 23) E.1 E.2.1 dX8_goesOn_23 (by decide) ?_
    refine lv_icmp_ne (tgt := 41) (pc := 25) E.1 E.2.1 dX8_goesOn_25 (by decide) (fun q6 => ?_) (fun q6 => ?_)
    · have hf := x_neg q6 hf
      refine lv_aload_n (pc := 41) E.1 E.2.1 dX8_goesOn_41 rfl (lv_at hl 0 rfl) ?_
      refine lv_aload_n (pc := 42) E.1 E.2.1 dX8_goesOn_42 rfl (lv_at hl 0 rfl) ?_
      refine xg_X8_303 (pc := 43) (v := .int (g8_spot s)) E hw 0 rfl rfl dX8_goesOn_43 ?_
      refine xp_X8_312 (pc := 46) (v := .int (g8_spot s)) (ws' := (cells8 G ad (u8_begun s (g8_spot s)))) E hw 0 rfl rfl rfl (Nat.le_of_ble_eq_true rfl) rfl dX8_goesOn_46 (fun H locs hw => ?_)
      refine lv_aload_n (pc := 49) E.1 E.2.1 dX8_goesOn_49 rfl (lv_at hl 0 rfl) ?_
      refine xg_X8_312 (pc := 50) (v := .int (g8_begun (u8_begun s (g8_spot s)))) E hw 0 rfl rfl dX8_goesOn_50 ?_
      refine lv_iload_n (pc := 53) E.1 E.2.1 dX8_goesOn_53 rfl (lv_at hl 2 rfl) ?_
      refine lv_icmp_ne (tgt := 71) (pc := 54) E.1 E.2.1 dX8_goesOn_54 (by decide) (fun q7 => ?_) (fun q7 => ?_)
      · have hf := x_neg q7 hf
        exact w_X8_goesOn_p71 E hr hk  (u8_begun s (g8_spot s)) z hw (lv_sub hl [0] rfl) hf
      · have hf := x_pos q7 hf
        refine lv_iload_n (pc := 57) E.1 E.2.1 dX8_goesOn_57 rfl (lv_at hl 1 rfl) ?_
        refine lv_iconst (v := 1) (pc := 58) E.1 E.2.1 dX8_goesOn_58 (by decide) ?_
        refine lv_icmp_eq (tgt := 67) (pc := 59) E.1 E.2.1 dX8_goesOn_59 (by decide) (fun q8 => ?_) (fun q8 => ?_)
        · have hf := x_pos q8 hf
          exact w_X8_goesOn_p67 E hr hk  (u8_begun s (g8_spot s)) z hw (lv_sub hl [0] rfl) hf
        · have hf := x_neg q8 hf
          refine lv_iload_n (pc := 62) E.1 E.2.1 dX8_goesOn_62 rfl (lv_at hl 1 rfl) ?_
          refine lv_iconst (v := 2) (pc := 63) E.1 E.2.1 dX8_goesOn_63 (by decide) ?_
          refine lv_icmp_ne (tgt := 71) (pc := 64) E.1 E.2.1 dX8_goesOn_64 (by decide) (fun q9 => ?_) (fun q9 => ?_)
          · have hf := x_neg q9 hf
            exact w_X8_goesOn_p71 E hr hk  (u8_begun s (g8_spot s)) z hw (lv_sub hl [0] rfl) hf
          · have hf := x_pos q9 hf
            exact w_X8_goesOn_p67 E hr hk  (u8_begun s (g8_spot s)) z hw (lv_sub hl [0] rfl) hf
    · have hf := x_pos q6 hf
      refine lv_aload_n (pc := 28) E.1 E.2.1 dX8_goesOn_28 rfl (lv_at hl 0 rfl) ?_
      refine lv_dup (pc := 29) E.1 E.2.1 dX8_goesOn_29 rfl ?_
      refine xg_X8_303 (pc := 30) (v := .int (g8_spot s)) E hw 0 rfl rfl dX8_goesOn_30 ?_
      refine lv_iconst (v := 1) (pc := 33) E.1 E.2.1 dX8_goesOn_33 (by decide) ?_
      refine lv_iadd (pc := 34) E.1 E.2.1 dX8_goesOn_34 ?_
      refine xp_X8_303 (pc := 35) (v := .int ((g8_spot s) + 1)) (ws' := (cells8 G ad (u8_spot s ((g8_spot s) + 1)))) E hw 0 rfl rfl rfl (Nat.le_of_ble_eq_true rfl) rfl dX8_goesOn_35 (fun H locs hw => ?_)
      refine lv_goto (tgt := 10) (pc := 38) E.1 E.2.1 dX8_goesOn_38 (by decide) ?_
      exact hk10 (u8_spot s ((g8_spot s) + 1)) x1 x2 z hw (lv_sub hl [0, 1, 2] rfl) hf
set_option maxHeartbeats 4000000 in
set_option maxRecDepth 100000 in
theorem wl_X8_goesOn_p10 {p : Program} {l : Launch} {e : Env} {sS : State} {m : MethodId} {args : Array Value} {below : List Frame} {meth : Method} {c : Code} {G : xG} {W0 : va_W} {ad : Nat → Nat}   (E : xE p sS m args c cX8_goesOn 5 RX8 G (x_in W0)) (hr : meth.sig.returnType = none) (hk : meth.locks = false)  : ∀ (s' : S8) (x1' : Int32) (x2' : Int32) (z : S8) {H : Heap} {locs : List Loc} {ls : Array Slot}, xW G (x_in W0) sS.heap (cells8 G ad s') H locs → lv_has ls 5 [(0, .ref (ad 0)), (1, .int x1'), (2, .int x2')] → lp_X8_goesOn_p10  s' x1' x2' = some z → W p l e (rm_X8_goesOn) sS m args below meth c H locs 0 0 (MQ below (xQ G W0 (cells8 G ad z) none) args sS 0 0 (x_in W0)) (F0 m 10 ls []) := by
  intro s x1 x2 z H locs ls hw hl hf
  exact x_loop_W (P := fun (q : S8 × Int32 × Int32) (z : S8) => ∀ {H : Heap} {locs : List Loc} {ls : Array Slot}, xW G (x_in W0) sS.heap (cells8 G ad q.1) H locs → lv_has ls 5 [(0, .ref (ad 0)), (1, .int q.2.1), (2, .int q.2.2)] → W p l e (rm_X8_goesOn) sS m args below meth c H locs 0 0 (MQ below (xQ G W0 (cells8 G ad z) none) args sS 0 0 (x_in W0)) (F0 m 10 ls [])) (fun k hkk q z hf H locs ls hw hl => w_X8_goesOn_p10 E hr hk  (fun s x1 x2 z H locs ls hw hl hf => hkk (s, x1, x2) z hf hw hl) q.1 q.2.1 q.2.2 z hw hl hf) FU (s, x1, x2) z hf hw hl
set_option maxHeartbeats 4000000 in
set_option maxRecDepth 100000 in
theorem w_X8_goesOn_p0 {p : Program} {l : Launch} {e : Env} {sS : State} {m : MethodId} {args : Array Value} {below : List Frame} {meth : Method} {c : Code} {G : xG} {W0 : va_W} {ad : Nat → Nat}   (E : xE p sS m args c cX8_goesOn 5 RX8 G (x_in W0)) (hr : meth.sig.returnType = none) (hk : meth.locks = false)  : ∀ (s' : S8) (z : S8) {H : Heap} {locs : List Loc} {ls : Array Slot}, xW G (x_in W0) sS.heap (cells8 G ad s') H locs → lv_has ls 5 [(0, .ref (ad 0))] → f_X8_goesOn  s' = some z → W p l e (rm_X8_goesOn) sS m args below meth c H locs 0 0 (MQ below (xQ G W0 (cells8 G ad z) none) args sS 0 0 (x_in W0)) (F0 m 0 ls []) := by
  intro s z H locs ls hw hl hf
  unfold f_X8_goesOn at hf
  refine lv_aload_n (pc := 0) E.1 E.2.1 dX8_goesOn_0 rfl (lv_at hl 0 rfl) ?_
  refine xg_X8_306 (pc := 1) (v := .int (g8_token s)) E hw 0 rfl rfl dX8_goesOn_1 ?_
  refine lv_istore_n (lv' := [(1, .int (g8_token s)), (0, .ref (ad 0))]) (pc := 4) E.1 E.2.1 dX8_goesOn_4 rfl hl (by decide) rfl (fun ls hl => ?_)
  refine lv_aload_n (pc := 5) E.1 E.2.1 dX8_goesOn_5 rfl (lv_at hl 1 rfl) ?_
  refine xg_X8_303 (pc := 6) (v := .int (g8_spot s)) E hw 0 rfl rfl dX8_goesOn_6 ?_
  refine lv_istore_n (lv' := [(2, .int (g8_spot s)), (1, .int (g8_token s)), (0, .ref (ad 0))]) (pc := 9) E.1 E.2.1 dX8_goesOn_9 rfl hl (by decide) rfl (fun ls hl => ?_)
  exact wl_X8_goesOn_p10 E hr hk  s (g8_token s) (g8_spot s) z hw (lv_sub hl [2, 1, 0] rfl) hf
set_option maxHeartbeats 4000000 in
set_option maxRecDepth 100000 in
theorem c_X8_goesOn (l : Launch) (G : xG) (ad : Nat → Nat) (s : S8) {z : S8} (hf : f_X8_goesOn s = some z) : xC l yX8_goesOn cX8_goesOn 5 none (rm_X8_goesOn) G [.ref (ad 0)] (cells8 G ad s) none (cells8 G ad z) :=
  x_met (by decide) (Nat.le_of_ble_eq_true rfl) (fun p e sS m below meth c E hr hk ls hl hw => w_X8_goesOn_p0 E hr hk s z hw hl hf)
set_option maxHeartbeats 4000000 in
set_option maxRecDepth 100000 in
theorem w_X8_takesWord_p66 {p : Program} {l : Launch} {e : Env} {sS : State} {m : MethodId} {args : Array Value} {below : List Frame} {meth : Method} {c : Code} {G : xG} {W0 : va_W} {ad : Nat → Nat}   (E : xE p sS m args c cX8_takesWord 4 RX8 G (x_in W0)) (hr : meth.sig.returnType = (some .boolean)) (hk : meth.locks = false)  : ∀ (s' : S8) (x2' : Int32) (x3' : Int32) (z : Int32 × S8) {H : Heap} {locs : List Loc} {ls : Array Slot}, xW G (x_in W0) sS.heap (cells8 G ad s') H locs → lv_has ls 4 [(0, .ref (ad 0)), (2, .int x2'), (3, .int x3')] → f_X8_takesWord_p66  s' x2' x3' = some z → W p l e (rm_X8_takesWord) sS m args below meth c H locs 0 0 (MQ below (xQ G W0 (cells8 G ad z.2) (some (.int z.1))) args sS 0 0 (x_in W0)) (F0 m 66 ls []) := by
  intro s x2 x3 z H locs ls hw hl hf
  unfold f_X8_takesWord_p66 at hf
  refine lv_aload_n (pc := 66) E.1 E.2.1 dX8_takesWord_66 rfl (lv_at hl 0 rfl) ?_
  refine xg_X8_312 (pc := 67) (v := .int (g8_begun s)) E hw 0 rfl rfl dX8_takesWord_67 ?_
  refine lv_iload_n (pc := 70) E.1 E.2.1 dX8_takesWord_70 rfl (lv_at hl 2 rfl) ?_
  refine lv_iadd (pc := 71) E.1 E.2.1 dX8_takesWord_71 ?_
  refine lv_aload_n (pc := 72) E.1 E.2.1 dX8_takesWord_72 rfl (lv_at hl 0 rfl) ?_
  refine xg_X8_303 (pc := 73) (v := .int (g8_spot s)) E hw 0 rfl rfl dX8_takesWord_73 ?_
  refine lv_icmp_ne (tgt := 90) (pc := 76) E.1 E.2.1 dX8_takesWord_76 (by decide) (fun q1 => ?_) (fun q1 => ?_)
  · have hf := x_neg q1 hf
    refine lv_iconst (v := 0) (pc := 90) E.1 E.2.1 dX8_takesWord_90 (by decide) ?_
    obtain rfl := Option.some.inj hf
    exact x_retz (pc := 91) (v := 0) (r := 0) E hr hk hw (by decide) dX8_takesWord_91
  · have hf := x_pos q1 hf
    refine lv_aload_n (pc := 79) E.1 E.2.1 dX8_takesWord_79 rfl (lv_at hl 0 rfl) ?_
    refine xg_X8_69 (pc := 80) (v := .ref (ad 19)) E hw 0 rfl rfl dX8_takesWord_80 ?_
    refine lv_iload_n (pc := 83) E.1 E.2.1 dX8_takesWord_83 rfl (lv_at hl 1 rfl) ?_
    refine lv_iload_n (pc := 84) E.1 E.2.1 dX8_takesWord_84 rfl (lv_at hl 2 rfl) ?_
    refine lv_iadd (pc := 85) E.1 E.2.1 dX8_takesWord_85 ?_
    obtain ⟨v3, g2, hf⟩ := x_bind hf
    refine x_bald (pc := 86) E hw 19 rfl g2 dX8_takesWord_86 ?_
    refine lv_if_eq (tgt := 92) (pc := 87) E.1 E.2.1 dX8_takesWord_87 (by decide) (fun q4 => ?_) (fun q4 => ?_)
    · have hf := x_pos q4 hf
      refine lv_aload_n (pc := 92) E.1 E.2.1 dX8_takesWord_92 rfl (lv_at hl 0 rfl) ?_
      obtain ⟨v5, g6, hf⟩ := x_bind hf
      refine x_callVA (pc := 93) (As := []) (rest := []) (st1 := []) (ws' := (cells8 G ad v5)) E hw hl (c_X8_goesOn l G ad s g6) xv_X8_322 xd_X8_goesOn rfl rfl ⟨Nat.le_of_ble_eq_true rfl, Nat.le_of_ble_eq_true rfl⟩ (q0 := 0) rfl rfl rfl rfl (Nat.le_of_ble_eq_true rfl) rfl rfl dX8_takesWord_93 (fun H locs hw => ?_)
      refine lv_iconst (v := 1) (pc := 96) E.1 E.2.1 dX8_takesWord_96 (by decide) ?_
      obtain rfl := Option.some.inj hf
      exact x_retz (pc := 97) (v := 1) (r := 1) E hr hk hw (by decide) dX8_takesWord_97
    · have hf := x_neg q4 hf
      refine lv_iconst (v := 0) (pc := 90) E.1 E.2.1 dX8_takesWord_90 (by decide) ?_
      obtain rfl := Option.some.inj hf
      exact x_retz (pc := 91) (v := 0) (r := 0) E hr hk hw (by decide) dX8_takesWord_91
set_option maxHeartbeats 4000000 in
set_option maxRecDepth 100000 in
theorem w_X8_takesWord_p25 {p : Program} {l : Launch} {e : Env} {sS : State} {m : MethodId} {args : Array Value} {below : List Frame} {meth : Method} {c : Code} {G : xG} {W0 : va_W} {ad : Nat → Nat}  {k25 : S8 → Int32 → Int32 → Option (Int32 × S8)} (E : xE p sS m args c cX8_takesWord 4 RX8 G (x_in W0)) (hr : meth.sig.returnType = (some .boolean)) (hk : meth.locks = false) (hk25 : ∀ (s' : S8) (x2' : Int32) (x3' : Int32) (z : Int32 × S8) {H : Heap} {locs : List Loc} {ls : Array Slot}, xW G (x_in W0) sS.heap (cells8 G ad s') H locs → lv_has ls 4 [(0, .ref (ad 0)), (2, .int x2'), (3, .int x3')] → k25  s' x2' x3' = some z → W p l e (rm_X8_takesWord) sS m args below meth c H locs 0 0 (MQ below (xQ G W0 (cells8 G ad z.2) (some (.int z.1))) args sS 0 0 (x_in W0)) (F0 m 25 ls [])) : ∀ (s' : S8) (x2' : Int32) (x3' : Int32) (z : Int32 × S8) {H : Heap} {locs : List Loc} {ls : Array Slot}, xW G (x_in W0) sS.heap (cells8 G ad s') H locs → lv_has ls 4 [(0, .ref (ad 0)), (2, .int x2'), (3, .int x3')] → f_X8_takesWord_p25 k25 s' x2' x3' = some z → W p l e (rm_X8_takesWord) sS m args below meth c H locs 0 0 (MQ below (xQ G W0 (cells8 G ad z.2) (some (.int z.1))) args sS 0 0 (x_in W0)) (F0 m 25 ls []) := by
  intro s x2 x3 z H locs ls hw hl hf
  unfold f_X8_takesWord_p25 at hf
  refine lv_aload_n (pc := 25) E.1 E.2.1 dX8_takesWord_25 rfl (lv_at hl 0 rfl) ?_
  refine xg_X8_312 (pc := 26) (v := .int (g8_begun s)) E hw 0 rfl rfl dX8_takesWord_26 ?_
  refine lv_iload_n (pc := 29) E.1 E.2.1 dX8_takesWord_29 rfl (lv_at hl 2 rfl) ?_
  refine lv_iadd (pc := 30) E.1 E.2.1 dX8_takesWord_30 ?_
  refine lv_aload_n (pc := 31) E.1 E.2.1 dX8_takesWord_31 rfl (lv_at hl 0 rfl) ?_
  refine xg_X8_303 (pc := 32) (v := .int (g8_spot s)) E hw 0 rfl rfl dX8_takesWord_32 ?_
  refine lv_icmp_ge (tgt := 66) (pc := 35) E.1 E.2.1 dX8_takesWord_35 (by decide) (fun q1 => ?_) (fun q1 => ?_)
  · have hf := x_pos q1 hf
    exact w_X8_takesWord_p66 E hr hk  s x2 x3 z hw (lv_sub hl [0, 1, 2] rfl) hf
  · have hf := x_neg q1 hf
    refine lv_aload_n (pc := 38) E.1 E.2.1 dX8_takesWord_38 rfl (lv_at hl 0 rfl) ?_
    refine xg_X8_69 (pc := 39) (v := .ref (ad 19)) E hw 0 rfl rfl dX8_takesWord_39 ?_
    refine lv_iload_n (pc := 42) E.1 E.2.1 dX8_takesWord_42 rfl (lv_at hl 1 rfl) ?_
    refine lv_iload_n (pc := 43) E.1 E.2.1 dX8_takesWord_43 rfl (lv_at hl 2 rfl) ?_
    refine lv_iadd (pc := 44) E.1 E.2.1 dX8_takesWord_44 ?_
    obtain ⟨v3, g2, hf⟩ := x_bind hf
    refine x_bald (pc := 45) E hw 19 rfl g2 dX8_takesWord_45 ?_
    refine lv_aload_n (pc := 46) E.1 E.2.1 dX8_takesWord_46 rfl (lv_at hl 0 rfl) ?_
    refine xg_X8_66 (pc := 47) (v := .ref (ad 18)) E hw 0 rfl rfl dX8_takesWord_47 ?_
    refine lv_aload_n (pc := 50) E.1 E.2.1 dX8_takesWord_50 rfl (lv_at hl 0 rfl) ?_
    refine xg_X8_312 (pc := 51) (v := .int (g8_begun s)) E hw 0 rfl rfl dX8_takesWord_51 ?_
    refine lv_iload_n (pc := 54) E.1 E.2.1 dX8_takesWord_54 rfl (lv_at hl 2 rfl) ?_
    refine lv_iadd (pc := 55) E.1 E.2.1 dX8_takesWord_55 ?_
    obtain ⟨v5, g4, hf⟩ := x_bind hf
    refine x_iald (pc := 56) E hw 18 rfl g4 dX8_takesWord_56 ?_
    refine lv_icmp_ne (tgt := 66) (pc := 57) E.1 E.2.1 dX8_takesWord_57 (by decide) (fun q6 => ?_) (fun q6 => ?_)
    · have hf := x_neg q6 hf
      exact w_X8_takesWord_p66 E hr hk  s x2 x3 z hw (lv_sub hl [0, 1, 2] rfl) hf
    · have hf := x_pos q6 hf
      refine lv_iinc (v := (x3 + 1)) (lv' := [(3, .int (x3 + 1)), (0, .ref (ad 0)), (2, .int x2)]) (pc := 60) E.1 E.2.1 dX8_takesWord_60 hl (k := 2) rfl rfl (by decide) rfl (fun ls hl => ?_)
      refine lv_goto (tgt := 25) (pc := 63) E.1 E.2.1 dX8_takesWord_63 (by decide) ?_
      exact hk25 s x2 (x3 + 1) z hw (lv_sub hl [1, 2, 0] rfl) hf
set_option maxHeartbeats 4000000 in
set_option maxRecDepth 100000 in
theorem wl_X8_takesWord_p25 {p : Program} {l : Launch} {e : Env} {sS : State} {m : MethodId} {args : Array Value} {below : List Frame} {meth : Method} {c : Code} {G : xG} {W0 : va_W} {ad : Nat → Nat}   (E : xE p sS m args c cX8_takesWord 4 RX8 G (x_in W0)) (hr : meth.sig.returnType = (some .boolean)) (hk : meth.locks = false)  : ∀ (s' : S8) (x2' : Int32) (x3' : Int32) (z : Int32 × S8) {H : Heap} {locs : List Loc} {ls : Array Slot}, xW G (x_in W0) sS.heap (cells8 G ad s') H locs → lv_has ls 4 [(0, .ref (ad 0)), (2, .int x2'), (3, .int x3')] → lp_X8_takesWord_p25  s' x2' x3' = some z → W p l e (rm_X8_takesWord) sS m args below meth c H locs 0 0 (MQ below (xQ G W0 (cells8 G ad z.2) (some (.int z.1))) args sS 0 0 (x_in W0)) (F0 m 25 ls []) := by
  intro s x2 x3 z H locs ls hw hl hf
  exact x_loop_W (P := fun (q : S8 × Int32 × Int32) (z : Int32 × S8) => ∀ {H : Heap} {locs : List Loc} {ls : Array Slot}, xW G (x_in W0) sS.heap (cells8 G ad q.1) H locs → lv_has ls 4 [(0, .ref (ad 0)), (2, .int q.2.1), (3, .int q.2.2)] → W p l e (rm_X8_takesWord) sS m args below meth c H locs 0 0 (MQ below (xQ G W0 (cells8 G ad z.2) (some (.int z.1))) args sS 0 0 (x_in W0)) (F0 m 25 ls [])) (fun k hkk q z hf H locs ls hw hl => w_X8_takesWord_p25 E hr hk  (fun s x2 x3 z H locs ls hw hl hf => hkk (s, x2, x3) z hf hw hl) q.1 q.2.1 q.2.2 z hw hl hf) FU (s, x2, x3) z hf hw hl
set_option maxHeartbeats 4000000 in
set_option maxRecDepth 100000 in
theorem w_X8_takesWord_p0 {p : Program} {l : Launch} {e : Env} {sS : State} {m : MethodId} {args : Array Value} {below : List Frame} {meth : Method} {c : Code} {G : xG} {W0 : va_W} {ad : Nat → Nat}   (E : xE p sS m args c cX8_takesWord 4 RX8 G (x_in W0)) (hr : meth.sig.returnType = (some .boolean)) (hk : meth.locks = false)  : ∀ (s' : S8) (x1' : Int32) (z : Int32 × S8) {H : Heap} {locs : List Loc} {ls : Array Slot}, xW G (x_in W0) sS.heap (cells8 G ad s') H locs → lv_has ls 4 [(0, .ref (ad 0)), (1, .int x1')] → f_X8_takesWord  s' x1' = some z → W p l e (rm_X8_takesWord) sS m args below meth c H locs 0 0 (MQ below (xQ G W0 (cells8 G ad z.2) (some (.int z.1))) args sS 0 0 (x_in W0)) (F0 m 0 ls []) := by
  intro s x1 z H locs ls hw hl hf
  unfold f_X8_takesWord at hf
  refine lv_aload_n (pc := 0) E.1 E.2.1 dX8_takesWord_0 rfl (lv_at hl 0 rfl) ?_
  refine xg_X8_318 (pc := 1) (v := .int (g8_wrong s)) E hw 0 rfl rfl dX8_takesWord_1 ?_
  refine lv_if_ne (tgt := 15) (pc := 4) E.1 E.2.1 dX8_takesWord_4 (by decide) (fun q1 => ?_) (fun q1 => ?_)
  · have hf := x_neg q1 hf
    refine lv_iconst (v := 0) (pc := 15) E.1 E.2.1 dX8_takesWord_15 (by decide) ?_
    obtain rfl := Option.some.inj hf
    exact x_retz (pc := 16) (v := 0) (r := 0) E hr hk hw (by decide) dX8_takesWord_16
  · have hf := x_pos q1 hf
    refine lv_aload_n (pc := 7) E.1 E.2.1 dX8_takesWord_7 rfl (lv_at hl 0 rfl) ?_
    refine xg_X8_306 (pc := 8) (v := .int (g8_token s)) E hw 0 rfl rfl dX8_takesWord_8 ?_
    refine lv_iconst (v := 1) (pc := 11) E.1 E.2.1 dX8_takesWord_11 (by decide) ?_
    refine lv_icmp_eq (tgt := 17) (pc := 12) E.1 E.2.1 dX8_takesWord_12 (by decide) (fun q2 => ?_) (fun q2 => ?_)
    · have hf := x_pos q2 hf
      refine lv_aload_n (pc := 17) E.1 E.2.1 dX8_takesWord_17 rfl (lv_at hl 0 rfl) ?_
      refine lv_iload_n (pc := 18) E.1 E.2.1 dX8_takesWord_18 rfl (lv_at hl 1 rfl) ?_
      obtain ⟨v3, g4, hf⟩ := x_bind hf
      refine x_callVA (pc := 19) (As := [.int x1]) (rest := []) (st1 := [.int v3]) (ws' := (cells8 G ad s)) E hw hl (c_X8_wordFrom l G ad s x1 g4) xv_X8_282 xd_X8_wordFrom rfl rfl ⟨Nat.le_of_ble_eq_true rfl, Nat.le_of_ble_eq_true rfl⟩ (q0 := 0) rfl rfl rfl rfl (Nat.le_of_ble_eq_true rfl) rfl rfl dX8_takesWord_19 (fun H locs hw => ?_)
      refine lv_istore_n (lv' := [(2, .int v3), (0, .ref (ad 0)), (1, .int x1)]) (pc := 22) E.1 E.2.1 dX8_takesWord_22 rfl hl (by decide) rfl (fun ls hl => ?_)
      refine lv_iconst (v := 0) (pc := 23) E.1 E.2.1 dX8_takesWord_23 (by decide) ?_
      refine lv_istore_n (lv' := [(3, .int 0), (2, .int v3), (0, .ref (ad 0)), (1, .int x1)]) (pc := 24) E.1 E.2.1 dX8_takesWord_24 rfl hl (by decide) rfl (fun ls hl => ?_)
      exact wl_X8_takesWord_p25 E hr hk  s v3 0 z hw (lv_sub hl [2, 1, 0] rfl) hf
    · have hf := x_neg q2 hf
      refine lv_iconst (v := 0) (pc := 15) E.1 E.2.1 dX8_takesWord_15 (by decide) ?_
      obtain rfl := Option.some.inj hf
      exact x_retz (pc := 16) (v := 0) (r := 0) E hr hk hw (by decide) dX8_takesWord_16
set_option maxHeartbeats 4000000 in
set_option maxRecDepth 100000 in
theorem c_X8_takesWord (l : Launch) (G : xG) (ad : Nat → Nat) (s : S8) (x1 : Int32) {z : Int32 × S8} (hf : f_X8_takesWord s x1 = some z) : xC l yX8_takesWord cX8_takesWord 4 (some .boolean) (rm_X8_takesWord) G [.ref (ad 0), .int x1] (cells8 G ad s) (some (.int z.1)) (cells8 G ad z.2) :=
  x_met (by decide) (Nat.le_of_ble_eq_true rfl) (fun p e sS m below meth c E hr hk ls hl hw => w_X8_takesWord_p0 E hr hk s x1 z hw hl hf)
set_option maxHeartbeats 4000000 in
set_option maxRecDepth 100000 in
theorem w_X8_needsNumber_p0 {p : Program} {l : Launch} {e : Env} {sS : State} {m : MethodId} {args : Array Value} {below : List Frame} {meth : Method} {c : Code} {G : xG} {W0 : va_W} {ad : Nat → Nat}   (E : xE p sS m args c cX8_needsNumber 4 RX8 G (x_in W0)) (hr : meth.sig.returnType = (some .int)) (hk : meth.locks = false)  : ∀ (s' : S8) (x1' : Int32) (x2' : Int32) (z : Int32 × S8) {H : Heap} {locs : List Loc} {ls : Array Slot}, xW G (x_in W0) sS.heap (cells8 G ad s') H locs → lv_has ls 4 [(0, .ref (ad 0)), (1, .int x1'), (2, .int x2')] → f_X8_needsNumber  s' x1' x2' = some z → W p l e (rm_X8_needsNumber) sS m args below meth c H locs 0 0 (MQ below (xQ G W0 (cells8 G ad z.2) (some (.int z.1))) args sS 0 0 (x_in W0)) (F0 m 0 ls []) := by
  intro s x1 x2 z H locs ls hw hl hf
  unfold f_X8_needsNumber at hf
  refine lv_aload_n (pc := 0) E.1 E.2.1 dX8_needsNumber_0 rfl (lv_at hl 0 rfl) ?_
  refine xg_X8_318 (pc := 1) (v := .int (g8_wrong s)) E hw 0 rfl rfl dX8_needsNumber_1 ?_
  refine lv_if_ne (tgt := 27) (pc := 4) E.1 E.2.1 dX8_needsNumber_4 (by decide) (fun q1 => ?_) (fun q1 => ?_)
  · have hf := x_neg q1 hf
    refine lv_aload_n (pc := 27) E.1 E.2.1 dX8_needsNumber_27 rfl (lv_at hl 0 rfl) ?_
    refine lv_iconst (v := 1) (pc := 28) E.1 E.2.1 dX8_needsNumber_28 (by decide) ?_
    refine xp_X8_318 (pc := 29) (v := .int 1) (ws' := (cells8 G ad (u8_wrong s 1))) E hw 0 rfl (by decide) rfl (Nat.le_of_ble_eq_true rfl) rfl dX8_needsNumber_29 (fun H locs hw => ?_)
    refine lv_iconst (v := 0) (pc := 32) E.1 E.2.1 dX8_needsNumber_32 (by decide) ?_
    obtain rfl := Option.some.inj hf
    exact x_reti (pc := 33) E hr hk hw dX8_needsNumber_33
  · have hf := x_pos q1 hf
    refine lv_aload_n (pc := 7) E.1 E.2.1 dX8_needsNumber_7 rfl (lv_at hl 0 rfl) ?_
    refine xg_X8_306 (pc := 8) (v := .int (g8_token s)) E hw 0 rfl rfl dX8_needsNumber_8 ?_
    refine lv_iconst (v := 2) (pc := 11) E.1 E.2.1 dX8_needsNumber_11 (by decide) ?_
    refine lv_icmp_ne (tgt := 27) (pc := 12) E.1 E.2.1 dX8_needsNumber_12 (by decide) (fun q2 => ?_) (fun q2 => ?_)
    · have hf := x_neg q2 hf
      refine lv_aload_n (pc := 27) E.1 E.2.1 dX8_needsNumber_27 rfl (lv_at hl 0 rfl) ?_
      refine lv_iconst (v := 1) (pc := 28) E.1 E.2.1 dX8_needsNumber_28 (by decide) ?_
      refine xp_X8_318 (pc := 29) (v := .int 1) (ws' := (cells8 G ad (u8_wrong s 1))) E hw 0 rfl (by decide) rfl (Nat.le_of_ble_eq_true rfl) rfl dX8_needsNumber_29 (fun H locs hw => ?_)
      refine lv_iconst (v := 0) (pc := 32) E.1 E.2.1 dX8_needsNumber_32 (by decide) ?_
      obtain rfl := Option.some.inj hf
      exact x_reti (pc := 33) E hr hk hw dX8_needsNumber_33
    · have hf := x_pos q2 hf
      refine lv_aload_n (pc := 15) E.1 E.2.1 dX8_needsNumber_15 rfl (lv_at hl 0 rfl) ?_
      refine xg_X8_315 (pc := 16) (v := .int (g8_number s)) E hw 0 rfl rfl dX8_needsNumber_16 ?_
      refine lv_iload_n (pc := 19) E.1 E.2.1 dX8_needsNumber_19 rfl (lv_at hl 1 rfl) ?_
      refine lv_iload_n (pc := 20) E.1 E.2.1 dX8_needsNumber_20 rfl (lv_at hl 2 rfl) ?_
      obtain ⟨v3, g4, hf⟩ := x_bind hf
      refine x_callS0 (pc := 21) (As := [.int (g8_number s), .int x1, .int x2]) (rest := []) (st1 := [.int v3]) E hw hl (c_X8_in l G  (g8_number s) x1 x2 g4) xs_X8_84 xd_X8_in rfl rfl ⟨Nat.le_of_ble_eq_true rfl, Nat.le_of_ble_eq_true rfl⟩ rfl rfl (Nat.le_of_ble_eq_true rfl) rfl dX8_needsNumber_21 (fun H locs hw => ?_)
      refine lv_if_ne (tgt := 34) (pc := 24) E.1 E.2.1 dX8_needsNumber_24 (by decide) (fun q5 => ?_) (fun q5 => ?_)
      · have hf := x_neg q5 hf
        refine lv_aload_n (pc := 34) E.1 E.2.1 dX8_needsNumber_34 rfl (lv_at hl 0 rfl) ?_
        refine xg_X8_315 (pc := 35) (v := .int (g8_number s)) E hw 0 rfl rfl dX8_needsNumber_35 ?_
        refine lv_istore_n (lv' := [(3, .int (g8_number s)), (0, .ref (ad 0)), (1, .int x1), (2, .int x2)]) (pc := 38) E.1 E.2.1 dX8_needsNumber_38 rfl hl (by decide) rfl (fun ls hl => ?_)
        refine lv_aload_n (pc := 39) E.1 E.2.1 dX8_needsNumber_39 rfl (lv_at hl 1 rfl) ?_
        obtain ⟨v6, g7, hf⟩ := x_bind hf
        refine x_callVA (pc := 40) (As := []) (rest := []) (st1 := []) (ws' := (cells8 G ad v6)) E hw hl (c_X8_goesOn l G ad s g7) xv_X8_322 xd_X8_goesOn rfl rfl ⟨Nat.le_of_ble_eq_true rfl, Nat.le_of_ble_eq_true rfl⟩ (q0 := 0) rfl rfl rfl rfl (Nat.le_of_ble_eq_true rfl) rfl rfl dX8_needsNumber_40 (fun H locs hw => ?_)
        refine lv_iload_n (pc := 43) E.1 E.2.1 dX8_needsNumber_43 rfl (lv_at hl 0 rfl) ?_
        obtain rfl := Option.some.inj hf
        exact x_reti (pc := 44) E hr hk hw dX8_needsNumber_44
      · have hf := x_pos q5 hf
        refine lv_aload_n (pc := 27) E.1 E.2.1 dX8_needsNumber_27 rfl (lv_at hl 0 rfl) ?_
        refine lv_iconst (v := 1) (pc := 28) E.1 E.2.1 dX8_needsNumber_28 (by decide) ?_
        refine xp_X8_318 (pc := 29) (v := .int 1) (ws' := (cells8 G ad (u8_wrong s 1))) E hw 0 rfl (by decide) rfl (Nat.le_of_ble_eq_true rfl) rfl dX8_needsNumber_29 (fun H locs hw => ?_)
        refine lv_iconst (v := 0) (pc := 32) E.1 E.2.1 dX8_needsNumber_32 (by decide) ?_
        obtain rfl := Option.some.inj hf
        exact x_reti (pc := 33) E hr hk hw dX8_needsNumber_33
set_option maxHeartbeats 4000000 in
set_option maxRecDepth 100000 in
theorem c_X8_needsNumber (l : Launch) (G : xG) (ad : Nat → Nat) (s : S8) (x1 : Int32) (x2 : Int32) {z : Int32 × S8} (hf : f_X8_needsNumber s x1 x2 = some z) : xC l yX8_needsNumber cX8_needsNumber 4 (some .int) (rm_X8_needsNumber) G [.ref (ad 0), .int x1, .int x2] (cells8 G ad s) (some (.int z.1)) (cells8 G ad z.2) :=
  x_met (by decide) (Nat.le_of_ble_eq_true rfl) (fun p e sS m below meth c E hr hk ls hl hw => w_X8_needsNumber_p0 E hr hk s x1 x2 z hw hl hf)
set_option maxHeartbeats 4000000 in
set_option maxRecDepth 100000 in
theorem w_X8_isRoom_p0 {p : Program} {l : Launch} {e : Env} {sS : State} {m : MethodId} {args : Array Value} {below : List Frame} {meth : Method} {c : Code} {G : xG} {W0 : va_W} {ad : Nat → Nat}   (E : xE p sS m args c cX8_isRoom 4 RX8 G (x_in W0)) (hr : meth.sig.returnType = (some .boolean)) (hk : meth.locks = false)  : ∀ (s' : S8) (x1' : Int32) (x2' : Int32) (x3' : Int32) (z : Int32 × S8) {H : Heap} {locs : List Loc} {ls : Array Slot}, xW G (x_in W0) sS.heap (cells8 G ad s') H locs → lv_has ls 4 [(0, .ref (ad 0)), (1, .int x1'), (2, .int x2'), (3, .int x3')] → f_X8_isRoom  s' x1' x2' x3' = some z → W p l e (rm_X8_isRoom) sS m args below meth c H locs 0 0 (MQ below (xQ G W0 (cells8 G ad z.2) (some (.int z.1))) args sS 0 0 (x_in W0)) (F0 m 0 ls []) := by
  intro s x1 x2 x3 z H locs ls hw hl hf
  unfold f_X8_isRoom at hf
  refine lv_aload_n (pc := 0) E.1 E.2.1 dX8_isRoom_0 rfl (lv_at hl 0 rfl) ?_
  refine xg_X8_17 (pc := 1) (v := .ref (ad 2)) E hw 0 rfl rfl dX8_isRoom_1 ?_
  refine lv_iload_n (pc := 4) E.1 E.2.1 dX8_isRoom_4 rfl (lv_at hl 1 rfl) ?_
  obtain ⟨v2, g1, hf⟩ := x_bind hf
  refine x_iald (pc := 5) E hw 2 rfl g1 dX8_isRoom_5 ?_
  refine lv_iload_n (pc := 6) E.1 E.2.1 dX8_isRoom_6 rfl (lv_at hl 2 rfl) ?_
  refine lv_icmp_ge (tgt := 12) (pc := 7) E.1 E.2.1 dX8_isRoom_7 (by decide) (fun q3 => ?_) (fun q3 => ?_)
  · have hf := x_pos q3 hf
    refine lv_aload_n (pc := 12) E.1 E.2.1 dX8_isRoom_12 rfl (lv_at hl 0 rfl) ?_
    refine lv_iload_n (pc := 13) E.1 E.2.1 dX8_isRoom_13 rfl (lv_at hl 3 rfl) ?_
    refine xp_X8_312 (pc := 14) (v := .int x3) (ws' := (cells8 G ad (u8_begun s x3))) E hw 0 rfl rfl rfl (Nat.le_of_ble_eq_true rfl) rfl dX8_isRoom_14 (fun H locs hw => ?_)
    refine lv_aload_n (pc := 17) E.1 E.2.1 dX8_isRoom_17 rfl (lv_at hl 0 rfl) ?_
    refine lv_iconst (v := 1) (pc := 18) E.1 E.2.1 dX8_isRoom_18 (by decide) ?_
    refine xp_X8_318 (pc := 19) (v := .int 1) (ws' := (cells8 G ad (u8_wrong (u8_begun s x3) 1))) E hw 0 rfl (by decide) rfl (Nat.le_of_ble_eq_true rfl) rfl dX8_isRoom_19 (fun H locs hw => ?_)
    refine lv_iconst (v := 0) (pc := 22) E.1 E.2.1 dX8_isRoom_22 (by decide) ?_
    obtain rfl := Option.some.inj hf
    exact x_retz (pc := 23) (v := 0) (r := 0) E hr hk hw (by decide) dX8_isRoom_23
  · have hf := x_neg q3 hf
    refine lv_iconst (v := 1) (pc := 10) E.1 E.2.1 dX8_isRoom_10 (by decide) ?_
    obtain rfl := Option.some.inj hf
    exact x_retz (pc := 11) (v := 1) (r := 1) E hr hk hw (by decide) dX8_isRoom_11
set_option maxHeartbeats 4000000 in
set_option maxRecDepth 100000 in
theorem c_X8_isRoom (l : Launch) (G : xG) (ad : Nat → Nat) (s : S8) (x1 : Int32) (x2 : Int32) (x3 : Int32) {z : Int32 × S8} (hf : f_X8_isRoom s x1 x2 x3 = some z) : xC l yX8_isRoom cX8_isRoom 4 (some .boolean) (rm_X8_isRoom) G [.ref (ad 0), .int x1, .int x2, .int x3] (cells8 G ad s) (some (.int z.1)) (cells8 G ad z.2) :=
  x_met (by decide) (Nat.le_of_ble_eq_true rfl) (fun p e sS m below meth c E hr hk ls hl hw => w_X8_isRoom_p0 E hr hk s x1 x2 x3 z hw hl hf)
set_option maxHeartbeats 4000000 in
set_option maxRecDepth 100000 in
theorem w_X8_readsFleet_p66 {p : Program} {l : Launch} {e : Env} {sS : State} {m : MethodId} {args : Array Value} {below : List Frame} {meth : Method} {c : Code} {G : xG} {W0 : va_W} {ad : Nat → Nat}   (E : xE p sS m args c cX8_readsFleet 4 RX8 G (x_in W0)) (hr : meth.sig.returnType = none) (hk : meth.locks = false)  : ∀ (s' : S8) (x2' : Int32) (x3' : Int32) (z : S8) {H : Heap} {locs : List Loc} {ls : Array Slot}, xW G (x_in W0) sS.heap (cells8 G ad s') H locs → lv_has ls 4 [(0, .ref (ad 0)), (2, .int x2'), (3, .int x3')] → f_X8_readsFleet_p66  s' x2' x3' = some z → W p l e (rm_X8_readsFleet) sS m args below meth c H locs 0 0 (MQ below (xQ G W0 (cells8 G ad z) none) args sS 0 0 (x_in W0)) (F0 m 66 ls []) := by
  intro s x2 x3 z H locs ls hw hl hf
  unfold f_X8_readsFleet_p66 at hf
  refine lv_aload_n (pc := 66) E.1 E.2.1 dX8_readsFleet_66 rfl (lv_at hl 0 rfl) ?_
  refine xg_X8_17 (pc := 67) (v := .ref (ad 2)) E hw 0 rfl rfl dX8_readsFleet_67 ?_
  refine lv_iload_n (pc := 70) E.1 E.2.1 dX8_readsFleet_70 rfl (lv_at hl 1 rfl) ?_
  refine lv_iconst (v := 1) (pc := 71) E.1 E.2.1 dX8_readsFleet_71 (by decide) ?_
  refine lv_iadd (pc := 72) E.1 E.2.1 dX8_readsFleet_72 ?_
  refine lv_iload_n (pc := 73) E.1 E.2.1 dX8_readsFleet_73 rfl (lv_at hl 2 rfl) ?_
  obtain ⟨w2, g1, hf⟩ := x_bind hf
  refine x_iast (pc := 74) (ws' := (cells8 G ad (u8_read s w2))) E hw 2 rfl g1 rfl dX8_readsFleet_74 (fun H locs hw => ?_)
  refine lv_aload_n (pc := 75) E.1 E.2.1 dX8_readsFleet_75 rfl (lv_at hl 0 rfl) ?_
  refine xg_X8_17 (pc := 76) (v := .ref (ad 2)) E hw 0 rfl rfl dX8_readsFleet_76 ?_
  refine lv_iconst (v := 2) (pc := 79) E.1 E.2.1 dX8_readsFleet_79 (by decide) ?_
  refine lv_dup2_11 (pc := 80) E.1 E.2.1 dX8_readsFleet_80 rfl rfl ?_
  obtain ⟨v4, g3, hf⟩ := x_bind hf
  refine x_iald (pc := 81) E hw 2 rfl g3 dX8_readsFleet_81 ?_
  refine lv_iconst (v := 1) (pc := 82) E.1 E.2.1 dX8_readsFleet_82 (by decide) ?_
  refine lv_iadd (pc := 83) E.1 E.2.1 dX8_readsFleet_83 ?_
  obtain ⟨w6, g5, hf⟩ := x_bind hf
  refine x_iast (pc := 84) (ws' := (cells8 G ad (u8_read (u8_read s w2) w6))) E hw 2 rfl g5 rfl dX8_readsFleet_84 (fun H locs hw => ?_)
  obtain rfl := Option.some.inj hf
  exact x_retv (pc := 85) E hr hk hw dX8_readsFleet_85
set_option maxHeartbeats 4000000 in
set_option maxRecDepth 100000 in
theorem w_X8_readsFleet_p37 {p : Program} {l : Launch} {e : Env} {sS : State} {m : MethodId} {args : Array Value} {below : List Frame} {meth : Method} {c : Code} {G : xG} {W0 : va_W} {ad : Nat → Nat}  {k37 : S8 → Int32 → Int32 → Option (S8)} (E : xE p sS m args c cX8_readsFleet 4 RX8 G (x_in W0)) (hr : meth.sig.returnType = none) (hk : meth.locks = false) (hk37 : ∀ (s' : S8) (x2' : Int32) (x3' : Int32) (z : S8) {H : Heap} {locs : List Loc} {ls : Array Slot}, xW G (x_in W0) sS.heap (cells8 G ad s') H locs → lv_has ls 4 [(0, .ref (ad 0)), (2, .int x2'), (3, .int x3')] → k37  s' x2' x3' = some z → W p l e (rm_X8_readsFleet) sS m args below meth c H locs 0 0 (MQ below (xQ G W0 (cells8 G ad z) none) args sS 0 0 (x_in W0)) (F0 m 37 ls [])) : ∀ (s' : S8) (x2' : Int32) (x3' : Int32) (z : S8) {H : Heap} {locs : List Loc} {ls : Array Slot}, xW G (x_in W0) sS.heap (cells8 G ad s') H locs → lv_has ls 4 [(0, .ref (ad 0)), (2, .int x2'), (3, .int x3')] → f_X8_readsFleet_p37 k37 s' x2' x3' = some z → W p l e (rm_X8_readsFleet) sS m args below meth c H locs 0 0 (MQ below (xQ G W0 (cells8 G ad z) none) args sS 0 0 (x_in W0)) (F0 m 37 ls []) := by
  intro s x2 x3 z H locs ls hw hl hf
  unfold f_X8_readsFleet_p37 at hf
  refine lv_aload_n (pc := 37) E.1 E.2.1 dX8_readsFleet_37 rfl (lv_at hl 0 rfl) ?_
  refine xg_X8_318 (pc := 38) (v := .int (g8_wrong s)) E hw 0 rfl rfl dX8_readsFleet_38 ?_
  refine lv_if_ne (tgt := 66) (pc := 41) E.1 E.2.1 dX8_readsFleet_41 (by decide) (fun q1 => ?_) (fun q1 => ?_)
  · have hf := x_neg q1 hf
    exact w_X8_readsFleet_p66 E hr hk  s x2 x3 z hw (lv_sub hl [0, 1, 2] rfl) hf
  · have hf := x_pos q1 hf
    refine lv_aload_n (pc := 44) E.1 E.2.1 dX8_readsFleet_44 rfl (lv_at hl 0 rfl) ?_
    refine xg_X8_306 (pc := 45) (v := .int (g8_token s)) E hw 0 rfl rfl dX8_readsFleet_45 ?_
    refine lv_iconst (v := 2) (pc := 48) E.1 E.2.1 dX8_readsFleet_48 (by decide) ?_
    refine lv_icmp_ne (tgt := 66) (pc := 49) E.1 E.2.1 dX8_readsFleet_49 (by decide) (fun q2 => ?_) (fun q2 => ?_)
    · have hf := x_neg q2 hf
      exact w_X8_readsFleet_p66 E hr hk  s x2 x3 z hw (lv_sub hl [0, 1, 2] rfl) hf
    · have hf := x_pos q2 hf
      refine lv_iload_n (pc := 52) E.1 E.2.1 dX8_readsFleet_52 rfl (lv_at hl 2 rfl) ?_
      refine lv_iconst (v := 1) (pc := 53) E.1 E.2.1 dX8_readsFleet_53 (by decide) ?_
      refine lv_aload_n (pc := 54) E.1 E.2.1 dX8_readsFleet_54 rfl (lv_at hl 0 rfl) ?_
      refine lv_iconst (v := 0) (pc := 55) E.1 E.2.1 dX8_readsFleet_55 (by decide) ?_
      refine lv_iconst (v := 4) (pc := 56) E.1 E.2.1 dX8_readsFleet_56 (by decide) ?_
      obtain ⟨v3, g4, hf⟩ := x_bind hf
      refine x_callVA (pc := 57) (As := [.int 0, .int 4]) (rest := [.int 1, .int x3]) (st1 := [.int v3.1, .int 1, .int x3]) (ws' := (cells8 G ad v3.2)) E hw hl (c_X8_needsNumber l G ad s 0 4 g4) xv_X8_328 xd_X8_needsNumber rfl rfl ⟨Nat.le_of_ble_eq_true rfl, Nat.le_of_ble_eq_true rfl⟩ (q0 := 0) rfl rfl rfl rfl (Nat.le_of_ble_eq_true rfl) rfl rfl dX8_readsFleet_57 (fun H locs hw => ?_)
      refine lv_ishl (pc := 60) E.1 E.2.1 dX8_readsFleet_60 ?_
      refine lv_ior (pc := 61) E.1 E.2.1 dX8_readsFleet_61 ?_
      refine lv_istore_n (lv' := [(3, .int (x3 ||| (1 <<< (v3.1 &&& 31)))), (0, .ref (ad 0)), (2, .int x2)]) (pc := 62) E.1 E.2.1 dX8_readsFleet_62 rfl hl (by decide) rfl (fun ls hl => ?_)
      refine lv_goto (tgt := 37) (pc := 63) E.1 E.2.1 dX8_readsFleet_63 (by decide) ?_
      exact hk37 v3.2 x2 (x3 ||| (1 <<< (v3.1 &&& 31))) z hw (lv_sub hl [1, 2, 0] rfl) hf
set_option maxHeartbeats 4000000 in
set_option maxRecDepth 100000 in
theorem wl_X8_readsFleet_p37 {p : Program} {l : Launch} {e : Env} {sS : State} {m : MethodId} {args : Array Value} {below : List Frame} {meth : Method} {c : Code} {G : xG} {W0 : va_W} {ad : Nat → Nat}   (E : xE p sS m args c cX8_readsFleet 4 RX8 G (x_in W0)) (hr : meth.sig.returnType = none) (hk : meth.locks = false)  : ∀ (s' : S8) (x2' : Int32) (x3' : Int32) (z : S8) {H : Heap} {locs : List Loc} {ls : Array Slot}, xW G (x_in W0) sS.heap (cells8 G ad s') H locs → lv_has ls 4 [(0, .ref (ad 0)), (2, .int x2'), (3, .int x3')] → lp_X8_readsFleet_p37  s' x2' x3' = some z → W p l e (rm_X8_readsFleet) sS m args below meth c H locs 0 0 (MQ below (xQ G W0 (cells8 G ad z) none) args sS 0 0 (x_in W0)) (F0 m 37 ls []) := by
  intro s x2 x3 z H locs ls hw hl hf
  exact x_loop_W (P := fun (q : S8 × Int32 × Int32) (z : S8) => ∀ {H : Heap} {locs : List Loc} {ls : Array Slot}, xW G (x_in W0) sS.heap (cells8 G ad q.1) H locs → lv_has ls 4 [(0, .ref (ad 0)), (2, .int q.2.1), (3, .int q.2.2)] → W p l e (rm_X8_readsFleet) sS m args below meth c H locs 0 0 (MQ below (xQ G W0 (cells8 G ad z) none) args sS 0 0 (x_in W0)) (F0 m 37 ls [])) (fun k hkk q z hf H locs ls hw hl => w_X8_readsFleet_p37 E hr hk  (fun s x2 x3 z H locs ls hw hl hf => hkk (s, x2, x3) z hf hw hl) q.1 q.2.1 q.2.2 z hw hl hf) FU (s, x2, x3) z hf hw hl
set_option maxHeartbeats 4000000 in
set_option maxRecDepth 100000 in
theorem w_X8_readsFleet_p0 {p : Program} {l : Launch} {e : Env} {sS : State} {m : MethodId} {args : Array Value} {below : List Frame} {meth : Method} {c : Code} {G : xG} {W0 : va_W} {ad : Nat → Nat}   (E : xE p sS m args c cX8_readsFleet 4 RX8 G (x_in W0)) (hr : meth.sig.returnType = none) (hk : meth.locks = false)  : ∀ (s' : S8) (x1' : Int32) (z : S8) {H : Heap} {locs : List Loc} {ls : Array Slot}, xW G (x_in W0) sS.heap (cells8 G ad s') H locs → lv_has ls 4 [(0, .ref (ad 0)), (1, .int x1')] → f_X8_readsFleet  s' x1' = some z → W p l e (rm_X8_readsFleet) sS m args below meth c H locs 0 0 (MQ below (xQ G W0 (cells8 G ad z) none) args sS 0 0 (x_in W0)) (F0 m 0 ls []) := by
  intro s x1 z H locs ls hw hl hf
  unfold f_X8_readsFleet at hf
  refine lv_aload_n (pc := 0) E.1 E.2.1 dX8_readsFleet_0 rfl (lv_at hl 0 rfl) ?_
  refine lv_iconst (v := 2) (pc := 1) E.1 E.2.1 dX8_readsFleet_1 (by decide) ?_
  refine lv_bipush (v := 8) (pc := 2) E.1 E.2.1 dX8_readsFleet_2 (by decide) ?_
  refine lv_iload_n (pc := 4) E.1 E.2.1 dX8_readsFleet_4 rfl (lv_at hl 1 rfl) ?_
  obtain ⟨v1, g2, hf⟩ := x_bind hf
  refine x_callVA (pc := 5) (As := [.int 2, .int 8, .int x1]) (rest := []) (st1 := [.int v1.1]) (ws' := (cells8 G ad v1.2)) E hw hl (c_X8_isRoom l G ad s 2 8 x1 g2) xv_X8_325 xd_X8_isRoom rfl rfl ⟨Nat.le_of_ble_eq_true rfl, Nat.le_of_ble_eq_true rfl⟩ (q0 := 0) rfl rfl rfl rfl (Nat.le_of_ble_eq_true rfl) rfl rfl dX8_readsFleet_5 (fun H locs hw => ?_)
  refine lv_if_ne (tgt := 12) (pc := 8) E.1 E.2.1 dX8_readsFleet_8 (by decide) (fun q3 => ?_) (fun q3 => ?_)
  · have hf := x_neg q3 hf
    refine lv_iconst (v := 4) (pc := 12) E.1 E.2.1 dX8_readsFleet_12 (by decide) ?_
    refine lv_iconst (v := 2) (pc := 13) E.1 E.2.1 dX8_readsFleet_13 (by decide) ?_
    refine lv_aload_n (pc := 14) E.1 E.2.1 dX8_readsFleet_14 rfl (lv_at hl 0 rfl) ?_
    refine xg_X8_17 (pc := 15) (v := .ref (ad 2)) E hw 0 rfl rfl dX8_readsFleet_15 ?_
    refine lv_iconst (v := 2) (pc := 18) E.1 E.2.1 dX8_readsFleet_18 (by decide) ?_
    obtain ⟨v5, g4, hf⟩ := x_bind hf
    refine x_iald (pc := 19) E hw 2 rfl g4 dX8_readsFleet_19 ?_
    refine lv_imul (pc := 20) E.1 E.2.1 dX8_readsFleet_20 ?_
    refine lv_iadd (pc := 21) E.1 E.2.1 dX8_readsFleet_21 ?_
    refine lv_istore_n (lv' := [(2, .int (4 + (2 * v5))), (0, .ref (ad 0)), (1, .int x1)]) (pc := 22) E.1 E.2.1 dX8_readsFleet_22 rfl hl (by decide) rfl (fun ls hl => ?_)
    refine lv_aload_n (pc := 23) E.1 E.2.1 dX8_readsFleet_23 rfl (lv_at hl 1 rfl) ?_
    refine xg_X8_17 (pc := 24) (v := .ref (ad 2)) E hw 0 rfl rfl dX8_readsFleet_24 ?_
    refine lv_iload_n (pc := 27) E.1 E.2.1 dX8_readsFleet_27 rfl (lv_at hl 0 rfl) ?_
    refine lv_aload_n (pc := 28) E.1 E.2.1 dX8_readsFleet_28 rfl (lv_at hl 1 rfl) ?_
    refine lv_iconst (v := 0) (pc := 29) E.1 E.2.1 dX8_readsFleet_29 (by decide) ?_
    refine lv_iconst (v := 2) (pc := 30) E.1 E.2.1 dX8_readsFleet_30 (by decide) ?_
    obtain ⟨v6, g7, hf⟩ := x_bind hf
    refine x_callVA (pc := 31) (As := [.int 0, .int 2]) (rest := [.int (4 + (2 * v5)), .ref (ad 2)]) (st1 := [.int v6.1, .int (4 + (2 * v5)), .ref (ad 2)]) (ws' := (cells8 G ad v6.2)) E hw hl (c_X8_needsNumber l G ad v1.2 0 2 g7) xv_X8_328 xd_X8_needsNumber rfl rfl ⟨Nat.le_of_ble_eq_true rfl, Nat.le_of_ble_eq_true rfl⟩ (q0 := 0) rfl rfl rfl rfl (Nat.le_of_ble_eq_true rfl) rfl rfl dX8_readsFleet_31 (fun H locs hw => ?_)
    obtain ⟨w9, g8, hf⟩ := x_bind hf
    refine x_iast (pc := 34) (ws' := (cells8 G ad (u8_read v6.2 w9))) E hw 2 rfl g8 rfl dX8_readsFleet_34 (fun H locs hw => ?_)
    refine lv_iconst (v := 0) (pc := 35) E.1 E.2.1 dX8_readsFleet_35 (by decide) ?_
    refine lv_istore_n (lv' := [(3, .int 0), (2, .int (4 + (2 * v5))), (0, .ref (ad 0)), (1, .int x1)]) (pc := 36) E.1 E.2.1 dX8_readsFleet_36 rfl hl (by decide) rfl (fun ls hl => ?_)
    exact wl_X8_readsFleet_p37 E hr hk  (u8_read v6.2 w9) (4 + (2 * v5)) 0 z hw (lv_sub hl [2, 1, 0] rfl) hf
  · have hf := x_pos q3 hf
    obtain rfl := Option.some.inj hf
    exact x_retv (pc := 11) E hr hk hw dX8_readsFleet_11
set_option maxHeartbeats 4000000 in
set_option maxRecDepth 100000 in
theorem c_X8_readsFleet (l : Launch) (G : xG) (ad : Nat → Nat) (s : S8) (x1 : Int32) {z : S8} (hf : f_X8_readsFleet s x1 = some z) : xC l yX8_readsFleet cX8_readsFleet 4 none (rm_X8_readsFleet) G [.ref (ad 0), .int x1] (cells8 G ad s) none (cells8 G ad z) :=
  x_met (by decide) (Nat.le_of_ble_eq_true rfl) (fun p e sS m below meth c E hr hk ls hl hw => w_X8_readsFleet_p0 E hr hk s x1 z hw hl hf)
set_option maxHeartbeats 4000000 in
set_option maxRecDepth 100000 in
theorem w_X8_mayBeIn_p33 {p : Program} {l : Launch} {e : Env} {sS : State} {m : MethodId} {args : Array Value} {below : List Frame} {meth : Method} {c : Code} {G : xG} {W0 : va_W} {ad : Nat → Nat}  {k33 : S8 → Int32 → Int32 → Int32 → Int32 → Option (Int32)} (E : xE p sS m args c cX8_mayBeIn 5 RX8 G (x_in W0)) (hr : meth.sig.returnType = (some .boolean)) (hk : meth.locks = false) (hk33 : ∀ (s' : S8) (x1' : Int32) (x2' : Int32) (x3' : Int32) (x4' : Int32) (z : Int32) {H : Heap} {locs : List Loc} {ls : Array Slot}, xW G (x_in W0) sS.heap (cells8 G ad s') H locs → lv_has ls 5 [(0, .ref (ad 0)), (1, .int x1'), (2, .int x2'), (3, .int x3'), (4, .int x4')] → k33  s' x1' x2' x3' x4' = some z → W p l e (rm_X8_mayBeIn) sS m args below meth c H locs 0 0 (MQ below (xQ G W0 (cells8 G ad s') (some (.int z))) args sS 0 0 (x_in W0)) (F0 m 33 ls [])) : ∀ (s' : S8) (x1' : Int32) (x2' : Int32) (x3' : Int32) (x4' : Int32) (z : Int32) {H : Heap} {locs : List Loc} {ls : Array Slot}, xW G (x_in W0) sS.heap (cells8 G ad s') H locs → lv_has ls 5 [(0, .ref (ad 0)), (1, .int x1'), (2, .int x2'), (3, .int x3'), (4, .int x4')] → f_X8_mayBeIn_p33 k33 s' x1' x2' x3' x4' = some z → W p l e (rm_X8_mayBeIn) sS m args below meth c H locs 0 0 (MQ below (xQ G W0 (cells8 G ad s') (some (.int z))) args sS 0 0 (x_in W0)) (F0 m 33 ls []) := by
  intro s x1 x2 x3 x4 z H locs ls hw hl hf
  unfold f_X8_mayBeIn_p33 at hf
  refine lv_iload (pc := 33) E.1 E.2.1 dX8_mayBeIn_33 (lv_at hl 4 rfl) ?_
  refine lv_aload_n (pc := 35) E.1 E.2.1 dX8_mayBeIn_35 rfl (lv_at hl 0 rfl) ?_
  refine xg_X8_17 (pc := 36) (v := .ref (ad 2)) E hw 0 rfl rfl dX8_mayBeIn_36 ?_
  refine lv_iconst (v := 3) (pc := 39) E.1 E.2.1 dX8_mayBeIn_39 (by decide) ?_
  obtain ⟨v2, g1, hf⟩ := x_bind hf
  refine x_iald (pc := 40) E hw 2 rfl g1 dX8_mayBeIn_40 ?_
  refine lv_icmp_ge (tgt := 87) (pc := 41) E.1 E.2.1 dX8_mayBeIn_41 (by decide) (fun q3 => ?_) (fun q3 => ?_)
  · have hf := x_pos q3 hf
    refine lv_iload_n (pc := 87) E.1 E.2.1 dX8_mayBeIn_87 rfl (lv_at hl 3 rfl) ?_
    refine lv_iconst (v := 4) (pc := 88) E.1 E.2.1 dX8_mayBeIn_88 (by decide) ?_
    refine lv_icmp_ge (tgt := 96) (pc := 89) E.1 E.2.1 dX8_mayBeIn_89 (by decide) (fun q4 => ?_) (fun q4 => ?_)
    · have hf := x_pos q4 hf
      refine lv_iconst (v := 0) (pc := 96) E.1 E.2.1 dX8_mayBeIn_96 (by decide) ?_
      obtain rfl := Option.some.inj hf
      exact x_retz (pc := 97) (v := 0) (r := 0) E hr hk hw (by decide) dX8_mayBeIn_97
    · have hf := x_neg q4 hf
      refine lv_iconst (v := 1) (pc := 92) E.1 E.2.1 dX8_mayBeIn_92 (by decide) ?_
      refine lv_goto (tgt := 97) (pc := 93) E.1 E.2.1 dX8_mayBeIn_93 (by decide) ?_
      obtain rfl := Option.some.inj hf
      exact x_retz (pc := 97) (v := 1) (r := 1) E hr hk hw (by decide) dX8_mayBeIn_97
  · have hf := x_neg q3 hf
    refine lv_aload_n (pc := 44) E.1 E.2.1 dX8_mayBeIn_44 rfl (lv_at hl 0 rfl) ?_
    refine xg_X8_17 (pc := 45) (v := .ref (ad 2)) E hw 0 rfl rfl dX8_mayBeIn_45 ?_
    refine lv_bipush (v := 20) (pc := 48) E.1 E.2.1 dX8_mayBeIn_48 (by decide) ?_
    refine lv_iconst (v := 3) (pc := 50) E.1 E.2.1 dX8_mayBeIn_50 (by decide) ?_
    refine lv_iload (pc := 51) E.1 E.2.1 dX8_mayBeIn_51 (lv_at hl 4 rfl) ?_
    refine lv_imul (pc := 53) E.1 E.2.1 dX8_mayBeIn_53 ?_
    refine lv_iadd (pc := 54) E.1 E.2.1 dX8_mayBeIn_54 ?_
    obtain ⟨v6, g5, hf⟩ := x_bind hf
    refine x_iald (pc := 55) E hw 2 rfl g5 dX8_mayBeIn_55 ?_
    refine lv_iload_n (pc := 56) E.1 E.2.1 dX8_mayBeIn_56 rfl (lv_at hl 1 rfl) ?_
    refine lv_icmp_ne (tgt := 81) (pc := 57) E.1 E.2.1 dX8_mayBeIn_57 (by decide) (fun q7 => ?_) (fun q7 => ?_)
    · have hf := x_neg q7 hf
      refine lv_iinc (v := (x4 + 1)) (lv' := [(4, .int (x4 + 1)), (0, .ref (ad 0)), (1, .int x1), (2, .int x2), (3, .int x3)]) (pc := 81) E.1 E.2.1 dX8_mayBeIn_81 hl (k := 4) rfl rfl (by decide) rfl (fun ls hl => ?_)
      refine lv_goto (tgt := 33) (pc := 84) E.1 E.2.1 dX8_mayBeIn_84 (by decide) ?_
      exact hk33 s x1 x2 x3 (x4 + 1) z hw (lv_sub hl [1, 2, 3, 4, 0] rfl) hf
    · have hf := x_pos q7 hf
      refine lv_aload_n (pc := 60) E.1 E.2.1 dX8_mayBeIn_60 rfl (lv_at hl 0 rfl) ?_
      refine xg_X8_17 (pc := 61) (v := .ref (ad 2)) E hw 0 rfl rfl dX8_mayBeIn_61 ?_
      refine lv_bipush (v := 20) (pc := 64) E.1 E.2.1 dX8_mayBeIn_64 (by decide) ?_
      refine lv_iconst (v := 3) (pc := 66) E.1 E.2.1 dX8_mayBeIn_66 (by decide) ?_
      refine lv_iload (pc := 67) E.1 E.2.1 dX8_mayBeIn_67 (lv_at hl 4 rfl) ?_
      refine lv_imul (pc := 69) E.1 E.2.1 dX8_mayBeIn_69 ?_
      refine lv_iadd (pc := 70) E.1 E.2.1 dX8_mayBeIn_70 ?_
      refine lv_iconst (v := 1) (pc := 71) E.1 E.2.1 dX8_mayBeIn_71 (by decide) ?_
      refine lv_iadd (pc := 72) E.1 E.2.1 dX8_mayBeIn_72 ?_
      obtain ⟨v9, g8, hf⟩ := x_bind hf
      refine x_iald (pc := 73) E hw 2 rfl g8 dX8_mayBeIn_73 ?_
      refine lv_iload_n (pc := 74) E.1 E.2.1 dX8_mayBeIn_74 rfl (lv_at hl 2 rfl) ?_
      refine lv_icmp_ne (tgt := 81) (pc := 75) E.1 E.2.1 dX8_mayBeIn_75 (by decide) (fun q10 => ?_) (fun q10 => ?_)
      · have hf := x_neg q10 hf
        refine lv_iinc (v := (x4 + 1)) (lv' := [(4, .int (x4 + 1)), (0, .ref (ad 0)), (1, .int x1), (2, .int x2), (3, .int x3)]) (pc := 81) E.1 E.2.1 dX8_mayBeIn_81 hl (k := 4) rfl rfl (by decide) rfl (fun ls hl => ?_)
        refine lv_goto (tgt := 33) (pc := 84) E.1 E.2.1 dX8_mayBeIn_84 (by decide) ?_
        exact hk33 s x1 x2 x3 (x4 + 1) z hw (lv_sub hl [1, 2, 3, 4, 0] rfl) hf
      · have hf := x_pos q10 hf
        refine lv_iinc (v := (x3 + 1)) (lv' := [(3, .int (x3 + 1)), (0, .ref (ad 0)), (1, .int x1), (2, .int x2), (4, .int x4)]) (pc := 78) E.1 E.2.1 dX8_mayBeIn_78 hl (k := 3) rfl rfl (by decide) rfl (fun ls hl => ?_)
        refine lv_iinc (v := (x4 + 1)) (lv' := [(4, .int (x4 + 1)), (3, .int (x3 + 1)), (0, .ref (ad 0)), (1, .int x1), (2, .int x2)]) (pc := 81) E.1 E.2.1 dX8_mayBeIn_81 hl (k := 4) rfl rfl (by decide) rfl (fun ls hl => ?_)
        refine lv_goto (tgt := 33) (pc := 84) E.1 E.2.1 dX8_mayBeIn_84 (by decide) ?_
        exact hk33 s x1 x2 (x3 + 1) (x4 + 1) z hw (lv_sub hl [2, 3, 4, 1, 0] rfl) hf
set_option maxHeartbeats 4000000 in
set_option maxRecDepth 100000 in
theorem wl_X8_mayBeIn_p33 {p : Program} {l : Launch} {e : Env} {sS : State} {m : MethodId} {args : Array Value} {below : List Frame} {meth : Method} {c : Code} {G : xG} {W0 : va_W} {ad : Nat → Nat}   (E : xE p sS m args c cX8_mayBeIn 5 RX8 G (x_in W0)) (hr : meth.sig.returnType = (some .boolean)) (hk : meth.locks = false)  : ∀ (s' : S8) (x1' : Int32) (x2' : Int32) (x3' : Int32) (x4' : Int32) (z : Int32) {H : Heap} {locs : List Loc} {ls : Array Slot}, xW G (x_in W0) sS.heap (cells8 G ad s') H locs → lv_has ls 5 [(0, .ref (ad 0)), (1, .int x1'), (2, .int x2'), (3, .int x3'), (4, .int x4')] → lp_X8_mayBeIn_p33  s' x1' x2' x3' x4' = some z → W p l e (rm_X8_mayBeIn) sS m args below meth c H locs 0 0 (MQ below (xQ G W0 (cells8 G ad s') (some (.int z))) args sS 0 0 (x_in W0)) (F0 m 33 ls []) := by
  intro s x1 x2 x3 x4 z H locs ls hw hl hf
  exact x_loop_W (P := fun (q : S8 × Int32 × Int32 × Int32 × Int32) (z : Int32) => ∀ {H : Heap} {locs : List Loc} {ls : Array Slot}, xW G (x_in W0) sS.heap (cells8 G ad q.1) H locs → lv_has ls 5 [(0, .ref (ad 0)), (1, .int q.2.1), (2, .int q.2.2.1), (3, .int q.2.2.2.1), (4, .int q.2.2.2.2)] → W p l e (rm_X8_mayBeIn) sS m args below meth c H locs 0 0 (MQ below (xQ G W0 (cells8 G ad q.1) (some (.int z))) args sS 0 0 (x_in W0)) (F0 m 33 ls [])) (fun k hkk q z hf H locs ls hw hl => w_X8_mayBeIn_p33 E hr hk  (fun s x1 x2 x3 x4 z H locs ls hw hl hf => hkk (s, x1, x2, x3, x4) z hf hw hl) q.1 q.2.1 q.2.2.1 q.2.2.2.1 q.2.2.2.2 z hw hl hf) FU (s, x1, x2, x3, x4) z hf hw hl
set_option maxHeartbeats 4000000 in
set_option maxRecDepth 100000 in
theorem w_X8_mayBeIn_p0 {p : Program} {l : Launch} {e : Env} {sS : State} {m : MethodId} {args : Array Value} {below : List Frame} {meth : Method} {c : Code} {G : xG} {W0 : va_W} {ad : Nat → Nat}   (E : xE p sS m args c cX8_mayBeIn 5 RX8 G (x_in W0)) (hr : meth.sig.returnType = (some .boolean)) (hk : meth.locks = false)  : ∀ (s' : S8) (x1' : Int32) (x2' : Int32) (z : Int32) {H : Heap} {locs : List Loc} {ls : Array Slot}, xW G (x_in W0) sS.heap (cells8 G ad s') H locs → lv_has ls 5 [(0, .ref (ad 0)), (1, .int x1'), (2, .int x2')] → f_X8_mayBeIn  s' x1' x2' = some z → W p l e (rm_X8_mayBeIn) sS m args below meth c H locs 0 0 (MQ below (xQ G W0 (cells8 G ad s') (some (.int z))) args sS 0 0 (x_in W0)) (F0 m 0 ls []) := by
  intro s x1 x2 z H locs ls hw hl hf
  unfold f_X8_mayBeIn at hf
  refine lv_iload_n (pc := 0) E.1 E.2.1 dX8_mayBeIn_0 rfl (lv_at hl 2 rfl) ?_
  obtain ⟨v1, g2, hf⟩ := x_bind hf
  refine x_callS0 (pc := 1) (As := [.int x2]) (rest := []) (st1 := [.int v1]) E hw hl (c_X8_isYear l G  x2 g2) xs_X8_131 xd_X8_isYear rfl rfl ⟨Nat.le_of_ble_eq_true rfl, Nat.le_of_ble_eq_true rfl⟩ rfl rfl (Nat.le_of_ble_eq_true rfl) rfl dX8_mayBeIn_1 (fun H locs hw => ?_)
  refine lv_if_eq (tgt := 26) (pc := 4) E.1 E.2.1 dX8_mayBeIn_4 (by decide) (fun q3 => ?_) (fun q3 => ?_)
  · have hf := x_pos q3 hf
    refine lv_iconst (v := 0) (pc := 26) E.1 E.2.1 dX8_mayBeIn_26 (by decide) ?_
    obtain rfl := Option.some.inj hf
    exact x_retz (pc := 27) (v := 0) (r := 0) E hr hk hw (by decide) dX8_mayBeIn_27
  · have hf := x_neg q3 hf
    refine lv_aload_n (pc := 7) E.1 E.2.1 dX8_mayBeIn_7 rfl (lv_at hl 0 rfl) ?_
    refine xg_X8_17 (pc := 8) (v := .ref (ad 2)) E hw 0 rfl rfl dX8_mayBeIn_8 ?_
    refine lv_iconst (v := 4) (pc := 11) E.1 E.2.1 dX8_mayBeIn_11 (by decide) ?_
    refine lv_iconst (v := 2) (pc := 12) E.1 E.2.1 dX8_mayBeIn_12 (by decide) ?_
    refine lv_iload_n (pc := 13) E.1 E.2.1 dX8_mayBeIn_13 rfl (lv_at hl 1 rfl) ?_
    refine lv_imul (pc := 14) E.1 E.2.1 dX8_mayBeIn_14 ?_
    refine lv_iadd (pc := 15) E.1 E.2.1 dX8_mayBeIn_15 ?_
    refine lv_iconst (v := 1) (pc := 16) E.1 E.2.1 dX8_mayBeIn_16 (by decide) ?_
    refine lv_iadd (pc := 17) E.1 E.2.1 dX8_mayBeIn_17 ?_
    obtain ⟨v5, g4, hf⟩ := x_bind hf
    refine x_iald (pc := 18) E hw 2 rfl g4 dX8_mayBeIn_18 ?_
    refine lv_iload_n (pc := 19) E.1 E.2.1 dX8_mayBeIn_19 rfl (lv_at hl 2 rfl) ?_
    refine lv_ishr (pc := 20) E.1 E.2.1 dX8_mayBeIn_20 ?_
    refine lv_iconst (v := 1) (pc := 21) E.1 E.2.1 dX8_mayBeIn_21 (by decide) ?_
    refine lv_iand (pc := 22) E.1 E.2.1 dX8_mayBeIn_22 ?_
    refine lv_if_ne (tgt := 28) (pc := 23) E.1 E.2.1 dX8_mayBeIn_23 (by decide) (fun q6 => ?_) (fun q6 => ?_)
    · have hf := x_neg q6 hf
      refine lv_iconst (v := 0) (pc := 28) E.1 E.2.1 dX8_mayBeIn_28 (by decide) ?_
      refine lv_istore_n (lv' := [(3, .int 0), (0, .ref (ad 0)), (1, .int x1), (2, .int x2)]) (pc := 29) E.1 E.2.1 dX8_mayBeIn_29 rfl hl (by decide) rfl (fun ls hl => ?_)
      refine lv_iconst (v := 0) (pc := 30) E.1 E.2.1 dX8_mayBeIn_30 (by decide) ?_
      refine lv_istore (lv' := [(4, .int 0), (3, .int 0), (0, .ref (ad 0)), (1, .int x1), (2, .int x2)]) (pc := 31) E.1 E.2.1 dX8_mayBeIn_31 hl (by decide) rfl (fun ls hl => ?_)
      exact wl_X8_mayBeIn_p33 E hr hk  s x1 x2 0 0 z hw (lv_sub hl [2, 3, 4, 1, 0] rfl) hf
    · have hf := x_pos q6 hf
      refine lv_iconst (v := 0) (pc := 26) E.1 E.2.1 dX8_mayBeIn_26 (by decide) ?_
      obtain rfl := Option.some.inj hf
      exact x_retz (pc := 27) (v := 0) (r := 0) E hr hk hw (by decide) dX8_mayBeIn_27
set_option maxHeartbeats 4000000 in
set_option maxRecDepth 100000 in
theorem c_X8_mayBeIn (l : Launch) (G : xG) (ad : Nat → Nat) (s : S8) (x1 : Int32) (x2 : Int32) {z : Int32} (hf : f_X8_mayBeIn s x1 x2 = some z) : xC l yX8_mayBeIn cX8_mayBeIn 5 (some .boolean) (rm_X8_mayBeIn) G [.ref (ad 0), .int x1, .int x2] (cells8 G ad s) (some (.int z)) (cells8 G ad s) :=
  x_met (by decide) (Nat.le_of_ble_eq_true rfl) (fun p e sS m below meth c E hr hk ls hl hw => w_X8_mayBeIn_p0 E hr hk s x1 x2 z hw hl hf)
set_option maxHeartbeats 4000000 in
set_option maxRecDepth 100000 in
theorem w_X8_readsClaim_p0 {p : Program} {l : Launch} {e : Env} {sS : State} {m : MethodId} {args : Array Value} {below : List Frame} {meth : Method} {c : Code} {G : xG} {W0 : va_W} {ad : Nat → Nat}   (E : xE p sS m args c cX8_readsClaim 3 RX8 G (x_in W0)) (hr : meth.sig.returnType = none) (hk : meth.locks = false)  : ∀ (s' : S8) (x1' : Int32) (z : S8) {H : Heap} {locs : List Loc} {ls : Array Slot}, xW G (x_in W0) sS.heap (cells8 G ad s') H locs → lv_has ls 3 [(0, .ref (ad 0)), (1, .int x1')] → f_X8_readsClaim  s' x1' = some z → W p l e (rm_X8_readsClaim) sS m args below meth c H locs 0 0 (MQ below (xQ G W0 (cells8 G ad z) none) args sS 0 0 (x_in W0)) (F0 m 0 ls []) := by
  intro s x1 z H locs ls hw hl hf
  unfold f_X8_readsClaim at hf
  refine lv_aload_n (pc := 0) E.1 E.2.1 dX8_readsClaim_0 rfl (lv_at hl 0 rfl) ?_
  refine lv_iconst (v := 3) (pc := 1) E.1 E.2.1 dX8_readsClaim_1 (by decide) ?_
  refine lv_bipush (v := 40) (pc := 2) E.1 E.2.1 dX8_readsClaim_2 (by decide) ?_
  refine lv_iload_n (pc := 4) E.1 E.2.1 dX8_readsClaim_4 rfl (lv_at hl 1 rfl) ?_
  obtain ⟨v1, g2, hf⟩ := x_bind hf
  refine x_callVA (pc := 5) (As := [.int 3, .int 40, .int x1]) (rest := []) (st1 := [.int v1.1]) (ws' := (cells8 G ad v1.2)) E hw hl (c_X8_isRoom l G ad s 3 40 x1 g2) xv_X8_325 xd_X8_isRoom rfl rfl ⟨Nat.le_of_ble_eq_true rfl, Nat.le_of_ble_eq_true rfl⟩ (q0 := 0) rfl rfl rfl rfl (Nat.le_of_ble_eq_true rfl) rfl rfl dX8_readsClaim_5 (fun H locs hw => ?_)
  refine lv_if_ne (tgt := 12) (pc := 8) E.1 E.2.1 dX8_readsClaim_8 (by decide) (fun q3 => ?_) (fun q3 => ?_)
  · have hf := x_neg q3 hf
    refine lv_bipush (v := 20) (pc := 12) E.1 E.2.1 dX8_readsClaim_12 (by decide) ?_
    refine lv_iconst (v := 3) (pc := 14) E.1 E.2.1 dX8_readsClaim_14 (by decide) ?_
    refine lv_aload_n (pc := 15) E.1 E.2.1 dX8_readsClaim_15 rfl (lv_at hl 0 rfl) ?_
    refine xg_X8_17 (pc := 16) (v := .ref (ad 2)) E hw 0 rfl rfl dX8_readsClaim_16 ?_
    refine lv_iconst (v := 3) (pc := 19) E.1 E.2.1 dX8_readsClaim_19 (by decide) ?_
    obtain ⟨v5, g4, hf⟩ := x_bind hf
    refine x_iald (pc := 20) E hw 2 rfl g4 dX8_readsClaim_20 ?_
    refine lv_imul (pc := 21) E.1 E.2.1 dX8_readsClaim_21 ?_
    refine lv_iadd (pc := 22) E.1 E.2.1 dX8_readsClaim_22 ?_
    refine lv_istore_n (lv' := [(2, .int (20 + (3 * v5))), (0, .ref (ad 0)), (1, .int x1)]) (pc := 23) E.1 E.2.1 dX8_readsClaim_23 rfl hl (by decide) rfl (fun ls hl => ?_)
    refine lv_aload_n (pc := 24) E.1 E.2.1 dX8_readsClaim_24 rfl (lv_at hl 1 rfl) ?_
    refine xg_X8_17 (pc := 25) (v := .ref (ad 2)) E hw 0 rfl rfl dX8_readsClaim_25 ?_
    refine lv_iload_n (pc := 28) E.1 E.2.1 dX8_readsClaim_28 rfl (lv_at hl 0 rfl) ?_
    refine lv_aload_n (pc := 29) E.1 E.2.1 dX8_readsClaim_29 rfl (lv_at hl 1 rfl) ?_
    refine lv_iconst (v := 0) (pc := 30) E.1 E.2.1 dX8_readsClaim_30 (by decide) ?_
    refine lv_aload_n (pc := 31) E.1 E.2.1 dX8_readsClaim_31 rfl (lv_at hl 1 rfl) ?_
    refine xg_X8_17 (pc := 32) (v := .ref (ad 2)) E hw 0 rfl rfl dX8_readsClaim_32 ?_
    refine lv_iconst (v := 2) (pc := 35) E.1 E.2.1 dX8_readsClaim_35 (by decide) ?_
    obtain ⟨v7, g6, hf⟩ := x_bind hf
    refine x_iald (pc := 36) E hw 2 rfl g6 dX8_readsClaim_36 ?_
    refine lv_iconst (v := 1) (pc := 37) E.1 E.2.1 dX8_readsClaim_37 (by decide) ?_
    refine lv_isub (pc := 38) E.1 E.2.1 dX8_readsClaim_38 ?_
    obtain ⟨v8, g9, hf⟩ := x_bind hf
    refine x_callVA (pc := 39) (As := [.int 0, .int (v7 - 1)]) (rest := [.int (20 + (3 * v5)), .ref (ad 2)]) (st1 := [.int v8.1, .int (20 + (3 * v5)), .ref (ad 2)]) (ws' := (cells8 G ad v8.2)) E hw hl (c_X8_needsNumber l G ad v1.2 0 (v7 - 1) g9) xv_X8_328 xd_X8_needsNumber rfl rfl ⟨Nat.le_of_ble_eq_true rfl, Nat.le_of_ble_eq_true rfl⟩ (q0 := 0) rfl rfl rfl rfl (Nat.le_of_ble_eq_true rfl) rfl rfl dX8_readsClaim_39 (fun H locs hw => ?_)
    obtain ⟨w11, g10, hf⟩ := x_bind hf
    refine x_iast (pc := 42) (ws' := (cells8 G ad (u8_read v8.2 w11))) E hw 2 rfl g10 rfl dX8_readsClaim_42 (fun H locs hw => ?_)
    refine lv_aload_n (pc := 43) E.1 E.2.1 dX8_readsClaim_43 rfl (lv_at hl 1 rfl) ?_
    refine xg_X8_318 (pc := 44) (v := .int (g8_wrong (u8_read v8.2 w11))) E hw 0 rfl rfl dX8_readsClaim_44 ?_
    refine lv_if_ne (tgt := 75) (pc := 47) E.1 E.2.1 dX8_readsClaim_47 (by decide) (fun q12 => ?_) (fun q12 => ?_)
    · have hf := x_neg q12 hf
      refine lv_aload_n (pc := 75) E.1 E.2.1 dX8_readsClaim_75 rfl (lv_at hl 1 rfl) ?_
      refine lv_iconst (v := 1) (pc := 76) E.1 E.2.1 dX8_readsClaim_76 (by decide) ?_
      refine xp_X8_318 (pc := 77) (v := .int 1) (ws' := (cells8 G ad (u8_wrong (u8_read v8.2 w11) 1))) E hw 0 rfl (by decide) rfl (Nat.le_of_ble_eq_true rfl) rfl dX8_readsClaim_77 (fun H locs hw => ?_)
      obtain rfl := Option.some.inj hf
      exact x_retv (pc := 80) E hr hk hw dX8_readsClaim_80
    · have hf := x_pos q12 hf
      refine lv_aload_n (pc := 50) E.1 E.2.1 dX8_readsClaim_50 rfl (lv_at hl 1 rfl) ?_
      refine xg_X8_306 (pc := 51) (v := .int (g8_token (u8_read v8.2 w11))) E hw 0 rfl rfl dX8_readsClaim_51 ?_
      refine lv_iconst (v := 2) (pc := 54) E.1 E.2.1 dX8_readsClaim_54 (by decide) ?_
      refine lv_icmp_ne (tgt := 75) (pc := 55) E.1 E.2.1 dX8_readsClaim_55 (by decide) (fun q13 => ?_) (fun q13 => ?_)
      · have hf := x_neg q13 hf
        refine lv_aload_n (pc := 75) E.1 E.2.1 dX8_readsClaim_75 rfl (lv_at hl 1 rfl) ?_
        refine lv_iconst (v := 1) (pc := 76) E.1 E.2.1 dX8_readsClaim_76 (by decide) ?_
        refine xp_X8_318 (pc := 77) (v := .int 1) (ws' := (cells8 G ad (u8_wrong (u8_read v8.2 w11) 1))) E hw 0 rfl (by decide) rfl (Nat.le_of_ble_eq_true rfl) rfl dX8_readsClaim_77 (fun H locs hw => ?_)
        obtain rfl := Option.some.inj hf
        exact x_retv (pc := 80) E hr hk hw dX8_readsClaim_80
      · have hf := x_pos q13 hf
        refine lv_aload_n (pc := 58) E.1 E.2.1 dX8_readsClaim_58 rfl (lv_at hl 1 rfl) ?_
        refine lv_aload_n (pc := 59) E.1 E.2.1 dX8_readsClaim_59 rfl (lv_at hl 1 rfl) ?_
        refine xg_X8_17 (pc := 60) (v := .ref (ad 2)) E hw 0 rfl rfl dX8_readsClaim_60 ?_
        refine lv_iload_n (pc := 63) E.1 E.2.1 dX8_readsClaim_63 rfl (lv_at hl 0 rfl) ?_
        obtain ⟨v15, g14, hf⟩ := x_bind hf
        refine x_iald (pc := 64) E hw 2 rfl g14 dX8_readsClaim_64 ?_
        refine lv_aload_n (pc := 65) E.1 E.2.1 dX8_readsClaim_65 rfl (lv_at hl 1 rfl) ?_
        refine xg_X8_315 (pc := 66) (v := .int (g8_number (u8_read v8.2 w11))) E hw 0 rfl rfl dX8_readsClaim_66 ?_
        obtain ⟨v16, g17, hf⟩ := x_bind hf
        refine x_callVA (pc := 69) (As := [.int v15, .int (g8_number (u8_read v8.2 w11))]) (rest := []) (st1 := [.int v16]) (ws' := (cells8 G ad (u8_read v8.2 w11))) E hw hl (c_X8_mayBeIn l G ad (u8_read v8.2 w11) v15 (g8_number (u8_read v8.2 w11)) g17) xv_X8_331 xd_X8_mayBeIn rfl rfl ⟨Nat.le_of_ble_eq_true rfl, Nat.le_of_ble_eq_true rfl⟩ (q0 := 0) rfl rfl rfl rfl (Nat.le_of_ble_eq_true rfl) rfl rfl dX8_readsClaim_69 (fun H locs hw => ?_)
        refine lv_if_ne (tgt := 81) (pc := 72) E.1 E.2.1 dX8_readsClaim_72 (by decide) (fun q18 => ?_) (fun q18 => ?_)
        · have hf := x_neg q18 hf
          refine lv_aload_n (pc := 81) E.1 E.2.1 dX8_readsClaim_81 rfl (lv_at hl 1 rfl) ?_
          refine xg_X8_17 (pc := 82) (v := .ref (ad 2)) E hw 0 rfl rfl dX8_readsClaim_82 ?_
          refine lv_iload_n (pc := 85) E.1 E.2.1 dX8_readsClaim_85 rfl (lv_at hl 0 rfl) ?_
          refine lv_iconst (v := 1) (pc := 86) E.1 E.2.1 dX8_readsClaim_86 (by decide) ?_
          refine lv_iadd (pc := 87) E.1 E.2.1 dX8_readsClaim_87 ?_
          refine lv_aload_n (pc := 88) E.1 E.2.1 dX8_readsClaim_88 rfl (lv_at hl 1 rfl) ?_
          refine lv_iconst (v := 0) (pc := 89) E.1 E.2.1 dX8_readsClaim_89 (by decide) ?_
          refine lv_iconst (v := 4) (pc := 90) E.1 E.2.1 dX8_readsClaim_90 (by decide) ?_
          obtain ⟨v19, g20, hf⟩ := x_bind hf
          refine x_callVA (pc := 91) (As := [.int 0, .int 4]) (rest := [.int ((20 + (3 * v5)) + 1), .ref (ad 2)]) (st1 := [.int v19.1, .int ((20 + (3 * v5)) + 1), .ref (ad 2)]) (ws' := (cells8 G ad v19.2)) E hw hl (c_X8_needsNumber l G ad (u8_read v8.2 w11) 0 4 g20) xv_X8_328 xd_X8_needsNumber rfl rfl ⟨Nat.le_of_ble_eq_true rfl, Nat.le_of_ble_eq_true rfl⟩ (q0 := 0) rfl rfl rfl rfl (Nat.le_of_ble_eq_true rfl) rfl rfl dX8_readsClaim_91 (fun H locs hw => ?_)
          obtain ⟨w22, g21, hf⟩ := x_bind hf
          refine x_iast (pc := 94) (ws' := (cells8 G ad (u8_read v19.2 w22))) E hw 2 rfl g21 rfl dX8_readsClaim_94 (fun H locs hw => ?_)
          refine lv_aload_n (pc := 95) E.1 E.2.1 dX8_readsClaim_95 rfl (lv_at hl 1 rfl) ?_
          refine xg_X8_17 (pc := 96) (v := .ref (ad 2)) E hw 0 rfl rfl dX8_readsClaim_96 ?_
          refine lv_iload_n (pc := 99) E.1 E.2.1 dX8_readsClaim_99 rfl (lv_at hl 0 rfl) ?_
          refine lv_iconst (v := 2) (pc := 100) E.1 E.2.1 dX8_readsClaim_100 (by decide) ?_
          refine lv_iadd (pc := 101) E.1 E.2.1 dX8_readsClaim_101 ?_
          refine lv_aload_n (pc := 102) E.1 E.2.1 dX8_readsClaim_102 rfl (lv_at hl 1 rfl) ?_
          refine lv_iconst (v := 1) (pc := 103) E.1 E.2.1 dX8_readsClaim_103 (by decide) ?_
          refine lv_bipush (v := 99) (pc := 104) E.1 E.2.1 dX8_readsClaim_104 (by decide) ?_
          obtain ⟨v23, g24, hf⟩ := x_bind hf
          refine x_callVA (pc := 106) (As := [.int 1, .int 99]) (rest := [.int ((20 + (3 * v5)) + 2), .ref (ad 2)]) (st1 := [.int v23.1, .int ((20 + (3 * v5)) + 2), .ref (ad 2)]) (ws' := (cells8 G ad v23.2)) E hw hl (c_X8_needsNumber l G ad (u8_read v19.2 w22) 1 99 g24) xv_X8_328 xd_X8_needsNumber rfl rfl ⟨Nat.le_of_ble_eq_true rfl, Nat.le_of_ble_eq_true rfl⟩ (q0 := 0) rfl rfl rfl rfl (Nat.le_of_ble_eq_true rfl) rfl rfl dX8_readsClaim_106 (fun H locs hw => ?_)
          obtain ⟨w26, g25, hf⟩ := x_bind hf
          refine x_iast (pc := 109) (ws' := (cells8 G ad (u8_read v23.2 w26))) E hw 2 rfl g25 rfl dX8_readsClaim_109 (fun H locs hw => ?_)
          refine lv_aload_n (pc := 110) E.1 E.2.1 dX8_readsClaim_110 rfl (lv_at hl 1 rfl) ?_
          refine xg_X8_17 (pc := 111) (v := .ref (ad 2)) E hw 0 rfl rfl dX8_readsClaim_111 ?_
          refine lv_iconst (v := 3) (pc := 114) E.1 E.2.1 dX8_readsClaim_114 (by decide) ?_
          refine lv_dup2_11 (pc := 115) E.1 E.2.1 dX8_readsClaim_115 rfl rfl ?_
          obtain ⟨v28, g27, hf⟩ := x_bind hf
          refine x_iald (pc := 116) E hw 2 rfl g27 dX8_readsClaim_116 ?_
          refine lv_iconst (v := 1) (pc := 117) E.1 E.2.1 dX8_readsClaim_117 (by decide) ?_
          refine lv_iadd (pc := 118) E.1 E.2.1 dX8_readsClaim_118 ?_
          obtain ⟨w30, g29, hf⟩ := x_bind hf
          refine x_iast (pc := 119) (ws' := (cells8 G ad (u8_read (u8_read v23.2 w26) w30))) E hw 2 rfl g29 rfl dX8_readsClaim_119 (fun H locs hw => ?_)
          obtain rfl := Option.some.inj hf
          exact x_retv (pc := 120) E hr hk hw dX8_readsClaim_120
        · have hf := x_pos q18 hf
          refine lv_aload_n (pc := 75) E.1 E.2.1 dX8_readsClaim_75 rfl (lv_at hl 1 rfl) ?_
          refine lv_iconst (v := 1) (pc := 76) E.1 E.2.1 dX8_readsClaim_76 (by decide) ?_
          refine xp_X8_318 (pc := 77) (v := .int 1) (ws' := (cells8 G ad (u8_wrong (u8_read v8.2 w11) 1))) E hw 0 rfl (by decide) rfl (Nat.le_of_ble_eq_true rfl) rfl dX8_readsClaim_77 (fun H locs hw => ?_)
          obtain rfl := Option.some.inj hf
          exact x_retv (pc := 80) E hr hk hw dX8_readsClaim_80
  · have hf := x_pos q3 hf
    obtain rfl := Option.some.inj hf
    exact x_retv (pc := 11) E hr hk hw dX8_readsClaim_11
set_option maxHeartbeats 4000000 in
set_option maxRecDepth 100000 in
theorem c_X8_readsClaim (l : Launch) (G : xG) (ad : Nat → Nat) (s : S8) (x1 : Int32) {z : S8} (hf : f_X8_readsClaim s x1 = some z) : xC l yX8_readsClaim cX8_readsClaim 3 none (rm_X8_readsClaim) G [.ref (ad 0), .int x1] (cells8 G ad s) none (cells8 G ad z) :=
  x_met (by decide) (Nat.le_of_ble_eq_true rfl) (fun p e sS m below meth c E hr hk ls hl hw => w_X8_readsClaim_p0 E hr hk s x1 z hw hl hf)
set_option maxHeartbeats 4000000 in
set_option maxRecDepth 100000 in
theorem w_X8_readsOne_p90 {p : Program} {l : Launch} {e : Env} {sS : State} {m : MethodId} {args : Array Value} {below : List Frame} {meth : Method} {c : Code} {G : xG} {W0 : va_W} {ad : Nat → Nat}   (E : xE p sS m args c cX8_readsOne 2 RX8 G (x_in W0)) (hr : meth.sig.returnType = none) (hk : meth.locks = false)  : ∀ (s' : S8) (z : S8) {H : Heap} {locs : List Loc} {ls : Array Slot}, xW G (x_in W0) sS.heap (cells8 G ad s') H locs → lv_has ls 2 [(0, .ref (ad 0))] → f_X8_readsOne_p90  s' = some z → W p l e (rm_X8_readsOne) sS m args below meth c H locs 0 0 (MQ below (xQ G W0 (cells8 G ad z) none) args sS 0 0 (x_in W0)) (F0 m 90 ls []) := by
  intro s z H locs ls hw hl hf
  unfold f_X8_readsOne_p90 at hf
  refine lv_aload_n (pc := 90) E.1 E.2.1 dX8_readsOne_90 rfl (lv_at hl 0 rfl) ?_
  refine xg_X8_318 (pc := 91) (v := .int (g8_wrong s)) E hw 0 rfl rfl dX8_readsOne_91 ?_
  refine lv_if_eq (tgt := 98) (pc := 94) E.1 E.2.1 dX8_readsOne_94 (by decide) (fun q1 => ?_) (fun q1 => ?_)
  · have hf := x_pos q1 hf
    refine lv_aload_n (pc := 98) E.1 E.2.1 dX8_readsOne_98 rfl (lv_at hl 0 rfl) ?_
    refine xg_X8_306 (pc := 99) (v := .int (g8_token s)) E hw 0 rfl rfl dX8_readsOne_99 ?_
    refine lv_iconst (v := 3) (pc := 102) E.1 E.2.1 dX8_readsOne_102 (by decide) ?_
    refine lv_icmp_ne (tgt := 113) (pc := 103) E.1 E.2.1 dX8_readsOne_103 (by decide) (fun q2 => ?_) (fun q2 => ?_)
    · have hf := x_neg q2 hf
      refine lv_aload_n (pc := 113) E.1 E.2.1 dX8_readsOne_113 rfl (lv_at hl 0 rfl) ?_
      refine lv_iconst (v := 1) (pc := 114) E.1 E.2.1 dX8_readsOne_114 (by decide) ?_
      refine xp_X8_318 (pc := 115) (v := .int 1) (ws' := (cells8 G ad (u8_wrong s 1))) E hw 0 rfl (by decide) rfl (Nat.le_of_ble_eq_true rfl) rfl dX8_readsOne_115 (fun H locs hw => ?_)
      obtain rfl := Option.some.inj hf
      exact x_retv (pc := 118) E hr hk hw dX8_readsOne_118
    · have hf := x_pos q2 hf
      refine lv_aload_n (pc := 106) E.1 E.2.1 dX8_readsOne_106 rfl (lv_at hl 0 rfl) ?_
      obtain ⟨v3, g4, hf⟩ := x_bind hf
      refine x_callVA (pc := 107) (As := []) (rest := []) (st1 := []) (ws' := (cells8 G ad v3)) E hw hl (c_X8_goesOn l G ad s g4) xv_X8_322 xd_X8_goesOn rfl rfl ⟨Nat.le_of_ble_eq_true rfl, Nat.le_of_ble_eq_true rfl⟩ (q0 := 0) rfl rfl rfl rfl (Nat.le_of_ble_eq_true rfl) rfl rfl dX8_readsOne_107 (fun H locs hw => ?_)
      refine lv_goto (tgt := 118) (pc := 110) E.1 E.2.1 dX8_readsOne_110 (by decide) ?_
      obtain rfl := Option.some.inj hf
      exact x_retv (pc := 118) E hr hk hw dX8_readsOne_118
  · have hf := x_neg q1 hf
    obtain rfl := Option.some.inj hf
    exact x_retv (pc := 97) E hr hk hw dX8_readsOne_97
set_option maxHeartbeats 4000000 in
set_option maxRecDepth 100000 in
theorem w_X8_readsOne_p0 {p : Program} {l : Launch} {e : Env} {sS : State} {m : MethodId} {args : Array Value} {below : List Frame} {meth : Method} {c : Code} {G : xG} {W0 : va_W} {ad : Nat → Nat}   (E : xE p sS m args c cX8_readsOne 2 RX8 G (x_in W0)) (hr : meth.sig.returnType = none) (hk : meth.locks = false)  : ∀ (s' : S8) (z : S8) {H : Heap} {locs : List Loc} {ls : Array Slot}, xW G (x_in W0) sS.heap (cells8 G ad s') H locs → lv_has ls 2 [(0, .ref (ad 0))] → f_X8_readsOne  s' = some z → W p l e (rm_X8_readsOne) sS m args below meth c H locs 0 0 (MQ below (xQ G W0 (cells8 G ad z) none) args sS 0 0 (x_in W0)) (F0 m 0 ls []) := by
  intro s z H locs ls hw hl hf
  unfold f_X8_readsOne at hf
  refine lv_aload_n (pc := 0) E.1 E.2.1 dX8_readsOne_0 rfl (lv_at hl 0 rfl) ?_
  refine xg_X8_312 (pc := 1) (v := .int (g8_begun s)) E hw 0 rfl rfl dX8_readsOne_1 ?_
  refine lv_istore_n (lv' := [(1, .int (g8_begun s)), (0, .ref (ad 0))]) (pc := 4) E.1 E.2.1 dX8_readsOne_4 rfl hl (by decide) rfl (fun ls hl => ?_)
  refine lv_aload_n (pc := 5) E.1 E.2.1 dX8_readsOne_5 rfl (lv_at hl 1 rfl) ?_
  refine lv_iconst (v := 0) (pc := 6) E.1 E.2.1 dX8_readsOne_6 (by decide) ?_
  obtain ⟨v1, g2, hf⟩ := x_bind hf
  refine x_callVA (pc := 7) (As := [.int 0]) (rest := []) (st1 := [.int v1.1]) (ws' := (cells8 G ad v1.2)) E hw hl (c_X8_takesWord l G ad s 0 g2) xv_X8_334 xd_X8_takesWord rfl rfl ⟨Nat.le_of_ble_eq_true rfl, Nat.le_of_ble_eq_true rfl⟩ (q0 := 0) rfl rfl rfl rfl (Nat.le_of_ble_eq_true rfl) rfl rfl dX8_readsOne_7 (fun H locs hw => ?_)
  refine lv_if_eq (tgt := 29) (pc := 10) E.1 E.2.1 dX8_readsOne_10 (by decide) (fun q3 => ?_) (fun q3 => ?_)
  · have hf := x_pos q3 hf
    refine lv_aload_n (pc := 29) E.1 E.2.1 dX8_readsOne_29 rfl (lv_at hl 1 rfl) ?_
    refine lv_iconst (v := 1) (pc := 30) E.1 E.2.1 dX8_readsOne_30 (by decide) ?_
    obtain ⟨v4, g5, hf⟩ := x_bind hf
    refine x_callVA (pc := 31) (As := [.int 1]) (rest := []) (st1 := [.int v4.1]) (ws' := (cells8 G ad v4.2)) E hw hl (c_X8_takesWord l G ad v1.2 1 g5) xv_X8_334 xd_X8_takesWord rfl rfl ⟨Nat.le_of_ble_eq_true rfl, Nat.le_of_ble_eq_true rfl⟩ (q0 := 0) rfl rfl rfl rfl (Nat.le_of_ble_eq_true rfl) rfl rfl dX8_readsOne_31 (fun H locs hw => ?_)
    refine lv_if_eq (tgt := 53) (pc := 34) E.1 E.2.1 dX8_readsOne_34 (by decide) (fun q6 => ?_) (fun q6 => ?_)
    · have hf := x_pos q6 hf
      refine lv_aload_n (pc := 53) E.1 E.2.1 dX8_readsOne_53 rfl (lv_at hl 1 rfl) ?_
      refine lv_iconst (v := 2) (pc := 54) E.1 E.2.1 dX8_readsOne_54 (by decide) ?_
      obtain ⟨v7, g8, hf⟩ := x_bind hf
      refine x_callVA (pc := 55) (As := [.int 2]) (rest := []) (st1 := [.int v7.1]) (ws' := (cells8 G ad v7.2)) E hw hl (c_X8_takesWord l G ad v4.2 2 g8) xv_X8_334 xd_X8_takesWord rfl rfl ⟨Nat.le_of_ble_eq_true rfl, Nat.le_of_ble_eq_true rfl⟩ (q0 := 0) rfl rfl rfl rfl (Nat.le_of_ble_eq_true rfl) rfl rfl dX8_readsOne_55 (fun H locs hw => ?_)
      refine lv_if_eq (tgt := 69) (pc := 58) E.1 E.2.1 dX8_readsOne_58 (by decide) (fun q9 => ?_) (fun q9 => ?_)
      · have hf := x_pos q9 hf
        refine lv_aload_n (pc := 69) E.1 E.2.1 dX8_readsOne_69 rfl (lv_at hl 1 rfl) ?_
        refine lv_iconst (v := 3) (pc := 70) E.1 E.2.1 dX8_readsOne_70 (by decide) ?_
        obtain ⟨v10, g11, hf⟩ := x_bind hf
        refine x_callVA (pc := 71) (As := [.int 3]) (rest := []) (st1 := [.int v10.1]) (ws' := (cells8 G ad v10.2)) E hw hl (c_X8_takesWord l G ad v7.2 3 g11) xv_X8_334 xd_X8_takesWord rfl rfl ⟨Nat.le_of_ble_eq_true rfl, Nat.le_of_ble_eq_true rfl⟩ (q0 := 0) rfl rfl rfl rfl (Nat.le_of_ble_eq_true rfl) rfl rfl dX8_readsOne_71 (fun H locs hw => ?_)
        refine lv_if_eq (tgt := 85) (pc := 74) E.1 E.2.1 dX8_readsOne_74 (by decide) (fun q12 => ?_) (fun q12 => ?_)
        · have hf := x_pos q12 hf
          refine lv_aload_n (pc := 85) E.1 E.2.1 dX8_readsOne_85 rfl (lv_at hl 1 rfl) ?_
          refine lv_iconst (v := 1) (pc := 86) E.1 E.2.1 dX8_readsOne_86 (by decide) ?_
          refine xp_X8_318 (pc := 87) (v := .int 1) (ws' := (cells8 G ad (u8_wrong v10.2 1))) E hw 0 rfl (by decide) rfl (Nat.le_of_ble_eq_true rfl) rfl dX8_readsOne_87 (fun H locs hw => ?_)
          exact w_X8_readsOne_p90 E hr hk  (u8_wrong v10.2 1) z hw (lv_sub hl [1] rfl) hf
        · have hf := x_neg q12 hf
          refine lv_aload_n (pc := 77) E.1 E.2.1 dX8_readsOne_77 rfl (lv_at hl 1 rfl) ?_
          refine lv_iload_n (pc := 78) E.1 E.2.1 dX8_readsOne_78 rfl (lv_at hl 0 rfl) ?_
          obtain ⟨v13, g14, hf⟩ := x_bind hf
          refine x_callVA (pc := 79) (As := [.int (g8_begun s)]) (rest := []) (st1 := []) (ws' := (cells8 G ad v13)) E hw hl (c_X8_readsClaim l G ad v10.2 (g8_begun s) g14) xv_X8_340 xd_X8_readsClaim rfl rfl ⟨Nat.le_of_ble_eq_true rfl, Nat.le_of_ble_eq_true rfl⟩ (q0 := 0) rfl rfl rfl rfl (Nat.le_of_ble_eq_true rfl) rfl rfl dX8_readsOne_79 (fun H locs hw => ?_)
          refine lv_goto (tgt := 90) (pc := 82) E.1 E.2.1 dX8_readsOne_82 (by decide) ?_
          exact w_X8_readsOne_p90 E hr hk  v13 z hw (lv_sub hl [1] rfl) hf
      · have hf := x_neg q9 hf
        refine lv_aload_n (pc := 61) E.1 E.2.1 dX8_readsOne_61 rfl (lv_at hl 1 rfl) ?_
        refine lv_iload_n (pc := 62) E.1 E.2.1 dX8_readsOne_62 rfl (lv_at hl 0 rfl) ?_
        obtain ⟨v15, g16, hf⟩ := x_bind hf
        refine x_callVA (pc := 63) (As := [.int (g8_begun s)]) (rest := []) (st1 := []) (ws' := (cells8 G ad v15)) E hw hl (c_X8_readsFleet l G ad v7.2 (g8_begun s) g16) xv_X8_337 xd_X8_readsFleet rfl rfl ⟨Nat.le_of_ble_eq_true rfl, Nat.le_of_ble_eq_true rfl⟩ (q0 := 0) rfl rfl rfl rfl (Nat.le_of_ble_eq_true rfl) rfl rfl dX8_readsOne_63 (fun H locs hw => ?_)
        refine lv_goto (tgt := 90) (pc := 66) E.1 E.2.1 dX8_readsOne_66 (by decide) ?_
        exact w_X8_readsOne_p90 E hr hk  v15 z hw (lv_sub hl [1] rfl) hf
    · have hf := x_neg q6 hf
      refine lv_aload_n (pc := 37) E.1 E.2.1 dX8_readsOne_37 rfl (lv_at hl 1 rfl) ?_
      refine xg_X8_17 (pc := 38) (v := .ref (ad 2)) E hw 0 rfl rfl dX8_readsOne_38 ?_
      refine lv_iconst (v := 1) (pc := 41) E.1 E.2.1 dX8_readsOne_41 (by decide) ?_
      refine lv_aload_n (pc := 42) E.1 E.2.1 dX8_readsOne_42 rfl (lv_at hl 1 rfl) ?_
      refine lv_iconst (v := 0) (pc := 43) E.1 E.2.1 dX8_readsOne_43 (by decide) ?_
      refine lv_bipush (v := 50) (pc := 44) E.1 E.2.1 dX8_readsOne_44 (by decide) ?_
      obtain ⟨v17, g18, hf⟩ := x_bind hf
      refine x_callVA (pc := 46) (As := [.int 0, .int 50]) (rest := [.int 1, .ref (ad 2)]) (st1 := [.int v17.1, .int 1, .ref (ad 2)]) (ws' := (cells8 G ad v17.2)) E hw hl (c_X8_needsNumber l G ad v4.2 0 50 g18) xv_X8_328 xd_X8_needsNumber rfl rfl ⟨Nat.le_of_ble_eq_true rfl, Nat.le_of_ble_eq_true rfl⟩ (q0 := 0) rfl rfl rfl rfl (Nat.le_of_ble_eq_true rfl) rfl rfl dX8_readsOne_46 (fun H locs hw => ?_)
      obtain ⟨w20, g19, hf⟩ := x_bind hf
      refine x_iast (pc := 49) (ws' := (cells8 G ad (u8_read v17.2 w20))) E hw 2 rfl g19 rfl dX8_readsOne_49 (fun H locs hw => ?_)
      refine lv_goto (tgt := 90) (pc := 50) E.1 E.2.1 dX8_readsOne_50 (by decide) ?_
      exact w_X8_readsOne_p90 E hr hk  (u8_read v17.2 w20) z hw (lv_sub hl [1] rfl) hf
  · have hf := x_neg q3 hf
    refine lv_aload_n (pc := 13) E.1 E.2.1 dX8_readsOne_13 rfl (lv_at hl 1 rfl) ?_
    refine xg_X8_17 (pc := 14) (v := .ref (ad 2)) E hw 0 rfl rfl dX8_readsOne_14 ?_
    refine lv_iconst (v := 0) (pc := 17) E.1 E.2.1 dX8_readsOne_17 (by decide) ?_
    refine lv_aload_n (pc := 18) E.1 E.2.1 dX8_readsOne_18 rfl (lv_at hl 1 rfl) ?_
    refine lv_iconst (v := 1) (pc := 19) E.1 E.2.1 dX8_readsOne_19 (by decide) ?_
    refine lv_bipush (v := 99) (pc := 20) E.1 E.2.1 dX8_readsOne_20 (by decide) ?_
    obtain ⟨v21, g22, hf⟩ := x_bind hf
    refine x_callVA (pc := 22) (As := [.int 1, .int 99]) (rest := [.int 0, .ref (ad 2)]) (st1 := [.int v21.1, .int 0, .ref (ad 2)]) (ws' := (cells8 G ad v21.2)) E hw hl (c_X8_needsNumber l G ad v1.2 1 99 g22) xv_X8_328 xd_X8_needsNumber rfl rfl ⟨Nat.le_of_ble_eq_true rfl, Nat.le_of_ble_eq_true rfl⟩ (q0 := 0) rfl rfl rfl rfl (Nat.le_of_ble_eq_true rfl) rfl rfl dX8_readsOne_22 (fun H locs hw => ?_)
    obtain ⟨w24, g23, hf⟩ := x_bind hf
    refine x_iast (pc := 25) (ws' := (cells8 G ad (u8_read v21.2 w24))) E hw 2 rfl g23 rfl dX8_readsOne_25 (fun H locs hw => ?_)
    refine lv_goto (tgt := 90) (pc := 26) E.1 E.2.1 dX8_readsOne_26 (by decide) ?_
    exact w_X8_readsOne_p90 E hr hk  (u8_read v21.2 w24) z hw (lv_sub hl [1] rfl) hf
set_option maxHeartbeats 4000000 in
set_option maxRecDepth 100000 in
theorem c_X8_readsOne (l : Launch) (G : xG) (ad : Nat → Nat) (s : S8) {z : S8} (hf : f_X8_readsOne s = some z) : xC l yX8_readsOne cX8_readsOne 2 none (rm_X8_readsOne) G [.ref (ad 0)] (cells8 G ad s) none (cells8 G ad z) :=
  x_met (by decide) (Nat.le_of_ble_eq_true rfl) (fun p e sS m below meth c E hr hk ls hl hw => w_X8_readsOne_p0 E hr hk s z hw hl hf)
set_option maxHeartbeats 4000000 in
set_option maxRecDepth 100000 in
theorem w_X8_starts_p2 {p : Program} {l : Launch} {e : Env} {sS : State} {m : MethodId} {args : Array Value} {below : List Frame} {meth : Method} {c : Code} {G : xG} {W0 : va_W} {ad : Nat → Nat}  {k2 : (Nat → Int32) → Int32 → Option ((Nat → Int32))} (E : xE p sS m args c cX8_starts 2 RX8 G (x_in W0)) (hr : meth.sig.returnType = none) (hk : meth.locks = false) (hk2 : ∀ (s' : (Nat → Int32)) (x1' : Int32) (z : (Nat → Int32)) {H : Heap} {locs : List Loc} {ls : Array Slot}, xW G (x_in W0) sS.heap ([((ad 0), .inl (G.2.1.1, 140, .inl s'))]) H locs → lv_has ls 2 [(0, .ref (ad 0)), (1, .int x1')] → k2  s' x1' = some z → W p l e (rm_X8_starts) sS m args below meth c H locs 0 0 (MQ below (xQ G W0 ([((ad 0), .inl (G.2.1.1, 140, .inl z))]) none) args sS 0 0 (x_in W0)) (F0 m 2 ls [])) : ∀ (s' : (Nat → Int32)) (x1' : Int32) (z : (Nat → Int32)) {H : Heap} {locs : List Loc} {ls : Array Slot}, xW G (x_in W0) sS.heap ([((ad 0), .inl (G.2.1.1, 140, .inl s'))]) H locs → lv_has ls 2 [(0, .ref (ad 0)), (1, .int x1')] → f_X8_starts_p2 k2 s' x1' = some z → W p l e (rm_X8_starts) sS m args below meth c H locs 0 0 (MQ below (xQ G W0 ([((ad 0), .inl (G.2.1.1, 140, .inl z))]) none) args sS 0 0 (x_in W0)) (F0 m 2 ls []) := by
  intro s x1 z H locs ls hw hl hf
  unfold f_X8_starts_p2 at hf
  refine lv_iload_n (pc := 2) E.1 E.2.1 dX8_starts_2 rfl (lv_at hl 1 rfl) ?_
  refine lv_sipush (v := 140) (pc := 3) E.1 E.2.1 dX8_starts_3 (by decide) ?_
  refine lv_icmp_ge (tgt := 19) (pc := 6) E.1 E.2.1 dX8_starts_6 (by decide) (fun q1 => ?_) (fun q1 => ?_)
  · have hf := x_pos q1 hf
    refine lv_aload_n (pc := 19) E.1 E.2.1 dX8_starts_19 rfl (lv_at hl 0 rfl) ?_
    refine lv_iconst (v := 0) (pc := 20) E.1 E.2.1 dX8_starts_20 (by decide) ?_
    refine lv_bipush (v := 99) (pc := 21) E.1 E.2.1 dX8_starts_21 (by decide) ?_
    obtain ⟨w3, g2, hf⟩ := x_bind hf
    refine x_iast (pc := 23) (ws' := ([((ad 0), .inl (G.2.1.1, 140, .inl w3))])) E hw 0 rfl g2 rfl dX8_starts_23 (fun H locs hw => ?_)
    refine lv_aload_n (pc := 24) E.1 E.2.1 dX8_starts_24 rfl (lv_at hl 0 rfl) ?_
    refine lv_iconst (v := 1) (pc := 25) E.1 E.2.1 dX8_starts_25 (by decide) ?_
    refine lv_iconst (v := 5) (pc := 26) E.1 E.2.1 dX8_starts_26 (by decide) ?_
    obtain ⟨w5, g4, hf⟩ := x_bind hf
    refine x_iast (pc := 27) (ws' := ([((ad 0), .inl (G.2.1.1, 140, .inl w5))])) E hw 0 rfl g4 rfl dX8_starts_27 (fun H locs hw => ?_)
    obtain rfl := Option.some.inj hf
    exact x_retv (pc := 28) E hr hk hw dX8_starts_28
  · have hf := x_neg q1 hf
    refine lv_aload_n (pc := 9) E.1 E.2.1 dX8_starts_9 rfl (lv_at hl 0 rfl) ?_
    refine lv_iload_n (pc := 10) E.1 E.2.1 dX8_starts_10 rfl (lv_at hl 1 rfl) ?_
    refine lv_iconst (v := 0) (pc := 11) E.1 E.2.1 dX8_starts_11 (by decide) ?_
    obtain ⟨w7, g6, hf⟩ := x_bind hf
    refine x_iast (pc := 12) (ws' := ([((ad 0), .inl (G.2.1.1, 140, .inl w7))])) E hw 0 rfl g6 rfl dX8_starts_12 (fun H locs hw => ?_)
    refine lv_iinc (v := (x1 + 1)) (lv' := [(1, .int (x1 + 1)), (0, .ref (ad 0))]) (pc := 13) E.1 E.2.1 dX8_starts_13 hl (k := 1) rfl rfl (by decide) rfl (fun ls hl => ?_)
    refine lv_goto (tgt := 2) (pc := 16) E.1 E.2.1 dX8_starts_16 (by decide) ?_
    exact hk2 w7 (x1 + 1) z hw (lv_sub hl [1, 0] rfl) hf
set_option maxHeartbeats 4000000 in
set_option maxRecDepth 100000 in
theorem wl_X8_starts_p2 {p : Program} {l : Launch} {e : Env} {sS : State} {m : MethodId} {args : Array Value} {below : List Frame} {meth : Method} {c : Code} {G : xG} {W0 : va_W} {ad : Nat → Nat}   (E : xE p sS m args c cX8_starts 2 RX8 G (x_in W0)) (hr : meth.sig.returnType = none) (hk : meth.locks = false)  : ∀ (s' : (Nat → Int32)) (x1' : Int32) (z : (Nat → Int32)) {H : Heap} {locs : List Loc} {ls : Array Slot}, xW G (x_in W0) sS.heap ([((ad 0), .inl (G.2.1.1, 140, .inl s'))]) H locs → lv_has ls 2 [(0, .ref (ad 0)), (1, .int x1')] → lp_X8_starts_p2  s' x1' = some z → W p l e (rm_X8_starts) sS m args below meth c H locs 0 0 (MQ below (xQ G W0 ([((ad 0), .inl (G.2.1.1, 140, .inl z))]) none) args sS 0 0 (x_in W0)) (F0 m 2 ls []) := by
  intro s x1 z H locs ls hw hl hf
  exact x_loop_W (P := fun (q : (Nat → Int32) × Int32) (z : (Nat → Int32)) => ∀ {H : Heap} {locs : List Loc} {ls : Array Slot}, xW G (x_in W0) sS.heap ([((ad 0), .inl (G.2.1.1, 140, .inl q.1))]) H locs → lv_has ls 2 [(0, .ref (ad 0)), (1, .int q.2)] → W p l e (rm_X8_starts) sS m args below meth c H locs 0 0 (MQ below (xQ G W0 ([((ad 0), .inl (G.2.1.1, 140, .inl z))]) none) args sS 0 0 (x_in W0)) (F0 m 2 ls [])) (fun k hkk q z hf H locs ls hw hl => w_X8_starts_p2 E hr hk  (fun s x1 z H locs ls hw hl hf => hkk (s, x1) z hf hw hl) q.1 q.2 z hw hl hf) FU (s, x1) z hf hw hl
set_option maxHeartbeats 4000000 in
set_option maxRecDepth 100000 in
theorem w_X8_starts_p0 {p : Program} {l : Launch} {e : Env} {sS : State} {m : MethodId} {args : Array Value} {below : List Frame} {meth : Method} {c : Code} {G : xG} {W0 : va_W} {ad : Nat → Nat}   (E : xE p sS m args c cX8_starts 2 RX8 G (x_in W0)) (hr : meth.sig.returnType = none) (hk : meth.locks = false)  : ∀ (s' : (Nat → Int32)) (z : (Nat → Int32)) {H : Heap} {locs : List Loc} {ls : Array Slot}, xW G (x_in W0) sS.heap ([((ad 0), .inl (G.2.1.1, 140, .inl s'))]) H locs → lv_has ls 2 [(0, .ref (ad 0))] → f_X8_starts  s' = some z → W p l e (rm_X8_starts) sS m args below meth c H locs 0 0 (MQ below (xQ G W0 ([((ad 0), .inl (G.2.1.1, 140, .inl z))]) none) args sS 0 0 (x_in W0)) (F0 m 0 ls []) := by
  intro s z H locs ls hw hl hf
  unfold f_X8_starts at hf
  refine lv_iconst (v := 0) (pc := 0) E.1 E.2.1 dX8_starts_0 (by decide) ?_
  refine lv_istore_n (lv' := [(1, .int 0), (0, .ref (ad 0))]) (pc := 1) E.1 E.2.1 dX8_starts_1 rfl hl (by decide) rfl (fun ls hl => ?_)
  exact wl_X8_starts_p2 E hr hk  s 0 z hw (lv_sub hl [1, 0] rfl) hf
set_option maxHeartbeats 4000000 in
set_option maxRecDepth 100000 in
theorem c_X8_starts (l : Launch) (G : xG) (ad : Nat → Nat) (s : (Nat → Int32)) {z : (Nat → Int32)} (hf : f_X8_starts s = some z) : xC l yX8_starts cX8_starts 2 none (rm_X8_starts) G [.ref (ad 0)] ([((ad 0), .inl (G.2.1.1, 140, .inl s))]) none ([((ad 0), .inl (G.2.1.1, 140, .inl z))]) :=
  x_met (by decide) (Nat.le_of_ble_eq_true rfl) (fun p e sS m below meth c E hr hk ls hl hw => w_X8_starts_p0 E hr hk s z hw hl hf)
set_option maxHeartbeats 4000000 in
set_option maxRecDepth 100000 in
theorem w_X8_text_p69 {p : Program} {l : Launch} {e : Env} {sS : State} {m : MethodId} {args : Array Value} {below : List Frame} {meth : Method} {c : Code} {G : xG} {W0 : va_W} {ad : Nat → Nat}  {k69 : S8 → Int32 → Option (Int32 × S8)} (E : xE p sS m args c cX8_text 2 RX8 G (x_in W0)) (hr : meth.sig.returnType = (some .int)) (hk : meth.locks = false) (hk69 : ∀ (s' : S8) (x1' : Int32) (z : Int32 × S8) {H : Heap} {locs : List Loc} {ls : Array Slot}, xW G (x_in W0) sS.heap (cells8 G ad s') H locs → lv_has ls 2 [(0, .ref (ad 0)), (1, .int x1')] → k69  s' x1' = some z → W p l e (rm_X8_text) sS m args below meth c H locs 0 0 (MQ below (xQ G W0 (cells8 G ad z.2) (some (.int z.1))) args sS 0 0 (x_in W0)) (F0 m 69 ls [])) : ∀ (s' : S8) (x1' : Int32) (z : Int32 × S8) {H : Heap} {locs : List Loc} {ls : Array Slot}, xW G (x_in W0) sS.heap (cells8 G ad s') H locs → lv_has ls 2 [(0, .ref (ad 0)), (1, .int x1')] → f_X8_text_p69 k69 s' x1' = some z → W p l e (rm_X8_text) sS m args below meth c H locs 0 0 (MQ below (xQ G W0 (cells8 G ad z.2) (some (.int z.1))) args sS 0 0 (x_in W0)) (F0 m 69 ls []) := by
  intro s x1 z H locs ls hw hl hf
  unfold f_X8_text_p69 at hf
  refine lv_iload_n (pc := 69) E.1 E.2.1 dX8_text_69 rfl (lv_at hl 1 rfl) ?_
  refine lv_sipush (v := 140) (pc := 70) E.1 E.2.1 dX8_text_70 (by decide) ?_
  refine lv_icmp_ge (tgt := 94) (pc := 73) E.1 E.2.1 dX8_text_73 (by decide) (fun q1 => ?_) (fun q1 => ?_)
  · have hf := x_pos q1 hf
    refine lv_aload_n (pc := 94) E.1 E.2.1 dX8_text_94 rfl (lv_at hl 0 rfl) ?_
    refine lv_iconst (v := 0) (pc := 95) E.1 E.2.1 dX8_text_95 (by decide) ?_
    refine xp_X8_77 (pc := 96) (v := .int 0) (ws' := (cells8 G ad (u8_acts s 0))) E hw 0 rfl rfl rfl (Nat.le_of_ble_eq_true rfl) rfl dX8_text_96 (fun H locs hw => ?_)
    refine lv_aload_n (pc := 99) E.1 E.2.1 dX8_text_99 rfl (lv_at hl 0 rfl) ?_
    obtain ⟨v2, g3, hf⟩ := x_bind hf
    refine x_callVA (pc := 100) (As := []) (rest := []) (st1 := [.int v2]) (ws' := (cells8 G ad (u8_acts s 0))) E hw hl (c_X8_many l G ad (u8_acts s 0) g3) xv_X8_80 xd_X8_many rfl rfl ⟨Nat.le_of_ble_eq_true rfl, Nat.le_of_ble_eq_true rfl⟩ (q0 := 0) rfl rfl rfl rfl (Nat.le_of_ble_eq_true rfl) rfl rfl dX8_text_100 (fun H locs hw => ?_)
    obtain rfl := Option.some.inj hf
    exact x_reti (pc := 103) E hr hk hw dX8_text_103
  · have hf := x_neg q1 hf
    refine lv_aload_n (pc := 76) E.1 E.2.1 dX8_text_76 rfl (lv_at hl 0 rfl) ?_
    refine xg_X8_13 (pc := 77) (v := .ref (ad 1)) E hw 0 rfl rfl dX8_text_77 ?_
    refine lv_iload_n (pc := 80) E.1 E.2.1 dX8_text_80 rfl (lv_at hl 1 rfl) ?_
    refine lv_aload_n (pc := 81) E.1 E.2.1 dX8_text_81 rfl (lv_at hl 0 rfl) ?_
    refine xg_X8_17 (pc := 82) (v := .ref (ad 2)) E hw 0 rfl rfl dX8_text_82 ?_
    refine lv_iload_n (pc := 85) E.1 E.2.1 dX8_text_85 rfl (lv_at hl 1 rfl) ?_
    obtain ⟨v5, g4, hf⟩ := x_bind hf
    refine x_iald (pc := 86) E hw 2 rfl g4 dX8_text_86 ?_
    obtain ⟨w7, g6, hf⟩ := x_bind hf
    refine x_iast (pc := 87) (ws' := (cells8 G ad (u8_now s w7))) E hw 1 rfl g6 rfl dX8_text_87 (fun H locs hw => ?_)
    refine lv_iinc (v := (x1 + 1)) (lv' := [(1, .int (x1 + 1)), (0, .ref (ad 0))]) (pc := 88) E.1 E.2.1 dX8_text_88 hl (k := 1) rfl rfl (by decide) rfl (fun ls hl => ?_)
    refine lv_goto (tgt := 69) (pc := 91) E.1 E.2.1 dX8_text_91 (by decide) ?_
    exact hk69 (u8_now s w7) (x1 + 1) z hw (lv_sub hl [1, 0] rfl) hf
set_option maxHeartbeats 4000000 in
set_option maxRecDepth 100000 in
theorem wl_X8_text_p69 {p : Program} {l : Launch} {e : Env} {sS : State} {m : MethodId} {args : Array Value} {below : List Frame} {meth : Method} {c : Code} {G : xG} {W0 : va_W} {ad : Nat → Nat}   (E : xE p sS m args c cX8_text 2 RX8 G (x_in W0)) (hr : meth.sig.returnType = (some .int)) (hk : meth.locks = false)  : ∀ (s' : S8) (x1' : Int32) (z : Int32 × S8) {H : Heap} {locs : List Loc} {ls : Array Slot}, xW G (x_in W0) sS.heap (cells8 G ad s') H locs → lv_has ls 2 [(0, .ref (ad 0)), (1, .int x1')] → lp_X8_text_p69  s' x1' = some z → W p l e (rm_X8_text) sS m args below meth c H locs 0 0 (MQ below (xQ G W0 (cells8 G ad z.2) (some (.int z.1))) args sS 0 0 (x_in W0)) (F0 m 69 ls []) := by
  intro s x1 z H locs ls hw hl hf
  exact x_loop_W (P := fun (q : S8 × Int32) (z : Int32 × S8) => ∀ {H : Heap} {locs : List Loc} {ls : Array Slot}, xW G (x_in W0) sS.heap (cells8 G ad q.1) H locs → lv_has ls 2 [(0, .ref (ad 0)), (1, .int q.2)] → W p l e (rm_X8_text) sS m args below meth c H locs 0 0 (MQ below (xQ G W0 (cells8 G ad z.2) (some (.int z.1))) args sS 0 0 (x_in W0)) (F0 m 69 ls [])) (fun k hkk q z hf H locs ls hw hl => w_X8_text_p69 E hr hk  (fun s x1 z H locs ls hw hl hf => hkk (s, x1) z hf hw hl) q.1 q.2 z hw hl hf) FU (s, x1) z hf hw hl
set_option maxHeartbeats 4000000 in
set_option maxRecDepth 100000 in
theorem w_X8_text_p47 {p : Program} {l : Launch} {e : Env} {sS : State} {m : MethodId} {args : Array Value} {below : List Frame} {meth : Method} {c : Code} {G : xG} {W0 : va_W} {ad : Nat → Nat}   (E : xE p sS m args c cX8_text 2 RX8 G (x_in W0)) (hr : meth.sig.returnType = (some .int)) (hk : meth.locks = false)  : ∀ (s' : S8) (z : Int32 × S8) {H : Heap} {locs : List Loc} {ls : Array Slot}, xW G (x_in W0) sS.heap (cells8 G ad s') H locs → lv_has ls 2 [(0, .ref (ad 0))] → f_X8_text_p47  s' = some z → W p l e (rm_X8_text) sS m args below meth c H locs 0 0 (MQ below (xQ G W0 (cells8 G ad z.2) (some (.int z.1))) args sS 0 0 (x_in W0)) (F0 m 47 ls []) := by
  intro s z H locs ls hw hl hf
  unfold f_X8_text_p47 at hf
  refine lv_aload_n (pc := 47) E.1 E.2.1 dX8_text_47 rfl (lv_at hl 0 rfl) ?_
  refine lv_iconst (v := 0) (pc := 48) E.1 E.2.1 dX8_text_48 (by decide) ?_
  refine xp_X8_300 (pc := 49) (v := .int 0) (ws' := (cells8 G ad (u8_taped s 0))) E hw 0 rfl rfl rfl (Nat.le_of_ble_eq_true rfl) rfl dX8_text_49 (fun H locs hw => ?_)
  refine lv_aload_n (pc := 52) E.1 E.2.1 dX8_text_52 rfl (lv_at hl 0 rfl) ?_
  refine xg_X8_318 (pc := 53) (v := .int (g8_wrong (u8_taped s 0))) E hw 0 rfl rfl dX8_text_53 ?_
  refine lv_if_eq (tgt := 67) (pc := 56) E.1 E.2.1 dX8_text_56 (by decide) (fun q1 => ?_) (fun q1 => ?_)
  · have hf := x_pos q1 hf
    refine lv_iconst (v := 0) (pc := 67) E.1 E.2.1 dX8_text_67 (by decide) ?_
    refine lv_istore_n (lv' := [(1, .int 0), (0, .ref (ad 0))]) (pc := 68) E.1 E.2.1 dX8_text_68 rfl hl (by decide) rfl (fun ls hl => ?_)
    exact wl_X8_text_p69 E hr hk  (u8_taped s 0) 0 z hw (lv_sub hl [1, 0] rfl) hf
  · have hf := x_neg q1 hf
    refine lv_bipush (v := (-4)) (pc := 59) E.1 E.2.1 dX8_text_59 (by decide) ?_
    refine lv_aload_n (pc := 61) E.1 E.2.1 dX8_text_61 rfl (lv_at hl 0 rfl) ?_
    refine xg_X8_312 (pc := 62) (v := .int (g8_begun (u8_taped s 0))) E hw 0 rfl rfl dX8_text_62 ?_
    refine lv_isub (pc := 65) E.1 E.2.1 dX8_text_65 ?_
    obtain rfl := Option.some.inj hf
    exact x_reti (pc := 66) E hr hk hw dX8_text_66
set_option maxHeartbeats 4000000 in
set_option maxRecDepth 100000 in
theorem w_X8_text_p26 {p : Program} {l : Launch} {e : Env} {sS : State} {m : MethodId} {args : Array Value} {below : List Frame} {meth : Method} {c : Code} {G : xG} {W0 : va_W} {ad : Nat → Nat}  {k26 : S8 → Option (Int32 × S8)} (E : xE p sS m args c cX8_text 2 RX8 G (x_in W0)) (hr : meth.sig.returnType = (some .int)) (hk : meth.locks = false) (hk26 : ∀ (s' : S8) (z : Int32 × S8) {H : Heap} {locs : List Loc} {ls : Array Slot}, xW G (x_in W0) sS.heap (cells8 G ad s') H locs → lv_has ls 2 [(0, .ref (ad 0))] → k26  s' = some z → W p l e (rm_X8_text) sS m args below meth c H locs 0 0 (MQ below (xQ G W0 (cells8 G ad z.2) (some (.int z.1))) args sS 0 0 (x_in W0)) (F0 m 26 ls [])) : ∀ (s' : S8) (z : Int32 × S8) {H : Heap} {locs : List Loc} {ls : Array Slot}, xW G (x_in W0) sS.heap (cells8 G ad s') H locs → lv_has ls 2 [(0, .ref (ad 0))] → f_X8_text_p26 k26 s' = some z → W p l e (rm_X8_text) sS m args below meth c H locs 0 0 (MQ below (xQ G W0 (cells8 G ad z.2) (some (.int z.1))) args sS 0 0 (x_in W0)) (F0 m 26 ls []) := by
  intro s z H locs ls hw hl hf
  unfold f_X8_text_p26 at hf
  refine lv_aload_n (pc := 26) E.1 E.2.1 dX8_text_26 rfl (lv_at hl 0 rfl) ?_
  refine xg_X8_318 (pc := 27) (v := .int (g8_wrong s)) E hw 0 rfl rfl dX8_text_27 ?_
  refine lv_if_ne (tgt := 47) (pc := 30) E.1 E.2.1 dX8_text_30 (by decide) (fun q1 => ?_) (fun q1 => ?_)
  · have hf := x_neg q1 hf
    exact w_X8_text_p47 E hr hk  s z hw (lv_sub hl [0] rfl) hf
  · have hf := x_pos q1 hf
    refine lv_aload_n (pc := 33) E.1 E.2.1 dX8_text_33 rfl (lv_at hl 0 rfl) ?_
    refine xg_X8_306 (pc := 34) (v := .int (g8_token s)) E hw 0 rfl rfl dX8_text_34 ?_
    refine lv_if_eq (tgt := 47) (pc := 37) E.1 E.2.1 dX8_text_37 (by decide) (fun q2 => ?_) (fun q2 => ?_)
    · have hf := x_pos q2 hf
      exact w_X8_text_p47 E hr hk  s z hw (lv_sub hl [0] rfl) hf
    · have hf := x_neg q2 hf
      refine lv_aload_n (pc := 40) E.1 E.2.1 dX8_text_40 rfl (lv_at hl 0 rfl) ?_
      obtain ⟨v3, g4, hf⟩ := x_bind hf
      refine x_callVA (pc := 41) (As := []) (rest := []) (st1 := []) (ws' := (cells8 G ad v3)) E hw hl (c_X8_readsOne l G ad s g4) xv_X8_343 xd_X8_readsOne rfl rfl ⟨Nat.le_of_ble_eq_true rfl, Nat.le_of_ble_eq_true rfl⟩ (q0 := 0) rfl rfl rfl rfl (Nat.le_of_ble_eq_true rfl) rfl rfl dX8_text_41 (fun H locs hw => ?_)
      refine lv_goto (tgt := 26) (pc := 44) E.1 E.2.1 dX8_text_44 (by decide) ?_
      exact hk26 v3 z hw (lv_sub hl [0] rfl) hf
set_option maxHeartbeats 4000000 in
set_option maxRecDepth 100000 in
theorem wl_X8_text_p26 {p : Program} {l : Launch} {e : Env} {sS : State} {m : MethodId} {args : Array Value} {below : List Frame} {meth : Method} {c : Code} {G : xG} {W0 : va_W} {ad : Nat → Nat}   (E : xE p sS m args c cX8_text 2 RX8 G (x_in W0)) (hr : meth.sig.returnType = (some .int)) (hk : meth.locks = false)  : ∀ (s' : S8) (z : Int32 × S8) {H : Heap} {locs : List Loc} {ls : Array Slot}, xW G (x_in W0) sS.heap (cells8 G ad s') H locs → lv_has ls 2 [(0, .ref (ad 0))] → lp_X8_text_p26  s' = some z → W p l e (rm_X8_text) sS m args below meth c H locs 0 0 (MQ below (xQ G W0 (cells8 G ad z.2) (some (.int z.1))) args sS 0 0 (x_in W0)) (F0 m 26 ls []) := by
  intro s z H locs ls hw hl hf
  exact x_loop_W (P := fun (q : S8) (z : Int32 × S8) => ∀ {H : Heap} {locs : List Loc} {ls : Array Slot}, xW G (x_in W0) sS.heap (cells8 G ad q) H locs → lv_has ls 2 [(0, .ref (ad 0))] → W p l e (rm_X8_text) sS m args below meth c H locs 0 0 (MQ below (xQ G W0 (cells8 G ad z.2) (some (.int z.1))) args sS 0 0 (x_in W0)) (F0 m 26 ls [])) (fun k hkk q z hf H locs ls hw hl => w_X8_text_p26 E hr hk  (fun s z H locs ls hw hl hf => hkk s z hf hw hl) q z hw hl hf) FU s z hf hw hl
set_option maxHeartbeats 4000000 in
set_option maxRecDepth 100000 in
theorem w_X8_text_p0 {p : Program} {l : Launch} {e : Env} {sS : State} {m : MethodId} {args : Array Value} {below : List Frame} {meth : Method} {c : Code} {G : xG} {W0 : va_W} {ad : Nat → Nat}   (E : xE p sS m args c cX8_text 2 RX8 G (x_in W0)) (hr : meth.sig.returnType = (some .int)) (hk : meth.locks = false)  : ∀ (s' : S8) (z : Int32 × S8) {H : Heap} {locs : List Loc} {ls : Array Slot}, xW G (x_in W0) sS.heap (cells8 G ad s') H locs → lv_has ls 2 [(0, .ref (ad 0))] → f_X8_text  s' = some z → W p l e (rm_X8_text) sS m args below meth c H locs 0 0 (MQ below (xQ G W0 (cells8 G ad z.2) (some (.int z.1))) args sS 0 0 (x_in W0)) (F0 m 0 ls []) := by
  intro s z H locs ls hw hl hf
  unfold f_X8_text at hf
  refine lv_aload_n (pc := 0) E.1 E.2.1 dX8_text_0 rfl (lv_at hl 0 rfl) ?_
  refine xg_X8_17 (pc := 1) (v := .ref (ad 2)) E hw 0 rfl rfl dX8_text_1 ?_
  obtain ⟨v1, g2, hf⟩ := x_bind hf
  refine x_callS (pc := 4) (As := [.ref (ad 2)]) (rest := []) (st1 := []) (ws' := (cells8 G ad (u8_read s v1))) E hw hl (c_X8_starts l G (fun k => ad (k + 2)) (g8_read s) g2) xs_X8_73 xd_X8_starts rfl rfl ⟨Nat.le_of_ble_eq_true rfl, Nat.le_of_ble_eq_true rfl⟩ [2] [0, 1, 3, 4, 5, 6, 7, 8, 9, 10, 11, 12, 13, 14, 15, 16, 17, 18, 19] (by decide) rfl rfl rfl (Nat.le_of_ble_eq_true rfl) rfl rfl (by decide) (by decide) rfl rfl dX8_text_4 (fun H locs hw => ?_)
  refine lv_aload_n (pc := 7) E.1 E.2.1 dX8_text_7 rfl (lv_at hl 0 rfl) ?_
  refine lv_iconst (v := 0) (pc := 8) E.1 E.2.1 dX8_text_8 (by decide) ?_
  refine xp_X8_303 (pc := 9) (v := .int 0) (ws' := (cells8 G ad (u8_spot (u8_read s v1) 0))) E hw 0 rfl rfl rfl (Nat.le_of_ble_eq_true rfl) rfl dX8_text_9 (fun H locs hw => ?_)
  refine lv_aload_n (pc := 12) E.1 E.2.1 dX8_text_12 rfl (lv_at hl 0 rfl) ?_
  refine lv_iconst (v := 3) (pc := 13) E.1 E.2.1 dX8_text_13 (by decide) ?_
  refine xp_X8_306 (pc := 14) (v := .int 3) (ws' := (cells8 G ad (u8_token (u8_spot (u8_read s v1) 0) 3))) E hw 0 rfl rfl rfl (Nat.le_of_ble_eq_true rfl) rfl dX8_text_14 (fun H locs hw => ?_)
  refine lv_aload_n (pc := 17) E.1 E.2.1 dX8_text_17 rfl (lv_at hl 0 rfl) ?_
  refine lv_iconst (v := 0) (pc := 18) E.1 E.2.1 dX8_text_18 (by decide) ?_
  refine xp_X8_318 (pc := 19) (v := .int 0) (ws' := (cells8 G ad (u8_wrong (u8_token (u8_spot (u8_read s v1) 0) 3) 0))) E hw 0 rfl (by decide) rfl (Nat.le_of_ble_eq_true rfl) rfl dX8_text_19 (fun H locs hw => ?_)
  refine lv_aload_n (pc := 22) E.1 E.2.1 dX8_text_22 rfl (lv_at hl 0 rfl) ?_
  obtain ⟨v3, g4, hf⟩ := x_bind hf
  refine x_callVA (pc := 23) (As := []) (rest := []) (st1 := []) (ws' := (cells8 G ad v3)) E hw hl (c_X8_goesOn l G ad (u8_wrong (u8_token (u8_spot (u8_read s v1) 0) 3) 0) g4) xv_X8_322 xd_X8_goesOn rfl rfl ⟨Nat.le_of_ble_eq_true rfl, Nat.le_of_ble_eq_true rfl⟩ (q0 := 0) rfl rfl rfl rfl (Nat.le_of_ble_eq_true rfl) rfl rfl dX8_text_23 (fun H locs hw => ?_)
  exact wl_X8_text_p26 E hr hk  v3 z hw (lv_sub hl [0] rfl) hf
set_option maxHeartbeats 4000000 in
set_option maxRecDepth 100000 in
theorem c_X8_text (l : Launch) (G : xG) (ad : Nat → Nat) (s : S8) {z : Int32 × S8} (hf : f_X8_text s = some z) : xC l yX8_text cX8_text 2 (some .int) (rm_X8_text) G [.ref (ad 0)] (cells8 G ad s) (some (.int z.1)) (cells8 G ad z.2) :=
  x_met (by decide) (Nat.le_of_ble_eq_true rfl) (fun p e sS m below meth c E hr hk ls hl hw => w_X8_text_p0 E hr hk s z hw hl hf)
