set_option maxHeartbeats 4000000 in
set_option maxRecDepth 100000 in
theorem w_X0_clear_p0 {p : Program} {l : Launch} {e : Env} {sS : State} {m : MethodId} {args : Array Value} {below : List Frame} {meth : Method} {c : Code} {G : xG} {W0 : va_W} {ad : Nat → Nat}   (E : xE p sS m args c cX0_clear 1 RX0 G (x_in W0)) (hr : meth.sig.returnType = none) (hk : meth.locks = false)  : ∀ (s' : S0) (z : S0) {H : Heap} {locs : List Loc} {ls : Array Slot}, xW G (x_in W0) sS.heap (cells0 G ad s') H locs → lv_has ls 1 [(0, .ref (ad 0))] → f_X0_clear  s' = some z → W p l e (rm_X0_clear) sS m args below meth c H locs 0 0 (MQ below (xQ G W0 (cells0 G ad z) none) args sS 0 0 (x_in W0)) (F0 m 0 ls []) := by
  intro s z H locs ls hw hl hf
  unfold f_X0_clear at hf
  refine lv_aload_n (pc := 0) E.1 E.2.1 dX0_clear_0 rfl (lv_at hl 0 rfl) ?_
  refine lv_iconst (v := 0) (pc := 1) E.1 E.2.1 dX0_clear_1 (by decide) ?_
  refine xp_X0_28 (pc := 2) (v := .int 0) (ws' := (cells0c G ad 0 (g0_claims s) (g0_cap s) (g0_steady s) (g0_classes s) (g0_years s) (g0_slips s))) E hw 0 rfl rfl rfl (Nat.le_of_ble_eq_true rfl) rfl dX0_clear_2 (fun H locs hw => ?_)
  refine lv_aload_n (pc := 5) E.1 E.2.1 dX0_clear_5 rfl (lv_at hl 0 rfl) ?_
  refine lv_iconst (v := 0) (pc := 6) E.1 E.2.1 dX0_clear_6 (by decide) ?_
  refine xp_X0_31 (pc := 7) (v := .int 0) (ws' := (cells0c G ad 0 0 (g0_cap s) (g0_steady s) (g0_classes s) (g0_years s) (g0_slips s))) E hw 0 rfl rfl rfl (Nat.le_of_ble_eq_true rfl) rfl dX0_clear_7 (fun H locs hw => ?_)
  refine lv_aload_n (pc := 10) E.1 E.2.1 dX0_clear_10 rfl (lv_at hl 0 rfl) ?_
  refine lv_bipush (v := 99) (pc := 11) E.1 E.2.1 dX0_clear_11 (by decide) ?_
  refine xp_X0_9 (pc := 13) (v := .int 99) (ws' := (cells0c G ad 0 0 99 (g0_steady s) (g0_classes s) (g0_years s) (g0_slips s))) E hw 0 rfl rfl rfl (Nat.le_of_ble_eq_true rfl) rfl dX0_clear_13 (fun H locs hw => ?_)
  refine lv_aload_n (pc := 16) E.1 E.2.1 dX0_clear_16 rfl (lv_at hl 0 rfl) ?_
  refine lv_iconst (v := 5) (pc := 17) E.1 E.2.1 dX0_clear_17 (by decide) ?_
  refine xp_X0_15 (pc := 18) (v := .int 5) (ws' := (cells0c G ad 0 0 99 5 (g0_classes s) (g0_years s) (g0_slips s))) E hw 0 rfl rfl rfl (Nat.le_of_ble_eq_true rfl) rfl dX0_clear_18 (fun H locs hw => ?_)
  obtain rfl := Option.some.inj hf
  exact x_retv (pc := 21) E hr hk hw dX0_clear_21
set_option maxHeartbeats 4000000 in
set_option maxRecDepth 100000 in
theorem c_X0_clear (l : Launch) (G : xG) (ad : Nat → Nat) (s : S0) {z : S0} (hf : f_X0_clear s = some z) : xC l yX0_clear cX0_clear 1 none (rm_X0_clear) G [.ref (ad 0)] (cells0 G ad s) none (cells0 G ad z) :=
  x_met (by decide) rfl (Nat.le_of_ble_eq_true rfl) (fun p e sS m below meth c E hr hk ls hl hw => w_X0_clear_p0 E hr hk s z hw hl hf)
set_option maxHeartbeats 4000000 in
set_option maxRecDepth 100000 in
theorem w_X0_hasFleet_p0 {p : Program} {l : Launch} {e : Env} {sS : State} {m : MethodId} {args : Array Value} {below : List Frame} {meth : Method} {c : Code} {G : xG} {W0 : va_W} {ad : Nat → Nat}   (E : xE p sS m args c cX0_hasFleet 2 RX0 G (x_in W0)) (hr : meth.sig.returnType = (some .boolean)) (hk : meth.locks = false)  : ∀ (s' : S0) (x1' : Int32) (z : Int32) {H : Heap} {locs : List Loc} {ls : Array Slot}, xW G (x_in W0) sS.heap (cells0 G ad s') H locs → lv_has ls 2 [(0, .ref (ad 0)), (1, .int x1')] → f_X0_hasFleet  s' x1' = some z → W p l e (rm_X0_hasFleet) sS m args below meth c H locs 0 0 (MQ below (xQ G W0 (cells0 G ad s') (some (.int z))) args sS 0 0 (x_in W0)) (F0 m 0 ls []) := by
  intro s x1 z H locs ls hw hl hf
  unfold f_X0_hasFleet at hf
  refine lv_iload_n (pc := 0) E.1 E.2.1 dX0_hasFleet_0 rfl (lv_at hl 1 rfl) ?_
  refine lv_if_lt (tgt := 22) (pc := 1) E.1 E.2.1 dX0_hasFleet_1 (by decide) (fun q1 => ?_) (fun q1 => ?_)
  · have hf := x_pos q1 hf
    refine lv_iconst (v := 0) (pc := 22) E.1 E.2.1 dX0_hasFleet_22 (by decide) ?_
    obtain rfl := Option.some.inj hf
    exact x_retz (pc := 23) (v := 0) (r := 0) E hr hk hw (by decide) dX0_hasFleet_23
  · have hf := x_neg q1 hf
    refine lv_iload_n (pc := 4) E.1 E.2.1 dX0_hasFleet_4 rfl (lv_at hl 1 rfl) ?_
    refine lv_aload_n (pc := 5) E.1 E.2.1 dX0_hasFleet_5 rfl (lv_at hl 0 rfl) ?_
    refine xg_X0_28 (pc := 6) (v := .int (g0_fleets s)) E hw 0 rfl rfl dX0_hasFleet_6 ?_
    refine lv_icmp_ge (tgt := 22) (pc := 9) E.1 E.2.1 dX0_hasFleet_9 (by decide) (fun q2 => ?_) (fun q2 => ?_)
    · have hf := x_pos q2 hf
      refine lv_iconst (v := 0) (pc := 22) E.1 E.2.1 dX0_hasFleet_22 (by decide) ?_
      obtain rfl := Option.some.inj hf
      exact x_retz (pc := 23) (v := 0) (r := 0) E hr hk hw (by decide) dX0_hasFleet_23
    · have hf := x_neg q2 hf
      refine lv_iload_n (pc := 12) E.1 E.2.1 dX0_hasFleet_12 rfl (lv_at hl 1 rfl) ?_
      refine lv_bipush (v := 8) (pc := 13) E.1 E.2.1 dX0_hasFleet_13 (by decide) ?_
      refine lv_icmp_ge (tgt := 22) (pc := 15) E.1 E.2.1 dX0_hasFleet_15 (by decide) (fun q3 => ?_) (fun q3 => ?_)
      · have hf := x_pos q3 hf
        refine lv_iconst (v := 0) (pc := 22) E.1 E.2.1 dX0_hasFleet_22 (by decide) ?_
        obtain rfl := Option.some.inj hf
        exact x_retz (pc := 23) (v := 0) (r := 0) E hr hk hw (by decide) dX0_hasFleet_23
      · have hf := x_neg q3 hf
        refine lv_iconst (v := 1) (pc := 18) E.1 E.2.1 dX0_hasFleet_18 (by decide) ?_
        refine lv_goto (tgt := 23) (pc := 19) E.1 E.2.1 dX0_hasFleet_19 (by decide) ?_
        obtain rfl := Option.some.inj hf
        exact x_retz (pc := 23) (v := 1) (r := 1) E hr hk hw (by decide) dX0_hasFleet_23
set_option maxHeartbeats 4000000 in
set_option maxRecDepth 100000 in
theorem c_X0_hasFleet (l : Launch) (G : xG) (ad : Nat → Nat) (s : S0) (x1 : Int32) {z : Int32} (hf : f_X0_hasFleet s x1 = some z) : xC l yX0_hasFleet cX0_hasFleet 2 (some .boolean) (rm_X0_hasFleet) G [.ref (ad 0), .int x1] (cells0 G ad s) (some (.int z)) (cells0 G ad s) :=
  x_met (by decide) rfl (Nat.le_of_ble_eq_true rfl) (fun p e sS m below meth c E hr hk ls hl hw => w_X0_hasFleet_p0 E hr hk s x1 z hw hl hf)
set_option maxHeartbeats 4000000 in
set_option maxRecDepth 100000 in
theorem w_X0_putClass_p0 {p : Program} {l : Launch} {e : Env} {sS : State} {m : MethodId} {args : Array Value} {below : List Frame} {meth : Method} {c : Code} {G : xG} {W0 : va_W} {ad : Nat → Nat}   (E : xE p sS m args c cX0_putClass 3 RX0 G (x_in W0)) (hr : meth.sig.returnType = none) (hk : meth.locks = false)  : ∀ (s' : S0) (x1' : Int32) (x2' : Int32) (z : S0) {H : Heap} {locs : List Loc} {ls : Array Slot}, xW G (x_in W0) sS.heap (cells0 G ad s') H locs → lv_has ls 3 [(0, .ref (ad 0)), (1, .int x1'), (2, .int x2')] → f_X0_putClass  s' x1' x2' = some z → W p l e (rm_X0_putClass) sS m args below meth c H locs 0 0 (MQ below (xQ G W0 (cells0 G ad z) none) args sS 0 0 (x_in W0)) (F0 m 0 ls []) := by
  intro s x1 x2 z H locs ls hw hl hf
  unfold f_X0_putClass at hf
  refine lv_aload_n (pc := 0) E.1 E.2.1 dX0_putClass_0 rfl (lv_at hl 0 rfl) ?_
  refine lv_iload_n (pc := 1) E.1 E.2.1 dX0_putClass_1 rfl (lv_at hl 1 rfl) ?_
  obtain ⟨v1, g2, hf⟩ := x_bind hf
  refine x_callVA (pc := 2) (As := [.int x1]) (rest := []) (st1 := [.int v1]) (ws' := (cells0 G ad s)) E hw hl (c_X0_hasFleet l G ad s x1 g2) xv_X0_40 xd_X0_hasFleet rfl rfl ⟨Nat.le_of_ble_eq_true rfl, Nat.le_of_ble_eq_true rfl⟩ (q0 := 0) rfl rfl rfl rfl (Nat.le_of_ble_eq_true rfl) rfl dX0_putClass_2 (fun H locs hw => ?_)
  refine lv_if_eq (tgt := 15) (pc := 5) E.1 E.2.1 dX0_putClass_5 (by decide) (fun q3 => ?_) (fun q3 => ?_)
  · have hf := x_pos q3 hf
    obtain rfl := Option.some.inj hf
    exact x_retv (pc := 15) E hr hk hw dX0_putClass_15
  · have hf := x_neg q3 hf
    refine lv_aload_n (pc := 8) E.1 E.2.1 dX0_putClass_8 rfl (lv_at hl 0 rfl) ?_
    refine xg_X0_18 (pc := 9) (v := .ref (ad 1)) E hw 0 rfl rfl dX0_putClass_9 ?_
    refine lv_iload_n (pc := 12) E.1 E.2.1 dX0_putClass_12 rfl (lv_at hl 1 rfl) ?_
    refine lv_iload_n (pc := 13) E.1 E.2.1 dX0_putClass_13 rfl (lv_at hl 2 rfl) ?_
    obtain ⟨w5, g4, hf⟩ := x_bind hf
    refine x_iast (pc := 14) (ws' := (cells0c G ad (g0_fleets s) (g0_claims s) (g0_cap s) (g0_steady s) w5 (g0_years s) (g0_slips s))) E hw 1 rfl g4 rfl dX0_putClass_14 (fun H locs hw => ?_)
    obtain rfl := Option.some.inj hf
    exact x_retv (pc := 15) E hr hk hw dX0_putClass_15
set_option maxHeartbeats 4000000 in
set_option maxRecDepth 100000 in
theorem c_X0_putClass (l : Launch) (G : xG) (ad : Nat → Nat) (s : S0) (x1 : Int32) (x2 : Int32) {z : S0} (hf : f_X0_putClass s x1 x2 = some z) : xC l yX0_putClass cX0_putClass 3 none (rm_X0_putClass) G [.ref (ad 0), .int x1, .int x2] (cells0 G ad s) none (cells0 G ad z) :=
  x_met (by decide) rfl (Nat.le_of_ble_eq_true rfl) (fun p e sS m below meth c E hr hk ls hl hw => w_X0_putClass_p0 E hr hk s x1 x2 z hw hl hf)
set_option maxHeartbeats 4000000 in
set_option maxRecDepth 100000 in
theorem w_X0_putYears_p0 {p : Program} {l : Launch} {e : Env} {sS : State} {m : MethodId} {args : Array Value} {below : List Frame} {meth : Method} {c : Code} {G : xG} {W0 : va_W} {ad : Nat → Nat}   (E : xE p sS m args c cX0_putYears 3 RX0 G (x_in W0)) (hr : meth.sig.returnType = none) (hk : meth.locks = false)  : ∀ (s' : S0) (x1' : Int32) (x2' : Int32) (z : S0) {H : Heap} {locs : List Loc} {ls : Array Slot}, xW G (x_in W0) sS.heap (cells0 G ad s') H locs → lv_has ls 3 [(0, .ref (ad 0)), (1, .int x1'), (2, .int x2')] → f_X0_putYears  s' x1' x2' = some z → W p l e (rm_X0_putYears) sS m args below meth c H locs 0 0 (MQ below (xQ G W0 (cells0 G ad z) none) args sS 0 0 (x_in W0)) (F0 m 0 ls []) := by
  intro s x1 x2 z H locs ls hw hl hf
  unfold f_X0_putYears at hf
  refine lv_aload_n (pc := 0) E.1 E.2.1 dX0_putYears_0 rfl (lv_at hl 0 rfl) ?_
  refine lv_iload_n (pc := 1) E.1 E.2.1 dX0_putYears_1 rfl (lv_at hl 1 rfl) ?_
  obtain ⟨v1, g2, hf⟩ := x_bind hf
  refine x_callVA (pc := 2) (As := [.int x1]) (rest := []) (st1 := [.int v1]) (ws' := (cells0 G ad s)) E hw hl (c_X0_hasFleet l G ad s x1 g2) xv_X0_40 xd_X0_hasFleet rfl rfl ⟨Nat.le_of_ble_eq_true rfl, Nat.le_of_ble_eq_true rfl⟩ (q0 := 0) rfl rfl rfl rfl (Nat.le_of_ble_eq_true rfl) rfl dX0_putYears_2 (fun H locs hw => ?_)
  refine lv_if_eq (tgt := 15) (pc := 5) E.1 E.2.1 dX0_putYears_5 (by decide) (fun q3 => ?_) (fun q3 => ?_)
  · have hf := x_pos q3 hf
    obtain rfl := Option.some.inj hf
    exact x_retv (pc := 15) E hr hk hw dX0_putYears_15
  · have hf := x_neg q3 hf
    refine lv_aload_n (pc := 8) E.1 E.2.1 dX0_putYears_8 rfl (lv_at hl 0 rfl) ?_
    refine xg_X0_22 (pc := 9) (v := .ref (ad 2)) E hw 0 rfl rfl dX0_putYears_9 ?_
    refine lv_iload_n (pc := 12) E.1 E.2.1 dX0_putYears_12 rfl (lv_at hl 1 rfl) ?_
    refine lv_iload_n (pc := 13) E.1 E.2.1 dX0_putYears_13 rfl (lv_at hl 2 rfl) ?_
    obtain ⟨w5, g4, hf⟩ := x_bind hf
    refine x_iast (pc := 14) (ws' := (cells0c G ad (g0_fleets s) (g0_claims s) (g0_cap s) (g0_steady s) (g0_classes s) w5 (g0_slips s))) E hw 2 rfl g4 rfl dX0_putYears_14 (fun H locs hw => ?_)
    obtain rfl := Option.some.inj hf
    exact x_retv (pc := 15) E hr hk hw dX0_putYears_15
set_option maxHeartbeats 4000000 in
set_option maxRecDepth 100000 in
theorem c_X0_putYears (l : Launch) (G : xG) (ad : Nat → Nat) (s : S0) (x1 : Int32) (x2 : Int32) {z : S0} (hf : f_X0_putYears s x1 x2 = some z) : xC l yX0_putYears cX0_putYears 3 none (rm_X0_putYears) G [.ref (ad 0), .int x1, .int x2] (cells0 G ad s) none (cells0 G ad z) :=
  x_met (by decide) rfl (Nat.le_of_ble_eq_true rfl) (fun p e sS m below meth c E hr hk ls hl hw => w_X0_putYears_p0 E hr hk s x1 x2 z hw hl hf)
set_option maxHeartbeats 4000000 in
set_option maxRecDepth 100000 in
theorem w_X0_addFleet_p0 {p : Program} {l : Launch} {e : Env} {sS : State} {m : MethodId} {args : Array Value} {below : List Frame} {meth : Method} {c : Code} {G : xG} {W0 : va_W} {ad : Nat → Nat}   (E : xE p sS m args c cX0_addFleet 3 RX0 G (x_in W0)) (hr : meth.sig.returnType = (some .int)) (hk : meth.locks = false)  : ∀ (s' : S0) (x1' : Int32) (x2' : Int32) (z : Int32 × S0) {H : Heap} {locs : List Loc} {ls : Array Slot}, xW G (x_in W0) sS.heap (cells0 G ad s') H locs → lv_has ls 3 [(0, .ref (ad 0)), (1, .int x1'), (2, .int x2')] → f_X0_addFleet  s' x1' x2' = some z → W p l e (rm_X0_addFleet) sS m args below meth c H locs 0 0 (MQ below (xQ G W0 (cells0 G ad z.2) (some (.int z.1))) args sS 0 0 (x_in W0)) (F0 m 0 ls []) := by
  intro s x1 x2 z H locs ls hw hl hf
  unfold f_X0_addFleet at hf
  refine lv_aload_n (pc := 0) E.1 E.2.1 dX0_addFleet_0 rfl (lv_at hl 0 rfl) ?_
  refine xg_X0_28 (pc := 1) (v := .int (g0_fleets s)) E hw 0 rfl rfl dX0_addFleet_1 ?_
  refine lv_bipush (v := 8) (pc := 4) E.1 E.2.1 dX0_addFleet_4 (by decide) ?_
  refine lv_icmp_lt (tgt := 11) (pc := 6) E.1 E.2.1 dX0_addFleet_6 (by decide) (fun q1 => ?_) (fun q1 => ?_)
  · have hf := x_pos q1 hf
    refine lv_aload_n (pc := 11) E.1 E.2.1 dX0_addFleet_11 rfl (lv_at hl 0 rfl) ?_
    refine lv_dup (pc := 12) E.1 E.2.1 dX0_addFleet_12 rfl ?_
    refine xg_X0_28 (pc := 13) (v := .int (g0_fleets s)) E hw 0 rfl rfl dX0_addFleet_13 ?_
    refine lv_iconst (v := 1) (pc := 16) E.1 E.2.1 dX0_addFleet_16 (by decide) ?_
    refine lv_iadd (pc := 17) E.1 E.2.1 dX0_addFleet_17 ?_
    refine xp_X0_28 (pc := 18) (v := .int ((g0_fleets s) + (1 : Int32))) (ws' := (cells0c G ad ((g0_fleets s) + (1 : Int32)) (g0_claims s) (g0_cap s) (g0_steady s) (g0_classes s) (g0_years s) (g0_slips s))) E hw 0 rfl rfl rfl (Nat.le_of_ble_eq_true rfl) rfl dX0_addFleet_18 (fun H locs hw => ?_)
    refine lv_aload_n (pc := 21) E.1 E.2.1 dX0_addFleet_21 rfl (lv_at hl 0 rfl) ?_
    refine lv_aload_n (pc := 22) E.1 E.2.1 dX0_addFleet_22 rfl (lv_at hl 0 rfl) ?_
    refine xg_X0_28 (pc := 23) (v := .int ((g0_fleets s) + (1 : Int32))) E hw 0 rfl rfl dX0_addFleet_23 ?_
    refine lv_iconst (v := 1) (pc := 26) E.1 E.2.1 dX0_addFleet_26 (by decide) ?_
    refine lv_isub (pc := 27) E.1 E.2.1 dX0_addFleet_27 ?_
    refine lv_iload_n (pc := 28) E.1 E.2.1 dX0_addFleet_28 rfl (lv_at hl 1 rfl) ?_
    obtain ⟨v2, g3, hf⟩ := x_bind hf
    refine x_callVA (pc := 29) (As := [.int (((g0_fleets s) + (1 : Int32)) - (1 : Int32)), .int x1]) (rest := []) (st1 := []) (ws' := (cells0 G ad v2)) E hw hl (c_X0_putClass l G ad (u0_fleets s ((g0_fleets s) + (1 : Int32))) (((g0_fleets s) + (1 : Int32)) - (1 : Int32)) x1 g3) xv_X0_47 xd_X0_putClass rfl rfl ⟨Nat.le_of_ble_eq_true rfl, Nat.le_of_ble_eq_true rfl⟩ (q0 := 0) rfl rfl rfl rfl (Nat.le_of_ble_eq_true rfl) rfl dX0_addFleet_29 (fun H locs hw => ?_)
    refine lv_aload_n (pc := 32) E.1 E.2.1 dX0_addFleet_32 rfl (lv_at hl 0 rfl) ?_
    refine lv_aload_n (pc := 33) E.1 E.2.1 dX0_addFleet_33 rfl (lv_at hl 0 rfl) ?_
    refine xg_X0_28 (pc := 34) (v := .int (g0_fleets v2)) E hw 0 rfl rfl dX0_addFleet_34 ?_
    refine lv_iconst (v := 1) (pc := 37) E.1 E.2.1 dX0_addFleet_37 (by decide) ?_
    refine lv_isub (pc := 38) E.1 E.2.1 dX0_addFleet_38 ?_
    refine lv_iload_n (pc := 39) E.1 E.2.1 dX0_addFleet_39 rfl (lv_at hl 2 rfl) ?_
    obtain ⟨v4, g5, hf⟩ := x_bind hf
    refine x_callVA (pc := 40) (As := [.int ((g0_fleets v2) - (1 : Int32)), .int x2]) (rest := []) (st1 := []) (ws' := (cells0 G ad v4)) E hw hl (c_X0_putYears l G ad v2 ((g0_fleets v2) - (1 : Int32)) x2 g5) xv_X0_51 xd_X0_putYears rfl rfl ⟨Nat.le_of_ble_eq_true rfl, Nat.le_of_ble_eq_true rfl⟩ (q0 := 0) rfl rfl rfl rfl (Nat.le_of_ble_eq_true rfl) rfl dX0_addFleet_40 (fun H locs hw => ?_)
    refine lv_aload_n (pc := 43) E.1 E.2.1 dX0_addFleet_43 rfl (lv_at hl 0 rfl) ?_
    refine xg_X0_28 (pc := 44) (v := .int (g0_fleets v4)) E hw 0 rfl rfl dX0_addFleet_44 ?_
    refine lv_iconst (v := 1) (pc := 47) E.1 E.2.1 dX0_addFleet_47 (by decide) ?_
    refine lv_isub (pc := 48) E.1 E.2.1 dX0_addFleet_48 ?_
    obtain rfl := Option.some.inj hf
    exact x_reti (pc := 49) E hr hk hw dX0_addFleet_49
  · have hf := x_neg q1 hf
    refine lv_iconst (v := (-1)) (pc := 9) E.1 E.2.1 dX0_addFleet_9 (by decide) ?_
    obtain rfl := Option.some.inj hf
    exact x_reti (pc := 10) E hr hk hw dX0_addFleet_10
set_option maxHeartbeats 4000000 in
set_option maxRecDepth 100000 in
theorem c_X0_addFleet (l : Launch) (G : xG) (ad : Nat → Nat) (s : S0) (x1 : Int32) (x2 : Int32) {z : Int32 × S0} (hf : f_X0_addFleet s x1 x2 = some z) : xC l yX0_addFleet cX0_addFleet 3 (some .int) (rm_X0_addFleet) G [.ref (ad 0), .int x1, .int x2] (cells0 G ad s) (some (.int z.1)) (cells0 G ad z.2) :=
  x_met (by decide) rfl (Nat.le_of_ble_eq_true rfl) (fun p e sS m below meth c E hr hk ls hl hw => w_X0_addFleet_p0 E hr hk s x1 x2 z hw hl hf)
set_option maxHeartbeats 4000000 in
set_option maxRecDepth 100000 in
theorem w_X7_isYear_p0 {p : Program} {l : Launch} {e : Env} {sS : State} {m : MethodId} {args : Array Value} {below : List Frame} {meth : Method} {c : Code} {G : xG} {W0 : va_W}    (E : xE p sS m args c cX7_isYear 1 RX7 G (x_in W0)) (hr : meth.sig.returnType = (some .boolean)) (hk : meth.locks = false)  : ∀ (x0' : Int32) (z : Int32) {H : Heap} {locs : List Loc} {ls : Array Slot}, xW G (x_in W0) sS.heap [] H locs → lv_has ls 1 [(0, .int x0')] → f_X7_isYear  x0' = some z → W p l e (rm_X7_isYear) sS m args below meth c H locs 0 0 (MQ below (xQ G W0 [] (some (.int z))) args sS 0 0 (x_in W0)) (F0 m 0 ls []) := by
  intro x0 z H locs ls hw hl hf
  unfold f_X7_isYear at hf
  refine lv_iload_n (pc := 0) E.1 E.2.1 dX7_isYear_0 rfl (lv_at hl 0 rfl) ?_
  refine lv_if_lt (tgt := 13) (pc := 1) E.1 E.2.1 dX7_isYear_1 (by decide) (fun q1 => ?_) (fun q1 => ?_)
  · have hf := x_pos q1 hf
    refine lv_iconst (v := 0) (pc := 13) E.1 E.2.1 dX7_isYear_13 (by decide) ?_
    obtain rfl := Option.some.inj hf
    exact x_retz (pc := 14) (v := 0) (r := 0) E hr hk hw (by decide) dX7_isYear_14
  · have hf := x_neg q1 hf
    refine lv_iload_n (pc := 4) E.1 E.2.1 dX7_isYear_4 rfl (lv_at hl 0 rfl) ?_
    refine lv_iconst (v := 5) (pc := 5) E.1 E.2.1 dX7_isYear_5 (by decide) ?_
    refine lv_icmp_ge (tgt := 13) (pc := 6) E.1 E.2.1 dX7_isYear_6 (by decide) (fun q2 => ?_) (fun q2 => ?_)
    · have hf := x_pos q2 hf
      refine lv_iconst (v := 0) (pc := 13) E.1 E.2.1 dX7_isYear_13 (by decide) ?_
      obtain rfl := Option.some.inj hf
      exact x_retz (pc := 14) (v := 0) (r := 0) E hr hk hw (by decide) dX7_isYear_14
    · have hf := x_neg q2 hf
      refine lv_iconst (v := 1) (pc := 9) E.1 E.2.1 dX7_isYear_9 (by decide) ?_
      refine lv_goto (tgt := 14) (pc := 10) E.1 E.2.1 dX7_isYear_10 (by decide) ?_
      obtain rfl := Option.some.inj hf
      exact x_retz (pc := 14) (v := 1) (r := 1) E hr hk hw (by decide) dX7_isYear_14
set_option maxHeartbeats 4000000 in
set_option maxRecDepth 100000 in
theorem c_X7_isYear (l : Launch) (G : xG)  (x0 : Int32) {z : Int32} (hf : f_X7_isYear x0 = some z) : xC l yX7_isYear cX7_isYear 1 (some .boolean) (rm_X7_isYear) G [.int x0] [] (some (.int z)) [] :=
  x_met (by decide) rfl (Nat.le_of_ble_eq_true rfl) (fun p e sS m below meth c E hr hk ls hl hw => w_X7_isYear_p0 E hr hk x0 z hw hl hf)
set_option maxHeartbeats 4000000 in
set_option maxRecDepth 100000 in
theorem w_X0_isInsured_p0 {p : Program} {l : Launch} {e : Env} {sS : State} {m : MethodId} {args : Array Value} {below : List Frame} {meth : Method} {c : Code} {G : xG} {W0 : va_W} {ad : Nat → Nat}   (E : xE p sS m args c cX0_isInsured 3 RX0 G (x_in W0)) (hr : meth.sig.returnType = (some .boolean)) (hk : meth.locks = false)  : ∀ (s' : S0) (x1' : Int32) (x2' : Int32) (z : Int32) {H : Heap} {locs : List Loc} {ls : Array Slot}, xW G (x_in W0) sS.heap (cells0 G ad s') H locs → lv_has ls 3 [(0, .ref (ad 0)), (1, .int x1'), (2, .int x2')] → f_X0_isInsured  s' x1' x2' = some z → W p l e (rm_X0_isInsured) sS m args below meth c H locs 0 0 (MQ below (xQ G W0 (cells0 G ad s') (some (.int z))) args sS 0 0 (x_in W0)) (F0 m 0 ls []) := by
  intro s x1 x2 z H locs ls hw hl hf
  unfold f_X0_isInsured at hf
  refine lv_aload_n (pc := 0) E.1 E.2.1 dX0_isInsured_0 rfl (lv_at hl 0 rfl) ?_
  refine lv_iload_n (pc := 1) E.1 E.2.1 dX0_isInsured_1 rfl (lv_at hl 1 rfl) ?_
  obtain ⟨v1, g2, hf⟩ := x_bind hf
  refine x_callVA (pc := 2) (As := [.int x1]) (rest := []) (st1 := [.int v1]) (ws' := (cells0 G ad s)) E hw hl (c_X0_hasFleet l G ad s x1 g2) xv_X0_40 xd_X0_hasFleet rfl rfl ⟨Nat.le_of_ble_eq_true rfl, Nat.le_of_ble_eq_true rfl⟩ (q0 := 0) rfl rfl rfl rfl (Nat.le_of_ble_eq_true rfl) rfl dX0_isInsured_2 (fun H locs hw => ?_)
  refine lv_if_eq (tgt := 33) (pc := 5) E.1 E.2.1 dX0_isInsured_5 (by decide) (fun q3 => ?_) (fun q3 => ?_)
  · have hf := x_pos q3 hf
    refine lv_iconst (v := 0) (pc := 33) E.1 E.2.1 dX0_isInsured_33 (by decide) ?_
    obtain rfl := Option.some.inj hf
    exact x_retz (pc := 34) (v := 0) (r := 0) E hr hk hw (by decide) dX0_isInsured_34
  · have hf := x_neg q3 hf
    refine lv_iload_n (pc := 8) E.1 E.2.1 dX0_isInsured_8 rfl (lv_at hl 2 rfl) ?_
    obtain ⟨v4, g5, hf⟩ := x_bind hf
    refine x_callSN0 (pc := 9) (As := [.int x2]) (rest := []) (st1 := [.int v4]) E hw hl (c_X7_isYear l G  x2 g5) E.2.2.2.2.2.2.2.2.2.2.1 wq_531 wq_530 wq_95 xe_X7_isYear rfl rfl ⟨Nat.le_of_ble_eq_true rfl, Nat.le_of_ble_eq_true rfl⟩ rfl rfl (Nat.le_of_ble_eq_true rfl) rfl dX0_isInsured_9 (fun H locs hw => ?_)
    refine lv_if_eq (tgt := 33) (pc := 12) E.1 E.2.1 dX0_isInsured_12 (by decide) (fun q6 => ?_) (fun q6 => ?_)
    · have hf := x_pos q6 hf
      refine lv_iconst (v := 0) (pc := 33) E.1 E.2.1 dX0_isInsured_33 (by decide) ?_
      obtain rfl := Option.some.inj hf
      exact x_retz (pc := 34) (v := 0) (r := 0) E hr hk hw (by decide) dX0_isInsured_34
    · have hf := x_neg q6 hf
      refine lv_aload_n (pc := 15) E.1 E.2.1 dX0_isInsured_15 rfl (lv_at hl 0 rfl) ?_
      refine xg_X0_22 (pc := 16) (v := .ref (ad 2)) E hw 0 rfl rfl dX0_isInsured_16 ?_
      refine lv_iload_n (pc := 19) E.1 E.2.1 dX0_isInsured_19 rfl (lv_at hl 1 rfl) ?_
      obtain ⟨v8, g7, hf⟩ := x_bind hf
      refine x_iald (pc := 20) E hw 2 rfl g7 dX0_isInsured_20 ?_
      refine lv_iload_n (pc := 21) E.1 E.2.1 dX0_isInsured_21 rfl (lv_at hl 2 rfl) ?_
      refine lv_ishr (pc := 22) E.1 E.2.1 dX0_isInsured_22 ?_
      refine lv_iconst (v := 1) (pc := 23) E.1 E.2.1 dX0_isInsured_23 (by decide) ?_
      refine lv_iand (pc := 24) E.1 E.2.1 dX0_isInsured_24 ?_
      refine lv_iconst (v := 1) (pc := 25) E.1 E.2.1 dX0_isInsured_25 (by decide) ?_
      refine lv_icmp_ne (tgt := 33) (pc := 26) E.1 E.2.1 dX0_isInsured_26 (by decide) (fun q9 => ?_) (fun q9 => ?_)
      · have hf := x_neg q9 hf
        refine lv_iconst (v := 0) (pc := 33) E.1 E.2.1 dX0_isInsured_33 (by decide) ?_
        obtain rfl := Option.some.inj hf
        exact x_retz (pc := 34) (v := 0) (r := 0) E hr hk hw (by decide) dX0_isInsured_34
      · have hf := x_pos q9 hf
        refine lv_iconst (v := 1) (pc := 29) E.1 E.2.1 dX0_isInsured_29 (by decide) ?_
        refine lv_goto (tgt := 34) (pc := 30) E.1 E.2.1 dX0_isInsured_30 (by decide) ?_
        obtain rfl := Option.some.inj hf
        exact x_retz (pc := 34) (v := 1) (r := 1) E hr hk hw (by decide) dX0_isInsured_34
set_option maxHeartbeats 4000000 in
set_option maxRecDepth 100000 in
theorem c_X0_isInsured (l : Launch) (G : xG) (ad : Nat → Nat) (s : S0) (x1 : Int32) (x2 : Int32) {z : Int32} (hf : f_X0_isInsured s x1 x2 = some z) : xC l yX0_isInsured cX0_isInsured 3 (some .boolean) (rm_X0_isInsured) G [.ref (ad 0), .int x1, .int x2] (cells0 G ad s) (some (.int z)) (cells0 G ad s) :=
  x_met (by decide) rfl (Nat.le_of_ble_eq_true rfl) (fun p e sS m below meth c E hr hk ls hl hw => w_X0_isInsured_p0 E hr hk s x1 x2 z hw hl hf)
set_option maxHeartbeats 4000000 in
set_option maxRecDepth 100000 in
theorem w_X0_hasClaim_p0 {p : Program} {l : Launch} {e : Env} {sS : State} {m : MethodId} {args : Array Value} {below : List Frame} {meth : Method} {c : Code} {G : xG} {W0 : va_W} {ad : Nat → Nat}   (E : xE p sS m args c cX0_hasClaim 2 RX0 G (x_in W0)) (hr : meth.sig.returnType = (some .boolean)) (hk : meth.locks = false)  : ∀ (s' : S0) (x1' : Int32) (z : Int32) {H : Heap} {locs : List Loc} {ls : Array Slot}, xW G (x_in W0) sS.heap (cells0 G ad s') H locs → lv_has ls 2 [(0, .ref (ad 0)), (1, .int x1')] → f_X0_hasClaim  s' x1' = some z → W p l e (rm_X0_hasClaim) sS m args below meth c H locs 0 0 (MQ below (xQ G W0 (cells0 G ad s') (some (.int z))) args sS 0 0 (x_in W0)) (F0 m 0 ls []) := by
  intro s x1 z H locs ls hw hl hf
  unfold f_X0_hasClaim at hf
  refine lv_iload_n (pc := 0) E.1 E.2.1 dX0_hasClaim_0 rfl (lv_at hl 1 rfl) ?_
  refine lv_if_lt (tgt := 22) (pc := 1) E.1 E.2.1 dX0_hasClaim_1 (by decide) (fun q1 => ?_) (fun q1 => ?_)
  · have hf := x_pos q1 hf
    refine lv_iconst (v := 0) (pc := 22) E.1 E.2.1 dX0_hasClaim_22 (by decide) ?_
    obtain rfl := Option.some.inj hf
    exact x_retz (pc := 23) (v := 0) (r := 0) E hr hk hw (by decide) dX0_hasClaim_23
  · have hf := x_neg q1 hf
    refine lv_iload_n (pc := 4) E.1 E.2.1 dX0_hasClaim_4 rfl (lv_at hl 1 rfl) ?_
    refine lv_aload_n (pc := 5) E.1 E.2.1 dX0_hasClaim_5 rfl (lv_at hl 0 rfl) ?_
    refine xg_X0_31 (pc := 6) (v := .int (g0_claims s)) E hw 0 rfl rfl dX0_hasClaim_6 ?_
    refine lv_icmp_ge (tgt := 22) (pc := 9) E.1 E.2.1 dX0_hasClaim_9 (by decide) (fun q2 => ?_) (fun q2 => ?_)
    · have hf := x_pos q2 hf
      refine lv_iconst (v := 0) (pc := 22) E.1 E.2.1 dX0_hasClaim_22 (by decide) ?_
      obtain rfl := Option.some.inj hf
      exact x_retz (pc := 23) (v := 0) (r := 0) E hr hk hw (by decide) dX0_hasClaim_23
    · have hf := x_neg q2 hf
      refine lv_iload_n (pc := 12) E.1 E.2.1 dX0_hasClaim_12 rfl (lv_at hl 1 rfl) ?_
      refine lv_bipush (v := 40) (pc := 13) E.1 E.2.1 dX0_hasClaim_13 (by decide) ?_
      refine lv_icmp_ge (tgt := 22) (pc := 15) E.1 E.2.1 dX0_hasClaim_15 (by decide) (fun q3 => ?_) (fun q3 => ?_)
      · have hf := x_pos q3 hf
        refine lv_iconst (v := 0) (pc := 22) E.1 E.2.1 dX0_hasClaim_22 (by decide) ?_
        obtain rfl := Option.some.inj hf
        exact x_retz (pc := 23) (v := 0) (r := 0) E hr hk hw (by decide) dX0_hasClaim_23
      · have hf := x_neg q3 hf
        refine lv_iconst (v := 1) (pc := 18) E.1 E.2.1 dX0_hasClaim_18 (by decide) ?_
        refine lv_goto (tgt := 23) (pc := 19) E.1 E.2.1 dX0_hasClaim_19 (by decide) ?_
        obtain rfl := Option.some.inj hf
        exact x_retz (pc := 23) (v := 1) (r := 1) E hr hk hw (by decide) dX0_hasClaim_23
set_option maxHeartbeats 4000000 in
set_option maxRecDepth 100000 in
theorem c_X0_hasClaim (l : Launch) (G : xG) (ad : Nat → Nat) (s : S0) (x1 : Int32) {z : Int32} (hf : f_X0_hasClaim s x1 = some z) : xC l yX0_hasClaim cX0_hasClaim 2 (some .boolean) (rm_X0_hasClaim) G [.ref (ad 0), .int x1] (cells0 G ad s) (some (.int z)) (cells0 G ad s) :=
  x_met (by decide) rfl (Nat.le_of_ble_eq_true rfl) (fun p e sS m below meth c E hr hk ls hl hw => w_X0_hasClaim_p0 E hr hk s x1 z hw hl hf)
set_option maxHeartbeats 4000000 in
set_option maxRecDepth 100000 in
theorem w_X0_isOf_p0 {p : Program} {l : Launch} {e : Env} {sS : State} {m : MethodId} {args : Array Value} {below : List Frame} {meth : Method} {c : Code} {G : xG} {W0 : va_W} {ad : Nat → Nat}   (E : xE p sS m args c cX0_isOf 4 RX0 G (x_in W0)) (hr : meth.sig.returnType = (some .boolean)) (hk : meth.locks = false)  : ∀ (s' : S0) (x1' : Int32) (x2' : Int32) (x3' : Int32) (z : Int32) {H : Heap} {locs : List Loc} {ls : Array Slot}, xW G (x_in W0) sS.heap (cells0 G ad s') H locs → lv_has ls 4 [(0, .ref (ad 0)), (1, .int x1'), (2, .int x2'), (3, .int x3')] → f_X0_isOf  s' x1' x2' x3' = some z → W p l e (rm_X0_isOf) sS m args below meth c H locs 0 0 (MQ below (xQ G W0 (cells0 G ad s') (some (.int z))) args sS 0 0 (x_in W0)) (F0 m 0 ls []) := by
  intro s x1 x2 x3 z H locs ls hw hl hf
  unfold f_X0_isOf at hf
  refine lv_aload_n (pc := 0) E.1 E.2.1 dX0_isOf_0 rfl (lv_at hl 0 rfl) ?_
  refine lv_iload_n (pc := 1) E.1 E.2.1 dX0_isOf_1 rfl (lv_at hl 1 rfl) ?_
  obtain ⟨v1, g2, hf⟩ := x_bind hf
  refine x_callVA (pc := 2) (As := [.int x1]) (rest := []) (st1 := [.int v1]) (ws' := (cells0 G ad s)) E hw hl (c_X0_hasClaim l G ad s x1 g2) xv_X0_89 xd_X0_hasClaim rfl rfl ⟨Nat.le_of_ble_eq_true rfl, Nat.le_of_ble_eq_true rfl⟩ (q0 := 0) rfl rfl rfl rfl (Nat.le_of_ble_eq_true rfl) rfl dX0_isOf_2 (fun H locs hw => ?_)
  refine lv_if_eq (tgt := 45) (pc := 5) E.1 E.2.1 dX0_isOf_5 (by decide) (fun q3 => ?_) (fun q3 => ?_)
  · have hf := x_pos q3 hf
    refine lv_iconst (v := 0) (pc := 45) E.1 E.2.1 dX0_isOf_45 (by decide) ?_
    obtain rfl := Option.some.inj hf
    exact x_retz (pc := 46) (v := 0) (r := 0) E hr hk hw (by decide) dX0_isOf_46
  · have hf := x_neg q3 hf
    refine lv_aload_n (pc := 8) E.1 E.2.1 dX0_isOf_8 rfl (lv_at hl 0 rfl) ?_
    refine xg_X0_25 (pc := 9) (v := .ref (ad 3)) E hw 0 rfl rfl dX0_isOf_9 ?_
    refine lv_iload_n (pc := 12) E.1 E.2.1 dX0_isOf_12 rfl (lv_at hl 1 rfl) ?_
    obtain ⟨v5, g4, hf⟩ := x_bind hf
    refine x_iald (pc := 13) E hw 3 rfl g4 dX0_isOf_13 ?_
    refine lv_bipush (v := 10) (pc := 14) E.1 E.2.1 dX0_isOf_14 (by decide) ?_
    refine lv_ishr (pc := 16) E.1 E.2.1 dX0_isOf_16 ?_
    refine lv_iload_n (pc := 17) E.1 E.2.1 dX0_isOf_17 rfl (lv_at hl 2 rfl) ?_
    refine lv_icmp_ne (tgt := 45) (pc := 18) E.1 E.2.1 dX0_isOf_18 (by decide) (fun q6 => ?_) (fun q6 => ?_)
    · have hf := x_neg q6 hf
      refine lv_iconst (v := 0) (pc := 45) E.1 E.2.1 dX0_isOf_45 (by decide) ?_
      obtain rfl := Option.some.inj hf
      exact x_retz (pc := 46) (v := 0) (r := 0) E hr hk hw (by decide) dX0_isOf_46
    · have hf := x_pos q6 hf
      refine lv_iload_n (pc := 21) E.1 E.2.1 dX0_isOf_21 rfl (lv_at hl 3 rfl) ?_
      refine lv_aload_n (pc := 22) E.1 E.2.1 dX0_isOf_22 rfl (lv_at hl 0 rfl) ?_
      refine xg_X0_25 (pc := 23) (v := .ref (ad 3)) E hw 0 rfl rfl dX0_isOf_23 ?_
      refine lv_iload_n (pc := 26) E.1 E.2.1 dX0_isOf_26 rfl (lv_at hl 1 rfl) ?_
      obtain ⟨v8, g7, hf⟩ := x_bind hf
      refine x_iald (pc := 27) E hw 3 rfl g7 dX0_isOf_27 ?_
      refine lv_bipush (v := 7) (pc := 28) E.1 E.2.1 dX0_isOf_28 (by decide) ?_
      refine lv_ishr (pc := 30) E.1 E.2.1 dX0_isOf_30 ?_
      refine lv_bipush (v := 7) (pc := 31) E.1 E.2.1 dX0_isOf_31 (by decide) ?_
      refine lv_iand (pc := 33) E.1 E.2.1 dX0_isOf_33 ?_
      refine lv_ishr (pc := 34) E.1 E.2.1 dX0_isOf_34 ?_
      refine lv_iconst (v := 1) (pc := 35) E.1 E.2.1 dX0_isOf_35 (by decide) ?_
      refine lv_iand (pc := 36) E.1 E.2.1 dX0_isOf_36 ?_
      refine lv_iconst (v := 1) (pc := 37) E.1 E.2.1 dX0_isOf_37 (by decide) ?_
      refine lv_icmp_ne (tgt := 45) (pc := 38) E.1 E.2.1 dX0_isOf_38 (by decide) (fun q9 => ?_) (fun q9 => ?_)
      · have hf := x_neg q9 hf
        refine lv_iconst (v := 0) (pc := 45) E.1 E.2.1 dX0_isOf_45 (by decide) ?_
        obtain rfl := Option.some.inj hf
        exact x_retz (pc := 46) (v := 0) (r := 0) E hr hk hw (by decide) dX0_isOf_46
      · have hf := x_pos q9 hf
        refine lv_iconst (v := 1) (pc := 41) E.1 E.2.1 dX0_isOf_41 (by decide) ?_
        refine lv_goto (tgt := 46) (pc := 42) E.1 E.2.1 dX0_isOf_42 (by decide) ?_
        obtain rfl := Option.some.inj hf
        exact x_retz (pc := 46) (v := 1) (r := 1) E hr hk hw (by decide) dX0_isOf_46
set_option maxHeartbeats 4000000 in
set_option maxRecDepth 100000 in
theorem c_X0_isOf (l : Launch) (G : xG) (ad : Nat → Nat) (s : S0) (x1 : Int32) (x2 : Int32) (x3 : Int32) {z : Int32} (hf : f_X0_isOf s x1 x2 x3 = some z) : xC l yX0_isOf cX0_isOf 4 (some .boolean) (rm_X0_isOf) G [.ref (ad 0), .int x1, .int x2, .int x3] (cells0 G ad s) (some (.int z)) (cells0 G ad s) :=
  x_met (by decide) rfl (Nat.le_of_ble_eq_true rfl) (fun p e sS m below meth c E hr hk ls hl hw => w_X0_isOf_p0 E hr hk s x1 x2 x3 z hw hl hf)
set_option maxHeartbeats 4000000 in
set_option maxRecDepth 100000 in
theorem w_X0_canClaim_p25 {p : Program} {l : Launch} {e : Env} {sS : State} {m : MethodId} {args : Array Value} {below : List Frame} {meth : Method} {c : Code} {G : xG} {W0 : va_W} {ad : Nat → Nat}  {k25 : S0 → Int32 → Int32 → Int32 → Int32 → Option (Int32)} (E : xE p sS m args c cX0_canClaim 5 RX0 G (x_in W0)) (hr : meth.sig.returnType = (some .boolean)) (hk : meth.locks = false) (hk25 : ∀ (s' : S0) (x1' : Int32) (x2' : Int32) (x3' : Int32) (x4' : Int32) (z : Int32) {H : Heap} {locs : List Loc} {ls : Array Slot}, xW G (x_in W0) sS.heap (cells0 G ad s') H locs → lv_has ls 5 [(0, .ref (ad 0)), (1, .int x1'), (2, .int x2'), (3, .int x3'), (4, .int x4')] → k25  s' x1' x2' x3' x4' = some z → W p l e (rm_X0_canClaim) sS m args below meth c H locs 0 0 (MQ below (xQ G W0 (cells0 G ad s') (some (.int z))) args sS 0 0 (x_in W0)) (F0 m 25 ls [])) : ∀ (s' : S0) (x1' : Int32) (x2' : Int32) (x3' : Int32) (x4' : Int32) (z : Int32) {H : Heap} {locs : List Loc} {ls : Array Slot}, xW G (x_in W0) sS.heap (cells0 G ad s') H locs → lv_has ls 5 [(0, .ref (ad 0)), (1, .int x1'), (2, .int x2'), (3, .int x3'), (4, .int x4')] → f_X0_canClaim_p25 k25 s' x1' x2' x3' x4' = some z → W p l e (rm_X0_canClaim) sS m args below meth c H locs 0 0 (MQ below (xQ G W0 (cells0 G ad s') (some (.int z))) args sS 0 0 (x_in W0)) (F0 m 25 ls []) := by
  intro s x1 x2 x3 x4 z H locs ls hw hl hf
  unfold f_X0_canClaim_p25 at hf
  refine lv_iload (pc := 25) E.1 E.2.1 dX0_canClaim_25 (lv_at hl 4 rfl) ?_
  refine lv_aload_n (pc := 27) E.1 E.2.1 dX0_canClaim_27 rfl (lv_at hl 0 rfl) ?_
  refine xg_X0_31 (pc := 28) (v := .int (g0_claims s)) E hw 0 rfl rfl dX0_canClaim_28 ?_
  refine lv_icmp_ge (tgt := 61) (pc := 31) E.1 E.2.1 dX0_canClaim_31 (by decide) (fun q1 => ?_) (fun q1 => ?_)
  · have hf := x_pos q1 hf
    refine lv_iload_n (pc := 61) E.1 E.2.1 dX0_canClaim_61 rfl (lv_at hl 3 rfl) ?_
    refine lv_iconst (v := 4) (pc := 62) E.1 E.2.1 dX0_canClaim_62 (by decide) ?_
    refine lv_icmp_ge (tgt := 70) (pc := 63) E.1 E.2.1 dX0_canClaim_63 (by decide) (fun q2 => ?_) (fun q2 => ?_)
    · have hf := x_pos q2 hf
      refine lv_iconst (v := 0) (pc := 70) E.1 E.2.1 dX0_canClaim_70 (by decide) ?_
      obtain rfl := Option.some.inj hf
      exact x_retz (pc := 71) (v := 0) (r := 0) E hr hk hw (by decide) dX0_canClaim_71
    · have hf := x_neg q2 hf
      refine lv_iconst (v := 1) (pc := 66) E.1 E.2.1 dX0_canClaim_66 (by decide) ?_
      refine lv_goto (tgt := 71) (pc := 67) E.1 E.2.1 dX0_canClaim_67 (by decide) ?_
      obtain rfl := Option.some.inj hf
      exact x_retz (pc := 71) (v := 1) (r := 1) E hr hk hw (by decide) dX0_canClaim_71
  · have hf := x_neg q1 hf
    refine lv_iload_n (pc := 34) E.1 E.2.1 dX0_canClaim_34 rfl (lv_at hl 3 rfl) ?_
    refine lv_aload_n (pc := 35) E.1 E.2.1 dX0_canClaim_35 rfl (lv_at hl 0 rfl) ?_
    refine lv_iload (pc := 36) E.1 E.2.1 dX0_canClaim_36 (lv_at hl 4 rfl) ?_
    refine lv_iload_n (pc := 38) E.1 E.2.1 dX0_canClaim_38 rfl (lv_at hl 1 rfl) ?_
    refine lv_iconst (v := 1) (pc := 39) E.1 E.2.1 dX0_canClaim_39 (by decide) ?_
    refine lv_iload_n (pc := 40) E.1 E.2.1 dX0_canClaim_40 rfl (lv_at hl 2 rfl) ?_
    refine lv_ishl (pc := 41) E.1 E.2.1 dX0_canClaim_41 ?_
    obtain ⟨v3, g4, hf⟩ := x_bind hf
    refine x_callVA (pc := 42) (As := [.int x4, .int x1, .int ((1 : Int32) <<< (x2 &&& 31))]) (rest := [.int x3]) (st1 := [.int v3, .int x3]) (ws' := (cells0 G ad s)) E hw hl (c_X0_isOf l G ad s x4 x1 ((1 : Int32) <<< (x2 &&& 31)) g4) xv_X0_107 xd_X0_isOf rfl rfl ⟨Nat.le_of_ble_eq_true rfl, Nat.le_of_ble_eq_true rfl⟩ (q0 := 0) rfl rfl rfl rfl (Nat.le_of_ble_eq_true rfl) rfl dX0_canClaim_42 (fun H locs hw => ?_)
    refine lv_if_eq (tgt := 52) (pc := 45) E.1 E.2.1 dX0_canClaim_45 (by decide) (fun q5 => ?_) (fun q5 => ?_)
    · have hf := x_pos q5 hf
      refine lv_iconst (v := 0) (pc := 52) E.1 E.2.1 dX0_canClaim_52 (by decide) ?_
      refine lv_iadd (pc := 53) E.1 E.2.1 dX0_canClaim_53 ?_
      refine lv_istore_n (lv' := [(3, .int (x3 + (0 : Int32))), (0, .ref (ad 0)), (1, .int x1), (2, .int x2), (4, .int x4)]) (pc := 54) E.1 E.2.1 dX0_canClaim_54 rfl hl (by decide) rfl (fun ls hl => ?_)
      refine lv_iinc (v := (x4 + 1)) (lv' := [(4, .int (x4 + 1)), (3, .int (x3 + (0 : Int32))), (0, .ref (ad 0)), (1, .int x1), (2, .int x2)]) (pc := 55) E.1 E.2.1 dX0_canClaim_55 hl (k := 4) rfl rfl (by decide) rfl (fun ls hl => ?_)
      refine lv_goto (tgt := 25) (pc := 58) E.1 E.2.1 dX0_canClaim_58 (by decide) ?_
      exact hk25 s x1 x2 (x3 + (0 : Int32)) (x4 + 1) z hw (lv_sub hl [2, 3, 4, 1, 0] rfl) hf
    · have hf := x_neg q5 hf
      refine lv_iconst (v := 1) (pc := 48) E.1 E.2.1 dX0_canClaim_48 (by decide) ?_
      refine lv_goto (tgt := 53) (pc := 49) E.1 E.2.1 dX0_canClaim_49 (by decide) ?_
      refine lv_iadd (pc := 53) E.1 E.2.1 dX0_canClaim_53 ?_
      refine lv_istore_n (lv' := [(3, .int (x3 + (1 : Int32))), (0, .ref (ad 0)), (1, .int x1), (2, .int x2), (4, .int x4)]) (pc := 54) E.1 E.2.1 dX0_canClaim_54 rfl hl (by decide) rfl (fun ls hl => ?_)
      refine lv_iinc (v := (x4 + 1)) (lv' := [(4, .int (x4 + 1)), (3, .int (x3 + (1 : Int32))), (0, .ref (ad 0)), (1, .int x1), (2, .int x2)]) (pc := 55) E.1 E.2.1 dX0_canClaim_55 hl (k := 4) rfl rfl (by decide) rfl (fun ls hl => ?_)
      refine lv_goto (tgt := 25) (pc := 58) E.1 E.2.1 dX0_canClaim_58 (by decide) ?_
      exact hk25 s x1 x2 (x3 + (1 : Int32)) (x4 + 1) z hw (lv_sub hl [2, 3, 4, 1, 0] rfl) hf
set_option maxHeartbeats 4000000 in
set_option maxRecDepth 100000 in
theorem wl_X0_canClaim_p25 {p : Program} {l : Launch} {e : Env} {sS : State} {m : MethodId} {args : Array Value} {below : List Frame} {meth : Method} {c : Code} {G : xG} {W0 : va_W} {ad : Nat → Nat}   (E : xE p sS m args c cX0_canClaim 5 RX0 G (x_in W0)) (hr : meth.sig.returnType = (some .boolean)) (hk : meth.locks = false)  : ∀ (s' : S0) (x1' : Int32) (x2' : Int32) (x3' : Int32) (x4' : Int32) (z : Int32) {H : Heap} {locs : List Loc} {ls : Array Slot}, xW G (x_in W0) sS.heap (cells0 G ad s') H locs → lv_has ls 5 [(0, .ref (ad 0)), (1, .int x1'), (2, .int x2'), (3, .int x3'), (4, .int x4')] → lp_X0_canClaim_p25  s' x1' x2' x3' x4' = some z → W p l e (rm_X0_canClaim) sS m args below meth c H locs 0 0 (MQ below (xQ G W0 (cells0 G ad s') (some (.int z))) args sS 0 0 (x_in W0)) (F0 m 25 ls []) := by
  intro s x1 x2 x3 x4 z H locs ls hw hl hf
  exact x_loop_W (P := fun (q : S0 × Int32 × Int32 × Int32 × Int32) (z : Int32) => ∀ {H : Heap} {locs : List Loc} {ls : Array Slot}, xW G (x_in W0) sS.heap (cells0 G ad q.1) H locs → lv_has ls 5 [(0, .ref (ad 0)), (1, .int q.2.1), (2, .int q.2.2.1), (3, .int q.2.2.2.1), (4, .int q.2.2.2.2)] → W p l e (rm_X0_canClaim) sS m args below meth c H locs 0 0 (MQ below (xQ G W0 (cells0 G ad q.1) (some (.int z))) args sS 0 0 (x_in W0)) (F0 m 25 ls [])) (fun k hkk q z hf H locs ls hw hl => w_X0_canClaim_p25 E hr hk  (fun s x1 x2 x3 x4 z H locs ls hw hl hf => hkk (s, x1, x2, x3, x4) z hf hw hl) q.1 q.2.1 q.2.2.1 q.2.2.2.1 q.2.2.2.2 z hw hl hf) FU (s, x1, x2, x3, x4) z hf hw hl
set_option maxHeartbeats 4000000 in
set_option maxRecDepth 100000 in
theorem w_X0_canClaim_p0 {p : Program} {l : Launch} {e : Env} {sS : State} {m : MethodId} {args : Array Value} {below : List Frame} {meth : Method} {c : Code} {G : xG} {W0 : va_W} {ad : Nat → Nat}   (E : xE p sS m args c cX0_canClaim 5 RX0 G (x_in W0)) (hr : meth.sig.returnType = (some .boolean)) (hk : meth.locks = false)  : ∀ (s' : S0) (x1' : Int32) (x2' : Int32) (z : Int32) {H : Heap} {locs : List Loc} {ls : Array Slot}, xW G (x_in W0) sS.heap (cells0 G ad s') H locs → lv_has ls 5 [(0, .ref (ad 0)), (1, .int x1'), (2, .int x2')] → f_X0_canClaim  s' x1' x2' = some z → W p l e (rm_X0_canClaim) sS m args below meth c H locs 0 0 (MQ below (xQ G W0 (cells0 G ad s') (some (.int z))) args sS 0 0 (x_in W0)) (F0 m 0 ls []) := by
  intro s x1 x2 z H locs ls hw hl hf
  unfold f_X0_canClaim at hf
  refine lv_aload_n (pc := 0) E.1 E.2.1 dX0_canClaim_0 rfl (lv_at hl 0 rfl) ?_
  refine xg_X0_31 (pc := 1) (v := .int (g0_claims s)) E hw 0 rfl rfl dX0_canClaim_1 ?_
  refine lv_bipush (v := 40) (pc := 4) E.1 E.2.1 dX0_canClaim_4 (by decide) ?_
  refine lv_icmp_ge (tgt := 18) (pc := 6) E.1 E.2.1 dX0_canClaim_6 (by decide) (fun q1 => ?_) (fun q1 => ?_)
  · have hf := x_pos q1 hf
    refine lv_iconst (v := 0) (pc := 18) E.1 E.2.1 dX0_canClaim_18 (by decide) ?_
    obtain rfl := Option.some.inj hf
    exact x_retz (pc := 19) (v := 0) (r := 0) E hr hk hw (by decide) dX0_canClaim_19
  · have hf := x_neg q1 hf
    refine lv_aload_n (pc := 9) E.1 E.2.1 dX0_canClaim_9 rfl (lv_at hl 0 rfl) ?_
    refine lv_iload_n (pc := 10) E.1 E.2.1 dX0_canClaim_10 rfl (lv_at hl 1 rfl) ?_
    refine lv_iload_n (pc := 11) E.1 E.2.1 dX0_canClaim_11 rfl (lv_at hl 2 rfl) ?_
    obtain ⟨v2, g3, hf⟩ := x_bind hf
    refine x_callVA (pc := 12) (As := [.int x1, .int x2]) (rest := []) (st1 := [.int v2]) (ws' := (cells0 G ad s)) E hw hl (c_X0_isInsured l G ad s x1 x2 g3) xv_X0_85 xd_X0_isInsured rfl rfl ⟨Nat.le_of_ble_eq_true rfl, Nat.le_of_ble_eq_true rfl⟩ (q0 := 0) rfl rfl rfl rfl (Nat.le_of_ble_eq_true rfl) rfl dX0_canClaim_12 (fun H locs hw => ?_)
    refine lv_if_ne (tgt := 20) (pc := 15) E.1 E.2.1 dX0_canClaim_15 (by decide) (fun q4 => ?_) (fun q4 => ?_)
    · have hf := x_neg q4 hf
      refine lv_iconst (v := 0) (pc := 20) E.1 E.2.1 dX0_canClaim_20 (by decide) ?_
      refine lv_istore_n (lv' := [(3, .int 0), (0, .ref (ad 0)), (1, .int x1), (2, .int x2)]) (pc := 21) E.1 E.2.1 dX0_canClaim_21 rfl hl (by decide) rfl (fun ls hl => ?_)
      refine lv_iconst (v := 0) (pc := 22) E.1 E.2.1 dX0_canClaim_22 (by decide) ?_
      refine lv_istore (lv' := [(4, .int 0), (3, .int 0), (0, .ref (ad 0)), (1, .int x1), (2, .int x2)]) (pc := 23) E.1 E.2.1 dX0_canClaim_23 hl (by decide) rfl (fun ls hl => ?_)
      exact wl_X0_canClaim_p25 E hr hk  s x1 x2 0 0 z hw (lv_sub hl [2, 3, 4, 1, 0] rfl) hf
    · have hf := x_pos q4 hf
      refine lv_iconst (v := 0) (pc := 18) E.1 E.2.1 dX0_canClaim_18 (by decide) ?_
      obtain rfl := Option.some.inj hf
      exact x_retz (pc := 19) (v := 0) (r := 0) E hr hk hw (by decide) dX0_canClaim_19
set_option maxHeartbeats 4000000 in
set_option maxRecDepth 100000 in
theorem c_X0_canClaim (l : Launch) (G : xG) (ad : Nat → Nat) (s : S0) (x1 : Int32) (x2 : Int32) {z : Int32} (hf : f_X0_canClaim s x1 x2 = some z) : xC l yX0_canClaim cX0_canClaim 5 (some .boolean) (rm_X0_canClaim) G [.ref (ad 0), .int x1, .int x2] (cells0 G ad s) (some (.int z)) (cells0 G ad s) :=
  x_met (by decide) rfl (Nat.le_of_ble_eq_true rfl) (fun p e sS m below meth c E hr hk ls hl hw => w_X0_canClaim_p0 E hr hk s x1 x2 z hw hl hf)
set_option maxHeartbeats 4000000 in
set_option maxRecDepth 100000 in
theorem w_X0_putClaim_p0 {p : Program} {l : Launch} {e : Env} {sS : State} {m : MethodId} {args : Array Value} {below : List Frame} {meth : Method} {c : Code} {G : xG} {W0 : va_W} {ad : Nat → Nat}   (E : xE p sS m args c cX0_putClaim 5 RX0 G (x_in W0)) (hr : meth.sig.returnType = none) (hk : meth.locks = false)  : ∀ (s' : S0) (x1' : Int32) (x2' : Int32) (x3' : Int32) (x4' : Int32) (z : S0) {H : Heap} {locs : List Loc} {ls : Array Slot}, xW G (x_in W0) sS.heap (cells0 G ad s') H locs → lv_has ls 5 [(0, .ref (ad 0)), (1, .int x1'), (2, .int x2'), (3, .int x3'), (4, .int x4')] → f_X0_putClaim  s' x1' x2' x3' x4' = some z → W p l e (rm_X0_putClaim) sS m args below meth c H locs 0 0 (MQ below (xQ G W0 (cells0 G ad z) none) args sS 0 0 (x_in W0)) (F0 m 0 ls []) := by
  intro s x1 x2 x3 x4 z H locs ls hw hl hf
  unfold f_X0_putClaim at hf
  refine lv_aload_n (pc := 0) E.1 E.2.1 dX0_putClaim_0 rfl (lv_at hl 0 rfl) ?_
  refine lv_iload_n (pc := 1) E.1 E.2.1 dX0_putClaim_1 rfl (lv_at hl 1 rfl) ?_
  obtain ⟨v1, g2, hf⟩ := x_bind hf
  refine x_callVA (pc := 2) (As := [.int x1]) (rest := []) (st1 := [.int v1]) (ws' := (cells0 G ad s)) E hw hl (c_X0_hasClaim l G ad s x1 g2) xv_X0_89 xd_X0_hasClaim rfl rfl ⟨Nat.le_of_ble_eq_true rfl, Nat.le_of_ble_eq_true rfl⟩ (q0 := 0) rfl rfl rfl rfl (Nat.le_of_ble_eq_true rfl) rfl dX0_putClaim_2 (fun H locs hw => ?_)
  refine lv_if_eq (tgt := 26) (pc := 5) E.1 E.2.1 dX0_putClaim_5 (by decide) (fun q3 => ?_) (fun q3 => ?_)
  · have hf := x_pos q3 hf
    obtain rfl := Option.some.inj hf
    exact x_retv (pc := 26) E hr hk hw dX0_putClaim_26
  · have hf := x_neg q3 hf
    refine lv_aload_n (pc := 8) E.1 E.2.1 dX0_putClaim_8 rfl (lv_at hl 0 rfl) ?_
    refine xg_X0_25 (pc := 9) (v := .ref (ad 3)) E hw 0 rfl rfl dX0_putClaim_9 ?_
    refine lv_iload_n (pc := 12) E.1 E.2.1 dX0_putClaim_12 rfl (lv_at hl 1 rfl) ?_
    refine lv_iload_n (pc := 13) E.1 E.2.1 dX0_putClaim_13 rfl (lv_at hl 2 rfl) ?_
    refine lv_bipush (v := 10) (pc := 14) E.1 E.2.1 dX0_putClaim_14 (by decide) ?_
    refine lv_ishl (pc := 16) E.1 E.2.1 dX0_putClaim_16 ?_
    refine lv_iload_n (pc := 17) E.1 E.2.1 dX0_putClaim_17 rfl (lv_at hl 3 rfl) ?_
    refine lv_bipush (v := 7) (pc := 18) E.1 E.2.1 dX0_putClaim_18 (by decide) ?_
    refine lv_ishl (pc := 20) E.1 E.2.1 dX0_putClaim_20 ?_
    refine lv_ior (pc := 21) E.1 E.2.1 dX0_putClaim_21 ?_
    refine lv_iload (pc := 22) E.1 E.2.1 dX0_putClaim_22 (lv_at hl 4 rfl) ?_
    refine lv_ior (pc := 24) E.1 E.2.1 dX0_putClaim_24 ?_
    obtain ⟨w5, g4, hf⟩ := x_bind hf
    refine x_iast (pc := 25) (ws' := (cells0c G ad (g0_fleets s) (g0_claims s) (g0_cap s) (g0_steady s) (g0_classes s) (g0_years s) w5)) E hw 3 rfl g4 rfl dX0_putClaim_25 (fun H locs hw => ?_)
    obtain rfl := Option.some.inj hf
    exact x_retv (pc := 26) E hr hk hw dX0_putClaim_26
set_option maxHeartbeats 4000000 in
set_option maxRecDepth 100000 in
theorem c_X0_putClaim (l : Launch) (G : xG) (ad : Nat → Nat) (s : S0) (x1 : Int32) (x2 : Int32) (x3 : Int32) (x4 : Int32) {z : S0} (hf : f_X0_putClaim s x1 x2 x3 x4 = some z) : xC l yX0_putClaim cX0_putClaim 5 none (rm_X0_putClaim) G [.ref (ad 0), .int x1, .int x2, .int x3, .int x4] (cells0 G ad s) none (cells0 G ad z) :=
  x_met (by decide) rfl (Nat.le_of_ble_eq_true rfl) (fun p e sS m below meth c E hr hk ls hl hw => w_X0_putClaim_p0 E hr hk s x1 x2 x3 x4 z hw hl hf)
set_option maxHeartbeats 4000000 in
set_option maxRecDepth 100000 in
theorem w_X0_addClaim_p0 {p : Program} {l : Launch} {e : Env} {sS : State} {m : MethodId} {args : Array Value} {below : List Frame} {meth : Method} {c : Code} {G : xG} {W0 : va_W} {ad : Nat → Nat}   (E : xE p sS m args c cX0_addClaim 4 RX0 G (x_in W0)) (hr : meth.sig.returnType = (some .int)) (hk : meth.locks = false)  : ∀ (s' : S0) (x1' : Int32) (x2' : Int32) (x3' : Int32) (z : Int32 × S0) {H : Heap} {locs : List Loc} {ls : Array Slot}, xW G (x_in W0) sS.heap (cells0 G ad s') H locs → lv_has ls 4 [(0, .ref (ad 0)), (1, .int x1'), (2, .int x2'), (3, .int x3')] → f_X0_addClaim  s' x1' x2' x3' = some z → W p l e (rm_X0_addClaim) sS m args below meth c H locs 0 0 (MQ below (xQ G W0 (cells0 G ad z.2) (some (.int z.1))) args sS 0 0 (x_in W0)) (F0 m 0 ls []) := by
  intro s x1 x2 x3 z H locs ls hw hl hf
  unfold f_X0_addClaim at hf
  refine lv_aload_n (pc := 0) E.1 E.2.1 dX0_addClaim_0 rfl (lv_at hl 0 rfl) ?_
  refine xg_X0_31 (pc := 1) (v := .int (g0_claims s)) E hw 0 rfl rfl dX0_addClaim_1 ?_
  refine lv_bipush (v := 40) (pc := 4) E.1 E.2.1 dX0_addClaim_4 (by decide) ?_
  refine lv_icmp_lt (tgt := 11) (pc := 6) E.1 E.2.1 dX0_addClaim_6 (by decide) (fun q1 => ?_) (fun q1 => ?_)
  · have hf := x_pos q1 hf
    refine lv_aload_n (pc := 11) E.1 E.2.1 dX0_addClaim_11 rfl (lv_at hl 0 rfl) ?_
    refine lv_dup (pc := 12) E.1 E.2.1 dX0_addClaim_12 rfl ?_
    refine xg_X0_31 (pc := 13) (v := .int (g0_claims s)) E hw 0 rfl rfl dX0_addClaim_13 ?_
    refine lv_iconst (v := 1) (pc := 16) E.1 E.2.1 dX0_addClaim_16 (by decide) ?_
    refine lv_iadd (pc := 17) E.1 E.2.1 dX0_addClaim_17 ?_
    refine xp_X0_31 (pc := 18) (v := .int ((g0_claims s) + (1 : Int32))) (ws' := (cells0c G ad (g0_fleets s) ((g0_claims s) + (1 : Int32)) (g0_cap s) (g0_steady s) (g0_classes s) (g0_years s) (g0_slips s))) E hw 0 rfl rfl rfl (Nat.le_of_ble_eq_true rfl) rfl dX0_addClaim_18 (fun H locs hw => ?_)
    refine lv_aload_n (pc := 21) E.1 E.2.1 dX0_addClaim_21 rfl (lv_at hl 0 rfl) ?_
    refine lv_aload_n (pc := 22) E.1 E.2.1 dX0_addClaim_22 rfl (lv_at hl 0 rfl) ?_
    refine xg_X0_31 (pc := 23) (v := .int ((g0_claims s) + (1 : Int32))) E hw 0 rfl rfl dX0_addClaim_23 ?_
    refine lv_iconst (v := 1) (pc := 26) E.1 E.2.1 dX0_addClaim_26 (by decide) ?_
    refine lv_isub (pc := 27) E.1 E.2.1 dX0_addClaim_27 ?_
    refine lv_iload_n (pc := 28) E.1 E.2.1 dX0_addClaim_28 rfl (lv_at hl 1 rfl) ?_
    refine lv_iload_n (pc := 29) E.1 E.2.1 dX0_addClaim_29 rfl (lv_at hl 2 rfl) ?_
    refine lv_iload_n (pc := 30) E.1 E.2.1 dX0_addClaim_30 rfl (lv_at hl 3 rfl) ?_
    obtain ⟨v2, g3, hf⟩ := x_bind hf
    refine x_callVA (pc := 31) (As := [.int (((g0_claims s) + (1 : Int32)) - (1 : Int32)), .int x1, .int x2, .int x3]) (rest := []) (st1 := []) (ws' := (cells0 G ad v2)) E hw hl (c_X0_putClaim l G ad (u0_claims s ((g0_claims s) + (1 : Int32))) (((g0_claims s) + (1 : Int32)) - (1 : Int32)) x1 x2 x3 g3) xv_X0_100 xd_X0_putClaim rfl rfl ⟨Nat.le_of_ble_eq_true rfl, Nat.le_of_ble_eq_true rfl⟩ (q0 := 0) rfl rfl rfl rfl (Nat.le_of_ble_eq_true rfl) rfl dX0_addClaim_31 (fun H locs hw => ?_)
    refine lv_aload_n (pc := 34) E.1 E.2.1 dX0_addClaim_34 rfl (lv_at hl 0 rfl) ?_
    refine xg_X0_31 (pc := 35) (v := .int (g0_claims v2)) E hw 0 rfl rfl dX0_addClaim_35 ?_
    refine lv_iconst (v := 1) (pc := 38) E.1 E.2.1 dX0_addClaim_38 (by decide) ?_
    refine lv_isub (pc := 39) E.1 E.2.1 dX0_addClaim_39 ?_
    obtain rfl := Option.some.inj hf
    exact x_reti (pc := 40) E hr hk hw dX0_addClaim_40
  · have hf := x_neg q1 hf
    refine lv_iconst (v := (-1)) (pc := 9) E.1 E.2.1 dX0_addClaim_9 (by decide) ?_
    obtain rfl := Option.some.inj hf
    exact x_reti (pc := 10) E hr hk hw dX0_addClaim_10
set_option maxHeartbeats 4000000 in
set_option maxRecDepth 100000 in
theorem c_X0_addClaim (l : Launch) (G : xG) (ad : Nat → Nat) (s : S0) (x1 : Int32) (x2 : Int32) (x3 : Int32) {z : Int32 × S0} (hf : f_X0_addClaim s x1 x2 x3 = some z) : xC l yX0_addClaim cX0_addClaim 4 (some .int) (rm_X0_addClaim) G [.ref (ad 0), .int x1, .int x2, .int x3] (cells0 G ad s) (some (.int z.1)) (cells0 G ad z.2) :=
  x_met (by decide) rfl (Nat.le_of_ble_eq_true rfl) (fun p e sS m below meth c E hr hk ls hl hw => w_X0_addClaim_p0 E hr hk s x1 x2 x3 z hw hl hf)
set_option maxHeartbeats 4000000 in
set_option maxRecDepth 100000 in
theorem w_X0_copyFrom_p0 {p : Program} {l : Launch} {e : Env} {sS : State} {m : MethodId} {args : Array Value} {below : List Frame} {meth : Method} {c : Code} {G : xG} {W0 : va_W} {ad : Nat → Nat} {ae : Nat → Nat}   (E : xE p sS m args c cX0_copyFrom 2 RX0 G (x_in W0)) (hr : meth.sig.returnType = none) (hk : meth.locks = false)  : ∀ (s' : S0) (q' : S0) (z : S0) {H : Heap} {locs : List Loc} {ls : Array Slot}, xW G (x_in W0) sS.heap (cells0 G ad s' ++ cells0 G ae q') H locs → lv_has ls 2 [(0, .ref (ad 0)), (1, .ref (ae 0))] → f_X0_copyFrom  s' q' = some z → W p l e (rm_X0_copyFrom) sS m args below meth c H locs 0 0 (MQ below (xQ G W0 (cells0 G ad z ++ cells0 G ae q') none) args sS 0 0 (x_in W0)) (F0 m 0 ls []) := by
  intro s q z H locs ls hw hl hf
  unfold f_X0_copyFrom at hf
  refine lv_aload_n (pc := 0) E.1 E.2.1 dX0_copyFrom_0 rfl (lv_at hl 0 rfl) ?_
  refine lv_aload_n (pc := 1) E.1 E.2.1 dX0_copyFrom_1 rfl (lv_at hl 1 rfl) ?_
  refine xg_X0_28 (pc := 2) (v := .int (g0_fleets q)) E hw 4 rfl rfl dX0_copyFrom_2 ?_
  refine xp_X0_28 (pc := 5) (v := .int (g0_fleets q)) (ws' := (cells0c G ad (g0_fleets q) (g0_claims s) (g0_cap s) (g0_steady s) (g0_classes s) (g0_years s) (g0_slips s) ++ cells0 G ae q)) E hw 0 rfl rfl rfl (Nat.le_of_ble_eq_true rfl) rfl dX0_copyFrom_5 (fun H locs hw => ?_)
  refine lv_aload_n (pc := 8) E.1 E.2.1 dX0_copyFrom_8 rfl (lv_at hl 0 rfl) ?_
  refine lv_aload_n (pc := 9) E.1 E.2.1 dX0_copyFrom_9 rfl (lv_at hl 1 rfl) ?_
  refine xg_X0_31 (pc := 10) (v := .int (g0_claims q)) E hw 4 rfl rfl dX0_copyFrom_10 ?_
  refine xp_X0_31 (pc := 13) (v := .int (g0_claims q)) (ws' := (cells0c G ad (g0_fleets q) (g0_claims q) (g0_cap s) (g0_steady s) (g0_classes s) (g0_years s) (g0_slips s) ++ cells0 G ae q)) E hw 0 rfl rfl rfl (Nat.le_of_ble_eq_true rfl) rfl dX0_copyFrom_13 (fun H locs hw => ?_)
  refine lv_aload_n (pc := 16) E.1 E.2.1 dX0_copyFrom_16 rfl (lv_at hl 0 rfl) ?_
  refine lv_aload_n (pc := 17) E.1 E.2.1 dX0_copyFrom_17 rfl (lv_at hl 1 rfl) ?_
  refine xg_X0_9 (pc := 18) (v := .int (g0_cap q)) E hw 4 rfl rfl dX0_copyFrom_18 ?_
  refine xp_X0_9 (pc := 21) (v := .int (g0_cap q)) (ws' := (cells0c G ad (g0_fleets q) (g0_claims q) (g0_cap q) (g0_steady s) (g0_classes s) (g0_years s) (g0_slips s) ++ cells0 G ae q)) E hw 0 rfl rfl rfl (Nat.le_of_ble_eq_true rfl) rfl dX0_copyFrom_21 (fun H locs hw => ?_)
  refine lv_aload_n (pc := 24) E.1 E.2.1 dX0_copyFrom_24 rfl (lv_at hl 0 rfl) ?_
  refine lv_aload_n (pc := 25) E.1 E.2.1 dX0_copyFrom_25 rfl (lv_at hl 1 rfl) ?_
  refine xg_X0_15 (pc := 26) (v := .int (g0_steady q)) E hw 4 rfl rfl dX0_copyFrom_26 ?_
  refine xp_X0_15 (pc := 29) (v := .int (g0_steady q)) (ws' := (cells0c G ad (g0_fleets q) (g0_claims q) (g0_cap q) (g0_steady q) (g0_classes s) (g0_years s) (g0_slips s) ++ cells0 G ae q)) E hw 0 rfl rfl rfl (Nat.le_of_ble_eq_true rfl) rfl dX0_copyFrom_29 (fun H locs hw => ?_)
  refine lv_aload_n (pc := 32) E.1 E.2.1 dX0_copyFrom_32 rfl (lv_at hl 1 rfl) ?_
  refine xg_X0_18 (pc := 33) (v := .ref (ae 1)) E hw 4 rfl rfl dX0_copyFrom_33 ?_
  refine lv_iconst (v := 0) (pc := 36) E.1 E.2.1 dX0_copyFrom_36 (by decide) ?_
  refine lv_aload_n (pc := 37) E.1 E.2.1 dX0_copyFrom_37 rfl (lv_at hl 0 rfl) ?_
  refine xg_X0_18 (pc := 38) (v := .ref (ad 1)) E hw 0 rfl rfl dX0_copyFrom_38 ?_
  refine lv_iconst (v := 0) (pc := 41) E.1 E.2.1 dX0_copyFrom_41 (by decide) ?_
  refine lv_bipush (v := 8) (pc := 42) E.1 E.2.1 dX0_copyFrom_42 (by decide) ?_
  obtain ⟨w2, g1, hf⟩ := x_bind hf
  refine x_copy (pc := 44) (ws' := (cells0c G ad (g0_fleets q) (g0_claims q) (g0_cap q) (g0_steady q) w2 (g0_years s) (g0_slips s) ++ cells0 G ae q)) E hw hl wq_556 wq_558 wq_557 wq_109 5 1 rfl rfl g1 rfl (Nat.le_of_ble_eq_true rfl) (Nat.le_of_ble_eq_true rfl) dX0_copyFrom_44 (fun H locs hw => ?_)
  refine lv_aload_n (pc := 47) E.1 E.2.1 dX0_copyFrom_47 rfl (lv_at hl 1 rfl) ?_
  refine xg_X0_22 (pc := 48) (v := .ref (ae 2)) E hw 4 rfl rfl dX0_copyFrom_48 ?_
  refine lv_iconst (v := 0) (pc := 51) E.1 E.2.1 dX0_copyFrom_51 (by decide) ?_
  refine lv_aload_n (pc := 52) E.1 E.2.1 dX0_copyFrom_52 rfl (lv_at hl 0 rfl) ?_
  refine xg_X0_22 (pc := 53) (v := .ref (ad 2)) E hw 0 rfl rfl dX0_copyFrom_53 ?_
  refine lv_iconst (v := 0) (pc := 56) E.1 E.2.1 dX0_copyFrom_56 (by decide) ?_
  refine lv_bipush (v := 8) (pc := 57) E.1 E.2.1 dX0_copyFrom_57 (by decide) ?_
  obtain ⟨w4, g3, hf⟩ := x_bind hf
  refine x_copy (pc := 59) (ws' := (cells0c G ad (g0_fleets q) (g0_claims q) (g0_cap q) (g0_steady q) w2 w4 (g0_slips s) ++ cells0 G ae q)) E hw hl wq_556 wq_558 wq_557 wq_109 6 2 rfl rfl g3 rfl (Nat.le_of_ble_eq_true rfl) (Nat.le_of_ble_eq_true rfl) dX0_copyFrom_59 (fun H locs hw => ?_)
  refine lv_aload_n (pc := 62) E.1 E.2.1 dX0_copyFrom_62 rfl (lv_at hl 1 rfl) ?_
  refine xg_X0_25 (pc := 63) (v := .ref (ae 3)) E hw 4 rfl rfl dX0_copyFrom_63 ?_
  refine lv_iconst (v := 0) (pc := 66) E.1 E.2.1 dX0_copyFrom_66 (by decide) ?_
  refine lv_aload_n (pc := 67) E.1 E.2.1 dX0_copyFrom_67 rfl (lv_at hl 0 rfl) ?_
  refine xg_X0_25 (pc := 68) (v := .ref (ad 3)) E hw 0 rfl rfl dX0_copyFrom_68 ?_
  refine lv_iconst (v := 0) (pc := 71) E.1 E.2.1 dX0_copyFrom_71 (by decide) ?_
  refine lv_bipush (v := 40) (pc := 72) E.1 E.2.1 dX0_copyFrom_72 (by decide) ?_
  obtain ⟨w6, g5, hf⟩ := x_bind hf
  refine x_copy (pc := 74) (ws' := (cells0c G ad (g0_fleets q) (g0_claims q) (g0_cap q) (g0_steady q) w2 w4 w6 ++ cells0 G ae q)) E hw hl wq_556 wq_558 wq_557 wq_109 7 3 rfl rfl g5 rfl (Nat.le_of_ble_eq_true rfl) (Nat.le_of_ble_eq_true rfl) dX0_copyFrom_74 (fun H locs hw => ?_)
  obtain rfl := Option.some.inj hf
  exact x_retv (pc := 77) E hr hk hw dX0_copyFrom_77
set_option maxHeartbeats 4000000 in
set_option maxRecDepth 100000 in
theorem c_X0_copyFrom (l : Launch) (G : xG) (ad : Nat → Nat) (ae : Nat → Nat) (s : S0) (q : S0) {z : S0} (hf : f_X0_copyFrom s q = some z) : xC l yX0_copyFrom cX0_copyFrom 2 none (rm_X0_copyFrom) G [.ref (ad 0), .ref (ae 0)] (cells0 G ad s ++ cells0 G ae q) none (cells0 G ad z ++ cells0 G ae q) :=
  x_met (by decide) rfl (Nat.le_of_ble_eq_true rfl) (fun p e sS m below meth c E hr hk ls hl hw => w_X0_copyFrom_p0 E hr hk s q z hw hl hf)
set_option maxHeartbeats 4000000 in
set_option maxRecDepth 100000 in
theorem w_X2_empty_p0 {p : Program} {l : Launch} {e : Env} {sS : State} {m : MethodId} {args : Array Value} {below : List Frame} {meth : Method} {c : Code} {G : xG} {W0 : va_W} {ad : Nat → Nat}   (E : xE p sS m args c cX2_empty 1 RX2 G (x_in W0)) (hr : meth.sig.returnType = none) (hk : meth.locks = false)  : ∀ (s' : S2) (z : S2) {H : Heap} {locs : List Loc} {ls : Array Slot}, xW G (x_in W0) sS.heap (cells2 G ad s') H locs → lv_has ls 1 [(0, .ref (ad 0))] → f_X2_empty  s' = some z → W p l e (rm_X2_empty) sS m args below meth c H locs 0 0 (MQ below (xQ G W0 (cells2 G ad z) none) args sS 0 0 (x_in W0)) (F0 m 0 ls []) := by
  intro s z H locs ls hw hl hf
  unfold f_X2_empty at hf
  refine lv_aload_n (pc := 0) E.1 E.2.1 dX2_empty_0 rfl (lv_at hl 0 rfl) ?_
  refine lv_iconst (v := 0) (pc := 1) E.1 E.2.1 dX2_empty_1 (by decide) ?_
  refine xp_X2_17 (pc := 2) (v := .int 0) (ws' := (cells2c G ad (g2_rows s) 0 (g2_next s))) E hw 0 rfl rfl rfl (Nat.le_of_ble_eq_true rfl) rfl dX2_empty_2 (fun H locs hw => ?_)
  obtain rfl := Option.some.inj hf
  exact x_retv (pc := 5) E hr hk hw dX2_empty_5
set_option maxHeartbeats 4000000 in
set_option maxRecDepth 100000 in
theorem c_X2_empty (l : Launch) (G : xG) (ad : Nat → Nat) (s : S2) {z : S2} (hf : f_X2_empty s = some z) : xC l yX2_empty cX2_empty 1 none (rm_X2_empty) G [.ref (ad 0)] (cells2 G ad s) none (cells2 G ad z) :=
  x_met (by decide) rfl (Nat.le_of_ble_eq_true rfl) (fun p e sS m below meth c E hr hk ls hl hw => w_X2_empty_p0 E hr hk s z hw hl hf)
set_option maxHeartbeats 4000000 in
set_option maxRecDepth 100000 in
theorem w_X7_isClass_p0 {p : Program} {l : Launch} {e : Env} {sS : State} {m : MethodId} {args : Array Value} {below : List Frame} {meth : Method} {c : Code} {G : xG} {W0 : va_W}    (E : xE p sS m args c cX7_isClass 1 RX7 G (x_in W0)) (hr : meth.sig.returnType = (some .boolean)) (hk : meth.locks = false)  : ∀ (x0' : Int32) (z : Int32) {H : Heap} {locs : List Loc} {ls : Array Slot}, xW G (x_in W0) sS.heap [] H locs → lv_has ls 1 [(0, .int x0')] → f_X7_isClass  x0' = some z → W p l e (rm_X7_isClass) sS m args below meth c H locs 0 0 (MQ below (xQ G W0 [] (some (.int z))) args sS 0 0 (x_in W0)) (F0 m 0 ls []) := by
  intro x0 z H locs ls hw hl hf
  unfold f_X7_isClass at hf
  refine lv_iload_n (pc := 0) E.1 E.2.1 dX7_isClass_0 rfl (lv_at hl 0 rfl) ?_
  refine lv_if_lt (tgt := 13) (pc := 1) E.1 E.2.1 dX7_isClass_1 (by decide) (fun q1 => ?_) (fun q1 => ?_)
  · have hf := x_pos q1 hf
    refine lv_iconst (v := 0) (pc := 13) E.1 E.2.1 dX7_isClass_13 (by decide) ?_
    obtain rfl := Option.some.inj hf
    exact x_retz (pc := 14) (v := 0) (r := 0) E hr hk hw (by decide) dX7_isClass_14
  · have hf := x_neg q1 hf
    refine lv_iload_n (pc := 4) E.1 E.2.1 dX7_isClass_4 rfl (lv_at hl 0 rfl) ?_
    refine lv_iconst (v := 3) (pc := 5) E.1 E.2.1 dX7_isClass_5 (by decide) ?_
    refine lv_icmp_ge (tgt := 13) (pc := 6) E.1 E.2.1 dX7_isClass_6 (by decide) (fun q2 => ?_) (fun q2 => ?_)
    · have hf := x_pos q2 hf
      refine lv_iconst (v := 0) (pc := 13) E.1 E.2.1 dX7_isClass_13 (by decide) ?_
      obtain rfl := Option.some.inj hf
      exact x_retz (pc := 14) (v := 0) (r := 0) E hr hk hw (by decide) dX7_isClass_14
    · have hf := x_neg q2 hf
      refine lv_iconst (v := 1) (pc := 9) E.1 E.2.1 dX7_isClass_9 (by decide) ?_
      refine lv_goto (tgt := 14) (pc := 10) E.1 E.2.1 dX7_isClass_10 (by decide) ?_
      obtain rfl := Option.some.inj hf
      exact x_retz (pc := 14) (v := 1) (r := 1) E hr hk hw (by decide) dX7_isClass_14
set_option maxHeartbeats 4000000 in
set_option maxRecDepth 100000 in
theorem c_X7_isClass (l : Launch) (G : xG)  (x0 : Int32) {z : Int32} (hf : f_X7_isClass x0 = some z) : xC l yX7_isClass cX7_isClass 1 (some .boolean) (rm_X7_isClass) G [.int x0] [] (some (.int z)) [] :=
  x_met (by decide) rfl (Nat.le_of_ble_eq_true rfl) (fun p e sS m below meth c E hr hk ls hl hw => w_X7_isClass_p0 E hr hk x0 z hw hl hf)
set_option maxHeartbeats 4000000 in
set_option maxRecDepth 100000 in
theorem w_X0_saveTo_p0 {p : Program} {l : Launch} {e : Env} {sS : State} {m : MethodId} {args : Array Value} {below : List Frame} {meth : Method} {c : Code} {G : xG} {W0 : va_W} {ad : Nat → Nat} {ae : Nat → Nat}   (E : xE p sS m args c cX0_saveTo 3 RX0 G (x_in W0)) (hr : meth.sig.returnType = none) (hk : meth.locks = false)  : ∀ (s' : S0) (q' : (Nat → Int32)) (x2' : Int32) (z : (Nat → Int32)) {H : Heap} {locs : List Loc} {ls : Array Slot}, xW G (x_in W0) sS.heap (cells0 G ad s' ++ [((ae 0), .inl (G.2.1.1, 720, .inl q'))]) H locs → lv_has ls 3 [(0, .ref (ad 0)), (1, .ref (ae 0)), (2, .int x2')] → f_X0_saveTo  s' q' x2' = some z → W p l e (rm_X0_saveTo) sS m args below meth c H locs 0 0 (MQ below (xQ G W0 (cells0 G ad s' ++ [((ae 0), .inl (G.2.1.1, 720, .inl z))]) none) args sS 0 0 (x_in W0)) (F0 m 0 ls []) := by
  intro s q x2 z H locs ls hw hl hf
  unfold f_X0_saveTo at hf
  refine lv_iload_n (pc := 0) E.1 E.2.1 dX0_saveTo_0 rfl (lv_at hl 2 rfl) ?_
  refine lv_if_lt (tgt := 13) (pc := 1) E.1 E.2.1 dX0_saveTo_1 (by decide) (fun q1 => ?_) (fun q1 => ?_)
  · have hf := x_pos q1 hf
    obtain rfl := Option.some.inj hf
    exact x_retv (pc := 13) E hr hk hw dX0_saveTo_13
  · have hf := x_neg q1 hf
    refine lv_iload_n (pc := 4) E.1 E.2.1 dX0_saveTo_4 rfl (lv_at hl 2 rfl) ?_
    refine lv_aload_n (pc := 5) E.1 E.2.1 dX0_saveTo_5 rfl (lv_at hl 1 rfl) ?_
    refine x_alen (pc := 6) (v := 720) E hw 4 rfl rfl dX0_saveTo_6 ?_
    refine lv_bipush (v := 60) (pc := 7) E.1 E.2.1 dX0_saveTo_7 (by decide) ?_
    refine lv_isub (pc := 9) E.1 E.2.1 dX0_saveTo_9 ?_
    refine lv_icmp_le (tgt := 14) (pc := 10) E.1 E.2.1 dX0_saveTo_10 (by decide) (fun q2 => ?_) (fun q2 => ?_)
    · have hf := x_pos q2 hf
      refine lv_aload_n (pc := 14) E.1 E.2.1 dX0_saveTo_14 rfl (lv_at hl 1 rfl) ?_
      refine lv_iload_n (pc := 15) E.1 E.2.1 dX0_saveTo_15 rfl (lv_at hl 2 rfl) ?_
      refine lv_aload_n (pc := 16) E.1 E.2.1 dX0_saveTo_16 rfl (lv_at hl 0 rfl) ?_
      refine xg_X0_28 (pc := 17) (v := .int (g0_fleets s)) E hw 0 rfl rfl dX0_saveTo_17 ?_
      obtain ⟨w4, g3, hf⟩ := x_bind hf
      refine x_iast (pc := 20) (ws' := (cells0 G ad s ++ [((ae 0), .inl (G.2.1.1, 720, .inl w4))])) E hw 4 rfl g3 rfl dX0_saveTo_20 (fun H locs hw => ?_)
      refine lv_aload_n (pc := 21) E.1 E.2.1 dX0_saveTo_21 rfl (lv_at hl 1 rfl) ?_
      refine lv_iload_n (pc := 22) E.1 E.2.1 dX0_saveTo_22 rfl (lv_at hl 2 rfl) ?_
      refine lv_iconst (v := 1) (pc := 23) E.1 E.2.1 dX0_saveTo_23 (by decide) ?_
      refine lv_iadd (pc := 24) E.1 E.2.1 dX0_saveTo_24 ?_
      refine lv_aload_n (pc := 25) E.1 E.2.1 dX0_saveTo_25 rfl (lv_at hl 0 rfl) ?_
      refine xg_X0_31 (pc := 26) (v := .int (g0_claims s)) E hw 0 rfl rfl dX0_saveTo_26 ?_
      obtain ⟨w6, g5, hf⟩ := x_bind hf
      refine x_iast (pc := 29) (ws' := (cells0 G ad s ++ [((ae 0), .inl (G.2.1.1, 720, .inl w6))])) E hw 4 rfl g5 rfl dX0_saveTo_29 (fun H locs hw => ?_)
      refine lv_aload_n (pc := 30) E.1 E.2.1 dX0_saveTo_30 rfl (lv_at hl 1 rfl) ?_
      refine lv_iload_n (pc := 31) E.1 E.2.1 dX0_saveTo_31 rfl (lv_at hl 2 rfl) ?_
      refine lv_iconst (v := 2) (pc := 32) E.1 E.2.1 dX0_saveTo_32 (by decide) ?_
      refine lv_iadd (pc := 33) E.1 E.2.1 dX0_saveTo_33 ?_
      refine lv_aload_n (pc := 34) E.1 E.2.1 dX0_saveTo_34 rfl (lv_at hl 0 rfl) ?_
      refine xg_X0_9 (pc := 35) (v := .int (g0_cap s)) E hw 0 rfl rfl dX0_saveTo_35 ?_
      obtain ⟨w8, g7, hf⟩ := x_bind hf
      refine x_iast (pc := 38) (ws' := (cells0 G ad s ++ [((ae 0), .inl (G.2.1.1, 720, .inl w8))])) E hw 4 rfl g7 rfl dX0_saveTo_38 (fun H locs hw => ?_)
      refine lv_aload_n (pc := 39) E.1 E.2.1 dX0_saveTo_39 rfl (lv_at hl 1 rfl) ?_
      refine lv_iload_n (pc := 40) E.1 E.2.1 dX0_saveTo_40 rfl (lv_at hl 2 rfl) ?_
      refine lv_iconst (v := 3) (pc := 41) E.1 E.2.1 dX0_saveTo_41 (by decide) ?_
      refine lv_iadd (pc := 42) E.1 E.2.1 dX0_saveTo_42 ?_
      refine lv_aload_n (pc := 43) E.1 E.2.1 dX0_saveTo_43 rfl (lv_at hl 0 rfl) ?_
      refine xg_X0_15 (pc := 44) (v := .int (g0_steady s)) E hw 0 rfl rfl dX0_saveTo_44 ?_
      obtain ⟨w10, g9, hf⟩ := x_bind hf
      refine x_iast (pc := 47) (ws' := (cells0 G ad s ++ [((ae 0), .inl (G.2.1.1, 720, .inl w10))])) E hw 4 rfl g9 rfl dX0_saveTo_47 (fun H locs hw => ?_)
      refine lv_aload_n (pc := 48) E.1 E.2.1 dX0_saveTo_48 rfl (lv_at hl 0 rfl) ?_
      refine xg_X0_18 (pc := 49) (v := .ref (ad 1)) E hw 0 rfl rfl dX0_saveTo_49 ?_
      refine lv_iconst (v := 0) (pc := 52) E.1 E.2.1 dX0_saveTo_52 (by decide) ?_
      refine lv_aload_n (pc := 53) E.1 E.2.1 dX0_saveTo_53 rfl (lv_at hl 1 rfl) ?_
      refine lv_iload_n (pc := 54) E.1 E.2.1 dX0_saveTo_54 rfl (lv_at hl 2 rfl) ?_
      refine lv_iconst (v := 4) (pc := 55) E.1 E.2.1 dX0_saveTo_55 (by decide) ?_
      refine lv_iadd (pc := 56) E.1 E.2.1 dX0_saveTo_56 ?_
      refine lv_bipush (v := 8) (pc := 57) E.1 E.2.1 dX0_saveTo_57 (by decide) ?_
      obtain ⟨w12, g11, hf⟩ := x_bind hf
      refine x_copy (pc := 59) (ws' := (cells0 G ad s ++ [((ae 0), .inl (G.2.1.1, 720, .inl w12))])) E hw hl wq_556 wq_558 wq_557 wq_109 1 4 rfl rfl g11 rfl (Nat.le_of_ble_eq_true rfl) (Nat.le_of_ble_eq_true rfl) dX0_saveTo_59 (fun H locs hw => ?_)
      refine lv_aload_n (pc := 62) E.1 E.2.1 dX0_saveTo_62 rfl (lv_at hl 0 rfl) ?_
      refine xg_X0_22 (pc := 63) (v := .ref (ad 2)) E hw 0 rfl rfl dX0_saveTo_63 ?_
      refine lv_iconst (v := 0) (pc := 66) E.1 E.2.1 dX0_saveTo_66 (by decide) ?_
      refine lv_aload_n (pc := 67) E.1 E.2.1 dX0_saveTo_67 rfl (lv_at hl 1 rfl) ?_
      refine lv_iload_n (pc := 68) E.1 E.2.1 dX0_saveTo_68 rfl (lv_at hl 2 rfl) ?_
      refine lv_iconst (v := 4) (pc := 69) E.1 E.2.1 dX0_saveTo_69 (by decide) ?_
      refine lv_iadd (pc := 70) E.1 E.2.1 dX0_saveTo_70 ?_
      refine lv_bipush (v := 8) (pc := 71) E.1 E.2.1 dX0_saveTo_71 (by decide) ?_
      refine lv_iadd (pc := 73) E.1 E.2.1 dX0_saveTo_73 ?_
      refine lv_bipush (v := 8) (pc := 74) E.1 E.2.1 dX0_saveTo_74 (by decide) ?_
      obtain ⟨w14, g13, hf⟩ := x_bind hf
      refine x_copy (pc := 76) (ws' := (cells0 G ad s ++ [((ae 0), .inl (G.2.1.1, 720, .inl w14))])) E hw hl wq_556 wq_558 wq_557 wq_109 2 4 rfl rfl g13 rfl (Nat.le_of_ble_eq_true rfl) (Nat.le_of_ble_eq_true rfl) dX0_saveTo_76 (fun H locs hw => ?_)
      refine lv_aload_n (pc := 79) E.1 E.2.1 dX0_saveTo_79 rfl (lv_at hl 0 rfl) ?_
      refine xg_X0_25 (pc := 80) (v := .ref (ad 3)) E hw 0 rfl rfl dX0_saveTo_80 ?_
      refine lv_iconst (v := 0) (pc := 83) E.1 E.2.1 dX0_saveTo_83 (by decide) ?_
      refine lv_aload_n (pc := 84) E.1 E.2.1 dX0_saveTo_84 rfl (lv_at hl 1 rfl) ?_
      refine lv_iload_n (pc := 85) E.1 E.2.1 dX0_saveTo_85 rfl (lv_at hl 2 rfl) ?_
      refine lv_iconst (v := 4) (pc := 86) E.1 E.2.1 dX0_saveTo_86 (by decide) ?_
      refine lv_iadd (pc := 87) E.1 E.2.1 dX0_saveTo_87 ?_
      refine lv_bipush (v := 16) (pc := 88) E.1 E.2.1 dX0_saveTo_88 (by decide) ?_
      refine lv_iadd (pc := 90) E.1 E.2.1 dX0_saveTo_90 ?_
      refine lv_bipush (v := 40) (pc := 91) E.1 E.2.1 dX0_saveTo_91 (by decide) ?_
      obtain ⟨w16, g15, hf⟩ := x_bind hf
      refine x_copy (pc := 93) (ws' := (cells0 G ad s ++ [((ae 0), .inl (G.2.1.1, 720, .inl w16))])) E hw hl wq_556 wq_558 wq_557 wq_109 3 4 rfl rfl g15 rfl (Nat.le_of_ble_eq_true rfl) (Nat.le_of_ble_eq_true rfl) dX0_saveTo_93 (fun H locs hw => ?_)
      obtain rfl := Option.some.inj hf
      exact x_retv (pc := 96) E hr hk hw dX0_saveTo_96
    · have hf := x_neg q2 hf
      obtain rfl := Option.some.inj hf
      exact x_retv (pc := 13) E hr hk hw dX0_saveTo_13
set_option maxHeartbeats 4000000 in
set_option maxRecDepth 100000 in
theorem c_X0_saveTo (l : Launch) (G : xG) (ad : Nat → Nat) (ae : Nat → Nat) (s : S0) (q : (Nat → Int32)) (x2 : Int32) {z : (Nat → Int32)} (hf : f_X0_saveTo s q x2 = some z) : xC l yX0_saveTo cX0_saveTo 3 none (rm_X0_saveTo) G [.ref (ad 0), .ref (ae 0), .int x2] (cells0 G ad s ++ [((ae 0), .inl (G.2.1.1, 720, .inl q))]) none (cells0 G ad s ++ [((ae 0), .inl (G.2.1.1, 720, .inl z))]) :=
  x_met (by decide) rfl (Nat.le_of_ble_eq_true rfl) (fun p e sS m below meth c E hr hk ls hl hw => w_X0_saveTo_p0 E hr hk s q x2 z hw hl hf)
set_option maxHeartbeats 4000000 in
set_option maxRecDepth 100000 in
theorem w_X2_keep_p0 {p : Program} {l : Launch} {e : Env} {sS : State} {m : MethodId} {args : Array Value} {below : List Frame} {meth : Method} {c : Code} {G : xG} {W0 : va_W} {ad : Nat → Nat} {ae : Nat → Nat}   (E : xE p sS m args c cX2_keep 2 RX2 G (x_in W0)) (hr : meth.sig.returnType = none) (hk : meth.locks = false)  : ∀ (s' : S2) (q' : S0) (z : S2) {H : Heap} {locs : List Loc} {ls : Array Slot}, xW G (x_in W0) sS.heap (cells2 G ad s' ++ cells0 G ae q') H locs → lv_has ls 2 [(0, .ref (ad 0)), (1, .ref (ae 0))] → f_X2_keep  s' q' = some z → W p l e (rm_X2_keep) sS m args below meth c H locs 0 0 (MQ below (xQ G W0 (cells2 G ad z ++ cells0 G ae q') none) args sS 0 0 (x_in W0)) (F0 m 0 ls []) := by
  intro s q z H locs ls hw hl hf
  unfold f_X2_keep at hf
  refine lv_aload_n (pc := 0) E.1 E.2.1 dX2_keep_0 rfl (lv_at hl 1 rfl) ?_
  refine lv_aload_n (pc := 1) E.1 E.2.1 dX2_keep_1 rfl (lv_at hl 0 rfl) ?_
  refine xg_X2_11 (pc := 2) (v := .ref (ad 1)) E hw 0 rfl rfl dX2_keep_2 ?_
  refine lv_aload_n (pc := 5) E.1 E.2.1 dX2_keep_5 rfl (lv_at hl 0 rfl) ?_
  refine xg_X2_21 (pc := 6) (v := .int (g2_next s)) E hw 0 rfl rfl dX2_keep_6 ?_
  refine lv_bipush (v := 60) (pc := 9) E.1 E.2.1 dX2_keep_9 (by decide) ?_
  refine lv_imul (pc := 11) E.1 E.2.1 dX2_keep_11 ?_
  obtain ⟨v1, g2, hf⟩ := x_bind hf
  refine x_callV (pc := 12) (As := [.ref (ad 1), .int ((g2_next s) * (60 : Int32))]) (rest := []) (st1 := []) (ws' := (cells2c G ad v1 (g2_kept s) (g2_next s) ++ cells0 G ae q)) E hw hl (c_X0_saveTo l G ae (fun k => ad (k + 1)) q (g2_rows s) ((g2_next s) * (60 : Int32)) g2) xv_X2_24 xd_X0_saveTo rfl rfl ⟨Nat.le_of_ble_eq_true rfl, Nat.le_of_ble_eq_true rfl⟩ [2, 3, 4, 5, 1] [0] (by decide) ⟨rfl, rfl, rfl, rfl, rfl, trivial⟩ (q0 := 2) rfl rfl rfl rfl (Nat.le_of_ble_eq_true rfl) (nw := 6) ⟨rfl, rfl, rfl, rfl, rfl, trivial⟩ ⟨⟨_, rfl, rfl⟩, trivial⟩ rfl rfl (by decide) (by decide) rfl dX2_keep_12 (fun H locs hw => ?_)
  refine lv_aload_n (pc := 15) E.1 E.2.1 dX2_keep_15 rfl (lv_at hl 0 rfl) ?_
  refine lv_aload_n (pc := 16) E.1 E.2.1 dX2_keep_16 rfl (lv_at hl 0 rfl) ?_
  refine xg_X2_21 (pc := 17) (v := .int (g2_next s)) E hw 0 rfl rfl dX2_keep_17 ?_
  refine lv_iconst (v := 1) (pc := 20) E.1 E.2.1 dX2_keep_20 (by decide) ?_
  refine lv_iadd (pc := 21) E.1 E.2.1 dX2_keep_21 ?_
  refine lv_bipush (v := 12) (pc := 22) E.1 E.2.1 dX2_keep_22 (by decide) ?_
  refine lv_irem (pc := 24) E.1 E.2.1 dX2_keep_24 (by decide) ?_
  refine xp_X2_21 (pc := 25) (v := .int (((g2_next s) + (1 : Int32)) - ((g2_next s) + (1 : Int32)) / 12 * 12)) (ws' := (cells2c G ad v1 (g2_kept s) (((g2_next s) + (1 : Int32)) - ((g2_next s) + (1 : Int32)) / 12 * 12) ++ cells0 G ae q)) E hw 0 rfl rfl rfl (Nat.le_of_ble_eq_true rfl) rfl dX2_keep_25 (fun H locs hw => ?_)
  refine lv_aload_n (pc := 28) E.1 E.2.1 dX2_keep_28 rfl (lv_at hl 0 rfl) ?_
  refine lv_aload_n (pc := 29) E.1 E.2.1 dX2_keep_29 rfl (lv_at hl 0 rfl) ?_
  refine xg_X2_17 (pc := 30) (v := .int (g2_kept s)) E hw 0 rfl rfl dX2_keep_30 ?_
  refine lv_iconst (v := 1) (pc := 33) E.1 E.2.1 dX2_keep_33 (by decide) ?_
  refine lv_iadd (pc := 34) E.1 E.2.1 dX2_keep_34 ?_
  refine lv_bipush (v := 12) (pc := 35) E.1 E.2.1 dX2_keep_35 (by decide) ?_
  refine va_mmin (pc := 37) E.1 E.2.1 (E.2.2.1.trans hl.1.symm) E.2.2.2.1 (E.2.2.2.2.1 _ wq_578) (E.2.2.2.2.1 _ wq_491) (E.2.2.2.2.1 _ wq_108) (E.2.2.2.2.1 _ wq_492) (Nat.le_of_ble_eq_true rfl) (Nat.le_of_ble_eq_true rfl) (Nat.zero_le _) (Nat.zero_le _) dX2_keep_37 ?_
  refine xp_X2_17 (pc := 40) (v := .int (if 12 < ((g2_kept s) + (1 : Int32)) then 12 else ((g2_kept s) + (1 : Int32)))) (ws' := (cells2c G ad v1 (if 12 < ((g2_kept s) + (1 : Int32)) then 12 else ((g2_kept s) + (1 : Int32))) (((g2_next s) + (1 : Int32)) - ((g2_next s) + (1 : Int32)) / 12 * 12) ++ cells0 G ae q)) E hw 0 rfl rfl rfl (Nat.le_of_ble_eq_true rfl) rfl dX2_keep_40 (fun H locs hw => ?_)
  obtain rfl := Option.some.inj hf
  exact x_retv (pc := 43) E hr hk hw dX2_keep_43
set_option maxHeartbeats 4000000 in
set_option maxRecDepth 100000 in
theorem c_X2_keep (l : Launch) (G : xG) (ad : Nat → Nat) (ae : Nat → Nat) (s : S2) (q : S0) {z : S2} (hf : f_X2_keep s q = some z) : xC l yX2_keep cX2_keep 2 none (rm_X2_keep) G [.ref (ad 0), .ref (ae 0)] (cells2 G ad s ++ cells0 G ae q) none (cells2 G ad z ++ cells0 G ae q) :=
  x_met (by decide) rfl (Nat.le_of_ble_eq_true rfl) (fun p e sS m below meth c E hr hk ls hl hw => w_X2_keep_p0 E hr hk s q z hw hl hf)
set_option maxHeartbeats 4000000 in
set_option maxRecDepth 100000 in
theorem w_X0_fleetOf_p0 {p : Program} {l : Launch} {e : Env} {sS : State} {m : MethodId} {args : Array Value} {below : List Frame} {meth : Method} {c : Code} {G : xG} {W0 : va_W} {ad : Nat → Nat}   (E : xE p sS m args c cX0_fleetOf 2 RX0 G (x_in W0)) (hr : meth.sig.returnType = (some .int)) (hk : meth.locks = false)  : ∀ (s' : S0) (x1' : Int32) (z : Int32) {H : Heap} {locs : List Loc} {ls : Array Slot}, xW G (x_in W0) sS.heap (cells0 G ad s') H locs → lv_has ls 2 [(0, .ref (ad 0)), (1, .int x1')] → f_X0_fleetOf  s' x1' = some z → W p l e (rm_X0_fleetOf) sS m args below meth c H locs 0 0 (MQ below (xQ G W0 (cells0 G ad s') (some (.int z))) args sS 0 0 (x_in W0)) (F0 m 0 ls []) := by
  intro s x1 z H locs ls hw hl hf
  unfold f_X0_fleetOf at hf
  refine lv_aload_n (pc := 0) E.1 E.2.1 dX0_fleetOf_0 rfl (lv_at hl 0 rfl) ?_
  refine lv_iload_n (pc := 1) E.1 E.2.1 dX0_fleetOf_1 rfl (lv_at hl 1 rfl) ?_
  obtain ⟨v1, g2, hf⟩ := x_bind hf
  refine x_callVA (pc := 2) (As := [.int x1]) (rest := []) (st1 := [.int v1]) (ws' := (cells0 G ad s)) E hw hl (c_X0_hasClaim l G ad s x1 g2) xv_X0_89 xd_X0_hasClaim rfl rfl ⟨Nat.le_of_ble_eq_true rfl, Nat.le_of_ble_eq_true rfl⟩ (q0 := 0) rfl rfl rfl rfl (Nat.le_of_ble_eq_true rfl) rfl dX0_fleetOf_2 (fun H locs hw => ?_)
  refine lv_if_eq (tgt := 20) (pc := 5) E.1 E.2.1 dX0_fleetOf_5 (by decide) (fun q3 => ?_) (fun q3 => ?_)
  · have hf := x_pos q3 hf
    refine lv_iconst (v := (-1)) (pc := 20) E.1 E.2.1 dX0_fleetOf_20 (by decide) ?_
    obtain rfl := Option.some.inj hf
    exact x_reti (pc := 21) E hr hk hw dX0_fleetOf_21
  · have hf := x_neg q3 hf
    refine lv_aload_n (pc := 8) E.1 E.2.1 dX0_fleetOf_8 rfl (lv_at hl 0 rfl) ?_
    refine xg_X0_25 (pc := 9) (v := .ref (ad 3)) E hw 0 rfl rfl dX0_fleetOf_9 ?_
    refine lv_iload_n (pc := 12) E.1 E.2.1 dX0_fleetOf_12 rfl (lv_at hl 1 rfl) ?_
    obtain ⟨v5, g4, hf⟩ := x_bind hf
    refine x_iald (pc := 13) E hw 3 rfl g4 dX0_fleetOf_13 ?_
    refine lv_bipush (v := 10) (pc := 14) E.1 E.2.1 dX0_fleetOf_14 (by decide) ?_
    refine lv_ishr (pc := 16) E.1 E.2.1 dX0_fleetOf_16 ?_
    refine lv_goto (tgt := 21) (pc := 17) E.1 E.2.1 dX0_fleetOf_17 (by decide) ?_
    obtain rfl := Option.some.inj hf
    exact x_reti (pc := 21) E hr hk hw dX0_fleetOf_21
set_option maxHeartbeats 4000000 in
set_option maxRecDepth 100000 in
theorem c_X0_fleetOf (l : Launch) (G : xG) (ad : Nat → Nat) (s : S0) (x1 : Int32) {z : Int32} (hf : f_X0_fleetOf s x1 = some z) : xC l yX0_fleetOf cX0_fleetOf 2 (some .int) (rm_X0_fleetOf) G [.ref (ad 0), .int x1] (cells0 G ad s) (some (.int z)) (cells0 G ad s) :=
  x_met (by decide) rfl (Nat.le_of_ble_eq_true rfl) (fun p e sS m below meth c E hr hk ls hl hw => w_X0_fleetOf_p0 E hr hk s x1 z hw hl hf)
set_option maxHeartbeats 4000000 in
set_option maxRecDepth 100000 in
theorem w_X0_yearOf_p0 {p : Program} {l : Launch} {e : Env} {sS : State} {m : MethodId} {args : Array Value} {below : List Frame} {meth : Method} {c : Code} {G : xG} {W0 : va_W} {ad : Nat → Nat}   (E : xE p sS m args c cX0_yearOf 2 RX0 G (x_in W0)) (hr : meth.sig.returnType = (some .int)) (hk : meth.locks = false)  : ∀ (s' : S0) (x1' : Int32) (z : Int32) {H : Heap} {locs : List Loc} {ls : Array Slot}, xW G (x_in W0) sS.heap (cells0 G ad s') H locs → lv_has ls 2 [(0, .ref (ad 0)), (1, .int x1')] → f_X0_yearOf  s' x1' = some z → W p l e (rm_X0_yearOf) sS m args below meth c H locs 0 0 (MQ below (xQ G W0 (cells0 G ad s') (some (.int z))) args sS 0 0 (x_in W0)) (F0 m 0 ls []) := by
  intro s x1 z H locs ls hw hl hf
  unfold f_X0_yearOf at hf
  refine lv_aload_n (pc := 0) E.1 E.2.1 dX0_yearOf_0 rfl (lv_at hl 0 rfl) ?_
  refine lv_iload_n (pc := 1) E.1 E.2.1 dX0_yearOf_1 rfl (lv_at hl 1 rfl) ?_
  obtain ⟨v1, g2, hf⟩ := x_bind hf
  refine x_callVA (pc := 2) (As := [.int x1]) (rest := []) (st1 := [.int v1]) (ws' := (cells0 G ad s)) E hw hl (c_X0_hasClaim l G ad s x1 g2) xv_X0_89 xd_X0_hasClaim rfl rfl ⟨Nat.le_of_ble_eq_true rfl, Nat.le_of_ble_eq_true rfl⟩ (q0 := 0) rfl rfl rfl rfl (Nat.le_of_ble_eq_true rfl) rfl dX0_yearOf_2 (fun H locs hw => ?_)
  refine lv_if_eq (tgt := 23) (pc := 5) E.1 E.2.1 dX0_yearOf_5 (by decide) (fun q3 => ?_) (fun q3 => ?_)
  · have hf := x_pos q3 hf
    refine lv_iconst (v := (-1)) (pc := 23) E.1 E.2.1 dX0_yearOf_23 (by decide) ?_
    obtain rfl := Option.some.inj hf
    exact x_reti (pc := 24) E hr hk hw dX0_yearOf_24
  · have hf := x_neg q3 hf
    refine lv_aload_n (pc := 8) E.1 E.2.1 dX0_yearOf_8 rfl (lv_at hl 0 rfl) ?_
    refine xg_X0_25 (pc := 9) (v := .ref (ad 3)) E hw 0 rfl rfl dX0_yearOf_9 ?_
    refine lv_iload_n (pc := 12) E.1 E.2.1 dX0_yearOf_12 rfl (lv_at hl 1 rfl) ?_
    obtain ⟨v5, g4, hf⟩ := x_bind hf
    refine x_iald (pc := 13) E hw 3 rfl g4 dX0_yearOf_13 ?_
    refine lv_bipush (v := 7) (pc := 14) E.1 E.2.1 dX0_yearOf_14 (by decide) ?_
    refine lv_ishr (pc := 16) E.1 E.2.1 dX0_yearOf_16 ?_
    refine lv_bipush (v := 7) (pc := 17) E.1 E.2.1 dX0_yearOf_17 (by decide) ?_
    refine lv_iand (pc := 19) E.1 E.2.1 dX0_yearOf_19 ?_
    refine lv_goto (tgt := 24) (pc := 20) E.1 E.2.1 dX0_yearOf_20 (by decide) ?_
    obtain rfl := Option.some.inj hf
    exact x_reti (pc := 24) E hr hk hw dX0_yearOf_24
set_option maxHeartbeats 4000000 in
set_option maxRecDepth 100000 in
theorem c_X0_yearOf (l : Launch) (G : xG) (ad : Nat → Nat) (s : S0) (x1 : Int32) {z : Int32} (hf : f_X0_yearOf s x1 = some z) : xC l yX0_yearOf cX0_yearOf 2 (some .int) (rm_X0_yearOf) G [.ref (ad 0), .int x1] (cells0 G ad s) (some (.int z)) (cells0 G ad s) :=
  x_met (by decide) rfl (Nat.le_of_ble_eq_true rfl) (fun p e sS m below meth c E hr hk ls hl hw => w_X0_yearOf_p0 E hr hk s x1 z hw hl hf)
set_option maxHeartbeats 4000000 in
set_option maxRecDepth 100000 in
theorem w_X0_amountOf_p0 {p : Program} {l : Launch} {e : Env} {sS : State} {m : MethodId} {args : Array Value} {below : List Frame} {meth : Method} {c : Code} {G : xG} {W0 : va_W} {ad : Nat → Nat}   (E : xE p sS m args c cX0_amountOf 2 RX0 G (x_in W0)) (hr : meth.sig.returnType = (some .int)) (hk : meth.locks = false)  : ∀ (s' : S0) (x1' : Int32) (z : Int32) {H : Heap} {locs : List Loc} {ls : Array Slot}, xW G (x_in W0) sS.heap (cells0 G ad s') H locs → lv_has ls 2 [(0, .ref (ad 0)), (1, .int x1')] → f_X0_amountOf  s' x1' = some z → W p l e (rm_X0_amountOf) sS m args below meth c H locs 0 0 (MQ below (xQ G W0 (cells0 G ad s') (some (.int z))) args sS 0 0 (x_in W0)) (F0 m 0 ls []) := by
  intro s x1 z H locs ls hw hl hf
  unfold f_X0_amountOf at hf
  refine lv_aload_n (pc := 0) E.1 E.2.1 dX0_amountOf_0 rfl (lv_at hl 0 rfl) ?_
  refine lv_iload_n (pc := 1) E.1 E.2.1 dX0_amountOf_1 rfl (lv_at hl 1 rfl) ?_
  obtain ⟨v1, g2, hf⟩ := x_bind hf
  refine x_callVA (pc := 2) (As := [.int x1]) (rest := []) (st1 := [.int v1]) (ws' := (cells0 G ad s)) E hw hl (c_X0_hasClaim l G ad s x1 g2) xv_X0_89 xd_X0_hasClaim rfl rfl ⟨Nat.le_of_ble_eq_true rfl, Nat.le_of_ble_eq_true rfl⟩ (q0 := 0) rfl rfl rfl rfl (Nat.le_of_ble_eq_true rfl) rfl dX0_amountOf_2 (fun H locs hw => ?_)
  refine lv_if_eq (tgt := 20) (pc := 5) E.1 E.2.1 dX0_amountOf_5 (by decide) (fun q3 => ?_) (fun q3 => ?_)
  · have hf := x_pos q3 hf
    refine lv_iconst (v := 0) (pc := 20) E.1 E.2.1 dX0_amountOf_20 (by decide) ?_
    obtain rfl := Option.some.inj hf
    exact x_reti (pc := 21) E hr hk hw dX0_amountOf_21
  · have hf := x_neg q3 hf
    refine lv_aload_n (pc := 8) E.1 E.2.1 dX0_amountOf_8 rfl (lv_at hl 0 rfl) ?_
    refine xg_X0_25 (pc := 9) (v := .ref (ad 3)) E hw 0 rfl rfl dX0_amountOf_9 ?_
    refine lv_iload_n (pc := 12) E.1 E.2.1 dX0_amountOf_12 rfl (lv_at hl 1 rfl) ?_
    obtain ⟨v5, g4, hf⟩ := x_bind hf
    refine x_iald (pc := 13) E hw 3 rfl g4 dX0_amountOf_13 ?_
    refine lv_bipush (v := 127) (pc := 14) E.1 E.2.1 dX0_amountOf_14 (by decide) ?_
    refine lv_iand (pc := 16) E.1 E.2.1 dX0_amountOf_16 ?_
    refine lv_goto (tgt := 21) (pc := 17) E.1 E.2.1 dX0_amountOf_17 (by decide) ?_
    obtain rfl := Option.some.inj hf
    exact x_reti (pc := 21) E hr hk hw dX0_amountOf_21
set_option maxHeartbeats 4000000 in
set_option maxRecDepth 100000 in
theorem c_X0_amountOf (l : Launch) (G : xG) (ad : Nat → Nat) (s : S0) (x1 : Int32) {z : Int32} (hf : f_X0_amountOf s x1 = some z) : xC l yX0_amountOf cX0_amountOf 2 (some .int) (rm_X0_amountOf) G [.ref (ad 0), .int x1] (cells0 G ad s) (some (.int z)) (cells0 G ad s) :=
  x_met (by decide) rfl (Nat.le_of_ble_eq_true rfl) (fun p e sS m below meth c E hr hk ls hl hw => w_X0_amountOf_p0 E hr hk s x1 z hw hl hf)
set_option maxHeartbeats 4000000 in
set_option maxRecDepth 100000 in
theorem w_X0_dropClaimsOf_p11 {p : Program} {l : Launch} {e : Env} {sS : State} {m : MethodId} {args : Array Value} {below : List Frame} {meth : Method} {c : Code} {G : xG} {W0 : va_W} {ad : Nat → Nat}  {k11 : S0 → Int32 → Int32 → Int32 → Int32 → Int32 → Option (Int32 × S0)} (E : xE p sS m args c cX0_dropClaimsOf 6 RX0 G (x_in W0)) (hr : meth.sig.returnType = (some .int)) (hk : meth.locks = false) (hk11 : ∀ (s' : S0) (x1' : Int32) (x2' : Int32) (x3' : Int32) (x4' : Int32) (x5' : Int32) (z : Int32 × S0) {H : Heap} {locs : List Loc} {ls : Array Slot}, xW G (x_in W0) sS.heap (cells0 G ad s') H locs → lv_has ls 6 [(0, .ref (ad 0)), (1, .int x1'), (2, .int x2'), (3, .int x3'), (4, .int x4'), (5, .int x5')] → k11  s' x1' x2' x3' x4' x5' = some z → W p l e (rm_X0_dropClaimsOf) sS m args below meth c H locs 0 0 (MQ below (xQ G W0 (cells0 G ad z.2) (some (.int z.1))) args sS 0 0 (x_in W0)) (F0 m 11 ls [])) : ∀ (s' : S0) (x1' : Int32) (x2' : Int32) (x3' : Int32) (x4' : Int32) (x5' : Int32) (z : Int32 × S0) {H : Heap} {locs : List Loc} {ls : Array Slot}, xW G (x_in W0) sS.heap (cells0 G ad s') H locs → lv_has ls 6 [(0, .ref (ad 0)), (1, .int x1'), (2, .int x2'), (3, .int x3'), (4, .int x4'), (5, .int x5')] → f_X0_dropClaimsOf_p11 k11 s' x1' x2' x3' x4' x5' = some z → W p l e (rm_X0_dropClaimsOf) sS m args below meth c H locs 0 0 (MQ below (xQ G W0 (cells0 G ad z.2) (some (.int z.1))) args sS 0 0 (x_in W0)) (F0 m 11 ls []) := by
  intro s x1 x2 x3 x4 x5 z H locs ls hw hl hf
  unfold f_X0_dropClaimsOf_p11 at hf
  refine lv_iload (pc := 11) E.1 E.2.1 dX0_dropClaimsOf_11 (lv_at hl 5 rfl) ?_
  refine lv_iload_n (pc := 13) E.1 E.2.1 dX0_dropClaimsOf_13 rfl (lv_at hl 3 rfl) ?_
  refine lv_icmp_ge (tgt := 61) (pc := 14) E.1 E.2.1 dX0_dropClaimsOf_14 (by decide) (fun q1 => ?_) (fun q1 => ?_)
  · have hf := x_pos q1 hf
    refine lv_aload_n (pc := 61) E.1 E.2.1 dX0_dropClaimsOf_61 rfl (lv_at hl 0 rfl) ?_
    refine lv_iload (pc := 62) E.1 E.2.1 dX0_dropClaimsOf_62 (lv_at hl 4 rfl) ?_
    refine xp_X0_31 (pc := 64) (v := .int x4) (ws' := (cells0c G ad (g0_fleets s) x4 (g0_cap s) (g0_steady s) (g0_classes s) (g0_years s) (g0_slips s))) E hw 0 rfl rfl rfl (Nat.le_of_ble_eq_true rfl) rfl dX0_dropClaimsOf_64 (fun H locs hw => ?_)
    refine lv_iload_n (pc := 67) E.1 E.2.1 dX0_dropClaimsOf_67 rfl (lv_at hl 3 rfl) ?_
    refine lv_iload (pc := 68) E.1 E.2.1 dX0_dropClaimsOf_68 (lv_at hl 4 rfl) ?_
    refine lv_isub (pc := 70) E.1 E.2.1 dX0_dropClaimsOf_70 ?_
    obtain rfl := Option.some.inj hf
    exact x_reti (pc := 71) E hr hk hw dX0_dropClaimsOf_71
  · have hf := x_neg q1 hf
    refine lv_aload_n (pc := 17) E.1 E.2.1 dX0_dropClaimsOf_17 rfl (lv_at hl 0 rfl) ?_
    refine lv_iload (pc := 18) E.1 E.2.1 dX0_dropClaimsOf_18 (lv_at hl 5 rfl) ?_
    refine lv_iload_n (pc := 20) E.1 E.2.1 dX0_dropClaimsOf_20 rfl (lv_at hl 1 rfl) ?_
    refine lv_iload_n (pc := 21) E.1 E.2.1 dX0_dropClaimsOf_21 rfl (lv_at hl 2 rfl) ?_
    obtain ⟨v2, g3, hf⟩ := x_bind hf
    refine x_callVA (pc := 22) (As := [.int x5, .int x1, .int x2]) (rest := []) (st1 := [.int v2]) (ws' := (cells0 G ad s)) E hw hl (c_X0_isOf l G ad s x5 x1 x2 g3) xv_X0_107 xd_X0_isOf rfl rfl ⟨Nat.le_of_ble_eq_true rfl, Nat.le_of_ble_eq_true rfl⟩ (q0 := 0) rfl rfl rfl rfl (Nat.le_of_ble_eq_true rfl) rfl dX0_dropClaimsOf_22 (fun H locs hw => ?_)
    refine lv_if_ne (tgt := 55) (pc := 25) E.1 E.2.1 dX0_dropClaimsOf_25 (by decide) (fun q4 => ?_) (fun q4 => ?_)
    · have hf := x_neg q4 hf
      refine lv_iinc (v := (x5 + 1)) (lv' := [(5, .int (x5 + 1)), (0, .ref (ad 0)), (1, .int x1), (2, .int x2), (3, .int x3), (4, .int x4)]) (pc := 55) E.1 E.2.1 dX0_dropClaimsOf_55 hl (k := 5) rfl rfl (by decide) rfl (fun ls hl => ?_)
      refine lv_goto (tgt := 11) (pc := 58) E.1 E.2.1 dX0_dropClaimsOf_58 (by decide) ?_
      exact hk11 s x1 x2 x3 x4 (x5 + 1) z hw (lv_sub hl [1, 2, 3, 4, 5, 0] rfl) hf
    · have hf := x_pos q4 hf
      refine lv_aload_n (pc := 28) E.1 E.2.1 dX0_dropClaimsOf_28 rfl (lv_at hl 0 rfl) ?_
      refine lv_iload (pc := 29) E.1 E.2.1 dX0_dropClaimsOf_29 (lv_at hl 4 rfl) ?_
      refine lv_aload_n (pc := 31) E.1 E.2.1 dX0_dropClaimsOf_31 rfl (lv_at hl 0 rfl) ?_
      refine lv_iload (pc := 32) E.1 E.2.1 dX0_dropClaimsOf_32 (lv_at hl 5 rfl) ?_
      obtain ⟨v5, g6, hf⟩ := x_bind hf
      refine x_callVA (pc := 34) (As := [.int x5]) (rest := [.int x4, .ref (ad 0)]) (st1 := [.int v5, .int x4, .ref (ad 0)]) (ws' := (cells0 G ad s)) E hw hl (c_X0_fleetOf l G ad s x5 g6) xv_X0_69 xd_X0_fleetOf rfl rfl ⟨Nat.le_of_ble_eq_true rfl, Nat.le_of_ble_eq_true rfl⟩ (q0 := 0) rfl rfl rfl rfl (Nat.le_of_ble_eq_true rfl) rfl dX0_dropClaimsOf_34 (fun H locs hw => ?_)
      refine lv_aload_n (pc := 37) E.1 E.2.1 dX0_dropClaimsOf_37 rfl (lv_at hl 0 rfl) ?_
      refine lv_iload (pc := 38) E.1 E.2.1 dX0_dropClaimsOf_38 (lv_at hl 5 rfl) ?_
      obtain ⟨v7, g8, hf⟩ := x_bind hf
      refine x_callVA (pc := 40) (As := [.int x5]) (rest := [.int v5, .int x4, .ref (ad 0)]) (st1 := [.int v7, .int v5, .int x4, .ref (ad 0)]) (ws' := (cells0 G ad s)) E hw hl (c_X0_yearOf l G ad s x5 g8) xv_X0_97 xd_X0_yearOf rfl rfl ⟨Nat.le_of_ble_eq_true rfl, Nat.le_of_ble_eq_true rfl⟩ (q0 := 0) rfl rfl rfl rfl (Nat.le_of_ble_eq_true rfl) rfl dX0_dropClaimsOf_40 (fun H locs hw => ?_)
      refine lv_aload_n (pc := 43) E.1 E.2.1 dX0_dropClaimsOf_43 rfl (lv_at hl 0 rfl) ?_
      refine lv_iload (pc := 44) E.1 E.2.1 dX0_dropClaimsOf_44 (lv_at hl 5 rfl) ?_
      obtain ⟨v9, g10, hf⟩ := x_bind hf
      refine x_callVA (pc := 46) (As := [.int x5]) (rest := [.int v7, .int v5, .int x4, .ref (ad 0)]) (st1 := [.int v9, .int v7, .int v5, .int x4, .ref (ad 0)]) (ws' := (cells0 G ad s)) E hw hl (c_X0_amountOf l G ad s x5 g10) xv_X0_104 xd_X0_amountOf rfl rfl ⟨Nat.le_of_ble_eq_true rfl, Nat.le_of_ble_eq_true rfl⟩ (q0 := 0) rfl rfl rfl rfl (Nat.le_of_ble_eq_true rfl) rfl dX0_dropClaimsOf_46 (fun H locs hw => ?_)
      obtain ⟨v11, g12, hf⟩ := x_bind hf
      refine x_callVA (pc := 49) (As := [.int x4, .int v5, .int v7, .int v9]) (rest := []) (st1 := []) (ws' := (cells0 G ad v11)) E hw hl (c_X0_putClaim l G ad s x4 v5 v7 v9 g12) xv_X0_100 xd_X0_putClaim rfl rfl ⟨Nat.le_of_ble_eq_true rfl, Nat.le_of_ble_eq_true rfl⟩ (q0 := 0) rfl rfl rfl rfl (Nat.le_of_ble_eq_true rfl) rfl dX0_dropClaimsOf_49 (fun H locs hw => ?_)
      refine lv_iinc (v := (x4 + 1)) (lv' := [(4, .int (x4 + 1)), (0, .ref (ad 0)), (1, .int x1), (2, .int x2), (3, .int x3), (5, .int x5)]) (pc := 52) E.1 E.2.1 dX0_dropClaimsOf_52 hl (k := 4) rfl rfl (by decide) rfl (fun ls hl => ?_)
      refine lv_iinc (v := (x5 + 1)) (lv' := [(5, .int (x5 + 1)), (4, .int (x4 + 1)), (0, .ref (ad 0)), (1, .int x1), (2, .int x2), (3, .int x3)]) (pc := 55) E.1 E.2.1 dX0_dropClaimsOf_55 hl (k := 5) rfl rfl (by decide) rfl (fun ls hl => ?_)
      refine lv_goto (tgt := 11) (pc := 58) E.1 E.2.1 dX0_dropClaimsOf_58 (by decide) ?_
      exact hk11 v11 x1 x2 x3 (x4 + 1) (x5 + 1) z hw (lv_sub hl [2, 3, 4, 5, 1, 0] rfl) hf
set_option maxHeartbeats 4000000 in
set_option maxRecDepth 100000 in
theorem wl_X0_dropClaimsOf_p11 {p : Program} {l : Launch} {e : Env} {sS : State} {m : MethodId} {args : Array Value} {below : List Frame} {meth : Method} {c : Code} {G : xG} {W0 : va_W} {ad : Nat → Nat}   (E : xE p sS m args c cX0_dropClaimsOf 6 RX0 G (x_in W0)) (hr : meth.sig.returnType = (some .int)) (hk : meth.locks = false)  : ∀ (s' : S0) (x1' : Int32) (x2' : Int32) (x3' : Int32) (x4' : Int32) (x5' : Int32) (z : Int32 × S0) {H : Heap} {locs : List Loc} {ls : Array Slot}, xW G (x_in W0) sS.heap (cells0 G ad s') H locs → lv_has ls 6 [(0, .ref (ad 0)), (1, .int x1'), (2, .int x2'), (3, .int x3'), (4, .int x4'), (5, .int x5')] → lp_X0_dropClaimsOf_p11  s' x1' x2' x3' x4' x5' = some z → W p l e (rm_X0_dropClaimsOf) sS m args below meth c H locs 0 0 (MQ below (xQ G W0 (cells0 G ad z.2) (some (.int z.1))) args sS 0 0 (x_in W0)) (F0 m 11 ls []) := by
  intro s x1 x2 x3 x4 x5 z H locs ls hw hl hf
  exact x_loop_W (P := fun (q : S0 × Int32 × Int32 × Int32 × Int32 × Int32) (z : Int32 × S0) => ∀ {H : Heap} {locs : List Loc} {ls : Array Slot}, xW G (x_in W0) sS.heap (cells0 G ad q.1) H locs → lv_has ls 6 [(0, .ref (ad 0)), (1, .int q.2.1), (2, .int q.2.2.1), (3, .int q.2.2.2.1), (4, .int q.2.2.2.2.1), (5, .int q.2.2.2.2.2)] → W p l e (rm_X0_dropClaimsOf) sS m args below meth c H locs 0 0 (MQ below (xQ G W0 (cells0 G ad z.2) (some (.int z.1))) args sS 0 0 (x_in W0)) (F0 m 11 ls [])) (fun k hkk q z hf H locs ls hw hl => w_X0_dropClaimsOf_p11 E hr hk  (fun s x1 x2 x3 x4 x5 z H locs ls hw hl hf => hkk (s, x1, x2, x3, x4, x5) z hf hw hl) q.1 q.2.1 q.2.2.1 q.2.2.2.1 q.2.2.2.2.1 q.2.2.2.2.2 z hw hl hf) FU (s, x1, x2, x3, x4, x5) z hf hw hl
set_option maxHeartbeats 4000000 in
set_option maxRecDepth 100000 in
theorem w_X0_dropClaimsOf_p0 {p : Program} {l : Launch} {e : Env} {sS : State} {m : MethodId} {args : Array Value} {below : List Frame} {meth : Method} {c : Code} {G : xG} {W0 : va_W} {ad : Nat → Nat}   (E : xE p sS m args c cX0_dropClaimsOf 6 RX0 G (x_in W0)) (hr : meth.sig.returnType = (some .int)) (hk : meth.locks = false)  : ∀ (s' : S0) (x1' : Int32) (x2' : Int32) (z : Int32 × S0) {H : Heap} {locs : List Loc} {ls : Array Slot}, xW G (x_in W0) sS.heap (cells0 G ad s') H locs → lv_has ls 6 [(0, .ref (ad 0)), (1, .int x1'), (2, .int x2')] → f_X0_dropClaimsOf  s' x1' x2' = some z → W p l e (rm_X0_dropClaimsOf) sS m args below meth c H locs 0 0 (MQ below (xQ G W0 (cells0 G ad z.2) (some (.int z.1))) args sS 0 0 (x_in W0)) (F0 m 0 ls []) := by
  intro s x1 x2 z H locs ls hw hl hf
  unfold f_X0_dropClaimsOf at hf
  refine lv_aload_n (pc := 0) E.1 E.2.1 dX0_dropClaimsOf_0 rfl (lv_at hl 0 rfl) ?_
  refine xg_X0_31 (pc := 1) (v := .int (g0_claims s)) E hw 0 rfl rfl dX0_dropClaimsOf_1 ?_
  refine lv_istore_n (lv' := [(3, .int (g0_claims s)), (0, .ref (ad 0)), (1, .int x1), (2, .int x2)]) (pc := 4) E.1 E.2.1 dX0_dropClaimsOf_4 rfl hl (by decide) rfl (fun ls hl => ?_)
  refine lv_iconst (v := 0) (pc := 5) E.1 E.2.1 dX0_dropClaimsOf_5 (by decide) ?_
  refine lv_istore (lv' := [(4, .int 0), (3, .int (g0_claims s)), (0, .ref (ad 0)), (1, .int x1), (2, .int x2)]) (pc := 6) E.1 E.2.1 dX0_dropClaimsOf_6 hl (by decide) rfl (fun ls hl => ?_)
  refine lv_iconst (v := 0) (pc := 8) E.1 E.2.1 dX0_dropClaimsOf_8 (by decide) ?_
  refine lv_istore (lv' := [(5, .int 0), (4, .int 0), (3, .int (g0_claims s)), (0, .ref (ad 0)), (1, .int x1), (2, .int x2)]) (pc := 9) E.1 E.2.1 dX0_dropClaimsOf_9 hl (by decide) rfl (fun ls hl => ?_)
  exact wl_X0_dropClaimsOf_p11 E hr hk  s x1 x2 (g0_claims s) 0 0 z hw (lv_sub hl [3, 4, 5, 2, 1, 0] rfl) hf
set_option maxHeartbeats 4000000 in
set_option maxRecDepth 100000 in
theorem c_X0_dropClaimsOf (l : Launch) (G : xG) (ad : Nat → Nat) (s : S0) (x1 : Int32) (x2 : Int32) {z : Int32 × S0} (hf : f_X0_dropClaimsOf s x1 x2 = some z) : xC l yX0_dropClaimsOf cX0_dropClaimsOf 6 (some .int) (rm_X0_dropClaimsOf) G [.ref (ad 0), .int x1, .int x2] (cells0 G ad s) (some (.int z.1)) (cells0 G ad z.2) :=
  x_met (by decide) rfl (Nat.le_of_ble_eq_true rfl) (fun p e sS m below meth c E hr hk ls hl hw => w_X0_dropClaimsOf_p0 E hr hk s x1 x2 z hw hl hf)
set_option maxHeartbeats 4000000 in
set_option maxRecDepth 100000 in
theorem w_X0_classOf_p0 {p : Program} {l : Launch} {e : Env} {sS : State} {m : MethodId} {args : Array Value} {below : List Frame} {meth : Method} {c : Code} {G : xG} {W0 : va_W} {ad : Nat → Nat}   (E : xE p sS m args c cX0_classOf 2 RX0 G (x_in W0)) (hr : meth.sig.returnType = (some .int)) (hk : meth.locks = false)  : ∀ (s' : S0) (x1' : Int32) (z : Int32) {H : Heap} {locs : List Loc} {ls : Array Slot}, xW G (x_in W0) sS.heap (cells0 G ad s') H locs → lv_has ls 2 [(0, .ref (ad 0)), (1, .int x1')] → f_X0_classOf  s' x1' = some z → W p l e (rm_X0_classOf) sS m args below meth c H locs 0 0 (MQ below (xQ G W0 (cells0 G ad s') (some (.int z))) args sS 0 0 (x_in W0)) (F0 m 0 ls []) := by
  intro s x1 z H locs ls hw hl hf
  unfold f_X0_classOf at hf
  refine lv_aload_n (pc := 0) E.1 E.2.1 dX0_classOf_0 rfl (lv_at hl 0 rfl) ?_
  refine lv_iload_n (pc := 1) E.1 E.2.1 dX0_classOf_1 rfl (lv_at hl 1 rfl) ?_
  obtain ⟨v1, g2, hf⟩ := x_bind hf
  refine x_callVA (pc := 2) (As := [.int x1]) (rest := []) (st1 := [.int v1]) (ws' := (cells0 G ad s)) E hw hl (c_X0_hasFleet l G ad s x1 g2) xv_X0_40 xd_X0_hasFleet rfl rfl ⟨Nat.le_of_ble_eq_true rfl, Nat.le_of_ble_eq_true rfl⟩ (q0 := 0) rfl rfl rfl rfl (Nat.le_of_ble_eq_true rfl) rfl dX0_classOf_2 (fun H locs hw => ?_)
  refine lv_if_eq (tgt := 17) (pc := 5) E.1 E.2.1 dX0_classOf_5 (by decide) (fun q3 => ?_) (fun q3 => ?_)
  · have hf := x_pos q3 hf
    refine lv_iconst (v := (-1)) (pc := 17) E.1 E.2.1 dX0_classOf_17 (by decide) ?_
    obtain rfl := Option.some.inj hf
    exact x_reti (pc := 18) E hr hk hw dX0_classOf_18
  · have hf := x_neg q3 hf
    refine lv_aload_n (pc := 8) E.1 E.2.1 dX0_classOf_8 rfl (lv_at hl 0 rfl) ?_
    refine xg_X0_18 (pc := 9) (v := .ref (ad 1)) E hw 0 rfl rfl dX0_classOf_9 ?_
    refine lv_iload_n (pc := 12) E.1 E.2.1 dX0_classOf_12 rfl (lv_at hl 1 rfl) ?_
    obtain ⟨v5, g4, hf⟩ := x_bind hf
    refine x_iald (pc := 13) E hw 1 rfl g4 dX0_classOf_13 ?_
    refine lv_goto (tgt := 18) (pc := 14) E.1 E.2.1 dX0_classOf_14 (by decide) ?_
    obtain rfl := Option.some.inj hf
    exact x_reti (pc := 18) E hr hk hw dX0_classOf_18
set_option maxHeartbeats 4000000 in
set_option maxRecDepth 100000 in
theorem c_X0_classOf (l : Launch) (G : xG) (ad : Nat → Nat) (s : S0) (x1 : Int32) {z : Int32} (hf : f_X0_classOf s x1 = some z) : xC l yX0_classOf cX0_classOf 2 (some .int) (rm_X0_classOf) G [.ref (ad 0), .int x1] (cells0 G ad s) (some (.int z)) (cells0 G ad s) :=
  x_met (by decide) rfl (Nat.le_of_ble_eq_true rfl) (fun p e sS m below meth c E hr hk ls hl hw => w_X0_classOf_p0 E hr hk s x1 z hw hl hf)
set_option maxHeartbeats 4000000 in
set_option maxRecDepth 100000 in
theorem w_X0_yearsOf_p0 {p : Program} {l : Launch} {e : Env} {sS : State} {m : MethodId} {args : Array Value} {below : List Frame} {meth : Method} {c : Code} {G : xG} {W0 : va_W} {ad : Nat → Nat}   (E : xE p sS m args c cX0_yearsOf 2 RX0 G (x_in W0)) (hr : meth.sig.returnType = (some .int)) (hk : meth.locks = false)  : ∀ (s' : S0) (x1' : Int32) (z : Int32) {H : Heap} {locs : List Loc} {ls : Array Slot}, xW G (x_in W0) sS.heap (cells0 G ad s') H locs → lv_has ls 2 [(0, .ref (ad 0)), (1, .int x1')] → f_X0_yearsOf  s' x1' = some z → W p l e (rm_X0_yearsOf) sS m args below meth c H locs 0 0 (MQ below (xQ G W0 (cells0 G ad s') (some (.int z))) args sS 0 0 (x_in W0)) (F0 m 0 ls []) := by
  intro s x1 z H locs ls hw hl hf
  unfold f_X0_yearsOf at hf
  refine lv_aload_n (pc := 0) E.1 E.2.1 dX0_yearsOf_0 rfl (lv_at hl 0 rfl) ?_
  refine lv_iload_n (pc := 1) E.1 E.2.1 dX0_yearsOf_1 rfl (lv_at hl 1 rfl) ?_
  obtain ⟨v1, g2, hf⟩ := x_bind hf
  refine x_callVA (pc := 2) (As := [.int x1]) (rest := []) (st1 := [.int v1]) (ws' := (cells0 G ad s)) E hw hl (c_X0_hasFleet l G ad s x1 g2) xv_X0_40 xd_X0_hasFleet rfl rfl ⟨Nat.le_of_ble_eq_true rfl, Nat.le_of_ble_eq_true rfl⟩ (q0 := 0) rfl rfl rfl rfl (Nat.le_of_ble_eq_true rfl) rfl dX0_yearsOf_2 (fun H locs hw => ?_)
  refine lv_if_eq (tgt := 17) (pc := 5) E.1 E.2.1 dX0_yearsOf_5 (by decide) (fun q3 => ?_) (fun q3 => ?_)
  · have hf := x_pos q3 hf
    refine lv_iconst (v := 0) (pc := 17) E.1 E.2.1 dX0_yearsOf_17 (by decide) ?_
    obtain rfl := Option.some.inj hf
    exact x_reti (pc := 18) E hr hk hw dX0_yearsOf_18
  · have hf := x_neg q3 hf
    refine lv_aload_n (pc := 8) E.1 E.2.1 dX0_yearsOf_8 rfl (lv_at hl 0 rfl) ?_
    refine xg_X0_22 (pc := 9) (v := .ref (ad 2)) E hw 0 rfl rfl dX0_yearsOf_9 ?_
    refine lv_iload_n (pc := 12) E.1 E.2.1 dX0_yearsOf_12 rfl (lv_at hl 1 rfl) ?_
    obtain ⟨v5, g4, hf⟩ := x_bind hf
    refine x_iald (pc := 13) E hw 2 rfl g4 dX0_yearsOf_13 ?_
    refine lv_goto (tgt := 18) (pc := 14) E.1 E.2.1 dX0_yearsOf_14 (by decide) ?_
    obtain rfl := Option.some.inj hf
    exact x_reti (pc := 18) E hr hk hw dX0_yearsOf_18
set_option maxHeartbeats 4000000 in
set_option maxRecDepth 100000 in
theorem c_X0_yearsOf (l : Launch) (G : xG) (ad : Nat → Nat) (s : S0) (x1 : Int32) {z : Int32} (hf : f_X0_yearsOf s x1 = some z) : xC l yX0_yearsOf cX0_yearsOf 2 (some .int) (rm_X0_yearsOf) G [.ref (ad 0), .int x1] (cells0 G ad s) (some (.int z)) (cells0 G ad s) :=
  x_met (by decide) rfl (Nat.le_of_ble_eq_true rfl) (fun p e sS m below meth c E hr hk ls hl hw => w_X0_yearsOf_p0 E hr hk s x1 z hw hl hf)
set_option maxHeartbeats 4000000 in
set_option maxRecDepth 100000 in
theorem w_X0_putFleet_p0 {p : Program} {l : Launch} {e : Env} {sS : State} {m : MethodId} {args : Array Value} {below : List Frame} {meth : Method} {c : Code} {G : xG} {W0 : va_W} {ad : Nat → Nat}   (E : xE p sS m args c cX0_putFleet 3 RX0 G (x_in W0)) (hr : meth.sig.returnType = none) (hk : meth.locks = false)  : ∀ (s' : S0) (x1' : Int32) (x2' : Int32) (z : S0) {H : Heap} {locs : List Loc} {ls : Array Slot}, xW G (x_in W0) sS.heap (cells0 G ad s') H locs → lv_has ls 3 [(0, .ref (ad 0)), (1, .int x1'), (2, .int x2')] → f_X0_putFleet  s' x1' x2' = some z → W p l e (rm_X0_putFleet) sS m args below meth c H locs 0 0 (MQ below (xQ G W0 (cells0 G ad z) none) args sS 0 0 (x_in W0)) (F0 m 0 ls []) := by
  intro s x1 x2 z H locs ls hw hl hf
  unfold f_X0_putFleet at hf
  refine lv_aload_n (pc := 0) E.1 E.2.1 dX0_putFleet_0 rfl (lv_at hl 0 rfl) ?_
  refine lv_iload_n (pc := 1) E.1 E.2.1 dX0_putFleet_1 rfl (lv_at hl 1 rfl) ?_
  refine lv_iload_n (pc := 2) E.1 E.2.1 dX0_putFleet_2 rfl (lv_at hl 2 rfl) ?_
  refine lv_aload_n (pc := 3) E.1 E.2.1 dX0_putFleet_3 rfl (lv_at hl 0 rfl) ?_
  refine lv_iload_n (pc := 4) E.1 E.2.1 dX0_putFleet_4 rfl (lv_at hl 1 rfl) ?_
  obtain ⟨v1, g2, hf⟩ := x_bind hf
  refine x_callVA (pc := 5) (As := [.int x1]) (rest := [.int x2, .int x1, .ref (ad 0)]) (st1 := [.int v1, .int x2, .int x1, .ref (ad 0)]) (ws' := (cells0 G ad s)) E hw hl (c_X0_yearOf l G ad s x1 g2) xv_X0_97 xd_X0_yearOf rfl rfl ⟨Nat.le_of_ble_eq_true rfl, Nat.le_of_ble_eq_true rfl⟩ (q0 := 0) rfl rfl rfl rfl (Nat.le_of_ble_eq_true rfl) rfl dX0_putFleet_5 (fun H locs hw => ?_)
  refine lv_aload_n (pc := 8) E.1 E.2.1 dX0_putFleet_8 rfl (lv_at hl 0 rfl) ?_
  refine lv_iload_n (pc := 9) E.1 E.2.1 dX0_putFleet_9 rfl (lv_at hl 1 rfl) ?_
  obtain ⟨v3, g4, hf⟩ := x_bind hf
  refine x_callVA (pc := 10) (As := [.int x1]) (rest := [.int v1, .int x2, .int x1, .ref (ad 0)]) (st1 := [.int v3, .int v1, .int x2, .int x1, .ref (ad 0)]) (ws' := (cells0 G ad s)) E hw hl (c_X0_amountOf l G ad s x1 g4) xv_X0_104 xd_X0_amountOf rfl rfl ⟨Nat.le_of_ble_eq_true rfl, Nat.le_of_ble_eq_true rfl⟩ (q0 := 0) rfl rfl rfl rfl (Nat.le_of_ble_eq_true rfl) rfl dX0_putFleet_10 (fun H locs hw => ?_)
  obtain ⟨v5, g6, hf⟩ := x_bind hf
  refine x_callVA (pc := 13) (As := [.int x1, .int x2, .int v1, .int v3]) (rest := []) (st1 := []) (ws' := (cells0 G ad v5)) E hw hl (c_X0_putClaim l G ad s x1 x2 v1 v3 g6) xv_X0_100 xd_X0_putClaim rfl rfl ⟨Nat.le_of_ble_eq_true rfl, Nat.le_of_ble_eq_true rfl⟩ (q0 := 0) rfl rfl rfl rfl (Nat.le_of_ble_eq_true rfl) rfl dX0_putFleet_13 (fun H locs hw => ?_)
  obtain rfl := Option.some.inj hf
  exact x_retv (pc := 16) E hr hk hw dX0_putFleet_16
set_option maxHeartbeats 4000000 in
set_option maxRecDepth 100000 in
theorem c_X0_putFleet (l : Launch) (G : xG) (ad : Nat → Nat) (s : S0) (x1 : Int32) (x2 : Int32) {z : S0} (hf : f_X0_putFleet s x1 x2 = some z) : xC l yX0_putFleet cX0_putFleet 3 none (rm_X0_putFleet) G [.ref (ad 0), .int x1, .int x2] (cells0 G ad s) none (cells0 G ad z) :=
  x_met (by decide) rfl (Nat.le_of_ble_eq_true rfl) (fun p e sS m below meth c E hr hk ls hl hw => w_X0_putFleet_p0 E hr hk s x1 x2 z hw hl hf)
set_option maxHeartbeats 4000000 in
set_option maxRecDepth 100000 in
theorem w_X0_closeGapAt_p54 {p : Program} {l : Launch} {e : Env} {sS : State} {m : MethodId} {args : Array Value} {below : List Frame} {meth : Method} {c : Code} {G : xG} {W0 : va_W} {ad : Nat → Nat}  {k54 : S0 → Int32 → Int32 → Option (S0)} (E : xE p sS m args c cX0_closeGapAt 3 RX0 G (x_in W0)) (hr : meth.sig.returnType = none) (hk : meth.locks = false) (hk54 : ∀ (s' : S0) (x1' : Int32) (x2' : Int32) (z : S0) {H : Heap} {locs : List Loc} {ls : Array Slot}, xW G (x_in W0) sS.heap (cells0 G ad s') H locs → lv_has ls 3 [(0, .ref (ad 0)), (1, .int x1'), (2, .int x2')] → k54  s' x1' x2' = some z → W p l e (rm_X0_closeGapAt) sS m args below meth c H locs 0 0 (MQ below (xQ G W0 (cells0 G ad z) none) args sS 0 0 (x_in W0)) (F0 m 54 ls [])) : ∀ (s' : S0) (x1' : Int32) (x2' : Int32) (z : S0) {H : Heap} {locs : List Loc} {ls : Array Slot}, xW G (x_in W0) sS.heap (cells0 G ad s') H locs → lv_has ls 3 [(0, .ref (ad 0)), (1, .int x1'), (2, .int x2')] → f_X0_closeGapAt_p54 k54 s' x1' x2' = some z → W p l e (rm_X0_closeGapAt) sS m args below meth c H locs 0 0 (MQ below (xQ G W0 (cells0 G ad z) none) args sS 0 0 (x_in W0)) (F0 m 54 ls []) := by
  intro s x1 x2 z H locs ls hw hl hf
  unfold f_X0_closeGapAt_p54 at hf
  refine lv_iload_n (pc := 54) E.1 E.2.1 dX0_closeGapAt_54 rfl (lv_at hl 2 rfl) ?_
  refine lv_aload_n (pc := 55) E.1 E.2.1 dX0_closeGapAt_55 rfl (lv_at hl 0 rfl) ?_
  refine xg_X0_31 (pc := 56) (v := .int (g0_claims s)) E hw 0 rfl rfl dX0_closeGapAt_56 ?_
  refine lv_icmp_ge (tgt := 89) (pc := 59) E.1 E.2.1 dX0_closeGapAt_59 (by decide) (fun q1 => ?_) (fun q1 => ?_)
  · have hf := x_pos q1 hf
    obtain rfl := Option.some.inj hf
    exact x_retv (pc := 89) E hr hk hw dX0_closeGapAt_89
  · have hf := x_neg q1 hf
    refine lv_aload_n (pc := 62) E.1 E.2.1 dX0_closeGapAt_62 rfl (lv_at hl 0 rfl) ?_
    refine lv_iload_n (pc := 63) E.1 E.2.1 dX0_closeGapAt_63 rfl (lv_at hl 2 rfl) ?_
    obtain ⟨v2, g3, hf⟩ := x_bind hf
    refine x_callVA (pc := 64) (As := [.int x2]) (rest := []) (st1 := [.int v2]) (ws' := (cells0 G ad s)) E hw hl (c_X0_fleetOf l G ad s x2 g3) xv_X0_69 xd_X0_fleetOf rfl rfl ⟨Nat.le_of_ble_eq_true rfl, Nat.le_of_ble_eq_true rfl⟩ (q0 := 0) rfl rfl rfl rfl (Nat.le_of_ble_eq_true rfl) rfl dX0_closeGapAt_64 (fun H locs hw => ?_)
    refine lv_iload_n (pc := 67) E.1 E.2.1 dX0_closeGapAt_67 rfl (lv_at hl 1 rfl) ?_
    refine lv_icmp_le (tgt := 83) (pc := 68) E.1 E.2.1 dX0_closeGapAt_68 (by decide) (fun q4 => ?_) (fun q4 => ?_)
    · have hf := x_pos q4 hf
      refine lv_iinc (v := (x2 + 1)) (lv' := [(2, .int (x2 + 1)), (0, .ref (ad 0)), (1, .int x1)]) (pc := 83) E.1 E.2.1 dX0_closeGapAt_83 hl (k := 2) rfl rfl (by decide) rfl (fun ls hl => ?_)
      refine lv_goto (tgt := 54) (pc := 86) E.1 E.2.1 dX0_closeGapAt_86 (by decide) ?_
      exact hk54 s x1 (x2 + 1) z hw (lv_sub hl [1, 2, 0] rfl) hf
    · have hf := x_neg q4 hf
      refine lv_aload_n (pc := 71) E.1 E.2.1 dX0_closeGapAt_71 rfl (lv_at hl 0 rfl) ?_
      refine lv_iload_n (pc := 72) E.1 E.2.1 dX0_closeGapAt_72 rfl (lv_at hl 2 rfl) ?_
      refine lv_aload_n (pc := 73) E.1 E.2.1 dX0_closeGapAt_73 rfl (lv_at hl 0 rfl) ?_
      refine lv_iload_n (pc := 74) E.1 E.2.1 dX0_closeGapAt_74 rfl (lv_at hl 2 rfl) ?_
      obtain ⟨v5, g6, hf⟩ := x_bind hf
      refine x_callVA (pc := 75) (As := [.int x2]) (rest := [.int x2, .ref (ad 0)]) (st1 := [.int v5, .int x2, .ref (ad 0)]) (ws' := (cells0 G ad s)) E hw hl (c_X0_fleetOf l G ad s x2 g6) xv_X0_69 xd_X0_fleetOf rfl rfl ⟨Nat.le_of_ble_eq_true rfl, Nat.le_of_ble_eq_true rfl⟩ (q0 := 0) rfl rfl rfl rfl (Nat.le_of_ble_eq_true rfl) rfl dX0_closeGapAt_75 (fun H locs hw => ?_)
      refine lv_iconst (v := 1) (pc := 78) E.1 E.2.1 dX0_closeGapAt_78 (by decide) ?_
      refine lv_isub (pc := 79) E.1 E.2.1 dX0_closeGapAt_79 ?_
      obtain ⟨v7, g8, hf⟩ := x_bind hf
      refine x_callVA (pc := 80) (As := [.int x2, .int (v5 - (1 : Int32))]) (rest := []) (st1 := []) (ws' := (cells0 G ad v7)) E hw hl (c_X0_putFleet l G ad s x2 (v5 - (1 : Int32)) g8) xv_X0_72 xd_X0_putFleet rfl rfl ⟨Nat.le_of_ble_eq_true rfl, Nat.le_of_ble_eq_true rfl⟩ (q0 := 0) rfl rfl rfl rfl (Nat.le_of_ble_eq_true rfl) rfl dX0_closeGapAt_80 (fun H locs hw => ?_)
      refine lv_iinc (v := (x2 + 1)) (lv' := [(2, .int (x2 + 1)), (0, .ref (ad 0)), (1, .int x1)]) (pc := 83) E.1 E.2.1 dX0_closeGapAt_83 hl (k := 2) rfl rfl (by decide) rfl (fun ls hl => ?_)
      refine lv_goto (tgt := 54) (pc := 86) E.1 E.2.1 dX0_closeGapAt_86 (by decide) ?_
      exact hk54 v7 x1 (x2 + 1) z hw (lv_sub hl [1, 2, 0] rfl) hf
set_option maxHeartbeats 4000000 in
set_option maxRecDepth 100000 in
theorem wl_X0_closeGapAt_p54 {p : Program} {l : Launch} {e : Env} {sS : State} {m : MethodId} {args : Array Value} {below : List Frame} {meth : Method} {c : Code} {G : xG} {W0 : va_W} {ad : Nat → Nat}   (E : xE p sS m args c cX0_closeGapAt 3 RX0 G (x_in W0)) (hr : meth.sig.returnType = none) (hk : meth.locks = false)  : ∀ (s' : S0) (x1' : Int32) (x2' : Int32) (z : S0) {H : Heap} {locs : List Loc} {ls : Array Slot}, xW G (x_in W0) sS.heap (cells0 G ad s') H locs → lv_has ls 3 [(0, .ref (ad 0)), (1, .int x1'), (2, .int x2')] → lp_X0_closeGapAt_p54  s' x1' x2' = some z → W p l e (rm_X0_closeGapAt) sS m args below meth c H locs 0 0 (MQ below (xQ G W0 (cells0 G ad z) none) args sS 0 0 (x_in W0)) (F0 m 54 ls []) := by
  intro s x1 x2 z H locs ls hw hl hf
  exact x_loop_W (P := fun (q : S0 × Int32 × Int32) (z : S0) => ∀ {H : Heap} {locs : List Loc} {ls : Array Slot}, xW G (x_in W0) sS.heap (cells0 G ad q.1) H locs → lv_has ls 3 [(0, .ref (ad 0)), (1, .int q.2.1), (2, .int q.2.2)] → W p l e (rm_X0_closeGapAt) sS m args below meth c H locs 0 0 (MQ below (xQ G W0 (cells0 G ad z) none) args sS 0 0 (x_in W0)) (F0 m 54 ls [])) (fun k hkk q z hf H locs ls hw hl => w_X0_closeGapAt_p54 E hr hk  (fun s x1 x2 z H locs ls hw hl hf => hkk (s, x1, x2) z hf hw hl) q.1 q.2.1 q.2.2 z hw hl hf) FU (s, x1, x2) z hf hw hl
set_option maxHeartbeats 4000000 in
set_option maxRecDepth 100000 in
theorem w_X0_closeGapAt_p4 {p : Program} {l : Launch} {e : Env} {sS : State} {m : MethodId} {args : Array Value} {below : List Frame} {meth : Method} {c : Code} {G : xG} {W0 : va_W} {ad : Nat → Nat}  {k4 : S0 → Int32 → Int32 → Option (S0)} (E : xE p sS m args c cX0_closeGapAt 3 RX0 G (x_in W0)) (hr : meth.sig.returnType = none) (hk : meth.locks = false) (hk4 : ∀ (s' : S0) (x1' : Int32) (x2' : Int32) (z : S0) {H : Heap} {locs : List Loc} {ls : Array Slot}, xW G (x_in W0) sS.heap (cells0 G ad s') H locs → lv_has ls 3 [(0, .ref (ad 0)), (1, .int x1'), (2, .int x2')] → k4  s' x1' x2' = some z → W p l e (rm_X0_closeGapAt) sS m args below meth c H locs 0 0 (MQ below (xQ G W0 (cells0 G ad z) none) args sS 0 0 (x_in W0)) (F0 m 4 ls [])) : ∀ (s' : S0) (x1' : Int32) (x2' : Int32) (z : S0) {H : Heap} {locs : List Loc} {ls : Array Slot}, xW G (x_in W0) sS.heap (cells0 G ad s') H locs → lv_has ls 3 [(0, .ref (ad 0)), (1, .int x1'), (2, .int x2')] → f_X0_closeGapAt_p4 k4 s' x1' x2' = some z → W p l e (rm_X0_closeGapAt) sS m args below meth c H locs 0 0 (MQ below (xQ G W0 (cells0 G ad z) none) args sS 0 0 (x_in W0)) (F0 m 4 ls []) := by
  intro s x1 x2 z H locs ls hw hl hf
  unfold f_X0_closeGapAt_p4 at hf
  refine lv_iload_n (pc := 4) E.1 E.2.1 dX0_closeGapAt_4 rfl (lv_at hl 2 rfl) ?_
  refine lv_aload_n (pc := 5) E.1 E.2.1 dX0_closeGapAt_5 rfl (lv_at hl 0 rfl) ?_
  refine xg_X0_28 (pc := 6) (v := .int (g0_fleets s)) E hw 0 rfl rfl dX0_closeGapAt_6 ?_
  refine lv_icmp_ge (tgt := 42) (pc := 9) E.1 E.2.1 dX0_closeGapAt_9 (by decide) (fun q1 => ?_) (fun q1 => ?_)
  · have hf := x_pos q1 hf
    refine lv_aload_n (pc := 42) E.1 E.2.1 dX0_closeGapAt_42 rfl (lv_at hl 0 rfl) ?_
    refine lv_dup (pc := 43) E.1 E.2.1 dX0_closeGapAt_43 rfl ?_
    refine xg_X0_28 (pc := 44) (v := .int (g0_fleets s)) E hw 0 rfl rfl dX0_closeGapAt_44 ?_
    refine lv_iconst (v := 1) (pc := 47) E.1 E.2.1 dX0_closeGapAt_47 (by decide) ?_
    refine lv_isub (pc := 48) E.1 E.2.1 dX0_closeGapAt_48 ?_
    refine xp_X0_28 (pc := 49) (v := .int ((g0_fleets s) - (1 : Int32))) (ws' := (cells0c G ad ((g0_fleets s) - (1 : Int32)) (g0_claims s) (g0_cap s) (g0_steady s) (g0_classes s) (g0_years s) (g0_slips s))) E hw 0 rfl rfl rfl (Nat.le_of_ble_eq_true rfl) rfl dX0_closeGapAt_49 (fun H locs hw => ?_)
    refine lv_iconst (v := 0) (pc := 52) E.1 E.2.1 dX0_closeGapAt_52 (by decide) ?_
    refine lv_istore_n (lv' := [(2, .int 0), (0, .ref (ad 0)), (1, .int x1)]) (pc := 53) E.1 E.2.1 dX0_closeGapAt_53 rfl hl (by decide) rfl (fun ls hl => ?_)
    exact wl_X0_closeGapAt_p54 E hr hk  (u0_fleets s ((g0_fleets s) - (1 : Int32))) x1 0 z hw (lv_sub hl [1, 2, 0] rfl) hf
  · have hf := x_neg q1 hf
    refine lv_aload_n (pc := 12) E.1 E.2.1 dX0_closeGapAt_12 rfl (lv_at hl 0 rfl) ?_
    refine lv_iload_n (pc := 13) E.1 E.2.1 dX0_closeGapAt_13 rfl (lv_at hl 2 rfl) ?_
    refine lv_iconst (v := 1) (pc := 14) E.1 E.2.1 dX0_closeGapAt_14 (by decide) ?_
    refine lv_isub (pc := 15) E.1 E.2.1 dX0_closeGapAt_15 ?_
    refine lv_aload_n (pc := 16) E.1 E.2.1 dX0_closeGapAt_16 rfl (lv_at hl 0 rfl) ?_
    refine lv_iload_n (pc := 17) E.1 E.2.1 dX0_closeGapAt_17 rfl (lv_at hl 2 rfl) ?_
    obtain ⟨v2, g3, hf⟩ := x_bind hf
    refine x_callVA (pc := 18) (As := [.int x2]) (rest := [.int (x2 - (1 : Int32)), .ref (ad 0)]) (st1 := [.int v2, .int (x2 - (1 : Int32)), .ref (ad 0)]) (ws' := (cells0 G ad s)) E hw hl (c_X0_classOf l G ad s x2 g3) xv_X0_62 xd_X0_classOf rfl rfl ⟨Nat.le_of_ble_eq_true rfl, Nat.le_of_ble_eq_true rfl⟩ (q0 := 0) rfl rfl rfl rfl (Nat.le_of_ble_eq_true rfl) rfl dX0_closeGapAt_18 (fun H locs hw => ?_)
    obtain ⟨v4, g5, hf⟩ := x_bind hf
    refine x_callVA (pc := 21) (As := [.int (x2 - (1 : Int32)), .int v2]) (rest := []) (st1 := []) (ws' := (cells0 G ad v4)) E hw hl (c_X0_putClass l G ad s (x2 - (1 : Int32)) v2 g5) xv_X0_47 xd_X0_putClass rfl rfl ⟨Nat.le_of_ble_eq_true rfl, Nat.le_of_ble_eq_true rfl⟩ (q0 := 0) rfl rfl rfl rfl (Nat.le_of_ble_eq_true rfl) rfl dX0_closeGapAt_21 (fun H locs hw => ?_)
    refine lv_aload_n (pc := 24) E.1 E.2.1 dX0_closeGapAt_24 rfl (lv_at hl 0 rfl) ?_
    refine lv_iload_n (pc := 25) E.1 E.2.1 dX0_closeGapAt_25 rfl (lv_at hl 2 rfl) ?_
    refine lv_iconst (v := 1) (pc := 26) E.1 E.2.1 dX0_closeGapAt_26 (by decide) ?_
    refine lv_isub (pc := 27) E.1 E.2.1 dX0_closeGapAt_27 ?_
    refine lv_aload_n (pc := 28) E.1 E.2.1 dX0_closeGapAt_28 rfl (lv_at hl 0 rfl) ?_
    refine lv_iload_n (pc := 29) E.1 E.2.1 dX0_closeGapAt_29 rfl (lv_at hl 2 rfl) ?_
    obtain ⟨v6, g7, hf⟩ := x_bind hf
    refine x_callVA (pc := 30) (As := [.int x2]) (rest := [.int (x2 - (1 : Int32)), .ref (ad 0)]) (st1 := [.int v6, .int (x2 - (1 : Int32)), .ref (ad 0)]) (ws' := (cells0 G ad v4)) E hw hl (c_X0_yearsOf l G ad v4 x2 g7) xv_X0_66 xd_X0_yearsOf rfl rfl ⟨Nat.le_of_ble_eq_true rfl, Nat.le_of_ble_eq_true rfl⟩ (q0 := 0) rfl rfl rfl rfl (Nat.le_of_ble_eq_true rfl) rfl dX0_closeGapAt_30 (fun H locs hw => ?_)
    obtain ⟨v8, g9, hf⟩ := x_bind hf
    refine x_callVA (pc := 33) (As := [.int (x2 - (1 : Int32)), .int v6]) (rest := []) (st1 := []) (ws' := (cells0 G ad v8)) E hw hl (c_X0_putYears l G ad v4 (x2 - (1 : Int32)) v6 g9) xv_X0_51 xd_X0_putYears rfl rfl ⟨Nat.le_of_ble_eq_true rfl, Nat.le_of_ble_eq_true rfl⟩ (q0 := 0) rfl rfl rfl rfl (Nat.le_of_ble_eq_true rfl) rfl dX0_closeGapAt_33 (fun H locs hw => ?_)
    refine lv_iinc (v := (x2 + 1)) (lv' := [(2, .int (x2 + 1)), (0, .ref (ad 0)), (1, .int x1)]) (pc := 36) E.1 E.2.1 dX0_closeGapAt_36 hl (k := 2) rfl rfl (by decide) rfl (fun ls hl => ?_)
    refine lv_goto (tgt := 4) (pc := 39) E.1 E.2.1 dX0_closeGapAt_39 (by decide) ?_
    exact hk4 v8 x1 (x2 + 1) z hw (lv_sub hl [1, 2, 0] rfl) hf
set_option maxHeartbeats 4000000 in
set_option maxRecDepth 100000 in
theorem wl_X0_closeGapAt_p4 {p : Program} {l : Launch} {e : Env} {sS : State} {m : MethodId} {args : Array Value} {below : List Frame} {meth : Method} {c : Code} {G : xG} {W0 : va_W} {ad : Nat → Nat}   (E : xE p sS m args c cX0_closeGapAt 3 RX0 G (x_in W0)) (hr : meth.sig.returnType = none) (hk : meth.locks = false)  : ∀ (s' : S0) (x1' : Int32) (x2' : Int32) (z : S0) {H : Heap} {locs : List Loc} {ls : Array Slot}, xW G (x_in W0) sS.heap (cells0 G ad s') H locs → lv_has ls 3 [(0, .ref (ad 0)), (1, .int x1'), (2, .int x2')] → lp_X0_closeGapAt_p4  s' x1' x2' = some z → W p l e (rm_X0_closeGapAt) sS m args below meth c H locs 0 0 (MQ below (xQ G W0 (cells0 G ad z) none) args sS 0 0 (x_in W0)) (F0 m 4 ls []) := by
  intro s x1 x2 z H locs ls hw hl hf
  exact x_loop_W (P := fun (q : S0 × Int32 × Int32) (z : S0) => ∀ {H : Heap} {locs : List Loc} {ls : Array Slot}, xW G (x_in W0) sS.heap (cells0 G ad q.1) H locs → lv_has ls 3 [(0, .ref (ad 0)), (1, .int q.2.1), (2, .int q.2.2)] → W p l e (rm_X0_closeGapAt) sS m args below meth c H locs 0 0 (MQ below (xQ G W0 (cells0 G ad z) none) args sS 0 0 (x_in W0)) (F0 m 4 ls [])) (fun k hkk q z hf H locs ls hw hl => w_X0_closeGapAt_p4 E hr hk  (fun s x1 x2 z H locs ls hw hl hf => hkk (s, x1, x2) z hf hw hl) q.1 q.2.1 q.2.2 z hw hl hf) FU (s, x1, x2) z hf hw hl
set_option maxHeartbeats 4000000 in
set_option maxRecDepth 100000 in
theorem w_X0_closeGapAt_p0 {p : Program} {l : Launch} {e : Env} {sS : State} {m : MethodId} {args : Array Value} {below : List Frame} {meth : Method} {c : Code} {G : xG} {W0 : va_W} {ad : Nat → Nat}   (E : xE p sS m args c cX0_closeGapAt 3 RX0 G (x_in W0)) (hr : meth.sig.returnType = none) (hk : meth.locks = false)  : ∀ (s' : S0) (x1' : Int32) (z : S0) {H : Heap} {locs : List Loc} {ls : Array Slot}, xW G (x_in W0) sS.heap (cells0 G ad s') H locs → lv_has ls 3 [(0, .ref (ad 0)), (1, .int x1')] → f_X0_closeGapAt  s' x1' = some z → W p l e (rm_X0_closeGapAt) sS m args below meth c H locs 0 0 (MQ below (xQ G W0 (cells0 G ad z) none) args sS 0 0 (x_in W0)) (F0 m 0 ls []) := by
  intro s x1 z H locs ls hw hl hf
  unfold f_X0_closeGapAt at hf
  refine lv_iload_n (pc := 0) E.1 E.2.1 dX0_closeGapAt_0 rfl (lv_at hl 1 rfl) ?_
  refine lv_iconst (v := 1) (pc := 1) E.1 E.2.1 dX0_closeGapAt_1 (by decide) ?_
  refine lv_iadd (pc := 2) E.1 E.2.1 dX0_closeGapAt_2 ?_
  refine lv_istore_n (lv' := [(2, .int (x1 + (1 : Int32))), (0, .ref (ad 0)), (1, .int x1)]) (pc := 3) E.1 E.2.1 dX0_closeGapAt_3 rfl hl (by decide) rfl (fun ls hl => ?_)
  exact wl_X0_closeGapAt_p4 E hr hk  s x1 (x1 + (1 : Int32)) z hw (lv_sub hl [1, 2, 0] rfl) hf
set_option maxHeartbeats 4000000 in
set_option maxRecDepth 100000 in
theorem c_X0_closeGapAt (l : Launch) (G : xG) (ad : Nat → Nat) (s : S0) (x1 : Int32) {z : S0} (hf : f_X0_closeGapAt s x1 = some z) : xC l yX0_closeGapAt cX0_closeGapAt 3 none (rm_X0_closeGapAt) G [.ref (ad 0), .int x1] (cells0 G ad s) none (cells0 G ad z) :=
  x_met (by decide) rfl (Nat.le_of_ble_eq_true rfl) (fun p e sS m below meth c E hr hk ls hl hw => w_X0_closeGapAt_p0 E hr hk s x1 z hw hl hf)
set_option maxHeartbeats 4000000 in
set_option maxRecDepth 100000 in
theorem w_X0_dropFleet_p0 {p : Program} {l : Launch} {e : Env} {sS : State} {m : MethodId} {args : Array Value} {below : List Frame} {meth : Method} {c : Code} {G : xG} {W0 : va_W} {ad : Nat → Nat}   (E : xE p sS m args c cX0_dropFleet 2 RX0 G (x_in W0)) (hr : meth.sig.returnType = none) (hk : meth.locks = false)  : ∀ (s' : S0) (x1' : Int32) (z : S0) {H : Heap} {locs : List Loc} {ls : Array Slot}, xW G (x_in W0) sS.heap (cells0 G ad s') H locs → lv_has ls 2 [(0, .ref (ad 0)), (1, .int x1')] → f_X0_dropFleet  s' x1' = some z → W p l e (rm_X0_dropFleet) sS m args below meth c H locs 0 0 (MQ below (xQ G W0 (cells0 G ad z) none) args sS 0 0 (x_in W0)) (F0 m 0 ls []) := by
  intro s x1 z H locs ls hw hl hf
  unfold f_X0_dropFleet at hf
  refine lv_aload_n (pc := 0) E.1 E.2.1 dX0_dropFleet_0 rfl (lv_at hl 0 rfl) ?_
  refine lv_iload_n (pc := 1) E.1 E.2.1 dX0_dropFleet_1 rfl (lv_at hl 1 rfl) ?_
  obtain ⟨v1, g2, hf⟩ := x_bind hf
  refine x_callVA (pc := 2) (As := [.int x1]) (rest := []) (st1 := [.int v1]) (ws' := (cells0 G ad s)) E hw hl (c_X0_hasFleet l G ad s x1 g2) xv_X0_40 xd_X0_hasFleet rfl rfl ⟨Nat.le_of_ble_eq_true rfl, Nat.le_of_ble_eq_true rfl⟩ (q0 := 0) rfl rfl rfl rfl (Nat.le_of_ble_eq_true rfl) rfl dX0_dropFleet_2 (fun H locs hw => ?_)
  refine lv_if_eq (tgt := 21) (pc := 5) E.1 E.2.1 dX0_dropFleet_5 (by decide) (fun q3 => ?_) (fun q3 => ?_)
  · have hf := x_pos q3 hf
    obtain rfl := Option.some.inj hf
    exact x_retv (pc := 21) E hr hk hw dX0_dropFleet_21
  · have hf := x_neg q3 hf
    refine lv_aload_n (pc := 8) E.1 E.2.1 dX0_dropFleet_8 rfl (lv_at hl 0 rfl) ?_
    refine lv_iload_n (pc := 9) E.1 E.2.1 dX0_dropFleet_9 rfl (lv_at hl 1 rfl) ?_
    refine lv_bipush (v := 31) (pc := 10) E.1 E.2.1 dX0_dropFleet_10 (by decide) ?_
    obtain ⟨v4, g5, hf⟩ := x_bind hf
    refine x_callVA (pc := 12) (As := [.int x1, .int 31]) (rest := []) (st1 := [.int v4.1]) (ws' := (cells0 G ad v4.2)) E hw hl (c_X0_dropClaimsOf l G ad s x1 31 g5) xv_X0_54 xd_X0_dropClaimsOf rfl rfl ⟨Nat.le_of_ble_eq_true rfl, Nat.le_of_ble_eq_true rfl⟩ (q0 := 0) rfl rfl rfl rfl (Nat.le_of_ble_eq_true rfl) rfl dX0_dropFleet_12 (fun H locs hw => ?_)
    refine lv_pop (pc := 15) E.1 E.2.1 dX0_dropFleet_15 rfl ?_
    refine lv_aload_n (pc := 16) E.1 E.2.1 dX0_dropFleet_16 rfl (lv_at hl 0 rfl) ?_
    refine lv_iload_n (pc := 17) E.1 E.2.1 dX0_dropFleet_17 rfl (lv_at hl 1 rfl) ?_
    obtain ⟨v6, g7, hf⟩ := x_bind hf
    refine x_callVA (pc := 18) (As := [.int x1]) (rest := []) (st1 := []) (ws' := (cells0 G ad v6)) E hw hl (c_X0_closeGapAt l G ad v4.2 x1 g7) xv_X0_58 xd_X0_closeGapAt rfl rfl ⟨Nat.le_of_ble_eq_true rfl, Nat.le_of_ble_eq_true rfl⟩ (q0 := 0) rfl rfl rfl rfl (Nat.le_of_ble_eq_true rfl) rfl dX0_dropFleet_18 (fun H locs hw => ?_)
    obtain rfl := Option.some.inj hf
    exact x_retv (pc := 21) E hr hk hw dX0_dropFleet_21
set_option maxHeartbeats 4000000 in
set_option maxRecDepth 100000 in
theorem c_X0_dropFleet (l : Launch) (G : xG) (ad : Nat → Nat) (s : S0) (x1 : Int32) {z : S0} (hf : f_X0_dropFleet s x1 = some z) : xC l yX0_dropFleet cX0_dropFleet 2 none (rm_X0_dropFleet) G [.ref (ad 0), .int x1] (cells0 G ad s) none (cells0 G ad z) :=
  x_met (by decide) rfl (Nat.le_of_ble_eq_true rfl) (fun p e sS m below meth c E hr hk ls hl hw => w_X0_dropFleet_p0 E hr hk s x1 z hw hl hf)
set_option maxHeartbeats 4000000 in
set_option maxRecDepth 100000 in
theorem w_J6_bitCount_0f7a4_p0 {p : Program} {l : Launch} {e : Env} {sS : State} {m : MethodId} {args : Array Value} {below : List Frame} {meth : Method} {c : Code} {G : xG} {W0 : va_W}    (E : xE p sS m args c cJ6_bitCount_0f7a4 1 RJ6 G (x_in W0)) (hr : meth.sig.returnType = (some .int)) (hk : meth.locks = false)  : ∀ (x0' : Int32) (z : Int32) {H : Heap} {locs : List Loc} {ls : Array Slot}, xW G (x_in W0) sS.heap [] H locs → lv_has ls 1 [(0, .int x0')] → f_J6_bitCount_0f7a4  x0' = some z → W p l e (rm_J6_bitCount_0f7a4) sS m args below meth c H locs 0 0 (MQ below (xQ G W0 [] (some (.int z))) args sS 0 0 (x_in W0)) (F0 m 0 ls []) := by
  intro x0 z H locs ls hw hl hf
  unfold f_J6_bitCount_0f7a4 at hf
  refine lv_iload_n (pc := 0) E.1 E.2.1 dJ6_bitCount_0f7a4_0 rfl (lv_at hl 0 rfl) ?_
  refine lv_iload_n (pc := 1) E.1 E.2.1 dJ6_bitCount_0f7a4_1 rfl (lv_at hl 0 rfl) ?_
  refine lv_iconst (v := 1) (pc := 2) E.1 E.2.1 dJ6_bitCount_0f7a4_2 (by decide) ?_
  refine lv_iushr (v := ((Int32.toUInt32 x0) >>> ((Int32.toUInt32 1) &&& Int32.toUInt32 31)).toInt32) (pc := 3) E.1 E.2.1 dJ6_bitCount_0f7a4_3 rfl ?_
  refine lv_ldcw (v := 1431655765) (pc := 4) E.1 E.2.1 E.2.2.2.1 (E.2.2.2.2.1 _ wq_638) dJ6_bitCount_0f7a4_4 ?_
  refine lv_iand (pc := 7) E.1 E.2.1 dJ6_bitCount_0f7a4_7 ?_
  refine lv_isub (pc := 8) E.1 E.2.1 dJ6_bitCount_0f7a4_8 ?_
  refine lv_istore_n (lv' := [(0, .int (x0 - ((((Int32.toUInt32 x0) >>> ((Int32.toUInt32 1) &&& Int32.toUInt32 31)).toInt32) &&& (1431655765 : Int32))))]) (pc := 9) E.1 E.2.1 dJ6_bitCount_0f7a4_9 rfl hl (by decide) rfl (fun ls hl => ?_)
  refine lv_iload_n (pc := 10) E.1 E.2.1 dJ6_bitCount_0f7a4_10 rfl (lv_at hl 0 rfl) ?_
  refine lv_ldcw (v := 858993459) (pc := 11) E.1 E.2.1 E.2.2.2.1 (E.2.2.2.2.1 _ wq_639) dJ6_bitCount_0f7a4_11 ?_
  refine lv_iand (pc := 14) E.1 E.2.1 dJ6_bitCount_0f7a4_14 ?_
  refine lv_iload_n (pc := 15) E.1 E.2.1 dJ6_bitCount_0f7a4_15 rfl (lv_at hl 0 rfl) ?_
  refine lv_iconst (v := 2) (pc := 16) E.1 E.2.1 dJ6_bitCount_0f7a4_16 (by decide) ?_
  refine lv_iushr (v := ((Int32.toUInt32 (x0 - ((((Int32.toUInt32 x0) >>> ((Int32.toUInt32 1) &&& Int32.toUInt32 31)).toInt32) &&& (1431655765 : Int32)))) >>> ((Int32.toUInt32 2) &&& Int32.toUInt32 31)).toInt32) (pc := 17) E.1 E.2.1 dJ6_bitCount_0f7a4_17 rfl ?_
  refine lv_ldcw (v := 858993459) (pc := 18) E.1 E.2.1 E.2.2.2.1 (E.2.2.2.2.1 _ wq_639) dJ6_bitCount_0f7a4_18 ?_
  refine lv_iand (pc := 21) E.1 E.2.1 dJ6_bitCount_0f7a4_21 ?_
  refine lv_iadd (pc := 22) E.1 E.2.1 dJ6_bitCount_0f7a4_22 ?_
  refine lv_istore_n (lv' := [(0, .int (((x0 - ((((Int32.toUInt32 x0) >>> ((Int32.toUInt32 1) &&& Int32.toUInt32 31)).toInt32) &&& (1431655765 : Int32))) &&& (858993459 : Int32)) + ((((Int32.toUInt32 (x0 - ((((Int32.toUInt32 x0) >>> ((Int32.toUInt32 1) &&& Int32.toUInt32 31)).toInt32) &&& (1431655765 : Int32)))) >>> ((Int32.toUInt32 2) &&& Int32.toUInt32 31)).toInt32) &&& (858993459 : Int32))))]) (pc := 23) E.1 E.2.1 dJ6_bitCount_0f7a4_23 rfl hl (by decide) rfl (fun ls hl => ?_)
  refine lv_iload_n (pc := 24) E.1 E.2.1 dJ6_bitCount_0f7a4_24 rfl (lv_at hl 0 rfl) ?_
  refine lv_iload_n (pc := 25) E.1 E.2.1 dJ6_bitCount_0f7a4_25 rfl (lv_at hl 0 rfl) ?_
  refine lv_iconst (v := 4) (pc := 26) E.1 E.2.1 dJ6_bitCount_0f7a4_26 (by decide) ?_
  refine lv_iushr (v := ((Int32.toUInt32 (((x0 - ((((Int32.toUInt32 x0) >>> ((Int32.toUInt32 1) &&& Int32.toUInt32 31)).toInt32) &&& (1431655765 : Int32))) &&& (858993459 : Int32)) + ((((Int32.toUInt32 (x0 - ((((Int32.toUInt32 x0) >>> ((Int32.toUInt32 1) &&& Int32.toUInt32 31)).toInt32) &&& (1431655765 : Int32)))) >>> ((Int32.toUInt32 2) &&& Int32.toUInt32 31)).toInt32) &&& (858993459 : Int32)))) >>> ((Int32.toUInt32 4) &&& Int32.toUInt32 31)).toInt32) (pc := 27) E.1 E.2.1 dJ6_bitCount_0f7a4_27 rfl ?_
  refine lv_iadd (pc := 28) E.1 E.2.1 dJ6_bitCount_0f7a4_28 ?_
  refine lv_ldcw (v := 252645135) (pc := 29) E.1 E.2.1 E.2.2.2.1 (E.2.2.2.2.1 _ wq_640) dJ6_bitCount_0f7a4_29 ?_
  refine lv_iand (pc := 32) E.1 E.2.1 dJ6_bitCount_0f7a4_32 ?_
  refine lv_istore_n (lv' := [(0, .int (((((x0 - ((((Int32.toUInt32 x0) >>> ((Int32.toUInt32 1) &&& Int32.toUInt32 31)).toInt32) &&& (1431655765 : Int32))) &&& (858993459 : Int32)) + ((((Int32.toUInt32 (x0 - ((((Int32.toUInt32 x0) >>> ((Int32.toUInt32 1) &&& Int32.toUInt32 31)).toInt32) &&& (1431655765 : Int32)))) >>> ((Int32.toUInt32 2) &&& Int32.toUInt32 31)).toInt32) &&& (858993459 : Int32))) + (((Int32.toUInt32 (((x0 - ((((Int32.toUInt32 x0) >>> ((Int32.toUInt32 1) &&& Int32.toUInt32 31)).toInt32) &&& (1431655765 : Int32))) &&& (858993459 : Int32)) + ((((Int32.toUInt32 (x0 - ((((Int32.toUInt32 x0) >>> ((Int32.toUInt32 1) &&& Int32.toUInt32 31)).toInt32) &&& (1431655765 : Int32)))) >>> ((Int32.toUInt32 2) &&& Int32.toUInt32 31)).toInt32) &&& (858993459 : Int32)))) >>> ((Int32.toUInt32 4) &&& Int32.toUInt32 31)).toInt32)) &&& (252645135 : Int32)))]) (pc := 33) E.1 E.2.1 dJ6_bitCount_0f7a4_33 rfl hl (by decide) rfl (fun ls hl => ?_)
  refine lv_iload_n (pc := 34) E.1 E.2.1 dJ6_bitCount_0f7a4_34 rfl (lv_at hl 0 rfl) ?_
  refine lv_iload_n (pc := 35) E.1 E.2.1 dJ6_bitCount_0f7a4_35 rfl (lv_at hl 0 rfl) ?_
  refine lv_bipush (v := 8) (pc := 36) E.1 E.2.1 dJ6_bitCount_0f7a4_36 (by decide) ?_
  refine lv_iushr (v := ((Int32.toUInt32 (((((x0 - ((((Int32.toUInt32 x0) >>> ((Int32.toUInt32 1) &&& Int32.toUInt32 31)).toInt32) &&& (1431655765 : Int32))) &&& (858993459 : Int32)) + ((((Int32.toUInt32 (x0 - ((((Int32.toUInt32 x0) >>> ((Int32.toUInt32 1) &&& Int32.toUInt32 31)).toInt32) &&& (1431655765 : Int32)))) >>> ((Int32.toUInt32 2) &&& Int32.toUInt32 31)).toInt32) &&& (858993459 : Int32))) + (((Int32.toUInt32 (((x0 - ((((Int32.toUInt32 x0) >>> ((Int32.toUInt32 1) &&& Int32.toUInt32 31)).toInt32) &&& (1431655765 : Int32))) &&& (858993459 : Int32)) + ((((Int32.toUInt32 (x0 - ((((Int32.toUInt32 x0) >>> ((Int32.toUInt32 1) &&& Int32.toUInt32 31)).toInt32) &&& (1431655765 : Int32)))) >>> ((Int32.toUInt32 2) &&& Int32.toUInt32 31)).toInt32) &&& (858993459 : Int32)))) >>> ((Int32.toUInt32 4) &&& Int32.toUInt32 31)).toInt32)) &&& (252645135 : Int32))) >>> ((Int32.toUInt32 8) &&& Int32.toUInt32 31)).toInt32) (pc := 38) E.1 E.2.1 dJ6_bitCount_0f7a4_38 rfl ?_
  refine lv_iadd (pc := 39) E.1 E.2.1 dJ6_bitCount_0f7a4_39 ?_
  refine lv_istore_n (lv' := [(0, .int ((((((x0 - ((((Int32.toUInt32 x0) >>> ((Int32.toUInt32 1) &&& Int32.toUInt32 31)).toInt32) &&& (1431655765 : Int32))) &&& (858993459 : Int32)) + ((((Int32.toUInt32 (x0 - ((((Int32.toUInt32 x0) >>> ((Int32.toUInt32 1) &&& Int32.toUInt32 31)).toInt32) &&& (1431655765 : Int32)))) >>> ((Int32.toUInt32 2) &&& Int32.toUInt32 31)).toInt32) &&& (858993459 : Int32))) + (((Int32.toUInt32 (((x0 - ((((Int32.toUInt32 x0) >>> ((Int32.toUInt32 1) &&& Int32.toUInt32 31)).toInt32) &&& (1431655765 : Int32))) &&& (858993459 : Int32)) + ((((Int32.toUInt32 (x0 - ((((Int32.toUInt32 x0) >>> ((Int32.toUInt32 1) &&& Int32.toUInt32 31)).toInt32) &&& (1431655765 : Int32)))) >>> ((Int32.toUInt32 2) &&& Int32.toUInt32 31)).toInt32) &&& (858993459 : Int32)))) >>> ((Int32.toUInt32 4) &&& Int32.toUInt32 31)).toInt32)) &&& (252645135 : Int32)) + (((Int32.toUInt32 (((((x0 - ((((Int32.toUInt32 x0) >>> ((Int32.toUInt32 1) &&& Int32.toUInt32 31)).toInt32) &&& (1431655765 : Int32))) &&& (858993459 : Int32)) + ((((Int32.toUInt32 (x0 - ((((Int32.toUInt32 x0) >>> ((Int32.toUInt32 1) &&& Int32.toUInt32 31)).toInt32) &&& (1431655765 : Int32)))) >>> ((Int32.toUInt32 2) &&& Int32.toUInt32 31)).toInt32) &&& (858993459 : Int32))) + (((Int32.toUInt32 (((x0 - ((((Int32.toUInt32 x0) >>> ((Int32.toUInt32 1) &&& Int32.toUInt32 31)).toInt32) &&& (1431655765 : Int32))) &&& (858993459 : Int32)) + ((((Int32.toUInt32 (x0 - ((((Int32.toUInt32 x0) >>> ((Int32.toUInt32 1) &&& Int32.toUInt32 31)).toInt32) &&& (1431655765 : Int32)))) >>> ((Int32.toUInt32 2) &&& Int32.toUInt32 31)).toInt32) &&& (858993459 : Int32)))) >>> ((Int32.toUInt32 4) &&& Int32.toUInt32 31)).toInt32)) &&& (252645135 : Int32))) >>> ((Int32.toUInt32 8) &&& Int32.toUInt32 31)).toInt32)))]) (pc := 40) E.1 E.2.1 dJ6_bitCount_0f7a4_40 rfl hl (by decide) rfl (fun ls hl => ?_)
  refine lv_iload_n (pc := 41) E.1 E.2.1 dJ6_bitCount_0f7a4_41 rfl (lv_at hl 0 rfl) ?_
  refine lv_iload_n (pc := 42) E.1 E.2.1 dJ6_bitCount_0f7a4_42 rfl (lv_at hl 0 rfl) ?_
  refine lv_bipush (v := 16) (pc := 43) E.1 E.2.1 dJ6_bitCount_0f7a4_43 (by decide) ?_
  refine lv_iushr (v := ((Int32.toUInt32 ((((((x0 - ((((Int32.toUInt32 x0) >>> ((Int32.toUInt32 1) &&& Int32.toUInt32 31)).toInt32) &&& (1431655765 : Int32))) &&& (858993459 : Int32)) + ((((Int32.toUInt32 (x0 - ((((Int32.toUInt32 x0) >>> ((Int32.toUInt32 1) &&& Int32.toUInt32 31)).toInt32) &&& (1431655765 : Int32)))) >>> ((Int32.toUInt32 2) &&& Int32.toUInt32 31)).toInt32) &&& (858993459 : Int32))) + (((Int32.toUInt32 (((x0 - ((((Int32.toUInt32 x0) >>> ((Int32.toUInt32 1) &&& Int32.toUInt32 31)).toInt32) &&& (1431655765 : Int32))) &&& (858993459 : Int32)) + ((((Int32.toUInt32 (x0 - ((((Int32.toUInt32 x0) >>> ((Int32.toUInt32 1) &&& Int32.toUInt32 31)).toInt32) &&& (1431655765 : Int32)))) >>> ((Int32.toUInt32 2) &&& Int32.toUInt32 31)).toInt32) &&& (858993459 : Int32)))) >>> ((Int32.toUInt32 4) &&& Int32.toUInt32 31)).toInt32)) &&& (252645135 : Int32)) + (((Int32.toUInt32 (((((x0 - ((((Int32.toUInt32 x0) >>> ((Int32.toUInt32 1) &&& Int32.toUInt32 31)).toInt32) &&& (1431655765 : Int32))) &&& (858993459 : Int32)) + ((((Int32.toUInt32 (x0 - ((((Int32.toUInt32 x0) >>> ((Int32.toUInt32 1) &&& Int32.toUInt32 31)).toInt32) &&& (1431655765 : Int32)))) >>> ((Int32.toUInt32 2) &&& Int32.toUInt32 31)).toInt32) &&& (858993459 : Int32))) + (((Int32.toUInt32 (((x0 - ((((Int32.toUInt32 x0) >>> ((Int32.toUInt32 1) &&& Int32.toUInt32 31)).toInt32) &&& (1431655765 : Int32))) &&& (858993459 : Int32)) + ((((Int32.toUInt32 (x0 - ((((Int32.toUInt32 x0) >>> ((Int32.toUInt32 1) &&& Int32.toUInt32 31)).toInt32) &&& (1431655765 : Int32)))) >>> ((Int32.toUInt32 2) &&& Int32.toUInt32 31)).toInt32) &&& (858993459 : Int32)))) >>> ((Int32.toUInt32 4) &&& Int32.toUInt32 31)).toInt32)) &&& (252645135 : Int32))) >>> ((Int32.toUInt32 8) &&& Int32.toUInt32 31)).toInt32))) >>> ((Int32.toUInt32 16) &&& Int32.toUInt32 31)).toInt32) (pc := 45) E.1 E.2.1 dJ6_bitCount_0f7a4_45 rfl ?_
  refine lv_iadd (pc := 46) E.1 E.2.1 dJ6_bitCount_0f7a4_46 ?_
  refine lv_istore_n (lv' := [(0, .int (((((((x0 - ((((Int32.toUInt32 x0) >>> ((Int32.toUInt32 1) &&& Int32.toUInt32 31)).toInt32) &&& (1431655765 : Int32))) &&& (858993459 : Int32)) + ((((Int32.toUInt32 (x0 - ((((Int32.toUInt32 x0) >>> ((Int32.toUInt32 1) &&& Int32.toUInt32 31)).toInt32) &&& (1431655765 : Int32)))) >>> ((Int32.toUInt32 2) &&& Int32.toUInt32 31)).toInt32) &&& (858993459 : Int32))) + (((Int32.toUInt32 (((x0 - ((((Int32.toUInt32 x0) >>> ((Int32.toUInt32 1) &&& Int32.toUInt32 31)).toInt32) &&& (1431655765 : Int32))) &&& (858993459 : Int32)) + ((((Int32.toUInt32 (x0 - ((((Int32.toUInt32 x0) >>> ((Int32.toUInt32 1) &&& Int32.toUInt32 31)).toInt32) &&& (1431655765 : Int32)))) >>> ((Int32.toUInt32 2) &&& Int32.toUInt32 31)).toInt32) &&& (858993459 : Int32)))) >>> ((Int32.toUInt32 4) &&& Int32.toUInt32 31)).toInt32)) &&& (252645135 : Int32)) + (((Int32.toUInt32 (((((x0 - ((((Int32.toUInt32 x0) >>> ((Int32.toUInt32 1) &&& Int32.toUInt32 31)).toInt32) &&& (1431655765 : Int32))) &&& (858993459 : Int32)) + ((((Int32.toUInt32 (x0 - ((((Int32.toUInt32 x0) >>> ((Int32.toUInt32 1) &&& Int32.toUInt32 31)).toInt32) &&& (1431655765 : Int32)))) >>> ((Int32.toUInt32 2) &&& Int32.toUInt32 31)).toInt32) &&& (858993459 : Int32))) + (((Int32.toUInt32 (((x0 - ((((Int32.toUInt32 x0) >>> ((Int32.toUInt32 1) &&& Int32.toUInt32 31)).toInt32) &&& (1431655765 : Int32))) &&& (858993459 : Int32)) + ((((Int32.toUInt32 (x0 - ((((Int32.toUInt32 x0) >>> ((Int32.toUInt32 1) &&& Int32.toUInt32 31)).toInt32) &&& (1431655765 : Int32)))) >>> ((Int32.toUInt32 2) &&& Int32.toUInt32 31)).toInt32) &&& (858993459 : Int32)))) >>> ((Int32.toUInt32 4) &&& Int32.toUInt32 31)).toInt32)) &&& (252645135 : Int32))) >>> ((Int32.toUInt32 8) &&& Int32.toUInt32 31)).toInt32)) + (((Int32.toUInt32 ((((((x0 - ((((Int32.toUInt32 x0) >>> ((Int32.toUInt32 1) &&& Int32.toUInt32 31)).toInt32) &&& (1431655765 : Int32))) &&& (858993459 : Int32)) + ((((Int32.toUInt32 (x0 - ((((Int32.toUInt32 x0) >>> ((Int32.toUInt32 1) &&& Int32.toUInt32 31)).toInt32) &&& (1431655765 : Int32)))) >>> ((Int32.toUInt32 2) &&& Int32.toUInt32 31)).toInt32) &&& (858993459 : Int32))) + (((Int32.toUInt32 (((x0 - ((((Int32.toUInt32 x0) >>> ((Int32.toUInt32 1) &&& Int32.toUInt32 31)).toInt32) &&& (1431655765 : Int32))) &&& (858993459 : Int32)) + ((((Int32.toUInt32 (x0 - ((((Int32.toUInt32 x0) >>> ((Int32.toUInt32 1) &&& Int32.toUInt32 31)).toInt32) &&& (1431655765 : Int32)))) >>> ((Int32.toUInt32 2) &&& Int32.toUInt32 31)).toInt32) &&& (858993459 : Int32)))) >>> ((Int32.toUInt32 4) &&& Int32.toUInt32 31)).toInt32)) &&& (252645135 : Int32)) + (((Int32.toUInt32 (((((x0 - ((((Int32.toUInt32 x0) >>> ((Int32.toUInt32 1) &&& Int32.toUInt32 31)).toInt32) &&& (1431655765 : Int32))) &&& (858993459 : Int32)) + ((((Int32.toUInt32 (x0 - ((((Int32.toUInt32 x0) >>> ((Int32.toUInt32 1) &&& Int32.toUInt32 31)).toInt32) &&& (1431655765 : Int32)))) >>> ((Int32.toUInt32 2) &&& Int32.toUInt32 31)).toInt32) &&& (858993459 : Int32))) + (((Int32.toUInt32 (((x0 - ((((Int32.toUInt32 x0) >>> ((Int32.toUInt32 1) &&& Int32.toUInt32 31)).toInt32) &&& (1431655765 : Int32))) &&& (858993459 : Int32)) + ((((Int32.toUInt32 (x0 - ((((Int32.toUInt32 x0) >>> ((Int32.toUInt32 1) &&& Int32.toUInt32 31)).toInt32) &&& (1431655765 : Int32)))) >>> ((Int32.toUInt32 2) &&& Int32.toUInt32 31)).toInt32) &&& (858993459 : Int32)))) >>> ((Int32.toUInt32 4) &&& Int32.toUInt32 31)).toInt32)) &&& (252645135 : Int32))) >>> ((Int32.toUInt32 8) &&& Int32.toUInt32 31)).toInt32))) >>> ((Int32.toUInt32 16) &&& Int32.toUInt32 31)).toInt32)))]) (pc := 47) E.1 E.2.1 dJ6_bitCount_0f7a4_47 rfl hl (by decide) rfl (fun ls hl => ?_)
  refine lv_iload_n (pc := 48) E.1 E.2.1 dJ6_bitCount_0f7a4_48 rfl (lv_at hl 0 rfl) ?_
  refine lv_bipush (v := 63) (pc := 49) E.1 E.2.1 dJ6_bitCount_0f7a4_49 (by decide) ?_
  refine lv_iand (pc := 51) E.1 E.2.1 dJ6_bitCount_0f7a4_51 ?_
  obtain rfl := Option.some.inj hf
  exact x_reti (pc := 52) E hr hk hw dJ6_bitCount_0f7a4_52
set_option maxHeartbeats 4000000 in
set_option maxRecDepth 100000 in
theorem c_J6_bitCount_0f7a4 (l : Launch) (G : xG)  (x0 : Int32) {z : Int32} (hf : f_J6_bitCount_0f7a4 x0 = some z) : xC l yJ6_bitCount_0f7a4 cJ6_bitCount_0f7a4 1 (some .int) (rm_J6_bitCount_0f7a4) G [.int x0] [] (some (.int z)) [] :=
  x_met (by decide) rfl (Nat.le_of_ble_eq_true rfl) (fun p e sS m below meth c E hr hk ls hl hw => w_J6_bitCount_0f7a4_p0 E hr hk x0 z hw hl hf)
set_option maxHeartbeats 4000000 in
set_option maxRecDepth 100000 in
theorem w_X0_endYears_p0 {p : Program} {l : Launch} {e : Env} {sS : State} {m : MethodId} {args : Array Value} {below : List Frame} {meth : Method} {c : Code} {G : xG} {W0 : va_W} {ad : Nat → Nat}   (E : xE p sS m args c cX0_endYears 3 RX0 G (x_in W0)) (hr : meth.sig.returnType = (some .int)) (hk : meth.locks = false)  : ∀ (s' : S0) (x1' : Int32) (x2' : Int32) (z : Int32 × S0) {H : Heap} {locs : List Loc} {ls : Array Slot}, xW G (x_in W0) sS.heap (cells0 G ad s') H locs → lv_has ls 3 [(0, .ref (ad 0)), (1, .int x1'), (2, .int x2')] → f_X0_endYears  s' x1' x2' = some z → W p l e (rm_X0_endYears) sS m args below meth c H locs 0 0 (MQ below (xQ G W0 (cells0 G ad z.2) (some (.int z.1))) args sS 0 0 (x_in W0)) (F0 m 0 ls []) := by
  intro s x1 x2 z H locs ls hw hl hf
  unfold f_X0_endYears at hf
  refine lv_aload_n (pc := 0) E.1 E.2.1 dX0_endYears_0 rfl (lv_at hl 0 rfl) ?_
  refine lv_iload_n (pc := 1) E.1 E.2.1 dX0_endYears_1 rfl (lv_at hl 1 rfl) ?_
  refine lv_aload_n (pc := 2) E.1 E.2.1 dX0_endYears_2 rfl (lv_at hl 0 rfl) ?_
  refine lv_iload_n (pc := 3) E.1 E.2.1 dX0_endYears_3 rfl (lv_at hl 1 rfl) ?_
  obtain ⟨v1, g2, hf⟩ := x_bind hf
  refine x_callVA (pc := 4) (As := [.int x1]) (rest := [.int x1, .ref (ad 0)]) (st1 := [.int v1, .int x1, .ref (ad 0)]) (ws' := (cells0 G ad s)) E hw hl (c_X0_yearsOf l G ad s x1 g2) xv_X0_66 xd_X0_yearsOf rfl rfl ⟨Nat.le_of_ble_eq_true rfl, Nat.le_of_ble_eq_true rfl⟩ (q0 := 0) rfl rfl rfl rfl (Nat.le_of_ble_eq_true rfl) rfl dX0_endYears_4 (fun H locs hw => ?_)
  refine lv_iload_n (pc := 7) E.1 E.2.1 dX0_endYears_7 rfl (lv_at hl 2 rfl) ?_
  refine lv_iconst (v := (-1)) (pc := 8) E.1 E.2.1 dX0_endYears_8 (by decide) ?_
  refine lv_ixor (pc := 9) E.1 E.2.1 dX0_endYears_9 ?_
  refine lv_iand (pc := 10) E.1 E.2.1 dX0_endYears_10 ?_
  obtain ⟨v3, g4, hf⟩ := x_bind hf
  refine x_callVA (pc := 11) (As := [.int x1, .int (v1 &&& (x2 ^^^ (-1 : Int32)))]) (rest := []) (st1 := []) (ws' := (cells0 G ad v3)) E hw hl (c_X0_putYears l G ad s x1 (v1 &&& (x2 ^^^ (-1 : Int32))) g4) xv_X0_51 xd_X0_putYears rfl rfl ⟨Nat.le_of_ble_eq_true rfl, Nat.le_of_ble_eq_true rfl⟩ (q0 := 0) rfl rfl rfl rfl (Nat.le_of_ble_eq_true rfl) rfl dX0_endYears_11 (fun H locs hw => ?_)
  refine lv_aload_n (pc := 14) E.1 E.2.1 dX0_endYears_14 rfl (lv_at hl 0 rfl) ?_
  refine lv_iload_n (pc := 15) E.1 E.2.1 dX0_endYears_15 rfl (lv_at hl 1 rfl) ?_
  refine lv_iload_n (pc := 16) E.1 E.2.1 dX0_endYears_16 rfl (lv_at hl 2 rfl) ?_
  obtain ⟨v5, g6, hf⟩ := x_bind hf
  refine x_callVA (pc := 17) (As := [.int x1, .int x2]) (rest := []) (st1 := [.int v5.1]) (ws' := (cells0 G ad v5.2)) E hw hl (c_X0_dropClaimsOf l G ad v3 x1 x2 g6) xv_X0_54 xd_X0_dropClaimsOf rfl rfl ⟨Nat.le_of_ble_eq_true rfl, Nat.le_of_ble_eq_true rfl⟩ (q0 := 0) rfl rfl rfl rfl (Nat.le_of_ble_eq_true rfl) rfl dX0_endYears_17 (fun H locs hw => ?_)
  obtain rfl := Option.some.inj hf
  exact x_reti (pc := 20) E hr hk hw dX0_endYears_20
set_option maxHeartbeats 4000000 in
set_option maxRecDepth 100000 in
theorem c_X0_endYears (l : Launch) (G : xG) (ad : Nat → Nat) (s : S0) (x1 : Int32) (x2 : Int32) {z : Int32 × S0} (hf : f_X0_endYears s x1 x2 = some z) : xC l yX0_endYears cX0_endYears 3 (some .int) (rm_X0_endYears) G [.ref (ad 0), .int x1, .int x2] (cells0 G ad s) (some (.int z.1)) (cells0 G ad z.2) :=
  x_met (by decide) rfl (Nat.le_of_ble_eq_true rfl) (fun p e sS m below meth c E hr hk ls hl hw => w_X0_endYears_p0 E hr hk s x1 x2 z hw hl hf)
set_option maxHeartbeats 4000000 in
set_option maxRecDepth 100000 in
theorem w_X0_countInsured_p4 {p : Program} {l : Launch} {e : Env} {sS : State} {m : MethodId} {args : Array Value} {below : List Frame} {meth : Method} {c : Code} {G : xG} {W0 : va_W} {ad : Nat → Nat}  {k4 : S0 → Int32 → Int32 → Int32 → Option (Int32)} (E : xE p sS m args c cX0_countInsured 4 RX0 G (x_in W0)) (hr : meth.sig.returnType = (some .int)) (hk : meth.locks = false) (hk4 : ∀ (s' : S0) (x1' : Int32) (x2' : Int32) (x3' : Int32) (z : Int32) {H : Heap} {locs : List Loc} {ls : Array Slot}, xW G (x_in W0) sS.heap (cells0 G ad s') H locs → lv_has ls 4 [(0, .ref (ad 0)), (1, .int x1'), (2, .int x2'), (3, .int x3')] → k4  s' x1' x2' x3' = some z → W p l e (rm_X0_countInsured) sS m args below meth c H locs 0 0 (MQ below (xQ G W0 (cells0 G ad s') (some (.int z))) args sS 0 0 (x_in W0)) (F0 m 4 ls [])) : ∀ (s' : S0) (x1' : Int32) (x2' : Int32) (x3' : Int32) (z : Int32) {H : Heap} {locs : List Loc} {ls : Array Slot}, xW G (x_in W0) sS.heap (cells0 G ad s') H locs → lv_has ls 4 [(0, .ref (ad 0)), (1, .int x1'), (2, .int x2'), (3, .int x3')] → f_X0_countInsured_p4 k4 s' x1' x2' x3' = some z → W p l e (rm_X0_countInsured) sS m args below meth c H locs 0 0 (MQ below (xQ G W0 (cells0 G ad s') (some (.int z))) args sS 0 0 (x_in W0)) (F0 m 4 ls []) := by
  intro s x1 x2 x3 z H locs ls hw hl hf
  unfold f_X0_countInsured_p4 at hf
  refine lv_iload_n (pc := 4) E.1 E.2.1 dX0_countInsured_4 rfl (lv_at hl 3 rfl) ?_
  refine lv_aload_n (pc := 5) E.1 E.2.1 dX0_countInsured_5 rfl (lv_at hl 0 rfl) ?_
  refine xg_X0_28 (pc := 6) (v := .int (g0_fleets s)) E hw 0 rfl rfl dX0_countInsured_6 ?_
  refine lv_icmp_ge (tgt := 30) (pc := 9) E.1 E.2.1 dX0_countInsured_9 (by decide) (fun q1 => ?_) (fun q1 => ?_)
  · have hf := x_pos q1 hf
    refine lv_iload_n (pc := 30) E.1 E.2.1 dX0_countInsured_30 rfl (lv_at hl 2 rfl) ?_
    obtain rfl := Option.some.inj hf
    exact x_reti (pc := 31) E hr hk hw dX0_countInsured_31
  · have hf := x_neg q1 hf
    refine lv_aload_n (pc := 12) E.1 E.2.1 dX0_countInsured_12 rfl (lv_at hl 0 rfl) ?_
    refine lv_iload_n (pc := 13) E.1 E.2.1 dX0_countInsured_13 rfl (lv_at hl 3 rfl) ?_
    refine lv_iload_n (pc := 14) E.1 E.2.1 dX0_countInsured_14 rfl (lv_at hl 1 rfl) ?_
    obtain ⟨v2, g3, hf⟩ := x_bind hf
    refine x_callVA (pc := 15) (As := [.int x3, .int x1]) (rest := []) (st1 := [.int v2]) (ws' := (cells0 G ad s)) E hw hl (c_X0_isInsured l G ad s x3 x1 g3) xv_X0_85 xd_X0_isInsured rfl rfl ⟨Nat.le_of_ble_eq_true rfl, Nat.le_of_ble_eq_true rfl⟩ (q0 := 0) rfl rfl rfl rfl (Nat.le_of_ble_eq_true rfl) rfl dX0_countInsured_15 (fun H locs hw => ?_)
    refine lv_if_eq (tgt := 24) (pc := 18) E.1 E.2.1 dX0_countInsured_18 (by decide) (fun q4 => ?_) (fun q4 => ?_)
    · have hf := x_pos q4 hf
      refine lv_iinc (v := (x3 + 1)) (lv' := [(3, .int (x3 + 1)), (0, .ref (ad 0)), (1, .int x1), (2, .int x2)]) (pc := 24) E.1 E.2.1 dX0_countInsured_24 hl (k := 3) rfl rfl (by decide) rfl (fun ls hl => ?_)
      refine lv_goto (tgt := 4) (pc := 27) E.1 E.2.1 dX0_countInsured_27 (by decide) ?_
      exact hk4 s x1 x2 (x3 + 1) z hw (lv_sub hl [1, 2, 3, 0] rfl) hf
    · have hf := x_neg q4 hf
      refine lv_iinc (v := (x2 + 1)) (lv' := [(2, .int (x2 + 1)), (0, .ref (ad 0)), (1, .int x1), (3, .int x3)]) (pc := 21) E.1 E.2.1 dX0_countInsured_21 hl (k := 2) rfl rfl (by decide) rfl (fun ls hl => ?_)
      refine lv_iinc (v := (x3 + 1)) (lv' := [(3, .int (x3 + 1)), (2, .int (x2 + 1)), (0, .ref (ad 0)), (1, .int x1)]) (pc := 24) E.1 E.2.1 dX0_countInsured_24 hl (k := 3) rfl rfl (by decide) rfl (fun ls hl => ?_)
      refine lv_goto (tgt := 4) (pc := 27) E.1 E.2.1 dX0_countInsured_27 (by decide) ?_
      exact hk4 s x1 (x2 + 1) (x3 + 1) z hw (lv_sub hl [2, 3, 1, 0] rfl) hf
set_option maxHeartbeats 4000000 in
set_option maxRecDepth 100000 in
theorem wl_X0_countInsured_p4 {p : Program} {l : Launch} {e : Env} {sS : State} {m : MethodId} {args : Array Value} {below : List Frame} {meth : Method} {c : Code} {G : xG} {W0 : va_W} {ad : Nat → Nat}   (E : xE p sS m args c cX0_countInsured 4 RX0 G (x_in W0)) (hr : meth.sig.returnType = (some .int)) (hk : meth.locks = false)  : ∀ (s' : S0) (x1' : Int32) (x2' : Int32) (x3' : Int32) (z : Int32) {H : Heap} {locs : List Loc} {ls : Array Slot}, xW G (x_in W0) sS.heap (cells0 G ad s') H locs → lv_has ls 4 [(0, .ref (ad 0)), (1, .int x1'), (2, .int x2'), (3, .int x3')] → lp_X0_countInsured_p4  s' x1' x2' x3' = some z → W p l e (rm_X0_countInsured) sS m args below meth c H locs 0 0 (MQ below (xQ G W0 (cells0 G ad s') (some (.int z))) args sS 0 0 (x_in W0)) (F0 m 4 ls []) := by
  intro s x1 x2 x3 z H locs ls hw hl hf
  exact x_loop_W (P := fun (q : S0 × Int32 × Int32 × Int32) (z : Int32) => ∀ {H : Heap} {locs : List Loc} {ls : Array Slot}, xW G (x_in W0) sS.heap (cells0 G ad q.1) H locs → lv_has ls 4 [(0, .ref (ad 0)), (1, .int q.2.1), (2, .int q.2.2.1), (3, .int q.2.2.2)] → W p l e (rm_X0_countInsured) sS m args below meth c H locs 0 0 (MQ below (xQ G W0 (cells0 G ad q.1) (some (.int z))) args sS 0 0 (x_in W0)) (F0 m 4 ls [])) (fun k hkk q z hf H locs ls hw hl => w_X0_countInsured_p4 E hr hk  (fun s x1 x2 x3 z H locs ls hw hl hf => hkk (s, x1, x2, x3) z hf hw hl) q.1 q.2.1 q.2.2.1 q.2.2.2 z hw hl hf) FU (s, x1, x2, x3) z hf hw hl
set_option maxHeartbeats 4000000 in
set_option maxRecDepth 100000 in
theorem w_X0_countInsured_p0 {p : Program} {l : Launch} {e : Env} {sS : State} {m : MethodId} {args : Array Value} {below : List Frame} {meth : Method} {c : Code} {G : xG} {W0 : va_W} {ad : Nat → Nat}   (E : xE p sS m args c cX0_countInsured 4 RX0 G (x_in W0)) (hr : meth.sig.returnType = (some .int)) (hk : meth.locks = false)  : ∀ (s' : S0) (x1' : Int32) (z : Int32) {H : Heap} {locs : List Loc} {ls : Array Slot}, xW G (x_in W0) sS.heap (cells0 G ad s') H locs → lv_has ls 4 [(0, .ref (ad 0)), (1, .int x1')] → f_X0_countInsured  s' x1' = some z → W p l e (rm_X0_countInsured) sS m args below meth c H locs 0 0 (MQ below (xQ G W0 (cells0 G ad s') (some (.int z))) args sS 0 0 (x_in W0)) (F0 m 0 ls []) := by
  intro s x1 z H locs ls hw hl hf
  unfold f_X0_countInsured at hf
  refine lv_iconst (v := 0) (pc := 0) E.1 E.2.1 dX0_countInsured_0 (by decide) ?_
  refine lv_istore_n (lv' := [(2, .int 0), (0, .ref (ad 0)), (1, .int x1)]) (pc := 1) E.1 E.2.1 dX0_countInsured_1 rfl hl (by decide) rfl (fun ls hl => ?_)
  refine lv_iconst (v := 0) (pc := 2) E.1 E.2.1 dX0_countInsured_2 (by decide) ?_
  refine lv_istore_n (lv' := [(3, .int 0), (2, .int 0), (0, .ref (ad 0)), (1, .int x1)]) (pc := 3) E.1 E.2.1 dX0_countInsured_3 rfl hl (by decide) rfl (fun ls hl => ?_)
  exact wl_X0_countInsured_p4 E hr hk  s x1 0 0 z hw (lv_sub hl [2, 3, 1, 0] rfl) hf
set_option maxHeartbeats 4000000 in
set_option maxRecDepth 100000 in
theorem c_X0_countInsured (l : Launch) (G : xG) (ad : Nat → Nat) (s : S0) (x1 : Int32) {z : Int32} (hf : f_X0_countInsured s x1 = some z) : xC l yX0_countInsured cX0_countInsured 4 (some .int) (rm_X0_countInsured) G [.ref (ad 0), .int x1] (cells0 G ad s) (some (.int z)) (cells0 G ad s) :=
  x_met (by decide) rfl (Nat.le_of_ble_eq_true rfl) (fun p e sS m below meth c E hr hk ls hl hw => w_X0_countInsured_p0 E hr hk s x1 z hw hl hf)
set_option maxHeartbeats 4000000 in
set_option maxRecDepth 100000 in
theorem w_X0_endYearsOfAll_p2 {p : Program} {l : Launch} {e : Env} {sS : State} {m : MethodId} {args : Array Value} {below : List Frame} {meth : Method} {c : Code} {G : xG} {W0 : va_W} {ad : Nat → Nat}  {k2 : S0 → Int32 → Int32 → Option (S0)} (E : xE p sS m args c cX0_endYearsOfAll 3 RX0 G (x_in W0)) (hr : meth.sig.returnType = none) (hk : meth.locks = false) (hk2 : ∀ (s' : S0) (x1' : Int32) (x2' : Int32) (z : S0) {H : Heap} {locs : List Loc} {ls : Array Slot}, xW G (x_in W0) sS.heap (cells0 G ad s') H locs → lv_has ls 3 [(0, .ref (ad 0)), (1, .int x1'), (2, .int x2')] → k2  s' x1' x2' = some z → W p l e (rm_X0_endYearsOfAll) sS m args below meth c H locs 0 0 (MQ below (xQ G W0 (cells0 G ad z) none) args sS 0 0 (x_in W0)) (F0 m 2 ls [])) : ∀ (s' : S0) (x1' : Int32) (x2' : Int32) (z : S0) {H : Heap} {locs : List Loc} {ls : Array Slot}, xW G (x_in W0) sS.heap (cells0 G ad s') H locs → lv_has ls 3 [(0, .ref (ad 0)), (1, .int x1'), (2, .int x2')] → f_X0_endYearsOfAll_p2 k2 s' x1' x2' = some z → W p l e (rm_X0_endYearsOfAll) sS m args below meth c H locs 0 0 (MQ below (xQ G W0 (cells0 G ad z) none) args sS 0 0 (x_in W0)) (F0 m 2 ls []) := by
  intro s x1 x2 z H locs ls hw hl hf
  unfold f_X0_endYearsOfAll_p2 at hf
  refine lv_iload_n (pc := 2) E.1 E.2.1 dX0_endYearsOfAll_2 rfl (lv_at hl 2 rfl) ?_
  refine lv_aload_n (pc := 3) E.1 E.2.1 dX0_endYearsOfAll_3 rfl (lv_at hl 0 rfl) ?_
  refine xg_X0_28 (pc := 4) (v := .int (g0_fleets s)) E hw 0 rfl rfl dX0_endYearsOfAll_4 ?_
  refine lv_icmp_ge (tgt := 23) (pc := 7) E.1 E.2.1 dX0_endYearsOfAll_7 (by decide) (fun q1 => ?_) (fun q1 => ?_)
  · have hf := x_pos q1 hf
    obtain rfl := Option.some.inj hf
    exact x_retv (pc := 23) E hr hk hw dX0_endYearsOfAll_23
  · have hf := x_neg q1 hf
    refine lv_aload_n (pc := 10) E.1 E.2.1 dX0_endYearsOfAll_10 rfl (lv_at hl 0 rfl) ?_
    refine lv_iload_n (pc := 11) E.1 E.2.1 dX0_endYearsOfAll_11 rfl (lv_at hl 2 rfl) ?_
    refine lv_iload_n (pc := 12) E.1 E.2.1 dX0_endYearsOfAll_12 rfl (lv_at hl 1 rfl) ?_
    obtain ⟨v2, g3, hf⟩ := x_bind hf
    refine x_callVA (pc := 13) (As := [.int x2, .int x1]) (rest := []) (st1 := [.int v2.1]) (ws' := (cells0 G ad v2.2)) E hw hl (c_X0_endYears l G ad s x2 x1 g3) xv_X0_75 xd_X0_endYears rfl rfl ⟨Nat.le_of_ble_eq_true rfl, Nat.le_of_ble_eq_true rfl⟩ (q0 := 0) rfl rfl rfl rfl (Nat.le_of_ble_eq_true rfl) rfl dX0_endYearsOfAll_13 (fun H locs hw => ?_)
    refine lv_pop (pc := 16) E.1 E.2.1 dX0_endYearsOfAll_16 rfl ?_
    refine lv_iinc (v := (x2 + 1)) (lv' := [(2, .int (x2 + 1)), (0, .ref (ad 0)), (1, .int x1)]) (pc := 17) E.1 E.2.1 dX0_endYearsOfAll_17 hl (k := 2) rfl rfl (by decide) rfl (fun ls hl => ?_)
    refine lv_goto (tgt := 2) (pc := 20) E.1 E.2.1 dX0_endYearsOfAll_20 (by decide) ?_
    exact hk2 v2.2 x1 (x2 + 1) z hw (lv_sub hl [1, 2, 0] rfl) hf
set_option maxHeartbeats 4000000 in
set_option maxRecDepth 100000 in
theorem wl_X0_endYearsOfAll_p2 {p : Program} {l : Launch} {e : Env} {sS : State} {m : MethodId} {args : Array Value} {below : List Frame} {meth : Method} {c : Code} {G : xG} {W0 : va_W} {ad : Nat → Nat}   (E : xE p sS m args c cX0_endYearsOfAll 3 RX0 G (x_in W0)) (hr : meth.sig.returnType = none) (hk : meth.locks = false)  : ∀ (s' : S0) (x1' : Int32) (x2' : Int32) (z : S0) {H : Heap} {locs : List Loc} {ls : Array Slot}, xW G (x_in W0) sS.heap (cells0 G ad s') H locs → lv_has ls 3 [(0, .ref (ad 0)), (1, .int x1'), (2, .int x2')] → lp_X0_endYearsOfAll_p2  s' x1' x2' = some z → W p l e (rm_X0_endYearsOfAll) sS m args below meth c H locs 0 0 (MQ below (xQ G W0 (cells0 G ad z) none) args sS 0 0 (x_in W0)) (F0 m 2 ls []) := by
  intro s x1 x2 z H locs ls hw hl hf
  exact x_loop_W (P := fun (q : S0 × Int32 × Int32) (z : S0) => ∀ {H : Heap} {locs : List Loc} {ls : Array Slot}, xW G (x_in W0) sS.heap (cells0 G ad q.1) H locs → lv_has ls 3 [(0, .ref (ad 0)), (1, .int q.2.1), (2, .int q.2.2)] → W p l e (rm_X0_endYearsOfAll) sS m args below meth c H locs 0 0 (MQ below (xQ G W0 (cells0 G ad z) none) args sS 0 0 (x_in W0)) (F0 m 2 ls [])) (fun k hkk q z hf H locs ls hw hl => w_X0_endYearsOfAll_p2 E hr hk  (fun s x1 x2 z H locs ls hw hl hf => hkk (s, x1, x2) z hf hw hl) q.1 q.2.1 q.2.2 z hw hl hf) FU (s, x1, x2) z hf hw hl
set_option maxHeartbeats 4000000 in
set_option maxRecDepth 100000 in
theorem w_X0_endYearsOfAll_p0 {p : Program} {l : Launch} {e : Env} {sS : State} {m : MethodId} {args : Array Value} {below : List Frame} {meth : Method} {c : Code} {G : xG} {W0 : va_W} {ad : Nat → Nat}   (E : xE p sS m args c cX0_endYearsOfAll 3 RX0 G (x_in W0)) (hr : meth.sig.returnType = none) (hk : meth.locks = false)  : ∀ (s' : S0) (x1' : Int32) (z : S0) {H : Heap} {locs : List Loc} {ls : Array Slot}, xW G (x_in W0) sS.heap (cells0 G ad s') H locs → lv_has ls 3 [(0, .ref (ad 0)), (1, .int x1')] → f_X0_endYearsOfAll  s' x1' = some z → W p l e (rm_X0_endYearsOfAll) sS m args below meth c H locs 0 0 (MQ below (xQ G W0 (cells0 G ad z) none) args sS 0 0 (x_in W0)) (F0 m 0 ls []) := by
  intro s x1 z H locs ls hw hl hf
  unfold f_X0_endYearsOfAll at hf
  refine lv_iconst (v := 0) (pc := 0) E.1 E.2.1 dX0_endYearsOfAll_0 (by decide) ?_
  refine lv_istore_n (lv' := [(2, .int 0), (0, .ref (ad 0)), (1, .int x1)]) (pc := 1) E.1 E.2.1 dX0_endYearsOfAll_1 rfl hl (by decide) rfl (fun ls hl => ?_)
  exact wl_X0_endYearsOfAll_p2 E hr hk  s x1 0 z hw (lv_sub hl [1, 2, 0] rfl) hf
set_option maxHeartbeats 4000000 in
set_option maxRecDepth 100000 in
theorem c_X0_endYearsOfAll (l : Launch) (G : xG) (ad : Nat → Nat) (s : S0) (x1 : Int32) {z : S0} (hf : f_X0_endYearsOfAll s x1 = some z) : xC l yX0_endYearsOfAll cX0_endYearsOfAll 3 none (rm_X0_endYearsOfAll) G [.ref (ad 0), .int x1] (cells0 G ad s) none (cells0 G ad z) :=
  x_met (by decide) rfl (Nat.le_of_ble_eq_true rfl) (fun p e sS m below meth c E hr hk ls hl hw => w_X0_endYearsOfAll_p0 E hr hk s x1 z hw hl hf)
set_option maxHeartbeats 4000000 in
set_option maxRecDepth 100000 in
theorem w_X7_isAmount_p0 {p : Program} {l : Launch} {e : Env} {sS : State} {m : MethodId} {args : Array Value} {below : List Frame} {meth : Method} {c : Code} {G : xG} {W0 : va_W}    (E : xE p sS m args c cX7_isAmount 1 RX7 G (x_in W0)) (hr : meth.sig.returnType = (some .boolean)) (hk : meth.locks = false)  : ∀ (x0' : Int32) (z : Int32) {H : Heap} {locs : List Loc} {ls : Array Slot}, xW G (x_in W0) sS.heap [] H locs → lv_has ls 1 [(0, .int x0')] → f_X7_isAmount  x0' = some z → W p l e (rm_X7_isAmount) sS m args below meth c H locs 0 0 (MQ below (xQ G W0 [] (some (.int z))) args sS 0 0 (x_in W0)) (F0 m 0 ls []) := by
  intro x0 z H locs ls hw hl hf
  unfold f_X7_isAmount at hf
  refine lv_iload_n (pc := 0) E.1 E.2.1 dX7_isAmount_0 rfl (lv_at hl 0 rfl) ?_
  refine lv_iconst (v := 1) (pc := 1) E.1 E.2.1 dX7_isAmount_1 (by decide) ?_
  refine lv_icmp_lt (tgt := 15) (pc := 2) E.1 E.2.1 dX7_isAmount_2 (by decide) (fun q1 => ?_) (fun q1 => ?_)
  · have hf := x_pos q1 hf
    refine lv_iconst (v := 0) (pc := 15) E.1 E.2.1 dX7_isAmount_15 (by decide) ?_
    obtain rfl := Option.some.inj hf
    exact x_retz (pc := 16) (v := 0) (r := 0) E hr hk hw (by decide) dX7_isAmount_16
  · have hf := x_neg q1 hf
    refine lv_iload_n (pc := 5) E.1 E.2.1 dX7_isAmount_5 rfl (lv_at hl 0 rfl) ?_
    refine lv_bipush (v := 99) (pc := 6) E.1 E.2.1 dX7_isAmount_6 (by decide) ?_
    refine lv_icmp_gt (tgt := 15) (pc := 8) E.1 E.2.1 dX7_isAmount_8 (by decide) (fun q2 => ?_) (fun q2 => ?_)
    · have hf := x_pos q2 hf
      refine lv_iconst (v := 0) (pc := 15) E.1 E.2.1 dX7_isAmount_15 (by decide) ?_
      obtain rfl := Option.some.inj hf
      exact x_retz (pc := 16) (v := 0) (r := 0) E hr hk hw (by decide) dX7_isAmount_16
    · have hf := x_neg q2 hf
      refine lv_iconst (v := 1) (pc := 11) E.1 E.2.1 dX7_isAmount_11 (by decide) ?_
      refine lv_goto (tgt := 16) (pc := 12) E.1 E.2.1 dX7_isAmount_12 (by decide) ?_
      obtain rfl := Option.some.inj hf
      exact x_retz (pc := 16) (v := 1) (r := 1) E hr hk hw (by decide) dX7_isAmount_16
set_option maxHeartbeats 4000000 in
set_option maxRecDepth 100000 in
theorem c_X7_isAmount (l : Launch) (G : xG)  (x0 : Int32) {z : Int32} (hf : f_X7_isAmount x0 = some z) : xC l yX7_isAmount cX7_isAmount 1 (some .boolean) (rm_X7_isAmount) G [.int x0] [] (some (.int z)) [] :=
  x_met (by decide) rfl (Nat.le_of_ble_eq_true rfl) (fun p e sS m below meth c E hr hk ls hl hw => w_X7_isAmount_p0 E hr hk x0 z hw hl hf)
set_option maxHeartbeats 4000000 in
set_option maxRecDepth 100000 in
theorem w_X0_dropClaim_p0 {p : Program} {l : Launch} {e : Env} {sS : State} {m : MethodId} {args : Array Value} {below : List Frame} {meth : Method} {c : Code} {G : xG} {W0 : va_W} {ad : Nat → Nat}   (E : xE p sS m args c cX0_dropClaim 2 RX0 G (x_in W0)) (hr : meth.sig.returnType = none) (hk : meth.locks = false)  : ∀ (s' : S0) (x1' : Int32) (z : S0) {H : Heap} {locs : List Loc} {ls : Array Slot}, xW G (x_in W0) sS.heap (cells0 G ad s') H locs → lv_has ls 2 [(0, .ref (ad 0)), (1, .int x1')] → f_X0_dropClaim  s' x1' = some z → W p l e (rm_X0_dropClaim) sS m args below meth c H locs 0 0 (MQ below (xQ G W0 (cells0 G ad z) none) args sS 0 0 (x_in W0)) (F0 m 0 ls []) := by
  intro s x1 z H locs ls hw hl hf
  unfold f_X0_dropClaim at hf
  refine lv_aload_n (pc := 0) E.1 E.2.1 dX0_dropClaim_0 rfl (lv_at hl 0 rfl) ?_
  refine lv_iload_n (pc := 1) E.1 E.2.1 dX0_dropClaim_1 rfl (lv_at hl 1 rfl) ?_
  obtain ⟨v1, g2, hf⟩ := x_bind hf
  refine x_callVA (pc := 2) (As := [.int x1]) (rest := []) (st1 := [.int v1]) (ws' := (cells0 G ad s)) E hw hl (c_X0_hasClaim l G ad s x1 g2) xv_X0_89 xd_X0_hasClaim rfl rfl ⟨Nat.le_of_ble_eq_true rfl, Nat.le_of_ble_eq_true rfl⟩ (q0 := 0) rfl rfl rfl rfl (Nat.le_of_ble_eq_true rfl) rfl dX0_dropClaim_2 (fun H locs hw => ?_)
  refine lv_if_eq (tgt := 41) (pc := 5) E.1 E.2.1 dX0_dropClaim_5 (by decide) (fun q3 => ?_) (fun q3 => ?_)
  · have hf := x_pos q3 hf
    obtain rfl := Option.some.inj hf
    exact x_retv (pc := 41) E hr hk hw dX0_dropClaim_41
  · have hf := x_neg q3 hf
    refine lv_aload_n (pc := 8) E.1 E.2.1 dX0_dropClaim_8 rfl (lv_at hl 0 rfl) ?_
    refine xg_X0_25 (pc := 9) (v := .ref (ad 3)) E hw 0 rfl rfl dX0_dropClaim_9 ?_
    refine lv_iload_n (pc := 12) E.1 E.2.1 dX0_dropClaim_12 rfl (lv_at hl 1 rfl) ?_
    refine lv_iconst (v := 1) (pc := 13) E.1 E.2.1 dX0_dropClaim_13 (by decide) ?_
    refine lv_iadd (pc := 14) E.1 E.2.1 dX0_dropClaim_14 ?_
    refine lv_aload_n (pc := 15) E.1 E.2.1 dX0_dropClaim_15 rfl (lv_at hl 0 rfl) ?_
    refine xg_X0_25 (pc := 16) (v := .ref (ad 3)) E hw 0 rfl rfl dX0_dropClaim_16 ?_
    refine lv_iload_n (pc := 19) E.1 E.2.1 dX0_dropClaim_19 rfl (lv_at hl 1 rfl) ?_
    refine lv_aload_n (pc := 20) E.1 E.2.1 dX0_dropClaim_20 rfl (lv_at hl 0 rfl) ?_
    refine xg_X0_31 (pc := 21) (v := .int (g0_claims s)) E hw 0 rfl rfl dX0_dropClaim_21 ?_
    refine lv_iload_n (pc := 24) E.1 E.2.1 dX0_dropClaim_24 rfl (lv_at hl 1 rfl) ?_
    refine lv_isub (pc := 25) E.1 E.2.1 dX0_dropClaim_25 ?_
    refine lv_iconst (v := 1) (pc := 26) E.1 E.2.1 dX0_dropClaim_26 (by decide) ?_
    refine lv_isub (pc := 27) E.1 E.2.1 dX0_dropClaim_27 ?_
    obtain ⟨w5, g4, hf⟩ := x_bind hf
    refine x_copy (pc := 28) (ws' := (cells0c G ad (g0_fleets s) (g0_claims s) (g0_cap s) (g0_steady s) (g0_classes s) (g0_years s) w5)) E hw hl wq_556 wq_558 wq_557 wq_109 3 3 rfl rfl g4 rfl (Nat.le_of_ble_eq_true rfl) (Nat.le_of_ble_eq_true rfl) dX0_dropClaim_28 (fun H locs hw => ?_)
    refine lv_aload_n (pc := 31) E.1 E.2.1 dX0_dropClaim_31 rfl (lv_at hl 0 rfl) ?_
    refine lv_dup (pc := 32) E.1 E.2.1 dX0_dropClaim_32 rfl ?_
    refine xg_X0_31 (pc := 33) (v := .int (g0_claims s)) E hw 0 rfl rfl dX0_dropClaim_33 ?_
    refine lv_iconst (v := 1) (pc := 36) E.1 E.2.1 dX0_dropClaim_36 (by decide) ?_
    refine lv_isub (pc := 37) E.1 E.2.1 dX0_dropClaim_37 ?_
    refine xp_X0_31 (pc := 38) (v := .int ((g0_claims s) - (1 : Int32))) (ws' := (cells0c G ad (g0_fleets s) ((g0_claims s) - (1 : Int32)) (g0_cap s) (g0_steady s) (g0_classes s) (g0_years s) w5)) E hw 0 rfl rfl rfl (Nat.le_of_ble_eq_true rfl) rfl dX0_dropClaim_38 (fun H locs hw => ?_)
    obtain rfl := Option.some.inj hf
    exact x_retv (pc := 41) E hr hk hw dX0_dropClaim_41
set_option maxHeartbeats 4000000 in
set_option maxRecDepth 100000 in
theorem c_X0_dropClaim (l : Launch) (G : xG) (ad : Nat → Nat) (s : S0) (x1 : Int32) {z : S0} (hf : f_X0_dropClaim s x1 = some z) : xC l yX0_dropClaim cX0_dropClaim 2 none (rm_X0_dropClaim) G [.ref (ad 0), .int x1] (cells0 G ad s) none (cells0 G ad z) :=
  x_met (by decide) rfl (Nat.le_of_ble_eq_true rfl) (fun p e sS m below meth c E hr hk ls hl hw => w_X0_dropClaim_p0 E hr hk s x1 z hw hl hf)
set_option maxHeartbeats 4000000 in
set_option maxRecDepth 100000 in
theorem w_X0_putAmount_p0 {p : Program} {l : Launch} {e : Env} {sS : State} {m : MethodId} {args : Array Value} {below : List Frame} {meth : Method} {c : Code} {G : xG} {W0 : va_W} {ad : Nat → Nat}   (E : xE p sS m args c cX0_putAmount 3 RX0 G (x_in W0)) (hr : meth.sig.returnType = none) (hk : meth.locks = false)  : ∀ (s' : S0) (x1' : Int32) (x2' : Int32) (z : S0) {H : Heap} {locs : List Loc} {ls : Array Slot}, xW G (x_in W0) sS.heap (cells0 G ad s') H locs → lv_has ls 3 [(0, .ref (ad 0)), (1, .int x1'), (2, .int x2')] → f_X0_putAmount  s' x1' x2' = some z → W p l e (rm_X0_putAmount) sS m args below meth c H locs 0 0 (MQ below (xQ G W0 (cells0 G ad z) none) args sS 0 0 (x_in W0)) (F0 m 0 ls []) := by
  intro s x1 x2 z H locs ls hw hl hf
  unfold f_X0_putAmount at hf
  refine lv_aload_n (pc := 0) E.1 E.2.1 dX0_putAmount_0 rfl (lv_at hl 0 rfl) ?_
  refine lv_iload_n (pc := 1) E.1 E.2.1 dX0_putAmount_1 rfl (lv_at hl 1 rfl) ?_
  refine lv_aload_n (pc := 2) E.1 E.2.1 dX0_putAmount_2 rfl (lv_at hl 0 rfl) ?_
  refine lv_iload_n (pc := 3) E.1 E.2.1 dX0_putAmount_3 rfl (lv_at hl 1 rfl) ?_
  obtain ⟨v1, g2, hf⟩ := x_bind hf
  refine x_callVA (pc := 4) (As := [.int x1]) (rest := [.int x1, .ref (ad 0)]) (st1 := [.int v1, .int x1, .ref (ad 0)]) (ws' := (cells0 G ad s)) E hw hl (c_X0_fleetOf l G ad s x1 g2) xv_X0_69 xd_X0_fleetOf rfl rfl ⟨Nat.le_of_ble_eq_true rfl, Nat.le_of_ble_eq_true rfl⟩ (q0 := 0) rfl rfl rfl rfl (Nat.le_of_ble_eq_true rfl) rfl dX0_putAmount_4 (fun H locs hw => ?_)
  refine lv_aload_n (pc := 7) E.1 E.2.1 dX0_putAmount_7 rfl (lv_at hl 0 rfl) ?_
  refine lv_iload_n (pc := 8) E.1 E.2.1 dX0_putAmount_8 rfl (lv_at hl 1 rfl) ?_
  obtain ⟨v3, g4, hf⟩ := x_bind hf
  refine x_callVA (pc := 9) (As := [.int x1]) (rest := [.int v1, .int x1, .ref (ad 0)]) (st1 := [.int v3, .int v1, .int x1, .ref (ad 0)]) (ws' := (cells0 G ad s)) E hw hl (c_X0_yearOf l G ad s x1 g4) xv_X0_97 xd_X0_yearOf rfl rfl ⟨Nat.le_of_ble_eq_true rfl, Nat.le_of_ble_eq_true rfl⟩ (q0 := 0) rfl rfl rfl rfl (Nat.le_of_ble_eq_true rfl) rfl dX0_putAmount_9 (fun H locs hw => ?_)
  refine lv_iload_n (pc := 12) E.1 E.2.1 dX0_putAmount_12 rfl (lv_at hl 2 rfl) ?_
  obtain ⟨v5, g6, hf⟩ := x_bind hf
  refine x_callVA (pc := 13) (As := [.int x1, .int v1, .int v3, .int x2]) (rest := []) (st1 := []) (ws' := (cells0 G ad v5)) E hw hl (c_X0_putClaim l G ad s x1 v1 v3 x2 g6) xv_X0_100 xd_X0_putClaim rfl rfl ⟨Nat.le_of_ble_eq_true rfl, Nat.le_of_ble_eq_true rfl⟩ (q0 := 0) rfl rfl rfl rfl (Nat.le_of_ble_eq_true rfl) rfl dX0_putAmount_13 (fun H locs hw => ?_)
  obtain rfl := Option.some.inj hf
  exact x_retv (pc := 16) E hr hk hw dX0_putAmount_16
set_option maxHeartbeats 4000000 in
set_option maxRecDepth 100000 in
theorem c_X0_putAmount (l : Launch) (G : xG) (ad : Nat → Nat) (s : S0) (x1 : Int32) (x2 : Int32) {z : S0} (hf : f_X0_putAmount s x1 x2 = some z) : xC l yX0_putAmount cX0_putAmount 3 none (rm_X0_putAmount) G [.ref (ad 0), .int x1, .int x2] (cells0 G ad s) none (cells0 G ad z) :=
  x_met (by decide) rfl (Nat.le_of_ble_eq_true rfl) (fun p e sS m below meth c E hr hk ls hl hw => w_X0_putAmount_p0 E hr hk s x1 x2 z hw hl hf)
set_option maxHeartbeats 4000000 in
set_option maxRecDepth 100000 in
theorem w_X0_fleetsIn_p4 {p : Program} {l : Launch} {e : Env} {sS : State} {m : MethodId} {args : Array Value} {below : List Frame} {meth : Method} {c : Code} {G : xG} {W0 : va_W} {ad : Nat → Nat}  {k4 : S0 → Int32 → Int32 → Int32 → Option (Int32)} (E : xE p sS m args c cX0_fleetsIn 4 RX0 G (x_in W0)) (hr : meth.sig.returnType = (some .int)) (hk : meth.locks = false) (hk4 : ∀ (s' : S0) (x1' : Int32) (x2' : Int32) (x3' : Int32) (z : Int32) {H : Heap} {locs : List Loc} {ls : Array Slot}, xW G (x_in W0) sS.heap (cells0 G ad s') H locs → lv_has ls 4 [(0, .ref (ad 0)), (1, .int x1'), (2, .int x2'), (3, .int x3')] → k4  s' x1' x2' x3' = some z → W p l e (rm_X0_fleetsIn) sS m args below meth c H locs 0 0 (MQ below (xQ G W0 (cells0 G ad s') (some (.int z))) args sS 0 0 (x_in W0)) (F0 m 4 ls [])) : ∀ (s' : S0) (x1' : Int32) (x2' : Int32) (x3' : Int32) (z : Int32) {H : Heap} {locs : List Loc} {ls : Array Slot}, xW G (x_in W0) sS.heap (cells0 G ad s') H locs → lv_has ls 4 [(0, .ref (ad 0)), (1, .int x1'), (2, .int x2'), (3, .int x3')] → f_X0_fleetsIn_p4 k4 s' x1' x2' x3' = some z → W p l e (rm_X0_fleetsIn) sS m args below meth c H locs 0 0 (MQ below (xQ G W0 (cells0 G ad s') (some (.int z))) args sS 0 0 (x_in W0)) (F0 m 4 ls []) := by
  intro s x1 x2 x3 z H locs ls hw hl hf
  unfold f_X0_fleetsIn_p4 at hf
  refine lv_iload_n (pc := 4) E.1 E.2.1 dX0_fleetsIn_4 rfl (lv_at hl 3 rfl) ?_
  refine lv_aload_n (pc := 5) E.1 E.2.1 dX0_fleetsIn_5 rfl (lv_at hl 0 rfl) ?_
  refine xg_X0_28 (pc := 6) (v := .int (g0_fleets s)) E hw 0 rfl rfl dX0_fleetsIn_6 ?_
  refine lv_icmp_ge (tgt := 33) (pc := 9) E.1 E.2.1 dX0_fleetsIn_9 (by decide) (fun q1 => ?_) (fun q1 => ?_)
  · have hf := x_pos q1 hf
    refine lv_iload_n (pc := 33) E.1 E.2.1 dX0_fleetsIn_33 rfl (lv_at hl 2 rfl) ?_
    obtain rfl := Option.some.inj hf
    exact x_reti (pc := 34) E hr hk hw dX0_fleetsIn_34
  · have hf := x_neg q1 hf
    refine lv_aload_n (pc := 12) E.1 E.2.1 dX0_fleetsIn_12 rfl (lv_at hl 0 rfl) ?_
    refine lv_iload_n (pc := 13) E.1 E.2.1 dX0_fleetsIn_13 rfl (lv_at hl 3 rfl) ?_
    obtain ⟨v2, g3, hf⟩ := x_bind hf
    refine x_callVA (pc := 14) (As := [.int x3]) (rest := []) (st1 := [.int v2]) (ws' := (cells0 G ad s)) E hw hl (c_X0_classOf l G ad s x3 g3) xv_X0_62 xd_X0_classOf rfl rfl ⟨Nat.le_of_ble_eq_true rfl, Nat.le_of_ble_eq_true rfl⟩ (q0 := 0) rfl rfl rfl rfl (Nat.le_of_ble_eq_true rfl) rfl dX0_fleetsIn_14 (fun H locs hw => ?_)
    refine lv_iload_n (pc := 17) E.1 E.2.1 dX0_fleetsIn_17 rfl (lv_at hl 1 rfl) ?_
    refine lv_icmp_ne (tgt := 27) (pc := 18) E.1 E.2.1 dX0_fleetsIn_18 (by decide) (fun q4 => ?_) (fun q4 => ?_)
    · have hf := x_neg q4 hf
      refine lv_iinc (v := (x3 + 1)) (lv' := [(3, .int (x3 + 1)), (0, .ref (ad 0)), (1, .int x1), (2, .int x2)]) (pc := 27) E.1 E.2.1 dX0_fleetsIn_27 hl (k := 3) rfl rfl (by decide) rfl (fun ls hl => ?_)
      refine lv_goto (tgt := 4) (pc := 30) E.1 E.2.1 dX0_fleetsIn_30 (by decide) ?_
      exact hk4 s x1 x2 (x3 + 1) z hw (lv_sub hl [1, 2, 3, 0] rfl) hf
    · have hf := x_pos q4 hf
      refine lv_iload_n (pc := 21) E.1 E.2.1 dX0_fleetsIn_21 rfl (lv_at hl 2 rfl) ?_
      refine lv_iconst (v := 1) (pc := 22) E.1 E.2.1 dX0_fleetsIn_22 (by decide) ?_
      refine lv_iload_n (pc := 23) E.1 E.2.1 dX0_fleetsIn_23 rfl (lv_at hl 3 rfl) ?_
      refine lv_ishl (pc := 24) E.1 E.2.1 dX0_fleetsIn_24 ?_
      refine lv_ior (pc := 25) E.1 E.2.1 dX0_fleetsIn_25 ?_
      refine lv_istore_n (lv' := [(2, .int (x2 ||| ((1 : Int32) <<< (x3 &&& 31)))), (0, .ref (ad 0)), (1, .int x1), (3, .int x3)]) (pc := 26) E.1 E.2.1 dX0_fleetsIn_26 rfl hl (by decide) rfl (fun ls hl => ?_)
      refine lv_iinc (v := (x3 + 1)) (lv' := [(3, .int (x3 + 1)), (2, .int (x2 ||| ((1 : Int32) <<< (x3 &&& 31)))), (0, .ref (ad 0)), (1, .int x1)]) (pc := 27) E.1 E.2.1 dX0_fleetsIn_27 hl (k := 3) rfl rfl (by decide) rfl (fun ls hl => ?_)
      refine lv_goto (tgt := 4) (pc := 30) E.1 E.2.1 dX0_fleetsIn_30 (by decide) ?_
      exact hk4 s x1 (x2 ||| ((1 : Int32) <<< (x3 &&& 31))) (x3 + 1) z hw (lv_sub hl [2, 3, 1, 0] rfl) hf
set_option maxHeartbeats 4000000 in
set_option maxRecDepth 100000 in
theorem wl_X0_fleetsIn_p4 {p : Program} {l : Launch} {e : Env} {sS : State} {m : MethodId} {args : Array Value} {below : List Frame} {meth : Method} {c : Code} {G : xG} {W0 : va_W} {ad : Nat → Nat}   (E : xE p sS m args c cX0_fleetsIn 4 RX0 G (x_in W0)) (hr : meth.sig.returnType = (some .int)) (hk : meth.locks = false)  : ∀ (s' : S0) (x1' : Int32) (x2' : Int32) (x3' : Int32) (z : Int32) {H : Heap} {locs : List Loc} {ls : Array Slot}, xW G (x_in W0) sS.heap (cells0 G ad s') H locs → lv_has ls 4 [(0, .ref (ad 0)), (1, .int x1'), (2, .int x2'), (3, .int x3')] → lp_X0_fleetsIn_p4  s' x1' x2' x3' = some z → W p l e (rm_X0_fleetsIn) sS m args below meth c H locs 0 0 (MQ below (xQ G W0 (cells0 G ad s') (some (.int z))) args sS 0 0 (x_in W0)) (F0 m 4 ls []) := by
  intro s x1 x2 x3 z H locs ls hw hl hf
  exact x_loop_W (P := fun (q : S0 × Int32 × Int32 × Int32) (z : Int32) => ∀ {H : Heap} {locs : List Loc} {ls : Array Slot}, xW G (x_in W0) sS.heap (cells0 G ad q.1) H locs → lv_has ls 4 [(0, .ref (ad 0)), (1, .int q.2.1), (2, .int q.2.2.1), (3, .int q.2.2.2)] → W p l e (rm_X0_fleetsIn) sS m args below meth c H locs 0 0 (MQ below (xQ G W0 (cells0 G ad q.1) (some (.int z))) args sS 0 0 (x_in W0)) (F0 m 4 ls [])) (fun k hkk q z hf H locs ls hw hl => w_X0_fleetsIn_p4 E hr hk  (fun s x1 x2 x3 z H locs ls hw hl hf => hkk (s, x1, x2, x3) z hf hw hl) q.1 q.2.1 q.2.2.1 q.2.2.2 z hw hl hf) FU (s, x1, x2, x3) z hf hw hl
set_option maxHeartbeats 4000000 in
set_option maxRecDepth 100000 in
theorem w_X0_fleetsIn_p0 {p : Program} {l : Launch} {e : Env} {sS : State} {m : MethodId} {args : Array Value} {below : List Frame} {meth : Method} {c : Code} {G : xG} {W0 : va_W} {ad : Nat → Nat}   (E : xE p sS m args c cX0_fleetsIn 4 RX0 G (x_in W0)) (hr : meth.sig.returnType = (some .int)) (hk : meth.locks = false)  : ∀ (s' : S0) (x1' : Int32) (z : Int32) {H : Heap} {locs : List Loc} {ls : Array Slot}, xW G (x_in W0) sS.heap (cells0 G ad s') H locs → lv_has ls 4 [(0, .ref (ad 0)), (1, .int x1')] → f_X0_fleetsIn  s' x1' = some z → W p l e (rm_X0_fleetsIn) sS m args below meth c H locs 0 0 (MQ below (xQ G W0 (cells0 G ad s') (some (.int z))) args sS 0 0 (x_in W0)) (F0 m 0 ls []) := by
  intro s x1 z H locs ls hw hl hf
  unfold f_X0_fleetsIn at hf
  refine lv_iconst (v := 0) (pc := 0) E.1 E.2.1 dX0_fleetsIn_0 (by decide) ?_
  refine lv_istore_n (lv' := [(2, .int 0), (0, .ref (ad 0)), (1, .int x1)]) (pc := 1) E.1 E.2.1 dX0_fleetsIn_1 rfl hl (by decide) rfl (fun ls hl => ?_)
  refine lv_iconst (v := 0) (pc := 2) E.1 E.2.1 dX0_fleetsIn_2 (by decide) ?_
  refine lv_istore_n (lv' := [(3, .int 0), (2, .int 0), (0, .ref (ad 0)), (1, .int x1)]) (pc := 3) E.1 E.2.1 dX0_fleetsIn_3 rfl hl (by decide) rfl (fun ls hl => ?_)
  exact wl_X0_fleetsIn_p4 E hr hk  s x1 0 0 z hw (lv_sub hl [2, 3, 1, 0] rfl) hf
set_option maxHeartbeats 4000000 in
set_option maxRecDepth 100000 in
theorem c_X0_fleetsIn (l : Launch) (G : xG) (ad : Nat → Nat) (s : S0) (x1 : Int32) {z : Int32} (hf : f_X0_fleetsIn s x1 = some z) : xC l yX0_fleetsIn cX0_fleetsIn 4 (some .int) (rm_X0_fleetsIn) G [.ref (ad 0), .int x1] (cells0 G ad s) (some (.int z)) (cells0 G ad s) :=
  x_met (by decide) rfl (Nat.le_of_ble_eq_true rfl) (fun p e sS m below meth c E hr hk ls hl hw => w_X0_fleetsIn_p0 E hr hk s x1 z hw hl hf)
set_option maxHeartbeats 4000000 in
set_option maxRecDepth 100000 in
theorem w_X0_moveAll_p5 {p : Program} {l : Launch} {e : Env} {sS : State} {m : MethodId} {args : Array Value} {below : List Frame} {meth : Method} {c : Code} {G : xG} {W0 : va_W} {ad : Nat → Nat}  {k5 : S0 → Int32 → Int32 → Int32 → Int32 → Option (Int32 × S0)} (E : xE p sS m args c cX0_moveAll 5 RX0 G (x_in W0)) (hr : meth.sig.returnType = (some .int)) (hk : meth.locks = false) (hk5 : ∀ (s' : S0) (x1' : Int32) (x2' : Int32) (x3' : Int32) (x4' : Int32) (z : Int32 × S0) {H : Heap} {locs : List Loc} {ls : Array Slot}, xW G (x_in W0) sS.heap (cells0 G ad s') H locs → lv_has ls 5 [(0, .ref (ad 0)), (1, .int x1'), (2, .int x2'), (3, .int x3'), (4, .int x4')] → k5  s' x1' x2' x3' x4' = some z → W p l e (rm_X0_moveAll) sS m args below meth c H locs 0 0 (MQ below (xQ G W0 (cells0 G ad z.2) (some (.int z.1))) args sS 0 0 (x_in W0)) (F0 m 5 ls [])) : ∀ (s' : S0) (x1' : Int32) (x2' : Int32) (x3' : Int32) (x4' : Int32) (z : Int32 × S0) {H : Heap} {locs : List Loc} {ls : Array Slot}, xW G (x_in W0) sS.heap (cells0 G ad s') H locs → lv_has ls 5 [(0, .ref (ad 0)), (1, .int x1'), (2, .int x2'), (3, .int x3'), (4, .int x4')] → f_X0_moveAll_p5 k5 s' x1' x2' x3' x4' = some z → W p l e (rm_X0_moveAll) sS m args below meth c H locs 0 0 (MQ below (xQ G W0 (cells0 G ad z.2) (some (.int z.1))) args sS 0 0 (x_in W0)) (F0 m 5 ls []) := by
  intro s x1 x2 x3 x4 z H locs ls hw hl hf
  unfold f_X0_moveAll_p5 at hf
  refine lv_iload (pc := 5) E.1 E.2.1 dX0_moveAll_5 (lv_at hl 4 rfl) ?_
  refine lv_aload_n (pc := 7) E.1 E.2.1 dX0_moveAll_7 rfl (lv_at hl 0 rfl) ?_
  refine xg_X0_28 (pc := 8) (v := .int (g0_fleets s)) E hw 0 rfl rfl dX0_moveAll_8 ?_
  refine lv_icmp_ge (tgt := 40) (pc := 11) E.1 E.2.1 dX0_moveAll_11 (by decide) (fun q1 => ?_) (fun q1 => ?_)
  · have hf := x_pos q1 hf
    refine lv_iload_n (pc := 40) E.1 E.2.1 dX0_moveAll_40 rfl (lv_at hl 3 rfl) ?_
    obtain rfl := Option.some.inj hf
    exact x_reti (pc := 41) E hr hk hw dX0_moveAll_41
  · have hf := x_neg q1 hf
    refine lv_aload_n (pc := 14) E.1 E.2.1 dX0_moveAll_14 rfl (lv_at hl 0 rfl) ?_
    refine lv_iload (pc := 15) E.1 E.2.1 dX0_moveAll_15 (lv_at hl 4 rfl) ?_
    obtain ⟨v2, g3, hf⟩ := x_bind hf
    refine x_callVA (pc := 17) (As := [.int x4]) (rest := []) (st1 := [.int v2]) (ws' := (cells0 G ad s)) E hw hl (c_X0_classOf l G ad s x4 g3) xv_X0_62 xd_X0_classOf rfl rfl ⟨Nat.le_of_ble_eq_true rfl, Nat.le_of_ble_eq_true rfl⟩ (q0 := 0) rfl rfl rfl rfl (Nat.le_of_ble_eq_true rfl) rfl dX0_moveAll_17 (fun H locs hw => ?_)
    refine lv_iload_n (pc := 20) E.1 E.2.1 dX0_moveAll_20 rfl (lv_at hl 1 rfl) ?_
    refine lv_icmp_ne (tgt := 34) (pc := 21) E.1 E.2.1 dX0_moveAll_21 (by decide) (fun q4 => ?_) (fun q4 => ?_)
    · have hf := x_neg q4 hf
      refine lv_iinc (v := (x4 + 1)) (lv' := [(4, .int (x4 + 1)), (0, .ref (ad 0)), (1, .int x1), (2, .int x2), (3, .int x3)]) (pc := 34) E.1 E.2.1 dX0_moveAll_34 hl (k := 4) rfl rfl (by decide) rfl (fun ls hl => ?_)
      refine lv_goto (tgt := 5) (pc := 37) E.1 E.2.1 dX0_moveAll_37 (by decide) ?_
      exact hk5 s x1 x2 x3 (x4 + 1) z hw (lv_sub hl [1, 2, 3, 4, 0] rfl) hf
    · have hf := x_pos q4 hf
      refine lv_aload_n (pc := 24) E.1 E.2.1 dX0_moveAll_24 rfl (lv_at hl 0 rfl) ?_
      refine lv_iload (pc := 25) E.1 E.2.1 dX0_moveAll_25 (lv_at hl 4 rfl) ?_
      refine lv_iload_n (pc := 27) E.1 E.2.1 dX0_moveAll_27 rfl (lv_at hl 2 rfl) ?_
      obtain ⟨v5, g6, hf⟩ := x_bind hf
      refine x_callVA (pc := 28) (As := [.int x4, .int x2]) (rest := []) (st1 := []) (ws' := (cells0 G ad v5)) E hw hl (c_X0_putClass l G ad s x4 x2 g6) xv_X0_47 xd_X0_putClass rfl rfl ⟨Nat.le_of_ble_eq_true rfl, Nat.le_of_ble_eq_true rfl⟩ (q0 := 0) rfl rfl rfl rfl (Nat.le_of_ble_eq_true rfl) rfl dX0_moveAll_28 (fun H locs hw => ?_)
      refine lv_iinc (v := (x3 + 1)) (lv' := [(3, .int (x3 + 1)), (0, .ref (ad 0)), (1, .int x1), (2, .int x2), (4, .int x4)]) (pc := 31) E.1 E.2.1 dX0_moveAll_31 hl (k := 3) rfl rfl (by decide) rfl (fun ls hl => ?_)
      refine lv_iinc (v := (x4 + 1)) (lv' := [(4, .int (x4 + 1)), (3, .int (x3 + 1)), (0, .ref (ad 0)), (1, .int x1), (2, .int x2)]) (pc := 34) E.1 E.2.1 dX0_moveAll_34 hl (k := 4) rfl rfl (by decide) rfl (fun ls hl => ?_)
      refine lv_goto (tgt := 5) (pc := 37) E.1 E.2.1 dX0_moveAll_37 (by decide) ?_
      exact hk5 v5 x1 x2 (x3 + 1) (x4 + 1) z hw (lv_sub hl [2, 3, 4, 1, 0] rfl) hf
set_option maxHeartbeats 4000000 in
set_option maxRecDepth 100000 in
theorem wl_X0_moveAll_p5 {p : Program} {l : Launch} {e : Env} {sS : State} {m : MethodId} {args : Array Value} {below : List Frame} {meth : Method} {c : Code} {G : xG} {W0 : va_W} {ad : Nat → Nat}   (E : xE p sS m args c cX0_moveAll 5 RX0 G (x_in W0)) (hr : meth.sig.returnType = (some .int)) (hk : meth.locks = false)  : ∀ (s' : S0) (x1' : Int32) (x2' : Int32) (x3' : Int32) (x4' : Int32) (z : Int32 × S0) {H : Heap} {locs : List Loc} {ls : Array Slot}, xW G (x_in W0) sS.heap (cells0 G ad s') H locs → lv_has ls 5 [(0, .ref (ad 0)), (1, .int x1'), (2, .int x2'), (3, .int x3'), (4, .int x4')] → lp_X0_moveAll_p5  s' x1' x2' x3' x4' = some z → W p l e (rm_X0_moveAll) sS m args below meth c H locs 0 0 (MQ below (xQ G W0 (cells0 G ad z.2) (some (.int z.1))) args sS 0 0 (x_in W0)) (F0 m 5 ls []) := by
  intro s x1 x2 x3 x4 z H locs ls hw hl hf
  exact x_loop_W (P := fun (q : S0 × Int32 × Int32 × Int32 × Int32) (z : Int32 × S0) => ∀ {H : Heap} {locs : List Loc} {ls : Array Slot}, xW G (x_in W0) sS.heap (cells0 G ad q.1) H locs → lv_has ls 5 [(0, .ref (ad 0)), (1, .int q.2.1), (2, .int q.2.2.1), (3, .int q.2.2.2.1), (4, .int q.2.2.2.2)] → W p l e (rm_X0_moveAll) sS m args below meth c H locs 0 0 (MQ below (xQ G W0 (cells0 G ad z.2) (some (.int z.1))) args sS 0 0 (x_in W0)) (F0 m 5 ls [])) (fun k hkk q z hf H locs ls hw hl => w_X0_moveAll_p5 E hr hk  (fun s x1 x2 x3 x4 z H locs ls hw hl hf => hkk (s, x1, x2, x3, x4) z hf hw hl) q.1 q.2.1 q.2.2.1 q.2.2.2.1 q.2.2.2.2 z hw hl hf) FU (s, x1, x2, x3, x4) z hf hw hl
set_option maxHeartbeats 4000000 in
set_option maxRecDepth 100000 in
theorem w_X0_moveAll_p0 {p : Program} {l : Launch} {e : Env} {sS : State} {m : MethodId} {args : Array Value} {below : List Frame} {meth : Method} {c : Code} {G : xG} {W0 : va_W} {ad : Nat → Nat}   (E : xE p sS m args c cX0_moveAll 5 RX0 G (x_in W0)) (hr : meth.sig.returnType = (some .int)) (hk : meth.locks = false)  : ∀ (s' : S0) (x1' : Int32) (x2' : Int32) (z : Int32 × S0) {H : Heap} {locs : List Loc} {ls : Array Slot}, xW G (x_in W0) sS.heap (cells0 G ad s') H locs → lv_has ls 5 [(0, .ref (ad 0)), (1, .int x1'), (2, .int x2')] → f_X0_moveAll  s' x1' x2' = some z → W p l e (rm_X0_moveAll) sS m args below meth c H locs 0 0 (MQ below (xQ G W0 (cells0 G ad z.2) (some (.int z.1))) args sS 0 0 (x_in W0)) (F0 m 0 ls []) := by
  intro s x1 x2 z H locs ls hw hl hf
  unfold f_X0_moveAll at hf
  refine lv_iconst (v := 0) (pc := 0) E.1 E.2.1 dX0_moveAll_0 (by decide) ?_
  refine lv_istore_n (lv' := [(3, .int 0), (0, .ref (ad 0)), (1, .int x1), (2, .int x2)]) (pc := 1) E.1 E.2.1 dX0_moveAll_1 rfl hl (by decide) rfl (fun ls hl => ?_)
  refine lv_iconst (v := 0) (pc := 2) E.1 E.2.1 dX0_moveAll_2 (by decide) ?_
  refine lv_istore (lv' := [(4, .int 0), (3, .int 0), (0, .ref (ad 0)), (1, .int x1), (2, .int x2)]) (pc := 3) E.1 E.2.1 dX0_moveAll_3 hl (by decide) rfl (fun ls hl => ?_)
  exact wl_X0_moveAll_p5 E hr hk  s x1 x2 0 0 z hw (lv_sub hl [2, 3, 4, 1, 0] rfl) hf
set_option maxHeartbeats 4000000 in
set_option maxRecDepth 100000 in
theorem c_X0_moveAll (l : Launch) (G : xG) (ad : Nat → Nat) (s : S0) (x1 : Int32) (x2 : Int32) {z : Int32 × S0} (hf : f_X0_moveAll s x1 x2 = some z) : xC l yX0_moveAll cX0_moveAll 5 (some .int) (rm_X0_moveAll) G [.ref (ad 0), .int x1, .int x2] (cells0 G ad s) (some (.int z.1)) (cells0 G ad z.2) :=
  x_met (by decide) rfl (Nat.le_of_ble_eq_true rfl) (fun p e sS m below meth c E hr hk ls hl hw => w_X0_moveAll_p0 E hr hk s x1 x2 z hw hl hf)
set_option maxHeartbeats 4000000 in
set_option maxRecDepth 100000 in
theorem w_X0_exchange_p49 {p : Program} {l : Launch} {e : Env} {sS : State} {m : MethodId} {args : Array Value} {below : List Frame} {meth : Method} {c : Code} {G : xG} {W0 : va_W} {ad : Nat → Nat}  {k49 : S0 → Int32 → Int32 → Int32 → Option (S0)} (E : xE p sS m args c cX0_exchange 6 RX0 G (x_in W0)) (hr : meth.sig.returnType = none) (hk : meth.locks = false) (hk49 : ∀ (s' : S0) (x1' : Int32) (x2' : Int32) (x5' : Int32) (z : S0) {H : Heap} {locs : List Loc} {ls : Array Slot}, xW G (x_in W0) sS.heap (cells0 G ad s') H locs → lv_has ls 6 [(0, .ref (ad 0)), (1, .int x1'), (2, .int x2'), (5, .int x5')] → k49  s' x1' x2' x5' = some z → W p l e (rm_X0_exchange) sS m args below meth c H locs 0 0 (MQ below (xQ G W0 (cells0 G ad z) none) args sS 0 0 (x_in W0)) (F0 m 49 ls [])) : ∀ (s' : S0) (x1' : Int32) (x2' : Int32) (x5' : Int32) (z : S0) {H : Heap} {locs : List Loc} {ls : Array Slot}, xW G (x_in W0) sS.heap (cells0 G ad s') H locs → lv_has ls 6 [(0, .ref (ad 0)), (1, .int x1'), (2, .int x2'), (5, .int x5')] → f_X0_exchange_p49 k49 s' x1' x2' x5' = some z → W p l e (rm_X0_exchange) sS m args below meth c H locs 0 0 (MQ below (xQ G W0 (cells0 G ad z) none) args sS 0 0 (x_in W0)) (F0 m 49 ls []) := by
  intro s x1 x2 x5 z H locs ls hw hl hf
  unfold f_X0_exchange_p49 at hf
  refine lv_iload (pc := 49) E.1 E.2.1 dX0_exchange_49 (lv_at hl 3 rfl) ?_
  refine lv_aload_n (pc := 51) E.1 E.2.1 dX0_exchange_51 rfl (lv_at hl 0 rfl) ?_
  refine xg_X0_31 (pc := 52) (v := .int (g0_claims s)) E hw 0 rfl rfl dX0_exchange_52 ?_
  refine lv_icmp_ge (tgt := 101) (pc := 55) E.1 E.2.1 dX0_exchange_55 (by decide) (fun q1 => ?_) (fun q1 => ?_)
  · have hf := x_pos q1 hf
    obtain rfl := Option.some.inj hf
    exact x_retv (pc := 101) E hr hk hw dX0_exchange_101
  · have hf := x_neg q1 hf
    refine lv_aload_n (pc := 58) E.1 E.2.1 dX0_exchange_58 rfl (lv_at hl 0 rfl) ?_
    refine lv_iload (pc := 59) E.1 E.2.1 dX0_exchange_59 (lv_at hl 3 rfl) ?_
    obtain ⟨v2, g3, hf⟩ := x_bind hf
    refine x_callVA (pc := 61) (As := [.int x5]) (rest := []) (st1 := [.int v2]) (ws' := (cells0 G ad s)) E hw hl (c_X0_fleetOf l G ad s x5 g3) xv_X0_69 xd_X0_fleetOf rfl rfl ⟨Nat.le_of_ble_eq_true rfl, Nat.le_of_ble_eq_true rfl⟩ (q0 := 0) rfl rfl rfl rfl (Nat.le_of_ble_eq_true rfl) rfl dX0_exchange_61 (fun H locs hw => ?_)
    refine lv_iload_n (pc := 64) E.1 E.2.1 dX0_exchange_64 rfl (lv_at hl 1 rfl) ?_
    refine lv_icmp_ne (tgt := 78) (pc := 65) E.1 E.2.1 dX0_exchange_65 (by decide) (fun q4 => ?_) (fun q4 => ?_)
    · have hf := x_neg q4 hf
      refine lv_aload_n (pc := 78) E.1 E.2.1 dX0_exchange_78 rfl (lv_at hl 0 rfl) ?_
      refine lv_iload (pc := 79) E.1 E.2.1 dX0_exchange_79 (lv_at hl 3 rfl) ?_
      obtain ⟨v5, g6, hf⟩ := x_bind hf
      refine x_callVA (pc := 81) (As := [.int x5]) (rest := []) (st1 := [.int v5]) (ws' := (cells0 G ad s)) E hw hl (c_X0_fleetOf l G ad s x5 g6) xv_X0_69 xd_X0_fleetOf rfl rfl ⟨Nat.le_of_ble_eq_true rfl, Nat.le_of_ble_eq_true rfl⟩ (q0 := 0) rfl rfl rfl rfl (Nat.le_of_ble_eq_true rfl) rfl dX0_exchange_81 (fun H locs hw => ?_)
      refine lv_iload_n (pc := 84) E.1 E.2.1 dX0_exchange_84 rfl (lv_at hl 2 rfl) ?_
      refine lv_icmp_ne (tgt := 95) (pc := 85) E.1 E.2.1 dX0_exchange_85 (by decide) (fun q7 => ?_) (fun q7 => ?_)
      · have hf := x_neg q7 hf
        refine lv_iinc (v := (x5 + 1)) (lv' := [(5, .int (x5 + 1)), (0, .ref (ad 0)), (1, .int x1), (2, .int x2)]) (pc := 95) E.1 E.2.1 dX0_exchange_95 hl (k := 3) rfl rfl (by decide) rfl (fun ls hl => ?_)
        refine lv_goto (tgt := 49) (pc := 98) E.1 E.2.1 dX0_exchange_98 (by decide) ?_
        exact hk49 s x1 x2 (x5 + 1) z hw (lv_sub hl [1, 2, 3, 0] rfl) hf
      · have hf := x_pos q7 hf
        refine lv_aload_n (pc := 88) E.1 E.2.1 dX0_exchange_88 rfl (lv_at hl 0 rfl) ?_
        refine lv_iload (pc := 89) E.1 E.2.1 dX0_exchange_89 (lv_at hl 3 rfl) ?_
        refine lv_iload_n (pc := 91) E.1 E.2.1 dX0_exchange_91 rfl (lv_at hl 1 rfl) ?_
        obtain ⟨v8, g9, hf⟩ := x_bind hf
        refine x_callVA (pc := 92) (As := [.int x5, .int x1]) (rest := []) (st1 := []) (ws' := (cells0 G ad v8)) E hw hl (c_X0_putFleet l G ad s x5 x1 g9) xv_X0_72 xd_X0_putFleet rfl rfl ⟨Nat.le_of_ble_eq_true rfl, Nat.le_of_ble_eq_true rfl⟩ (q0 := 0) rfl rfl rfl rfl (Nat.le_of_ble_eq_true rfl) rfl dX0_exchange_92 (fun H locs hw => ?_)
        refine lv_iinc (v := (x5 + 1)) (lv' := [(5, .int (x5 + 1)), (0, .ref (ad 0)), (1, .int x1), (2, .int x2)]) (pc := 95) E.1 E.2.1 dX0_exchange_95 hl (k := 3) rfl rfl (by decide) rfl (fun ls hl => ?_)
        refine lv_goto (tgt := 49) (pc := 98) E.1 E.2.1 dX0_exchange_98 (by decide) ?_
        exact hk49 v8 x1 x2 (x5 + 1) z hw (lv_sub hl [1, 2, 3, 0] rfl) hf
    · have hf := x_pos q4 hf
      refine lv_aload_n (pc := 68) E.1 E.2.1 dX0_exchange_68 rfl (lv_at hl 0 rfl) ?_
      refine lv_iload (pc := 69) E.1 E.2.1 dX0_exchange_69 (lv_at hl 3 rfl) ?_
      refine lv_iload_n (pc := 71) E.1 E.2.1 dX0_exchange_71 rfl (lv_at hl 2 rfl) ?_
      obtain ⟨v10, g11, hf⟩ := x_bind hf
      refine x_callVA (pc := 72) (As := [.int x5, .int x2]) (rest := []) (st1 := []) (ws' := (cells0 G ad v10)) E hw hl (c_X0_putFleet l G ad s x5 x2 g11) xv_X0_72 xd_X0_putFleet rfl rfl ⟨Nat.le_of_ble_eq_true rfl, Nat.le_of_ble_eq_true rfl⟩ (q0 := 0) rfl rfl rfl rfl (Nat.le_of_ble_eq_true rfl) rfl dX0_exchange_72 (fun H locs hw => ?_)
      refine lv_goto (tgt := 95) (pc := 75) E.1 E.2.1 dX0_exchange_75 (by decide) ?_
      refine lv_iinc (v := (x5 + 1)) (lv' := [(5, .int (x5 + 1)), (0, .ref (ad 0)), (1, .int x1), (2, .int x2)]) (pc := 95) E.1 E.2.1 dX0_exchange_95 hl (k := 3) rfl rfl (by decide) rfl (fun ls hl => ?_)
      refine lv_goto (tgt := 49) (pc := 98) E.1 E.2.1 dX0_exchange_98 (by decide) ?_
      exact hk49 v10 x1 x2 (x5 + 1) z hw (lv_sub hl [1, 2, 3, 0] rfl) hf
set_option maxHeartbeats 4000000 in
set_option maxRecDepth 100000 in
theorem wl_X0_exchange_p49 {p : Program} {l : Launch} {e : Env} {sS : State} {m : MethodId} {args : Array Value} {below : List Frame} {meth : Method} {c : Code} {G : xG} {W0 : va_W} {ad : Nat → Nat}   (E : xE p sS m args c cX0_exchange 6 RX0 G (x_in W0)) (hr : meth.sig.returnType = none) (hk : meth.locks = false)  : ∀ (s' : S0) (x1' : Int32) (x2' : Int32) (x5' : Int32) (z : S0) {H : Heap} {locs : List Loc} {ls : Array Slot}, xW G (x_in W0) sS.heap (cells0 G ad s') H locs → lv_has ls 6 [(0, .ref (ad 0)), (1, .int x1'), (2, .int x2'), (5, .int x5')] → lp_X0_exchange_p49  s' x1' x2' x5' = some z → W p l e (rm_X0_exchange) sS m args below meth c H locs 0 0 (MQ below (xQ G W0 (cells0 G ad z) none) args sS 0 0 (x_in W0)) (F0 m 49 ls []) := by
  intro s x1 x2 x5 z H locs ls hw hl hf
  exact x_loop_W (P := fun (q : S0 × Int32 × Int32 × Int32) (z : S0) => ∀ {H : Heap} {locs : List Loc} {ls : Array Slot}, xW G (x_in W0) sS.heap (cells0 G ad q.1) H locs → lv_has ls 6 [(0, .ref (ad 0)), (1, .int q.2.1), (2, .int q.2.2.1), (5, .int q.2.2.2)] → W p l e (rm_X0_exchange) sS m args below meth c H locs 0 0 (MQ below (xQ G W0 (cells0 G ad z) none) args sS 0 0 (x_in W0)) (F0 m 49 ls [])) (fun k hkk q z hf H locs ls hw hl => w_X0_exchange_p49 E hr hk  (fun s x1 x2 x5 z H locs ls hw hl hf => hkk (s, x1, x2, x5) z hf hw hl) q.1 q.2.1 q.2.2.1 q.2.2.2 z hw hl hf) FU (s, x1, x2, x5) z hf hw hl
set_option maxHeartbeats 4000000 in
set_option maxRecDepth 100000 in
theorem w_X0_exchange_p0 {p : Program} {l : Launch} {e : Env} {sS : State} {m : MethodId} {args : Array Value} {below : List Frame} {meth : Method} {c : Code} {G : xG} {W0 : va_W} {ad : Nat → Nat}   (E : xE p sS m args c cX0_exchange 6 RX0 G (x_in W0)) (hr : meth.sig.returnType = none) (hk : meth.locks = false)  : ∀ (s' : S0) (x1' : Int32) (x2' : Int32) (z : S0) {H : Heap} {locs : List Loc} {ls : Array Slot}, xW G (x_in W0) sS.heap (cells0 G ad s') H locs → lv_has ls 6 [(0, .ref (ad 0)), (1, .int x1'), (2, .int x2')] → f_X0_exchange  s' x1' x2' = some z → W p l e (rm_X0_exchange) sS m args below meth c H locs 0 0 (MQ below (xQ G W0 (cells0 G ad z) none) args sS 0 0 (x_in W0)) (F0 m 0 ls []) := by
  intro s x1 x2 z H locs ls hw hl hf
  unfold f_X0_exchange at hf
  refine lv_aload_n (pc := 0) E.1 E.2.1 dX0_exchange_0 rfl (lv_at hl 0 rfl) ?_
  refine lv_iload_n (pc := 1) E.1 E.2.1 dX0_exchange_1 rfl (lv_at hl 1 rfl) ?_
  obtain ⟨v1, g2, hf⟩ := x_bind hf
  refine x_callVA (pc := 2) (As := [.int x1]) (rest := []) (st1 := [.int v1]) (ws' := (cells0 G ad s)) E hw hl (c_X0_classOf l G ad s x1 g2) xv_X0_62 xd_X0_classOf rfl rfl ⟨Nat.le_of_ble_eq_true rfl, Nat.le_of_ble_eq_true rfl⟩ (q0 := 0) rfl rfl rfl rfl (Nat.le_of_ble_eq_true rfl) rfl dX0_exchange_2 (fun H locs hw => ?_)
  refine lv_istore_n (lv' := [(3, .int v1), (0, .ref (ad 0)), (1, .int x1), (2, .int x2)]) (pc := 5) E.1 E.2.1 dX0_exchange_5 rfl hl (by decide) rfl (fun ls hl => ?_)
  refine lv_aload_n (pc := 6) E.1 E.2.1 dX0_exchange_6 rfl (lv_at hl 1 rfl) ?_
  refine lv_iload_n (pc := 7) E.1 E.2.1 dX0_exchange_7 rfl (lv_at hl 2 rfl) ?_
  obtain ⟨v3, g4, hf⟩ := x_bind hf
  refine x_callVA (pc := 8) (As := [.int x1]) (rest := []) (st1 := [.int v3]) (ws' := (cells0 G ad s)) E hw hl (c_X0_yearsOf l G ad s x1 g4) xv_X0_66 xd_X0_yearsOf rfl rfl ⟨Nat.le_of_ble_eq_true rfl, Nat.le_of_ble_eq_true rfl⟩ (q0 := 0) rfl rfl rfl rfl (Nat.le_of_ble_eq_true rfl) rfl dX0_exchange_8 (fun H locs hw => ?_)
  refine lv_istore (lv' := [(4, .int v3), (3, .int v1), (0, .ref (ad 0)), (1, .int x1), (2, .int x2)]) (pc := 11) E.1 E.2.1 dX0_exchange_11 hl (by decide) rfl (fun ls hl => ?_)
  refine lv_aload_n (pc := 13) E.1 E.2.1 dX0_exchange_13 rfl (lv_at hl 2 rfl) ?_
  refine lv_iload_n (pc := 14) E.1 E.2.1 dX0_exchange_14 rfl (lv_at hl 3 rfl) ?_
  refine lv_aload_n (pc := 15) E.1 E.2.1 dX0_exchange_15 rfl (lv_at hl 2 rfl) ?_
  refine lv_iload_n (pc := 16) E.1 E.2.1 dX0_exchange_16 rfl (lv_at hl 4 rfl) ?_
  obtain ⟨v5, g6, hf⟩ := x_bind hf
  refine x_callVA (pc := 17) (As := [.int x2]) (rest := [.int x1, .ref (ad 0)]) (st1 := [.int v5, .int x1, .ref (ad 0)]) (ws' := (cells0 G ad s)) E hw hl (c_X0_classOf l G ad s x2 g6) xv_X0_62 xd_X0_classOf rfl rfl ⟨Nat.le_of_ble_eq_true rfl, Nat.le_of_ble_eq_true rfl⟩ (q0 := 0) rfl rfl rfl rfl (Nat.le_of_ble_eq_true rfl) rfl dX0_exchange_17 (fun H locs hw => ?_)
  obtain ⟨v7, g8, hf⟩ := x_bind hf
  refine x_callVA (pc := 20) (As := [.int x1, .int v5]) (rest := []) (st1 := []) (ws' := (cells0 G ad v7)) E hw hl (c_X0_putClass l G ad s x1 v5 g8) xv_X0_47 xd_X0_putClass rfl rfl ⟨Nat.le_of_ble_eq_true rfl, Nat.le_of_ble_eq_true rfl⟩ (q0 := 0) rfl rfl rfl rfl (Nat.le_of_ble_eq_true rfl) rfl dX0_exchange_20 (fun H locs hw => ?_)
  refine lv_aload_n (pc := 23) E.1 E.2.1 dX0_exchange_23 rfl (lv_at hl 2 rfl) ?_
  refine lv_iload_n (pc := 24) E.1 E.2.1 dX0_exchange_24 rfl (lv_at hl 3 rfl) ?_
  refine lv_aload_n (pc := 25) E.1 E.2.1 dX0_exchange_25 rfl (lv_at hl 2 rfl) ?_
  refine lv_iload_n (pc := 26) E.1 E.2.1 dX0_exchange_26 rfl (lv_at hl 4 rfl) ?_
  obtain ⟨v9, g10, hf⟩ := x_bind hf
  refine x_callVA (pc := 27) (As := [.int x2]) (rest := [.int x1, .ref (ad 0)]) (st1 := [.int v9, .int x1, .ref (ad 0)]) (ws' := (cells0 G ad v7)) E hw hl (c_X0_yearsOf l G ad v7 x2 g10) xv_X0_66 xd_X0_yearsOf rfl rfl ⟨Nat.le_of_ble_eq_true rfl, Nat.le_of_ble_eq_true rfl⟩ (q0 := 0) rfl rfl rfl rfl (Nat.le_of_ble_eq_true rfl) rfl dX0_exchange_27 (fun H locs hw => ?_)
  obtain ⟨v11, g12, hf⟩ := x_bind hf
  refine x_callVA (pc := 30) (As := [.int x1, .int v9]) (rest := []) (st1 := []) (ws' := (cells0 G ad v11)) E hw hl (c_X0_putYears l G ad v7 x1 v9 g12) xv_X0_51 xd_X0_putYears rfl rfl ⟨Nat.le_of_ble_eq_true rfl, Nat.le_of_ble_eq_true rfl⟩ (q0 := 0) rfl rfl rfl rfl (Nat.le_of_ble_eq_true rfl) rfl dX0_exchange_30 (fun H locs hw => ?_)
  refine lv_aload_n (pc := 33) E.1 E.2.1 dX0_exchange_33 rfl (lv_at hl 2 rfl) ?_
  refine lv_iload_n (pc := 34) E.1 E.2.1 dX0_exchange_34 rfl (lv_at hl 4 rfl) ?_
  refine lv_iload_n (pc := 35) E.1 E.2.1 dX0_exchange_35 rfl (lv_at hl 1 rfl) ?_
  obtain ⟨v13, g14, hf⟩ := x_bind hf
  refine x_callVA (pc := 36) (As := [.int x2, .int v1]) (rest := []) (st1 := []) (ws' := (cells0 G ad v13)) E hw hl (c_X0_putClass l G ad v11 x2 v1 g14) xv_X0_47 xd_X0_putClass rfl rfl ⟨Nat.le_of_ble_eq_true rfl, Nat.le_of_ble_eq_true rfl⟩ (q0 := 0) rfl rfl rfl rfl (Nat.le_of_ble_eq_true rfl) rfl dX0_exchange_36 (fun H locs hw => ?_)
  refine lv_aload_n (pc := 39) E.1 E.2.1 dX0_exchange_39 rfl (lv_at hl 2 rfl) ?_
  refine lv_iload_n (pc := 40) E.1 E.2.1 dX0_exchange_40 rfl (lv_at hl 4 rfl) ?_
  refine lv_iload (pc := 41) E.1 E.2.1 dX0_exchange_41 (lv_at hl 0 rfl) ?_
  obtain ⟨v15, g16, hf⟩ := x_bind hf
  refine x_callVA (pc := 43) (As := [.int x2, .int v3]) (rest := []) (st1 := []) (ws' := (cells0 G ad v15)) E hw hl (c_X0_putYears l G ad v13 x2 v3 g16) xv_X0_51 xd_X0_putYears rfl rfl ⟨Nat.le_of_ble_eq_true rfl, Nat.le_of_ble_eq_true rfl⟩ (q0 := 0) rfl rfl rfl rfl (Nat.le_of_ble_eq_true rfl) rfl dX0_exchange_43 (fun H locs hw => ?_)
  refine lv_iconst (v := 0) (pc := 46) E.1 E.2.1 dX0_exchange_46 (by decide) ?_
  refine lv_istore (lv' := [(5, .int 0), (4, .int v3), (3, .int v1), (0, .ref (ad 0)), (1, .int x1), (2, .int x2)]) (pc := 47) E.1 E.2.1 dX0_exchange_47 hl (by decide) rfl (fun ls hl => ?_)
  exact wl_X0_exchange_p49 E hr hk  v15 x1 x2 0 z hw (lv_sub hl [3, 4, 5, 0] rfl) hf
set_option maxHeartbeats 4000000 in
set_option maxRecDepth 100000 in
theorem c_X0_exchange (l : Launch) (G : xG) (ad : Nat → Nat) (s : S0) (x1 : Int32) (x2 : Int32) {z : S0} (hf : f_X0_exchange s x1 x2 = some z) : xC l yX0_exchange cX0_exchange 6 none (rm_X0_exchange) G [.ref (ad 0), .int x1, .int x2] (cells0 G ad s) none (cells0 G ad z) :=
  x_met (by decide) rfl (Nat.le_of_ble_eq_true rfl) (fun p e sS m below meth c E hr hk ls hl hw => w_X0_exchange_p0 E hr hk s x1 x2 z hw hl hf)
set_option maxHeartbeats 4000000 in
set_option maxRecDepth 100000 in
theorem w_X0_scaleAmounts_p5 {p : Program} {l : Launch} {e : Env} {sS : State} {m : MethodId} {args : Array Value} {below : List Frame} {meth : Method} {c : Code} {G : xG} {W0 : va_W} {ad : Nat → Nat}  {k5 : S0 → Int32 → Int32 → Int32 → Int32 → Option (Int32 × S0)} (E : xE p sS m args c cX0_scaleAmounts 6 RX0 G (x_in W0)) (hr : meth.sig.returnType = (some .int)) (hk : meth.locks = false) (hk5 : ∀ (s' : S0) (x1' : Int32) (x2' : Int32) (x3' : Int32) (x4' : Int32) (z : Int32 × S0) {H : Heap} {locs : List Loc} {ls : Array Slot}, xW G (x_in W0) sS.heap (cells0 G ad s') H locs → lv_has ls 6 [(0, .ref (ad 0)), (1, .int x1'), (2, .int x2'), (3, .int x3'), (4, .int x4')] → k5  s' x1' x2' x3' x4' = some z → W p l e (rm_X0_scaleAmounts) sS m args below meth c H locs 0 0 (MQ below (xQ G W0 (cells0 G ad z.2) (some (.int z.1))) args sS 0 0 (x_in W0)) (F0 m 5 ls [])) : ∀ (s' : S0) (x1' : Int32) (x2' : Int32) (x3' : Int32) (x4' : Int32) (z : Int32 × S0) {H : Heap} {locs : List Loc} {ls : Array Slot}, xW G (x_in W0) sS.heap (cells0 G ad s') H locs → lv_has ls 6 [(0, .ref (ad 0)), (1, .int x1'), (2, .int x2'), (3, .int x3'), (4, .int x4')] → f_X0_scaleAmounts_p5 k5 s' x1' x2' x3' x4' = some z → W p l e (rm_X0_scaleAmounts) sS m args below meth c H locs 0 0 (MQ below (xQ G W0 (cells0 G ad z.2) (some (.int z.1))) args sS 0 0 (x_in W0)) (F0 m 5 ls []) := by
  intro s x1 x2 x3 x4 z H locs ls hw hl hf
  unfold f_X0_scaleAmounts_p5 at hf
  refine lv_iload (pc := 5) E.1 E.2.1 dX0_scaleAmounts_5 (lv_at hl 4 rfl) ?_
  refine lv_aload_n (pc := 7) E.1 E.2.1 dX0_scaleAmounts_7 rfl (lv_at hl 0 rfl) ?_
  refine xg_X0_31 (pc := 8) (v := .int (g0_claims s)) E hw 0 rfl rfl dX0_scaleAmounts_8 ?_
  refine lv_icmp_ge (tgt := 79) (pc := 11) E.1 E.2.1 dX0_scaleAmounts_11 (by decide) (fun q1 => ?_) (fun q1 => ?_)
  · have hf := x_pos q1 hf
    refine lv_iload_n (pc := 79) E.1 E.2.1 dX0_scaleAmounts_79 rfl (lv_at hl 3 rfl) ?_
    obtain rfl := Option.some.inj hf
    exact x_reti (pc := 80) E hr hk hw dX0_scaleAmounts_80
  · have hf := x_neg q1 hf
    refine lv_aload_n (pc := 14) E.1 E.2.1 dX0_scaleAmounts_14 rfl (lv_at hl 0 rfl) ?_
    refine lv_iload (pc := 15) E.1 E.2.1 dX0_scaleAmounts_15 (lv_at hl 4 rfl) ?_
    obtain ⟨v2, g3, hf⟩ := x_bind hf
    refine x_callVA (pc := 17) (As := [.int x4]) (rest := []) (st1 := [.int v2]) (ws' := (cells0 G ad s)) E hw hl (c_X0_fleetOf l G ad s x4 g3) xv_X0_69 xd_X0_fleetOf rfl rfl ⟨Nat.le_of_ble_eq_true rfl, Nat.le_of_ble_eq_true rfl⟩ (q0 := 0) rfl rfl rfl rfl (Nat.le_of_ble_eq_true rfl) rfl dX0_scaleAmounts_17 (fun H locs hw => ?_)
    refine lv_iload_n (pc := 20) E.1 E.2.1 dX0_scaleAmounts_20 rfl (lv_at hl 1 rfl) ?_
    refine lv_icmp_ne (tgt := 73) (pc := 21) E.1 E.2.1 dX0_scaleAmounts_21 (by decide) (fun q4 => ?_) (fun q4 => ?_)
    · have hf := x_neg q4 hf
      refine lv_iinc (v := (x4 + 1)) (lv' := [(4, .int (x4 + 1)), (0, .ref (ad 0)), (1, .int x1), (2, .int x2), (3, .int x3)]) (pc := 73) E.1 E.2.1 dX0_scaleAmounts_73 hl (k := 4) rfl rfl (by decide) rfl (fun ls hl => ?_)
      refine lv_goto (tgt := 5) (pc := 76) E.1 E.2.1 dX0_scaleAmounts_76 (by decide) ?_
      exact hk5 s x1 x2 x3 (x4 + 1) z hw (lv_sub hl [1, 2, 3, 4, 0] rfl) hf
    · have hf := x_pos q4 hf
      refine lv_aload_n (pc := 24) E.1 E.2.1 dX0_scaleAmounts_24 rfl (lv_at hl 0 rfl) ?_
      refine lv_iload (pc := 25) E.1 E.2.1 dX0_scaleAmounts_25 (lv_at hl 4 rfl) ?_
      obtain ⟨v5, g6, hf⟩ := x_bind hf
      refine x_callVA (pc := 27) (As := [.int x4]) (rest := []) (st1 := [.int v5]) (ws' := (cells0 G ad s)) E hw hl (c_X0_amountOf l G ad s x4 g6) xv_X0_104 xd_X0_amountOf rfl rfl ⟨Nat.le_of_ble_eq_true rfl, Nat.le_of_ble_eq_true rfl⟩ (q0 := 0) rfl rfl rfl rfl (Nat.le_of_ble_eq_true rfl) rfl dX0_scaleAmounts_27 (fun H locs hw => ?_)
      refine lv_istore (lv' := [(5, .int v5), (0, .ref (ad 0)), (1, .int x1), (2, .int x2), (3, .int x3), (4, .int x4)]) (pc := 30) E.1 E.2.1 dX0_scaleAmounts_30 hl (by decide) rfl (fun ls hl => ?_)
      refine lv_aload_n (pc := 32) E.1 E.2.1 dX0_scaleAmounts_32 rfl (lv_at hl 1 rfl) ?_
      refine lv_iload (pc := 33) E.1 E.2.1 dX0_scaleAmounts_33 (lv_at hl 5 rfl) ?_
      refine lv_iconst (v := 1) (pc := 35) E.1 E.2.1 dX0_scaleAmounts_35 (by decide) ?_
      refine lv_bipush (v := 99) (pc := 36) E.1 E.2.1 dX0_scaleAmounts_36 (by decide) ?_
      refine lv_iload (pc := 38) E.1 E.2.1 dX0_scaleAmounts_38 (lv_at hl 0 rfl) ?_
      refine lv_iload_n (pc := 40) E.1 E.2.1 dX0_scaleAmounts_40 rfl (lv_at hl 3 rfl) ?_
      refine lv_imul (pc := 41) E.1 E.2.1 dX0_scaleAmounts_41 ?_
      refine lv_bipush (v := 100) (pc := 42) E.1 E.2.1 dX0_scaleAmounts_42 (by decide) ?_
      refine lv_idiv (pc := 44) E.1 E.2.1 dX0_scaleAmounts_44 (by decide) ?_
      refine va_mmin (pc := 45) E.1 E.2.1 (E.2.2.1.trans hl.1.symm) E.2.2.2.1 (E.2.2.2.2.1 _ wq_717) (E.2.2.2.2.1 _ wq_491) (E.2.2.2.2.1 _ wq_108) (E.2.2.2.2.1 _ wq_492) (Nat.le_of_ble_eq_true rfl) (Nat.le_of_ble_eq_true rfl) (Nat.zero_le _) (Nat.zero_le _) dX0_scaleAmounts_45 ?_
      refine va_mmax (pc := 48) E.1 E.2.1 (E.2.2.1.trans hl.1.symm) E.2.2.2.1 (E.2.2.2.2.1 _ wq_718) (E.2.2.2.2.1 _ wq_719) (E.2.2.2.2.1 _ wq_108) (E.2.2.2.2.1 _ wq_720) (Nat.le_of_ble_eq_true rfl) (Nat.le_of_ble_eq_true rfl) (Nat.zero_le _) (Nat.zero_le _) dX0_scaleAmounts_48 ?_
      obtain ⟨v7, g8, hf⟩ := x_bind hf
      refine x_callVA (pc := 51) (As := [.int x4, .int (if 1 < (if ((v5 * x2) / 100) < 99 then ((v5 * x2) / 100) else 99) then (if ((v5 * x2) / 100) < 99 then ((v5 * x2) / 100) else 99) else 1)]) (rest := []) (st1 := []) (ws' := (cells0 G ad v7)) E hw hl (c_X0_putAmount l G ad s x4 (if 1 < (if ((v5 * x2) / 100) < 99 then ((v5 * x2) / 100) else 99) then (if ((v5 * x2) / 100) < 99 then ((v5 * x2) / 100) else 99) else 1) g8) xv_X0_114 xd_X0_putAmount rfl rfl ⟨Nat.le_of_ble_eq_true rfl, Nat.le_of_ble_eq_true rfl⟩ (q0 := 0) rfl rfl rfl rfl (Nat.le_of_ble_eq_true rfl) rfl dX0_scaleAmounts_51 (fun H locs hw => ?_)
      refine lv_iload_n (pc := 54) E.1 E.2.1 dX0_scaleAmounts_54 rfl (lv_at hl 4 rfl) ?_
      refine lv_aload_n (pc := 55) E.1 E.2.1 dX0_scaleAmounts_55 rfl (lv_at hl 1 rfl) ?_
      refine lv_iload (pc := 56) E.1 E.2.1 dX0_scaleAmounts_56 (lv_at hl 5 rfl) ?_
      obtain ⟨v9, g10, hf⟩ := x_bind hf
      refine x_callVA (pc := 58) (As := [.int x4]) (rest := [.int x3]) (st1 := [.int v9, .int x3]) (ws' := (cells0 G ad v7)) E hw hl (c_X0_amountOf l G ad v7 x4 g10) xv_X0_104 xd_X0_amountOf rfl rfl ⟨Nat.le_of_ble_eq_true rfl, Nat.le_of_ble_eq_true rfl⟩ (q0 := 0) rfl rfl rfl rfl (Nat.le_of_ble_eq_true rfl) rfl dX0_scaleAmounts_58 (fun H locs hw => ?_)
      refine lv_iload (pc := 61) E.1 E.2.1 dX0_scaleAmounts_61 (lv_at hl 0 rfl) ?_
      refine lv_icmp_ne (tgt := 70) (pc := 63) E.1 E.2.1 dX0_scaleAmounts_63 (by decide) (fun q11 => ?_) (fun q11 => ?_)
      · have hf := x_neg q11 hf
        refine lv_iconst (v := 1) (pc := 70) E.1 E.2.1 dX0_scaleAmounts_70 (by decide) ?_
        refine lv_iadd (pc := 71) E.1 E.2.1 dX0_scaleAmounts_71 ?_
        refine lv_istore_n (lv' := [(3, .int (x3 + (1 : Int32))), (5, .int v5), (0, .ref (ad 0)), (1, .int x1), (2, .int x2), (4, .int x4)]) (pc := 72) E.1 E.2.1 dX0_scaleAmounts_72 rfl hl (by decide) rfl (fun ls hl => ?_)
        refine lv_iinc (v := (x4 + 1)) (lv' := [(4, .int (x4 + 1)), (3, .int (x3 + (1 : Int32))), (5, .int v5), (0, .ref (ad 0)), (1, .int x1), (2, .int x2)]) (pc := 73) E.1 E.2.1 dX0_scaleAmounts_73 hl (k := 5) rfl rfl (by decide) rfl (fun ls hl => ?_)
        refine lv_goto (tgt := 5) (pc := 76) E.1 E.2.1 dX0_scaleAmounts_76 (by decide) ?_
        exact hk5 v7 x1 x2 (x3 + (1 : Int32)) (x4 + 1) z hw (lv_sub hl [3, 4, 5, 1, 0] rfl) hf
      · have hf := x_pos q11 hf
        refine lv_iconst (v := 0) (pc := 66) E.1 E.2.1 dX0_scaleAmounts_66 (by decide) ?_
        refine lv_goto (tgt := 71) (pc := 67) E.1 E.2.1 dX0_scaleAmounts_67 (by decide) ?_
        refine lv_iadd (pc := 71) E.1 E.2.1 dX0_scaleAmounts_71 ?_
        refine lv_istore_n (lv' := [(3, .int (x3 + (0 : Int32))), (5, .int v5), (0, .ref (ad 0)), (1, .int x1), (2, .int x2), (4, .int x4)]) (pc := 72) E.1 E.2.1 dX0_scaleAmounts_72 rfl hl (by decide) rfl (fun ls hl => ?_)
        refine lv_iinc (v := (x4 + 1)) (lv' := [(4, .int (x4 + 1)), (3, .int (x3 + (0 : Int32))), (5, .int v5), (0, .ref (ad 0)), (1, .int x1), (2, .int x2)]) (pc := 73) E.1 E.2.1 dX0_scaleAmounts_73 hl (k := 5) rfl rfl (by decide) rfl (fun ls hl => ?_)
        refine lv_goto (tgt := 5) (pc := 76) E.1 E.2.1 dX0_scaleAmounts_76 (by decide) ?_
        exact hk5 v7 x1 x2 (x3 + (0 : Int32)) (x4 + 1) z hw (lv_sub hl [3, 4, 5, 1, 0] rfl) hf
set_option maxHeartbeats 4000000 in
set_option maxRecDepth 100000 in
theorem wl_X0_scaleAmounts_p5 {p : Program} {l : Launch} {e : Env} {sS : State} {m : MethodId} {args : Array Value} {below : List Frame} {meth : Method} {c : Code} {G : xG} {W0 : va_W} {ad : Nat → Nat}   (E : xE p sS m args c cX0_scaleAmounts 6 RX0 G (x_in W0)) (hr : meth.sig.returnType = (some .int)) (hk : meth.locks = false)  : ∀ (s' : S0) (x1' : Int32) (x2' : Int32) (x3' : Int32) (x4' : Int32) (z : Int32 × S0) {H : Heap} {locs : List Loc} {ls : Array Slot}, xW G (x_in W0) sS.heap (cells0 G ad s') H locs → lv_has ls 6 [(0, .ref (ad 0)), (1, .int x1'), (2, .int x2'), (3, .int x3'), (4, .int x4')] → lp_X0_scaleAmounts_p5  s' x1' x2' x3' x4' = some z → W p l e (rm_X0_scaleAmounts) sS m args below meth c H locs 0 0 (MQ below (xQ G W0 (cells0 G ad z.2) (some (.int z.1))) args sS 0 0 (x_in W0)) (F0 m 5 ls []) := by
  intro s x1 x2 x3 x4 z H locs ls hw hl hf
  exact x_loop_W (P := fun (q : S0 × Int32 × Int32 × Int32 × Int32) (z : Int32 × S0) => ∀ {H : Heap} {locs : List Loc} {ls : Array Slot}, xW G (x_in W0) sS.heap (cells0 G ad q.1) H locs → lv_has ls 6 [(0, .ref (ad 0)), (1, .int q.2.1), (2, .int q.2.2.1), (3, .int q.2.2.2.1), (4, .int q.2.2.2.2)] → W p l e (rm_X0_scaleAmounts) sS m args below meth c H locs 0 0 (MQ below (xQ G W0 (cells0 G ad z.2) (some (.int z.1))) args sS 0 0 (x_in W0)) (F0 m 5 ls [])) (fun k hkk q z hf H locs ls hw hl => w_X0_scaleAmounts_p5 E hr hk  (fun s x1 x2 x3 x4 z H locs ls hw hl hf => hkk (s, x1, x2, x3, x4) z hf hw hl) q.1 q.2.1 q.2.2.1 q.2.2.2.1 q.2.2.2.2 z hw hl hf) FU (s, x1, x2, x3, x4) z hf hw hl
set_option maxHeartbeats 4000000 in
set_option maxRecDepth 100000 in
theorem w_X0_scaleAmounts_p0 {p : Program} {l : Launch} {e : Env} {sS : State} {m : MethodId} {args : Array Value} {below : List Frame} {meth : Method} {c : Code} {G : xG} {W0 : va_W} {ad : Nat → Nat}   (E : xE p sS m args c cX0_scaleAmounts 6 RX0 G (x_in W0)) (hr : meth.sig.returnType = (some .int)) (hk : meth.locks = false)  : ∀ (s' : S0) (x1' : Int32) (x2' : Int32) (z : Int32 × S0) {H : Heap} {locs : List Loc} {ls : Array Slot}, xW G (x_in W0) sS.heap (cells0 G ad s') H locs → lv_has ls 6 [(0, .ref (ad 0)), (1, .int x1'), (2, .int x2')] → f_X0_scaleAmounts  s' x1' x2' = some z → W p l e (rm_X0_scaleAmounts) sS m args below meth c H locs 0 0 (MQ below (xQ G W0 (cells0 G ad z.2) (some (.int z.1))) args sS 0 0 (x_in W0)) (F0 m 0 ls []) := by
  intro s x1 x2 z H locs ls hw hl hf
  unfold f_X0_scaleAmounts at hf
  refine lv_iconst (v := 0) (pc := 0) E.1 E.2.1 dX0_scaleAmounts_0 (by decide) ?_
  refine lv_istore_n (lv' := [(3, .int 0), (0, .ref (ad 0)), (1, .int x1), (2, .int x2)]) (pc := 1) E.1 E.2.1 dX0_scaleAmounts_1 rfl hl (by decide) rfl (fun ls hl => ?_)
  refine lv_iconst (v := 0) (pc := 2) E.1 E.2.1 dX0_scaleAmounts_2 (by decide) ?_
  refine lv_istore (lv' := [(4, .int 0), (3, .int 0), (0, .ref (ad 0)), (1, .int x1), (2, .int x2)]) (pc := 3) E.1 E.2.1 dX0_scaleAmounts_3 hl (by decide) rfl (fun ls hl => ?_)
  exact wl_X0_scaleAmounts_p5 E hr hk  s x1 x2 0 0 z hw (lv_sub hl [2, 3, 4, 1, 0] rfl) hf
set_option maxHeartbeats 4000000 in
set_option maxRecDepth 100000 in
theorem c_X0_scaleAmounts (l : Launch) (G : xG) (ad : Nat → Nat) (s : S0) (x1 : Int32) (x2 : Int32) {z : Int32 × S0} (hf : f_X0_scaleAmounts s x1 x2 = some z) : xC l yX0_scaleAmounts cX0_scaleAmounts 6 (some .int) (rm_X0_scaleAmounts) G [.ref (ad 0), .int x1, .int x2] (cells0 G ad s) (some (.int z.1)) (cells0 G ad z.2) :=
  x_met (by decide) rfl (Nat.le_of_ble_eq_true rfl) (fun p e sS m below meth c E hr hk ls hl hw => w_X0_scaleAmounts_p0 E hr hk s x1 x2 z hw hl hf)
set_option maxHeartbeats 4000000 in
set_option maxRecDepth 100000 in
theorem w_X0_handOver_p3 {p : Program} {l : Launch} {e : Env} {sS : State} {m : MethodId} {args : Array Value} {below : List Frame} {meth : Method} {c : Code} {G : xG} {W0 : va_W} {ad : Nat → Nat}  {k3 : S0 → Int32 → Int32 → Int32 → Int32 → Option (S0)} (E : xE p sS m args c cX0_handOver 5 RX0 G (x_in W0)) (hr : meth.sig.returnType = none) (hk : meth.locks = false) (hk3 : ∀ (s' : S0) (x1' : Int32) (x2' : Int32) (x3' : Int32) (x4' : Int32) (z : S0) {H : Heap} {locs : List Loc} {ls : Array Slot}, xW G (x_in W0) sS.heap (cells0 G ad s') H locs → lv_has ls 5 [(0, .ref (ad 0)), (1, .int x1'), (2, .int x2'), (3, .int x3'), (4, .int x4')] → k3  s' x1' x2' x3' x4' = some z → W p l e (rm_X0_handOver) sS m args below meth c H locs 0 0 (MQ below (xQ G W0 (cells0 G ad z) none) args sS 0 0 (x_in W0)) (F0 m 3 ls [])) : ∀ (s' : S0) (x1' : Int32) (x2' : Int32) (x3' : Int32) (x4' : Int32) (z : S0) {H : Heap} {locs : List Loc} {ls : Array Slot}, xW G (x_in W0) sS.heap (cells0 G ad s') H locs → lv_has ls 5 [(0, .ref (ad 0)), (1, .int x1'), (2, .int x2'), (3, .int x3'), (4, .int x4')] → f_X0_handOver_p3 k3 s' x1' x2' x3' x4' = some z → W p l e (rm_X0_handOver) sS m args below meth c H locs 0 0 (MQ below (xQ G W0 (cells0 G ad z) none) args sS 0 0 (x_in W0)) (F0 m 3 ls []) := by
  intro s x1 x2 x3 x4 z H locs ls hw hl hf
  unfold f_X0_handOver_p3 at hf
  refine lv_iload (pc := 3) E.1 E.2.1 dX0_handOver_3 (lv_at hl 4 rfl) ?_
  refine lv_aload_n (pc := 5) E.1 E.2.1 dX0_handOver_5 rfl (lv_at hl 0 rfl) ?_
  refine xg_X0_31 (pc := 6) (v := .int (g0_claims s)) E hw 0 rfl rfl dX0_handOver_6 ?_
  refine lv_icmp_ge (tgt := 36) (pc := 9) E.1 E.2.1 dX0_handOver_9 (by decide) (fun q1 => ?_) (fun q1 => ?_)
  · have hf := x_pos q1 hf
    obtain rfl := Option.some.inj hf
    exact x_retv (pc := 36) E hr hk hw dX0_handOver_36
  · have hf := x_neg q1 hf
    refine lv_aload_n (pc := 12) E.1 E.2.1 dX0_handOver_12 rfl (lv_at hl 0 rfl) ?_
    refine lv_iload (pc := 13) E.1 E.2.1 dX0_handOver_13 (lv_at hl 4 rfl) ?_
    refine lv_iload_n (pc := 15) E.1 E.2.1 dX0_handOver_15 rfl (lv_at hl 1 rfl) ?_
    refine lv_iload_n (pc := 16) E.1 E.2.1 dX0_handOver_16 rfl (lv_at hl 2 rfl) ?_
    obtain ⟨v2, g3, hf⟩ := x_bind hf
    refine x_callVA (pc := 17) (As := [.int x4, .int x1, .int x2]) (rest := []) (st1 := [.int v2]) (ws' := (cells0 G ad s)) E hw hl (c_X0_isOf l G ad s x4 x1 x2 g3) xv_X0_107 xd_X0_isOf rfl rfl ⟨Nat.le_of_ble_eq_true rfl, Nat.le_of_ble_eq_true rfl⟩ (q0 := 0) rfl rfl rfl rfl (Nat.le_of_ble_eq_true rfl) rfl dX0_handOver_17 (fun H locs hw => ?_)
    refine lv_if_eq (tgt := 30) (pc := 20) E.1 E.2.1 dX0_handOver_20 (by decide) (fun q4 => ?_) (fun q4 => ?_)
    · have hf := x_pos q4 hf
      refine lv_iinc (v := (x4 + 1)) (lv' := [(4, .int (x4 + 1)), (0, .ref (ad 0)), (1, .int x1), (2, .int x2), (3, .int x3)]) (pc := 30) E.1 E.2.1 dX0_handOver_30 hl (k := 4) rfl rfl (by decide) rfl (fun ls hl => ?_)
      refine lv_goto (tgt := 3) (pc := 33) E.1 E.2.1 dX0_handOver_33 (by decide) ?_
      exact hk3 s x1 x2 x3 (x4 + 1) z hw (lv_sub hl [1, 2, 3, 4, 0] rfl) hf
    · have hf := x_neg q4 hf
      refine lv_aload_n (pc := 23) E.1 E.2.1 dX0_handOver_23 rfl (lv_at hl 0 rfl) ?_
      refine lv_iload (pc := 24) E.1 E.2.1 dX0_handOver_24 (lv_at hl 4 rfl) ?_
      refine lv_iload_n (pc := 26) E.1 E.2.1 dX0_handOver_26 rfl (lv_at hl 3 rfl) ?_
      obtain ⟨v5, g6, hf⟩ := x_bind hf
      refine x_callVA (pc := 27) (As := [.int x4, .int x3]) (rest := []) (st1 := []) (ws' := (cells0 G ad v5)) E hw hl (c_X0_putFleet l G ad s x4 x3 g6) xv_X0_72 xd_X0_putFleet rfl rfl ⟨Nat.le_of_ble_eq_true rfl, Nat.le_of_ble_eq_true rfl⟩ (q0 := 0) rfl rfl rfl rfl (Nat.le_of_ble_eq_true rfl) rfl dX0_handOver_27 (fun H locs hw => ?_)
      refine lv_iinc (v := (x4 + 1)) (lv' := [(4, .int (x4 + 1)), (0, .ref (ad 0)), (1, .int x1), (2, .int x2), (3, .int x3)]) (pc := 30) E.1 E.2.1 dX0_handOver_30 hl (k := 4) rfl rfl (by decide) rfl (fun ls hl => ?_)
      refine lv_goto (tgt := 3) (pc := 33) E.1 E.2.1 dX0_handOver_33 (by decide) ?_
      exact hk3 v5 x1 x2 x3 (x4 + 1) z hw (lv_sub hl [1, 2, 3, 4, 0] rfl) hf
set_option maxHeartbeats 4000000 in
set_option maxRecDepth 100000 in
theorem wl_X0_handOver_p3 {p : Program} {l : Launch} {e : Env} {sS : State} {m : MethodId} {args : Array Value} {below : List Frame} {meth : Method} {c : Code} {G : xG} {W0 : va_W} {ad : Nat → Nat}   (E : xE p sS m args c cX0_handOver 5 RX0 G (x_in W0)) (hr : meth.sig.returnType = none) (hk : meth.locks = false)  : ∀ (s' : S0) (x1' : Int32) (x2' : Int32) (x3' : Int32) (x4' : Int32) (z : S0) {H : Heap} {locs : List Loc} {ls : Array Slot}, xW G (x_in W0) sS.heap (cells0 G ad s') H locs → lv_has ls 5 [(0, .ref (ad 0)), (1, .int x1'), (2, .int x2'), (3, .int x3'), (4, .int x4')] → lp_X0_handOver_p3  s' x1' x2' x3' x4' = some z → W p l e (rm_X0_handOver) sS m args below meth c H locs 0 0 (MQ below (xQ G W0 (cells0 G ad z) none) args sS 0 0 (x_in W0)) (F0 m 3 ls []) := by
  intro s x1 x2 x3 x4 z H locs ls hw hl hf
  exact x_loop_W (P := fun (q : S0 × Int32 × Int32 × Int32 × Int32) (z : S0) => ∀ {H : Heap} {locs : List Loc} {ls : Array Slot}, xW G (x_in W0) sS.heap (cells0 G ad q.1) H locs → lv_has ls 5 [(0, .ref (ad 0)), (1, .int q.2.1), (2, .int q.2.2.1), (3, .int q.2.2.2.1), (4, .int q.2.2.2.2)] → W p l e (rm_X0_handOver) sS m args below meth c H locs 0 0 (MQ below (xQ G W0 (cells0 G ad z) none) args sS 0 0 (x_in W0)) (F0 m 3 ls [])) (fun k hkk q z hf H locs ls hw hl => w_X0_handOver_p3 E hr hk  (fun s x1 x2 x3 x4 z H locs ls hw hl hf => hkk (s, x1, x2, x3, x4) z hf hw hl) q.1 q.2.1 q.2.2.1 q.2.2.2.1 q.2.2.2.2 z hw hl hf) FU (s, x1, x2, x3, x4) z hf hw hl
set_option maxHeartbeats 4000000 in
set_option maxRecDepth 100000 in
theorem w_X0_handOver_p0 {p : Program} {l : Launch} {e : Env} {sS : State} {m : MethodId} {args : Array Value} {below : List Frame} {meth : Method} {c : Code} {G : xG} {W0 : va_W} {ad : Nat → Nat}   (E : xE p sS m args c cX0_handOver 5 RX0 G (x_in W0)) (hr : meth.sig.returnType = none) (hk : meth.locks = false)  : ∀ (s' : S0) (x1' : Int32) (x2' : Int32) (x3' : Int32) (z : S0) {H : Heap} {locs : List Loc} {ls : Array Slot}, xW G (x_in W0) sS.heap (cells0 G ad s') H locs → lv_has ls 5 [(0, .ref (ad 0)), (1, .int x1'), (2, .int x2'), (3, .int x3')] → f_X0_handOver  s' x1' x2' x3' = some z → W p l e (rm_X0_handOver) sS m args below meth c H locs 0 0 (MQ below (xQ G W0 (cells0 G ad z) none) args sS 0 0 (x_in W0)) (F0 m 0 ls []) := by
  intro s x1 x2 x3 z H locs ls hw hl hf
  unfold f_X0_handOver at hf
  refine lv_iconst (v := 0) (pc := 0) E.1 E.2.1 dX0_handOver_0 (by decide) ?_
  refine lv_istore (lv' := [(4, .int 0), (0, .ref (ad 0)), (1, .int x1), (2, .int x2), (3, .int x3)]) (pc := 1) E.1 E.2.1 dX0_handOver_1 hl (by decide) rfl (fun ls hl => ?_)
  exact wl_X0_handOver_p3 E hr hk  s x1 x2 x3 0 z hw (lv_sub hl [1, 2, 3, 4, 0] rfl) hf
set_option maxHeartbeats 4000000 in
set_option maxRecDepth 100000 in
theorem c_X0_handOver (l : Launch) (G : xG) (ad : Nat → Nat) (s : S0) (x1 : Int32) (x2 : Int32) (x3 : Int32) {z : S0} (hf : f_X0_handOver s x1 x2 x3 = some z) : xC l yX0_handOver cX0_handOver 5 none (rm_X0_handOver) G [.ref (ad 0), .int x1, .int x2, .int x3] (cells0 G ad s) none (cells0 G ad z) :=
  x_met (by decide) rfl (Nat.le_of_ble_eq_true rfl) (fun p e sS m below meth c E hr hk ls hl hw => w_X0_handOver_p0 E hr hk s x1 x2 x3 z hw hl hf)
set_option maxHeartbeats 4000000 in
set_option maxRecDepth 100000 in
theorem w_X0_splitOff_p0 {p : Program} {l : Launch} {e : Env} {sS : State} {m : MethodId} {args : Array Value} {below : List Frame} {meth : Method} {c : Code} {G : xG} {W0 : va_W} {ad : Nat → Nat}   (E : xE p sS m args c cX0_splitOff 4 RX0 G (x_in W0)) (hr : meth.sig.returnType = (some .int)) (hk : meth.locks = false)  : ∀ (s' : S0) (x1' : Int32) (x2' : Int32) (z : Int32 × S0) {H : Heap} {locs : List Loc} {ls : Array Slot}, xW G (x_in W0) sS.heap (cells0 G ad s') H locs → lv_has ls 4 [(0, .ref (ad 0)), (1, .int x1'), (2, .int x2')] → f_X0_splitOff  s' x1' x2' = some z → W p l e (rm_X0_splitOff) sS m args below meth c H locs 0 0 (MQ below (xQ G W0 (cells0 G ad z.2) (some (.int z.1))) args sS 0 0 (x_in W0)) (F0 m 0 ls []) := by
  intro s x1 x2 z H locs ls hw hl hf
  unfold f_X0_splitOff at hf
  refine lv_aload_n (pc := 0) E.1 E.2.1 dX0_splitOff_0 rfl (lv_at hl 0 rfl) ?_
  refine lv_aload_n (pc := 1) E.1 E.2.1 dX0_splitOff_1 rfl (lv_at hl 0 rfl) ?_
  refine lv_iload_n (pc := 2) E.1 E.2.1 dX0_splitOff_2 rfl (lv_at hl 1 rfl) ?_
  obtain ⟨v1, g2, hf⟩ := x_bind hf
  refine x_callVA (pc := 3) (As := [.int x1]) (rest := [.ref (ad 0)]) (st1 := [.int v1, .ref (ad 0)]) (ws' := (cells0 G ad s)) E hw hl (c_X0_classOf l G ad s x1 g2) xv_X0_62 xd_X0_classOf rfl rfl ⟨Nat.le_of_ble_eq_true rfl, Nat.le_of_ble_eq_true rfl⟩ (q0 := 0) rfl rfl rfl rfl (Nat.le_of_ble_eq_true rfl) rfl dX0_splitOff_3 (fun H locs hw => ?_)
  refine lv_iload_n (pc := 6) E.1 E.2.1 dX0_splitOff_6 rfl (lv_at hl 2 rfl) ?_
  obtain ⟨v3, g4, hf⟩ := x_bind hf
  refine x_callVA (pc := 7) (As := [.int v1, .int x2]) (rest := []) (st1 := [.int v3.1]) (ws' := (cells0 G ad v3.2)) E hw hl (c_X0_addFleet l G ad s v1 x2 g4) xv_X0_78 xd_X0_addFleet rfl rfl ⟨Nat.le_of_ble_eq_true rfl, Nat.le_of_ble_eq_true rfl⟩ (q0 := 0) rfl rfl rfl rfl (Nat.le_of_ble_eq_true rfl) rfl dX0_splitOff_7 (fun H locs hw => ?_)
  refine lv_istore_n (lv' := [(3, .int v3.1), (0, .ref (ad 0)), (1, .int x1), (2, .int x2)]) (pc := 10) E.1 E.2.1 dX0_splitOff_10 rfl hl (by decide) rfl (fun ls hl => ?_)
  refine lv_iload_n (pc := 11) E.1 E.2.1 dX0_splitOff_11 rfl (lv_at hl 0 rfl) ?_
  refine lv_iconst (v := (-1)) (pc := 12) E.1 E.2.1 dX0_splitOff_12 (by decide) ?_
  refine lv_icmp_ne (tgt := 18) (pc := 13) E.1 E.2.1 dX0_splitOff_13 (by decide) (fun q5 => ?_) (fun q5 => ?_)
  · have hf := x_neg q5 hf
    refine lv_aload_n (pc := 18) E.1 E.2.1 dX0_splitOff_18 rfl (lv_at hl 1 rfl) ?_
    refine lv_iload_n (pc := 19) E.1 E.2.1 dX0_splitOff_19 rfl (lv_at hl 2 rfl) ?_
    refine lv_aload_n (pc := 20) E.1 E.2.1 dX0_splitOff_20 rfl (lv_at hl 1 rfl) ?_
    refine lv_iload_n (pc := 21) E.1 E.2.1 dX0_splitOff_21 rfl (lv_at hl 2 rfl) ?_
    obtain ⟨v6, g7, hf⟩ := x_bind hf
    refine x_callVA (pc := 22) (As := [.int x1]) (rest := [.int x1, .ref (ad 0)]) (st1 := [.int v6, .int x1, .ref (ad 0)]) (ws' := (cells0 G ad v3.2)) E hw hl (c_X0_yearsOf l G ad v3.2 x1 g7) xv_X0_66 xd_X0_yearsOf rfl rfl ⟨Nat.le_of_ble_eq_true rfl, Nat.le_of_ble_eq_true rfl⟩ (q0 := 0) rfl rfl rfl rfl (Nat.le_of_ble_eq_true rfl) rfl dX0_splitOff_22 (fun H locs hw => ?_)
    refine lv_iload_n (pc := 25) E.1 E.2.1 dX0_splitOff_25 rfl (lv_at hl 3 rfl) ?_
    refine lv_iconst (v := (-1)) (pc := 26) E.1 E.2.1 dX0_splitOff_26 (by decide) ?_
    refine lv_ixor (pc := 27) E.1 E.2.1 dX0_splitOff_27 ?_
    refine lv_iand (pc := 28) E.1 E.2.1 dX0_splitOff_28 ?_
    obtain ⟨v8, g9, hf⟩ := x_bind hf
    refine x_callVA (pc := 29) (As := [.int x1, .int (v6 &&& (x2 ^^^ (-1 : Int32)))]) (rest := []) (st1 := []) (ws' := (cells0 G ad v8)) E hw hl (c_X0_putYears l G ad v3.2 x1 (v6 &&& (x2 ^^^ (-1 : Int32))) g9) xv_X0_51 xd_X0_putYears rfl rfl ⟨Nat.le_of_ble_eq_true rfl, Nat.le_of_ble_eq_true rfl⟩ (q0 := 0) rfl rfl rfl rfl (Nat.le_of_ble_eq_true rfl) rfl dX0_splitOff_29 (fun H locs hw => ?_)
    refine lv_aload_n (pc := 32) E.1 E.2.1 dX0_splitOff_32 rfl (lv_at hl 1 rfl) ?_
    refine lv_iload_n (pc := 33) E.1 E.2.1 dX0_splitOff_33 rfl (lv_at hl 2 rfl) ?_
    refine lv_iload_n (pc := 34) E.1 E.2.1 dX0_splitOff_34 rfl (lv_at hl 3 rfl) ?_
    refine lv_iload_n (pc := 35) E.1 E.2.1 dX0_splitOff_35 rfl (lv_at hl 0 rfl) ?_
    obtain ⟨v10, g11, hf⟩ := x_bind hf
    refine x_callVA (pc := 36) (As := [.int x1, .int x2, .int v3.1]) (rest := []) (st1 := []) (ws' := (cells0 G ad v10)) E hw hl (c_X0_handOver l G ad v8 x1 x2 v3.1 g11) xv_X0_81 xd_X0_handOver rfl rfl ⟨Nat.le_of_ble_eq_true rfl, Nat.le_of_ble_eq_true rfl⟩ (q0 := 0) rfl rfl rfl rfl (Nat.le_of_ble_eq_true rfl) rfl dX0_splitOff_36 (fun H locs hw => ?_)
    refine lv_iload_n (pc := 39) E.1 E.2.1 dX0_splitOff_39 rfl (lv_at hl 0 rfl) ?_
    obtain rfl := Option.some.inj hf
    exact x_reti (pc := 40) E hr hk hw dX0_splitOff_40
  · have hf := x_pos q5 hf
    refine lv_iconst (v := (-1)) (pc := 16) E.1 E.2.1 dX0_splitOff_16 (by decide) ?_
    obtain rfl := Option.some.inj hf
    exact x_reti (pc := 17) E hr hk hw dX0_splitOff_17
set_option maxHeartbeats 4000000 in
set_option maxRecDepth 100000 in
theorem c_X0_splitOff (l : Launch) (G : xG) (ad : Nat → Nat) (s : S0) (x1 : Int32) (x2 : Int32) {z : Int32 × S0} (hf : f_X0_splitOff s x1 x2 = some z) : xC l yX0_splitOff cX0_splitOff 4 (some .int) (rm_X0_splitOff) G [.ref (ad 0), .int x1, .int x2] (cells0 G ad s) (some (.int z.1)) (cells0 G ad z.2) :=
  x_met (by decide) rfl (Nat.le_of_ble_eq_true rfl) (fun p e sS m below meth c E hr hk ls hl hw => w_X0_splitOff_p0 E hr hk s x1 x2 z hw hl hf)
set_option maxHeartbeats 4000000 in
set_option maxRecDepth 100000 in
theorem w_X0_mergeInto_p0 {p : Program} {l : Launch} {e : Env} {sS : State} {m : MethodId} {args : Array Value} {below : List Frame} {meth : Method} {c : Code} {G : xG} {W0 : va_W} {ad : Nat → Nat}   (E : xE p sS m args c cX0_mergeInto 3 RX0 G (x_in W0)) (hr : meth.sig.returnType = (some .int)) (hk : meth.locks = false)  : ∀ (s' : S0) (x1' : Int32) (x2' : Int32) (z : Int32 × S0) {H : Heap} {locs : List Loc} {ls : Array Slot}, xW G (x_in W0) sS.heap (cells0 G ad s') H locs → lv_has ls 3 [(0, .ref (ad 0)), (1, .int x1'), (2, .int x2')] → f_X0_mergeInto  s' x1' x2' = some z → W p l e (rm_X0_mergeInto) sS m args below meth c H locs 0 0 (MQ below (xQ G W0 (cells0 G ad z.2) (some (.int z.1))) args sS 0 0 (x_in W0)) (F0 m 0 ls []) := by
  intro s x1 x2 z H locs ls hw hl hf
  unfold f_X0_mergeInto at hf
  refine lv_aload_n (pc := 0) E.1 E.2.1 dX0_mergeInto_0 rfl (lv_at hl 0 rfl) ?_
  refine lv_iload_n (pc := 1) E.1 E.2.1 dX0_mergeInto_1 rfl (lv_at hl 2 rfl) ?_
  refine lv_aload_n (pc := 2) E.1 E.2.1 dX0_mergeInto_2 rfl (lv_at hl 0 rfl) ?_
  refine lv_iload_n (pc := 3) E.1 E.2.1 dX0_mergeInto_3 rfl (lv_at hl 2 rfl) ?_
  obtain ⟨v1, g2, hf⟩ := x_bind hf
  refine x_callVA (pc := 4) (As := [.int x2]) (rest := [.int x2, .ref (ad 0)]) (st1 := [.int v1, .int x2, .ref (ad 0)]) (ws' := (cells0 G ad s)) E hw hl (c_X0_yearsOf l G ad s x2 g2) xv_X0_66 xd_X0_yearsOf rfl rfl ⟨Nat.le_of_ble_eq_true rfl, Nat.le_of_ble_eq_true rfl⟩ (q0 := 0) rfl rfl rfl rfl (Nat.le_of_ble_eq_true rfl) rfl dX0_mergeInto_4 (fun H locs hw => ?_)
  refine lv_aload_n (pc := 7) E.1 E.2.1 dX0_mergeInto_7 rfl (lv_at hl 0 rfl) ?_
  refine lv_iload_n (pc := 8) E.1 E.2.1 dX0_mergeInto_8 rfl (lv_at hl 1 rfl) ?_
  obtain ⟨v3, g4, hf⟩ := x_bind hf
  refine x_callVA (pc := 9) (As := [.int x1]) (rest := [.int v1, .int x2, .ref (ad 0)]) (st1 := [.int v3, .int v1, .int x2, .ref (ad 0)]) (ws' := (cells0 G ad s)) E hw hl (c_X0_yearsOf l G ad s x1 g4) xv_X0_66 xd_X0_yearsOf rfl rfl ⟨Nat.le_of_ble_eq_true rfl, Nat.le_of_ble_eq_true rfl⟩ (q0 := 0) rfl rfl rfl rfl (Nat.le_of_ble_eq_true rfl) rfl dX0_mergeInto_9 (fun H locs hw => ?_)
  refine lv_ior (pc := 12) E.1 E.2.1 dX0_mergeInto_12 ?_
  obtain ⟨v5, g6, hf⟩ := x_bind hf
  refine x_callVA (pc := 13) (As := [.int x2, .int (v1 ||| v3)]) (rest := []) (st1 := []) (ws' := (cells0 G ad v5)) E hw hl (c_X0_putYears l G ad s x2 (v1 ||| v3) g6) xv_X0_51 xd_X0_putYears rfl rfl ⟨Nat.le_of_ble_eq_true rfl, Nat.le_of_ble_eq_true rfl⟩ (q0 := 0) rfl rfl rfl rfl (Nat.le_of_ble_eq_true rfl) rfl dX0_mergeInto_13 (fun H locs hw => ?_)
  refine lv_aload_n (pc := 16) E.1 E.2.1 dX0_mergeInto_16 rfl (lv_at hl 0 rfl) ?_
  refine lv_iload_n (pc := 17) E.1 E.2.1 dX0_mergeInto_17 rfl (lv_at hl 1 rfl) ?_
  refine lv_bipush (v := 31) (pc := 18) E.1 E.2.1 dX0_mergeInto_18 (by decide) ?_
  refine lv_iload_n (pc := 20) E.1 E.2.1 dX0_mergeInto_20 rfl (lv_at hl 2 rfl) ?_
  obtain ⟨v7, g8, hf⟩ := x_bind hf
  refine x_callVA (pc := 21) (As := [.int x1, .int 31, .int x2]) (rest := []) (st1 := []) (ws' := (cells0 G ad v7)) E hw hl (c_X0_handOver l G ad v5 x1 31 x2 g8) xv_X0_81 xd_X0_handOver rfl rfl ⟨Nat.le_of_ble_eq_true rfl, Nat.le_of_ble_eq_true rfl⟩ (q0 := 0) rfl rfl rfl rfl (Nat.le_of_ble_eq_true rfl) rfl dX0_mergeInto_21 (fun H locs hw => ?_)
  refine lv_aload_n (pc := 24) E.1 E.2.1 dX0_mergeInto_24 rfl (lv_at hl 0 rfl) ?_
  refine lv_iload_n (pc := 25) E.1 E.2.1 dX0_mergeInto_25 rfl (lv_at hl 1 rfl) ?_
  obtain ⟨v9, g10, hf⟩ := x_bind hf
  refine x_callVA (pc := 26) (As := [.int x1]) (rest := []) (st1 := []) (ws' := (cells0 G ad v9)) E hw hl (c_X0_closeGapAt l G ad v7 x1 g10) xv_X0_58 xd_X0_closeGapAt rfl rfl ⟨Nat.le_of_ble_eq_true rfl, Nat.le_of_ble_eq_true rfl⟩ (q0 := 0) rfl rfl rfl rfl (Nat.le_of_ble_eq_true rfl) rfl dX0_mergeInto_26 (fun H locs hw => ?_)
  refine lv_iload_n (pc := 29) E.1 E.2.1 dX0_mergeInto_29 rfl (lv_at hl 2 rfl) ?_
  refine lv_iload_n (pc := 30) E.1 E.2.1 dX0_mergeInto_30 rfl (lv_at hl 1 rfl) ?_
  refine lv_icmp_le (tgt := 40) (pc := 31) E.1 E.2.1 dX0_mergeInto_31 (by decide) (fun q11 => ?_) (fun q11 => ?_)
  · have hf := x_pos q11 hf
    refine lv_iload_n (pc := 40) E.1 E.2.1 dX0_mergeInto_40 rfl (lv_at hl 2 rfl) ?_
    obtain rfl := Option.some.inj hf
    exact x_reti (pc := 41) E hr hk hw dX0_mergeInto_41
  · have hf := x_neg q11 hf
    refine lv_iload_n (pc := 34) E.1 E.2.1 dX0_mergeInto_34 rfl (lv_at hl 2 rfl) ?_
    refine lv_iconst (v := 1) (pc := 35) E.1 E.2.1 dX0_mergeInto_35 (by decide) ?_
    refine lv_isub (pc := 36) E.1 E.2.1 dX0_mergeInto_36 ?_
    refine lv_goto (tgt := 41) (pc := 37) E.1 E.2.1 dX0_mergeInto_37 (by decide) ?_
    obtain rfl := Option.some.inj hf
    exact x_reti (pc := 41) E hr hk hw dX0_mergeInto_41
set_option maxHeartbeats 4000000 in
set_option maxRecDepth 100000 in
theorem c_X0_mergeInto (l : Launch) (G : xG) (ad : Nat → Nat) (s : S0) (x1 : Int32) (x2 : Int32) {z : Int32 × S0} (hf : f_X0_mergeInto s x1 x2 = some z) : xC l yX0_mergeInto cX0_mergeInto 3 (some .int) (rm_X0_mergeInto) G [.ref (ad 0), .int x1, .int x2] (cells0 G ad s) (some (.int z.1)) (cells0 G ad z.2) :=
  x_met (by decide) rfl (Nat.le_of_ble_eq_true rfl) (fun p e sS m below meth c E hr hk ls hl hw => w_X0_mergeInto_p0 E hr hk s x1 x2 z hw hl hf)
set_option maxHeartbeats 4000000 in
set_option maxRecDepth 100000 in
theorem w_X2_size_p0 {p : Program} {l : Launch} {e : Env} {sS : State} {m : MethodId} {args : Array Value} {below : List Frame} {meth : Method} {c : Code} {G : xG} {W0 : va_W} {ad : Nat → Nat}   (E : xE p sS m args c cX2_size 1 RX2 G (x_in W0)) (hr : meth.sig.returnType = (some .int)) (hk : meth.locks = false)  : ∀ (s' : S2) (z : Int32) {H : Heap} {locs : List Loc} {ls : Array Slot}, xW G (x_in W0) sS.heap (cells2 G ad s') H locs → lv_has ls 1 [(0, .ref (ad 0))] → f_X2_size  s' = some z → W p l e (rm_X2_size) sS m args below meth c H locs 0 0 (MQ below (xQ G W0 (cells2 G ad s') (some (.int z))) args sS 0 0 (x_in W0)) (F0 m 0 ls []) := by
  intro s z H locs ls hw hl hf
  unfold f_X2_size at hf
  refine lv_aload_n (pc := 0) E.1 E.2.1 dX2_size_0 rfl (lv_at hl 0 rfl) ?_
  refine xg_X2_17 (pc := 1) (v := .int (g2_kept s)) E hw 0 rfl rfl dX2_size_1 ?_
  obtain rfl := Option.some.inj hf
  exact x_reti (pc := 4) E hr hk hw dX2_size_4
set_option maxHeartbeats 4000000 in
set_option maxRecDepth 100000 in
theorem c_X2_size (l : Launch) (G : xG) (ad : Nat → Nat) (s : S2) {z : Int32} (hf : f_X2_size s = some z) : xC l yX2_size cX2_size 1 (some .int) (rm_X2_size) G [.ref (ad 0)] (cells2 G ad s) (some (.int z)) (cells2 G ad s) :=
  x_met (by decide) rfl (Nat.le_of_ble_eq_true rfl) (fun p e sS m below meth c E hr hk ls hl hw => w_X2_size_p0 E hr hk s z hw hl hf)
set_option maxHeartbeats 4000000 in
set_option maxRecDepth 100000 in
theorem w_X0_loadFrom_p0 {p : Program} {l : Launch} {e : Env} {sS : State} {m : MethodId} {args : Array Value} {below : List Frame} {meth : Method} {c : Code} {G : xG} {W0 : va_W} {ad : Nat → Nat} {ae : Nat → Nat}   (E : xE p sS m args c cX0_loadFrom 3 RX0 G (x_in W0)) (hr : meth.sig.returnType = none) (hk : meth.locks = false)  : ∀ (s' : S0) (q' : (Nat → Int32)) (x2' : Int32) (z : S0) {H : Heap} {locs : List Loc} {ls : Array Slot}, xW G (x_in W0) sS.heap (cells0 G ad s' ++ [((ae 0), .inl (G.2.1.1, 720, .inl q'))]) H locs → lv_has ls 3 [(0, .ref (ad 0)), (1, .ref (ae 0)), (2, .int x2')] → f_X0_loadFrom  s' q' x2' = some z → W p l e (rm_X0_loadFrom) sS m args below meth c H locs 0 0 (MQ below (xQ G W0 (cells0 G ad z ++ [((ae 0), .inl (G.2.1.1, 720, .inl q'))]) none) args sS 0 0 (x_in W0)) (F0 m 0 ls []) := by
  intro s q x2 z H locs ls hw hl hf
  unfold f_X0_loadFrom at hf
  refine lv_iload_n (pc := 0) E.1 E.2.1 dX0_loadFrom_0 rfl (lv_at hl 2 rfl) ?_
  refine lv_if_lt (tgt := 13) (pc := 1) E.1 E.2.1 dX0_loadFrom_1 (by decide) (fun q1 => ?_) (fun q1 => ?_)
  · have hf := x_pos q1 hf
    obtain rfl := Option.some.inj hf
    exact x_retv (pc := 13) E hr hk hw dX0_loadFrom_13
  · have hf := x_neg q1 hf
    refine lv_iload_n (pc := 4) E.1 E.2.1 dX0_loadFrom_4 rfl (lv_at hl 2 rfl) ?_
    refine lv_aload_n (pc := 5) E.1 E.2.1 dX0_loadFrom_5 rfl (lv_at hl 1 rfl) ?_
    refine x_alen (pc := 6) (v := 720) E hw 4 rfl rfl dX0_loadFrom_6 ?_
    refine lv_bipush (v := 60) (pc := 7) E.1 E.2.1 dX0_loadFrom_7 (by decide) ?_
    refine lv_isub (pc := 9) E.1 E.2.1 dX0_loadFrom_9 ?_
    refine lv_icmp_le (tgt := 14) (pc := 10) E.1 E.2.1 dX0_loadFrom_10 (by decide) (fun q2 => ?_) (fun q2 => ?_)
    · have hf := x_pos q2 hf
      refine lv_aload_n (pc := 14) E.1 E.2.1 dX0_loadFrom_14 rfl (lv_at hl 0 rfl) ?_
      refine lv_aload_n (pc := 15) E.1 E.2.1 dX0_loadFrom_15 rfl (lv_at hl 1 rfl) ?_
      refine lv_iload_n (pc := 16) E.1 E.2.1 dX0_loadFrom_16 rfl (lv_at hl 2 rfl) ?_
      obtain ⟨v4, g3, hf⟩ := x_bind hf
      refine x_iald (pc := 17) E hw 4 rfl g3 dX0_loadFrom_17 ?_
      refine xp_X0_28 (pc := 18) (v := .int v4) (ws' := (cells0c G ad v4 (g0_claims s) (g0_cap s) (g0_steady s) (g0_classes s) (g0_years s) (g0_slips s) ++ [((ae 0), .inl (G.2.1.1, 720, .inl q))])) E hw 0 rfl rfl rfl (Nat.le_of_ble_eq_true rfl) rfl dX0_loadFrom_18 (fun H locs hw => ?_)
      refine lv_aload_n (pc := 21) E.1 E.2.1 dX0_loadFrom_21 rfl (lv_at hl 0 rfl) ?_
      refine lv_aload_n (pc := 22) E.1 E.2.1 dX0_loadFrom_22 rfl (lv_at hl 1 rfl) ?_
      refine lv_iload_n (pc := 23) E.1 E.2.1 dX0_loadFrom_23 rfl (lv_at hl 2 rfl) ?_
      refine lv_iconst (v := 1) (pc := 24) E.1 E.2.1 dX0_loadFrom_24 (by decide) ?_
      refine lv_iadd (pc := 25) E.1 E.2.1 dX0_loadFrom_25 ?_
      obtain ⟨v6, g5, hf⟩ := x_bind hf
      refine x_iald (pc := 26) E hw 4 rfl g5 dX0_loadFrom_26 ?_
      refine xp_X0_31 (pc := 27) (v := .int v6) (ws' := (cells0c G ad v4 v6 (g0_cap s) (g0_steady s) (g0_classes s) (g0_years s) (g0_slips s) ++ [((ae 0), .inl (G.2.1.1, 720, .inl q))])) E hw 0 rfl rfl rfl (Nat.le_of_ble_eq_true rfl) rfl dX0_loadFrom_27 (fun H locs hw => ?_)
      refine lv_aload_n (pc := 30) E.1 E.2.1 dX0_loadFrom_30 rfl (lv_at hl 0 rfl) ?_
      refine lv_aload_n (pc := 31) E.1 E.2.1 dX0_loadFrom_31 rfl (lv_at hl 1 rfl) ?_
      refine lv_iload_n (pc := 32) E.1 E.2.1 dX0_loadFrom_32 rfl (lv_at hl 2 rfl) ?_
      refine lv_iconst (v := 2) (pc := 33) E.1 E.2.1 dX0_loadFrom_33 (by decide) ?_
      refine lv_iadd (pc := 34) E.1 E.2.1 dX0_loadFrom_34 ?_
      obtain ⟨v8, g7, hf⟩ := x_bind hf
      refine x_iald (pc := 35) E hw 4 rfl g7 dX0_loadFrom_35 ?_
      refine xp_X0_9 (pc := 36) (v := .int v8) (ws' := (cells0c G ad v4 v6 v8 (g0_steady s) (g0_classes s) (g0_years s) (g0_slips s) ++ [((ae 0), .inl (G.2.1.1, 720, .inl q))])) E hw 0 rfl rfl rfl (Nat.le_of_ble_eq_true rfl) rfl dX0_loadFrom_36 (fun H locs hw => ?_)
      refine lv_aload_n (pc := 39) E.1 E.2.1 dX0_loadFrom_39 rfl (lv_at hl 0 rfl) ?_
      refine lv_aload_n (pc := 40) E.1 E.2.1 dX0_loadFrom_40 rfl (lv_at hl 1 rfl) ?_
      refine lv_iload_n (pc := 41) E.1 E.2.1 dX0_loadFrom_41 rfl (lv_at hl 2 rfl) ?_
      refine lv_iconst (v := 3) (pc := 42) E.1 E.2.1 dX0_loadFrom_42 (by decide) ?_
      refine lv_iadd (pc := 43) E.1 E.2.1 dX0_loadFrom_43 ?_
      obtain ⟨v10, g9, hf⟩ := x_bind hf
      refine x_iald (pc := 44) E hw 4 rfl g9 dX0_loadFrom_44 ?_
      refine xp_X0_15 (pc := 45) (v := .int v10) (ws' := (cells0c G ad v4 v6 v8 v10 (g0_classes s) (g0_years s) (g0_slips s) ++ [((ae 0), .inl (G.2.1.1, 720, .inl q))])) E hw 0 rfl rfl rfl (Nat.le_of_ble_eq_true rfl) rfl dX0_loadFrom_45 (fun H locs hw => ?_)
      refine lv_aload_n (pc := 48) E.1 E.2.1 dX0_loadFrom_48 rfl (lv_at hl 1 rfl) ?_
      refine lv_iload_n (pc := 49) E.1 E.2.1 dX0_loadFrom_49 rfl (lv_at hl 2 rfl) ?_
      refine lv_iconst (v := 4) (pc := 50) E.1 E.2.1 dX0_loadFrom_50 (by decide) ?_
      refine lv_iadd (pc := 51) E.1 E.2.1 dX0_loadFrom_51 ?_
      refine lv_aload_n (pc := 52) E.1 E.2.1 dX0_loadFrom_52 rfl (lv_at hl 0 rfl) ?_
      refine xg_X0_18 (pc := 53) (v := .ref (ad 1)) E hw 0 rfl rfl dX0_loadFrom_53 ?_
      refine lv_iconst (v := 0) (pc := 56) E.1 E.2.1 dX0_loadFrom_56 (by decide) ?_
      refine lv_bipush (v := 8) (pc := 57) E.1 E.2.1 dX0_loadFrom_57 (by decide) ?_
      obtain ⟨w12, g11, hf⟩ := x_bind hf
      refine x_copy (pc := 59) (ws' := (cells0c G ad v4 v6 v8 v10 w12 (g0_years s) (g0_slips s) ++ [((ae 0), .inl (G.2.1.1, 720, .inl q))])) E hw hl wq_556 wq_558 wq_557 wq_109 4 1 rfl rfl g11 rfl (Nat.le_of_ble_eq_true rfl) (Nat.le_of_ble_eq_true rfl) dX0_loadFrom_59 (fun H locs hw => ?_)
      refine lv_aload_n (pc := 62) E.1 E.2.1 dX0_loadFrom_62 rfl (lv_at hl 1 rfl) ?_
      refine lv_iload_n (pc := 63) E.1 E.2.1 dX0_loadFrom_63 rfl (lv_at hl 2 rfl) ?_
      refine lv_iconst (v := 4) (pc := 64) E.1 E.2.1 dX0_loadFrom_64 (by decide) ?_
      refine lv_iadd (pc := 65) E.1 E.2.1 dX0_loadFrom_65 ?_
      refine lv_bipush (v := 8) (pc := 66) E.1 E.2.1 dX0_loadFrom_66 (by decide) ?_
      refine lv_iadd (pc := 68) E.1 E.2.1 dX0_loadFrom_68 ?_
      refine lv_aload_n (pc := 69) E.1 E.2.1 dX0_loadFrom_69 rfl (lv_at hl 0 rfl) ?_
      refine xg_X0_22 (pc := 70) (v := .ref (ad 2)) E hw 0 rfl rfl dX0_loadFrom_70 ?_
      refine lv_iconst (v := 0) (pc := 73) E.1 E.2.1 dX0_loadFrom_73 (by decide) ?_
      refine lv_bipush (v := 8) (pc := 74) E.1 E.2.1 dX0_loadFrom_74 (by decide) ?_
      obtain ⟨w14, g13, hf⟩ := x_bind hf
      refine x_copy (pc := 76) (ws' := (cells0c G ad v4 v6 v8 v10 w12 w14 (g0_slips s) ++ [((ae 0), .inl (G.2.1.1, 720, .inl q))])) E hw hl wq_556 wq_558 wq_557 wq_109 4 2 rfl rfl g13 rfl (Nat.le_of_ble_eq_true rfl) (Nat.le_of_ble_eq_true rfl) dX0_loadFrom_76 (fun H locs hw => ?_)
      refine lv_aload_n (pc := 79) E.1 E.2.1 dX0_loadFrom_79 rfl (lv_at hl 1 rfl) ?_
      refine lv_iload_n (pc := 80) E.1 E.2.1 dX0_loadFrom_80 rfl (lv_at hl 2 rfl) ?_
      refine lv_iconst (v := 4) (pc := 81) E.1 E.2.1 dX0_loadFrom_81 (by decide) ?_
      refine lv_iadd (pc := 82) E.1 E.2.1 dX0_loadFrom_82 ?_
      refine lv_bipush (v := 16) (pc := 83) E.1 E.2.1 dX0_loadFrom_83 (by decide) ?_
      refine lv_iadd (pc := 85) E.1 E.2.1 dX0_loadFrom_85 ?_
      refine lv_aload_n (pc := 86) E.1 E.2.1 dX0_loadFrom_86 rfl (lv_at hl 0 rfl) ?_
      refine xg_X0_25 (pc := 87) (v := .ref (ad 3)) E hw 0 rfl rfl dX0_loadFrom_87 ?_
      refine lv_iconst (v := 0) (pc := 90) E.1 E.2.1 dX0_loadFrom_90 (by decide) ?_
      refine lv_bipush (v := 40) (pc := 91) E.1 E.2.1 dX0_loadFrom_91 (by decide) ?_
      obtain ⟨w16, g15, hf⟩ := x_bind hf
      refine x_copy (pc := 93) (ws' := (cells0c G ad v4 v6 v8 v10 w12 w14 w16 ++ [((ae 0), .inl (G.2.1.1, 720, .inl q))])) E hw hl wq_556 wq_558 wq_557 wq_109 4 3 rfl rfl g15 rfl (Nat.le_of_ble_eq_true rfl) (Nat.le_of_ble_eq_true rfl) dX0_loadFrom_93 (fun H locs hw => ?_)
      obtain rfl := Option.some.inj hf
      exact x_retv (pc := 96) E hr hk hw dX0_loadFrom_96
    · have hf := x_neg q2 hf
      obtain rfl := Option.some.inj hf
      exact x_retv (pc := 13) E hr hk hw dX0_loadFrom_13
set_option maxHeartbeats 4000000 in
set_option maxRecDepth 100000 in
theorem c_X0_loadFrom (l : Launch) (G : xG) (ad : Nat → Nat) (ae : Nat → Nat) (s : S0) (q : (Nat → Int32)) (x2 : Int32) {z : S0} (hf : f_X0_loadFrom s q x2 = some z) : xC l yX0_loadFrom cX0_loadFrom 3 none (rm_X0_loadFrom) G [.ref (ad 0), .ref (ae 0), .int x2] (cells0 G ad s ++ [((ae 0), .inl (G.2.1.1, 720, .inl q))]) none (cells0 G ad z ++ [((ae 0), .inl (G.2.1.1, 720, .inl q))]) :=
  x_met (by decide) rfl (Nat.le_of_ble_eq_true rfl) (fun p e sS m below meth c E hr hk ls hl hw => w_X0_loadFrom_p0 E hr hk s q x2 z hw hl hf)
set_option maxHeartbeats 4000000 in
set_option maxRecDepth 100000 in
theorem w_X2_takeBack_p0 {p : Program} {l : Launch} {e : Env} {sS : State} {m : MethodId} {args : Array Value} {below : List Frame} {meth : Method} {c : Code} {G : xG} {W0 : va_W} {ad : Nat → Nat} {ae : Nat → Nat}   (E : xE p sS m args c cX2_takeBack 2 RX2 G (x_in W0)) (hr : meth.sig.returnType = none) (hk : meth.locks = false)  : ∀ (s' : S2) (q' : S0) (z : S2 × S0) {H : Heap} {locs : List Loc} {ls : Array Slot}, xW G (x_in W0) sS.heap (cells2 G ad s' ++ cells0 G ae q') H locs → lv_has ls 2 [(0, .ref (ad 0)), (1, .ref (ae 0))] → f_X2_takeBack  s' q' = some z → W p l e (rm_X2_takeBack) sS m args below meth c H locs 0 0 (MQ below (xQ G W0 (cells2 G ad z.1 ++ cells0 G ae z.2) none) args sS 0 0 (x_in W0)) (F0 m 0 ls []) := by
  intro s q z H locs ls hw hl hf
  unfold f_X2_takeBack at hf
  refine lv_aload_n (pc := 0) E.1 E.2.1 dX2_takeBack_0 rfl (lv_at hl 0 rfl) ?_
  refine xg_X2_17 (pc := 1) (v := .int (g2_kept s)) E hw 0 rfl rfl dX2_takeBack_1 ?_
  refine lv_if_le (tgt := 48) (pc := 4) E.1 E.2.1 dX2_takeBack_4 (by decide) (fun q1 => ?_) (fun q1 => ?_)
  · have hf := x_pos q1 hf
    obtain rfl := Option.some.inj hf
    exact x_retv (pc := 48) E hr hk hw dX2_takeBack_48
  · have hf := x_neg q1 hf
    refine lv_aload_n (pc := 7) E.1 E.2.1 dX2_takeBack_7 rfl (lv_at hl 0 rfl) ?_
    refine lv_aload_n (pc := 8) E.1 E.2.1 dX2_takeBack_8 rfl (lv_at hl 0 rfl) ?_
    refine xg_X2_21 (pc := 9) (v := .int (g2_next s)) E hw 0 rfl rfl dX2_takeBack_9 ?_
    refine lv_bipush (v := 12) (pc := 12) E.1 E.2.1 dX2_takeBack_12 (by decide) ?_
    refine lv_iadd (pc := 14) E.1 E.2.1 dX2_takeBack_14 ?_
    refine lv_iconst (v := 1) (pc := 15) E.1 E.2.1 dX2_takeBack_15 (by decide) ?_
    refine lv_isub (pc := 16) E.1 E.2.1 dX2_takeBack_16 ?_
    refine lv_bipush (v := 12) (pc := 17) E.1 E.2.1 dX2_takeBack_17 (by decide) ?_
    refine lv_irem (pc := 19) E.1 E.2.1 dX2_takeBack_19 (by decide) ?_
    refine xp_X2_21 (pc := 20) (v := .int ((((g2_next s) + (12 : Int32)) - (1 : Int32)) - (((g2_next s) + (12 : Int32)) - (1 : Int32)) / 12 * 12)) (ws' := (cells2c G ad (g2_rows s) (g2_kept s) ((((g2_next s) + (12 : Int32)) - (1 : Int32)) - (((g2_next s) + (12 : Int32)) - (1 : Int32)) / 12 * 12) ++ cells0 G ae q)) E hw 0 rfl rfl rfl (Nat.le_of_ble_eq_true rfl) rfl dX2_takeBack_20 (fun H locs hw => ?_)
    refine lv_aload_n (pc := 23) E.1 E.2.1 dX2_takeBack_23 rfl (lv_at hl 0 rfl) ?_
    refine lv_dup (pc := 24) E.1 E.2.1 dX2_takeBack_24 rfl ?_
    refine xg_X2_17 (pc := 25) (v := .int (g2_kept s)) E hw 0 rfl rfl dX2_takeBack_25 ?_
    refine lv_iconst (v := 1) (pc := 28) E.1 E.2.1 dX2_takeBack_28 (by decide) ?_
    refine lv_isub (pc := 29) E.1 E.2.1 dX2_takeBack_29 ?_
    refine xp_X2_17 (pc := 30) (v := .int ((g2_kept s) - (1 : Int32))) (ws' := (cells2c G ad (g2_rows s) ((g2_kept s) - (1 : Int32)) ((((g2_next s) + (12 : Int32)) - (1 : Int32)) - (((g2_next s) + (12 : Int32)) - (1 : Int32)) / 12 * 12) ++ cells0 G ae q)) E hw 0 rfl rfl rfl (Nat.le_of_ble_eq_true rfl) rfl dX2_takeBack_30 (fun H locs hw => ?_)
    refine lv_aload_n (pc := 33) E.1 E.2.1 dX2_takeBack_33 rfl (lv_at hl 1 rfl) ?_
    refine lv_aload_n (pc := 34) E.1 E.2.1 dX2_takeBack_34 rfl (lv_at hl 0 rfl) ?_
    refine xg_X2_11 (pc := 35) (v := .ref (ad 1)) E hw 0 rfl rfl dX2_takeBack_35 ?_
    refine lv_aload_n (pc := 38) E.1 E.2.1 dX2_takeBack_38 rfl (lv_at hl 0 rfl) ?_
    refine xg_X2_21 (pc := 39) (v := .int ((((g2_next s) + (12 : Int32)) - (1 : Int32)) - (((g2_next s) + (12 : Int32)) - (1 : Int32)) / 12 * 12)) E hw 0 rfl rfl dX2_takeBack_39 ?_
    refine lv_bipush (v := 60) (pc := 42) E.1 E.2.1 dX2_takeBack_42 (by decide) ?_
    refine lv_imul (pc := 44) E.1 E.2.1 dX2_takeBack_44 ?_
    obtain ⟨v2, g3, hf⟩ := x_bind hf
    refine x_callV (pc := 45) (As := [.ref (ad 1), .int (((((g2_next s) + (12 : Int32)) - (1 : Int32)) - (((g2_next s) + (12 : Int32)) - (1 : Int32)) / 12 * 12) * (60 : Int32))]) (rest := []) (st1 := []) (ws' := (cells2c G ad (g2_rows s) ((g2_kept s) - (1 : Int32)) ((((g2_next s) + (12 : Int32)) - (1 : Int32)) - (((g2_next s) + (12 : Int32)) - (1 : Int32)) / 12 * 12) ++ cells0 G ae v2)) E hw hl (c_X0_loadFrom l G ae (fun k => ad (k + 1)) q (g2_rows s) (((((g2_next s) + (12 : Int32)) - (1 : Int32)) - (((g2_next s) + (12 : Int32)) - (1 : Int32)) / 12 * 12) * (60 : Int32)) g3) xv_X2_34 xd_X0_loadFrom rfl rfl ⟨Nat.le_of_ble_eq_true rfl, Nat.le_of_ble_eq_true rfl⟩ [2, 3, 4, 5, 1] [0] (by decide) ⟨rfl, rfl, rfl, rfl, rfl, trivial⟩ (q0 := 2) rfl rfl rfl rfl (Nat.le_of_ble_eq_true rfl) (nw := 6) ⟨rfl, rfl, rfl, rfl, rfl, trivial⟩ ⟨⟨_, rfl, rfl⟩, trivial⟩ rfl rfl (by decide) (by decide) rfl dX2_takeBack_45 (fun H locs hw => ?_)
    obtain rfl := Option.some.inj hf
    exact x_retv (pc := 48) E hr hk hw dX2_takeBack_48
set_option maxHeartbeats 4000000 in
set_option maxRecDepth 100000 in
theorem c_X2_takeBack (l : Launch) (G : xG) (ad : Nat → Nat) (ae : Nat → Nat) (s : S2) (q : S0) {z : S2 × S0} (hf : f_X2_takeBack s q = some z) : xC l yX2_takeBack cX2_takeBack 2 none (rm_X2_takeBack) G [.ref (ad 0), .ref (ae 0)] (cells2 G ad s ++ cells0 G ae q) none (cells2 G ad z.1 ++ cells0 G ae z.2) :=
  x_met (by decide) rfl (Nat.le_of_ble_eq_true rfl) (fun p e sS m below meth c E hr hk ls hl hw => w_X2_takeBack_p0 E hr hk s q z hw hl hf)
set_option maxHeartbeats 4000000 in
set_option maxRecDepth 100000 in
theorem w_J7_fill_53178_p5 {p : Program} {l : Launch} {e : Env} {sS : State} {m : MethodId} {args : Array Value} {below : List Frame} {meth : Method} {c : Code} {G : xG} {W0 : va_W} {ad : Nat → Nat}  {k5 : (Nat → Int32) → Int32 → Int32 → Int32 → Option ((Nat → Int32))} (E : xE p sS m args c cJ7_fill_53178 4 RJ7 G (x_in W0)) (hr : meth.sig.returnType = none) (hk : meth.locks = false) (hk5 : ∀ (s' : (Nat → Int32)) (x1' : Int32) (x2' : Int32) (x3' : Int32) (z : (Nat → Int32)) {H : Heap} {locs : List Loc} {ls : Array Slot}, xW G (x_in W0) sS.heap ([((ad 0), .inl (G.2.1.1, 40, .inl s'))]) H locs → lv_has ls 4 [(0, .ref (ad 0)), (1, .int x1'), (2, .int x2'), (3, .int x3')] → k5  s' x1' x2' x3' = some z → W p l e (rm_J7_fill_53178) sS m args below meth c H locs 0 0 (MQ below (xQ G W0 ([((ad 0), .inl (G.2.1.1, 40, .inl z))]) none) args sS 0 0 (x_in W0)) (F0 m 5 ls [])) : ∀ (s' : (Nat → Int32)) (x1' : Int32) (x2' : Int32) (x3' : Int32) (z : (Nat → Int32)) {H : Heap} {locs : List Loc} {ls : Array Slot}, xW G (x_in W0) sS.heap ([((ad 0), .inl (G.2.1.1, 40, .inl s'))]) H locs → lv_has ls 4 [(0, .ref (ad 0)), (1, .int x1'), (2, .int x2'), (3, .int x3')] → f_J7_fill_53178_p5 k5 s' x1' x2' x3' = some z → W p l e (rm_J7_fill_53178) sS m args below meth c H locs 0 0 (MQ below (xQ G W0 ([((ad 0), .inl (G.2.1.1, 40, .inl z))]) none) args sS 0 0 (x_in W0)) (F0 m 5 ls []) := by
  intro s x1 x2 x3 z H locs ls hw hl hf
  unfold f_J7_fill_53178_p5 at hf
  refine lv_iload_n (pc := 5) E.1 E.2.1 dJ7_fill_53178_5 rfl (lv_at hl 2 rfl) ?_
  refine lv_iload_n (pc := 6) E.1 E.2.1 dJ7_fill_53178_6 rfl (lv_at hl 3 rfl) ?_
  refine lv_icmp_ge (tgt := 20) (pc := 7) E.1 E.2.1 dJ7_fill_53178_7 (by decide) (fun q1 => ?_) (fun q1 => ?_)
  · have hf := x_pos q1 hf
    obtain rfl := Option.some.inj hf
    exact x_retv (pc := 20) E hr hk hw dJ7_fill_53178_20
  · have hf := x_neg q1 hf
    refine lv_aload_n (pc := 10) E.1 E.2.1 dJ7_fill_53178_10 rfl (lv_at hl 0 rfl) ?_
    refine lv_iload_n (pc := 11) E.1 E.2.1 dJ7_fill_53178_11 rfl (lv_at hl 2 rfl) ?_
    refine lv_iload_n (pc := 12) E.1 E.2.1 dJ7_fill_53178_12 rfl (lv_at hl 1 rfl) ?_
    obtain ⟨w3, g2, hf⟩ := x_bind hf
    refine x_iast (pc := 13) (ws' := ([((ad 0), .inl (G.2.1.1, 40, .inl w3))])) E hw 0 rfl g2 rfl dJ7_fill_53178_13 (fun H locs hw => ?_)
    refine lv_iinc (v := (x2 + 1)) (lv' := [(2, .int (x2 + 1)), (0, .ref (ad 0)), (1, .int x1), (3, .int x3)]) (pc := 14) E.1 E.2.1 dJ7_fill_53178_14 hl (k := 2) rfl rfl (by decide) rfl (fun ls hl => ?_)
    refine lv_goto (tgt := 5) (pc := 17) E.1 E.2.1 dJ7_fill_53178_17 (by decide) ?_
    exact hk5 w3 x1 (x2 + 1) x3 z hw (lv_sub hl [1, 2, 0, 3] rfl) hf
set_option maxHeartbeats 4000000 in
set_option maxRecDepth 100000 in
theorem wl_J7_fill_53178_p5 {p : Program} {l : Launch} {e : Env} {sS : State} {m : MethodId} {args : Array Value} {below : List Frame} {meth : Method} {c : Code} {G : xG} {W0 : va_W} {ad : Nat → Nat}   (E : xE p sS m args c cJ7_fill_53178 4 RJ7 G (x_in W0)) (hr : meth.sig.returnType = none) (hk : meth.locks = false)  : ∀ (s' : (Nat → Int32)) (x1' : Int32) (x2' : Int32) (x3' : Int32) (z : (Nat → Int32)) {H : Heap} {locs : List Loc} {ls : Array Slot}, xW G (x_in W0) sS.heap ([((ad 0), .inl (G.2.1.1, 40, .inl s'))]) H locs → lv_has ls 4 [(0, .ref (ad 0)), (1, .int x1'), (2, .int x2'), (3, .int x3')] → lp_J7_fill_53178_p5  s' x1' x2' x3' = some z → W p l e (rm_J7_fill_53178) sS m args below meth c H locs 0 0 (MQ below (xQ G W0 ([((ad 0), .inl (G.2.1.1, 40, .inl z))]) none) args sS 0 0 (x_in W0)) (F0 m 5 ls []) := by
  intro s x1 x2 x3 z H locs ls hw hl hf
  exact x_loop_W (P := fun (q : (Nat → Int32) × Int32 × Int32 × Int32) (z : (Nat → Int32)) => ∀ {H : Heap} {locs : List Loc} {ls : Array Slot}, xW G (x_in W0) sS.heap ([((ad 0), .inl (G.2.1.1, 40, .inl q.1))]) H locs → lv_has ls 4 [(0, .ref (ad 0)), (1, .int q.2.1), (2, .int q.2.2.1), (3, .int q.2.2.2)] → W p l e (rm_J7_fill_53178) sS m args below meth c H locs 0 0 (MQ below (xQ G W0 ([((ad 0), .inl (G.2.1.1, 40, .inl z))]) none) args sS 0 0 (x_in W0)) (F0 m 5 ls [])) (fun k hkk q z hf H locs ls hw hl => w_J7_fill_53178_p5 E hr hk  (fun s x1 x2 x3 z H locs ls hw hl hf => hkk (s, x1, x2, x3) z hf hw hl) q.1 q.2.1 q.2.2.1 q.2.2.2 z hw hl hf) FU (s, x1, x2, x3) z hf hw hl
set_option maxHeartbeats 4000000 in
set_option maxRecDepth 100000 in
theorem w_J7_fill_53178_p0 {p : Program} {l : Launch} {e : Env} {sS : State} {m : MethodId} {args : Array Value} {below : List Frame} {meth : Method} {c : Code} {G : xG} {W0 : va_W} {ad : Nat → Nat}   (E : xE p sS m args c cJ7_fill_53178 4 RJ7 G (x_in W0)) (hr : meth.sig.returnType = none) (hk : meth.locks = false)  : ∀ (s' : (Nat → Int32)) (x1' : Int32) (z : (Nat → Int32)) {H : Heap} {locs : List Loc} {ls : Array Slot}, xW G (x_in W0) sS.heap ([((ad 0), .inl (G.2.1.1, 40, .inl s'))]) H locs → lv_has ls 4 [(0, .ref (ad 0)), (1, .int x1')] → f_J7_fill_53178  s' x1' = some z → W p l e (rm_J7_fill_53178) sS m args below meth c H locs 0 0 (MQ below (xQ G W0 ([((ad 0), .inl (G.2.1.1, 40, .inl z))]) none) args sS 0 0 (x_in W0)) (F0 m 0 ls []) := by
  intro s x1 z H locs ls hw hl hf
  unfold f_J7_fill_53178 at hf
  refine lv_iconst (v := 0) (pc := 0) E.1 E.2.1 dJ7_fill_53178_0 (by decide) ?_
  refine lv_istore_n (lv' := [(2, .int 0), (0, .ref (ad 0)), (1, .int x1)]) (pc := 1) E.1 E.2.1 dJ7_fill_53178_1 rfl hl (by decide) rfl (fun ls hl => ?_)
  refine lv_aload_n (pc := 2) E.1 E.2.1 dJ7_fill_53178_2 rfl (lv_at hl 1 rfl) ?_
  refine x_alen (pc := 3) (v := 40) E hw 0 rfl rfl dJ7_fill_53178_3 ?_
  refine lv_istore_n (lv' := [(3, .int 40), (2, .int 0), (0, .ref (ad 0)), (1, .int x1)]) (pc := 4) E.1 E.2.1 dJ7_fill_53178_4 rfl hl (by decide) rfl (fun ls hl => ?_)
  exact wl_J7_fill_53178_p5 E hr hk  s x1 0 40 z hw (lv_sub hl [2, 3, 1, 0] rfl) hf
set_option maxHeartbeats 4000000 in
set_option maxRecDepth 100000 in
theorem c_J7_fill_53178 (l : Launch) (G : xG) (ad : Nat → Nat) (s : (Nat → Int32)) (x1 : Int32) {z : (Nat → Int32)} (hf : f_J7_fill_53178 s x1 = some z) : xC l yJ7_fill_53178 cJ7_fill_53178 4 none (rm_J7_fill_53178) G [.ref (ad 0), .int x1] ([((ad 0), .inl (G.2.1.1, 40, .inl s))]) none ([((ad 0), .inl (G.2.1.1, 40, .inl z))]) :=
  x_met (by decide) rfl (Nat.le_of_ble_eq_true rfl) (fun p e sS m below meth c E hr hk ls hl hw => w_J7_fill_53178_p0 E hr hk s x1 z hw hl hf)
set_option maxHeartbeats 4000000 in
set_option maxRecDepth 100000 in
theorem w_X0_countedOf_p0 {p : Program} {l : Launch} {e : Env} {sS : State} {m : MethodId} {args : Array Value} {below : List Frame} {meth : Method} {c : Code} {G : xG} {W0 : va_W} {ad : Nat → Nat}   (E : xE p sS m args c cX0_countedOf 2 RX0 G (x_in W0)) (hr : meth.sig.returnType = (some .int)) (hk : meth.locks = false)  : ∀ (s' : S0) (x1' : Int32) (z : Int32) {H : Heap} {locs : List Loc} {ls : Array Slot}, xW G (x_in W0) sS.heap (cells0 G ad s') H locs → lv_has ls 2 [(0, .ref (ad 0)), (1, .int x1')] → f_X0_countedOf  s' x1' = some z → W p l e (rm_X0_countedOf) sS m args below meth c H locs 0 0 (MQ below (xQ G W0 (cells0 G ad s') (some (.int z))) args sS 0 0 (x_in W0)) (F0 m 0 ls []) := by
  intro s x1 z H locs ls hw hl hf
  unfold f_X0_countedOf at hf
  refine lv_aload_n (pc := 0) E.1 E.2.1 dX0_countedOf_0 rfl (lv_at hl 0 rfl) ?_
  refine lv_iload_n (pc := 1) E.1 E.2.1 dX0_countedOf_1 rfl (lv_at hl 1 rfl) ?_
  obtain ⟨v1, g2, hf⟩ := x_bind hf
  refine x_callVA (pc := 2) (As := [.int x1]) (rest := []) (st1 := [.int v1]) (ws' := (cells0 G ad s)) E hw hl (c_X0_hasClaim l G ad s x1 g2) xv_X0_89 xd_X0_hasClaim rfl rfl ⟨Nat.le_of_ble_eq_true rfl, Nat.le_of_ble_eq_true rfl⟩ (q0 := 0) rfl rfl rfl rfl (Nat.le_of_ble_eq_true rfl) rfl dX0_countedOf_2 (fun H locs hw => ?_)
  refine lv_if_eq (tgt := 27) (pc := 5) E.1 E.2.1 dX0_countedOf_5 (by decide) (fun q3 => ?_) (fun q3 => ?_)
  · have hf := x_pos q3 hf
    refine lv_iconst (v := 0) (pc := 27) E.1 E.2.1 dX0_countedOf_27 (by decide) ?_
    obtain rfl := Option.some.inj hf
    exact x_reti (pc := 28) E hr hk hw dX0_countedOf_28
  · have hf := x_neg q3 hf
    refine lv_aload_n (pc := 8) E.1 E.2.1 dX0_countedOf_8 rfl (lv_at hl 0 rfl) ?_
    refine xg_X0_25 (pc := 9) (v := .ref (ad 3)) E hw 0 rfl rfl dX0_countedOf_9 ?_
    refine lv_iload_n (pc := 12) E.1 E.2.1 dX0_countedOf_12 rfl (lv_at hl 1 rfl) ?_
    obtain ⟨v5, g4, hf⟩ := x_bind hf
    refine x_iald (pc := 13) E hw 3 rfl g4 dX0_countedOf_13 ?_
    refine lv_bipush (v := 127) (pc := 14) E.1 E.2.1 dX0_countedOf_14 (by decide) ?_
    refine lv_iand (pc := 16) E.1 E.2.1 dX0_countedOf_16 ?_
    refine lv_aload_n (pc := 17) E.1 E.2.1 dX0_countedOf_17 rfl (lv_at hl 0 rfl) ?_
    refine xg_X0_9 (pc := 18) (v := .int (g0_cap s)) E hw 0 rfl rfl dX0_countedOf_18 ?_
    refine va_mmin (pc := 21) E.1 E.2.1 (E.2.2.1.trans hl.1.symm) E.2.2.2.1 (E.2.2.2.2.1 _ wq_717) (E.2.2.2.2.1 _ wq_491) (E.2.2.2.2.1 _ wq_108) (E.2.2.2.2.1 _ wq_492) (Nat.le_of_ble_eq_true rfl) (Nat.le_of_ble_eq_true rfl) (Nat.zero_le _) (Nat.zero_le _) dX0_countedOf_21 ?_
    refine lv_goto (tgt := 28) (pc := 24) E.1 E.2.1 dX0_countedOf_24 (by decide) ?_
    obtain rfl := Option.some.inj hf
    exact x_reti (pc := 28) E hr hk hw dX0_countedOf_28
set_option maxHeartbeats 4000000 in
set_option maxRecDepth 100000 in
theorem c_X0_countedOf (l : Launch) (G : xG) (ad : Nat → Nat) (s : S0) (x1 : Int32) {z : Int32} (hf : f_X0_countedOf s x1 = some z) : xC l yX0_countedOf cX0_countedOf 2 (some .int) (rm_X0_countedOf) G [.ref (ad 0), .int x1] (cells0 G ad s) (some (.int z)) (cells0 G ad s) :=
  x_met (by decide) rfl (Nat.le_of_ble_eq_true rfl) (fun p e sS m below meth c E hr hk ls hl hw => w_X0_countedOf_p0 E hr hk s x1 z hw hl hf)
set_option maxHeartbeats 4000000 in
set_option maxRecDepth 100000 in
theorem w_X0_claimsWith_p4 {p : Program} {l : Launch} {e : Env} {sS : State} {m : MethodId} {args : Array Value} {below : List Frame} {meth : Method} {c : Code} {G : xG} {W0 : va_W} {ad : Nat → Nat}  {k4 : S0 → Int32 → Int32 → Int32 → Option (Int32)} (E : xE p sS m args c cX0_claimsWith 4 RX0 G (x_in W0)) (hr : meth.sig.returnType = (some .int)) (hk : meth.locks = false) (hk4 : ∀ (s' : S0) (x1' : Int32) (x2' : Int32) (x3' : Int32) (z : Int32) {H : Heap} {locs : List Loc} {ls : Array Slot}, xW G (x_in W0) sS.heap (cells0 G ad s') H locs → lv_has ls 4 [(0, .ref (ad 0)), (1, .int x1'), (2, .int x2'), (3, .int x3')] → k4  s' x1' x2' x3' = some z → W p l e (rm_X0_claimsWith) sS m args below meth c H locs 0 0 (MQ below (xQ G W0 (cells0 G ad s') (some (.int z))) args sS 0 0 (x_in W0)) (F0 m 4 ls [])) : ∀ (s' : S0) (x1' : Int32) (x2' : Int32) (x3' : Int32) (z : Int32) {H : Heap} {locs : List Loc} {ls : Array Slot}, xW G (x_in W0) sS.heap (cells0 G ad s') H locs → lv_has ls 4 [(0, .ref (ad 0)), (1, .int x1'), (2, .int x2'), (3, .int x3')] → f_X0_claimsWith_p4 k4 s' x1' x2' x3' = some z → W p l e (rm_X0_claimsWith) sS m args below meth c H locs 0 0 (MQ below (xQ G W0 (cells0 G ad s') (some (.int z))) args sS 0 0 (x_in W0)) (F0 m 4 ls []) := by
  intro s x1 x2 x3 z H locs ls hw hl hf
  unfold f_X0_claimsWith_p4 at hf
  refine lv_iload_n (pc := 4) E.1 E.2.1 dX0_claimsWith_4 rfl (lv_at hl 3 rfl) ?_
  refine lv_aload_n (pc := 5) E.1 E.2.1 dX0_claimsWith_5 rfl (lv_at hl 0 rfl) ?_
  refine xg_X0_31 (pc := 6) (v := .int (g0_claims s)) E hw 0 rfl rfl dX0_claimsWith_6 ?_
  refine lv_icmp_ge (tgt := 35) (pc := 9) E.1 E.2.1 dX0_claimsWith_9 (by decide) (fun q1 => ?_) (fun q1 => ?_)
  · have hf := x_pos q1 hf
    refine lv_iload_n (pc := 35) E.1 E.2.1 dX0_claimsWith_35 rfl (lv_at hl 2 rfl) ?_
    obtain rfl := Option.some.inj hf
    exact x_reti (pc := 36) E hr hk hw dX0_claimsWith_36
  · have hf := x_neg q1 hf
    refine lv_iload_n (pc := 12) E.1 E.2.1 dX0_claimsWith_12 rfl (lv_at hl 2 rfl) ?_
    refine lv_aload_n (pc := 13) E.1 E.2.1 dX0_claimsWith_13 rfl (lv_at hl 0 rfl) ?_
    refine lv_iload_n (pc := 14) E.1 E.2.1 dX0_claimsWith_14 rfl (lv_at hl 3 rfl) ?_
    obtain ⟨v2, g3, hf⟩ := x_bind hf
    refine x_callVA (pc := 15) (As := [.int x3]) (rest := [.int x2]) (st1 := [.int v2, .int x2]) (ws' := (cells0 G ad s)) E hw hl (c_X0_fleetOf l G ad s x3 g3) xv_X0_69 xd_X0_fleetOf rfl rfl ⟨Nat.le_of_ble_eq_true rfl, Nat.le_of_ble_eq_true rfl⟩ (q0 := 0) rfl rfl rfl rfl (Nat.le_of_ble_eq_true rfl) rfl dX0_claimsWith_15 (fun H locs hw => ?_)
    refine lv_iload_n (pc := 18) E.1 E.2.1 dX0_claimsWith_18 rfl (lv_at hl 1 rfl) ?_
    refine lv_icmp_ne (tgt := 26) (pc := 19) E.1 E.2.1 dX0_claimsWith_19 (by decide) (fun q4 => ?_) (fun q4 => ?_)
    · have hf := x_neg q4 hf
      refine lv_iconst (v := 0) (pc := 26) E.1 E.2.1 dX0_claimsWith_26 (by decide) ?_
      refine lv_iadd (pc := 27) E.1 E.2.1 dX0_claimsWith_27 ?_
      refine lv_istore_n (lv' := [(2, .int (x2 + (0 : Int32))), (0, .ref (ad 0)), (1, .int x1), (3, .int x3)]) (pc := 28) E.1 E.2.1 dX0_claimsWith_28 rfl hl (by decide) rfl (fun ls hl => ?_)
      refine lv_iinc (v := (x3 + 1)) (lv' := [(3, .int (x3 + 1)), (2, .int (x2 + (0 : Int32))), (0, .ref (ad 0)), (1, .int x1)]) (pc := 29) E.1 E.2.1 dX0_claimsWith_29 hl (k := 3) rfl rfl (by decide) rfl (fun ls hl => ?_)
      refine lv_goto (tgt := 4) (pc := 32) E.1 E.2.1 dX0_claimsWith_32 (by decide) ?_
      exact hk4 s x1 (x2 + (0 : Int32)) (x3 + 1) z hw (lv_sub hl [2, 3, 1, 0] rfl) hf
    · have hf := x_pos q4 hf
      refine lv_iconst (v := 1) (pc := 22) E.1 E.2.1 dX0_claimsWith_22 (by decide) ?_
      refine lv_goto (tgt := 27) (pc := 23) E.1 E.2.1 dX0_claimsWith_23 (by decide) ?_
      refine lv_iadd (pc := 27) E.1 E.2.1 dX0_claimsWith_27 ?_
      refine lv_istore_n (lv' := [(2, .int (x2 + (1 : Int32))), (0, .ref (ad 0)), (1, .int x1), (3, .int x3)]) (pc := 28) E.1 E.2.1 dX0_claimsWith_28 rfl hl (by decide) rfl (fun ls hl => ?_)
      refine lv_iinc (v := (x3 + 1)) (lv' := [(3, .int (x3 + 1)), (2, .int (x2 + (1 : Int32))), (0, .ref (ad 0)), (1, .int x1)]) (pc := 29) E.1 E.2.1 dX0_claimsWith_29 hl (k := 3) rfl rfl (by decide) rfl (fun ls hl => ?_)
      refine lv_goto (tgt := 4) (pc := 32) E.1 E.2.1 dX0_claimsWith_32 (by decide) ?_
      exact hk4 s x1 (x2 + (1 : Int32)) (x3 + 1) z hw (lv_sub hl [2, 3, 1, 0] rfl) hf
set_option maxHeartbeats 4000000 in
set_option maxRecDepth 100000 in
theorem wl_X0_claimsWith_p4 {p : Program} {l : Launch} {e : Env} {sS : State} {m : MethodId} {args : Array Value} {below : List Frame} {meth : Method} {c : Code} {G : xG} {W0 : va_W} {ad : Nat → Nat}   (E : xE p sS m args c cX0_claimsWith 4 RX0 G (x_in W0)) (hr : meth.sig.returnType = (some .int)) (hk : meth.locks = false)  : ∀ (s' : S0) (x1' : Int32) (x2' : Int32) (x3' : Int32) (z : Int32) {H : Heap} {locs : List Loc} {ls : Array Slot}, xW G (x_in W0) sS.heap (cells0 G ad s') H locs → lv_has ls 4 [(0, .ref (ad 0)), (1, .int x1'), (2, .int x2'), (3, .int x3')] → lp_X0_claimsWith_p4  s' x1' x2' x3' = some z → W p l e (rm_X0_claimsWith) sS m args below meth c H locs 0 0 (MQ below (xQ G W0 (cells0 G ad s') (some (.int z))) args sS 0 0 (x_in W0)) (F0 m 4 ls []) := by
  intro s x1 x2 x3 z H locs ls hw hl hf
  exact x_loop_W (P := fun (q : S0 × Int32 × Int32 × Int32) (z : Int32) => ∀ {H : Heap} {locs : List Loc} {ls : Array Slot}, xW G (x_in W0) sS.heap (cells0 G ad q.1) H locs → lv_has ls 4 [(0, .ref (ad 0)), (1, .int q.2.1), (2, .int q.2.2.1), (3, .int q.2.2.2)] → W p l e (rm_X0_claimsWith) sS m args below meth c H locs 0 0 (MQ below (xQ G W0 (cells0 G ad q.1) (some (.int z))) args sS 0 0 (x_in W0)) (F0 m 4 ls [])) (fun k hkk q z hf H locs ls hw hl => w_X0_claimsWith_p4 E hr hk  (fun s x1 x2 x3 z H locs ls hw hl hf => hkk (s, x1, x2, x3) z hf hw hl) q.1 q.2.1 q.2.2.1 q.2.2.2 z hw hl hf) FU (s, x1, x2, x3) z hf hw hl
set_option maxHeartbeats 4000000 in
set_option maxRecDepth 100000 in
theorem w_X0_claimsWith_p0 {p : Program} {l : Launch} {e : Env} {sS : State} {m : MethodId} {args : Array Value} {below : List Frame} {meth : Method} {c : Code} {G : xG} {W0 : va_W} {ad : Nat → Nat}   (E : xE p sS m args c cX0_claimsWith 4 RX0 G (x_in W0)) (hr : meth.sig.returnType = (some .int)) (hk : meth.locks = false)  : ∀ (s' : S0) (x1' : Int32) (z : Int32) {H : Heap} {locs : List Loc} {ls : Array Slot}, xW G (x_in W0) sS.heap (cells0 G ad s') H locs → lv_has ls 4 [(0, .ref (ad 0)), (1, .int x1')] → f_X0_claimsWith  s' x1' = some z → W p l e (rm_X0_claimsWith) sS m args below meth c H locs 0 0 (MQ below (xQ G W0 (cells0 G ad s') (some (.int z))) args sS 0 0 (x_in W0)) (F0 m 0 ls []) := by
  intro s x1 z H locs ls hw hl hf
  unfold f_X0_claimsWith at hf
  refine lv_iconst (v := 0) (pc := 0) E.1 E.2.1 dX0_claimsWith_0 (by decide) ?_
  refine lv_istore_n (lv' := [(2, .int 0), (0, .ref (ad 0)), (1, .int x1)]) (pc := 1) E.1 E.2.1 dX0_claimsWith_1 rfl hl (by decide) rfl (fun ls hl => ?_)
  refine lv_iconst (v := 0) (pc := 2) E.1 E.2.1 dX0_claimsWith_2 (by decide) ?_
  refine lv_istore_n (lv' := [(3, .int 0), (2, .int 0), (0, .ref (ad 0)), (1, .int x1)]) (pc := 3) E.1 E.2.1 dX0_claimsWith_3 rfl hl (by decide) rfl (fun ls hl => ?_)
  exact wl_X0_claimsWith_p4 E hr hk  s x1 0 0 z hw (lv_sub hl [2, 3, 1, 0] rfl) hf
set_option maxHeartbeats 4000000 in
set_option maxRecDepth 100000 in
theorem c_X0_claimsWith (l : Launch) (G : xG) (ad : Nat → Nat) (s : S0) (x1 : Int32) {z : Int32} (hf : f_X0_claimsWith s x1 = some z) : xC l yX0_claimsWith cX0_claimsWith 4 (some .int) (rm_X0_claimsWith) G [.ref (ad 0), .int x1] (cells0 G ad s) (some (.int z)) (cells0 G ad s) :=
  x_met (by decide) rfl (Nat.le_of_ble_eq_true rfl) (fun p e sS m below meth c E hr hk ls hl hw => w_X0_claimsWith_p0 E hr hk s x1 z hw hl hf)
set_option maxHeartbeats 4000000 in
set_option maxRecDepth 100000 in
theorem w_X0_claimsAboveCap_p4 {p : Program} {l : Launch} {e : Env} {sS : State} {m : MethodId} {args : Array Value} {below : List Frame} {meth : Method} {c : Code} {G : xG} {W0 : va_W} {ad : Nat → Nat}  {k4 : S0 → Int32 → Int32 → Int32 → Option (Int32)} (E : xE p sS m args c cX0_claimsAboveCap 4 RX0 G (x_in W0)) (hr : meth.sig.returnType = (some .int)) (hk : meth.locks = false) (hk4 : ∀ (s' : S0) (x1' : Int32) (x2' : Int32) (x3' : Int32) (z : Int32) {H : Heap} {locs : List Loc} {ls : Array Slot}, xW G (x_in W0) sS.heap (cells0 G ad s') H locs → lv_has ls 4 [(0, .ref (ad 0)), (1, .int x1'), (2, .int x2'), (3, .int x3')] → k4  s' x1' x2' x3' = some z → W p l e (rm_X0_claimsAboveCap) sS m args below meth c H locs 0 0 (MQ below (xQ G W0 (cells0 G ad s') (some (.int z))) args sS 0 0 (x_in W0)) (F0 m 4 ls [])) : ∀ (s' : S0) (x1' : Int32) (x2' : Int32) (x3' : Int32) (z : Int32) {H : Heap} {locs : List Loc} {ls : Array Slot}, xW G (x_in W0) sS.heap (cells0 G ad s') H locs → lv_has ls 4 [(0, .ref (ad 0)), (1, .int x1'), (2, .int x2'), (3, .int x3')] → f_X0_claimsAboveCap_p4 k4 s' x1' x2' x3' = some z → W p l e (rm_X0_claimsAboveCap) sS m args below meth c H locs 0 0 (MQ below (xQ G W0 (cells0 G ad s') (some (.int z))) args sS 0 0 (x_in W0)) (F0 m 4 ls []) := by
  intro s x1 x2 x3 z H locs ls hw hl hf
  unfold f_X0_claimsAboveCap_p4 at hf
  refine lv_iload_n (pc := 4) E.1 E.2.1 dX0_claimsAboveCap_4 rfl (lv_at hl 3 rfl) ?_
  refine lv_aload_n (pc := 5) E.1 E.2.1 dX0_claimsAboveCap_5 rfl (lv_at hl 0 rfl) ?_
  refine xg_X0_31 (pc := 6) (v := .int (g0_claims s)) E hw 0 rfl rfl dX0_claimsAboveCap_6 ?_
  refine lv_icmp_ge (tgt := 47) (pc := 9) E.1 E.2.1 dX0_claimsAboveCap_9 (by decide) (fun q1 => ?_) (fun q1 => ?_)
  · have hf := x_pos q1 hf
    refine lv_iload_n (pc := 47) E.1 E.2.1 dX0_claimsAboveCap_47 rfl (lv_at hl 2 rfl) ?_
    obtain rfl := Option.some.inj hf
    exact x_reti (pc := 48) E hr hk hw dX0_claimsAboveCap_48
  · have hf := x_neg q1 hf
    refine lv_iload_n (pc := 12) E.1 E.2.1 dX0_claimsAboveCap_12 rfl (lv_at hl 2 rfl) ?_
    refine lv_aload_n (pc := 13) E.1 E.2.1 dX0_claimsAboveCap_13 rfl (lv_at hl 0 rfl) ?_
    refine lv_iload_n (pc := 14) E.1 E.2.1 dX0_claimsAboveCap_14 rfl (lv_at hl 3 rfl) ?_
    obtain ⟨v2, g3, hf⟩ := x_bind hf
    refine x_callVA (pc := 15) (As := [.int x3]) (rest := [.int x2]) (st1 := [.int v2, .int x2]) (ws' := (cells0 G ad s)) E hw hl (c_X0_fleetOf l G ad s x3 g3) xv_X0_69 xd_X0_fleetOf rfl rfl ⟨Nat.le_of_ble_eq_true rfl, Nat.le_of_ble_eq_true rfl⟩ (q0 := 0) rfl rfl rfl rfl (Nat.le_of_ble_eq_true rfl) rfl dX0_claimsAboveCap_15 (fun H locs hw => ?_)
    refine lv_iload_n (pc := 18) E.1 E.2.1 dX0_claimsAboveCap_18 rfl (lv_at hl 1 rfl) ?_
    refine lv_icmp_ne (tgt := 38) (pc := 19) E.1 E.2.1 dX0_claimsAboveCap_19 (by decide) (fun q4 => ?_) (fun q4 => ?_)
    · have hf := x_neg q4 hf
      refine lv_iconst (v := 0) (pc := 38) E.1 E.2.1 dX0_claimsAboveCap_38 (by decide) ?_
      refine lv_iadd (pc := 39) E.1 E.2.1 dX0_claimsAboveCap_39 ?_
      refine lv_istore_n (lv' := [(2, .int (x2 + (0 : Int32))), (0, .ref (ad 0)), (1, .int x1), (3, .int x3)]) (pc := 40) E.1 E.2.1 dX0_claimsAboveCap_40 rfl hl (by decide) rfl (fun ls hl => ?_)
      refine lv_iinc (v := (x3 + 1)) (lv' := [(3, .int (x3 + 1)), (2, .int (x2 + (0 : Int32))), (0, .ref (ad 0)), (1, .int x1)]) (pc := 41) E.1 E.2.1 dX0_claimsAboveCap_41 hl (k := 3) rfl rfl (by decide) rfl (fun ls hl => ?_)
      refine lv_goto (tgt := 4) (pc := 44) E.1 E.2.1 dX0_claimsAboveCap_44 (by decide) ?_
      exact hk4 s x1 (x2 + (0 : Int32)) (x3 + 1) z hw (lv_sub hl [2, 3, 1, 0] rfl) hf
    · have hf := x_pos q4 hf
      refine lv_aload_n (pc := 22) E.1 E.2.1 dX0_claimsAboveCap_22 rfl (lv_at hl 0 rfl) ?_
      refine lv_iload_n (pc := 23) E.1 E.2.1 dX0_claimsAboveCap_23 rfl (lv_at hl 3 rfl) ?_
      obtain ⟨v5, g6, hf⟩ := x_bind hf
      refine x_callVA (pc := 24) (As := [.int x3]) (rest := [.int x2]) (st1 := [.int v5, .int x2]) (ws' := (cells0 G ad s)) E hw hl (c_X0_amountOf l G ad s x3 g6) xv_X0_104 xd_X0_amountOf rfl rfl ⟨Nat.le_of_ble_eq_true rfl, Nat.le_of_ble_eq_true rfl⟩ (q0 := 0) rfl rfl rfl rfl (Nat.le_of_ble_eq_true rfl) rfl dX0_claimsAboveCap_24 (fun H locs hw => ?_)
      refine lv_aload_n (pc := 27) E.1 E.2.1 dX0_claimsAboveCap_27 rfl (lv_at hl 0 rfl) ?_
      refine xg_X0_9 (pc := 28) (v := .int (g0_cap s)) E hw 0 rfl rfl dX0_claimsAboveCap_28 ?_
      refine lv_icmp_le (tgt := 38) (pc := 31) E.1 E.2.1 dX0_claimsAboveCap_31 (by decide) (fun q7 => ?_) (fun q7 => ?_)
      · have hf := x_pos q7 hf
        refine lv_iconst (v := 0) (pc := 38) E.1 E.2.1 dX0_claimsAboveCap_38 (by decide) ?_
        refine lv_iadd (pc := 39) E.1 E.2.1 dX0_claimsAboveCap_39 ?_
        refine lv_istore_n (lv' := [(2, .int (x2 + (0 : Int32))), (0, .ref (ad 0)), (1, .int x1), (3, .int x3)]) (pc := 40) E.1 E.2.1 dX0_claimsAboveCap_40 rfl hl (by decide) rfl (fun ls hl => ?_)
        refine lv_iinc (v := (x3 + 1)) (lv' := [(3, .int (x3 + 1)), (2, .int (x2 + (0 : Int32))), (0, .ref (ad 0)), (1, .int x1)]) (pc := 41) E.1 E.2.1 dX0_claimsAboveCap_41 hl (k := 3) rfl rfl (by decide) rfl (fun ls hl => ?_)
        refine lv_goto (tgt := 4) (pc := 44) E.1 E.2.1 dX0_claimsAboveCap_44 (by decide) ?_
        exact hk4 s x1 (x2 + (0 : Int32)) (x3 + 1) z hw (lv_sub hl [2, 3, 1, 0] rfl) hf
      · have hf := x_neg q7 hf
        refine lv_iconst (v := 1) (pc := 34) E.1 E.2.1 dX0_claimsAboveCap_34 (by decide) ?_
        refine lv_goto (tgt := 39) (pc := 35) E.1 E.2.1 dX0_claimsAboveCap_35 (by decide) ?_
        refine lv_iadd (pc := 39) E.1 E.2.1 dX0_claimsAboveCap_39 ?_
        refine lv_istore_n (lv' := [(2, .int (x2 + (1 : Int32))), (0, .ref (ad 0)), (1, .int x1), (3, .int x3)]) (pc := 40) E.1 E.2.1 dX0_claimsAboveCap_40 rfl hl (by decide) rfl (fun ls hl => ?_)
        refine lv_iinc (v := (x3 + 1)) (lv' := [(3, .int (x3 + 1)), (2, .int (x2 + (1 : Int32))), (0, .ref (ad 0)), (1, .int x1)]) (pc := 41) E.1 E.2.1 dX0_claimsAboveCap_41 hl (k := 3) rfl rfl (by decide) rfl (fun ls hl => ?_)
        refine lv_goto (tgt := 4) (pc := 44) E.1 E.2.1 dX0_claimsAboveCap_44 (by decide) ?_
        exact hk4 s x1 (x2 + (1 : Int32)) (x3 + 1) z hw (lv_sub hl [2, 3, 1, 0] rfl) hf
set_option maxHeartbeats 4000000 in
set_option maxRecDepth 100000 in
theorem wl_X0_claimsAboveCap_p4 {p : Program} {l : Launch} {e : Env} {sS : State} {m : MethodId} {args : Array Value} {below : List Frame} {meth : Method} {c : Code} {G : xG} {W0 : va_W} {ad : Nat → Nat}   (E : xE p sS m args c cX0_claimsAboveCap 4 RX0 G (x_in W0)) (hr : meth.sig.returnType = (some .int)) (hk : meth.locks = false)  : ∀ (s' : S0) (x1' : Int32) (x2' : Int32) (x3' : Int32) (z : Int32) {H : Heap} {locs : List Loc} {ls : Array Slot}, xW G (x_in W0) sS.heap (cells0 G ad s') H locs → lv_has ls 4 [(0, .ref (ad 0)), (1, .int x1'), (2, .int x2'), (3, .int x3')] → lp_X0_claimsAboveCap_p4  s' x1' x2' x3' = some z → W p l e (rm_X0_claimsAboveCap) sS m args below meth c H locs 0 0 (MQ below (xQ G W0 (cells0 G ad s') (some (.int z))) args sS 0 0 (x_in W0)) (F0 m 4 ls []) := by
  intro s x1 x2 x3 z H locs ls hw hl hf
  exact x_loop_W (P := fun (q : S0 × Int32 × Int32 × Int32) (z : Int32) => ∀ {H : Heap} {locs : List Loc} {ls : Array Slot}, xW G (x_in W0) sS.heap (cells0 G ad q.1) H locs → lv_has ls 4 [(0, .ref (ad 0)), (1, .int q.2.1), (2, .int q.2.2.1), (3, .int q.2.2.2)] → W p l e (rm_X0_claimsAboveCap) sS m args below meth c H locs 0 0 (MQ below (xQ G W0 (cells0 G ad q.1) (some (.int z))) args sS 0 0 (x_in W0)) (F0 m 4 ls [])) (fun k hkk q z hf H locs ls hw hl => w_X0_claimsAboveCap_p4 E hr hk  (fun s x1 x2 x3 z H locs ls hw hl hf => hkk (s, x1, x2, x3) z hf hw hl) q.1 q.2.1 q.2.2.1 q.2.2.2 z hw hl hf) FU (s, x1, x2, x3) z hf hw hl
set_option maxHeartbeats 4000000 in
set_option maxRecDepth 100000 in
theorem w_X0_claimsAboveCap_p0 {p : Program} {l : Launch} {e : Env} {sS : State} {m : MethodId} {args : Array Value} {below : List Frame} {meth : Method} {c : Code} {G : xG} {W0 : va_W} {ad : Nat → Nat}   (E : xE p sS m args c cX0_claimsAboveCap 4 RX0 G (x_in W0)) (hr : meth.sig.returnType = (some .int)) (hk : meth.locks = false)  : ∀ (s' : S0) (x1' : Int32) (z : Int32) {H : Heap} {locs : List Loc} {ls : Array Slot}, xW G (x_in W0) sS.heap (cells0 G ad s') H locs → lv_has ls 4 [(0, .ref (ad 0)), (1, .int x1')] → f_X0_claimsAboveCap  s' x1' = some z → W p l e (rm_X0_claimsAboveCap) sS m args below meth c H locs 0 0 (MQ below (xQ G W0 (cells0 G ad s') (some (.int z))) args sS 0 0 (x_in W0)) (F0 m 0 ls []) := by
  intro s x1 z H locs ls hw hl hf
  unfold f_X0_claimsAboveCap at hf
  refine lv_iconst (v := 0) (pc := 0) E.1 E.2.1 dX0_claimsAboveCap_0 (by decide) ?_
  refine lv_istore_n (lv' := [(2, .int 0), (0, .ref (ad 0)), (1, .int x1)]) (pc := 1) E.1 E.2.1 dX0_claimsAboveCap_1 rfl hl (by decide) rfl (fun ls hl => ?_)
  refine lv_iconst (v := 0) (pc := 2) E.1 E.2.1 dX0_claimsAboveCap_2 (by decide) ?_
  refine lv_istore_n (lv' := [(3, .int 0), (2, .int 0), (0, .ref (ad 0)), (1, .int x1)]) (pc := 3) E.1 E.2.1 dX0_claimsAboveCap_3 rfl hl (by decide) rfl (fun ls hl => ?_)
  exact wl_X0_claimsAboveCap_p4 E hr hk  s x1 0 0 z hw (lv_sub hl [2, 3, 1, 0] rfl) hf
set_option maxHeartbeats 4000000 in
set_option maxRecDepth 100000 in
theorem c_X0_claimsAboveCap (l : Launch) (G : xG) (ad : Nat → Nat) (s : S0) (x1 : Int32) {z : Int32} (hf : f_X0_claimsAboveCap s x1 = some z) : xC l yX0_claimsAboveCap cX0_claimsAboveCap 4 (some .int) (rm_X0_claimsAboveCap) G [.ref (ad 0), .int x1] (cells0 G ad s) (some (.int z)) (cells0 G ad s) :=
  x_met (by decide) rfl (Nat.le_of_ble_eq_true rfl) (fun p e sS m below meth c E hr hk ls hl hw => w_X0_claimsAboveCap_p0 E hr hk s x1 z hw hl hf)
set_option maxHeartbeats 4000000 in
set_option maxRecDepth 100000 in
theorem w_X0_placeOf_p4 {p : Program} {l : Launch} {e : Env} {sS : State} {m : MethodId} {args : Array Value} {below : List Frame} {meth : Method} {c : Code} {G : xG} {W0 : va_W} {ad : Nat → Nat}  {k4 : S0 → Int32 → Int32 → Int32 → Option (Int32)} (E : xE p sS m args c cX0_placeOf 4 RX0 G (x_in W0)) (hr : meth.sig.returnType = (some .int)) (hk : meth.locks = false) (hk4 : ∀ (s' : S0) (x1' : Int32) (x2' : Int32) (x3' : Int32) (z : Int32) {H : Heap} {locs : List Loc} {ls : Array Slot}, xW G (x_in W0) sS.heap (cells0 G ad s') H locs → lv_has ls 4 [(0, .ref (ad 0)), (1, .int x1'), (2, .int x2'), (3, .int x3')] → k4  s' x1' x2' x3' = some z → W p l e (rm_X0_placeOf) sS m args below meth c H locs 0 0 (MQ below (xQ G W0 (cells0 G ad s') (some (.int z))) args sS 0 0 (x_in W0)) (F0 m 4 ls [])) : ∀ (s' : S0) (x1' : Int32) (x2' : Int32) (x3' : Int32) (z : Int32) {H : Heap} {locs : List Loc} {ls : Array Slot}, xW G (x_in W0) sS.heap (cells0 G ad s') H locs → lv_has ls 4 [(0, .ref (ad 0)), (1, .int x1'), (2, .int x2'), (3, .int x3')] → f_X0_placeOf_p4 k4 s' x1' x2' x3' = some z → W p l e (rm_X0_placeOf) sS m args below meth c H locs 0 0 (MQ below (xQ G W0 (cells0 G ad s') (some (.int z))) args sS 0 0 (x_in W0)) (F0 m 4 ls []) := by
  intro s x1 x2 x3 z H locs ls hw hl hf
  unfold f_X0_placeOf_p4 at hf
  refine lv_iload_n (pc := 4) E.1 E.2.1 dX0_placeOf_4 rfl (lv_at hl 3 rfl) ?_
  refine lv_aload_n (pc := 5) E.1 E.2.1 dX0_placeOf_5 rfl (lv_at hl 0 rfl) ?_
  refine xg_X0_31 (pc := 6) (v := .int (g0_claims s)) E hw 0 rfl rfl dX0_placeOf_6 ?_
  refine lv_icmp_ge (tgt := 65) (pc := 9) E.1 E.2.1 dX0_placeOf_9 (by decide) (fun q1 => ?_) (fun q1 => ?_)
  · have hf := x_pos q1 hf
    refine lv_iload_n (pc := 65) E.1 E.2.1 dX0_placeOf_65 rfl (lv_at hl 2 rfl) ?_
    obtain rfl := Option.some.inj hf
    exact x_reti (pc := 66) E hr hk hw dX0_placeOf_66
  · have hf := x_neg q1 hf
    refine lv_aload_n (pc := 12) E.1 E.2.1 dX0_placeOf_12 rfl (lv_at hl 0 rfl) ?_
    refine lv_iload_n (pc := 13) E.1 E.2.1 dX0_placeOf_13 rfl (lv_at hl 3 rfl) ?_
    obtain ⟨v2, g3, hf⟩ := x_bind hf
    refine x_callVA (pc := 14) (As := [.int x3]) (rest := []) (st1 := [.int v2]) (ws' := (cells0 G ad s)) E hw hl (c_X0_fleetOf l G ad s x3 g3) xv_X0_69 xd_X0_fleetOf rfl rfl ⟨Nat.le_of_ble_eq_true rfl, Nat.le_of_ble_eq_true rfl⟩ (q0 := 0) rfl rfl rfl rfl (Nat.le_of_ble_eq_true rfl) rfl dX0_placeOf_14 (fun H locs hw => ?_)
    refine lv_aload_n (pc := 17) E.1 E.2.1 dX0_placeOf_17 rfl (lv_at hl 0 rfl) ?_
    refine lv_iload_n (pc := 18) E.1 E.2.1 dX0_placeOf_18 rfl (lv_at hl 1 rfl) ?_
    obtain ⟨v4, g5, hf⟩ := x_bind hf
    refine x_callVA (pc := 19) (As := [.int x1]) (rest := [.int v2]) (st1 := [.int v4, .int v2]) (ws' := (cells0 G ad s)) E hw hl (c_X0_fleetOf l G ad s x1 g5) xv_X0_69 xd_X0_fleetOf rfl rfl ⟨Nat.le_of_ble_eq_true rfl, Nat.le_of_ble_eq_true rfl⟩ (q0 := 0) rfl rfl rfl rfl (Nat.le_of_ble_eq_true rfl) rfl dX0_placeOf_19 (fun H locs hw => ?_)
    refine lv_icmp_ne (tgt := 59) (pc := 22) E.1 E.2.1 dX0_placeOf_22 (by decide) (fun q6 => ?_) (fun q6 => ?_)
    · have hf := x_neg q6 hf
      refine lv_iinc (v := (x3 + 1)) (lv' := [(3, .int (x3 + 1)), (0, .ref (ad 0)), (1, .int x1), (2, .int x2)]) (pc := 59) E.1 E.2.1 dX0_placeOf_59 hl (k := 3) rfl rfl (by decide) rfl (fun ls hl => ?_)
      refine lv_goto (tgt := 4) (pc := 62) E.1 E.2.1 dX0_placeOf_62 (by decide) ?_
      exact hk4 s x1 x2 (x3 + 1) z hw (lv_sub hl [1, 2, 3, 0] rfl) hf
    · have hf := x_pos q6 hf
      refine lv_aload_n (pc := 25) E.1 E.2.1 dX0_placeOf_25 rfl (lv_at hl 0 rfl) ?_
      refine lv_iload_n (pc := 26) E.1 E.2.1 dX0_placeOf_26 rfl (lv_at hl 3 rfl) ?_
      obtain ⟨v7, g8, hf⟩ := x_bind hf
      refine x_callVA (pc := 27) (As := [.int x3]) (rest := []) (st1 := [.int v7]) (ws' := (cells0 G ad s)) E hw hl (c_X0_amountOf l G ad s x3 g8) xv_X0_104 xd_X0_amountOf rfl rfl ⟨Nat.le_of_ble_eq_true rfl, Nat.le_of_ble_eq_true rfl⟩ (q0 := 0) rfl rfl rfl rfl (Nat.le_of_ble_eq_true rfl) rfl dX0_placeOf_27 (fun H locs hw => ?_)
      refine lv_aload_n (pc := 30) E.1 E.2.1 dX0_placeOf_30 rfl (lv_at hl 0 rfl) ?_
      refine lv_iload_n (pc := 31) E.1 E.2.1 dX0_placeOf_31 rfl (lv_at hl 1 rfl) ?_
      obtain ⟨v9, g10, hf⟩ := x_bind hf
      refine x_callVA (pc := 32) (As := [.int x1]) (rest := [.int v7]) (st1 := [.int v9, .int v7]) (ws' := (cells0 G ad s)) E hw hl (c_X0_amountOf l G ad s x1 g10) xv_X0_104 xd_X0_amountOf rfl rfl ⟨Nat.le_of_ble_eq_true rfl, Nat.le_of_ble_eq_true rfl⟩ (q0 := 0) rfl rfl rfl rfl (Nat.le_of_ble_eq_true rfl) rfl dX0_placeOf_32 (fun H locs hw => ?_)
      refine lv_icmp_gt (tgt := 56) (pc := 35) E.1 E.2.1 dX0_placeOf_35 (by decide) (fun q11 => ?_) (fun q11 => ?_)
      · have hf := x_pos q11 hf
        refine lv_iinc (v := (x2 + 1)) (lv' := [(2, .int (x2 + 1)), (0, .ref (ad 0)), (1, .int x1), (3, .int x3)]) (pc := 56) E.1 E.2.1 dX0_placeOf_56 hl (k := 2) rfl rfl (by decide) rfl (fun ls hl => ?_)
        refine lv_iinc (v := (x3 + 1)) (lv' := [(3, .int (x3 + 1)), (2, .int (x2 + 1)), (0, .ref (ad 0)), (1, .int x1)]) (pc := 59) E.1 E.2.1 dX0_placeOf_59 hl (k := 3) rfl rfl (by decide) rfl (fun ls hl => ?_)
        refine lv_goto (tgt := 4) (pc := 62) E.1 E.2.1 dX0_placeOf_62 (by decide) ?_
        exact hk4 s x1 (x2 + 1) (x3 + 1) z hw (lv_sub hl [2, 3, 1, 0] rfl) hf
      · have hf := x_neg q11 hf
        refine lv_aload_n (pc := 38) E.1 E.2.1 dX0_placeOf_38 rfl (lv_at hl 0 rfl) ?_
        refine lv_iload_n (pc := 39) E.1 E.2.1 dX0_placeOf_39 rfl (lv_at hl 3 rfl) ?_
        obtain ⟨v12, g13, hf⟩ := x_bind hf
        refine x_callVA (pc := 40) (As := [.int x3]) (rest := []) (st1 := [.int v12]) (ws' := (cells0 G ad s)) E hw hl (c_X0_amountOf l G ad s x3 g13) xv_X0_104 xd_X0_amountOf rfl rfl ⟨Nat.le_of_ble_eq_true rfl, Nat.le_of_ble_eq_true rfl⟩ (q0 := 0) rfl rfl rfl rfl (Nat.le_of_ble_eq_true rfl) rfl dX0_placeOf_40 (fun H locs hw => ?_)
        refine lv_aload_n (pc := 43) E.1 E.2.1 dX0_placeOf_43 rfl (lv_at hl 0 rfl) ?_
        refine lv_iload_n (pc := 44) E.1 E.2.1 dX0_placeOf_44 rfl (lv_at hl 1 rfl) ?_
        obtain ⟨v14, g15, hf⟩ := x_bind hf
        refine x_callVA (pc := 45) (As := [.int x1]) (rest := [.int v12]) (st1 := [.int v14, .int v12]) (ws' := (cells0 G ad s)) E hw hl (c_X0_amountOf l G ad s x1 g15) xv_X0_104 xd_X0_amountOf rfl rfl ⟨Nat.le_of_ble_eq_true rfl, Nat.le_of_ble_eq_true rfl⟩ (q0 := 0) rfl rfl rfl rfl (Nat.le_of_ble_eq_true rfl) rfl dX0_placeOf_45 (fun H locs hw => ?_)
        refine lv_icmp_ne (tgt := 59) (pc := 48) E.1 E.2.1 dX0_placeOf_48 (by decide) (fun q16 => ?_) (fun q16 => ?_)
        · have hf := x_neg q16 hf
          refine lv_iinc (v := (x3 + 1)) (lv' := [(3, .int (x3 + 1)), (0, .ref (ad 0)), (1, .int x1), (2, .int x2)]) (pc := 59) E.1 E.2.1 dX0_placeOf_59 hl (k := 3) rfl rfl (by decide) rfl (fun ls hl => ?_)
          refine lv_goto (tgt := 4) (pc := 62) E.1 E.2.1 dX0_placeOf_62 (by decide) ?_
          exact hk4 s x1 x2 (x3 + 1) z hw (lv_sub hl [1, 2, 3, 0] rfl) hf
        · have hf := x_pos q16 hf
          refine lv_iload_n (pc := 51) E.1 E.2.1 dX0_placeOf_51 rfl (lv_at hl 3 rfl) ?_
          refine lv_iload_n (pc := 52) E.1 E.2.1 dX0_placeOf_52 rfl (lv_at hl 1 rfl) ?_
          refine lv_icmp_ge (tgt := 59) (pc := 53) E.1 E.2.1 dX0_placeOf_53 (by decide) (fun q17 => ?_) (fun q17 => ?_)
          · have hf := x_pos q17 hf
            refine lv_iinc (v := (x3 + 1)) (lv' := [(3, .int (x3 + 1)), (0, .ref (ad 0)), (1, .int x1), (2, .int x2)]) (pc := 59) E.1 E.2.1 dX0_placeOf_59 hl (k := 3) rfl rfl (by decide) rfl (fun ls hl => ?_)
            refine lv_goto (tgt := 4) (pc := 62) E.1 E.2.1 dX0_placeOf_62 (by decide) ?_
            exact hk4 s x1 x2 (x3 + 1) z hw (lv_sub hl [1, 2, 3, 0] rfl) hf
          · have hf := x_neg q17 hf
            refine lv_iinc (v := (x2 + 1)) (lv' := [(2, .int (x2 + 1)), (0, .ref (ad 0)), (1, .int x1), (3, .int x3)]) (pc := 56) E.1 E.2.1 dX0_placeOf_56 hl (k := 2) rfl rfl (by decide) rfl (fun ls hl => ?_)
            refine lv_iinc (v := (x3 + 1)) (lv' := [(3, .int (x3 + 1)), (2, .int (x2 + 1)), (0, .ref (ad 0)), (1, .int x1)]) (pc := 59) E.1 E.2.1 dX0_placeOf_59 hl (k := 3) rfl rfl (by decide) rfl (fun ls hl => ?_)
            refine lv_goto (tgt := 4) (pc := 62) E.1 E.2.1 dX0_placeOf_62 (by decide) ?_
            exact hk4 s x1 (x2 + 1) (x3 + 1) z hw (lv_sub hl [2, 3, 1, 0] rfl) hf
set_option maxHeartbeats 4000000 in
set_option maxRecDepth 100000 in
theorem wl_X0_placeOf_p4 {p : Program} {l : Launch} {e : Env} {sS : State} {m : MethodId} {args : Array Value} {below : List Frame} {meth : Method} {c : Code} {G : xG} {W0 : va_W} {ad : Nat → Nat}   (E : xE p sS m args c cX0_placeOf 4 RX0 G (x_in W0)) (hr : meth.sig.returnType = (some .int)) (hk : meth.locks = false)  : ∀ (s' : S0) (x1' : Int32) (x2' : Int32) (x3' : Int32) (z : Int32) {H : Heap} {locs : List Loc} {ls : Array Slot}, xW G (x_in W0) sS.heap (cells0 G ad s') H locs → lv_has ls 4 [(0, .ref (ad 0)), (1, .int x1'), (2, .int x2'), (3, .int x3')] → lp_X0_placeOf_p4  s' x1' x2' x3' = some z → W p l e (rm_X0_placeOf) sS m args below meth c H locs 0 0 (MQ below (xQ G W0 (cells0 G ad s') (some (.int z))) args sS 0 0 (x_in W0)) (F0 m 4 ls []) := by
  intro s x1 x2 x3 z H locs ls hw hl hf
  exact x_loop_W (P := fun (q : S0 × Int32 × Int32 × Int32) (z : Int32) => ∀ {H : Heap} {locs : List Loc} {ls : Array Slot}, xW G (x_in W0) sS.heap (cells0 G ad q.1) H locs → lv_has ls 4 [(0, .ref (ad 0)), (1, .int q.2.1), (2, .int q.2.2.1), (3, .int q.2.2.2)] → W p l e (rm_X0_placeOf) sS m args below meth c H locs 0 0 (MQ below (xQ G W0 (cells0 G ad q.1) (some (.int z))) args sS 0 0 (x_in W0)) (F0 m 4 ls [])) (fun k hkk q z hf H locs ls hw hl => w_X0_placeOf_p4 E hr hk  (fun s x1 x2 x3 z H locs ls hw hl hf => hkk (s, x1, x2, x3) z hf hw hl) q.1 q.2.1 q.2.2.1 q.2.2.2 z hw hl hf) FU (s, x1, x2, x3) z hf hw hl
set_option maxHeartbeats 4000000 in
set_option maxRecDepth 100000 in
theorem w_X0_placeOf_p0 {p : Program} {l : Launch} {e : Env} {sS : State} {m : MethodId} {args : Array Value} {below : List Frame} {meth : Method} {c : Code} {G : xG} {W0 : va_W} {ad : Nat → Nat}   (E : xE p sS m args c cX0_placeOf 4 RX0 G (x_in W0)) (hr : meth.sig.returnType = (some .int)) (hk : meth.locks = false)  : ∀ (s' : S0) (x1' : Int32) (z : Int32) {H : Heap} {locs : List Loc} {ls : Array Slot}, xW G (x_in W0) sS.heap (cells0 G ad s') H locs → lv_has ls 4 [(0, .ref (ad 0)), (1, .int x1')] → f_X0_placeOf  s' x1' = some z → W p l e (rm_X0_placeOf) sS m args below meth c H locs 0 0 (MQ below (xQ G W0 (cells0 G ad s') (some (.int z))) args sS 0 0 (x_in W0)) (F0 m 0 ls []) := by
  intro s x1 z H locs ls hw hl hf
  unfold f_X0_placeOf at hf
  refine lv_iconst (v := 0) (pc := 0) E.1 E.2.1 dX0_placeOf_0 (by decide) ?_
  refine lv_istore_n (lv' := [(2, .int 0), (0, .ref (ad 0)), (1, .int x1)]) (pc := 1) E.1 E.2.1 dX0_placeOf_1 rfl hl (by decide) rfl (fun ls hl => ?_)
  refine lv_iconst (v := 0) (pc := 2) E.1 E.2.1 dX0_placeOf_2 (by decide) ?_
  refine lv_istore_n (lv' := [(3, .int 0), (2, .int 0), (0, .ref (ad 0)), (1, .int x1)]) (pc := 3) E.1 E.2.1 dX0_placeOf_3 rfl hl (by decide) rfl (fun ls hl => ?_)
  exact wl_X0_placeOf_p4 E hr hk  s x1 0 0 z hw (lv_sub hl [2, 3, 1, 0] rfl) hf
set_option maxHeartbeats 4000000 in
set_option maxRecDepth 100000 in
theorem c_X0_placeOf (l : Launch) (G : xG) (ad : Nat → Nat) (s : S0) (x1 : Int32) {z : Int32} (hf : f_X0_placeOf s x1 = some z) : xC l yX0_placeOf cX0_placeOf 4 (some .int) (rm_X0_placeOf) G [.ref (ad 0), .int x1] (cells0 G ad s) (some (.int z)) (cells0 G ad s) :=
  x_met (by decide) rfl (Nat.le_of_ble_eq_true rfl) (fun p e sS m below meth c E hr hk ls hl hw => w_X0_placeOf_p0 E hr hk s x1 z hw hl hf)
set_option maxHeartbeats 4000000 in
set_option maxRecDepth 100000 in
theorem w_X0_claimsOfYear_p4 {p : Program} {l : Launch} {e : Env} {sS : State} {m : MethodId} {args : Array Value} {below : List Frame} {meth : Method} {c : Code} {G : xG} {W0 : va_W} {ad : Nat → Nat}  {k4 : S0 → Int32 → Int32 → Int32 → Option (Int32)} (E : xE p sS m args c cX0_claimsOfYear 4 RX0 G (x_in W0)) (hr : meth.sig.returnType = (some .int)) (hk : meth.locks = false) (hk4 : ∀ (s' : S0) (x1' : Int32) (x2' : Int32) (x3' : Int32) (z : Int32) {H : Heap} {locs : List Loc} {ls : Array Slot}, xW G (x_in W0) sS.heap (cells0 G ad s') H locs → lv_has ls 4 [(0, .ref (ad 0)), (1, .int x1'), (2, .int x2'), (3, .int x3')] → k4  s' x1' x2' x3' = some z → W p l e (rm_X0_claimsOfYear) sS m args below meth c H locs 0 0 (MQ below (xQ G W0 (cells0 G ad s') (some (.int z))) args sS 0 0 (x_in W0)) (F0 m 4 ls [])) : ∀ (s' : S0) (x1' : Int32) (x2' : Int32) (x3' : Int32) (z : Int32) {H : Heap} {locs : List Loc} {ls : Array Slot}, xW G (x_in W0) sS.heap (cells0 G ad s') H locs → lv_has ls 4 [(0, .ref (ad 0)), (1, .int x1'), (2, .int x2'), (3, .int x3')] → f_X0_claimsOfYear_p4 k4 s' x1' x2' x3' = some z → W p l e (rm_X0_claimsOfYear) sS m args below meth c H locs 0 0 (MQ below (xQ G W0 (cells0 G ad s') (some (.int z))) args sS 0 0 (x_in W0)) (F0 m 4 ls []) := by
  intro s x1 x2 x3 z H locs ls hw hl hf
  unfold f_X0_claimsOfYear_p4 at hf
  refine lv_iload_n (pc := 4) E.1 E.2.1 dX0_claimsOfYear_4 rfl (lv_at hl 3 rfl) ?_
  refine lv_aload_n (pc := 5) E.1 E.2.1 dX0_claimsOfYear_5 rfl (lv_at hl 0 rfl) ?_
  refine xg_X0_31 (pc := 6) (v := .int (g0_claims s)) E hw 0 rfl rfl dX0_claimsOfYear_6 ?_
  refine lv_icmp_ge (tgt := 35) (pc := 9) E.1 E.2.1 dX0_claimsOfYear_9 (by decide) (fun q1 => ?_) (fun q1 => ?_)
  · have hf := x_pos q1 hf
    refine lv_iload_n (pc := 35) E.1 E.2.1 dX0_claimsOfYear_35 rfl (lv_at hl 2 rfl) ?_
    obtain rfl := Option.some.inj hf
    exact x_reti (pc := 36) E hr hk hw dX0_claimsOfYear_36
  · have hf := x_neg q1 hf
    refine lv_iload_n (pc := 12) E.1 E.2.1 dX0_claimsOfYear_12 rfl (lv_at hl 2 rfl) ?_
    refine lv_aload_n (pc := 13) E.1 E.2.1 dX0_claimsOfYear_13 rfl (lv_at hl 0 rfl) ?_
    refine lv_iload_n (pc := 14) E.1 E.2.1 dX0_claimsOfYear_14 rfl (lv_at hl 3 rfl) ?_
    obtain ⟨v2, g3, hf⟩ := x_bind hf
    refine x_callVA (pc := 15) (As := [.int x3]) (rest := [.int x2]) (st1 := [.int v2, .int x2]) (ws' := (cells0 G ad s)) E hw hl (c_X0_yearOf l G ad s x3 g3) xv_X0_97 xd_X0_yearOf rfl rfl ⟨Nat.le_of_ble_eq_true rfl, Nat.le_of_ble_eq_true rfl⟩ (q0 := 0) rfl rfl rfl rfl (Nat.le_of_ble_eq_true rfl) rfl dX0_claimsOfYear_15 (fun H locs hw => ?_)
    refine lv_iload_n (pc := 18) E.1 E.2.1 dX0_claimsOfYear_18 rfl (lv_at hl 1 rfl) ?_
    refine lv_icmp_ne (tgt := 26) (pc := 19) E.1 E.2.1 dX0_claimsOfYear_19 (by decide) (fun q4 => ?_) (fun q4 => ?_)
    · have hf := x_neg q4 hf
      refine lv_iconst (v := 0) (pc := 26) E.1 E.2.1 dX0_claimsOfYear_26 (by decide) ?_
      refine lv_iadd (pc := 27) E.1 E.2.1 dX0_claimsOfYear_27 ?_
      refine lv_istore_n (lv' := [(2, .int (x2 + (0 : Int32))), (0, .ref (ad 0)), (1, .int x1), (3, .int x3)]) (pc := 28) E.1 E.2.1 dX0_claimsOfYear_28 rfl hl (by decide) rfl (fun ls hl => ?_)
      refine lv_iinc (v := (x3 + 1)) (lv' := [(3, .int (x3 + 1)), (2, .int (x2 + (0 : Int32))), (0, .ref (ad 0)), (1, .int x1)]) (pc := 29) E.1 E.2.1 dX0_claimsOfYear_29 hl (k := 3) rfl rfl (by decide) rfl (fun ls hl => ?_)
      refine lv_goto (tgt := 4) (pc := 32) E.1 E.2.1 dX0_claimsOfYear_32 (by decide) ?_
      exact hk4 s x1 (x2 + (0 : Int32)) (x3 + 1) z hw (lv_sub hl [2, 3, 1, 0] rfl) hf
    · have hf := x_pos q4 hf
      refine lv_iconst (v := 1) (pc := 22) E.1 E.2.1 dX0_claimsOfYear_22 (by decide) ?_
      refine lv_goto (tgt := 27) (pc := 23) E.1 E.2.1 dX0_claimsOfYear_23 (by decide) ?_
      refine lv_iadd (pc := 27) E.1 E.2.1 dX0_claimsOfYear_27 ?_
      refine lv_istore_n (lv' := [(2, .int (x2 + (1 : Int32))), (0, .ref (ad 0)), (1, .int x1), (3, .int x3)]) (pc := 28) E.1 E.2.1 dX0_claimsOfYear_28 rfl hl (by decide) rfl (fun ls hl => ?_)
      refine lv_iinc (v := (x3 + 1)) (lv' := [(3, .int (x3 + 1)), (2, .int (x2 + (1 : Int32))), (0, .ref (ad 0)), (1, .int x1)]) (pc := 29) E.1 E.2.1 dX0_claimsOfYear_29 hl (k := 3) rfl rfl (by decide) rfl (fun ls hl => ?_)
      refine lv_goto (tgt := 4) (pc := 32) E.1 E.2.1 dX0_claimsOfYear_32 (by decide) ?_
      exact hk4 s x1 (x2 + (1 : Int32)) (x3 + 1) z hw (lv_sub hl [2, 3, 1, 0] rfl) hf
set_option maxHeartbeats 4000000 in
set_option maxRecDepth 100000 in
theorem wl_X0_claimsOfYear_p4 {p : Program} {l : Launch} {e : Env} {sS : State} {m : MethodId} {args : Array Value} {below : List Frame} {meth : Method} {c : Code} {G : xG} {W0 : va_W} {ad : Nat → Nat}   (E : xE p sS m args c cX0_claimsOfYear 4 RX0 G (x_in W0)) (hr : meth.sig.returnType = (some .int)) (hk : meth.locks = false)  : ∀ (s' : S0) (x1' : Int32) (x2' : Int32) (x3' : Int32) (z : Int32) {H : Heap} {locs : List Loc} {ls : Array Slot}, xW G (x_in W0) sS.heap (cells0 G ad s') H locs → lv_has ls 4 [(0, .ref (ad 0)), (1, .int x1'), (2, .int x2'), (3, .int x3')] → lp_X0_claimsOfYear_p4  s' x1' x2' x3' = some z → W p l e (rm_X0_claimsOfYear) sS m args below meth c H locs 0 0 (MQ below (xQ G W0 (cells0 G ad s') (some (.int z))) args sS 0 0 (x_in W0)) (F0 m 4 ls []) := by
  intro s x1 x2 x3 z H locs ls hw hl hf
  exact x_loop_W (P := fun (q : S0 × Int32 × Int32 × Int32) (z : Int32) => ∀ {H : Heap} {locs : List Loc} {ls : Array Slot}, xW G (x_in W0) sS.heap (cells0 G ad q.1) H locs → lv_has ls 4 [(0, .ref (ad 0)), (1, .int q.2.1), (2, .int q.2.2.1), (3, .int q.2.2.2)] → W p l e (rm_X0_claimsOfYear) sS m args below meth c H locs 0 0 (MQ below (xQ G W0 (cells0 G ad q.1) (some (.int z))) args sS 0 0 (x_in W0)) (F0 m 4 ls [])) (fun k hkk q z hf H locs ls hw hl => w_X0_claimsOfYear_p4 E hr hk  (fun s x1 x2 x3 z H locs ls hw hl hf => hkk (s, x1, x2, x3) z hf hw hl) q.1 q.2.1 q.2.2.1 q.2.2.2 z hw hl hf) FU (s, x1, x2, x3) z hf hw hl
set_option maxHeartbeats 4000000 in
set_option maxRecDepth 100000 in
theorem w_X0_claimsOfYear_p0 {p : Program} {l : Launch} {e : Env} {sS : State} {m : MethodId} {args : Array Value} {below : List Frame} {meth : Method} {c : Code} {G : xG} {W0 : va_W} {ad : Nat → Nat}   (E : xE p sS m args c cX0_claimsOfYear 4 RX0 G (x_in W0)) (hr : meth.sig.returnType = (some .int)) (hk : meth.locks = false)  : ∀ (s' : S0) (x1' : Int32) (z : Int32) {H : Heap} {locs : List Loc} {ls : Array Slot}, xW G (x_in W0) sS.heap (cells0 G ad s') H locs → lv_has ls 4 [(0, .ref (ad 0)), (1, .int x1')] → f_X0_claimsOfYear  s' x1' = some z → W p l e (rm_X0_claimsOfYear) sS m args below meth c H locs 0 0 (MQ below (xQ G W0 (cells0 G ad s') (some (.int z))) args sS 0 0 (x_in W0)) (F0 m 0 ls []) := by
  intro s x1 z H locs ls hw hl hf
  unfold f_X0_claimsOfYear at hf
  refine lv_iconst (v := 0) (pc := 0) E.1 E.2.1 dX0_claimsOfYear_0 (by decide) ?_
  refine lv_istore_n (lv' := [(2, .int 0), (0, .ref (ad 0)), (1, .int x1)]) (pc := 1) E.1 E.2.1 dX0_claimsOfYear_1 rfl hl (by decide) rfl (fun ls hl => ?_)
  refine lv_iconst (v := 0) (pc := 2) E.1 E.2.1 dX0_claimsOfYear_2 (by decide) ?_
  refine lv_istore_n (lv' := [(3, .int 0), (2, .int 0), (0, .ref (ad 0)), (1, .int x1)]) (pc := 3) E.1 E.2.1 dX0_claimsOfYear_3 rfl hl (by decide) rfl (fun ls hl => ?_)
  exact wl_X0_claimsOfYear_p4 E hr hk  s x1 0 0 z hw (lv_sub hl [2, 3, 1, 0] rfl) hf
set_option maxHeartbeats 4000000 in
set_option maxRecDepth 100000 in
theorem c_X0_claimsOfYear (l : Launch) (G : xG) (ad : Nat → Nat) (s : S0) (x1 : Int32) {z : Int32} (hf : f_X0_claimsOfYear s x1 = some z) : xC l yX0_claimsOfYear cX0_claimsOfYear 4 (some .int) (rm_X0_claimsOfYear) G [.ref (ad 0), .int x1] (cells0 G ad s) (some (.int z)) (cells0 G ad s) :=
  x_met (by decide) rfl (Nat.le_of_ble_eq_true rfl) (fun p e sS m below meth c E hr hk ls hl hw => w_X0_claimsOfYear_p0 E hr hk s x1 z hw hl hf)
set_option maxHeartbeats 4000000 in
set_option maxRecDepth 100000 in
theorem w_X0_allClaimsAboveCap_p4 {p : Program} {l : Launch} {e : Env} {sS : State} {m : MethodId} {args : Array Value} {below : List Frame} {meth : Method} {c : Code} {G : xG} {W0 : va_W} {ad : Nat → Nat}  {k4 : S0 → Int32 → Int32 → Option (Int32)} (E : xE p sS m args c cX0_allClaimsAboveCap 3 RX0 G (x_in W0)) (hr : meth.sig.returnType = (some .int)) (hk : meth.locks = false) (hk4 : ∀ (s' : S0) (x1' : Int32) (x2' : Int32) (z : Int32) {H : Heap} {locs : List Loc} {ls : Array Slot}, xW G (x_in W0) sS.heap (cells0 G ad s') H locs → lv_has ls 3 [(0, .ref (ad 0)), (1, .int x1'), (2, .int x2')] → k4  s' x1' x2' = some z → W p l e (rm_X0_allClaimsAboveCap) sS m args below meth c H locs 0 0 (MQ below (xQ G W0 (cells0 G ad s') (some (.int z))) args sS 0 0 (x_in W0)) (F0 m 4 ls [])) : ∀ (s' : S0) (x1' : Int32) (x2' : Int32) (z : Int32) {H : Heap} {locs : List Loc} {ls : Array Slot}, xW G (x_in W0) sS.heap (cells0 G ad s') H locs → lv_has ls 3 [(0, .ref (ad 0)), (1, .int x1'), (2, .int x2')] → f_X0_allClaimsAboveCap_p4 k4 s' x1' x2' = some z → W p l e (rm_X0_allClaimsAboveCap) sS m args below meth c H locs 0 0 (MQ below (xQ G W0 (cells0 G ad s') (some (.int z))) args sS 0 0 (x_in W0)) (F0 m 4 ls []) := by
  intro s x1 x2 z H locs ls hw hl hf
  unfold f_X0_allClaimsAboveCap_p4 at hf
  refine lv_iload_n (pc := 4) E.1 E.2.1 dX0_allClaimsAboveCap_4 rfl (lv_at hl 2 rfl) ?_
  refine lv_aload_n (pc := 5) E.1 E.2.1 dX0_allClaimsAboveCap_5 rfl (lv_at hl 0 rfl) ?_
  refine xg_X0_28 (pc := 6) (v := .int (g0_fleets s)) E hw 0 rfl rfl dX0_allClaimsAboveCap_6 ?_
  refine lv_icmp_ge (tgt := 26) (pc := 9) E.1 E.2.1 dX0_allClaimsAboveCap_9 (by decide) (fun q1 => ?_) (fun q1 => ?_)
  · have hf := x_pos q1 hf
    refine lv_iload_n (pc := 26) E.1 E.2.1 dX0_allClaimsAboveCap_26 rfl (lv_at hl 1 rfl) ?_
    obtain rfl := Option.some.inj hf
    exact x_reti (pc := 27) E hr hk hw dX0_allClaimsAboveCap_27
  · have hf := x_neg q1 hf
    refine lv_iload_n (pc := 12) E.1 E.2.1 dX0_allClaimsAboveCap_12 rfl (lv_at hl 1 rfl) ?_
    refine lv_aload_n (pc := 13) E.1 E.2.1 dX0_allClaimsAboveCap_13 rfl (lv_at hl 0 rfl) ?_
    refine lv_iload_n (pc := 14) E.1 E.2.1 dX0_allClaimsAboveCap_14 rfl (lv_at hl 2 rfl) ?_
    obtain ⟨v2, g3, hf⟩ := x_bind hf
    refine x_callVA (pc := 15) (As := [.int x2]) (rest := [.int x1]) (st1 := [.int v2, .int x1]) (ws' := (cells0 G ad s)) E hw hl (c_X0_claimsAboveCap l G ad s x2 g3) xv_X0_117 xd_X0_claimsAboveCap rfl rfl ⟨Nat.le_of_ble_eq_true rfl, Nat.le_of_ble_eq_true rfl⟩ (q0 := 0) rfl rfl rfl rfl (Nat.le_of_ble_eq_true rfl) rfl dX0_allClaimsAboveCap_15 (fun H locs hw => ?_)
    refine lv_iadd (pc := 18) E.1 E.2.1 dX0_allClaimsAboveCap_18 ?_
    refine lv_istore_n (lv' := [(1, .int (x1 + v2)), (0, .ref (ad 0)), (2, .int x2)]) (pc := 19) E.1 E.2.1 dX0_allClaimsAboveCap_19 rfl hl (by decide) rfl (fun ls hl => ?_)
    refine lv_iinc (v := (x2 + 1)) (lv' := [(2, .int (x2 + 1)), (1, .int (x1 + v2)), (0, .ref (ad 0))]) (pc := 20) E.1 E.2.1 dX0_allClaimsAboveCap_20 hl (k := 2) rfl rfl (by decide) rfl (fun ls hl => ?_)
    refine lv_goto (tgt := 4) (pc := 23) E.1 E.2.1 dX0_allClaimsAboveCap_23 (by decide) ?_
    exact hk4 s (x1 + v2) (x2 + 1) z hw (lv_sub hl [2, 1, 0] rfl) hf
set_option maxHeartbeats 4000000 in
set_option maxRecDepth 100000 in
theorem wl_X0_allClaimsAboveCap_p4 {p : Program} {l : Launch} {e : Env} {sS : State} {m : MethodId} {args : Array Value} {below : List Frame} {meth : Method} {c : Code} {G : xG} {W0 : va_W} {ad : Nat → Nat}   (E : xE p sS m args c cX0_allClaimsAboveCap 3 RX0 G (x_in W0)) (hr : meth.sig.returnType = (some .int)) (hk : meth.locks = false)  : ∀ (s' : S0) (x1' : Int32) (x2' : Int32) (z : Int32) {H : Heap} {locs : List Loc} {ls : Array Slot}, xW G (x_in W0) sS.heap (cells0 G ad s') H locs → lv_has ls 3 [(0, .ref (ad 0)), (1, .int x1'), (2, .int x2')] → lp_X0_allClaimsAboveCap_p4  s' x1' x2' = some z → W p l e (rm_X0_allClaimsAboveCap) sS m args below meth c H locs 0 0 (MQ below (xQ G W0 (cells0 G ad s') (some (.int z))) args sS 0 0 (x_in W0)) (F0 m 4 ls []) := by
  intro s x1 x2 z H locs ls hw hl hf
  exact x_loop_W (P := fun (q : S0 × Int32 × Int32) (z : Int32) => ∀ {H : Heap} {locs : List Loc} {ls : Array Slot}, xW G (x_in W0) sS.heap (cells0 G ad q.1) H locs → lv_has ls 3 [(0, .ref (ad 0)), (1, .int q.2.1), (2, .int q.2.2)] → W p l e (rm_X0_allClaimsAboveCap) sS m args below meth c H locs 0 0 (MQ below (xQ G W0 (cells0 G ad q.1) (some (.int z))) args sS 0 0 (x_in W0)) (F0 m 4 ls [])) (fun k hkk q z hf H locs ls hw hl => w_X0_allClaimsAboveCap_p4 E hr hk  (fun s x1 x2 z H locs ls hw hl hf => hkk (s, x1, x2) z hf hw hl) q.1 q.2.1 q.2.2 z hw hl hf) FU (s, x1, x2) z hf hw hl
set_option maxHeartbeats 4000000 in
set_option maxRecDepth 100000 in
theorem w_X0_allClaimsAboveCap_p0 {p : Program} {l : Launch} {e : Env} {sS : State} {m : MethodId} {args : Array Value} {below : List Frame} {meth : Method} {c : Code} {G : xG} {W0 : va_W} {ad : Nat → Nat}   (E : xE p sS m args c cX0_allClaimsAboveCap 3 RX0 G (x_in W0)) (hr : meth.sig.returnType = (some .int)) (hk : meth.locks = false)  : ∀ (s' : S0) (z : Int32) {H : Heap} {locs : List Loc} {ls : Array Slot}, xW G (x_in W0) sS.heap (cells0 G ad s') H locs → lv_has ls 3 [(0, .ref (ad 0))] → f_X0_allClaimsAboveCap  s' = some z → W p l e (rm_X0_allClaimsAboveCap) sS m args below meth c H locs 0 0 (MQ below (xQ G W0 (cells0 G ad s') (some (.int z))) args sS 0 0 (x_in W0)) (F0 m 0 ls []) := by
  intro s z H locs ls hw hl hf
  unfold f_X0_allClaimsAboveCap at hf
  refine lv_iconst (v := 0) (pc := 0) E.1 E.2.1 dX0_allClaimsAboveCap_0 (by decide) ?_
  refine lv_istore_n (lv' := [(1, .int 0), (0, .ref (ad 0))]) (pc := 1) E.1 E.2.1 dX0_allClaimsAboveCap_1 rfl hl (by decide) rfl (fun ls hl => ?_)
  refine lv_iconst (v := 0) (pc := 2) E.1 E.2.1 dX0_allClaimsAboveCap_2 (by decide) ?_
  refine lv_istore_n (lv' := [(2, .int 0), (1, .int 0), (0, .ref (ad 0))]) (pc := 3) E.1 E.2.1 dX0_allClaimsAboveCap_3 rfl hl (by decide) rfl (fun ls hl => ?_)
  exact wl_X0_allClaimsAboveCap_p4 E hr hk  s 0 0 z hw (lv_sub hl [2, 1, 0] rfl) hf
set_option maxHeartbeats 4000000 in
set_option maxRecDepth 100000 in
theorem c_X0_allClaimsAboveCap (l : Launch) (G : xG) (ad : Nat → Nat) (s : S0) {z : Int32} (hf : f_X0_allClaimsAboveCap s = some z) : xC l yX0_allClaimsAboveCap cX0_allClaimsAboveCap 3 (some .int) (rm_X0_allClaimsAboveCap) G [.ref (ad 0)] (cells0 G ad s) (some (.int z)) (cells0 G ad s) :=
  x_met (by decide) rfl (Nat.le_of_ble_eq_true rfl) (fun p e sS m below meth c E hr hk ls hl hw => w_X0_allClaimsAboveCap_p0 E hr hk s z hw hl hf)
set_option maxHeartbeats 4000000 in
set_option maxRecDepth 100000 in
theorem w_X0_fleetsWithoutYears_p4 {p : Program} {l : Launch} {e : Env} {sS : State} {m : MethodId} {args : Array Value} {below : List Frame} {meth : Method} {c : Code} {G : xG} {W0 : va_W} {ad : Nat → Nat}  {k4 : S0 → Int32 → Int32 → Option (Int32)} (E : xE p sS m args c cX0_fleetsWithoutYears 3 RX0 G (x_in W0)) (hr : meth.sig.returnType = (some .int)) (hk : meth.locks = false) (hk4 : ∀ (s' : S0) (x1' : Int32) (x2' : Int32) (z : Int32) {H : Heap} {locs : List Loc} {ls : Array Slot}, xW G (x_in W0) sS.heap (cells0 G ad s') H locs → lv_has ls 3 [(0, .ref (ad 0)), (1, .int x1'), (2, .int x2')] → k4  s' x1' x2' = some z → W p l e (rm_X0_fleetsWithoutYears) sS m args below meth c H locs 0 0 (MQ below (xQ G W0 (cells0 G ad s') (some (.int z))) args sS 0 0 (x_in W0)) (F0 m 4 ls [])) : ∀ (s' : S0) (x1' : Int32) (x2' : Int32) (z : Int32) {H : Heap} {locs : List Loc} {ls : Array Slot}, xW G (x_in W0) sS.heap (cells0 G ad s') H locs → lv_has ls 3 [(0, .ref (ad 0)), (1, .int x1'), (2, .int x2')] → f_X0_fleetsWithoutYears_p4 k4 s' x1' x2' = some z → W p l e (rm_X0_fleetsWithoutYears) sS m args below meth c H locs 0 0 (MQ below (xQ G W0 (cells0 G ad s') (some (.int z))) args sS 0 0 (x_in W0)) (F0 m 4 ls []) := by
  intro s x1 x2 z H locs ls hw hl hf
  unfold f_X0_fleetsWithoutYears_p4 at hf
  refine lv_iload_n (pc := 4) E.1 E.2.1 dX0_fleetsWithoutYears_4 rfl (lv_at hl 2 rfl) ?_
  refine lv_aload_n (pc := 5) E.1 E.2.1 dX0_fleetsWithoutYears_5 rfl (lv_at hl 0 rfl) ?_
  refine xg_X0_28 (pc := 6) (v := .int (g0_fleets s)) E hw 0 rfl rfl dX0_fleetsWithoutYears_6 ?_
  refine lv_icmp_ge (tgt := 29) (pc := 9) E.1 E.2.1 dX0_fleetsWithoutYears_9 (by decide) (fun q1 => ?_) (fun q1 => ?_)
  · have hf := x_pos q1 hf
    refine lv_iload_n (pc := 29) E.1 E.2.1 dX0_fleetsWithoutYears_29 rfl (lv_at hl 1 rfl) ?_
    obtain rfl := Option.some.inj hf
    exact x_reti (pc := 30) E hr hk hw dX0_fleetsWithoutYears_30
  · have hf := x_neg q1 hf
    refine lv_aload_n (pc := 12) E.1 E.2.1 dX0_fleetsWithoutYears_12 rfl (lv_at hl 0 rfl) ?_
    refine lv_iload_n (pc := 13) E.1 E.2.1 dX0_fleetsWithoutYears_13 rfl (lv_at hl 2 rfl) ?_
    obtain ⟨v2, g3, hf⟩ := x_bind hf
    refine x_callVA (pc := 14) (As := [.int x2]) (rest := []) (st1 := [.int v2]) (ws' := (cells0 G ad s)) E hw hl (c_X0_yearsOf l G ad s x2 g3) xv_X0_66 xd_X0_yearsOf rfl rfl ⟨Nat.le_of_ble_eq_true rfl, Nat.le_of_ble_eq_true rfl⟩ (q0 := 0) rfl rfl rfl rfl (Nat.le_of_ble_eq_true rfl) rfl dX0_fleetsWithoutYears_14 (fun H locs hw => ?_)
    refine lv_if_ne (tgt := 23) (pc := 17) E.1 E.2.1 dX0_fleetsWithoutYears_17 (by decide) (fun q4 => ?_) (fun q4 => ?_)
    · have hf := x_neg q4 hf
      refine lv_iinc (v := (x2 + 1)) (lv' := [(2, .int (x2 + 1)), (0, .ref (ad 0)), (1, .int x1)]) (pc := 23) E.1 E.2.1 dX0_fleetsWithoutYears_23 hl (k := 2) rfl rfl (by decide) rfl (fun ls hl => ?_)
      refine lv_goto (tgt := 4) (pc := 26) E.1 E.2.1 dX0_fleetsWithoutYears_26 (by decide) ?_
      exact hk4 s x1 (x2 + 1) z hw (lv_sub hl [1, 2, 0] rfl) hf
    · have hf := x_pos q4 hf
      refine lv_iinc (v := (x1 + 1)) (lv' := [(1, .int (x1 + 1)), (0, .ref (ad 0)), (2, .int x2)]) (pc := 20) E.1 E.2.1 dX0_fleetsWithoutYears_20 hl (k := 1) rfl rfl (by decide) rfl (fun ls hl => ?_)
      refine lv_iinc (v := (x2 + 1)) (lv' := [(2, .int (x2 + 1)), (1, .int (x1 + 1)), (0, .ref (ad 0))]) (pc := 23) E.1 E.2.1 dX0_fleetsWithoutYears_23 hl (k := 2) rfl rfl (by decide) rfl (fun ls hl => ?_)
      refine lv_goto (tgt := 4) (pc := 26) E.1 E.2.1 dX0_fleetsWithoutYears_26 (by decide) ?_
      exact hk4 s (x1 + 1) (x2 + 1) z hw (lv_sub hl [2, 1, 0] rfl) hf
set_option maxHeartbeats 4000000 in
set_option maxRecDepth 100000 in
theorem wl_X0_fleetsWithoutYears_p4 {p : Program} {l : Launch} {e : Env} {sS : State} {m : MethodId} {args : Array Value} {below : List Frame} {meth : Method} {c : Code} {G : xG} {W0 : va_W} {ad : Nat → Nat}   (E : xE p sS m args c cX0_fleetsWithoutYears 3 RX0 G (x_in W0)) (hr : meth.sig.returnType = (some .int)) (hk : meth.locks = false)  : ∀ (s' : S0) (x1' : Int32) (x2' : Int32) (z : Int32) {H : Heap} {locs : List Loc} {ls : Array Slot}, xW G (x_in W0) sS.heap (cells0 G ad s') H locs → lv_has ls 3 [(0, .ref (ad 0)), (1, .int x1'), (2, .int x2')] → lp_X0_fleetsWithoutYears_p4  s' x1' x2' = some z → W p l e (rm_X0_fleetsWithoutYears) sS m args below meth c H locs 0 0 (MQ below (xQ G W0 (cells0 G ad s') (some (.int z))) args sS 0 0 (x_in W0)) (F0 m 4 ls []) := by
  intro s x1 x2 z H locs ls hw hl hf
  exact x_loop_W (P := fun (q : S0 × Int32 × Int32) (z : Int32) => ∀ {H : Heap} {locs : List Loc} {ls : Array Slot}, xW G (x_in W0) sS.heap (cells0 G ad q.1) H locs → lv_has ls 3 [(0, .ref (ad 0)), (1, .int q.2.1), (2, .int q.2.2)] → W p l e (rm_X0_fleetsWithoutYears) sS m args below meth c H locs 0 0 (MQ below (xQ G W0 (cells0 G ad q.1) (some (.int z))) args sS 0 0 (x_in W0)) (F0 m 4 ls [])) (fun k hkk q z hf H locs ls hw hl => w_X0_fleetsWithoutYears_p4 E hr hk  (fun s x1 x2 z H locs ls hw hl hf => hkk (s, x1, x2) z hf hw hl) q.1 q.2.1 q.2.2 z hw hl hf) FU (s, x1, x2) z hf hw hl
set_option maxHeartbeats 4000000 in
set_option maxRecDepth 100000 in
theorem w_X0_fleetsWithoutYears_p0 {p : Program} {l : Launch} {e : Env} {sS : State} {m : MethodId} {args : Array Value} {below : List Frame} {meth : Method} {c : Code} {G : xG} {W0 : va_W} {ad : Nat → Nat}   (E : xE p sS m args c cX0_fleetsWithoutYears 3 RX0 G (x_in W0)) (hr : meth.sig.returnType = (some .int)) (hk : meth.locks = false)  : ∀ (s' : S0) (z : Int32) {H : Heap} {locs : List Loc} {ls : Array Slot}, xW G (x_in W0) sS.heap (cells0 G ad s') H locs → lv_has ls 3 [(0, .ref (ad 0))] → f_X0_fleetsWithoutYears  s' = some z → W p l e (rm_X0_fleetsWithoutYears) sS m args below meth c H locs 0 0 (MQ below (xQ G W0 (cells0 G ad s') (some (.int z))) args sS 0 0 (x_in W0)) (F0 m 0 ls []) := by
  intro s z H locs ls hw hl hf
  unfold f_X0_fleetsWithoutYears at hf
  refine lv_iconst (v := 0) (pc := 0) E.1 E.2.1 dX0_fleetsWithoutYears_0 (by decide) ?_
  refine lv_istore_n (lv' := [(1, .int 0), (0, .ref (ad 0))]) (pc := 1) E.1 E.2.1 dX0_fleetsWithoutYears_1 rfl hl (by decide) rfl (fun ls hl => ?_)
  refine lv_iconst (v := 0) (pc := 2) E.1 E.2.1 dX0_fleetsWithoutYears_2 (by decide) ?_
  refine lv_istore_n (lv' := [(2, .int 0), (1, .int 0), (0, .ref (ad 0))]) (pc := 3) E.1 E.2.1 dX0_fleetsWithoutYears_3 rfl hl (by decide) rfl (fun ls hl => ?_)
  exact wl_X0_fleetsWithoutYears_p4 E hr hk  s 0 0 z hw (lv_sub hl [2, 1, 0] rfl) hf
set_option maxHeartbeats 4000000 in
set_option maxRecDepth 100000 in
theorem c_X0_fleetsWithoutYears (l : Launch) (G : xG) (ad : Nat → Nat) (s : S0) {z : Int32} (hf : f_X0_fleetsWithoutYears s = some z) : xC l yX0_fleetsWithoutYears cX0_fleetsWithoutYears 3 (some .int) (rm_X0_fleetsWithoutYears) G [.ref (ad 0)] (cells0 G ad s) (some (.int z)) (cells0 G ad s) :=
  x_met (by decide) rfl (Nat.le_of_ble_eq_true rfl) (fun p e sS m below meth c E hr hk ls hl hw => w_X0_fleetsWithoutYears_p0 E hr hk s z hw hl hf)
set_option maxHeartbeats 4000000 in
set_option maxRecDepth 100000 in
theorem w_X0_yearsOfAll_p4 {p : Program} {l : Launch} {e : Env} {sS : State} {m : MethodId} {args : Array Value} {below : List Frame} {meth : Method} {c : Code} {G : xG} {W0 : va_W} {ad : Nat → Nat}  {k4 : S0 → Int32 → Int32 → Option (Int32)} (E : xE p sS m args c cX0_yearsOfAll 3 RX0 G (x_in W0)) (hr : meth.sig.returnType = (some .int)) (hk : meth.locks = false) (hk4 : ∀ (s' : S0) (x1' : Int32) (x2' : Int32) (z : Int32) {H : Heap} {locs : List Loc} {ls : Array Slot}, xW G (x_in W0) sS.heap (cells0 G ad s') H locs → lv_has ls 3 [(0, .ref (ad 0)), (1, .int x1'), (2, .int x2')] → k4  s' x1' x2' = some z → W p l e (rm_X0_yearsOfAll) sS m args below meth c H locs 0 0 (MQ below (xQ G W0 (cells0 G ad s') (some (.int z))) args sS 0 0 (x_in W0)) (F0 m 4 ls [])) : ∀ (s' : S0) (x1' : Int32) (x2' : Int32) (z : Int32) {H : Heap} {locs : List Loc} {ls : Array Slot}, xW G (x_in W0) sS.heap (cells0 G ad s') H locs → lv_has ls 3 [(0, .ref (ad 0)), (1, .int x1'), (2, .int x2')] → f_X0_yearsOfAll_p4 k4 s' x1' x2' = some z → W p l e (rm_X0_yearsOfAll) sS m args below meth c H locs 0 0 (MQ below (xQ G W0 (cells0 G ad s') (some (.int z))) args sS 0 0 (x_in W0)) (F0 m 4 ls []) := by
  intro s x1 x2 z H locs ls hw hl hf
  unfold f_X0_yearsOfAll_p4 at hf
  refine lv_iload_n (pc := 4) E.1 E.2.1 dX0_yearsOfAll_4 rfl (lv_at hl 2 rfl) ?_
  refine lv_aload_n (pc := 5) E.1 E.2.1 dX0_yearsOfAll_5 rfl (lv_at hl 0 rfl) ?_
  refine xg_X0_28 (pc := 6) (v := .int (g0_fleets s)) E hw 0 rfl rfl dX0_yearsOfAll_6 ?_
  refine lv_icmp_ge (tgt := 26) (pc := 9) E.1 E.2.1 dX0_yearsOfAll_9 (by decide) (fun q1 => ?_) (fun q1 => ?_)
  · have hf := x_pos q1 hf
    refine lv_iload_n (pc := 26) E.1 E.2.1 dX0_yearsOfAll_26 rfl (lv_at hl 1 rfl) ?_
    obtain rfl := Option.some.inj hf
    exact x_reti (pc := 27) E hr hk hw dX0_yearsOfAll_27
  · have hf := x_neg q1 hf
    refine lv_iload_n (pc := 12) E.1 E.2.1 dX0_yearsOfAll_12 rfl (lv_at hl 1 rfl) ?_
    refine lv_aload_n (pc := 13) E.1 E.2.1 dX0_yearsOfAll_13 rfl (lv_at hl 0 rfl) ?_
    refine lv_iload_n (pc := 14) E.1 E.2.1 dX0_yearsOfAll_14 rfl (lv_at hl 2 rfl) ?_
    obtain ⟨v2, g3, hf⟩ := x_bind hf
    refine x_callVA (pc := 15) (As := [.int x2]) (rest := [.int x1]) (st1 := [.int v2, .int x1]) (ws' := (cells0 G ad s)) E hw hl (c_X0_yearsOf l G ad s x2 g3) xv_X0_66 xd_X0_yearsOf rfl rfl ⟨Nat.le_of_ble_eq_true rfl, Nat.le_of_ble_eq_true rfl⟩ (q0 := 0) rfl rfl rfl rfl (Nat.le_of_ble_eq_true rfl) rfl dX0_yearsOfAll_15 (fun H locs hw => ?_)
    refine lv_ior (pc := 18) E.1 E.2.1 dX0_yearsOfAll_18 ?_
    refine lv_istore_n (lv' := [(1, .int (x1 ||| v2)), (0, .ref (ad 0)), (2, .int x2)]) (pc := 19) E.1 E.2.1 dX0_yearsOfAll_19 rfl hl (by decide) rfl (fun ls hl => ?_)
    refine lv_iinc (v := (x2 + 1)) (lv' := [(2, .int (x2 + 1)), (1, .int (x1 ||| v2)), (0, .ref (ad 0))]) (pc := 20) E.1 E.2.1 dX0_yearsOfAll_20 hl (k := 2) rfl rfl (by decide) rfl (fun ls hl => ?_)
    refine lv_goto (tgt := 4) (pc := 23) E.1 E.2.1 dX0_yearsOfAll_23 (by decide) ?_
    exact hk4 s (x1 ||| v2) (x2 + 1) z hw (lv_sub hl [2, 1, 0] rfl) hf
set_option maxHeartbeats 4000000 in
set_option maxRecDepth 100000 in
theorem wl_X0_yearsOfAll_p4 {p : Program} {l : Launch} {e : Env} {sS : State} {m : MethodId} {args : Array Value} {below : List Frame} {meth : Method} {c : Code} {G : xG} {W0 : va_W} {ad : Nat → Nat}   (E : xE p sS m args c cX0_yearsOfAll 3 RX0 G (x_in W0)) (hr : meth.sig.returnType = (some .int)) (hk : meth.locks = false)  : ∀ (s' : S0) (x1' : Int32) (x2' : Int32) (z : Int32) {H : Heap} {locs : List Loc} {ls : Array Slot}, xW G (x_in W0) sS.heap (cells0 G ad s') H locs → lv_has ls 3 [(0, .ref (ad 0)), (1, .int x1'), (2, .int x2')] → lp_X0_yearsOfAll_p4  s' x1' x2' = some z → W p l e (rm_X0_yearsOfAll) sS m args below meth c H locs 0 0 (MQ below (xQ G W0 (cells0 G ad s') (some (.int z))) args sS 0 0 (x_in W0)) (F0 m 4 ls []) := by
  intro s x1 x2 z H locs ls hw hl hf
  exact x_loop_W (P := fun (q : S0 × Int32 × Int32) (z : Int32) => ∀ {H : Heap} {locs : List Loc} {ls : Array Slot}, xW G (x_in W0) sS.heap (cells0 G ad q.1) H locs → lv_has ls 3 [(0, .ref (ad 0)), (1, .int q.2.1), (2, .int q.2.2)] → W p l e (rm_X0_yearsOfAll) sS m args below meth c H locs 0 0 (MQ below (xQ G W0 (cells0 G ad q.1) (some (.int z))) args sS 0 0 (x_in W0)) (F0 m 4 ls [])) (fun k hkk q z hf H locs ls hw hl => w_X0_yearsOfAll_p4 E hr hk  (fun s x1 x2 z H locs ls hw hl hf => hkk (s, x1, x2) z hf hw hl) q.1 q.2.1 q.2.2 z hw hl hf) FU (s, x1, x2) z hf hw hl
set_option maxHeartbeats 4000000 in
set_option maxRecDepth 100000 in
theorem w_X0_yearsOfAll_p0 {p : Program} {l : Launch} {e : Env} {sS : State} {m : MethodId} {args : Array Value} {below : List Frame} {meth : Method} {c : Code} {G : xG} {W0 : va_W} {ad : Nat → Nat}   (E : xE p sS m args c cX0_yearsOfAll 3 RX0 G (x_in W0)) (hr : meth.sig.returnType = (some .int)) (hk : meth.locks = false)  : ∀ (s' : S0) (z : Int32) {H : Heap} {locs : List Loc} {ls : Array Slot}, xW G (x_in W0) sS.heap (cells0 G ad s') H locs → lv_has ls 3 [(0, .ref (ad 0))] → f_X0_yearsOfAll  s' = some z → W p l e (rm_X0_yearsOfAll) sS m args below meth c H locs 0 0 (MQ below (xQ G W0 (cells0 G ad s') (some (.int z))) args sS 0 0 (x_in W0)) (F0 m 0 ls []) := by
  intro s z H locs ls hw hl hf
  unfold f_X0_yearsOfAll at hf
  refine lv_iconst (v := 0) (pc := 0) E.1 E.2.1 dX0_yearsOfAll_0 (by decide) ?_
  refine lv_istore_n (lv' := [(1, .int 0), (0, .ref (ad 0))]) (pc := 1) E.1 E.2.1 dX0_yearsOfAll_1 rfl hl (by decide) rfl (fun ls hl => ?_)
  refine lv_iconst (v := 0) (pc := 2) E.1 E.2.1 dX0_yearsOfAll_2 (by decide) ?_
  refine lv_istore_n (lv' := [(2, .int 0), (1, .int 0), (0, .ref (ad 0))]) (pc := 3) E.1 E.2.1 dX0_yearsOfAll_3 rfl hl (by decide) rfl (fun ls hl => ?_)
  exact wl_X0_yearsOfAll_p4 E hr hk  s 0 0 z hw (lv_sub hl [2, 1, 0] rfl) hf
set_option maxHeartbeats 4000000 in
set_option maxRecDepth 100000 in
theorem c_X0_yearsOfAll (l : Launch) (G : xG) (ad : Nat → Nat) (s : S0) {z : Int32} (hf : f_X0_yearsOfAll s = some z) : xC l yX0_yearsOfAll cX0_yearsOfAll 3 (some .int) (rm_X0_yearsOfAll) G [.ref (ad 0)] (cells0 G ad s) (some (.int z)) (cells0 G ad s) :=
  x_met (by decide) rfl (Nat.le_of_ble_eq_true rfl) (fun p e sS m below meth c E hr hk ls hl hw => w_X0_yearsOfAll_p0 E hr hk s z hw hl hf)
