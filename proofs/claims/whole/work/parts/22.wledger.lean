set_option maxHeartbeats 4000000 in
set_option maxRecDepth 100000 in
theorem w_X1_sumLosses_p10 {p : Program} {l : Launch} {e : Env} {sS : State} {m : MethodId} {args : Array Value} {below : List Frame} {meth : Method} {c : Code} {G : xG} {W0 : va_W} {ad : Nat → Nat} {ae : Nat → Nat}  {k10 : S1 → S0 → Int32 → Option (S1)} (E : xE p sS m args c cX1_sumLosses 4 RX1 G (x_in W0)) (hr : meth.sig.returnType = none) (hk : meth.locks = false) (hk10 : ∀ (s' : S1) (q' : S0) (x2' : Int32) (z : S1) {H : Heap} {locs : List Loc} {ls : Array Slot}, xW G (x_in W0) sS.heap (cells1 G ad s' ++ cells0 G ae q') H locs → lv_has ls 4 [(0, .ref (ad 0)), (1, .ref (ae 0)), (2, .int x2')] → k10  s' q' x2' = some z → W p l e (rm_X1_sumLosses) sS m args below meth c H locs 0 0 (MQ below (xQ G W0 (cells1 G ad z ++ cells0 G ae q') none) args sS 0 0 (x_in W0)) (F0 m 10 ls [])) : ∀ (s' : S1) (q' : S0) (x2' : Int32) (z : S1) {H : Heap} {locs : List Loc} {ls : Array Slot}, xW G (x_in W0) sS.heap (cells1 G ad s' ++ cells0 G ae q') H locs → lv_has ls 4 [(0, .ref (ad 0)), (1, .ref (ae 0)), (2, .int x2')] → f_X1_sumLosses_p10 k10 s' q' x2' = some z → W p l e (rm_X1_sumLosses) sS m args below meth c H locs 0 0 (MQ below (xQ G W0 (cells1 G ad z ++ cells0 G ae q') none) args sS 0 0 (x_in W0)) (F0 m 10 ls []) := by
  intro s q x2 z H locs ls hw hl hf
  unfold f_X1_sumLosses_p10 at hf
  refine lv_iload_n (pc := 10) E.1 E.2.1 dX1_sumLosses_10 rfl (lv_at hl 2 rfl) ?_
  refine lv_aload_n (pc := 11) E.1 E.2.1 dX1_sumLosses_11 rfl (lv_at hl 1 rfl) ?_
  refine xg_X1_107 (pc := 12) (v := .int (g0_claims q)) E hw 15 rfl rfl dX1_sumLosses_12 ?_
  refine lv_icmp_ge (tgt := 65) (pc := 15) E.1 E.2.1 dX1_sumLosses_15 (by decide) (fun q1 => ?_) (fun q1 => ?_)
  · have hf := x_pos q1 hf
    obtain rfl := Option.some.inj hf
    exact x_retv (pc := 65) E hr hk hw dX1_sumLosses_65
  · have hf := x_neg q1 hf
    refine lv_aload_n (pc := 18) E.1 E.2.1 dX1_sumLosses_18 rfl (lv_at hl 1 rfl) ?_
    refine lv_iload_n (pc := 19) E.1 E.2.1 dX1_sumLosses_19 rfl (lv_at hl 2 rfl) ?_
    obtain ⟨v2, g3, hf⟩ := x_bind hf
    refine x_callV (pc := 20) (As := [.int x2]) (rest := []) (st1 := [.int v2]) (ws' := (cells1 G ad s ++ cells0 G ae q)) E hw hl (c_X0_fleetOf l G ae q x2 g3) xv_X1_110 xd_X0_fleetOf rfl rfl ⟨Nat.le_of_ble_eq_true rfl, Nat.le_of_ble_eq_true rfl⟩ [15, 16, 17, 18] [0, 1, 2, 3, 4, 5, 6, 7, 8, 9, 10, 11, 12, 13, 14] (by decide) ⟨rfl, rfl, rfl, rfl, trivial⟩ (q0 := 15) rfl rfl rfl rfl (Nat.le_of_ble_eq_true rfl) (nw := 19) ⟨rfl, rfl, rfl, rfl, trivial⟩ ⟨⟨_, rfl, rfl⟩, ⟨_, rfl, rfl⟩, ⟨_, rfl, rfl⟩, ⟨_, rfl, rfl⟩, ⟨_, rfl, rfl⟩, ⟨_, rfl, rfl⟩, ⟨_, rfl, rfl⟩, ⟨_, rfl, rfl⟩, ⟨_, rfl, rfl⟩, ⟨_, rfl, rfl⟩, ⟨_, rfl, rfl⟩, ⟨_, rfl, rfl⟩, ⟨_, rfl, rfl⟩, ⟨_, rfl, rfl⟩, ⟨_, rfl, rfl⟩, trivial⟩ rfl rfl (by decide) (by decide) rfl dX1_sumLosses_20 (fun H locs hw => ?_)
    refine lv_iconst (v := 5) (pc := 23) E.1 E.2.1 dX1_sumLosses_23 (by decide) ?_
    refine lv_imul (pc := 24) E.1 E.2.1 dX1_sumLosses_24 ?_
    refine lv_aload_n (pc := 25) E.1 E.2.1 dX1_sumLosses_25 rfl (lv_at hl 1 rfl) ?_
    refine lv_iload_n (pc := 26) E.1 E.2.1 dX1_sumLosses_26 rfl (lv_at hl 2 rfl) ?_
    obtain ⟨v4, g5, hf⟩ := x_bind hf
    refine x_callV (pc := 27) (As := [.int x2]) (rest := [.int (v2 * (5 : Int32))]) (st1 := [.int v4, .int (v2 * (5 : Int32))]) (ws' := (cells1 G ad s ++ cells0 G ae q)) E hw hl (c_X0_yearOf l G ae q x2 g5) xv_X1_114 xd_X0_yearOf rfl rfl ⟨Nat.le_of_ble_eq_true rfl, Nat.le_of_ble_eq_true rfl⟩ [15, 16, 17, 18] [0, 1, 2, 3, 4, 5, 6, 7, 8, 9, 10, 11, 12, 13, 14] (by decide) ⟨rfl, rfl, rfl, rfl, trivial⟩ (q0 := 15) rfl rfl rfl rfl (Nat.le_of_ble_eq_true rfl) (nw := 19) ⟨rfl, rfl, rfl, rfl, trivial⟩ ⟨⟨_, rfl, rfl⟩, ⟨_, rfl, rfl⟩, ⟨_, rfl, rfl⟩, ⟨_, rfl, rfl⟩, ⟨_, rfl, rfl⟩, ⟨_, rfl, rfl⟩, ⟨_, rfl, rfl⟩, ⟨_, rfl, rfl⟩, ⟨_, rfl, rfl⟩, ⟨_, rfl, rfl⟩, ⟨_, rfl, rfl⟩, ⟨_, rfl, rfl⟩, ⟨_, rfl, rfl⟩, ⟨_, rfl, rfl⟩, ⟨_, rfl, rfl⟩, trivial⟩ rfl rfl (by decide) (by decide) rfl dX1_sumLosses_27 (fun H locs hw => ?_)
    refine lv_iadd (pc := 30) E.1 E.2.1 dX1_sumLosses_30 ?_
    refine lv_istore_n (lv' := [(3, .int ((v2 * (5 : Int32)) + v4)), (0, .ref (ad 0)), (1, .ref (ae 0)), (2, .int x2)]) (pc := 31) E.1 E.2.1 dX1_sumLosses_31 rfl hl (by decide) rfl (fun ls hl => ?_)
    refine lv_iload_n (pc := 32) E.1 E.2.1 dX1_sumLosses_32 rfl (lv_at hl 0 rfl) ?_
    refine lv_if_lt (tgt := 59) (pc := 33) E.1 E.2.1 dX1_sumLosses_33 (by decide) (fun q6 => ?_) (fun q6 => ?_)
    · have hf := x_pos q6 hf
      refine lv_iinc (v := (x2 + 1)) (lv' := [(2, .int (x2 + 1)), (3, .int ((v2 * (5 : Int32)) + v4)), (0, .ref (ad 0)), (1, .ref (ae 0))]) (pc := 59) E.1 E.2.1 dX1_sumLosses_59 hl (k := 3) rfl rfl (by decide) rfl (fun ls hl => ?_)
      refine lv_goto (tgt := 10) (pc := 62) E.1 E.2.1 dX1_sumLosses_62 (by decide) ?_
      exact hk10 s q (x2 + 1) z hw (lv_sub hl [2, 3, 0] rfl) hf
    · have hf := x_neg q6 hf
      refine lv_iload_n (pc := 36) E.1 E.2.1 dX1_sumLosses_36 rfl (lv_at hl 0 rfl) ?_
      refine lv_aload_n (pc := 37) E.1 E.2.1 dX1_sumLosses_37 rfl (lv_at hl 1 rfl) ?_
      refine xg_X1_15 (pc := 38) (v := .ref (ad 2)) E hw 0 rfl rfl dX1_sumLosses_38 ?_
      refine x_alen (pc := 41) (v := 40) E hw 2 rfl rfl dX1_sumLosses_41 ?_
      refine lv_icmp_ge (tgt := 59) (pc := 42) E.1 E.2.1 dX1_sumLosses_42 (by decide) (fun q7 => ?_) (fun q7 => ?_)
      · have hf := x_pos q7 hf
        refine lv_iinc (v := (x2 + 1)) (lv' := [(2, .int (x2 + 1)), (3, .int ((v2 * (5 : Int32)) + v4)), (0, .ref (ad 0)), (1, .ref (ae 0))]) (pc := 59) E.1 E.2.1 dX1_sumLosses_59 hl (k := 3) rfl rfl (by decide) rfl (fun ls hl => ?_)
        refine lv_goto (tgt := 10) (pc := 62) E.1 E.2.1 dX1_sumLosses_62 (by decide) ?_
        exact hk10 s q (x2 + 1) z hw (lv_sub hl [2, 3, 0] rfl) hf
      · have hf := x_neg q7 hf
        refine lv_aload_n (pc := 45) E.1 E.2.1 dX1_sumLosses_45 rfl (lv_at hl 1 rfl) ?_
        refine xg_X1_15 (pc := 46) (v := .ref (ad 2)) E hw 0 rfl rfl dX1_sumLosses_46 ?_
        refine lv_iload_n (pc := 49) E.1 E.2.1 dX1_sumLosses_49 rfl (lv_at hl 0 rfl) ?_
        refine lv_dup2_11 (pc := 50) E.1 E.2.1 dX1_sumLosses_50 rfl rfl ?_
        obtain ⟨v9, g8, hf⟩ := x_bind hf
        refine x_iald (pc := 51) E hw 2 rfl g8 dX1_sumLosses_51 ?_
        refine lv_aload_n (pc := 52) E.1 E.2.1 dX1_sumLosses_52 rfl (lv_at hl 2 rfl) ?_
        refine lv_iload_n (pc := 53) E.1 E.2.1 dX1_sumLosses_53 rfl (lv_at hl 3 rfl) ?_
        obtain ⟨v10, g11, hf⟩ := x_bind hf
        refine x_callV (pc := 54) (As := [.int x2]) (rest := [.int v9, .int ((v2 * (5 : Int32)) + v4), .ref (ad 2)]) (st1 := [.int v10, .int v9, .int ((v2 * (5 : Int32)) + v4), .ref (ad 2)]) (ws' := (cells1 G ad s ++ cells0 G ae q)) E hw hl (c_X0_countedOf l G ae q x2 g11) xv_X1_117 xd_X0_countedOf rfl rfl ⟨Nat.le_of_ble_eq_true rfl, Nat.le_of_ble_eq_true rfl⟩ [15, 16, 17, 18] [0, 1, 2, 3, 4, 5, 6, 7, 8, 9, 10, 11, 12, 13, 14] (by decide) ⟨rfl, rfl, rfl, rfl, trivial⟩ (q0 := 15) rfl rfl rfl rfl (Nat.le_of_ble_eq_true rfl) (nw := 19) ⟨rfl, rfl, rfl, rfl, trivial⟩ ⟨⟨_, rfl, rfl⟩, ⟨_, rfl, rfl⟩, ⟨_, rfl, rfl⟩, ⟨_, rfl, rfl⟩, ⟨_, rfl, rfl⟩, ⟨_, rfl, rfl⟩, ⟨_, rfl, rfl⟩, ⟨_, rfl, rfl⟩, ⟨_, rfl, rfl⟩, ⟨_, rfl, rfl⟩, ⟨_, rfl, rfl⟩, ⟨_, rfl, rfl⟩, ⟨_, rfl, rfl⟩, ⟨_, rfl, rfl⟩, ⟨_, rfl, rfl⟩, trivial⟩ rfl rfl (by decide) (by decide) rfl dX1_sumLosses_54 (fun H locs hw => ?_)
        refine lv_iadd (pc := 57) E.1 E.2.1 dX1_sumLosses_57 ?_
        obtain ⟨w13, g12, hf⟩ := x_bind hf
        refine x_iast (pc := 58) (ws' := (cells1c G ad (g1_fleets s) (g1_allSum s) (g1_allSpan s) (g1_classes s) w13 (g1_spans s) (g1_sums s) (g1_squares s) (g1_shares s) (g1_poolA s) (g1_poolB s) (g1_poolC s) (g1_first s) (g1_second s) ++ cells0 G ae q)) E hw 2 rfl g12 rfl dX1_sumLosses_58 (fun H locs hw => ?_)
        refine lv_iinc (v := (x2 + 1)) (lv' := [(2, .int (x2 + 1)), (3, .int ((v2 * (5 : Int32)) + v4)), (0, .ref (ad 0)), (1, .ref (ae 0))]) (pc := 59) E.1 E.2.1 dX1_sumLosses_59 hl (k := 3) rfl rfl (by decide) rfl (fun ls hl => ?_)
        refine lv_goto (tgt := 10) (pc := 62) E.1 E.2.1 dX1_sumLosses_62 (by decide) ?_
        exact hk10 (u1_losses s w13) q (x2 + 1) z hw (lv_sub hl [2, 3, 0] rfl) hf
set_option maxHeartbeats 4000000 in
set_option maxRecDepth 100000 in
theorem wl_X1_sumLosses_p10 {p : Program} {l : Launch} {e : Env} {sS : State} {m : MethodId} {args : Array Value} {below : List Frame} {meth : Method} {c : Code} {G : xG} {W0 : va_W} {ad : Nat → Nat} {ae : Nat → Nat}   (E : xE p sS m args c cX1_sumLosses 4 RX1 G (x_in W0)) (hr : meth.sig.returnType = none) (hk : meth.locks = false)  : ∀ (s' : S1) (q' : S0) (x2' : Int32) (z : S1) {H : Heap} {locs : List Loc} {ls : Array Slot}, xW G (x_in W0) sS.heap (cells1 G ad s' ++ cells0 G ae q') H locs → lv_has ls 4 [(0, .ref (ad 0)), (1, .ref (ae 0)), (2, .int x2')] → lp_X1_sumLosses_p10  s' q' x2' = some z → W p l e (rm_X1_sumLosses) sS m args below meth c H locs 0 0 (MQ below (xQ G W0 (cells1 G ad z ++ cells0 G ae q') none) args sS 0 0 (x_in W0)) (F0 m 10 ls []) := by
  intro s q x2 z H locs ls hw hl hf
  exact x_loop_W (P := fun (q : S1 × S0 × Int32) (z : S1) => ∀ {H : Heap} {locs : List Loc} {ls : Array Slot}, xW G (x_in W0) sS.heap (cells1 G ad q.1 ++ cells0 G ae q.2.1) H locs → lv_has ls 4 [(0, .ref (ad 0)), (1, .ref (ae 0)), (2, .int q.2.2)] → W p l e (rm_X1_sumLosses) sS m args below meth c H locs 0 0 (MQ below (xQ G W0 (cells1 G ad z ++ cells0 G ae q.2.1) none) args sS 0 0 (x_in W0)) (F0 m 10 ls [])) (fun k hkk q z hf H locs ls hw hl => w_X1_sumLosses_p10 E hr hk  (fun s q x2 z H locs ls hw hl hf => hkk (s, q, x2) z hf hw hl) q.1 q.2.1 q.2.2 z hw hl hf) FU (s, q, x2) z hf hw hl
set_option maxHeartbeats 4000000 in
set_option maxRecDepth 100000 in
theorem w_X1_sumLosses_p0 {p : Program} {l : Launch} {e : Env} {sS : State} {m : MethodId} {args : Array Value} {below : List Frame} {meth : Method} {c : Code} {G : xG} {W0 : va_W} {ad : Nat → Nat} {ae : Nat → Nat}   (E : xE p sS m args c cX1_sumLosses 4 RX1 G (x_in W0)) (hr : meth.sig.returnType = none) (hk : meth.locks = false)  : ∀ (s' : S1) (q' : S0) (z : S1) {H : Heap} {locs : List Loc} {ls : Array Slot}, xW G (x_in W0) sS.heap (cells1 G ad s' ++ cells0 G ae q') H locs → lv_has ls 4 [(0, .ref (ad 0)), (1, .ref (ae 0))] → f_X1_sumLosses  s' q' = some z → W p l e (rm_X1_sumLosses) sS m args below meth c H locs 0 0 (MQ below (xQ G W0 (cells1 G ad z ++ cells0 G ae q') none) args sS 0 0 (x_in W0)) (F0 m 0 ls []) := by
  intro s q z H locs ls hw hl hf
  unfold f_X1_sumLosses at hf
  refine lv_aload_n (pc := 0) E.1 E.2.1 dX1_sumLosses_0 rfl (lv_at hl 0 rfl) ?_
  refine xg_X1_15 (pc := 1) (v := .ref (ad 2)) E hw 0 rfl rfl dX1_sumLosses_1 ?_
  refine lv_iconst (v := 0) (pc := 4) E.1 E.2.1 dX1_sumLosses_4 (by decide) ?_
  obtain ⟨v1, g2, hf⟩ := x_bind hf
  refine x_callSX (pc := 5) (As := [.ref (ad 2), .int 0]) (rest := []) (st1 := []) (ws' := (cells1c G ad (g1_fleets s) (g1_allSum s) (g1_allSpan s) (g1_classes s) v1 (g1_spans s) (g1_sums s) (g1_squares s) (g1_shares s) (g1_poolA s) (g1_poolB s) (g1_poolC s) (g1_first s) (g1_second s) ++ cells0 G ae q)) E hw hl (c_J7_fill_53178 l G (fun k => ad (k + 2)) (g1_losses s) 0 g2) wq_780 wq_782 wq_781 wq_111 xe_J7_fill_53178 rfl rfl ⟨Nat.le_of_ble_eq_true rfl, Nat.le_of_ble_eq_true rfl⟩ [2] [0, 1, 3, 4, 5, 6, 7, 8, 9, 10, 11, 12, 13, 14, 15, 16, 17, 18] (by decide) ⟨rfl, trivial⟩ rfl rfl (Nat.le_of_ble_eq_true rfl) (nw := 19) ⟨rfl, trivial⟩ ⟨⟨_, rfl, rfl⟩, ⟨_, rfl, rfl⟩, ⟨_, rfl, rfl⟩, ⟨_, rfl, rfl⟩, ⟨_, rfl, rfl⟩, ⟨_, rfl, rfl⟩, ⟨_, rfl, rfl⟩, ⟨_, rfl, rfl⟩, ⟨_, rfl, rfl⟩, ⟨_, rfl, rfl⟩, ⟨_, rfl, rfl⟩, ⟨_, rfl, rfl⟩, ⟨_, rfl, rfl⟩, ⟨_, rfl, rfl⟩, ⟨_, rfl, rfl⟩, ⟨_, rfl, rfl⟩, ⟨_, rfl, rfl⟩, ⟨_, rfl, rfl⟩, trivial⟩ rfl rfl (by decide) (by decide) rfl dX1_sumLosses_5 (fun H locs hw => ?_)
  refine lv_iconst (v := 0) (pc := 8) E.1 E.2.1 dX1_sumLosses_8 (by decide) ?_
  refine lv_istore_n (lv' := [(2, .int 0), (0, .ref (ad 0)), (1, .ref (ae 0))]) (pc := 9) E.1 E.2.1 dX1_sumLosses_9 rfl hl (by decide) rfl (fun ls hl => ?_)
  exact wl_X1_sumLosses_p10 E hr hk  (u1_losses s v1) q 0 z hw (lv_sub hl [1, 2, 0] rfl) hf
set_option maxHeartbeats 4000000 in
set_option maxRecDepth 100000 in
theorem c_X1_sumLosses (l : Launch) (G : xG) (ad : Nat → Nat) (ae : Nat → Nat) (s : S1) (q : S0) {z : S1} (hf : f_X1_sumLosses s q = some z) : xC l yX1_sumLosses cX1_sumLosses 4 none (rm_X1_sumLosses) G [.ref (ad 0), .ref (ae 0)] (cells1 G ad s ++ cells0 G ae q) none (cells1 G ad z ++ cells0 G ae q) :=
  x_met (by decide) rfl (Nat.le_of_ble_eq_true rfl) (fun p e sS m below meth c E hr hk ls hl hw => w_X1_sumLosses_p0 E hr hk s q z hw hl hf)
set_option maxHeartbeats 4000000 in
set_option maxRecDepth 100000 in
theorem w_X1_hasRow_p0 {p : Program} {l : Launch} {e : Env} {sS : State} {m : MethodId} {args : Array Value} {below : List Frame} {meth : Method} {c : Code} {G : xG} {W0 : va_W} {ad : Nat → Nat}   (E : xE p sS m args c cX1_hasRow 2 RX1 G (x_in W0)) (hr : meth.sig.returnType = (some .boolean)) (hk : meth.locks = false)  : ∀ (s' : S1) (x1' : Int32) (z : Int32) {H : Heap} {locs : List Loc} {ls : Array Slot}, xW G (x_in W0) sS.heap (cells1 G ad s') H locs → lv_has ls 2 [(0, .ref (ad 0)), (1, .int x1')] → f_X1_hasRow  s' x1' = some z → W p l e (rm_X1_hasRow) sS m args below meth c H locs 0 0 (MQ below (xQ G W0 (cells1 G ad s') (some (.int z))) args sS 0 0 (x_in W0)) (F0 m 0 ls []) := by
  intro s x1 z H locs ls hw hl hf
  unfold f_X1_hasRow at hf
  refine lv_iload_n (pc := 0) E.1 E.2.1 dX1_hasRow_0 rfl (lv_at hl 1 rfl) ?_
  refine lv_if_lt (tgt := 16) (pc := 1) E.1 E.2.1 dX1_hasRow_1 (by decide) (fun q1 => ?_) (fun q1 => ?_)
  · have hf := x_pos q1 hf
    refine lv_iconst (v := 0) (pc := 16) E.1 E.2.1 dX1_hasRow_16 (by decide) ?_
    obtain rfl := Option.some.inj hf
    exact x_retz (pc := 17) (v := 0) (r := 0) E hr hk hw (by decide) dX1_hasRow_17
  · have hf := x_neg q1 hf
    refine lv_iload_n (pc := 4) E.1 E.2.1 dX1_hasRow_4 rfl (lv_at hl 1 rfl) ?_
    refine lv_aload_n (pc := 5) E.1 E.2.1 dX1_hasRow_5 rfl (lv_at hl 0 rfl) ?_
    refine xg_X1_65 (pc := 6) (v := .int (g1_fleets s)) E hw 0 rfl rfl dX1_hasRow_6 ?_
    refine lv_icmp_ge (tgt := 16) (pc := 9) E.1 E.2.1 dX1_hasRow_9 (by decide) (fun q2 => ?_) (fun q2 => ?_)
    · have hf := x_pos q2 hf
      refine lv_iconst (v := 0) (pc := 16) E.1 E.2.1 dX1_hasRow_16 (by decide) ?_
      obtain rfl := Option.some.inj hf
      exact x_retz (pc := 17) (v := 0) (r := 0) E hr hk hw (by decide) dX1_hasRow_17
    · have hf := x_neg q2 hf
      refine lv_iconst (v := 1) (pc := 12) E.1 E.2.1 dX1_hasRow_12 (by decide) ?_
      refine lv_goto (tgt := 17) (pc := 13) E.1 E.2.1 dX1_hasRow_13 (by decide) ?_
      obtain rfl := Option.some.inj hf
      exact x_retz (pc := 17) (v := 1) (r := 1) E hr hk hw (by decide) dX1_hasRow_17
set_option maxHeartbeats 4000000 in
set_option maxRecDepth 100000 in
theorem c_X1_hasRow (l : Launch) (G : xG) (ad : Nat → Nat) (s : S1) (x1 : Int32) {z : Int32} (hf : f_X1_hasRow s x1 = some z) : xC l yX1_hasRow cX1_hasRow 2 (some .boolean) (rm_X1_hasRow) G [.ref (ad 0), .int x1] (cells1 G ad s) (some (.int z)) (cells1 G ad s) :=
  x_met (by decide) rfl (Nat.le_of_ble_eq_true rfl) (fun p e sS m below meth c E hr hk ls hl hw => w_X1_hasRow_p0 E hr hk s x1 z hw hl hf)
set_option maxHeartbeats 4000000 in
set_option maxRecDepth 100000 in
theorem w_X1_poolOf_p0 {p : Program} {l : Launch} {e : Env} {sS : State} {m : MethodId} {args : Array Value} {below : List Frame} {meth : Method} {c : Code} {G : xG} {W0 : va_W} {ad : Nat → Nat}   (E : xE p sS m args c cX1_poolOf 2 RX1 G (x_in W0)) (hr : meth.sig.returnType = (some (.object "FleetShares$Pool"))) (hk : meth.locks = false)  : ∀ (s' : S1) (x1' : Int32) (z : Nat) {H : Heap} {locs : List Loc} {ls : Array Slot}, xW G (x_in W0) sS.heap (cells1 G ad s') H locs → lv_has ls 2 [(0, .ref (ad 0)), (1, .int x1')] → f_X1_poolOf  s' x1' = some z → W p l e (rm_X1_poolOf) sS m args below meth c H locs 0 0 (MQ below (xQ G W0 (cells1 G ad s') (some (.ref (ad z)))) args sS 0 0 (x_in W0)) (F0 m 0 ls []) := by
  intro s x1 z H locs ls hw hl hf
  unfold f_X1_poolOf at hf
  refine lv_iload_n (pc := 0) E.1 E.2.1 dX1_poolOf_0 rfl (lv_at hl 1 rfl) ?_
  refine lv_if_ne (tgt := 9) (pc := 1) E.1 E.2.1 dX1_poolOf_1 (by decide) (fun q1 => ?_) (fun q1 => ?_)
  · have hf := x_neg q1 hf
    refine lv_iload_n (pc := 9) E.1 E.2.1 dX1_poolOf_9 rfl (lv_at hl 1 rfl) ?_
    refine lv_iconst (v := 1) (pc := 10) E.1 E.2.1 dX1_poolOf_10 (by decide) ?_
    refine lv_icmp_ne (tgt := 21) (pc := 11) E.1 E.2.1 dX1_poolOf_11 (by decide) (fun q2 => ?_) (fun q2 => ?_)
    · have hf := x_neg q2 hf
      refine lv_aload_n (pc := 21) E.1 E.2.1 dX1_poolOf_21 rfl (lv_at hl 0 rfl) ?_
      refine xg_X1_40 (pc := 22) (v := .ref (ad 11)) E hw 0 rfl rfl dX1_poolOf_22 ?_
      obtain rfl := Option.some.inj hf
      exact x_reta (pc := 25) E hr hk hw dX1_poolOf_25
    · have hf := x_pos q2 hf
      refine lv_aload_n (pc := 14) E.1 E.2.1 dX1_poolOf_14 rfl (lv_at hl 0 rfl) ?_
      refine xg_X1_37 (pc := 15) (v := .ref (ad 9)) E hw 0 rfl rfl dX1_poolOf_15 ?_
      refine lv_goto (tgt := 25) (pc := 18) E.1 E.2.1 dX1_poolOf_18 (by decide) ?_
      obtain rfl := Option.some.inj hf
      exact x_reta (pc := 25) E hr hk hw dX1_poolOf_25
  · have hf := x_pos q1 hf
    refine lv_aload_n (pc := 4) E.1 E.2.1 dX1_poolOf_4 rfl (lv_at hl 0 rfl) ?_
    refine xg_X1_33 (pc := 5) (v := .ref (ad 7)) E hw 0 rfl rfl dX1_poolOf_5 ?_
    obtain rfl := Option.some.inj hf
    exact x_reta (pc := 8) E hr hk hw dX1_poolOf_8
set_option maxHeartbeats 4000000 in
set_option maxRecDepth 100000 in
theorem c_X1_poolOf (l : Launch) (G : xG) (ad : Nat → Nat) (s : S1) (x1 : Int32) {z : Nat} (hf : f_X1_poolOf s x1 = some z) : xC l yX1_poolOf cX1_poolOf 2 (some (.object "FleetShares$Pool")) (rm_X1_poolOf) G [.ref (ad 0), .int x1] (cells1 G ad s) (some (.ref (ad z))) (cells1 G ad s) :=
  x_met (by decide) rfl (Nat.le_of_ble_eq_true rfl) (fun p e sS m below meth c E hr hk ls hl hw => w_X1_poolOf_p0 E hr hk s x1 z hw hl hf)
set_option maxHeartbeats 4000000 in
set_option maxRecDepth 100000 in
theorem w_X1_lossOf_p0 {p : Program} {l : Launch} {e : Env} {sS : State} {m : MethodId} {args : Array Value} {below : List Frame} {meth : Method} {c : Code} {G : xG} {W0 : va_W} {ad : Nat → Nat}   (E : xE p sS m args c cX1_lossOf 3 RX1 G (x_in W0)) (hr : meth.sig.returnType = (some .int)) (hk : meth.locks = false)  : ∀ (s' : S1) (x1' : Int32) (x2' : Int32) (z : Int32) {H : Heap} {locs : List Loc} {ls : Array Slot}, xW G (x_in W0) sS.heap (cells1 G ad s') H locs → lv_has ls 3 [(0, .ref (ad 0)), (1, .int x1'), (2, .int x2')] → f_X1_lossOf  s' x1' x2' = some z → W p l e (rm_X1_lossOf) sS m args below meth c H locs 0 0 (MQ below (xQ G W0 (cells1 G ad s') (some (.int z))) args sS 0 0 (x_in W0)) (F0 m 0 ls []) := by
  intro s x1 x2 z H locs ls hw hl hf
  unfold f_X1_lossOf at hf
  refine lv_aload_n (pc := 0) E.1 E.2.1 dX1_lossOf_0 rfl (lv_at hl 0 rfl) ?_
  refine lv_iload_n (pc := 1) E.1 E.2.1 dX1_lossOf_1 rfl (lv_at hl 1 rfl) ?_
  obtain ⟨v1, g2, hf⟩ := x_bind hf
  refine x_callVA (pc := 2) (As := [.int x1]) (rest := []) (st1 := [.int v1]) (ws' := (cells1 G ad s)) E hw hl (c_X1_hasRow l G ad s x1 g2) xv_X1_120 xd_X1_hasRow rfl rfl ⟨Nat.le_of_ble_eq_true rfl, Nat.le_of_ble_eq_true rfl⟩ (q0 := 0) rfl rfl rfl rfl (Nat.le_of_ble_eq_true rfl) rfl dX1_lossOf_2 (fun H locs hw => ?_)
  refine lv_if_eq (tgt := 28) (pc := 5) E.1 E.2.1 dX1_lossOf_5 (by decide) (fun q3 => ?_) (fun q3 => ?_)
  · have hf := x_pos q3 hf
    refine lv_iconst (v := 0) (pc := 28) E.1 E.2.1 dX1_lossOf_28 (by decide) ?_
    obtain rfl := Option.some.inj hf
    exact x_reti (pc := 29) E hr hk hw dX1_lossOf_29
  · have hf := x_neg q3 hf
    refine lv_iload_n (pc := 8) E.1 E.2.1 dX1_lossOf_8 rfl (lv_at hl 2 rfl) ?_
    obtain ⟨v4, g5, hf⟩ := x_bind hf
    refine x_callSN0 (pc := 9) (As := [.int x2]) (rest := []) (st1 := [.int v4]) E hw hl (c_X7_isYear l G  x2 g5) E.2.2.2.2.2.2.2.2.2.2.2.1 wq_531 wq_530 wq_95 xe_X7_isYear rfl rfl ⟨Nat.le_of_ble_eq_true rfl, Nat.le_of_ble_eq_true rfl⟩ rfl rfl (Nat.le_of_ble_eq_true rfl) rfl dX1_lossOf_9 (fun H locs hw => ?_)
    refine lv_if_eq (tgt := 28) (pc := 12) E.1 E.2.1 dX1_lossOf_12 (by decide) (fun q6 => ?_) (fun q6 => ?_)
    · have hf := x_pos q6 hf
      refine lv_iconst (v := 0) (pc := 28) E.1 E.2.1 dX1_lossOf_28 (by decide) ?_
      obtain rfl := Option.some.inj hf
      exact x_reti (pc := 29) E hr hk hw dX1_lossOf_29
    · have hf := x_neg q6 hf
      refine lv_aload_n (pc := 15) E.1 E.2.1 dX1_lossOf_15 rfl (lv_at hl 0 rfl) ?_
      refine xg_X1_15 (pc := 16) (v := .ref (ad 2)) E hw 0 rfl rfl dX1_lossOf_16 ?_
      refine lv_iload_n (pc := 19) E.1 E.2.1 dX1_lossOf_19 rfl (lv_at hl 1 rfl) ?_
      refine lv_iconst (v := 5) (pc := 20) E.1 E.2.1 dX1_lossOf_20 (by decide) ?_
      refine lv_imul (pc := 21) E.1 E.2.1 dX1_lossOf_21 ?_
      refine lv_iload_n (pc := 22) E.1 E.2.1 dX1_lossOf_22 rfl (lv_at hl 2 rfl) ?_
      refine lv_iadd (pc := 23) E.1 E.2.1 dX1_lossOf_23 ?_
      obtain ⟨v8, g7, hf⟩ := x_bind hf
      refine x_iald (pc := 24) E hw 2 rfl g7 dX1_lossOf_24 ?_
      refine lv_goto (tgt := 29) (pc := 25) E.1 E.2.1 dX1_lossOf_25 (by decide) ?_
      obtain rfl := Option.some.inj hf
      exact x_reti (pc := 29) E hr hk hw dX1_lossOf_29
set_option maxHeartbeats 4000000 in
set_option maxRecDepth 100000 in
theorem c_X1_lossOf (l : Launch) (G : xG) (ad : Nat → Nat) (s : S1) (x1 : Int32) (x2 : Int32) {z : Int32} (hf : f_X1_lossOf s x1 x2 = some z) : xC l yX1_lossOf cX1_lossOf 3 (some .int) (rm_X1_lossOf) G [.ref (ad 0), .int x1, .int x2] (cells1 G ad s) (some (.int z)) (cells1 G ad s) :=
  x_met (by decide) rfl (Nat.le_of_ble_eq_true rfl) (fun p e sS m below meth c E hr hk ls hl hw => w_X1_lossOf_p0 E hr hk s x1 x2 z hw hl hf)
set_option maxHeartbeats 4000000 in
set_option maxRecDepth 100000 in
theorem w_X1_reckonFleet_p50 {p : Program} {l : Launch} {e : Env} {sS : State} {m : MethodId} {args : Array Value} {below : List Frame} {meth : Method} {c : Code} {G : xG} {W0 : va_W} {ad : Nat → Nat} {ae : Nat → Nat}  {k50 : S1 → S0 → Int32 → Int32 → Option (S1)} (E : xE p sS m args c cX1_reckonFleet 5 RX1 G (x_in W0)) (hr : meth.sig.returnType = none) (hk : meth.locks = false) (hk50 : ∀ (s' : S1) (q' : S0) (x2' : Int32) (x3' : Int32) (z : S1) {H : Heap} {locs : List Loc} {ls : Array Slot}, xW G (x_in W0) sS.heap (cells1 G ad s' ++ cells0 G ae q') H locs → lv_has ls 5 [(0, .ref (ad 0)), (2, .int x2'), (3, .int x3')] → k50  s' q' x2' x3' = some z → W p l e (rm_X1_reckonFleet) sS m args below meth c H locs 0 0 (MQ below (xQ G W0 (cells1 G ad z ++ cells0 G ae q') none) args sS 0 0 (x_in W0)) (F0 m 50 ls [])) : ∀ (s' : S1) (q' : S0) (x2' : Int32) (x3' : Int32) (z : S1) {H : Heap} {locs : List Loc} {ls : Array Slot}, xW G (x_in W0) sS.heap (cells1 G ad s' ++ cells0 G ae q') H locs → lv_has ls 5 [(0, .ref (ad 0)), (2, .int x2'), (3, .int x3')] → f_X1_reckonFleet_p50 k50 s' q' x2' x3' = some z → W p l e (rm_X1_reckonFleet) sS m args below meth c H locs 0 0 (MQ below (xQ G W0 (cells1 G ad z ++ cells0 G ae q') none) args sS 0 0 (x_in W0)) (F0 m 50 ls []) := by
  intro s q x2 x3 z H locs ls hw hl hf
  unfold f_X1_reckonFleet_p50 at hf
  refine lv_iload_n (pc := 50) E.1 E.2.1 dX1_reckonFleet_50 rfl (lv_at hl 2 rfl) ?_
  refine lv_iconst (v := 5) (pc := 51) E.1 E.2.1 dX1_reckonFleet_51 (by decide) ?_
  refine lv_icmp_ge (tgt := 94) (pc := 52) E.1 E.2.1 dX1_reckonFleet_52 (by decide) (fun q1 => ?_) (fun q1 => ?_)
  · have hf := x_pos q1 hf
    refine lv_aload_n (pc := 94) E.1 E.2.1 dX1_reckonFleet_94 rfl (lv_at hl 0 rfl) ?_
    refine xg_X1_18 (pc := 95) (v := .ref (ad 3)) E hw 0 rfl rfl dX1_reckonFleet_95 ?_
    refine lv_iload_n (pc := 98) E.1 E.2.1 dX1_reckonFleet_98 rfl (lv_at hl 1 rfl) ?_
    obtain ⟨v3, g2, hf⟩ := x_bind hf
    refine x_iald (pc := 99) E hw 3 rfl g2 dX1_reckonFleet_99 ?_
    refine lv_if_le (tgt := 164) (pc := 100) E.1 E.2.1 dX1_reckonFleet_100 (by decide) (fun q4 => ?_) (fun q4 => ?_)
    · have hf := x_pos q4 hf
      obtain rfl := Option.some.inj hf
      exact x_retv (pc := 164) E hr hk hw dX1_reckonFleet_164
    · have hf := x_neg q4 hf
      refine lv_aload_n (pc := 103) E.1 E.2.1 dX1_reckonFleet_103 rfl (lv_at hl 0 rfl) ?_
      refine lv_aload_n (pc := 104) E.1 E.2.1 dX1_reckonFleet_104 rfl (lv_at hl 0 rfl) ?_
      refine xg_X1_9 (pc := 105) (v := .ref (ad 1)) E hw 0 rfl rfl dX1_reckonFleet_105 ?_
      refine lv_iload_n (pc := 108) E.1 E.2.1 dX1_reckonFleet_108 rfl (lv_at hl 1 rfl) ?_
      obtain ⟨v6, g5, hf⟩ := x_bind hf
      refine x_iald (pc := 109) E hw 1 rfl g5 dX1_reckonFleet_109 ?_
      obtain ⟨v7, g8, hf⟩ := x_bind hf
      refine x_callV (pc := 110) (As := [.int v6]) (rest := []) (st1 := [.ref (ad v7)]) (ws' := (cells1 G ad s ++ cells0 G ae q)) E hw hl (c_X1_poolOf l G ad s v6 g8) xv_X1_138 xd_X1_poolOf rfl rfl ⟨Nat.le_of_ble_eq_true rfl, Nat.le_of_ble_eq_true rfl⟩ [0, 1, 2, 3, 4, 5, 6, 7, 8, 9, 10, 11, 12, 13, 14] [15, 16, 17, 18] (by decide) ⟨rfl, rfl, rfl, rfl, rfl, rfl, rfl, rfl, rfl, rfl, rfl, rfl, rfl, rfl, rfl, trivial⟩ (q0 := 0) rfl rfl rfl rfl (Nat.le_of_ble_eq_true rfl) (nw := 19) ⟨rfl, rfl, rfl, rfl, rfl, rfl, rfl, rfl, rfl, rfl, rfl, rfl, rfl, rfl, rfl, trivial⟩ ⟨⟨_, rfl, rfl⟩, ⟨_, rfl, rfl⟩, ⟨_, rfl, rfl⟩, ⟨_, rfl, rfl⟩, trivial⟩ rfl rfl (by decide) (by decide) rfl dX1_reckonFleet_110 (fun H locs hw => ?_)
      by_cases q9 : v7 = 7
      · have hf := x_pos q9 hf
        rw [q9]
        refine lv_aload_n (pc := 113) E.1 E.2.1 dX1_reckonFleet_113 rfl (lv_at hl 0 rfl) ?_
        refine xg_X1_18 (pc := 114) (v := .ref (ad 3)) E hw 0 rfl rfl dX1_reckonFleet_114 ?_
        refine lv_iload_n (pc := 117) E.1 E.2.1 dX1_reckonFleet_117 rfl (lv_at hl 1 rfl) ?_
        obtain ⟨v11, g10, hf⟩ := x_bind hf
        refine x_iald (pc := 118) E hw 3 rfl g10 dX1_reckonFleet_118 ?_
        refine lv_aload_n (pc := 119) E.1 E.2.1 dX1_reckonFleet_119 rfl (lv_at hl 0 rfl) ?_
        refine xg_X1_21 (pc := 120) (v := .ref (ad 4)) E hw 0 rfl rfl dX1_reckonFleet_120 ?_
        refine lv_iload_n (pc := 123) E.1 E.2.1 dX1_reckonFleet_123 rfl (lv_at hl 1 rfl) ?_
        obtain ⟨v13, g12, hf⟩ := x_bind hf
        refine x_iald (pc := 124) E hw 4 rfl g12 dX1_reckonFleet_124 ?_
        refine lv_aload_n (pc := 125) E.1 E.2.1 dX1_reckonFleet_125 rfl (lv_at hl 0 rfl) ?_
        refine xg_X1_24 (pc := 126) (v := .ref (ad 5)) E hw 0 rfl rfl dX1_reckonFleet_126 ?_
        refine lv_iload_n (pc := 129) E.1 E.2.1 dX1_reckonFleet_129 rfl (lv_at hl 1 rfl) ?_
        obtain ⟨v15, g14, hf⟩ := x_bind hf
        refine x_iald (pc := 130) E hw 5 rfl g14 dX1_reckonFleet_130 ?_
        obtain ⟨v16, g17, hf⟩ := x_bind hf
        refine x_callV (pc := 131) (As := [.int v11, .int v13, .int v15]) (rest := []) (st1 := []) (ws' := (cells1c G ad (g1_fleets s) (g1_allSum s) (g1_allSpan s) (g1_classes s) (g1_losses s) (g1_spans s) (g1_sums s) (g1_squares s) (g1_shares s) v16 (g1_poolB s) (g1_poolC s) (g1_first s) (g1_second s) ++ cells0 G ae q)) E hw hl (c_X4_addFleet l G (fun k => ad (k + 7)) (g1_poolA s) v11 v13 v15 g17) xv_X1_142 xd_X4_addFleet rfl rfl ⟨Nat.le_of_ble_eq_true rfl, Nat.le_of_ble_eq_true rfl⟩ [7, 8] [0, 1, 2, 3, 4, 5, 6, 9, 10, 11, 12, 13, 14, 15, 16, 17, 18] (by decide) ⟨rfl, rfl, trivial⟩ (q0 := 7) rfl rfl rfl rfl (Nat.le_of_ble_eq_true rfl) (nw := 19) ⟨rfl, rfl, trivial⟩ ⟨⟨_, rfl, rfl⟩, ⟨_, rfl, rfl⟩, ⟨_, rfl, rfl⟩, ⟨_, rfl, rfl⟩, ⟨_, rfl, rfl⟩, ⟨_, rfl, rfl⟩, ⟨_, rfl, rfl⟩, ⟨_, rfl, rfl⟩, ⟨_, rfl, rfl⟩, ⟨_, rfl, rfl⟩, ⟨_, rfl, rfl⟩, ⟨_, rfl, rfl⟩, ⟨_, rfl, rfl⟩, ⟨_, rfl, rfl⟩, ⟨_, rfl, rfl⟩, ⟨_, rfl, rfl⟩, ⟨_, rfl, rfl⟩, trivial⟩ rfl rfl (by decide) (by decide) rfl dX1_reckonFleet_131 (fun H locs hw => ?_)
        refine lv_aload_n (pc := 134) E.1 E.2.1 dX1_reckonFleet_134 rfl (lv_at hl 0 rfl) ?_
        refine lv_dup (pc := 135) E.1 E.2.1 dX1_reckonFleet_135 rfl ?_
        refine xg_X1_73 (pc := 136) (v := .int (g1_allSum s)) E hw 0 rfl rfl dX1_reckonFleet_136 ?_
        refine lv_aload_n (pc := 139) E.1 E.2.1 dX1_reckonFleet_139 rfl (lv_at hl 0 rfl) ?_
        refine xg_X1_21 (pc := 140) (v := .ref (ad 4)) E hw 0 rfl rfl dX1_reckonFleet_140 ?_
        refine lv_iload_n (pc := 143) E.1 E.2.1 dX1_reckonFleet_143 rfl (lv_at hl 1 rfl) ?_
        obtain ⟨v19, g18, hf⟩ := x_bind hf
        refine x_iald (pc := 144) E hw 4 rfl g18 dX1_reckonFleet_144 ?_
        refine lv_iadd (pc := 145) E.1 E.2.1 dX1_reckonFleet_145 ?_
        refine xp_X1_73 (pc := 146) (v := .int ((g1_allSum s) + v19)) (ws' := (cells1c G ad (g1_fleets s) ((g1_allSum s) + v19) (g1_allSpan s) (g1_classes s) (g1_losses s) (g1_spans s) (g1_sums s) (g1_squares s) (g1_shares s) v16 (g1_poolB s) (g1_poolC s) (g1_first s) (g1_second s) ++ cells0 G ae q)) E hw 0 rfl rfl rfl (Nat.le_of_ble_eq_true rfl) rfl dX1_reckonFleet_146 (fun H locs hw => ?_)
        refine lv_aload_n (pc := 149) E.1 E.2.1 dX1_reckonFleet_149 rfl (lv_at hl 0 rfl) ?_
        refine lv_dup (pc := 150) E.1 E.2.1 dX1_reckonFleet_150 rfl ?_
        refine xg_X1_76 (pc := 151) (v := .int (g1_allSpan s)) E hw 0 rfl rfl dX1_reckonFleet_151 ?_
        refine lv_aload_n (pc := 154) E.1 E.2.1 dX1_reckonFleet_154 rfl (lv_at hl 0 rfl) ?_
        refine xg_X1_18 (pc := 155) (v := .ref (ad 3)) E hw 0 rfl rfl dX1_reckonFleet_155 ?_
        refine lv_iload_n (pc := 158) E.1 E.2.1 dX1_reckonFleet_158 rfl (lv_at hl 1 rfl) ?_
        obtain ⟨v21, g20, hf⟩ := x_bind hf
        refine x_iald (pc := 159) E hw 3 rfl g20 dX1_reckonFleet_159 ?_
        refine lv_iadd (pc := 160) E.1 E.2.1 dX1_reckonFleet_160 ?_
        refine xp_X1_76 (pc := 161) (v := .int ((g1_allSpan s) + v21)) (ws' := (cells1c G ad (g1_fleets s) ((g1_allSum s) + v19) ((g1_allSpan s) + v21) (g1_classes s) (g1_losses s) (g1_spans s) (g1_sums s) (g1_squares s) (g1_shares s) v16 (g1_poolB s) (g1_poolC s) (g1_first s) (g1_second s) ++ cells0 G ae q)) E hw 0 rfl rfl rfl (Nat.le_of_ble_eq_true rfl) rfl dX1_reckonFleet_161 (fun H locs hw => ?_)
        obtain rfl := Option.some.inj hf
        exact x_retv (pc := 164) E hr hk hw dX1_reckonFleet_164
      · have hf := x_neg q9 hf
        by_cases q22 : v7 = 9
        · have hf := x_pos q22 hf
          rw [q22]
          refine lv_aload_n (pc := 113) E.1 E.2.1 dX1_reckonFleet_113 rfl (lv_at hl 0 rfl) ?_
          refine xg_X1_18 (pc := 114) (v := .ref (ad 3)) E hw 0 rfl rfl dX1_reckonFleet_114 ?_
          refine lv_iload_n (pc := 117) E.1 E.2.1 dX1_reckonFleet_117 rfl (lv_at hl 1 rfl) ?_
          obtain ⟨v24, g23, hf⟩ := x_bind hf
          refine x_iald (pc := 118) E hw 3 rfl g23 dX1_reckonFleet_118 ?_
          refine lv_aload_n (pc := 119) E.1 E.2.1 dX1_reckonFleet_119 rfl (lv_at hl 0 rfl) ?_
          refine xg_X1_21 (pc := 120) (v := .ref (ad 4)) E hw 0 rfl rfl dX1_reckonFleet_120 ?_
          refine lv_iload_n (pc := 123) E.1 E.2.1 dX1_reckonFleet_123 rfl (lv_at hl 1 rfl) ?_
          obtain ⟨v26, g25, hf⟩ := x_bind hf
          refine x_iald (pc := 124) E hw 4 rfl g25 dX1_reckonFleet_124 ?_
          refine lv_aload_n (pc := 125) E.1 E.2.1 dX1_reckonFleet_125 rfl (lv_at hl 0 rfl) ?_
          refine xg_X1_24 (pc := 126) (v := .ref (ad 5)) E hw 0 rfl rfl dX1_reckonFleet_126 ?_
          refine lv_iload_n (pc := 129) E.1 E.2.1 dX1_reckonFleet_129 rfl (lv_at hl 1 rfl) ?_
          obtain ⟨v28, g27, hf⟩ := x_bind hf
          refine x_iald (pc := 130) E hw 5 rfl g27 dX1_reckonFleet_130 ?_
          obtain ⟨v29, g30, hf⟩ := x_bind hf
          refine x_callV (pc := 131) (As := [.int v24, .int v26, .int v28]) (rest := []) (st1 := []) (ws' := (cells1c G ad (g1_fleets s) (g1_allSum s) (g1_allSpan s) (g1_classes s) (g1_losses s) (g1_spans s) (g1_sums s) (g1_squares s) (g1_shares s) (g1_poolA s) v29 (g1_poolC s) (g1_first s) (g1_second s) ++ cells0 G ae q)) E hw hl (c_X4_addFleet l G (fun k => ad (k + 9)) (g1_poolB s) v24 v26 v28 g30) xv_X1_142 xd_X4_addFleet rfl rfl ⟨Nat.le_of_ble_eq_true rfl, Nat.le_of_ble_eq_true rfl⟩ [9, 10] [0, 1, 2, 3, 4, 5, 6, 7, 8, 11, 12, 13, 14, 15, 16, 17, 18] (by decide) ⟨rfl, rfl, trivial⟩ (q0 := 9) rfl rfl rfl rfl (Nat.le_of_ble_eq_true rfl) (nw := 19) ⟨rfl, rfl, trivial⟩ ⟨⟨_, rfl, rfl⟩, ⟨_, rfl, rfl⟩, ⟨_, rfl, rfl⟩, ⟨_, rfl, rfl⟩, ⟨_, rfl, rfl⟩, ⟨_, rfl, rfl⟩, ⟨_, rfl, rfl⟩, ⟨_, rfl, rfl⟩, ⟨_, rfl, rfl⟩, ⟨_, rfl, rfl⟩, ⟨_, rfl, rfl⟩, ⟨_, rfl, rfl⟩, ⟨_, rfl, rfl⟩, ⟨_, rfl, rfl⟩, ⟨_, rfl, rfl⟩, ⟨_, rfl, rfl⟩, ⟨_, rfl, rfl⟩, trivial⟩ rfl rfl (by decide) (by decide) rfl dX1_reckonFleet_131 (fun H locs hw => ?_)
          refine lv_aload_n (pc := 134) E.1 E.2.1 dX1_reckonFleet_134 rfl (lv_at hl 0 rfl) ?_
          refine lv_dup (pc := 135) E.1 E.2.1 dX1_reckonFleet_135 rfl ?_
          refine xg_X1_73 (pc := 136) (v := .int (g1_allSum s)) E hw 0 rfl rfl dX1_reckonFleet_136 ?_
          refine lv_aload_n (pc := 139) E.1 E.2.1 dX1_reckonFleet_139 rfl (lv_at hl 0 rfl) ?_
          refine xg_X1_21 (pc := 140) (v := .ref (ad 4)) E hw 0 rfl rfl dX1_reckonFleet_140 ?_
          refine lv_iload_n (pc := 143) E.1 E.2.1 dX1_reckonFleet_143 rfl (lv_at hl 1 rfl) ?_
          obtain ⟨v32, g31, hf⟩ := x_bind hf
          refine x_iald (pc := 144) E hw 4 rfl g31 dX1_reckonFleet_144 ?_
          refine lv_iadd (pc := 145) E.1 E.2.1 dX1_reckonFleet_145 ?_
          refine xp_X1_73 (pc := 146) (v := .int ((g1_allSum s) + v32)) (ws' := (cells1c G ad (g1_fleets s) ((g1_allSum s) + v32) (g1_allSpan s) (g1_classes s) (g1_losses s) (g1_spans s) (g1_sums s) (g1_squares s) (g1_shares s) (g1_poolA s) v29 (g1_poolC s) (g1_first s) (g1_second s) ++ cells0 G ae q)) E hw 0 rfl rfl rfl (Nat.le_of_ble_eq_true rfl) rfl dX1_reckonFleet_146 (fun H locs hw => ?_)
          refine lv_aload_n (pc := 149) E.1 E.2.1 dX1_reckonFleet_149 rfl (lv_at hl 0 rfl) ?_
          refine lv_dup (pc := 150) E.1 E.2.1 dX1_reckonFleet_150 rfl ?_
          refine xg_X1_76 (pc := 151) (v := .int (g1_allSpan s)) E hw 0 rfl rfl dX1_reckonFleet_151 ?_
          refine lv_aload_n (pc := 154) E.1 E.2.1 dX1_reckonFleet_154 rfl (lv_at hl 0 rfl) ?_
          refine xg_X1_18 (pc := 155) (v := .ref (ad 3)) E hw 0 rfl rfl dX1_reckonFleet_155 ?_
          refine lv_iload_n (pc := 158) E.1 E.2.1 dX1_reckonFleet_158 rfl (lv_at hl 1 rfl) ?_
          obtain ⟨v34, g33, hf⟩ := x_bind hf
          refine x_iald (pc := 159) E hw 3 rfl g33 dX1_reckonFleet_159 ?_
          refine lv_iadd (pc := 160) E.1 E.2.1 dX1_reckonFleet_160 ?_
          refine xp_X1_76 (pc := 161) (v := .int ((g1_allSpan s) + v34)) (ws' := (cells1c G ad (g1_fleets s) ((g1_allSum s) + v32) ((g1_allSpan s) + v34) (g1_classes s) (g1_losses s) (g1_spans s) (g1_sums s) (g1_squares s) (g1_shares s) (g1_poolA s) v29 (g1_poolC s) (g1_first s) (g1_second s) ++ cells0 G ae q)) E hw 0 rfl rfl rfl (Nat.le_of_ble_eq_true rfl) rfl dX1_reckonFleet_161 (fun H locs hw => ?_)
          obtain rfl := Option.some.inj hf
          exact x_retv (pc := 164) E hr hk hw dX1_reckonFleet_164
        · have hf := x_neg q22 hf
          by_cases q35 : v7 = 11
          · have hf := x_pos q35 hf
            rw [q35]
            refine lv_aload_n (pc := 113) E.1 E.2.1 dX1_reckonFleet_113 rfl (lv_at hl 0 rfl) ?_
            refine xg_X1_18 (pc := 114) (v := .ref (ad 3)) E hw 0 rfl rfl dX1_reckonFleet_114 ?_
            refine lv_iload_n (pc := 117) E.1 E.2.1 dX1_reckonFleet_117 rfl (lv_at hl 1 rfl) ?_
            obtain ⟨v37, g36, hf⟩ := x_bind hf
            refine x_iald (pc := 118) E hw 3 rfl g36 dX1_reckonFleet_118 ?_
            refine lv_aload_n (pc := 119) E.1 E.2.1 dX1_reckonFleet_119 rfl (lv_at hl 0 rfl) ?_
            refine xg_X1_21 (pc := 120) (v := .ref (ad 4)) E hw 0 rfl rfl dX1_reckonFleet_120 ?_
            refine lv_iload_n (pc := 123) E.1 E.2.1 dX1_reckonFleet_123 rfl (lv_at hl 1 rfl) ?_
            obtain ⟨v39, g38, hf⟩ := x_bind hf
            refine x_iald (pc := 124) E hw 4 rfl g38 dX1_reckonFleet_124 ?_
            refine lv_aload_n (pc := 125) E.1 E.2.1 dX1_reckonFleet_125 rfl (lv_at hl 0 rfl) ?_
            refine xg_X1_24 (pc := 126) (v := .ref (ad 5)) E hw 0 rfl rfl dX1_reckonFleet_126 ?_
            refine lv_iload_n (pc := 129) E.1 E.2.1 dX1_reckonFleet_129 rfl (lv_at hl 1 rfl) ?_
            obtain ⟨v41, g40, hf⟩ := x_bind hf
            refine x_iald (pc := 130) E hw 5 rfl g40 dX1_reckonFleet_130 ?_
            obtain ⟨v42, g43, hf⟩ := x_bind hf
            refine x_callV (pc := 131) (As := [.int v37, .int v39, .int v41]) (rest := []) (st1 := []) (ws' := (cells1c G ad (g1_fleets s) (g1_allSum s) (g1_allSpan s) (g1_classes s) (g1_losses s) (g1_spans s) (g1_sums s) (g1_squares s) (g1_shares s) (g1_poolA s) (g1_poolB s) v42 (g1_first s) (g1_second s) ++ cells0 G ae q)) E hw hl (c_X4_addFleet l G (fun k => ad (k + 11)) (g1_poolC s) v37 v39 v41 g43) xv_X1_142 xd_X4_addFleet rfl rfl ⟨Nat.le_of_ble_eq_true rfl, Nat.le_of_ble_eq_true rfl⟩ [11, 12] [0, 1, 2, 3, 4, 5, 6, 7, 8, 9, 10, 13, 14, 15, 16, 17, 18] (by decide) ⟨rfl, rfl, trivial⟩ (q0 := 11) rfl rfl rfl rfl (Nat.le_of_ble_eq_true rfl) (nw := 19) ⟨rfl, rfl, trivial⟩ ⟨⟨_, rfl, rfl⟩, ⟨_, rfl, rfl⟩, ⟨_, rfl, rfl⟩, ⟨_, rfl, rfl⟩, ⟨_, rfl, rfl⟩, ⟨_, rfl, rfl⟩, ⟨_, rfl, rfl⟩, ⟨_, rfl, rfl⟩, ⟨_, rfl, rfl⟩, ⟨_, rfl, rfl⟩, ⟨_, rfl, rfl⟩, ⟨_, rfl, rfl⟩, ⟨_, rfl, rfl⟩, ⟨_, rfl, rfl⟩, ⟨_, rfl, rfl⟩, ⟨_, rfl, rfl⟩, ⟨_, rfl, rfl⟩, trivial⟩ rfl rfl (by decide) (by decide) rfl dX1_reckonFleet_131 (fun H locs hw => ?_)
            refine lv_aload_n (pc := 134) E.1 E.2.1 dX1_reckonFleet_134 rfl (lv_at hl 0 rfl) ?_
            refine lv_dup (pc := 135) E.1 E.2.1 dX1_reckonFleet_135 rfl ?_
            refine xg_X1_73 (pc := 136) (v := .int (g1_allSum s)) E hw 0 rfl rfl dX1_reckonFleet_136 ?_
            refine lv_aload_n (pc := 139) E.1 E.2.1 dX1_reckonFleet_139 rfl (lv_at hl 0 rfl) ?_
            refine xg_X1_21 (pc := 140) (v := .ref (ad 4)) E hw 0 rfl rfl dX1_reckonFleet_140 ?_
            refine lv_iload_n (pc := 143) E.1 E.2.1 dX1_reckonFleet_143 rfl (lv_at hl 1 rfl) ?_
            obtain ⟨v45, g44, hf⟩ := x_bind hf
            refine x_iald (pc := 144) E hw 4 rfl g44 dX1_reckonFleet_144 ?_
            refine lv_iadd (pc := 145) E.1 E.2.1 dX1_reckonFleet_145 ?_
            refine xp_X1_73 (pc := 146) (v := .int ((g1_allSum s) + v45)) (ws' := (cells1c G ad (g1_fleets s) ((g1_allSum s) + v45) (g1_allSpan s) (g1_classes s) (g1_losses s) (g1_spans s) (g1_sums s) (g1_squares s) (g1_shares s) (g1_poolA s) (g1_poolB s) v42 (g1_first s) (g1_second s) ++ cells0 G ae q)) E hw 0 rfl rfl rfl (Nat.le_of_ble_eq_true rfl) rfl dX1_reckonFleet_146 (fun H locs hw => ?_)
            refine lv_aload_n (pc := 149) E.1 E.2.1 dX1_reckonFleet_149 rfl (lv_at hl 0 rfl) ?_
            refine lv_dup (pc := 150) E.1 E.2.1 dX1_reckonFleet_150 rfl ?_
            refine xg_X1_76 (pc := 151) (v := .int (g1_allSpan s)) E hw 0 rfl rfl dX1_reckonFleet_151 ?_
            refine lv_aload_n (pc := 154) E.1 E.2.1 dX1_reckonFleet_154 rfl (lv_at hl 0 rfl) ?_
            refine xg_X1_18 (pc := 155) (v := .ref (ad 3)) E hw 0 rfl rfl dX1_reckonFleet_155 ?_
            refine lv_iload_n (pc := 158) E.1 E.2.1 dX1_reckonFleet_158 rfl (lv_at hl 1 rfl) ?_
            obtain ⟨v47, g46, hf⟩ := x_bind hf
            refine x_iald (pc := 159) E hw 3 rfl g46 dX1_reckonFleet_159 ?_
            refine lv_iadd (pc := 160) E.1 E.2.1 dX1_reckonFleet_160 ?_
            refine xp_X1_76 (pc := 161) (v := .int ((g1_allSpan s) + v47)) (ws' := (cells1c G ad (g1_fleets s) ((g1_allSum s) + v45) ((g1_allSpan s) + v47) (g1_classes s) (g1_losses s) (g1_spans s) (g1_sums s) (g1_squares s) (g1_shares s) (g1_poolA s) (g1_poolB s) v42 (g1_first s) (g1_second s) ++ cells0 G ae q)) E hw 0 rfl rfl rfl (Nat.le_of_ble_eq_true rfl) rfl dX1_reckonFleet_161 (fun H locs hw => ?_)
            obtain rfl := Option.some.inj hf
            exact x_retv (pc := 164) E hr hk hw dX1_reckonFleet_164
          · have hf := x_neg q35 hf
            cases hf
  · have hf := x_neg q1 hf
    refine lv_aload_n (pc := 55) E.1 E.2.1 dX1_reckonFleet_55 rfl (lv_at hl 0 rfl) ?_
    refine lv_iload_n (pc := 56) E.1 E.2.1 dX1_reckonFleet_56 rfl (lv_at hl 1 rfl) ?_
    refine lv_iload_n (pc := 57) E.1 E.2.1 dX1_reckonFleet_57 rfl (lv_at hl 2 rfl) ?_
    obtain ⟨v48, g49, hf⟩ := x_bind hf
    refine x_callV (pc := 58) (As := [.int x2, .int x3]) (rest := []) (st1 := [.int v48]) (ws' := (cells1 G ad s ++ cells0 G ae q)) E hw hl (c_X1_lossOf l G ad s x2 x3 g49) xv_X1_135 xd_X1_lossOf rfl rfl ⟨Nat.le_of_ble_eq_true rfl, Nat.le_of_ble_eq_true rfl⟩ [0, 1, 2, 3, 4, 5, 6, 7, 8, 9, 10, 11, 12, 13, 14] [15, 16, 17, 18] (by decide) ⟨rfl, rfl, rfl, rfl, rfl, rfl, rfl, rfl, rfl, rfl, rfl, rfl, rfl, rfl, rfl, trivial⟩ (q0 := 0) rfl rfl rfl rfl (Nat.le_of_ble_eq_true rfl) (nw := 19) ⟨rfl, rfl, rfl, rfl, rfl, rfl, rfl, rfl, rfl, rfl, rfl, rfl, rfl, rfl, rfl, trivial⟩ ⟨⟨_, rfl, rfl⟩, ⟨_, rfl, rfl⟩, ⟨_, rfl, rfl⟩, ⟨_, rfl, rfl⟩, trivial⟩ rfl rfl (by decide) (by decide) rfl dX1_reckonFleet_58 (fun H locs hw => ?_)
    refine lv_istore (lv' := [(4, .int v48), (0, .ref (ad 0)), (2, .int x2), (3, .int x3)]) (pc := 61) E.1 E.2.1 dX1_reckonFleet_61 hl (by decide) rfl (fun ls hl => ?_)
    refine lv_aload_n (pc := 63) E.1 E.2.1 dX1_reckonFleet_63 rfl (lv_at hl 1 rfl) ?_
    refine xg_X1_21 (pc := 64) (v := .ref (ad 4)) E hw 0 rfl rfl dX1_reckonFleet_64 ?_
    refine lv_iload_n (pc := 67) E.1 E.2.1 dX1_reckonFleet_67 rfl (lv_at hl 2 rfl) ?_
    refine lv_dup2_11 (pc := 68) E.1 E.2.1 dX1_reckonFleet_68 rfl rfl ?_
    obtain ⟨v51, g50, hf⟩ := x_bind hf
    refine x_iald (pc := 69) E hw 4 rfl g50 dX1_reckonFleet_69 ?_
    refine lv_iload (pc := 70) E.1 E.2.1 dX1_reckonFleet_70 (lv_at hl 0 rfl) ?_
    refine lv_iadd (pc := 72) E.1 E.2.1 dX1_reckonFleet_72 ?_
    obtain ⟨w53, g52, hf⟩ := x_bind hf
    refine x_iast (pc := 73) (ws' := (cells1c G ad (g1_fleets s) (g1_allSum s) (g1_allSpan s) (g1_classes s) (g1_losses s) (g1_spans s) w53 (g1_squares s) (g1_shares s) (g1_poolA s) (g1_poolB s) (g1_poolC s) (g1_first s) (g1_second s) ++ cells0 G ae q)) E hw 4 rfl g52 rfl dX1_reckonFleet_73 (fun H locs hw => ?_)
    refine lv_aload_n (pc := 74) E.1 E.2.1 dX1_reckonFleet_74 rfl (lv_at hl 1 rfl) ?_
    refine xg_X1_24 (pc := 75) (v := .ref (ad 5)) E hw 0 rfl rfl dX1_reckonFleet_75 ?_
    refine lv_iload_n (pc := 78) E.1 E.2.1 dX1_reckonFleet_78 rfl (lv_at hl 2 rfl) ?_
    refine lv_dup2_11 (pc := 79) E.1 E.2.1 dX1_reckonFleet_79 rfl rfl ?_
    obtain ⟨v55, g54, hf⟩ := x_bind hf
    refine x_iald (pc := 80) E hw 5 rfl g54 dX1_reckonFleet_80 ?_
    refine lv_iload (pc := 81) E.1 E.2.1 dX1_reckonFleet_81 (lv_at hl 0 rfl) ?_
    refine lv_iload (pc := 83) E.1 E.2.1 dX1_reckonFleet_83 (lv_at hl 0 rfl) ?_
    refine lv_imul (pc := 85) E.1 E.2.1 dX1_reckonFleet_85 ?_
    refine lv_iadd (pc := 86) E.1 E.2.1 dX1_reckonFleet_86 ?_
    obtain ⟨w57, g56, hf⟩ := x_bind hf
    refine x_iast (pc := 87) (ws' := (cells1c G ad (g1_fleets s) (g1_allSum s) (g1_allSpan s) (g1_classes s) (g1_losses s) (g1_spans s) w53 w57 (g1_shares s) (g1_poolA s) (g1_poolB s) (g1_poolC s) (g1_first s) (g1_second s) ++ cells0 G ae q)) E hw 5 rfl g56 rfl dX1_reckonFleet_87 (fun H locs hw => ?_)
    refine lv_iinc (v := (x3 + 1)) (lv' := [(3, .int (x3 + 1)), (4, .int v48), (0, .ref (ad 0)), (2, .int x2)]) (pc := 88) E.1 E.2.1 dX1_reckonFleet_88 hl (k := 3) rfl rfl (by decide) rfl (fun ls hl => ?_)
    refine lv_goto (tgt := 50) (pc := 91) E.1 E.2.1 dX1_reckonFleet_91 (by decide) ?_
    exact hk50 (u1_squares (u1_sums s w53) w57) q x2 (x3 + 1) z hw (lv_sub hl [2, 3, 0] rfl) hf
set_option maxHeartbeats 4000000 in
set_option maxRecDepth 100000 in
theorem wl_X1_reckonFleet_p50 {p : Program} {l : Launch} {e : Env} {sS : State} {m : MethodId} {args : Array Value} {below : List Frame} {meth : Method} {c : Code} {G : xG} {W0 : va_W} {ad : Nat → Nat} {ae : Nat → Nat}   (E : xE p sS m args c cX1_reckonFleet 5 RX1 G (x_in W0)) (hr : meth.sig.returnType = none) (hk : meth.locks = false)  : ∀ (s' : S1) (q' : S0) (x2' : Int32) (x3' : Int32) (z : S1) {H : Heap} {locs : List Loc} {ls : Array Slot}, xW G (x_in W0) sS.heap (cells1 G ad s' ++ cells0 G ae q') H locs → lv_has ls 5 [(0, .ref (ad 0)), (2, .int x2'), (3, .int x3')] → lp_X1_reckonFleet_p50  s' q' x2' x3' = some z → W p l e (rm_X1_reckonFleet) sS m args below meth c H locs 0 0 (MQ below (xQ G W0 (cells1 G ad z ++ cells0 G ae q') none) args sS 0 0 (x_in W0)) (F0 m 50 ls []) := by
  intro s q x2 x3 z H locs ls hw hl hf
  exact x_loop_W (P := fun (q : S1 × S0 × Int32 × Int32) (z : S1) => ∀ {H : Heap} {locs : List Loc} {ls : Array Slot}, xW G (x_in W0) sS.heap (cells1 G ad q.1 ++ cells0 G ae q.2.1) H locs → lv_has ls 5 [(0, .ref (ad 0)), (2, .int q.2.2.1), (3, .int q.2.2.2)] → W p l e (rm_X1_reckonFleet) sS m args below meth c H locs 0 0 (MQ below (xQ G W0 (cells1 G ad z ++ cells0 G ae q.2.1) none) args sS 0 0 (x_in W0)) (F0 m 50 ls [])) (fun k hkk q z hf H locs ls hw hl => w_X1_reckonFleet_p50 E hr hk  (fun s q x2 x3 z H locs ls hw hl hf => hkk (s, q, x2, x3) z hf hw hl) q.1 q.2.1 q.2.2.1 q.2.2.2 z hw hl hf) FU (s, q, x2, x3) z hf hw hl
set_option maxHeartbeats 4000000 in
set_option maxRecDepth 100000 in
theorem w_X1_reckonFleet_p0 {p : Program} {l : Launch} {e : Env} {sS : State} {m : MethodId} {args : Array Value} {below : List Frame} {meth : Method} {c : Code} {G : xG} {W0 : va_W} {ad : Nat → Nat} {ae : Nat → Nat}   (E : xE p sS m args c cX1_reckonFleet 5 RX1 G (x_in W0)) (hr : meth.sig.returnType = none) (hk : meth.locks = false)  : ∀ (s' : S1) (q' : S0) (x2' : Int32) (z : S1) {H : Heap} {locs : List Loc} {ls : Array Slot}, xW G (x_in W0) sS.heap (cells1 G ad s' ++ cells0 G ae q') H locs → lv_has ls 5 [(0, .ref (ad 0)), (1, .ref (ae 0)), (2, .int x2')] → f_X1_reckonFleet  s' q' x2' = some z → W p l e (rm_X1_reckonFleet) sS m args below meth c H locs 0 0 (MQ below (xQ G W0 (cells1 G ad z ++ cells0 G ae q') none) args sS 0 0 (x_in W0)) (F0 m 0 ls []) := by
  intro s q x2 z H locs ls hw hl hf
  unfold f_X1_reckonFleet at hf
  refine lv_aload_n (pc := 0) E.1 E.2.1 dX1_reckonFleet_0 rfl (lv_at hl 0 rfl) ?_
  refine lv_iload_n (pc := 1) E.1 E.2.1 dX1_reckonFleet_1 rfl (lv_at hl 2 rfl) ?_
  obtain ⟨v1, g2, hf⟩ := x_bind hf
  refine x_callV (pc := 2) (As := [.int x2]) (rest := []) (st1 := [.int v1]) (ws' := (cells1 G ad s ++ cells0 G ae q)) E hw hl (c_X1_hasRow l G ad s x2 g2) xv_X1_120 xd_X1_hasRow rfl rfl ⟨Nat.le_of_ble_eq_true rfl, Nat.le_of_ble_eq_true rfl⟩ [0, 1, 2, 3, 4, 5, 6, 7, 8, 9, 10, 11, 12, 13, 14] [15, 16, 17, 18] (by decide) ⟨rfl, rfl, rfl, rfl, rfl, rfl, rfl, rfl, rfl, rfl, rfl, rfl, rfl, rfl, rfl, trivial⟩ (q0 := 0) rfl rfl rfl rfl (Nat.le_of_ble_eq_true rfl) (nw := 19) ⟨rfl, rfl, rfl, rfl, rfl, rfl, rfl, rfl, rfl, rfl, rfl, rfl, rfl, rfl, rfl, trivial⟩ ⟨⟨_, rfl, rfl⟩, ⟨_, rfl, rfl⟩, ⟨_, rfl, rfl⟩, ⟨_, rfl, rfl⟩, trivial⟩ rfl rfl (by decide) (by decide) rfl dX1_reckonFleet_2 (fun H locs hw => ?_)
  refine lv_if_ne (tgt := 9) (pc := 5) E.1 E.2.1 dX1_reckonFleet_5 (by decide) (fun q3 => ?_) (fun q3 => ?_)
  · have hf := x_neg q3 hf
    refine lv_aload_n (pc := 9) E.1 E.2.1 dX1_reckonFleet_9 rfl (lv_at hl 0 rfl) ?_
    refine xg_X1_9 (pc := 10) (v := .ref (ad 1)) E hw 0 rfl rfl dX1_reckonFleet_10 ?_
    refine lv_iload_n (pc := 13) E.1 E.2.1 dX1_reckonFleet_13 rfl (lv_at hl 2 rfl) ?_
    refine lv_aload_n (pc := 14) E.1 E.2.1 dX1_reckonFleet_14 rfl (lv_at hl 1 rfl) ?_
    refine lv_iload_n (pc := 15) E.1 E.2.1 dX1_reckonFleet_15 rfl (lv_at hl 2 rfl) ?_
    obtain ⟨v4, g5, hf⟩ := x_bind hf
    refine x_callV (pc := 16) (As := [.int x2]) (rest := [.int x2, .ref (ad 1)]) (st1 := [.int v4, .int x2, .ref (ad 1)]) (ws' := (cells1 G ad s ++ cells0 G ae q)) E hw hl (c_X0_classOf l G ae q x2 g5) xv_X1_124 xd_X0_classOf rfl rfl ⟨Nat.le_of_ble_eq_true rfl, Nat.le_of_ble_eq_true rfl⟩ [15, 16, 17, 18] [0, 1, 2, 3, 4, 5, 6, 7, 8, 9, 10, 11, 12, 13, 14] (by decide) ⟨rfl, rfl, rfl, rfl, trivial⟩ (q0 := 15) rfl rfl rfl rfl (Nat.le_of_ble_eq_true rfl) (nw := 19) ⟨rfl, rfl, rfl, rfl, trivial⟩ ⟨⟨_, rfl, rfl⟩, ⟨_, rfl, rfl⟩, ⟨_, rfl, rfl⟩, ⟨_, rfl, rfl⟩, ⟨_, rfl, rfl⟩, ⟨_, rfl, rfl⟩, ⟨_, rfl, rfl⟩, ⟨_, rfl, rfl⟩, ⟨_, rfl, rfl⟩, ⟨_, rfl, rfl⟩, ⟨_, rfl, rfl⟩, ⟨_, rfl, rfl⟩, ⟨_, rfl, rfl⟩, ⟨_, rfl, rfl⟩, ⟨_, rfl, rfl⟩, trivial⟩ rfl rfl (by decide) (by decide) rfl dX1_reckonFleet_16 (fun H locs hw => ?_)
    obtain ⟨w7, g6, hf⟩ := x_bind hf
    refine x_iast (pc := 19) (ws' := (cells1c G ad (g1_fleets s) (g1_allSum s) (g1_allSpan s) w7 (g1_losses s) (g1_spans s) (g1_sums s) (g1_squares s) (g1_shares s) (g1_poolA s) (g1_poolB s) (g1_poolC s) (g1_first s) (g1_second s) ++ cells0 G ae q)) E hw 1 rfl g6 rfl dX1_reckonFleet_19 (fun H locs hw => ?_)
    refine lv_aload_n (pc := 20) E.1 E.2.1 dX1_reckonFleet_20 rfl (lv_at hl 0 rfl) ?_
    refine xg_X1_18 (pc := 21) (v := .ref (ad 3)) E hw 0 rfl rfl dX1_reckonFleet_21 ?_
    refine lv_iload_n (pc := 24) E.1 E.2.1 dX1_reckonFleet_24 rfl (lv_at hl 2 rfl) ?_
    refine lv_aload_n (pc := 25) E.1 E.2.1 dX1_reckonFleet_25 rfl (lv_at hl 1 rfl) ?_
    refine lv_iload_n (pc := 26) E.1 E.2.1 dX1_reckonFleet_26 rfl (lv_at hl 2 rfl) ?_
    obtain ⟨v8, g9, hf⟩ := x_bind hf
    refine x_callV (pc := 27) (As := [.int x2]) (rest := [.int x2, .ref (ad 3)]) (st1 := [.int v8, .int x2, .ref (ad 3)]) (ws' := (cells1c G ad (g1_fleets s) (g1_allSum s) (g1_allSpan s) w7 (g1_losses s) (g1_spans s) (g1_sums s) (g1_squares s) (g1_shares s) (g1_poolA s) (g1_poolB s) (g1_poolC s) (g1_first s) (g1_second s) ++ cells0 G ae q)) E hw hl (c_X0_yearsOf l G ae q x2 g9) xv_X1_127 xd_X0_yearsOf rfl rfl ⟨Nat.le_of_ble_eq_true rfl, Nat.le_of_ble_eq_true rfl⟩ [15, 16, 17, 18] [0, 1, 2, 3, 4, 5, 6, 7, 8, 9, 10, 11, 12, 13, 14] (by decide) ⟨rfl, rfl, rfl, rfl, trivial⟩ (q0 := 15) rfl rfl rfl rfl (Nat.le_of_ble_eq_true rfl) (nw := 19) ⟨rfl, rfl, rfl, rfl, trivial⟩ ⟨⟨_, rfl, rfl⟩, ⟨_, rfl, rfl⟩, ⟨_, rfl, rfl⟩, ⟨_, rfl, rfl⟩, ⟨_, rfl, rfl⟩, ⟨_, rfl, rfl⟩, ⟨_, rfl, rfl⟩, ⟨_, rfl, rfl⟩, ⟨_, rfl, rfl⟩, ⟨_, rfl, rfl⟩, ⟨_, rfl, rfl⟩, ⟨_, rfl, rfl⟩, ⟨_, rfl, rfl⟩, ⟨_, rfl, rfl⟩, ⟨_, rfl, rfl⟩, trivial⟩ rfl rfl (by decide) (by decide) rfl dX1_reckonFleet_27 (fun H locs hw => ?_)
    obtain ⟨v10, g11, hf⟩ := x_bind hf
    refine x_callSX0 (pc := 30) (As := [.int v8]) (rest := [.int x2, .ref (ad 3)]) (st1 := [.int v10, .int x2, .ref (ad 3)]) E hw hl (c_J6_bitCount_0f7a4 l G  v8 g11) wq_803 wq_637 wq_636 wq_110 xe_J6_bitCount_0f7a4 rfl rfl ⟨Nat.le_of_ble_eq_true rfl, Nat.le_of_ble_eq_true rfl⟩ rfl rfl (Nat.le_of_ble_eq_true rfl) rfl dX1_reckonFleet_30 (fun H locs hw => ?_)
    obtain ⟨w13, g12, hf⟩ := x_bind hf
    refine x_iast (pc := 33) (ws' := (cells1c G ad (g1_fleets s) (g1_allSum s) (g1_allSpan s) w7 (g1_losses s) w13 (g1_sums s) (g1_squares s) (g1_shares s) (g1_poolA s) (g1_poolB s) (g1_poolC s) (g1_first s) (g1_second s) ++ cells0 G ae q)) E hw 3 rfl g12 rfl dX1_reckonFleet_33 (fun H locs hw => ?_)
    refine lv_aload_n (pc := 34) E.1 E.2.1 dX1_reckonFleet_34 rfl (lv_at hl 0 rfl) ?_
    refine xg_X1_21 (pc := 35) (v := .ref (ad 4)) E hw 0 rfl rfl dX1_reckonFleet_35 ?_
    refine lv_iload_n (pc := 38) E.1 E.2.1 dX1_reckonFleet_38 rfl (lv_at hl 2 rfl) ?_
    refine lv_iconst (v := 0) (pc := 39) E.1 E.2.1 dX1_reckonFleet_39 (by decide) ?_
    obtain ⟨w15, g14, hf⟩ := x_bind hf
    refine x_iast (pc := 40) (ws' := (cells1c G ad (g1_fleets s) (g1_allSum s) (g1_allSpan s) w7 (g1_losses s) w13 w15 (g1_squares s) (g1_shares s) (g1_poolA s) (g1_poolB s) (g1_poolC s) (g1_first s) (g1_second s) ++ cells0 G ae q)) E hw 4 rfl g14 rfl dX1_reckonFleet_40 (fun H locs hw => ?_)
    refine lv_aload_n (pc := 41) E.1 E.2.1 dX1_reckonFleet_41 rfl (lv_at hl 0 rfl) ?_
    refine xg_X1_24 (pc := 42) (v := .ref (ad 5)) E hw 0 rfl rfl dX1_reckonFleet_42 ?_
    refine lv_iload_n (pc := 45) E.1 E.2.1 dX1_reckonFleet_45 rfl (lv_at hl 2 rfl) ?_
    refine lv_iconst (v := 0) (pc := 46) E.1 E.2.1 dX1_reckonFleet_46 (by decide) ?_
    obtain ⟨w17, g16, hf⟩ := x_bind hf
    refine x_iast (pc := 47) (ws' := (cells1c G ad (g1_fleets s) (g1_allSum s) (g1_allSpan s) w7 (g1_losses s) w13 w15 w17 (g1_shares s) (g1_poolA s) (g1_poolB s) (g1_poolC s) (g1_first s) (g1_second s) ++ cells0 G ae q)) E hw 5 rfl g16 rfl dX1_reckonFleet_47 (fun H locs hw => ?_)
    refine lv_iconst (v := 0) (pc := 48) E.1 E.2.1 dX1_reckonFleet_48 (by decide) ?_
    refine lv_istore_n (lv' := [(3, .int 0), (0, .ref (ad 0)), (1, .ref (ae 0)), (2, .int x2)]) (pc := 49) E.1 E.2.1 dX1_reckonFleet_49 rfl hl (by decide) rfl (fun ls hl => ?_)
    exact wl_X1_reckonFleet_p50 E hr hk  (u1_squares (u1_sums (u1_spans (u1_classes s w7) w13) w15) w17) q x2 0 z hw (lv_sub hl [1, 3, 0] rfl) hf
  · have hf := x_pos q3 hf
    obtain rfl := Option.some.inj hf
    exact x_retv (pc := 8) E hr hk hw dX1_reckonFleet_8
set_option maxHeartbeats 4000000 in
set_option maxRecDepth 100000 in
theorem c_X1_reckonFleet (l : Launch) (G : xG) (ad : Nat → Nat) (ae : Nat → Nat) (s : S1) (q : S0) (x2 : Int32) {z : S1} (hf : f_X1_reckonFleet s q x2 = some z) : xC l yX1_reckonFleet cX1_reckonFleet 5 none (rm_X1_reckonFleet) G [.ref (ad 0), .ref (ae 0), .int x2] (cells1 G ad s ++ cells0 G ae q) none (cells1 G ad z ++ cells0 G ae q) :=
  x_met (by decide) rfl (Nat.le_of_ble_eq_true rfl) (fun p e sS m below meth c E hr hk ls hl hw => w_X1_reckonFleet_p0 E hr hk s q x2 z hw hl hf)
set_option maxHeartbeats 4000000 in
set_option maxRecDepth 100000 in
theorem w_X1_putWhole_i13_p0 {p : Program} {l : Launch} {e : Env} {sS : State} {m : MethodId} {args : Array Value} {below : List Frame} {meth : Method} {c : Code} {G : xG} {W0 : va_W} {ad : Nat → Nat}   (E : xE p sS m args c cX1_putWhole 2 RX1 G (x_in W0)) (hr : meth.sig.returnType = none) (hk : meth.locks = false)  : ∀ (s' : S1) (z : S1) {H : Heap} {locs : List Loc} {ls : Array Slot}, xW G (x_in W0) sS.heap (cells1 G ad s') H locs → lv_has ls 2 [(0, .ref (ad 0)), (1, .ref (ad 13))] → f_X1_putWhole_i13  s' = some z → W p l e (rm_X1_putWhole_i13) sS m args below meth c H locs 0 0 (MQ below (xQ G W0 (cells1 G ad z) none) args sS 0 0 (x_in W0)) (F0 m 0 ls []) := by
  intro s z H locs ls hw hl hf
  unfold f_X1_putWhole_i13 at hf
  refine lv_aload_n (pc := 0) E.1 E.2.1 dX1_putWhole_0 rfl (lv_at hl 1 rfl) ?_
  refine lv_aload_n (pc := 1) E.1 E.2.1 dX1_putWhole_1 rfl (lv_at hl 0 rfl) ?_
  refine xg_X1_73 (pc := 2) (v := .int (g1_allSum s)) E hw 0 rfl rfl dX1_putWhole_2 ?_
  refine lv_i2l (v := (Int32.toInt64 (g1_allSum s))) (pc := 5) E.1 E.2.1 dX1_putWhole_5 rfl ?_
  refine lv_aload_n (pc := 6) E.1 E.2.1 dX1_putWhole_6 rfl (lv_at hl 0 rfl) ?_
  refine xg_X1_76 (pc := 7) (v := .int (g1_allSpan s)) E hw 0 rfl rfl dX1_putWhole_7 ?_
  refine lv_i2l (v := (Int32.toInt64 (g1_allSpan s))) (pc := 10) E.1 E.2.1 dX1_putWhole_10 rfl ?_
  obtain ⟨v1, g2, hf⟩ := x_bind hf
  refine x_callV (pc := 11) (As := [.long (Int32.toInt64 (g1_allSum s)), .long (Int32.toInt64 (g1_allSpan s))]) (rest := []) (st1 := []) (ws' := (cells1c G ad (g1_fleets s) (g1_allSum s) (g1_allSpan s) (g1_classes s) (g1_losses s) (g1_spans s) (g1_sums s) (g1_squares s) (g1_shares s) (g1_poolA s) (g1_poolB s) (g1_poolC s) v1 (g1_second s))) E hw hl (c_X5_put l G (fun k => ad (k + 13)) (g1_first s) (Int32.toInt64 (g1_allSum s)) (Int32.toInt64 (g1_allSpan s)) g2) xv_X1_155 xd_X5_put rfl rfl ⟨Nat.le_of_ble_eq_true rfl, Nat.le_of_ble_eq_true rfl⟩ [13] [0, 1, 2, 3, 4, 5, 6, 7, 8, 9, 10, 11, 12, 14] (by decide) ⟨rfl, trivial⟩ (q0 := 13) rfl rfl rfl rfl (Nat.le_of_ble_eq_true rfl) (nw := 15) ⟨rfl, trivial⟩ ⟨⟨_, rfl, rfl⟩, ⟨_, rfl, rfl⟩, ⟨_, rfl, rfl⟩, ⟨_, rfl, rfl⟩, ⟨_, rfl, rfl⟩, ⟨_, rfl, rfl⟩, ⟨_, rfl, rfl⟩, ⟨_, rfl, rfl⟩, ⟨_, rfl, rfl⟩, ⟨_, rfl, rfl⟩, ⟨_, rfl, rfl⟩, ⟨_, rfl, rfl⟩, ⟨_, rfl, rfl⟩, ⟨_, rfl, rfl⟩, trivial⟩ rfl rfl (by decide) (by decide) rfl dX1_putWhole_11 (fun H locs hw => ?_)
  obtain rfl := Option.some.inj hf
  exact x_retv (pc := 14) E hr hk hw dX1_putWhole_14
set_option maxHeartbeats 4000000 in
set_option maxRecDepth 100000 in
theorem c_X1_putWhole_i13 (l : Launch) (G : xG) (ad : Nat → Nat) (s : S1) {z : S1} (hf : f_X1_putWhole_i13 s = some z) : xC l yX1_putWhole cX1_putWhole 2 none (rm_X1_putWhole_i13) G [.ref (ad 0), .ref (ad 13)] (cells1 G ad s) none (cells1 G ad z) :=
  x_met (by decide) rfl (Nat.le_of_ble_eq_true rfl) (fun p e sS m below meth c E hr hk ls hl hw => w_X1_putWhole_i13_p0 E hr hk s z hw hl hf)
set_option maxHeartbeats 4000000 in
set_option maxRecDepth 100000 in
theorem w_X1_reckonShare_p0 {p : Program} {l : Launch} {e : Env} {sS : State} {m : MethodId} {args : Array Value} {below : List Frame} {meth : Method} {c : Code} {G : xG} {W0 : va_W} {ad : Nat → Nat}   (E : xE p sS m args c cX1_reckonShare 3 RX1 G (x_in W0)) (hr : meth.sig.returnType = none) (hk : meth.locks = false)  : ∀ (s' : S1) (x1' : Int32) (z : S1) {H : Heap} {locs : List Loc} {ls : Array Slot}, xW G (x_in W0) sS.heap (cells1 G ad s') H locs → lv_has ls 3 [(0, .ref (ad 0)), (1, .int x1')] → f_X1_reckonShare  s' x1' = some z → W p l e (rm_X1_reckonShare) sS m args below meth c H locs 0 0 (MQ below (xQ G W0 (cells1 G ad z) none) args sS 0 0 (x_in W0)) (F0 m 0 ls []) := by
  intro s x1 z H locs ls hw hl hf
  unfold f_X1_reckonShare at hf
  refine lv_aload_n (pc := 0) E.1 E.2.1 dX1_reckonShare_0 rfl (lv_at hl 0 rfl) ?_
  refine lv_iload_n (pc := 1) E.1 E.2.1 dX1_reckonShare_1 rfl (lv_at hl 1 rfl) ?_
  obtain ⟨v1, g2, hf⟩ := x_bind hf
  refine x_callVA (pc := 2) (As := [.int x1]) (rest := []) (st1 := [.int v1]) (ws' := (cells1 G ad s)) E hw hl (c_X1_hasRow l G ad s x1 g2) xv_X1_120 xd_X1_hasRow rfl rfl ⟨Nat.le_of_ble_eq_true rfl, Nat.le_of_ble_eq_true rfl⟩ (q0 := 0) rfl rfl rfl rfl (Nat.le_of_ble_eq_true rfl) rfl dX1_reckonShare_2 (fun H locs hw => ?_)
  refine lv_if_ne (tgt := 9) (pc := 5) E.1 E.2.1 dX1_reckonShare_5 (by decide) (fun q3 => ?_) (fun q3 => ?_)
  · have hf := x_neg q3 hf
    refine lv_aload_n (pc := 9) E.1 E.2.1 dX1_reckonShare_9 rfl (lv_at hl 0 rfl) ?_
    refine xg_X1_27 (pc := 10) (v := .ref (ad 6)) E hw 0 rfl rfl dX1_reckonShare_10 ?_
    refine lv_iload_n (pc := 13) E.1 E.2.1 dX1_reckonShare_13 rfl (lv_at hl 1 rfl) ?_
    refine lv_bipush (v := (-2)) (pc := 14) E.1 E.2.1 dX1_reckonShare_14 (by decide) ?_
    obtain ⟨w5, g4, hf⟩ := x_bind hf
    refine x_iast (pc := 16) (ws' := (cells1c G ad (g1_fleets s) (g1_allSum s) (g1_allSpan s) (g1_classes s) (g1_losses s) (g1_spans s) (g1_sums s) (g1_squares s) w5 (g1_poolA s) (g1_poolB s) (g1_poolC s) (g1_first s) (g1_second s))) E hw 6 rfl g4 rfl dX1_reckonShare_16 (fun H locs hw => ?_)
    refine lv_aload_n (pc := 17) E.1 E.2.1 dX1_reckonShare_17 rfl (lv_at hl 0 rfl) ?_
    refine xg_X1_18 (pc := 18) (v := .ref (ad 3)) E hw 0 rfl rfl dX1_reckonShare_18 ?_
    refine lv_iload_n (pc := 21) E.1 E.2.1 dX1_reckonShare_21 rfl (lv_at hl 1 rfl) ?_
    obtain ⟨v7, g6, hf⟩ := x_bind hf
    refine x_iald (pc := 22) E hw 3 rfl g6 dX1_reckonShare_22 ?_
    refine lv_if_le (tgt := 75) (pc := 23) E.1 E.2.1 dX1_reckonShare_23 (by decide) (fun q8 => ?_) (fun q8 => ?_)
    · have hf := x_pos q8 hf
      obtain rfl := Option.some.inj hf
      exact x_retv (pc := 75) E hr hk hw dX1_reckonShare_75
    · have hf := x_neg q8 hf
      refine lv_aload_n (pc := 26) E.1 E.2.1 dX1_reckonShare_26 rfl (lv_at hl 0 rfl) ?_
      refine lv_aload_n (pc := 27) E.1 E.2.1 dX1_reckonShare_27 rfl (lv_at hl 0 rfl) ?_
      refine xg_X1_9 (pc := 28) (v := .ref (ad 1)) E hw 0 rfl rfl dX1_reckonShare_28 ?_
      refine lv_iload_n (pc := 31) E.1 E.2.1 dX1_reckonShare_31 rfl (lv_at hl 1 rfl) ?_
      obtain ⟨v10, g9, hf⟩ := x_bind hf
      refine x_iald (pc := 32) E hw 1 rfl g9 dX1_reckonShare_32 ?_
      obtain ⟨v11, g12, hf⟩ := x_bind hf
      refine x_callVA (pc := 33) (As := [.int v10]) (rest := []) (st1 := [.ref (ad v11)]) (ws' := (cells1c G ad (g1_fleets s) (g1_allSum s) (g1_allSpan s) (g1_classes s) (g1_losses s) (g1_spans s) (g1_sums s) (g1_squares s) w5 (g1_poolA s) (g1_poolB s) (g1_poolC s) (g1_first s) (g1_second s))) E hw hl (c_X1_poolOf l G ad (u1_shares s w5) v10 g12) xv_X1_138 xd_X1_poolOf rfl rfl ⟨Nat.le_of_ble_eq_true rfl, Nat.le_of_ble_eq_true rfl⟩ (q0 := 0) rfl rfl rfl rfl (Nat.le_of_ble_eq_true rfl) rfl dX1_reckonShare_33 (fun H locs hw => ?_)
      by_cases q13 : v11 = 7
      · have hf := x_pos q13 hf
        rw [q13]
        refine lv_astore_n (lv' := [(2, .ref (ad 7)), (0, .ref (ad 0)), (1, .int x1)]) (pc := 36) E.1 E.2.1 dX1_reckonShare_36 rfl hl (by decide) rfl (fun ls hl => ?_)
        refine lv_aload_n (pc := 37) E.1 E.2.1 dX1_reckonShare_37 rfl (lv_at hl 1 rfl) ?_
        refine xg_X1_27 (pc := 38) (v := .ref (ad 6)) E hw 0 rfl rfl dX1_reckonShare_38 ?_
        refine lv_iload_n (pc := 41) E.1 E.2.1 dX1_reckonShare_41 rfl (lv_at hl 2 rfl) ?_
        refine lv_aload_n (pc := 42) E.1 E.2.1 dX1_reckonShare_42 rfl (lv_at hl 0 rfl) ?_
        refine lv_aload_n (pc := 43) E.1 E.2.1 dX1_reckonShare_43 rfl (lv_at hl 1 rfl) ?_
        refine xg_X1_18 (pc := 44) (v := .ref (ad 3)) E hw 0 rfl rfl dX1_reckonShare_44 ?_
        refine lv_iload_n (pc := 47) E.1 E.2.1 dX1_reckonShare_47 rfl (lv_at hl 2 rfl) ?_
        obtain ⟨v15, g14, hf⟩ := x_bind hf
        refine x_iald (pc := 48) E hw 3 rfl g14 dX1_reckonShare_48 ?_
        obtain ⟨v16, g17, hf⟩ := x_bind hf
        refine x_callV (pc := 49) (As := [.int v15]) (rest := [.int x1, .ref (ad 6)]) (st1 := [.int v16, .int x1, .ref (ad 6)]) (ws' := (cells1c G ad (g1_fleets s) (g1_allSum s) (g1_allSpan s) (g1_classes s) (g1_losses s) (g1_spans s) (g1_sums s) (g1_squares s) w5 (g1_poolA s) (g1_poolB s) (g1_poolC s) (g1_first s) (g1_second s))) E hw hl (c_X4_shareBySpan l G (fun k => ad (k + 7)) (g1_poolA s) v15 g17) xv_X1_146 xd_X4_shareBySpan rfl rfl ⟨Nat.le_of_ble_eq_true rfl, Nat.le_of_ble_eq_true rfl⟩ [7, 8] [0, 1, 2, 3, 4, 5, 6, 9, 10, 11, 12, 13, 14] (by decide) ⟨rfl, rfl, trivial⟩ (q0 := 7) rfl rfl rfl rfl (Nat.le_of_ble_eq_true rfl) (nw := 15) ⟨rfl, rfl, trivial⟩ ⟨⟨_, rfl, rfl⟩, ⟨_, rfl, rfl⟩, ⟨_, rfl, rfl⟩, ⟨_, rfl, rfl⟩, ⟨_, rfl, rfl⟩, ⟨_, rfl, rfl⟩, ⟨_, rfl, rfl⟩, ⟨_, rfl, rfl⟩, ⟨_, rfl, rfl⟩, ⟨_, rfl, rfl⟩, ⟨_, rfl, rfl⟩, ⟨_, rfl, rfl⟩, ⟨_, rfl, rfl⟩, trivial⟩ rfl rfl (by decide) (by decide) rfl dX1_reckonShare_49 (fun H locs hw => ?_)
        obtain ⟨w19, g18, hf⟩ := x_bind hf
        refine x_iast (pc := 52) (ws' := (cells1c G ad (g1_fleets s) (g1_allSum s) (g1_allSpan s) (g1_classes s) (g1_losses s) (g1_spans s) (g1_sums s) (g1_squares s) w19 (g1_poolA s) (g1_poolB s) (g1_poolC s) (g1_first s) (g1_second s))) E hw 6 rfl g18 rfl dX1_reckonShare_52 (fun H locs hw => ?_)
        refine lv_aload_n (pc := 53) E.1 E.2.1 dX1_reckonShare_53 rfl (lv_at hl 0 rfl) ?_
        refine lv_aload_n (pc := 54) E.1 E.2.1 dX1_reckonShare_54 rfl (lv_at hl 1 rfl) ?_
        refine xg_X1_18 (pc := 55) (v := .ref (ad 3)) E hw 0 rfl rfl dX1_reckonShare_55 ?_
        refine lv_iload_n (pc := 58) E.1 E.2.1 dX1_reckonShare_58 rfl (lv_at hl 2 rfl) ?_
        obtain ⟨v21, g20, hf⟩ := x_bind hf
        refine x_iald (pc := 59) E hw 3 rfl g20 dX1_reckonShare_59 ?_
        refine lv_aload_n (pc := 60) E.1 E.2.1 dX1_reckonShare_60 rfl (lv_at hl 1 rfl) ?_
        refine xg_X1_21 (pc := 61) (v := .ref (ad 4)) E hw 0 rfl rfl dX1_reckonShare_61 ?_
        refine lv_iload_n (pc := 64) E.1 E.2.1 dX1_reckonShare_64 rfl (lv_at hl 2 rfl) ?_
        obtain ⟨v23, g22, hf⟩ := x_bind hf
        refine x_iald (pc := 65) E hw 4 rfl g22 dX1_reckonShare_65 ?_
        refine lv_aload_n (pc := 66) E.1 E.2.1 dX1_reckonShare_66 rfl (lv_at hl 1 rfl) ?_
        refine xg_X1_27 (pc := 67) (v := .ref (ad 6)) E hw 0 rfl rfl dX1_reckonShare_67 ?_
        refine lv_iload_n (pc := 70) E.1 E.2.1 dX1_reckonShare_70 rfl (lv_at hl 2 rfl) ?_
        obtain ⟨v25, g24, hf⟩ := x_bind hf
        refine x_iald (pc := 71) E hw 6 rfl g24 dX1_reckonShare_71 ?_
        obtain ⟨v26, g27, hf⟩ := x_bind hf
        refine x_callV (pc := 72) (As := [.int v21, .int v23, .int v25]) (rest := []) (st1 := []) (ws' := (cells1c G ad (g1_fleets s) (g1_allSum s) (g1_allSpan s) (g1_classes s) (g1_losses s) (g1_spans s) (g1_sums s) (g1_squares s) w19 v26 (g1_poolB s) (g1_poolC s) (g1_first s) (g1_second s))) E hw hl (c_X4_addShare l G (fun k => ad (k + 7)) (g1_poolA s) v21 v23 v25 g27) xv_X1_149 xd_X4_addShare rfl rfl ⟨Nat.le_of_ble_eq_true rfl, Nat.le_of_ble_eq_true rfl⟩ [7, 8] [0, 1, 2, 3, 4, 5, 6, 9, 10, 11, 12, 13, 14] (by decide) ⟨rfl, rfl, trivial⟩ (q0 := 7) rfl rfl rfl rfl (Nat.le_of_ble_eq_true rfl) (nw := 15) ⟨rfl, rfl, trivial⟩ ⟨⟨_, rfl, rfl⟩, ⟨_, rfl, rfl⟩, ⟨_, rfl, rfl⟩, ⟨_, rfl, rfl⟩, ⟨_, rfl, rfl⟩, ⟨_, rfl, rfl⟩, ⟨_, rfl, rfl⟩, ⟨_, rfl, rfl⟩, ⟨_, rfl, rfl⟩, ⟨_, rfl, rfl⟩, ⟨_, rfl, rfl⟩, ⟨_, rfl, rfl⟩, ⟨_, rfl, rfl⟩, trivial⟩ rfl rfl (by decide) (by decide) rfl dX1_reckonShare_72 (fun H locs hw => ?_)
        obtain rfl := Option.some.inj hf
        exact x_retv (pc := 75) E hr hk hw dX1_reckonShare_75
      · have hf := x_neg q13 hf
        by_cases q28 : v11 = 9
        · have hf := x_pos q28 hf
          rw [q28]
          refine lv_astore_n (lv' := [(2, .ref (ad 9)), (0, .ref (ad 0)), (1, .int x1)]) (pc := 36) E.1 E.2.1 dX1_reckonShare_36 rfl hl (by decide) rfl (fun ls hl => ?_)
          refine lv_aload_n (pc := 37) E.1 E.2.1 dX1_reckonShare_37 rfl (lv_at hl 1 rfl) ?_
          refine xg_X1_27 (pc := 38) (v := .ref (ad 6)) E hw 0 rfl rfl dX1_reckonShare_38 ?_
          refine lv_iload_n (pc := 41) E.1 E.2.1 dX1_reckonShare_41 rfl (lv_at hl 2 rfl) ?_
          refine lv_aload_n (pc := 42) E.1 E.2.1 dX1_reckonShare_42 rfl (lv_at hl 0 rfl) ?_
          refine lv_aload_n (pc := 43) E.1 E.2.1 dX1_reckonShare_43 rfl (lv_at hl 1 rfl) ?_
          refine xg_X1_18 (pc := 44) (v := .ref (ad 3)) E hw 0 rfl rfl dX1_reckonShare_44 ?_
          refine lv_iload_n (pc := 47) E.1 E.2.1 dX1_reckonShare_47 rfl (lv_at hl 2 rfl) ?_
          obtain ⟨v30, g29, hf⟩ := x_bind hf
          refine x_iald (pc := 48) E hw 3 rfl g29 dX1_reckonShare_48 ?_
          obtain ⟨v31, g32, hf⟩ := x_bind hf
          refine x_callV (pc := 49) (As := [.int v30]) (rest := [.int x1, .ref (ad 6)]) (st1 := [.int v31, .int x1, .ref (ad 6)]) (ws' := (cells1c G ad (g1_fleets s) (g1_allSum s) (g1_allSpan s) (g1_classes s) (g1_losses s) (g1_spans s) (g1_sums s) (g1_squares s) w5 (g1_poolA s) (g1_poolB s) (g1_poolC s) (g1_first s) (g1_second s))) E hw hl (c_X4_shareBySpan l G (fun k => ad (k + 9)) (g1_poolB s) v30 g32) xv_X1_146 xd_X4_shareBySpan rfl rfl ⟨Nat.le_of_ble_eq_true rfl, Nat.le_of_ble_eq_true rfl⟩ [9, 10] [0, 1, 2, 3, 4, 5, 6, 7, 8, 11, 12, 13, 14] (by decide) ⟨rfl, rfl, trivial⟩ (q0 := 9) rfl rfl rfl rfl (Nat.le_of_ble_eq_true rfl) (nw := 15) ⟨rfl, rfl, trivial⟩ ⟨⟨_, rfl, rfl⟩, ⟨_, rfl, rfl⟩, ⟨_, rfl, rfl⟩, ⟨_, rfl, rfl⟩, ⟨_, rfl, rfl⟩, ⟨_, rfl, rfl⟩, ⟨_, rfl, rfl⟩, ⟨_, rfl, rfl⟩, ⟨_, rfl, rfl⟩, ⟨_, rfl, rfl⟩, ⟨_, rfl, rfl⟩, ⟨_, rfl, rfl⟩, ⟨_, rfl, rfl⟩, trivial⟩ rfl rfl (by decide) (by decide) rfl dX1_reckonShare_49 (fun H locs hw => ?_)
          obtain ⟨w34, g33, hf⟩ := x_bind hf
          refine x_iast (pc := 52) (ws' := (cells1c G ad (g1_fleets s) (g1_allSum s) (g1_allSpan s) (g1_classes s) (g1_losses s) (g1_spans s) (g1_sums s) (g1_squares s) w34 (g1_poolA s) (g1_poolB s) (g1_poolC s) (g1_first s) (g1_second s))) E hw 6 rfl g33 rfl dX1_reckonShare_52 (fun H locs hw => ?_)
          refine lv_aload_n (pc := 53) E.1 E.2.1 dX1_reckonShare_53 rfl (lv_at hl 0 rfl) ?_
          refine lv_aload_n (pc := 54) E.1 E.2.1 dX1_reckonShare_54 rfl (lv_at hl 1 rfl) ?_
          refine xg_X1_18 (pc := 55) (v := .ref (ad 3)) E hw 0 rfl rfl dX1_reckonShare_55 ?_
          refine lv_iload_n (pc := 58) E.1 E.2.1 dX1_reckonShare_58 rfl (lv_at hl 2 rfl) ?_
          obtain ⟨v36, g35, hf⟩ := x_bind hf
          refine x_iald (pc := 59) E hw 3 rfl g35 dX1_reckonShare_59 ?_
          refine lv_aload_n (pc := 60) E.1 E.2.1 dX1_reckonShare_60 rfl (lv_at hl 1 rfl) ?_
          refine xg_X1_21 (pc := 61) (v := .ref (ad 4)) E hw 0 rfl rfl dX1_reckonShare_61 ?_
          refine lv_iload_n (pc := 64) E.1 E.2.1 dX1_reckonShare_64 rfl (lv_at hl 2 rfl) ?_
          obtain ⟨v38, g37, hf⟩ := x_bind hf
          refine x_iald (pc := 65) E hw 4 rfl g37 dX1_reckonShare_65 ?_
          refine lv_aload_n (pc := 66) E.1 E.2.1 dX1_reckonShare_66 rfl (lv_at hl 1 rfl) ?_
          refine xg_X1_27 (pc := 67) (v := .ref (ad 6)) E hw 0 rfl rfl dX1_reckonShare_67 ?_
          refine lv_iload_n (pc := 70) E.1 E.2.1 dX1_reckonShare_70 rfl (lv_at hl 2 rfl) ?_
          obtain ⟨v40, g39, hf⟩ := x_bind hf
          refine x_iald (pc := 71) E hw 6 rfl g39 dX1_reckonShare_71 ?_
          obtain ⟨v41, g42, hf⟩ := x_bind hf
          refine x_callV (pc := 72) (As := [.int v36, .int v38, .int v40]) (rest := []) (st1 := []) (ws' := (cells1c G ad (g1_fleets s) (g1_allSum s) (g1_allSpan s) (g1_classes s) (g1_losses s) (g1_spans s) (g1_sums s) (g1_squares s) w34 (g1_poolA s) v41 (g1_poolC s) (g1_first s) (g1_second s))) E hw hl (c_X4_addShare l G (fun k => ad (k + 9)) (g1_poolB s) v36 v38 v40 g42) xv_X1_149 xd_X4_addShare rfl rfl ⟨Nat.le_of_ble_eq_true rfl, Nat.le_of_ble_eq_true rfl⟩ [9, 10] [0, 1, 2, 3, 4, 5, 6, 7, 8, 11, 12, 13, 14] (by decide) ⟨rfl, rfl, trivial⟩ (q0 := 9) rfl rfl rfl rfl (Nat.le_of_ble_eq_true rfl) (nw := 15) ⟨rfl, rfl, trivial⟩ ⟨⟨_, rfl, rfl⟩, ⟨_, rfl, rfl⟩, ⟨_, rfl, rfl⟩, ⟨_, rfl, rfl⟩, ⟨_, rfl, rfl⟩, ⟨_, rfl, rfl⟩, ⟨_, rfl, rfl⟩, ⟨_, rfl, rfl⟩, ⟨_, rfl, rfl⟩, ⟨_, rfl, rfl⟩, ⟨_, rfl, rfl⟩, ⟨_, rfl, rfl⟩, ⟨_, rfl, rfl⟩, trivial⟩ rfl rfl (by decide) (by decide) rfl dX1_reckonShare_72 (fun H locs hw => ?_)
          obtain rfl := Option.some.inj hf
          exact x_retv (pc := 75) E hr hk hw dX1_reckonShare_75
        · have hf := x_neg q28 hf
          by_cases q43 : v11 = 11
          · have hf := x_pos q43 hf
            rw [q43]
            refine lv_astore_n (lv' := [(2, .ref (ad 11)), (0, .ref (ad 0)), (1, .int x1)]) (pc := 36) E.1 E.2.1 dX1_reckonShare_36 rfl hl (by decide) rfl (fun ls hl => ?_)
            refine lv_aload_n (pc := 37) E.1 E.2.1 dX1_reckonShare_37 rfl (lv_at hl 1 rfl) ?_
            refine xg_X1_27 (pc := 38) (v := .ref (ad 6)) E hw 0 rfl rfl dX1_reckonShare_38 ?_
            refine lv_iload_n (pc := 41) E.1 E.2.1 dX1_reckonShare_41 rfl (lv_at hl 2 rfl) ?_
            refine lv_aload_n (pc := 42) E.1 E.2.1 dX1_reckonShare_42 rfl (lv_at hl 0 rfl) ?_
            refine lv_aload_n (pc := 43) E.1 E.2.1 dX1_reckonShare_43 rfl (lv_at hl 1 rfl) ?_
            refine xg_X1_18 (pc := 44) (v := .ref (ad 3)) E hw 0 rfl rfl dX1_reckonShare_44 ?_
            refine lv_iload_n (pc := 47) E.1 E.2.1 dX1_reckonShare_47 rfl (lv_at hl 2 rfl) ?_
            obtain ⟨v45, g44, hf⟩ := x_bind hf
            refine x_iald (pc := 48) E hw 3 rfl g44 dX1_reckonShare_48 ?_
            obtain ⟨v46, g47, hf⟩ := x_bind hf
            refine x_callV (pc := 49) (As := [.int v45]) (rest := [.int x1, .ref (ad 6)]) (st1 := [.int v46, .int x1, .ref (ad 6)]) (ws' := (cells1c G ad (g1_fleets s) (g1_allSum s) (g1_allSpan s) (g1_classes s) (g1_losses s) (g1_spans s) (g1_sums s) (g1_squares s) w5 (g1_poolA s) (g1_poolB s) (g1_poolC s) (g1_first s) (g1_second s))) E hw hl (c_X4_shareBySpan l G (fun k => ad (k + 11)) (g1_poolC s) v45 g47) xv_X1_146 xd_X4_shareBySpan rfl rfl ⟨Nat.le_of_ble_eq_true rfl, Nat.le_of_ble_eq_true rfl⟩ [11, 12] [0, 1, 2, 3, 4, 5, 6, 7, 8, 9, 10, 13, 14] (by decide) ⟨rfl, rfl, trivial⟩ (q0 := 11) rfl rfl rfl rfl (Nat.le_of_ble_eq_true rfl) (nw := 15) ⟨rfl, rfl, trivial⟩ ⟨⟨_, rfl, rfl⟩, ⟨_, rfl, rfl⟩, ⟨_, rfl, rfl⟩, ⟨_, rfl, rfl⟩, ⟨_, rfl, rfl⟩, ⟨_, rfl, rfl⟩, ⟨_, rfl, rfl⟩, ⟨_, rfl, rfl⟩, ⟨_, rfl, rfl⟩, ⟨_, rfl, rfl⟩, ⟨_, rfl, rfl⟩, ⟨_, rfl, rfl⟩, ⟨_, rfl, rfl⟩, trivial⟩ rfl rfl (by decide) (by decide) rfl dX1_reckonShare_49 (fun H locs hw => ?_)
            obtain ⟨w49, g48, hf⟩ := x_bind hf
            refine x_iast (pc := 52) (ws' := (cells1c G ad (g1_fleets s) (g1_allSum s) (g1_allSpan s) (g1_classes s) (g1_losses s) (g1_spans s) (g1_sums s) (g1_squares s) w49 (g1_poolA s) (g1_poolB s) (g1_poolC s) (g1_first s) (g1_second s))) E hw 6 rfl g48 rfl dX1_reckonShare_52 (fun H locs hw => ?_)
            refine lv_aload_n (pc := 53) E.1 E.2.1 dX1_reckonShare_53 rfl (lv_at hl 0 rfl) ?_
            refine lv_aload_n (pc := 54) E.1 E.2.1 dX1_reckonShare_54 rfl (lv_at hl 1 rfl) ?_
            refine xg_X1_18 (pc := 55) (v := .ref (ad 3)) E hw 0 rfl rfl dX1_reckonShare_55 ?_
            refine lv_iload_n (pc := 58) E.1 E.2.1 dX1_reckonShare_58 rfl (lv_at hl 2 rfl) ?_
            obtain ⟨v51, g50, hf⟩ := x_bind hf
            refine x_iald (pc := 59) E hw 3 rfl g50 dX1_reckonShare_59 ?_
            refine lv_aload_n (pc := 60) E.1 E.2.1 dX1_reckonShare_60 rfl (lv_at hl 1 rfl) ?_
            refine xg_X1_21 (pc := 61) (v := .ref (ad 4)) E hw 0 rfl rfl dX1_reckonShare_61 ?_
            refine lv_iload_n (pc := 64) E.1 E.2.1 dX1_reckonShare_64 rfl (lv_at hl 2 rfl) ?_
            obtain ⟨v53, g52, hf⟩ := x_bind hf
            refine x_iald (pc := 65) E hw 4 rfl g52 dX1_reckonShare_65 ?_
            refine lv_aload_n (pc := 66) E.1 E.2.1 dX1_reckonShare_66 rfl (lv_at hl 1 rfl) ?_
            refine xg_X1_27 (pc := 67) (v := .ref (ad 6)) E hw 0 rfl rfl dX1_reckonShare_67 ?_
            refine lv_iload_n (pc := 70) E.1 E.2.1 dX1_reckonShare_70 rfl (lv_at hl 2 rfl) ?_
            obtain ⟨v55, g54, hf⟩ := x_bind hf
            refine x_iald (pc := 71) E hw 6 rfl g54 dX1_reckonShare_71 ?_
            obtain ⟨v56, g57, hf⟩ := x_bind hf
            refine x_callV (pc := 72) (As := [.int v51, .int v53, .int v55]) (rest := []) (st1 := []) (ws' := (cells1c G ad (g1_fleets s) (g1_allSum s) (g1_allSpan s) (g1_classes s) (g1_losses s) (g1_spans s) (g1_sums s) (g1_squares s) w49 (g1_poolA s) (g1_poolB s) v56 (g1_first s) (g1_second s))) E hw hl (c_X4_addShare l G (fun k => ad (k + 11)) (g1_poolC s) v51 v53 v55 g57) xv_X1_149 xd_X4_addShare rfl rfl ⟨Nat.le_of_ble_eq_true rfl, Nat.le_of_ble_eq_true rfl⟩ [11, 12] [0, 1, 2, 3, 4, 5, 6, 7, 8, 9, 10, 13, 14] (by decide) ⟨rfl, rfl, trivial⟩ (q0 := 11) rfl rfl rfl rfl (Nat.le_of_ble_eq_true rfl) (nw := 15) ⟨rfl, rfl, trivial⟩ ⟨⟨_, rfl, rfl⟩, ⟨_, rfl, rfl⟩, ⟨_, rfl, rfl⟩, ⟨_, rfl, rfl⟩, ⟨_, rfl, rfl⟩, ⟨_, rfl, rfl⟩, ⟨_, rfl, rfl⟩, ⟨_, rfl, rfl⟩, ⟨_, rfl, rfl⟩, ⟨_, rfl, rfl⟩, ⟨_, rfl, rfl⟩, ⟨_, rfl, rfl⟩, ⟨_, rfl, rfl⟩, trivial⟩ rfl rfl (by decide) (by decide) rfl dX1_reckonShare_72 (fun H locs hw => ?_)
            obtain rfl := Option.some.inj hf
            exact x_retv (pc := 75) E hr hk hw dX1_reckonShare_75
          · have hf := x_neg q43 hf
            cases hf
  · have hf := x_pos q3 hf
    obtain rfl := Option.some.inj hf
    exact x_retv (pc := 8) E hr hk hw dX1_reckonShare_8
set_option maxHeartbeats 4000000 in
set_option maxRecDepth 100000 in
theorem c_X1_reckonShare (l : Launch) (G : xG) (ad : Nat → Nat) (s : S1) (x1 : Int32) {z : S1} (hf : f_X1_reckonShare s x1 = some z) : xC l yX1_reckonShare cX1_reckonShare 3 none (rm_X1_reckonShare) G [.ref (ad 0), .int x1] (cells1 G ad s) none (cells1 G ad z) :=
  x_met (by decide) rfl (Nat.le_of_ble_eq_true rfl) (fun p e sS m below meth c E hr hk ls hl hw => w_X1_reckonShare_p0 E hr hk s x1 z hw hl hf)
set_option maxHeartbeats 4000000 in
set_option maxRecDepth 100000 in
theorem w_X1_reckon_p94 {p : Program} {l : Launch} {e : Env} {sS : State} {m : MethodId} {args : Array Value} {below : List Frame} {meth : Method} {c : Code} {G : xG} {W0 : va_W} {ad : Nat → Nat} {ae : Nat → Nat}  {k94 : S1 → S0 → Int32 → Option (S1)} (E : xE p sS m args c cX1_reckon 3 RX1 G (x_in W0)) (hr : meth.sig.returnType = none) (hk : meth.locks = false) (hk94 : ∀ (s' : S1) (q' : S0) (x2' : Int32) (z : S1) {H : Heap} {locs : List Loc} {ls : Array Slot}, xW G (x_in W0) sS.heap (cells1 G ad s' ++ cells0 G ae q') H locs → lv_has ls 3 [(0, .ref (ad 0)), (1, .ref (ae 0)), (2, .int x2')] → k94  s' q' x2' = some z → W p l e (rm_X1_reckon) sS m args below meth c H locs 0 0 (MQ below (xQ G W0 (cells1 G ad z ++ cells0 G ae q') none) args sS 0 0 (x_in W0)) (F0 m 94 ls [])) : ∀ (s' : S1) (q' : S0) (x2' : Int32) (z : S1) {H : Heap} {locs : List Loc} {ls : Array Slot}, xW G (x_in W0) sS.heap (cells1 G ad s' ++ cells0 G ae q') H locs → lv_has ls 3 [(0, .ref (ad 0)), (1, .ref (ae 0)), (2, .int x2')] → f_X1_reckon_p94 k94 s' q' x2' = some z → W p l e (rm_X1_reckon) sS m args below meth c H locs 0 0 (MQ below (xQ G W0 (cells1 G ad z ++ cells0 G ae q') none) args sS 0 0 (x_in W0)) (F0 m 94 ls []) := by
  intro s q x2 z H locs ls hw hl hf
  unfold f_X1_reckon_p94 at hf
  refine lv_iload_n (pc := 94) E.1 E.2.1 dX1_reckon_94 rfl (lv_at hl 2 rfl) ?_
  refine lv_aload_n (pc := 95) E.1 E.2.1 dX1_reckon_95 rfl (lv_at hl 0 rfl) ?_
  refine xg_X1_65 (pc := 96) (v := .int (g1_fleets s)) E hw 0 rfl rfl dX1_reckon_96 ?_
  refine lv_icmp_ge (tgt := 113) (pc := 99) E.1 E.2.1 dX1_reckon_99 (by decide) (fun q1 => ?_) (fun q1 => ?_)
  · have hf := x_pos q1 hf
    refine lv_aload_n (pc := 113) E.1 E.2.1 dX1_reckon_113 rfl (lv_at hl 0 rfl) ?_
    refine lv_aload_n (pc := 114) E.1 E.2.1 dX1_reckon_114 rfl (lv_at hl 0 rfl) ?_
    refine xg_X1_46 (pc := 115) (v := .ref (ad 13)) E hw 0 rfl rfl dX1_reckon_115 ?_
    obtain ⟨v2, g3, hf⟩ := x_bind hf
    refine x_callV (pc := 118) (As := [.ref (ad 13)]) (rest := []) (st1 := []) (ws' := (cells1 G ad v2 ++ cells0 G ae q)) E hw hl (c_X1_putWhole_i13 l G ad s g3) xv_X1_90 xd_X1_putWhole rfl rfl ⟨Nat.le_of_ble_eq_true rfl, Nat.le_of_ble_eq_true rfl⟩ [0, 1, 2, 3, 4, 5, 6, 7, 8, 9, 10, 11, 12, 13, 14] [15, 16, 17, 18] (by decide) ⟨rfl, rfl, rfl, rfl, rfl, rfl, rfl, rfl, rfl, rfl, rfl, rfl, rfl, rfl, rfl, trivial⟩ (q0 := 0) rfl rfl rfl rfl (Nat.le_of_ble_eq_true rfl) (nw := 19) ⟨rfl, rfl, rfl, rfl, rfl, rfl, rfl, rfl, rfl, rfl, rfl, rfl, rfl, rfl, rfl, trivial⟩ ⟨⟨_, rfl, rfl⟩, ⟨_, rfl, rfl⟩, ⟨_, rfl, rfl⟩, ⟨_, rfl, rfl⟩, trivial⟩ rfl rfl (by decide) (by decide) rfl dX1_reckon_118 (fun H locs hw => ?_)
    refine lv_aload_n (pc := 121) E.1 E.2.1 dX1_reckon_121 rfl (lv_at hl 0 rfl) ?_
    refine xg_X1_33 (pc := 122) (v := .ref (ad 7)) E hw 0 rfl rfl dX1_reckon_122 ?_
    refine lv_aload_n (pc := 125) E.1 E.2.1 dX1_reckon_125 rfl (lv_at hl 1 rfl) ?_
    refine xg_X1_94 (pc := 126) (v := .int (g0_steady q)) E hw 15 rfl rfl dX1_reckon_126 ?_
    refine lv_aload_n (pc := 129) E.1 E.2.1 dX1_reckon_129 rfl (lv_at hl 0 rfl) ?_
    refine xg_X1_46 (pc := 130) (v := .ref (ad 13)) E hw 0 rfl rfl dX1_reckon_130 ?_
    obtain ⟨v4, g5, hf⟩ := x_bind hf
    refine x_callV (pc := 133) (As := [.int (g0_steady q), .ref (ad 13)]) (rest := []) (st1 := []) (ws' := (cells1c G ad (g1_fleets v2) (g1_allSum v2) (g1_allSpan v2) (g1_classes v2) (g1_losses v2) (g1_spans v2) (g1_sums v2) (g1_squares v2) (g1_shares v2) v4 (g1_poolB v2) (g1_poolC v2) (g1_first v2) (g1_second v2) ++ cells0 G ae q)) E hw hl (c_X4_reckonBase l G (fun k => ad (k + 7)) (fun k => ad (k + 13)) (g1_poolA v2) (g1_first v2) (g0_steady q) g5) xv_X1_97 xd_X4_reckonBase rfl rfl ⟨Nat.le_of_ble_eq_true rfl, Nat.le_of_ble_eq_true rfl⟩ [7, 8, 13] [0, 1, 2, 3, 4, 5, 6, 9, 10, 11, 12, 14, 15, 16, 17, 18] (by decide) ⟨rfl, rfl, rfl, trivial⟩ (q0 := 7) rfl rfl rfl rfl (Nat.le_of_ble_eq_true rfl) (nw := 19) ⟨rfl, rfl, rfl, trivial⟩ ⟨⟨_, rfl, rfl⟩, ⟨_, rfl, rfl⟩, ⟨_, rfl, rfl⟩, ⟨_, rfl, rfl⟩, ⟨_, rfl, rfl⟩, ⟨_, rfl, rfl⟩, ⟨_, rfl, rfl⟩, ⟨_, rfl, rfl⟩, ⟨_, rfl, rfl⟩, ⟨_, rfl, rfl⟩, ⟨_, rfl, rfl⟩, ⟨_, rfl, rfl⟩, ⟨_, rfl, rfl⟩, ⟨_, rfl, rfl⟩, ⟨_, rfl, rfl⟩, ⟨_, rfl, rfl⟩, trivial⟩ rfl rfl (by decide) (by decide) rfl dX1_reckon_133 (fun H locs hw => ?_)
    refine lv_aload_n (pc := 136) E.1 E.2.1 dX1_reckon_136 rfl (lv_at hl 0 rfl) ?_
    refine xg_X1_37 (pc := 137) (v := .ref (ad 9)) E hw 0 rfl rfl dX1_reckon_137 ?_
    refine lv_aload_n (pc := 140) E.1 E.2.1 dX1_reckon_140 rfl (lv_at hl 1 rfl) ?_
    refine xg_X1_94 (pc := 141) (v := .int (g0_steady q)) E hw 15 rfl rfl dX1_reckon_141 ?_
    refine lv_aload_n (pc := 144) E.1 E.2.1 dX1_reckon_144 rfl (lv_at hl 0 rfl) ?_
    refine xg_X1_46 (pc := 145) (v := .ref (ad 13)) E hw 0 rfl rfl dX1_reckon_145 ?_
    obtain ⟨v6, g7, hf⟩ := x_bind hf
    refine x_callV (pc := 148) (As := [.int (g0_steady q), .ref (ad 13)]) (rest := []) (st1 := []) (ws' := (cells1c G ad (g1_fleets v2) (g1_allSum v2) (g1_allSpan v2) (g1_classes v2) (g1_losses v2) (g1_spans v2) (g1_sums v2) (g1_squares v2) (g1_shares v2) v4 v6 (g1_poolC v2) (g1_first v2) (g1_second v2) ++ cells0 G ae q)) E hw hl (c_X4_reckonBase l G (fun k => ad (k + 9)) (fun k => ad (k + 13)) (g1_poolB v2) (g1_first v2) (g0_steady q) g7) xv_X1_97 xd_X4_reckonBase rfl rfl ⟨Nat.le_of_ble_eq_true rfl, Nat.le_of_ble_eq_true rfl⟩ [9, 10, 13] [0, 1, 2, 3, 4, 5, 6, 7, 8, 11, 12, 14, 15, 16, 17, 18] (by decide) ⟨rfl, rfl, rfl, trivial⟩ (q0 := 9) rfl rfl rfl rfl (Nat.le_of_ble_eq_true rfl) (nw := 19) ⟨rfl, rfl, rfl, trivial⟩ ⟨⟨_, rfl, rfl⟩, ⟨_, rfl, rfl⟩, ⟨_, rfl, rfl⟩, ⟨_, rfl, rfl⟩, ⟨_, rfl, rfl⟩, ⟨_, rfl, rfl⟩, ⟨_, rfl, rfl⟩, ⟨_, rfl, rfl⟩, ⟨_, rfl, rfl⟩, ⟨_, rfl, rfl⟩, ⟨_, rfl, rfl⟩, ⟨_, rfl, rfl⟩, ⟨_, rfl, rfl⟩, ⟨_, rfl, rfl⟩, ⟨_, rfl, rfl⟩, ⟨_, rfl, rfl⟩, trivial⟩ rfl rfl (by decide) (by decide) rfl dX1_reckon_148 (fun H locs hw => ?_)
    refine lv_aload_n (pc := 151) E.1 E.2.1 dX1_reckon_151 rfl (lv_at hl 0 rfl) ?_
    refine xg_X1_40 (pc := 152) (v := .ref (ad 11)) E hw 0 rfl rfl dX1_reckon_152 ?_
    refine lv_aload_n (pc := 155) E.1 E.2.1 dX1_reckon_155 rfl (lv_at hl 1 rfl) ?_
    refine xg_X1_94 (pc := 156) (v := .int (g0_steady q)) E hw 15 rfl rfl dX1_reckon_156 ?_
    refine lv_aload_n (pc := 159) E.1 E.2.1 dX1_reckon_159 rfl (lv_at hl 0 rfl) ?_
    refine xg_X1_46 (pc := 160) (v := .ref (ad 13)) E hw 0 rfl rfl dX1_reckon_160 ?_
    obtain ⟨v8, g9, hf⟩ := x_bind hf
    refine x_callV (pc := 163) (As := [.int (g0_steady q), .ref (ad 13)]) (rest := []) (st1 := []) (ws' := (cells1c G ad (g1_fleets v2) (g1_allSum v2) (g1_allSpan v2) (g1_classes v2) (g1_losses v2) (g1_spans v2) (g1_sums v2) (g1_squares v2) (g1_shares v2) v4 v6 v8 (g1_first v2) (g1_second v2) ++ cells0 G ae q)) E hw hl (c_X4_reckonBase l G (fun k => ad (k + 11)) (fun k => ad (k + 13)) (g1_poolC v2) (g1_first v2) (g0_steady q) g9) xv_X1_97 xd_X4_reckonBase rfl rfl ⟨Nat.le_of_ble_eq_true rfl, Nat.le_of_ble_eq_true rfl⟩ [11, 12, 13] [0, 1, 2, 3, 4, 5, 6, 7, 8, 9, 10, 14, 15, 16, 17, 18] (by decide) ⟨rfl, rfl, rfl, trivial⟩ (q0 := 11) rfl rfl rfl rfl (Nat.le_of_ble_eq_true rfl) (nw := 19) ⟨rfl, rfl, rfl, trivial⟩ ⟨⟨_, rfl, rfl⟩, ⟨_, rfl, rfl⟩, ⟨_, rfl, rfl⟩, ⟨_, rfl, rfl⟩, ⟨_, rfl, rfl⟩, ⟨_, rfl, rfl⟩, ⟨_, rfl, rfl⟩, ⟨_, rfl, rfl⟩, ⟨_, rfl, rfl⟩, ⟨_, rfl, rfl⟩, ⟨_, rfl, rfl⟩, ⟨_, rfl, rfl⟩, ⟨_, rfl, rfl⟩, ⟨_, rfl, rfl⟩, ⟨_, rfl, rfl⟩, ⟨_, rfl, rfl⟩, trivial⟩ rfl rfl (by decide) (by decide) rfl dX1_reckon_163 (fun H locs hw => ?_)
    obtain rfl := Option.some.inj hf
    exact x_retv (pc := 166) E hr hk hw dX1_reckon_166
  · have hf := x_neg q1 hf
    refine lv_aload_n (pc := 102) E.1 E.2.1 dX1_reckon_102 rfl (lv_at hl 0 rfl) ?_
    refine lv_iload_n (pc := 103) E.1 E.2.1 dX1_reckon_103 rfl (lv_at hl 2 rfl) ?_
    obtain ⟨v10, g11, hf⟩ := x_bind hf
    refine x_callV (pc := 104) (As := [.int x2]) (rest := []) (st1 := []) (ws' := (cells1 G ad v10 ++ cells0 G ae q)) E hw hl (c_X1_reckonShare l G ad s x2 g11) xv_X1_86 xd_X1_reckonShare rfl rfl ⟨Nat.le_of_ble_eq_true rfl, Nat.le_of_ble_eq_true rfl⟩ [0, 1, 2, 3, 4, 5, 6, 7, 8, 9, 10, 11, 12, 13, 14] [15, 16, 17, 18] (by decide) ⟨rfl, rfl, rfl, rfl, rfl, rfl, rfl, rfl, rfl, rfl, rfl, rfl, rfl, rfl, rfl, trivial⟩ (q0 := 0) rfl rfl rfl rfl (Nat.le_of_ble_eq_true rfl) (nw := 19) ⟨rfl, rfl, rfl, rfl, rfl, rfl, rfl, rfl, rfl, rfl, rfl, rfl, rfl, rfl, rfl, trivial⟩ ⟨⟨_, rfl, rfl⟩, ⟨_, rfl, rfl⟩, ⟨_, rfl, rfl⟩, ⟨_, rfl, rfl⟩, trivial⟩ rfl rfl (by decide) (by decide) rfl dX1_reckon_104 (fun H locs hw => ?_)
    refine lv_iinc (v := (x2 + 1)) (lv' := [(2, .int (x2 + 1)), (0, .ref (ad 0)), (1, .ref (ae 0))]) (pc := 107) E.1 E.2.1 dX1_reckon_107 hl (k := 2) rfl rfl (by decide) rfl (fun ls hl => ?_)
    refine lv_goto (tgt := 94) (pc := 110) E.1 E.2.1 dX1_reckon_110 (by decide) ?_
    exact hk94 v10 q (x2 + 1) z hw (lv_sub hl [1, 2, 0] rfl) hf
set_option maxHeartbeats 4000000 in
set_option maxRecDepth 100000 in
theorem wl_X1_reckon_p94 {p : Program} {l : Launch} {e : Env} {sS : State} {m : MethodId} {args : Array Value} {below : List Frame} {meth : Method} {c : Code} {G : xG} {W0 : va_W} {ad : Nat → Nat} {ae : Nat → Nat}   (E : xE p sS m args c cX1_reckon 3 RX1 G (x_in W0)) (hr : meth.sig.returnType = none) (hk : meth.locks = false)  : ∀ (s' : S1) (q' : S0) (x2' : Int32) (z : S1) {H : Heap} {locs : List Loc} {ls : Array Slot}, xW G (x_in W0) sS.heap (cells1 G ad s' ++ cells0 G ae q') H locs → lv_has ls 3 [(0, .ref (ad 0)), (1, .ref (ae 0)), (2, .int x2')] → lp_X1_reckon_p94  s' q' x2' = some z → W p l e (rm_X1_reckon) sS m args below meth c H locs 0 0 (MQ below (xQ G W0 (cells1 G ad z ++ cells0 G ae q') none) args sS 0 0 (x_in W0)) (F0 m 94 ls []) := by
  intro s q x2 z H locs ls hw hl hf
  exact x_loop_W (P := fun (q : S1 × S0 × Int32) (z : S1) => ∀ {H : Heap} {locs : List Loc} {ls : Array Slot}, xW G (x_in W0) sS.heap (cells1 G ad q.1 ++ cells0 G ae q.2.1) H locs → lv_has ls 3 [(0, .ref (ad 0)), (1, .ref (ae 0)), (2, .int q.2.2)] → W p l e (rm_X1_reckon) sS m args below meth c H locs 0 0 (MQ below (xQ G W0 (cells1 G ad z ++ cells0 G ae q.2.1) none) args sS 0 0 (x_in W0)) (F0 m 94 ls [])) (fun k hkk q z hf H locs ls hw hl => w_X1_reckon_p94 E hr hk  (fun s q x2 z H locs ls hw hl hf => hkk (s, q, x2) z hf hw hl) q.1 q.2.1 q.2.2 z hw hl hf) FU (s, q, x2) z hf hw hl
set_option maxHeartbeats 4000000 in
set_option maxRecDepth 100000 in
theorem w_X1_reckon_p51 {p : Program} {l : Launch} {e : Env} {sS : State} {m : MethodId} {args : Array Value} {below : List Frame} {meth : Method} {c : Code} {G : xG} {W0 : va_W} {ad : Nat → Nat} {ae : Nat → Nat}  {k51 : S1 → S0 → Int32 → Option (S1)} (E : xE p sS m args c cX1_reckon 3 RX1 G (x_in W0)) (hr : meth.sig.returnType = none) (hk : meth.locks = false) (hk51 : ∀ (s' : S1) (q' : S0) (x2' : Int32) (z : S1) {H : Heap} {locs : List Loc} {ls : Array Slot}, xW G (x_in W0) sS.heap (cells1 G ad s' ++ cells0 G ae q') H locs → lv_has ls 3 [(0, .ref (ad 0)), (1, .ref (ae 0)), (2, .int x2')] → k51  s' q' x2' = some z → W p l e (rm_X1_reckon) sS m args below meth c H locs 0 0 (MQ below (xQ G W0 (cells1 G ad z ++ cells0 G ae q') none) args sS 0 0 (x_in W0)) (F0 m 51 ls [])) : ∀ (s' : S1) (q' : S0) (x2' : Int32) (z : S1) {H : Heap} {locs : List Loc} {ls : Array Slot}, xW G (x_in W0) sS.heap (cells1 G ad s' ++ cells0 G ae q') H locs → lv_has ls 3 [(0, .ref (ad 0)), (1, .ref (ae 0)), (2, .int x2')] → f_X1_reckon_p51 k51 s' q' x2' = some z → W p l e (rm_X1_reckon) sS m args below meth c H locs 0 0 (MQ below (xQ G W0 (cells1 G ad z ++ cells0 G ae q') none) args sS 0 0 (x_in W0)) (F0 m 51 ls []) := by
  intro s q x2 z H locs ls hw hl hf
  unfold f_X1_reckon_p51 at hf
  refine lv_iload_n (pc := 51) E.1 E.2.1 dX1_reckon_51 rfl (lv_at hl 2 rfl) ?_
  refine lv_aload_n (pc := 52) E.1 E.2.1 dX1_reckon_52 rfl (lv_at hl 0 rfl) ?_
  refine xg_X1_65 (pc := 53) (v := .int (g1_fleets s)) E hw 0 rfl rfl dX1_reckon_53 ?_
  refine lv_icmp_ge (tgt := 71) (pc := 56) E.1 E.2.1 dX1_reckon_56 (by decide) (fun q1 => ?_) (fun q1 => ?_)
  · have hf := x_pos q1 hf
    refine lv_aload_n (pc := 71) E.1 E.2.1 dX1_reckon_71 rfl (lv_at hl 0 rfl) ?_
    refine xg_X1_33 (pc := 72) (v := .ref (ad 7)) E hw 0 rfl rfl dX1_reckon_72 ?_
    obtain ⟨v2, g3, hf⟩ := x_bind hf
    refine x_callV (pc := 75) (As := []) (rest := []) (st1 := []) (ws' := (cells1c G ad (g1_fleets s) (g1_allSum s) (g1_allSpan s) (g1_classes s) (g1_losses s) (g1_spans s) (g1_sums s) (g1_squares s) (g1_shares s) v2 (g1_poolB s) (g1_poolC s) (g1_first s) (g1_second s) ++ cells0 G ae q)) E hw hl (c_X4_settle l G (fun k => ad (k + 7)) (g1_poolA s) g3) xv_X1_83 xd_X4_settle rfl rfl ⟨Nat.le_of_ble_eq_true rfl, Nat.le_of_ble_eq_true rfl⟩ [7, 8] [0, 1, 2, 3, 4, 5, 6, 9, 10, 11, 12, 13, 14, 15, 16, 17, 18] (by decide) ⟨rfl, rfl, trivial⟩ (q0 := 7) rfl rfl rfl rfl (Nat.le_of_ble_eq_true rfl) (nw := 19) ⟨rfl, rfl, trivial⟩ ⟨⟨_, rfl, rfl⟩, ⟨_, rfl, rfl⟩, ⟨_, rfl, rfl⟩, ⟨_, rfl, rfl⟩, ⟨_, rfl, rfl⟩, ⟨_, rfl, rfl⟩, ⟨_, rfl, rfl⟩, ⟨_, rfl, rfl⟩, ⟨_, rfl, rfl⟩, ⟨_, rfl, rfl⟩, ⟨_, rfl, rfl⟩, ⟨_, rfl, rfl⟩, ⟨_, rfl, rfl⟩, ⟨_, rfl, rfl⟩, ⟨_, rfl, rfl⟩, ⟨_, rfl, rfl⟩, ⟨_, rfl, rfl⟩, trivial⟩ rfl rfl (by decide) (by decide) rfl dX1_reckon_75 (fun H locs hw => ?_)
    refine lv_aload_n (pc := 78) E.1 E.2.1 dX1_reckon_78 rfl (lv_at hl 0 rfl) ?_
    refine xg_X1_37 (pc := 79) (v := .ref (ad 9)) E hw 0 rfl rfl dX1_reckon_79 ?_
    obtain ⟨v4, g5, hf⟩ := x_bind hf
    refine x_callV (pc := 82) (As := []) (rest := []) (st1 := []) (ws' := (cells1c G ad (g1_fleets s) (g1_allSum s) (g1_allSpan s) (g1_classes s) (g1_losses s) (g1_spans s) (g1_sums s) (g1_squares s) (g1_shares s) v2 v4 (g1_poolC s) (g1_first s) (g1_second s) ++ cells0 G ae q)) E hw hl (c_X4_settle l G (fun k => ad (k + 9)) (g1_poolB s) g5) xv_X1_83 xd_X4_settle rfl rfl ⟨Nat.le_of_ble_eq_true rfl, Nat.le_of_ble_eq_true rfl⟩ [9, 10] [0, 1, 2, 3, 4, 5, 6, 7, 8, 11, 12, 13, 14, 15, 16, 17, 18] (by decide) ⟨rfl, rfl, trivial⟩ (q0 := 9) rfl rfl rfl rfl (Nat.le_of_ble_eq_true rfl) (nw := 19) ⟨rfl, rfl, trivial⟩ ⟨⟨_, rfl, rfl⟩, ⟨_, rfl, rfl⟩, ⟨_, rfl, rfl⟩, ⟨_, rfl, rfl⟩, ⟨_, rfl, rfl⟩, ⟨_, rfl, rfl⟩, ⟨_, rfl, rfl⟩, ⟨_, rfl, rfl⟩, ⟨_, rfl, rfl⟩, ⟨_, rfl, rfl⟩, ⟨_, rfl, rfl⟩, ⟨_, rfl, rfl⟩, ⟨_, rfl, rfl⟩, ⟨_, rfl, rfl⟩, ⟨_, rfl, rfl⟩, ⟨_, rfl, rfl⟩, ⟨_, rfl, rfl⟩, trivial⟩ rfl rfl (by decide) (by decide) rfl dX1_reckon_82 (fun H locs hw => ?_)
    refine lv_aload_n (pc := 85) E.1 E.2.1 dX1_reckon_85 rfl (lv_at hl 0 rfl) ?_
    refine xg_X1_40 (pc := 86) (v := .ref (ad 11)) E hw 0 rfl rfl dX1_reckon_86 ?_
    obtain ⟨v6, g7, hf⟩ := x_bind hf
    refine x_callV (pc := 89) (As := []) (rest := []) (st1 := []) (ws' := (cells1c G ad (g1_fleets s) (g1_allSum s) (g1_allSpan s) (g1_classes s) (g1_losses s) (g1_spans s) (g1_sums s) (g1_squares s) (g1_shares s) v2 v4 v6 (g1_first s) (g1_second s) ++ cells0 G ae q)) E hw hl (c_X4_settle l G (fun k => ad (k + 11)) (g1_poolC s) g7) xv_X1_83 xd_X4_settle rfl rfl ⟨Nat.le_of_ble_eq_true rfl, Nat.le_of_ble_eq_true rfl⟩ [11, 12] [0, 1, 2, 3, 4, 5, 6, 7, 8, 9, 10, 13, 14, 15, 16, 17, 18] (by decide) ⟨rfl, rfl, trivial⟩ (q0 := 11) rfl rfl rfl rfl (Nat.le_of_ble_eq_true rfl) (nw := 19) ⟨rfl, rfl, trivial⟩ ⟨⟨_, rfl, rfl⟩, ⟨_, rfl, rfl⟩, ⟨_, rfl, rfl⟩, ⟨_, rfl, rfl⟩, ⟨_, rfl, rfl⟩, ⟨_, rfl, rfl⟩, ⟨_, rfl, rfl⟩, ⟨_, rfl, rfl⟩, ⟨_, rfl, rfl⟩, ⟨_, rfl, rfl⟩, ⟨_, rfl, rfl⟩, ⟨_, rfl, rfl⟩, ⟨_, rfl, rfl⟩, ⟨_, rfl, rfl⟩, ⟨_, rfl, rfl⟩, ⟨_, rfl, rfl⟩, ⟨_, rfl, rfl⟩, trivial⟩ rfl rfl (by decide) (by decide) rfl dX1_reckon_89 (fun H locs hw => ?_)
    refine lv_iconst (v := 0) (pc := 92) E.1 E.2.1 dX1_reckon_92 (by decide) ?_
    refine lv_istore_n (lv' := [(2, .int 0), (0, .ref (ad 0)), (1, .ref (ae 0))]) (pc := 93) E.1 E.2.1 dX1_reckon_93 rfl hl (by decide) rfl (fun ls hl => ?_)
    exact wl_X1_reckon_p94 E hr hk  (u1_poolC (u1_poolB (u1_poolA s v2) v4) v6) q 0 z hw (lv_sub hl [1, 2, 0] rfl) hf
  · have hf := x_neg q1 hf
    refine lv_aload_n (pc := 59) E.1 E.2.1 dX1_reckon_59 rfl (lv_at hl 0 rfl) ?_
    refine lv_aload_n (pc := 60) E.1 E.2.1 dX1_reckon_60 rfl (lv_at hl 1 rfl) ?_
    refine lv_iload_n (pc := 61) E.1 E.2.1 dX1_reckon_61 rfl (lv_at hl 2 rfl) ?_
    obtain ⟨v8, g9, hf⟩ := x_bind hf
    refine x_callV (pc := 62) (As := [.ref (ae 0), .int x2]) (rest := []) (st1 := []) (ws' := (cells1 G ad v8 ++ cells0 G ae q)) E hw hl (c_X1_reckonFleet l G ad ae s q x2 g9) xv_X1_79 xd_X1_reckonFleet rfl rfl ⟨Nat.le_of_ble_eq_true rfl, Nat.le_of_ble_eq_true rfl⟩ [0, 1, 2, 3, 4, 5, 6, 7, 8, 9, 10, 11, 12, 13, 14, 15, 16, 17, 18] [] (by decide) ⟨rfl, rfl, rfl, rfl, rfl, rfl, rfl, rfl, rfl, rfl, rfl, rfl, rfl, rfl, rfl, rfl, rfl, rfl, rfl, trivial⟩ (q0 := 0) rfl rfl rfl rfl (Nat.le_of_ble_eq_true rfl) (nw := 19) ⟨rfl, rfl, rfl, rfl, rfl, rfl, rfl, rfl, rfl, rfl, rfl, rfl, rfl, rfl, rfl, rfl, rfl, rfl, rfl, trivial⟩ trivial rfl rfl (by decide) (by decide) rfl dX1_reckon_62 (fun H locs hw => ?_)
    refine lv_iinc (v := (x2 + 1)) (lv' := [(2, .int (x2 + 1)), (0, .ref (ad 0)), (1, .ref (ae 0))]) (pc := 65) E.1 E.2.1 dX1_reckon_65 hl (k := 2) rfl rfl (by decide) rfl (fun ls hl => ?_)
    refine lv_goto (tgt := 51) (pc := 68) E.1 E.2.1 dX1_reckon_68 (by decide) ?_
    exact hk51 v8 q (x2 + 1) z hw (lv_sub hl [1, 2, 0] rfl) hf
set_option maxHeartbeats 4000000 in
set_option maxRecDepth 100000 in
theorem wl_X1_reckon_p51 {p : Program} {l : Launch} {e : Env} {sS : State} {m : MethodId} {args : Array Value} {below : List Frame} {meth : Method} {c : Code} {G : xG} {W0 : va_W} {ad : Nat → Nat} {ae : Nat → Nat}   (E : xE p sS m args c cX1_reckon 3 RX1 G (x_in W0)) (hr : meth.sig.returnType = none) (hk : meth.locks = false)  : ∀ (s' : S1) (q' : S0) (x2' : Int32) (z : S1) {H : Heap} {locs : List Loc} {ls : Array Slot}, xW G (x_in W0) sS.heap (cells1 G ad s' ++ cells0 G ae q') H locs → lv_has ls 3 [(0, .ref (ad 0)), (1, .ref (ae 0)), (2, .int x2')] → lp_X1_reckon_p51  s' q' x2' = some z → W p l e (rm_X1_reckon) sS m args below meth c H locs 0 0 (MQ below (xQ G W0 (cells1 G ad z ++ cells0 G ae q') none) args sS 0 0 (x_in W0)) (F0 m 51 ls []) := by
  intro s q x2 z H locs ls hw hl hf
  exact x_loop_W (P := fun (q : S1 × S0 × Int32) (z : S1) => ∀ {H : Heap} {locs : List Loc} {ls : Array Slot}, xW G (x_in W0) sS.heap (cells1 G ad q.1 ++ cells0 G ae q.2.1) H locs → lv_has ls 3 [(0, .ref (ad 0)), (1, .ref (ae 0)), (2, .int q.2.2)] → W p l e (rm_X1_reckon) sS m args below meth c H locs 0 0 (MQ below (xQ G W0 (cells1 G ad z ++ cells0 G ae q.2.1) none) args sS 0 0 (x_in W0)) (F0 m 51 ls [])) (fun k hkk q z hf H locs ls hw hl => w_X1_reckon_p51 E hr hk  (fun s q x2 z H locs ls hw hl hf => hkk (s, q, x2) z hf hw hl) q.1 q.2.1 q.2.2 z hw hl hf) FU (s, q, x2) z hf hw hl
set_option maxHeartbeats 4000000 in
set_option maxRecDepth 100000 in
theorem w_X1_reckon_p0 {p : Program} {l : Launch} {e : Env} {sS : State} {m : MethodId} {args : Array Value} {below : List Frame} {meth : Method} {c : Code} {G : xG} {W0 : va_W} {ad : Nat → Nat} {ae : Nat → Nat}   (E : xE p sS m args c cX1_reckon 3 RX1 G (x_in W0)) (hr : meth.sig.returnType = none) (hk : meth.locks = false)  : ∀ (s' : S1) (q' : S0) (z : S1) {H : Heap} {locs : List Loc} {ls : Array Slot}, xW G (x_in W0) sS.heap (cells1 G ad s' ++ cells0 G ae q') H locs → lv_has ls 3 [(0, .ref (ad 0)), (1, .ref (ae 0))] → f_X1_reckon  s' q' = some z → W p l e (rm_X1_reckon) sS m args below meth c H locs 0 0 (MQ below (xQ G W0 (cells1 G ad z ++ cells0 G ae q') none) args sS 0 0 (x_in W0)) (F0 m 0 ls []) := by
  intro s q z H locs ls hw hl hf
  unfold f_X1_reckon at hf
  refine lv_aload_n (pc := 0) E.1 E.2.1 dX1_reckon_0 rfl (lv_at hl 0 rfl) ?_
  refine lv_aload_n (pc := 1) E.1 E.2.1 dX1_reckon_1 rfl (lv_at hl 1 rfl) ?_
  refine xg_X1_53 (pc := 2) (v := .int (g0_fleets q)) E hw 15 rfl rfl dX1_reckon_2 ?_
  refine lv_bipush (v := 8) (pc := 5) E.1 E.2.1 dX1_reckon_5 (by decide) ?_
  refine va_mmin (pc := 7) E.1 E.2.1 (E.2.2.1.trans hl.1.symm) E.2.2.2.1 (E.2.2.2.2.1 _ wq_775) (E.2.2.2.2.1 _ wq_491) (E.2.2.2.2.1 _ wq_108) (E.2.2.2.2.1 _ wq_492) (Nat.le_of_ble_eq_true rfl) (Nat.le_of_ble_eq_true rfl) (Nat.zero_le _) (Nat.zero_le _) dX1_reckon_7 ?_
  refine xp_X1_65 (pc := 10) (v := .int (if 8 < (g0_fleets q) then 8 else (g0_fleets q))) (ws' := (cells1c G ad (if 8 < (g0_fleets q) then 8 else (g0_fleets q)) (g1_allSum s) (g1_allSpan s) (g1_classes s) (g1_losses s) (g1_spans s) (g1_sums s) (g1_squares s) (g1_shares s) (g1_poolA s) (g1_poolB s) (g1_poolC s) (g1_first s) (g1_second s) ++ cells0 G ae q)) E hw 0 rfl rfl rfl (Nat.le_of_ble_eq_true rfl) rfl dX1_reckon_10 (fun H locs hw => ?_)
  refine lv_aload_n (pc := 13) E.1 E.2.1 dX1_reckon_13 rfl (lv_at hl 0 rfl) ?_
  refine lv_aload_n (pc := 14) E.1 E.2.1 dX1_reckon_14 rfl (lv_at hl 1 rfl) ?_
  obtain ⟨v1, g2, hf⟩ := x_bind hf
  refine x_callV (pc := 15) (As := [.ref (ae 0)]) (rest := []) (st1 := []) (ws' := (cells1 G ad v1 ++ cells0 G ae q)) E hw hl (c_X1_sumLosses l G ad ae (u1_fleets s (if 8 < (g0_fleets q) then 8 else (g0_fleets q))) q g2) xv_X1_66 xd_X1_sumLosses rfl rfl ⟨Nat.le_of_ble_eq_true rfl, Nat.le_of_ble_eq_true rfl⟩ [0, 1, 2, 3, 4, 5, 6, 7, 8, 9, 10, 11, 12, 13, 14, 15, 16, 17, 18] [] (by decide) ⟨rfl, rfl, rfl, rfl, rfl, rfl, rfl, rfl, rfl, rfl, rfl, rfl, rfl, rfl, rfl, rfl, rfl, rfl, rfl, trivial⟩ (q0 := 0) rfl rfl rfl rfl (Nat.le_of_ble_eq_true rfl) (nw := 19) ⟨rfl, rfl, rfl, rfl, rfl, rfl, rfl, rfl, rfl, rfl, rfl, rfl, rfl, rfl, rfl, rfl, rfl, rfl, rfl, trivial⟩ trivial rfl rfl (by decide) (by decide) rfl dX1_reckon_15 (fun H locs hw => ?_)
  refine lv_aload_n (pc := 18) E.1 E.2.1 dX1_reckon_18 rfl (lv_at hl 0 rfl) ?_
  refine xg_X1_33 (pc := 19) (v := .ref (ad 7)) E hw 0 rfl rfl dX1_reckon_19 ?_
  obtain ⟨v3, g4, hf⟩ := x_bind hf
  refine x_callV (pc := 22) (As := []) (rest := []) (st1 := []) (ws' := (cells1c G ad (g1_fleets v1) (g1_allSum v1) (g1_allSpan v1) (g1_classes v1) (g1_losses v1) (g1_spans v1) (g1_sums v1) (g1_squares v1) (g1_shares v1) v3 (g1_poolB v1) (g1_poolC v1) (g1_first v1) (g1_second v1) ++ cells0 G ae q)) E hw hl (c_X4_clear l G (fun k => ad (k + 7)) (g1_poolA v1) g4) xv_X1_70 xd_X4_clear rfl rfl ⟨Nat.le_of_ble_eq_true rfl, Nat.le_of_ble_eq_true rfl⟩ [7, 8] [0, 1, 2, 3, 4, 5, 6, 9, 10, 11, 12, 13, 14, 15, 16, 17, 18] (by decide) ⟨rfl, rfl, trivial⟩ (q0 := 7) rfl rfl rfl rfl (Nat.le_of_ble_eq_true rfl) (nw := 19) ⟨rfl, rfl, trivial⟩ ⟨⟨_, rfl, rfl⟩, ⟨_, rfl, rfl⟩, ⟨_, rfl, rfl⟩, ⟨_, rfl, rfl⟩, ⟨_, rfl, rfl⟩, ⟨_, rfl, rfl⟩, ⟨_, rfl, rfl⟩, ⟨_, rfl, rfl⟩, ⟨_, rfl, rfl⟩, ⟨_, rfl, rfl⟩, ⟨_, rfl, rfl⟩, ⟨_, rfl, rfl⟩, ⟨_, rfl, rfl⟩, ⟨_, rfl, rfl⟩, ⟨_, rfl, rfl⟩, ⟨_, rfl, rfl⟩, ⟨_, rfl, rfl⟩, trivial⟩ rfl rfl (by decide) (by decide) rfl dX1_reckon_22 (fun H locs hw => ?_)
  refine lv_aload_n (pc := 25) E.1 E.2.1 dX1_reckon_25 rfl (lv_at hl 0 rfl) ?_
  refine xg_X1_37 (pc := 26) (v := .ref (ad 9)) E hw 0 rfl rfl dX1_reckon_26 ?_
  obtain ⟨v5, g6, hf⟩ := x_bind hf
  refine x_callV (pc := 29) (As := []) (rest := []) (st1 := []) (ws' := (cells1c G ad (g1_fleets v1) (g1_allSum v1) (g1_allSpan v1) (g1_classes v1) (g1_losses v1) (g1_spans v1) (g1_sums v1) (g1_squares v1) (g1_shares v1) v3 v5 (g1_poolC v1) (g1_first v1) (g1_second v1) ++ cells0 G ae q)) E hw hl (c_X4_clear l G (fun k => ad (k + 9)) (g1_poolB v1) g6) xv_X1_70 xd_X4_clear rfl rfl ⟨Nat.le_of_ble_eq_true rfl, Nat.le_of_ble_eq_true rfl⟩ [9, 10] [0, 1, 2, 3, 4, 5, 6, 7, 8, 11, 12, 13, 14, 15, 16, 17, 18] (by decide) ⟨rfl, rfl, trivial⟩ (q0 := 9) rfl rfl rfl rfl (Nat.le_of_ble_eq_true rfl) (nw := 19) ⟨rfl, rfl, trivial⟩ ⟨⟨_, rfl, rfl⟩, ⟨_, rfl, rfl⟩, ⟨_, rfl, rfl⟩, ⟨_, rfl, rfl⟩, ⟨_, rfl, rfl⟩, ⟨_, rfl, rfl⟩, ⟨_, rfl, rfl⟩, ⟨_, rfl, rfl⟩, ⟨_, rfl, rfl⟩, ⟨_, rfl, rfl⟩, ⟨_, rfl, rfl⟩, ⟨_, rfl, rfl⟩, ⟨_, rfl, rfl⟩, ⟨_, rfl, rfl⟩, ⟨_, rfl, rfl⟩, ⟨_, rfl, rfl⟩, ⟨_, rfl, rfl⟩, trivial⟩ rfl rfl (by decide) (by decide) rfl dX1_reckon_29 (fun H locs hw => ?_)
  refine lv_aload_n (pc := 32) E.1 E.2.1 dX1_reckon_32 rfl (lv_at hl 0 rfl) ?_
  refine xg_X1_40 (pc := 33) (v := .ref (ad 11)) E hw 0 rfl rfl dX1_reckon_33 ?_
  obtain ⟨v7, g8, hf⟩ := x_bind hf
  refine x_callV (pc := 36) (As := []) (rest := []) (st1 := []) (ws' := (cells1c G ad (g1_fleets v1) (g1_allSum v1) (g1_allSpan v1) (g1_classes v1) (g1_losses v1) (g1_spans v1) (g1_sums v1) (g1_squares v1) (g1_shares v1) v3 v5 v7 (g1_first v1) (g1_second v1) ++ cells0 G ae q)) E hw hl (c_X4_clear l G (fun k => ad (k + 11)) (g1_poolC v1) g8) xv_X1_70 xd_X4_clear rfl rfl ⟨Nat.le_of_ble_eq_true rfl, Nat.le_of_ble_eq_true rfl⟩ [11, 12] [0, 1, 2, 3, 4, 5, 6, 7, 8, 9, 10, 13, 14, 15, 16, 17, 18] (by decide) ⟨rfl, rfl, trivial⟩ (q0 := 11) rfl rfl rfl rfl (Nat.le_of_ble_eq_true rfl) (nw := 19) ⟨rfl, rfl, trivial⟩ ⟨⟨_, rfl, rfl⟩, ⟨_, rfl, rfl⟩, ⟨_, rfl, rfl⟩, ⟨_, rfl, rfl⟩, ⟨_, rfl, rfl⟩, ⟨_, rfl, rfl⟩, ⟨_, rfl, rfl⟩, ⟨_, rfl, rfl⟩, ⟨_, rfl, rfl⟩, ⟨_, rfl, rfl⟩, ⟨_, rfl, rfl⟩, ⟨_, rfl, rfl⟩, ⟨_, rfl, rfl⟩, ⟨_, rfl, rfl⟩, ⟨_, rfl, rfl⟩, ⟨_, rfl, rfl⟩, ⟨_, rfl, rfl⟩, trivial⟩ rfl rfl (by decide) (by decide) rfl dX1_reckon_36 (fun H locs hw => ?_)
  refine lv_aload_n (pc := 39) E.1 E.2.1 dX1_reckon_39 rfl (lv_at hl 0 rfl) ?_
  refine lv_iconst (v := 0) (pc := 40) E.1 E.2.1 dX1_reckon_40 (by decide) ?_
  refine xp_X1_73 (pc := 41) (v := .int 0) (ws' := (cells1c G ad (g1_fleets v1) 0 (g1_allSpan v1) (g1_classes v1) (g1_losses v1) (g1_spans v1) (g1_sums v1) (g1_squares v1) (g1_shares v1) v3 v5 v7 (g1_first v1) (g1_second v1) ++ cells0 G ae q)) E hw 0 rfl rfl rfl (Nat.le_of_ble_eq_true rfl) rfl dX1_reckon_41 (fun H locs hw => ?_)
  refine lv_aload_n (pc := 44) E.1 E.2.1 dX1_reckon_44 rfl (lv_at hl 0 rfl) ?_
  refine lv_iconst (v := 0) (pc := 45) E.1 E.2.1 dX1_reckon_45 (by decide) ?_
  refine xp_X1_76 (pc := 46) (v := .int 0) (ws' := (cells1c G ad (g1_fleets v1) 0 0 (g1_classes v1) (g1_losses v1) (g1_spans v1) (g1_sums v1) (g1_squares v1) (g1_shares v1) v3 v5 v7 (g1_first v1) (g1_second v1) ++ cells0 G ae q)) E hw 0 rfl rfl rfl (Nat.le_of_ble_eq_true rfl) rfl dX1_reckon_46 (fun H locs hw => ?_)
  refine lv_iconst (v := 0) (pc := 49) E.1 E.2.1 dX1_reckon_49 (by decide) ?_
  refine lv_istore_n (lv' := [(2, .int 0), (0, .ref (ad 0)), (1, .ref (ae 0))]) (pc := 50) E.1 E.2.1 dX1_reckon_50 rfl hl (by decide) rfl (fun ls hl => ?_)
  exact wl_X1_reckon_p51 E hr hk  (u1_allSpan (u1_allSum (u1_poolC (u1_poolB (u1_poolA v1 v3) v5) v7) 0) 0) q 0 z hw (lv_sub hl [1, 2, 0] rfl) hf
set_option maxHeartbeats 4000000 in
set_option maxRecDepth 100000 in
theorem c_X1_reckon (l : Launch) (G : xG) (ad : Nat → Nat) (ae : Nat → Nat) (s : S1) (q : S0) {z : S1} (hf : f_X1_reckon s q = some z) : xC l yX1_reckon cX1_reckon 3 none (rm_X1_reckon) G [.ref (ad 0), .ref (ae 0)] (cells1 G ad s ++ cells0 G ae q) none (cells1 G ad z ++ cells0 G ae q) :=
  x_met (by decide) rfl (Nat.le_of_ble_eq_true rfl) (fun p e sS m below meth c E hr hk ls hl hw => w_X1_reckon_p0 E hr hk s q z hw hl hf)
set_option maxHeartbeats 4000000 in
set_option maxRecDepth 100000 in
theorem w_X1_spanOf_p0 {p : Program} {l : Launch} {e : Env} {sS : State} {m : MethodId} {args : Array Value} {below : List Frame} {meth : Method} {c : Code} {G : xG} {W0 : va_W} {ad : Nat → Nat}   (E : xE p sS m args c cX1_spanOf 2 RX1 G (x_in W0)) (hr : meth.sig.returnType = (some .int)) (hk : meth.locks = false)  : ∀ (s' : S1) (x1' : Int32) (z : Int32) {H : Heap} {locs : List Loc} {ls : Array Slot}, xW G (x_in W0) sS.heap (cells1 G ad s') H locs → lv_has ls 2 [(0, .ref (ad 0)), (1, .int x1')] → f_X1_spanOf  s' x1' = some z → W p l e (rm_X1_spanOf) sS m args below meth c H locs 0 0 (MQ below (xQ G W0 (cells1 G ad s') (some (.int z))) args sS 0 0 (x_in W0)) (F0 m 0 ls []) := by
  intro s x1 z H locs ls hw hl hf
  unfold f_X1_spanOf at hf
  refine lv_aload_n (pc := 0) E.1 E.2.1 dX1_spanOf_0 rfl (lv_at hl 0 rfl) ?_
  refine lv_iload_n (pc := 1) E.1 E.2.1 dX1_spanOf_1 rfl (lv_at hl 1 rfl) ?_
  obtain ⟨v1, g2, hf⟩ := x_bind hf
  refine x_callVA (pc := 2) (As := [.int x1]) (rest := []) (st1 := [.int v1]) (ws' := (cells1 G ad s)) E hw hl (c_X1_hasRow l G ad s x1 g2) xv_X1_120 xd_X1_hasRow rfl rfl ⟨Nat.le_of_ble_eq_true rfl, Nat.le_of_ble_eq_true rfl⟩ (q0 := 0) rfl rfl rfl rfl (Nat.le_of_ble_eq_true rfl) rfl dX1_spanOf_2 (fun H locs hw => ?_)
  refine lv_if_eq (tgt := 17) (pc := 5) E.1 E.2.1 dX1_spanOf_5 (by decide) (fun q3 => ?_) (fun q3 => ?_)
  · have hf := x_pos q3 hf
    refine lv_iconst (v := 0) (pc := 17) E.1 E.2.1 dX1_spanOf_17 (by decide) ?_
    obtain rfl := Option.some.inj hf
    exact x_reti (pc := 18) E hr hk hw dX1_spanOf_18
  · have hf := x_neg q3 hf
    refine lv_aload_n (pc := 8) E.1 E.2.1 dX1_spanOf_8 rfl (lv_at hl 0 rfl) ?_
    refine xg_X1_18 (pc := 9) (v := .ref (ad 3)) E hw 0 rfl rfl dX1_spanOf_9 ?_
    refine lv_iload_n (pc := 12) E.1 E.2.1 dX1_spanOf_12 rfl (lv_at hl 1 rfl) ?_
    obtain ⟨v5, g4, hf⟩ := x_bind hf
    refine x_iald (pc := 13) E hw 3 rfl g4 dX1_spanOf_13 ?_
    refine lv_goto (tgt := 18) (pc := 14) E.1 E.2.1 dX1_spanOf_14 (by decide) ?_
    obtain rfl := Option.some.inj hf
    exact x_reti (pc := 18) E hr hk hw dX1_spanOf_18
set_option maxHeartbeats 4000000 in
set_option maxRecDepth 100000 in
theorem c_X1_spanOf (l : Launch) (G : xG) (ad : Nat → Nat) (s : S1) (x1 : Int32) {z : Int32} (hf : f_X1_spanOf s x1 = some z) : xC l yX1_spanOf cX1_spanOf 2 (some .int) (rm_X1_spanOf) G [.ref (ad 0), .int x1] (cells1 G ad s) (some (.int z)) (cells1 G ad s) :=
  x_met (by decide) rfl (Nat.le_of_ble_eq_true rfl) (fun p e sS m below meth c E hr hk ls hl hw => w_X1_spanOf_p0 E hr hk s x1 z hw hl hf)
set_option maxHeartbeats 4000000 in
set_option maxRecDepth 100000 in
theorem w_X1_sumOf_p0 {p : Program} {l : Launch} {e : Env} {sS : State} {m : MethodId} {args : Array Value} {below : List Frame} {meth : Method} {c : Code} {G : xG} {W0 : va_W} {ad : Nat → Nat}   (E : xE p sS m args c cX1_sumOf 2 RX1 G (x_in W0)) (hr : meth.sig.returnType = (some .int)) (hk : meth.locks = false)  : ∀ (s' : S1) (x1' : Int32) (z : Int32) {H : Heap} {locs : List Loc} {ls : Array Slot}, xW G (x_in W0) sS.heap (cells1 G ad s') H locs → lv_has ls 2 [(0, .ref (ad 0)), (1, .int x1')] → f_X1_sumOf  s' x1' = some z → W p l e (rm_X1_sumOf) sS m args below meth c H locs 0 0 (MQ below (xQ G W0 (cells1 G ad s') (some (.int z))) args sS 0 0 (x_in W0)) (F0 m 0 ls []) := by
  intro s x1 z H locs ls hw hl hf
  unfold f_X1_sumOf at hf
  refine lv_aload_n (pc := 0) E.1 E.2.1 dX1_sumOf_0 rfl (lv_at hl 0 rfl) ?_
  refine lv_iload_n (pc := 1) E.1 E.2.1 dX1_sumOf_1 rfl (lv_at hl 1 rfl) ?_
  obtain ⟨v1, g2, hf⟩ := x_bind hf
  refine x_callVA (pc := 2) (As := [.int x1]) (rest := []) (st1 := [.int v1]) (ws' := (cells1 G ad s)) E hw hl (c_X1_hasRow l G ad s x1 g2) xv_X1_120 xd_X1_hasRow rfl rfl ⟨Nat.le_of_ble_eq_true rfl, Nat.le_of_ble_eq_true rfl⟩ (q0 := 0) rfl rfl rfl rfl (Nat.le_of_ble_eq_true rfl) rfl dX1_sumOf_2 (fun H locs hw => ?_)
  refine lv_if_eq (tgt := 17) (pc := 5) E.1 E.2.1 dX1_sumOf_5 (by decide) (fun q3 => ?_) (fun q3 => ?_)
  · have hf := x_pos q3 hf
    refine lv_iconst (v := 0) (pc := 17) E.1 E.2.1 dX1_sumOf_17 (by decide) ?_
    obtain rfl := Option.some.inj hf
    exact x_reti (pc := 18) E hr hk hw dX1_sumOf_18
  · have hf := x_neg q3 hf
    refine lv_aload_n (pc := 8) E.1 E.2.1 dX1_sumOf_8 rfl (lv_at hl 0 rfl) ?_
    refine xg_X1_21 (pc := 9) (v := .ref (ad 4)) E hw 0 rfl rfl dX1_sumOf_9 ?_
    refine lv_iload_n (pc := 12) E.1 E.2.1 dX1_sumOf_12 rfl (lv_at hl 1 rfl) ?_
    obtain ⟨v5, g4, hf⟩ := x_bind hf
    refine x_iald (pc := 13) E hw 4 rfl g4 dX1_sumOf_13 ?_
    refine lv_goto (tgt := 18) (pc := 14) E.1 E.2.1 dX1_sumOf_14 (by decide) ?_
    obtain rfl := Option.some.inj hf
    exact x_reti (pc := 18) E hr hk hw dX1_sumOf_18
set_option maxHeartbeats 4000000 in
set_option maxRecDepth 100000 in
theorem c_X1_sumOf (l : Launch) (G : xG) (ad : Nat → Nat) (s : S1) (x1 : Int32) {z : Int32} (hf : f_X1_sumOf s x1 = some z) : xC l yX1_sumOf cX1_sumOf 2 (some .int) (rm_X1_sumOf) G [.ref (ad 0), .int x1] (cells1 G ad s) (some (.int z)) (cells1 G ad s) :=
  x_met (by decide) rfl (Nat.le_of_ble_eq_true rfl) (fun p e sS m below meth c E hr hk ls hl hw => w_X1_sumOf_p0 E hr hk s x1 z hw hl hf)
set_option maxHeartbeats 4000000 in
set_option maxRecDepth 100000 in
theorem w_X1_squaresOf_p0 {p : Program} {l : Launch} {e : Env} {sS : State} {m : MethodId} {args : Array Value} {below : List Frame} {meth : Method} {c : Code} {G : xG} {W0 : va_W} {ad : Nat → Nat}   (E : xE p sS m args c cX1_squaresOf 2 RX1 G (x_in W0)) (hr : meth.sig.returnType = (some .int)) (hk : meth.locks = false)  : ∀ (s' : S1) (x1' : Int32) (z : Int32) {H : Heap} {locs : List Loc} {ls : Array Slot}, xW G (x_in W0) sS.heap (cells1 G ad s') H locs → lv_has ls 2 [(0, .ref (ad 0)), (1, .int x1')] → f_X1_squaresOf  s' x1' = some z → W p l e (rm_X1_squaresOf) sS m args below meth c H locs 0 0 (MQ below (xQ G W0 (cells1 G ad s') (some (.int z))) args sS 0 0 (x_in W0)) (F0 m 0 ls []) := by
  intro s x1 z H locs ls hw hl hf
  unfold f_X1_squaresOf at hf
  refine lv_aload_n (pc := 0) E.1 E.2.1 dX1_squaresOf_0 rfl (lv_at hl 0 rfl) ?_
  refine lv_iload_n (pc := 1) E.1 E.2.1 dX1_squaresOf_1 rfl (lv_at hl 1 rfl) ?_
  obtain ⟨v1, g2, hf⟩ := x_bind hf
  refine x_callVA (pc := 2) (As := [.int x1]) (rest := []) (st1 := [.int v1]) (ws' := (cells1 G ad s)) E hw hl (c_X1_hasRow l G ad s x1 g2) xv_X1_120 xd_X1_hasRow rfl rfl ⟨Nat.le_of_ble_eq_true rfl, Nat.le_of_ble_eq_true rfl⟩ (q0 := 0) rfl rfl rfl rfl (Nat.le_of_ble_eq_true rfl) rfl dX1_squaresOf_2 (fun H locs hw => ?_)
  refine lv_if_eq (tgt := 17) (pc := 5) E.1 E.2.1 dX1_squaresOf_5 (by decide) (fun q3 => ?_) (fun q3 => ?_)
  · have hf := x_pos q3 hf
    refine lv_iconst (v := 0) (pc := 17) E.1 E.2.1 dX1_squaresOf_17 (by decide) ?_
    obtain rfl := Option.some.inj hf
    exact x_reti (pc := 18) E hr hk hw dX1_squaresOf_18
  · have hf := x_neg q3 hf
    refine lv_aload_n (pc := 8) E.1 E.2.1 dX1_squaresOf_8 rfl (lv_at hl 0 rfl) ?_
    refine xg_X1_24 (pc := 9) (v := .ref (ad 5)) E hw 0 rfl rfl dX1_squaresOf_9 ?_
    refine lv_iload_n (pc := 12) E.1 E.2.1 dX1_squaresOf_12 rfl (lv_at hl 1 rfl) ?_
    obtain ⟨v5, g4, hf⟩ := x_bind hf
    refine x_iald (pc := 13) E hw 5 rfl g4 dX1_squaresOf_13 ?_
    refine lv_goto (tgt := 18) (pc := 14) E.1 E.2.1 dX1_squaresOf_14 (by decide) ?_
    obtain rfl := Option.some.inj hf
    exact x_reti (pc := 18) E hr hk hw dX1_squaresOf_18
set_option maxHeartbeats 4000000 in
set_option maxRecDepth 100000 in
theorem c_X1_squaresOf (l : Launch) (G : xG) (ad : Nat → Nat) (s : S1) (x1 : Int32) {z : Int32} (hf : f_X1_squaresOf s x1 = some z) : xC l yX1_squaresOf cX1_squaresOf 2 (some .int) (rm_X1_squaresOf) G [.ref (ad 0), .int x1] (cells1 G ad s) (some (.int z)) (cells1 G ad s) :=
  x_met (by decide) rfl (Nat.le_of_ble_eq_true rfl) (fun p e sS m below meth c E hr hk ls hl hw => w_X1_squaresOf_p0 E hr hk s x1 z hw hl hf)
set_option maxHeartbeats 4000000 in
set_option maxRecDepth 100000 in
theorem w_X1_shareOf_p0 {p : Program} {l : Launch} {e : Env} {sS : State} {m : MethodId} {args : Array Value} {below : List Frame} {meth : Method} {c : Code} {G : xG} {W0 : va_W} {ad : Nat → Nat}   (E : xE p sS m args c cX1_shareOf 2 RX1 G (x_in W0)) (hr : meth.sig.returnType = (some .int)) (hk : meth.locks = false)  : ∀ (s' : S1) (x1' : Int32) (z : Int32) {H : Heap} {locs : List Loc} {ls : Array Slot}, xW G (x_in W0) sS.heap (cells1 G ad s') H locs → lv_has ls 2 [(0, .ref (ad 0)), (1, .int x1')] → f_X1_shareOf  s' x1' = some z → W p l e (rm_X1_shareOf) sS m args below meth c H locs 0 0 (MQ below (xQ G W0 (cells1 G ad s') (some (.int z))) args sS 0 0 (x_in W0)) (F0 m 0 ls []) := by
  intro s x1 z H locs ls hw hl hf
  unfold f_X1_shareOf at hf
  refine lv_aload_n (pc := 0) E.1 E.2.1 dX1_shareOf_0 rfl (lv_at hl 0 rfl) ?_
  refine lv_iload_n (pc := 1) E.1 E.2.1 dX1_shareOf_1 rfl (lv_at hl 1 rfl) ?_
  obtain ⟨v1, g2, hf⟩ := x_bind hf
  refine x_callVA (pc := 2) (As := [.int x1]) (rest := []) (st1 := [.int v1]) (ws' := (cells1 G ad s)) E hw hl (c_X1_hasRow l G ad s x1 g2) xv_X1_120 xd_X1_hasRow rfl rfl ⟨Nat.le_of_ble_eq_true rfl, Nat.le_of_ble_eq_true rfl⟩ (q0 := 0) rfl rfl rfl rfl (Nat.le_of_ble_eq_true rfl) rfl dX1_shareOf_2 (fun H locs hw => ?_)
  refine lv_if_eq (tgt := 17) (pc := 5) E.1 E.2.1 dX1_shareOf_5 (by decide) (fun q3 => ?_) (fun q3 => ?_)
  · have hf := x_pos q3 hf
    refine lv_bipush (v := (-2)) (pc := 17) E.1 E.2.1 dX1_shareOf_17 (by decide) ?_
    obtain rfl := Option.some.inj hf
    exact x_reti (pc := 19) E hr hk hw dX1_shareOf_19
  · have hf := x_neg q3 hf
    refine lv_aload_n (pc := 8) E.1 E.2.1 dX1_shareOf_8 rfl (lv_at hl 0 rfl) ?_
    refine xg_X1_27 (pc := 9) (v := .ref (ad 6)) E hw 0 rfl rfl dX1_shareOf_9 ?_
    refine lv_iload_n (pc := 12) E.1 E.2.1 dX1_shareOf_12 rfl (lv_at hl 1 rfl) ?_
    obtain ⟨v5, g4, hf⟩ := x_bind hf
    refine x_iald (pc := 13) E hw 6 rfl g4 dX1_shareOf_13 ?_
    refine lv_goto (tgt := 19) (pc := 14) E.1 E.2.1 dX1_shareOf_14 (by decide) ?_
    obtain rfl := Option.some.inj hf
    exact x_reti (pc := 19) E hr hk hw dX1_shareOf_19
set_option maxHeartbeats 4000000 in
set_option maxRecDepth 100000 in
theorem c_X1_shareOf (l : Launch) (G : xG) (ad : Nat → Nat) (s : S1) (x1 : Int32) {z : Int32} (hf : f_X1_shareOf s x1 = some z) : xC l yX1_shareOf cX1_shareOf 2 (some .int) (rm_X1_shareOf) G [.ref (ad 0), .int x1] (cells1 G ad s) (some (.int z)) (cells1 G ad s) :=
  x_met (by decide) rfl (Nat.le_of_ble_eq_true rfl) (fun p e sS m below meth c E hr hk ls hl hw => w_X1_shareOf_p0 E hr hk s x1 z hw hl hf)
set_option maxHeartbeats 4000000 in
set_option maxRecDepth 100000 in
theorem w_X1_putSpread_p0 {p : Program} {l : Launch} {e : Env} {sS : State} {m : MethodId} {args : Array Value} {below : List Frame} {meth : Method} {c : Code} {G : xG} {W0 : va_W} {ad : Nat → Nat} {ae : Nat → Nat}   (E : xE p sS m args c cX1_putSpread 5 RX1 G (x_in W0)) (hr : meth.sig.returnType = none) (hk : meth.locks = false)  : ∀ (s' : S1) (q' : S5) (x1' : Int32) (x2' : Int32) (z : S5) {H : Heap} {locs : List Loc} {ls : Array Slot}, xW G (x_in W0) sS.heap (cells1 G ad s' ++ cells5 G ae q') H locs → lv_has ls 5 [(0, .ref (ad 0)), (1, .int x1'), (2, .int x2'), (3, .ref (ae 0))] → f_X1_putSpread  s' q' x1' x2' = some z → W p l e (rm_X1_putSpread) sS m args below meth c H locs 0 0 (MQ below (xQ G W0 (cells1 G ad s' ++ cells5 G ae z) none) args sS 0 0 (x_in W0)) (F0 m 0 ls []) := by
  intro s q x1 x2 z H locs ls hw hl hf
  unfold f_X1_putSpread at hf
  refine lv_aload_n (pc := 0) E.1 E.2.1 dX1_putSpread_0 rfl (lv_at hl 0 rfl) ?_
  refine lv_iload_n (pc := 1) E.1 E.2.1 dX1_putSpread_1 rfl (lv_at hl 1 rfl) ?_
  obtain ⟨v1, g2, hf⟩ := x_bind hf
  refine x_callV (pc := 2) (As := [.int x1]) (rest := []) (st1 := [.ref (ad v1)]) (ws' := (cells1 G ad s ++ cells5 G ae q)) E hw hl (c_X1_poolOf l G ad s x1 g2) xv_X1_138 xd_X1_poolOf rfl rfl ⟨Nat.le_of_ble_eq_true rfl, Nat.le_of_ble_eq_true rfl⟩ [0, 1, 2, 3, 4, 5, 6, 7, 8, 9, 10, 11, 12, 13, 14] [15] (by decide) ⟨rfl, rfl, rfl, rfl, rfl, rfl, rfl, rfl, rfl, rfl, rfl, rfl, rfl, rfl, rfl, trivial⟩ (q0 := 0) rfl rfl rfl rfl (Nat.le_of_ble_eq_true rfl) (nw := 16) ⟨rfl, rfl, rfl, rfl, rfl, rfl, rfl, rfl, rfl, rfl, rfl, rfl, rfl, rfl, rfl, trivial⟩ ⟨⟨_, rfl, rfl⟩, trivial⟩ rfl rfl (by decide) (by decide) rfl dX1_putSpread_2 (fun H locs hw => ?_)
  by_cases q3 : v1 = 7
  · have hf := x_pos q3 hf
    rw [q3]
    refine lv_astore (lv' := [(4, .ref (ad 7)), (0, .ref (ad 0)), (1, .int x1), (2, .int x2), (3, .ref (ae 0))]) (pc := 5) E.1 E.2.1 dX1_putSpread_5 hl (by decide) rfl (fun ls hl => ?_)
    refine lv_iload_n (pc := 7) E.1 E.2.1 dX1_putSpread_7 rfl (lv_at hl 3 rfl) ?_
    by_cases q4 : x2 = 0
    · have hf := x_pos q4 hf
      refine x_swi (pc := 8) (v := 0) (tgt := 44) E q4 dX1_putSpread_8 (by decide) (by decide) rfl (by decide) ?_
      refine lv_aload (pc := 44) E.1 E.2.1 dX1_putSpread_44 (lv_at hl 0 rfl) ?_
      refine lv_aload_n (pc := 46) E.1 E.2.1 dX1_putSpread_46 rfl (lv_at hl 4 rfl) ?_
      obtain ⟨v5, g6, hf⟩ := x_bind hf
      refine x_callV (pc := 47) (As := [.ref (ae 0)]) (rest := []) (st1 := []) (ws' := (cells1 G ad s ++ cells5 G ae v5)) E hw hl (c_X4_putWithin l G (fun k => ad (k + 7)) ae (g1_poolA s) q g6) xv_X1_184 xd_X4_putWithin rfl rfl ⟨Nat.le_of_ble_eq_true rfl, Nat.le_of_ble_eq_true rfl⟩ [7, 8, 15] [0, 1, 2, 3, 4, 5, 6, 9, 10, 11, 12, 13, 14] (by decide) ⟨rfl, rfl, rfl, trivial⟩ (q0 := 7) rfl rfl rfl rfl (Nat.le_of_ble_eq_true rfl) (nw := 16) ⟨rfl, rfl, rfl, trivial⟩ ⟨⟨_, rfl, rfl⟩, ⟨_, rfl, rfl⟩, ⟨_, rfl, rfl⟩, ⟨_, rfl, rfl⟩, ⟨_, rfl, rfl⟩, ⟨_, rfl, rfl⟩, ⟨_, rfl, rfl⟩, ⟨_, rfl, rfl⟩, ⟨_, rfl, rfl⟩, ⟨_, rfl, rfl⟩, ⟨_, rfl, rfl⟩, ⟨_, rfl, rfl⟩, ⟨_, rfl, rfl⟩, trivial⟩ rfl rfl (by decide) (by decide) rfl dX1_putSpread_47 (fun H locs hw => ?_)
      refine lv_goto (tgt := 107) (pc := 50) E.1 E.2.1 dX1_putSpread_50 (by decide) ?_
      obtain rfl := Option.some.inj hf
      exact x_retv (pc := 107) E hr hk hw dX1_putSpread_107
    · have hf := x_neg q4 hf
      by_cases q7 : x2 = 1
      · have hf := x_pos q7 hf
        refine x_swi (pc := 8) (v := 1) (tgt := 53) E q7 dX1_putSpread_8 (by decide) (by decide) rfl (by decide) ?_
        refine lv_aload (pc := 53) E.1 E.2.1 dX1_putSpread_53 (lv_at hl 0 rfl) ?_
        refine lv_aload_n (pc := 55) E.1 E.2.1 dX1_putSpread_55 rfl (lv_at hl 4 rfl) ?_
        obtain ⟨v8, g9, hf⟩ := x_bind hf
        refine x_callV (pc := 56) (As := [.ref (ae 0)]) (rest := []) (st1 := []) (ws' := (cells1 G ad s ++ cells5 G ae v8)) E hw hl (c_X4_putBetween l G (fun k => ad (k + 7)) ae (g1_poolA s) q g9) xv_X1_187 xd_X4_putBetween rfl rfl ⟨Nat.le_of_ble_eq_true rfl, Nat.le_of_ble_eq_true rfl⟩ [7, 8, 15] [0, 1, 2, 3, 4, 5, 6, 9, 10, 11, 12, 13, 14] (by decide) ⟨rfl, rfl, rfl, trivial⟩ (q0 := 7) rfl rfl rfl rfl (Nat.le_of_ble_eq_true rfl) (nw := 16) ⟨rfl, rfl, rfl, trivial⟩ ⟨⟨_, rfl, rfl⟩, ⟨_, rfl, rfl⟩, ⟨_, rfl, rfl⟩, ⟨_, rfl, rfl⟩, ⟨_, rfl, rfl⟩, ⟨_, rfl, rfl⟩, ⟨_, rfl, rfl⟩, ⟨_, rfl, rfl⟩, ⟨_, rfl, rfl⟩, ⟨_, rfl, rfl⟩, ⟨_, rfl, rfl⟩, ⟨_, rfl, rfl⟩, ⟨_, rfl, rfl⟩, trivial⟩ rfl rfl (by decide) (by decide) rfl dX1_putSpread_56 (fun H locs hw => ?_)
        refine lv_goto (tgt := 107) (pc := 59) E.1 E.2.1 dX1_putSpread_59 (by decide) ?_
        obtain rfl := Option.some.inj hf
        exact x_retv (pc := 107) E hr hk hw dX1_putSpread_107
      · have hf := x_neg q7 hf
        by_cases q10 : x2 = 2
        · have hf := x_pos q10 hf
          refine x_swi (pc := 8) (v := 2) (tgt := 62) E q10 dX1_putSpread_8 (by decide) (by decide) rfl (by decide) ?_
          refine lv_aload (pc := 62) E.1 E.2.1 dX1_putSpread_62 (lv_at hl 0 rfl) ?_
          refine lv_aload_n (pc := 64) E.1 E.2.1 dX1_putSpread_64 rfl (lv_at hl 4 rfl) ?_
          obtain ⟨v11, g12, hf⟩ := x_bind hf
          refine x_callV (pc := 65) (As := [.ref (ae 0)]) (rest := []) (st1 := []) (ws' := (cells1 G ad s ++ cells5 G ae v11)) E hw hl (c_X4_putCentre l G (fun k => ad (k + 7)) ae (g1_poolA s) q g12) xv_X1_190 xd_X4_putCentre rfl rfl ⟨Nat.le_of_ble_eq_true rfl, Nat.le_of_ble_eq_true rfl⟩ [7, 8, 15] [0, 1, 2, 3, 4, 5, 6, 9, 10, 11, 12, 13, 14] (by decide) ⟨rfl, rfl, rfl, trivial⟩ (q0 := 7) rfl rfl rfl rfl (Nat.le_of_ble_eq_true rfl) (nw := 16) ⟨rfl, rfl, rfl, trivial⟩ ⟨⟨_, rfl, rfl⟩, ⟨_, rfl, rfl⟩, ⟨_, rfl, rfl⟩, ⟨_, rfl, rfl⟩, ⟨_, rfl, rfl⟩, ⟨_, rfl, rfl⟩, ⟨_, rfl, rfl⟩, ⟨_, rfl, rfl⟩, ⟨_, rfl, rfl⟩, ⟨_, rfl, rfl⟩, ⟨_, rfl, rfl⟩, ⟨_, rfl, rfl⟩, ⟨_, rfl, rfl⟩, trivial⟩ rfl rfl (by decide) (by decide) rfl dX1_putSpread_65 (fun H locs hw => ?_)
          refine lv_goto (tgt := 107) (pc := 68) E.1 E.2.1 dX1_putSpread_68 (by decide) ?_
          obtain rfl := Option.some.inj hf
          exact x_retv (pc := 107) E hr hk hw dX1_putSpread_107
        · have hf := x_neg q10 hf
          by_cases q13 : x2 = 3
          · have hf := x_pos q13 hf
            refine x_swi (pc := 8) (v := 3) (tgt := 71) E q13 dX1_putSpread_8 (by decide) (by decide) rfl (by decide) ?_
            refine lv_aload_n (pc := 71) E.1 E.2.1 dX1_putSpread_71 rfl (lv_at hl 4 rfl) ?_
            refine lv_aload (pc := 72) E.1 E.2.1 dX1_putSpread_72 (lv_at hl 0 rfl) ?_
            refine xg_X1_165 (pc := 74) (v := .ref (ad 8)) E hw 7 rfl rfl dX1_putSpread_74 ?_
            refine xg_X1_174 (pc := 77) (v := .long (g5_upper (g4_base (g1_poolA s)))) E hw 8 rfl rfl dX1_putSpread_77 ?_
            refine lv_aload (pc := 80) E.1 E.2.1 dX1_putSpread_80 (lv_at hl 0 rfl) ?_
            refine xg_X1_165 (pc := 82) (v := .ref (ad 8)) E hw 7 rfl rfl dX1_putSpread_82 ?_
            refine xg_X1_168 (pc := 85) (v := .long (g5_lower (g4_base (g1_poolA s)))) E hw 8 rfl rfl dX1_putSpread_85 ?_
            obtain ⟨v14, g15, hf⟩ := x_bind hf
            refine x_callV (pc := 88) (As := [.long (g5_upper (g4_base (g1_poolA s))), .long (g5_lower (g4_base (g1_poolA s)))]) (rest := []) (st1 := []) (ws' := (cells1 G ad s ++ cells5 G ae v14)) E hw hl (c_X5_put l G ae q (g5_upper (g4_base (g1_poolA s))) (g5_lower (g4_base (g1_poolA s))) g15) xv_X1_155 xd_X5_put rfl rfl ⟨Nat.le_of_ble_eq_true rfl, Nat.le_of_ble_eq_true rfl⟩ [15] [0, 1, 2, 3, 4, 5, 6, 7, 8, 9, 10, 11, 12, 13, 14] (by decide) ⟨rfl, trivial⟩ (q0 := 15) rfl rfl rfl rfl (Nat.le_of_ble_eq_true rfl) (nw := 16) ⟨rfl, trivial⟩ ⟨⟨_, rfl, rfl⟩, ⟨_, rfl, rfl⟩, ⟨_, rfl, rfl⟩, ⟨_, rfl, rfl⟩, ⟨_, rfl, rfl⟩, ⟨_, rfl, rfl⟩, ⟨_, rfl, rfl⟩, ⟨_, rfl, rfl⟩, ⟨_, rfl, rfl⟩, ⟨_, rfl, rfl⟩, ⟨_, rfl, rfl⟩, ⟨_, rfl, rfl⟩, ⟨_, rfl, rfl⟩, ⟨_, rfl, rfl⟩, ⟨_, rfl, rfl⟩, trivial⟩ rfl rfl (by decide) (by decide) rfl dX1_putSpread_88 (fun H locs hw => ?_)
            refine lv_goto (tgt := 107) (pc := 91) E.1 E.2.1 dX1_putSpread_91 (by decide) ?_
            obtain rfl := Option.some.inj hf
            exact x_retv (pc := 107) E hr hk hw dX1_putSpread_107
          · have hf := x_neg q13 hf
            by_cases q16 : x2 = 4
            · have hf := x_pos q16 hf
              refine x_swi (pc := 8) (v := 4) (tgt := 94) E q16 dX1_putSpread_8 (by decide) (by decide) rfl (by decide) ?_
              refine lv_aload (pc := 94) E.1 E.2.1 dX1_putSpread_94 (lv_at hl 0 rfl) ?_
              refine lv_aload_n (pc := 96) E.1 E.2.1 dX1_putSpread_96 rfl (lv_at hl 4 rfl) ?_
              obtain ⟨v17, g18, hf⟩ := x_bind hf
              refine x_callV (pc := 97) (As := [.ref (ae 0)]) (rest := []) (st1 := []) (ws' := (cells1 G ad s ++ cells5 G ae v17)) E hw hl (c_X4_putOff l G (fun k => ad (k + 7)) ae (g1_poolA s) q g18) xv_X1_193 xd_X4_putOff rfl rfl ⟨Nat.le_of_ble_eq_true rfl, Nat.le_of_ble_eq_true rfl⟩ [7, 8, 15] [0, 1, 2, 3, 4, 5, 6, 9, 10, 11, 12, 13, 14] (by decide) ⟨rfl, rfl, rfl, trivial⟩ (q0 := 7) rfl rfl rfl rfl (Nat.le_of_ble_eq_true rfl) (nw := 16) ⟨rfl, rfl, rfl, trivial⟩ ⟨⟨_, rfl, rfl⟩, ⟨_, rfl, rfl⟩, ⟨_, rfl, rfl⟩, ⟨_, rfl, rfl⟩, ⟨_, rfl, rfl⟩, ⟨_, rfl, rfl⟩, ⟨_, rfl, rfl⟩, ⟨_, rfl, rfl⟩, ⟨_, rfl, rfl⟩, ⟨_, rfl, rfl⟩, ⟨_, rfl, rfl⟩, ⟨_, rfl, rfl⟩, ⟨_, rfl, rfl⟩, trivial⟩ rfl rfl (by decide) (by decide) rfl dX1_putSpread_97 (fun H locs hw => ?_)
              refine lv_goto (tgt := 107) (pc := 100) E.1 E.2.1 dX1_putSpread_100 (by decide) ?_
              obtain rfl := Option.some.inj hf
              exact x_retv (pc := 107) E hr hk hw dX1_putSpread_107
            · have hf := x_neg q16 hf
              refine x_swo (pc := 8) (n := 5) (tgt := 103) E (lt_s (lt_s (lt_s (lt_s (lt_s lt_0 q4) q7) q10) q13) q16) (by decide) dX1_putSpread_8 (by decide) ?_
              refine lv_aload_n (pc := 103) E.1 E.2.1 dX1_putSpread_103 rfl (lv_at hl 4 rfl) ?_
              obtain ⟨v19, g20, hf⟩ := x_bind hf
              refine x_callV (pc := 104) (As := []) (rest := []) (st1 := []) (ws' := (cells1 G ad s ++ cells5 G ae v19)) E hw hl (c_X5_putNone l G ae q g20) xv_X1_159 xd_X5_putNone rfl rfl ⟨Nat.le_of_ble_eq_true rfl, Nat.le_of_ble_eq_true rfl⟩ [15] [0, 1, 2, 3, 4, 5, 6, 7, 8, 9, 10, 11, 12, 13, 14] (by decide) ⟨rfl, trivial⟩ (q0 := 15) rfl rfl rfl rfl (Nat.le_of_ble_eq_true rfl) (nw := 16) ⟨rfl, trivial⟩ ⟨⟨_, rfl, rfl⟩, ⟨_, rfl, rfl⟩, ⟨_, rfl, rfl⟩, ⟨_, rfl, rfl⟩, ⟨_, rfl, rfl⟩, ⟨_, rfl, rfl⟩, ⟨_, rfl, rfl⟩, ⟨_, rfl, rfl⟩, ⟨_, rfl, rfl⟩, ⟨_, rfl, rfl⟩, ⟨_, rfl, rfl⟩, ⟨_, rfl, rfl⟩, ⟨_, rfl, rfl⟩, ⟨_, rfl, rfl⟩, ⟨_, rfl, rfl⟩, trivial⟩ rfl rfl (by decide) (by decide) rfl dX1_putSpread_104 (fun H locs hw => ?_)
              obtain rfl := Option.some.inj hf
              exact x_retv (pc := 107) E hr hk hw dX1_putSpread_107
  · have hf := x_neg q3 hf
    by_cases q21 : v1 = 9
    · have hf := x_pos q21 hf
      rw [q21]
      refine lv_astore (lv' := [(4, .ref (ad 9)), (0, .ref (ad 0)), (1, .int x1), (2, .int x2), (3, .ref (ae 0))]) (pc := 5) E.1 E.2.1 dX1_putSpread_5 hl (by decide) rfl (fun ls hl => ?_)
      refine lv_iload_n (pc := 7) E.1 E.2.1 dX1_putSpread_7 rfl (lv_at hl 3 rfl) ?_
      by_cases q22 : x2 = 0
      · have hf := x_pos q22 hf
        refine x_swi (pc := 8) (v := 0) (tgt := 44) E q22 dX1_putSpread_8 (by decide) (by decide) rfl (by decide) ?_
        refine lv_aload (pc := 44) E.1 E.2.1 dX1_putSpread_44 (lv_at hl 0 rfl) ?_
        refine lv_aload_n (pc := 46) E.1 E.2.1 dX1_putSpread_46 rfl (lv_at hl 4 rfl) ?_
        obtain ⟨v23, g24, hf⟩ := x_bind hf
        refine x_callV (pc := 47) (As := [.ref (ae 0)]) (rest := []) (st1 := []) (ws' := (cells1 G ad s ++ cells5 G ae v23)) E hw hl (c_X4_putWithin l G (fun k => ad (k + 9)) ae (g1_poolB s) q g24) xv_X1_184 xd_X4_putWithin rfl rfl ⟨Nat.le_of_ble_eq_true rfl, Nat.le_of_ble_eq_true rfl⟩ [9, 10, 15] [0, 1, 2, 3, 4, 5, 6, 7, 8, 11, 12, 13, 14] (by decide) ⟨rfl, rfl, rfl, trivial⟩ (q0 := 9) rfl rfl rfl rfl (Nat.le_of_ble_eq_true rfl) (nw := 16) ⟨rfl, rfl, rfl, trivial⟩ ⟨⟨_, rfl, rfl⟩, ⟨_, rfl, rfl⟩, ⟨_, rfl, rfl⟩, ⟨_, rfl, rfl⟩, ⟨_, rfl, rfl⟩, ⟨_, rfl, rfl⟩, ⟨_, rfl, rfl⟩, ⟨_, rfl, rfl⟩, ⟨_, rfl, rfl⟩, ⟨_, rfl, rfl⟩, ⟨_, rfl, rfl⟩, ⟨_, rfl, rfl⟩, ⟨_, rfl, rfl⟩, trivial⟩ rfl rfl (by decide) (by decide) rfl dX1_putSpread_47 (fun H locs hw => ?_)
        refine lv_goto (tgt := 107) (pc := 50) E.1 E.2.1 dX1_putSpread_50 (by decide) ?_
        obtain rfl := Option.some.inj hf
        exact x_retv (pc := 107) E hr hk hw dX1_putSpread_107
      · have hf := x_neg q22 hf
        by_cases q25 : x2 = 1
        · have hf := x_pos q25 hf
          refine x_swi (pc := 8) (v := 1) (tgt := 53) E q25 dX1_putSpread_8 (by decide) (by decide) rfl (by decide) ?_
          refine lv_aload (pc := 53) E.1 E.2.1 dX1_putSpread_53 (lv_at hl 0 rfl) ?_
          refine lv_aload_n (pc := 55) E.1 E.2.1 dX1_putSpread_55 rfl (lv_at hl 4 rfl) ?_
          obtain ⟨v26, g27, hf⟩ := x_bind hf
          refine x_callV (pc := 56) (As := [.ref (ae 0)]) (rest := []) (st1 := []) (ws' := (cells1 G ad s ++ cells5 G ae v26)) E hw hl (c_X4_putBetween l G (fun k => ad (k + 9)) ae (g1_poolB s) q g27) xv_X1_187 xd_X4_putBetween rfl rfl ⟨Nat.le_of_ble_eq_true rfl, Nat.le_of_ble_eq_true rfl⟩ [9, 10, 15] [0, 1, 2, 3, 4, 5, 6, 7, 8, 11, 12, 13, 14] (by decide) ⟨rfl, rfl, rfl, trivial⟩ (q0 := 9) rfl rfl rfl rfl (Nat.le_of_ble_eq_true rfl) (nw := 16) ⟨rfl, rfl, rfl, trivial⟩ ⟨⟨_, rfl, rfl⟩, ⟨_, rfl, rfl⟩, ⟨_, rfl, rfl⟩, ⟨_, rfl, rfl⟩, ⟨_, rfl, rfl⟩, ⟨_, rfl, rfl⟩, ⟨_, rfl, rfl⟩, ⟨_, rfl, rfl⟩, ⟨_, rfl, rfl⟩, ⟨_, rfl, rfl⟩, ⟨_, rfl, rfl⟩, ⟨_, rfl, rfl⟩, ⟨_, rfl, rfl⟩, trivial⟩ rfl rfl (by decide) (by decide) rfl dX1_putSpread_56 (fun H locs hw => ?_)
          refine lv_goto (tgt := 107) (pc := 59) E.1 E.2.1 dX1_putSpread_59 (by decide) ?_
          obtain rfl := Option.some.inj hf
          exact x_retv (pc := 107) E hr hk hw dX1_putSpread_107
        · have hf := x_neg q25 hf
          by_cases q28 : x2 = 2
          · have hf := x_pos q28 hf
            refine x_swi (pc := 8) (v := 2) (tgt := 62) E q28 dX1_putSpread_8 (by decide) (by decide) rfl (by decide) ?_
            refine lv_aload (pc := 62) E.1 E.2.1 dX1_putSpread_62 (lv_at hl 0 rfl) ?_
            refine lv_aload_n (pc := 64) E.1 E.2.1 dX1_putSpread_64 rfl (lv_at hl 4 rfl) ?_
            obtain ⟨v29, g30, hf⟩ := x_bind hf
            refine x_callV (pc := 65) (As := [.ref (ae 0)]) (rest := []) (st1 := []) (ws' := (cells1 G ad s ++ cells5 G ae v29)) E hw hl (c_X4_putCentre l G (fun k => ad (k + 9)) ae (g1_poolB s) q g30) xv_X1_190 xd_X4_putCentre rfl rfl ⟨Nat.le_of_ble_eq_true rfl, Nat.le_of_ble_eq_true rfl⟩ [9, 10, 15] [0, 1, 2, 3, 4, 5, 6, 7, 8, 11, 12, 13, 14] (by decide) ⟨rfl, rfl, rfl, trivial⟩ (q0 := 9) rfl rfl rfl rfl (Nat.le_of_ble_eq_true rfl) (nw := 16) ⟨rfl, rfl, rfl, trivial⟩ ⟨⟨_, rfl, rfl⟩, ⟨_, rfl, rfl⟩, ⟨_, rfl, rfl⟩, ⟨_, rfl, rfl⟩, ⟨_, rfl, rfl⟩, ⟨_, rfl, rfl⟩, ⟨_, rfl, rfl⟩, ⟨_, rfl, rfl⟩, ⟨_, rfl, rfl⟩, ⟨_, rfl, rfl⟩, ⟨_, rfl, rfl⟩, ⟨_, rfl, rfl⟩, ⟨_, rfl, rfl⟩, trivial⟩ rfl rfl (by decide) (by decide) rfl dX1_putSpread_65 (fun H locs hw => ?_)
            refine lv_goto (tgt := 107) (pc := 68) E.1 E.2.1 dX1_putSpread_68 (by decide) ?_
            obtain rfl := Option.some.inj hf
            exact x_retv (pc := 107) E hr hk hw dX1_putSpread_107
          · have hf := x_neg q28 hf
            by_cases q31 : x2 = 3
            · have hf := x_pos q31 hf
              refine x_swi (pc := 8) (v := 3) (tgt := 71) E q31 dX1_putSpread_8 (by decide) (by decide) rfl (by decide) ?_
              refine lv_aload_n (pc := 71) E.1 E.2.1 dX1_putSpread_71 rfl (lv_at hl 4 rfl) ?_
              refine lv_aload (pc := 72) E.1 E.2.1 dX1_putSpread_72 (lv_at hl 0 rfl) ?_
              refine xg_X1_165 (pc := 74) (v := .ref (ad 10)) E hw 9 rfl rfl dX1_putSpread_74 ?_
              refine xg_X1_174 (pc := 77) (v := .long (g5_upper (g4_base (g1_poolB s)))) E hw 10 rfl rfl dX1_putSpread_77 ?_
              refine lv_aload (pc := 80) E.1 E.2.1 dX1_putSpread_80 (lv_at hl 0 rfl) ?_
              refine xg_X1_165 (pc := 82) (v := .ref (ad 10)) E hw 9 rfl rfl dX1_putSpread_82 ?_
              refine xg_X1_168 (pc := 85) (v := .long (g5_lower (g4_base (g1_poolB s)))) E hw 10 rfl rfl dX1_putSpread_85 ?_
              obtain ⟨v32, g33, hf⟩ := x_bind hf
              refine x_callV (pc := 88) (As := [.long (g5_upper (g4_base (g1_poolB s))), .long (g5_lower (g4_base (g1_poolB s)))]) (rest := []) (st1 := []) (ws' := (cells1 G ad s ++ cells5 G ae v32)) E hw hl (c_X5_put l G ae q (g5_upper (g4_base (g1_poolB s))) (g5_lower (g4_base (g1_poolB s))) g33) xv_X1_155 xd_X5_put rfl rfl ⟨Nat.le_of_ble_eq_true rfl, Nat.le_of_ble_eq_true rfl⟩ [15] [0, 1, 2, 3, 4, 5, 6, 7, 8, 9, 10, 11, 12, 13, 14] (by decide) ⟨rfl, trivial⟩ (q0 := 15) rfl rfl rfl rfl (Nat.le_of_ble_eq_true rfl) (nw := 16) ⟨rfl, trivial⟩ ⟨⟨_, rfl, rfl⟩, ⟨_, rfl, rfl⟩, ⟨_, rfl, rfl⟩, ⟨_, rfl, rfl⟩, ⟨_, rfl, rfl⟩, ⟨_, rfl, rfl⟩, ⟨_, rfl, rfl⟩, ⟨_, rfl, rfl⟩, ⟨_, rfl, rfl⟩, ⟨_, rfl, rfl⟩, ⟨_, rfl, rfl⟩, ⟨_, rfl, rfl⟩, ⟨_, rfl, rfl⟩, ⟨_, rfl, rfl⟩, ⟨_, rfl, rfl⟩, trivial⟩ rfl rfl (by decide) (by decide) rfl dX1_putSpread_88 (fun H locs hw => ?_)
              refine lv_goto (tgt := 107) (pc := 91) E.1 E.2.1 dX1_putSpread_91 (by decide) ?_
              obtain rfl := Option.some.inj hf
              exact x_retv (pc := 107) E hr hk hw dX1_putSpread_107
            · have hf := x_neg q31 hf
              by_cases q34 : x2 = 4
              · have hf := x_pos q34 hf
                refine x_swi (pc := 8) (v := 4) (tgt := 94) E q34 dX1_putSpread_8 (by decide) (by decide) rfl (by decide) ?_
                refine lv_aload (pc := 94) E.1 E.2.1 dX1_putSpread_94 (lv_at hl 0 rfl) ?_
                refine lv_aload_n (pc := 96) E.1 E.2.1 dX1_putSpread_96 rfl (lv_at hl 4 rfl) ?_
                obtain ⟨v35, g36, hf⟩ := x_bind hf
                refine x_callV (pc := 97) (As := [.ref (ae 0)]) (rest := []) (st1 := []) (ws' := (cells1 G ad s ++ cells5 G ae v35)) E hw hl (c_X4_putOff l G (fun k => ad (k + 9)) ae (g1_poolB s) q g36) xv_X1_193 xd_X4_putOff rfl rfl ⟨Nat.le_of_ble_eq_true rfl, Nat.le_of_ble_eq_true rfl⟩ [9, 10, 15] [0, 1, 2, 3, 4, 5, 6, 7, 8, 11, 12, 13, 14] (by decide) ⟨rfl, rfl, rfl, trivial⟩ (q0 := 9) rfl rfl rfl rfl (Nat.le_of_ble_eq_true rfl) (nw := 16) ⟨rfl, rfl, rfl, trivial⟩ ⟨⟨_, rfl, rfl⟩, ⟨_, rfl, rfl⟩, ⟨_, rfl, rfl⟩, ⟨_, rfl, rfl⟩, ⟨_, rfl, rfl⟩, ⟨_, rfl, rfl⟩, ⟨_, rfl, rfl⟩, ⟨_, rfl, rfl⟩, ⟨_, rfl, rfl⟩, ⟨_, rfl, rfl⟩, ⟨_, rfl, rfl⟩, ⟨_, rfl, rfl⟩, ⟨_, rfl, rfl⟩, trivial⟩ rfl rfl (by decide) (by decide) rfl dX1_putSpread_97 (fun H locs hw => ?_)
                refine lv_goto (tgt := 107) (pc := 100) E.1 E.2.1 dX1_putSpread_100 (by decide) ?_
                obtain rfl := Option.some.inj hf
                exact x_retv (pc := 107) E hr hk hw dX1_putSpread_107
              · have hf := x_neg q34 hf
                refine x_swo (pc := 8) (n := 5) (tgt := 103) E (lt_s (lt_s (lt_s (lt_s (lt_s lt_0 q22) q25) q28) q31) q34) (by decide) dX1_putSpread_8 (by decide) ?_
                refine lv_aload_n (pc := 103) E.1 E.2.1 dX1_putSpread_103 rfl (lv_at hl 4 rfl) ?_
                obtain ⟨v37, g38, hf⟩ := x_bind hf
                refine x_callV (pc := 104) (As := []) (rest := []) (st1 := []) (ws' := (cells1 G ad s ++ cells5 G ae v37)) E hw hl (c_X5_putNone l G ae q g38) xv_X1_159 xd_X5_putNone rfl rfl ⟨Nat.le_of_ble_eq_true rfl, Nat.le_of_ble_eq_true rfl⟩ [15] [0, 1, 2, 3, 4, 5, 6, 7, 8, 9, 10, 11, 12, 13, 14] (by decide) ⟨rfl, trivial⟩ (q0 := 15) rfl rfl rfl rfl (Nat.le_of_ble_eq_true rfl) (nw := 16) ⟨rfl, trivial⟩ ⟨⟨_, rfl, rfl⟩, ⟨_, rfl, rfl⟩, ⟨_, rfl, rfl⟩, ⟨_, rfl, rfl⟩, ⟨_, rfl, rfl⟩, ⟨_, rfl, rfl⟩, ⟨_, rfl, rfl⟩, ⟨_, rfl, rfl⟩, ⟨_, rfl, rfl⟩, ⟨_, rfl, rfl⟩, ⟨_, rfl, rfl⟩, ⟨_, rfl, rfl⟩, ⟨_, rfl, rfl⟩, ⟨_, rfl, rfl⟩, ⟨_, rfl, rfl⟩, trivial⟩ rfl rfl (by decide) (by decide) rfl dX1_putSpread_104 (fun H locs hw => ?_)
                obtain rfl := Option.some.inj hf
                exact x_retv (pc := 107) E hr hk hw dX1_putSpread_107
    · have hf := x_neg q21 hf
      by_cases q39 : v1 = 11
      · have hf := x_pos q39 hf
        rw [q39]
        refine lv_astore (lv' := [(4, .ref (ad 11)), (0, .ref (ad 0)), (1, .int x1), (2, .int x2), (3, .ref (ae 0))]) (pc := 5) E.1 E.2.1 dX1_putSpread_5 hl (by decide) rfl (fun ls hl => ?_)
        refine lv_iload_n (pc := 7) E.1 E.2.1 dX1_putSpread_7 rfl (lv_at hl 3 rfl) ?_
        by_cases q40 : x2 = 0
        · have hf := x_pos q40 hf
          refine x_swi (pc := 8) (v := 0) (tgt := 44) E q40 dX1_putSpread_8 (by decide) (by decide) rfl (by decide) ?_
          refine lv_aload (pc := 44) E.1 E.2.1 dX1_putSpread_44 (lv_at hl 0 rfl) ?_
          refine lv_aload_n (pc := 46) E.1 E.2.1 dX1_putSpread_46 rfl (lv_at hl 4 rfl) ?_
          obtain ⟨v41, g42, hf⟩ := x_bind hf
          refine x_callV (pc := 47) (As := [.ref (ae 0)]) (rest := []) (st1 := []) (ws' := (cells1 G ad s ++ cells5 G ae v41)) E hw hl (c_X4_putWithin l G (fun k => ad (k + 11)) ae (g1_poolC s) q g42) xv_X1_184 xd_X4_putWithin rfl rfl ⟨Nat.le_of_ble_eq_true rfl, Nat.le_of_ble_eq_true rfl⟩ [11, 12, 15] [0, 1, 2, 3, 4, 5, 6, 7, 8, 9, 10, 13, 14] (by decide) ⟨rfl, rfl, rfl, trivial⟩ (q0 := 11) rfl rfl rfl rfl (Nat.le_of_ble_eq_true rfl) (nw := 16) ⟨rfl, rfl, rfl, trivial⟩ ⟨⟨_, rfl, rfl⟩, ⟨_, rfl, rfl⟩, ⟨_, rfl, rfl⟩, ⟨_, rfl, rfl⟩, ⟨_, rfl, rfl⟩, ⟨_, rfl, rfl⟩, ⟨_, rfl, rfl⟩, ⟨_, rfl, rfl⟩, ⟨_, rfl, rfl⟩, ⟨_, rfl, rfl⟩, ⟨_, rfl, rfl⟩, ⟨_, rfl, rfl⟩, ⟨_, rfl, rfl⟩, trivial⟩ rfl rfl (by decide) (by decide) rfl dX1_putSpread_47 (fun H locs hw => ?_)
          refine lv_goto (tgt := 107) (pc := 50) E.1 E.2.1 dX1_putSpread_50 (by decide) ?_
          obtain rfl := Option.some.inj hf
          exact x_retv (pc := 107) E hr hk hw dX1_putSpread_107
        · have hf := x_neg q40 hf
          by_cases q43 : x2 = 1
          · have hf := x_pos q43 hf
            refine x_swi (pc := 8) (v := 1) (tgt := 53) E q43 dX1_putSpread_8 (by decide) (by decide) rfl (by decide) ?_
            refine lv_aload (pc := 53) E.1 E.2.1 dX1_putSpread_53 (lv_at hl 0 rfl) ?_
            refine lv_aload_n (pc := 55) E.1 E.2.1 dX1_putSpread_55 rfl (lv_at hl 4 rfl) ?_
            obtain ⟨v44, g45, hf⟩ := x_bind hf
            refine x_callV (pc := 56) (As := [.ref (ae 0)]) (rest := []) (st1 := []) (ws' := (cells1 G ad s ++ cells5 G ae v44)) E hw hl (c_X4_putBetween l G (fun k => ad (k + 11)) ae (g1_poolC s) q g45) xv_X1_187 xd_X4_putBetween rfl rfl ⟨Nat.le_of_ble_eq_true rfl, Nat.le_of_ble_eq_true rfl⟩ [11, 12, 15] [0, 1, 2, 3, 4, 5, 6, 7, 8, 9, 10, 13, 14] (by decide) ⟨rfl, rfl, rfl, trivial⟩ (q0 := 11) rfl rfl rfl rfl (Nat.le_of_ble_eq_true rfl) (nw := 16) ⟨rfl, rfl, rfl, trivial⟩ ⟨⟨_, rfl, rfl⟩, ⟨_, rfl, rfl⟩, ⟨_, rfl, rfl⟩, ⟨_, rfl, rfl⟩, ⟨_, rfl, rfl⟩, ⟨_, rfl, rfl⟩, ⟨_, rfl, rfl⟩, ⟨_, rfl, rfl⟩, ⟨_, rfl, rfl⟩, ⟨_, rfl, rfl⟩, ⟨_, rfl, rfl⟩, ⟨_, rfl, rfl⟩, ⟨_, rfl, rfl⟩, trivial⟩ rfl rfl (by decide) (by decide) rfl dX1_putSpread_56 (fun H locs hw => ?_)
            refine lv_goto (tgt := 107) (pc := 59) E.1 E.2.1 dX1_putSpread_59 (by decide) ?_
            obtain rfl := Option.some.inj hf
            exact x_retv (pc := 107) E hr hk hw dX1_putSpread_107
          · have hf := x_neg q43 hf
            by_cases q46 : x2 = 2
            · have hf := x_pos q46 hf
              refine x_swi (pc := 8) (v := 2) (tgt := 62) E q46 dX1_putSpread_8 (by decide) (by decide) rfl (by decide) ?_
              refine lv_aload (pc := 62) E.1 E.2.1 dX1_putSpread_62 (lv_at hl 0 rfl) ?_
              refine lv_aload_n (pc := 64) E.1 E.2.1 dX1_putSpread_64 rfl (lv_at hl 4 rfl) ?_
              obtain ⟨v47, g48, hf⟩ := x_bind hf
              refine x_callV (pc := 65) (As := [.ref (ae 0)]) (rest := []) (st1 := []) (ws' := (cells1 G ad s ++ cells5 G ae v47)) E hw hl (c_X4_putCentre l G (fun k => ad (k + 11)) ae (g1_poolC s) q g48) xv_X1_190 xd_X4_putCentre rfl rfl ⟨Nat.le_of_ble_eq_true rfl, Nat.le_of_ble_eq_true rfl⟩ [11, 12, 15] [0, 1, 2, 3, 4, 5, 6, 7, 8, 9, 10, 13, 14] (by decide) ⟨rfl, rfl, rfl, trivial⟩ (q0 := 11) rfl rfl rfl rfl (Nat.le_of_ble_eq_true rfl) (nw := 16) ⟨rfl, rfl, rfl, trivial⟩ ⟨⟨_, rfl, rfl⟩, ⟨_, rfl, rfl⟩, ⟨_, rfl, rfl⟩, ⟨_, rfl, rfl⟩, ⟨_, rfl, rfl⟩, ⟨_, rfl, rfl⟩, ⟨_, rfl, rfl⟩, ⟨_, rfl, rfl⟩, ⟨_, rfl, rfl⟩, ⟨_, rfl, rfl⟩, ⟨_, rfl, rfl⟩, ⟨_, rfl, rfl⟩, ⟨_, rfl, rfl⟩, trivial⟩ rfl rfl (by decide) (by decide) rfl dX1_putSpread_65 (fun H locs hw => ?_)
              refine lv_goto (tgt := 107) (pc := 68) E.1 E.2.1 dX1_putSpread_68 (by decide) ?_
              obtain rfl := Option.some.inj hf
              exact x_retv (pc := 107) E hr hk hw dX1_putSpread_107
            · have hf := x_neg q46 hf
              by_cases q49 : x2 = 3
              · have hf := x_pos q49 hf
                refine x_swi (pc := 8) (v := 3) (tgt := 71) E q49 dX1_putSpread_8 (by decide) (by decide) rfl (by decide) ?_
                refine lv_aload_n (pc := 71) E.1 E.2.1 dX1_putSpread_71 rfl (lv_at hl 4 rfl) ?_
                refine lv_aload (pc := 72) E.1 E.2.1 dX1_putSpread_72 (lv_at hl 0 rfl) ?_
                refine xg_X1_165 (pc := 74) (v := .ref (ad 12)) E hw 11 rfl rfl dX1_putSpread_74 ?_
                refine xg_X1_174 (pc := 77) (v := .long (g5_upper (g4_base (g1_poolC s)))) E hw 12 rfl rfl dX1_putSpread_77 ?_
                refine lv_aload (pc := 80) E.1 E.2.1 dX1_putSpread_80 (lv_at hl 0 rfl) ?_
                refine xg_X1_165 (pc := 82) (v := .ref (ad 12)) E hw 11 rfl rfl dX1_putSpread_82 ?_
                refine xg_X1_168 (pc := 85) (v := .long (g5_lower (g4_base (g1_poolC s)))) E hw 12 rfl rfl dX1_putSpread_85 ?_
                obtain ⟨v50, g51, hf⟩ := x_bind hf
                refine x_callV (pc := 88) (As := [.long (g5_upper (g4_base (g1_poolC s))), .long (g5_lower (g4_base (g1_poolC s)))]) (rest := []) (st1 := []) (ws' := (cells1 G ad s ++ cells5 G ae v50)) E hw hl (c_X5_put l G ae q (g5_upper (g4_base (g1_poolC s))) (g5_lower (g4_base (g1_poolC s))) g51) xv_X1_155 xd_X5_put rfl rfl ⟨Nat.le_of_ble_eq_true rfl, Nat.le_of_ble_eq_true rfl⟩ [15] [0, 1, 2, 3, 4, 5, 6, 7, 8, 9, 10, 11, 12, 13, 14] (by decide) ⟨rfl, trivial⟩ (q0 := 15) rfl rfl rfl rfl (Nat.le_of_ble_eq_true rfl) (nw := 16) ⟨rfl, trivial⟩ ⟨⟨_, rfl, rfl⟩, ⟨_, rfl, rfl⟩, ⟨_, rfl, rfl⟩, ⟨_, rfl, rfl⟩, ⟨_, rfl, rfl⟩, ⟨_, rfl, rfl⟩, ⟨_, rfl, rfl⟩, ⟨_, rfl, rfl⟩, ⟨_, rfl, rfl⟩, ⟨_, rfl, rfl⟩, ⟨_, rfl, rfl⟩, ⟨_, rfl, rfl⟩, ⟨_, rfl, rfl⟩, ⟨_, rfl, rfl⟩, ⟨_, rfl, rfl⟩, trivial⟩ rfl rfl (by decide) (by decide) rfl dX1_putSpread_88 (fun H locs hw => ?_)
                refine lv_goto (tgt := 107) (pc := 91) E.1 E.2.1 dX1_putSpread_91 (by decide) ?_
                obtain rfl := Option.some.inj hf
                exact x_retv (pc := 107) E hr hk hw dX1_putSpread_107
              · have hf := x_neg q49 hf
                by_cases q52 : x2 = 4
                · have hf := x_pos q52 hf
                  refine x_swi (pc := 8) (v := 4) (tgt := 94) E q52 dX1_putSpread_8 (by decide) (by decide) rfl (by decide) ?_
                  refine lv_aload (pc := 94) E.1 E.2.1 dX1_putSpread_94 (lv_at hl 0 rfl) ?_
                  refine lv_aload_n (pc := 96) E.1 E.2.1 dX1_putSpread_96 rfl (lv_at hl 4 rfl) ?_
                  obtain ⟨v53, g54, hf⟩ := x_bind hf
                  refine x_callV (pc := 97) (As := [.ref (ae 0)]) (rest := []) (st1 := []) (ws' := (cells1 G ad s ++ cells5 G ae v53)) E hw hl (c_X4_putOff l G (fun k => ad (k + 11)) ae (g1_poolC s) q g54) xv_X1_193 xd_X4_putOff rfl rfl ⟨Nat.le_of_ble_eq_true rfl, Nat.le_of_ble_eq_true rfl⟩ [11, 12, 15] [0, 1, 2, 3, 4, 5, 6, 7, 8, 9, 10, 13, 14] (by decide) ⟨rfl, rfl, rfl, trivial⟩ (q0 := 11) rfl rfl rfl rfl (Nat.le_of_ble_eq_true rfl) (nw := 16) ⟨rfl, rfl, rfl, trivial⟩ ⟨⟨_, rfl, rfl⟩, ⟨_, rfl, rfl⟩, ⟨_, rfl, rfl⟩, ⟨_, rfl, rfl⟩, ⟨_, rfl, rfl⟩, ⟨_, rfl, rfl⟩, ⟨_, rfl, rfl⟩, ⟨_, rfl, rfl⟩, ⟨_, rfl, rfl⟩, ⟨_, rfl, rfl⟩, ⟨_, rfl, rfl⟩, ⟨_, rfl, rfl⟩, ⟨_, rfl, rfl⟩, trivial⟩ rfl rfl (by decide) (by decide) rfl dX1_putSpread_97 (fun H locs hw => ?_)
                  refine lv_goto (tgt := 107) (pc := 100) E.1 E.2.1 dX1_putSpread_100 (by decide) ?_
                  obtain rfl := Option.some.inj hf
                  exact x_retv (pc := 107) E hr hk hw dX1_putSpread_107
                · have hf := x_neg q52 hf
                  refine x_swo (pc := 8) (n := 5) (tgt := 103) E (lt_s (lt_s (lt_s (lt_s (lt_s lt_0 q40) q43) q46) q49) q52) (by decide) dX1_putSpread_8 (by decide) ?_
                  refine lv_aload_n (pc := 103) E.1 E.2.1 dX1_putSpread_103 rfl (lv_at hl 4 rfl) ?_
                  obtain ⟨v55, g56, hf⟩ := x_bind hf
                  refine x_callV (pc := 104) (As := []) (rest := []) (st1 := []) (ws' := (cells1 G ad s ++ cells5 G ae v55)) E hw hl (c_X5_putNone l G ae q g56) xv_X1_159 xd_X5_putNone rfl rfl ⟨Nat.le_of_ble_eq_true rfl, Nat.le_of_ble_eq_true rfl⟩ [15] [0, 1, 2, 3, 4, 5, 6, 7, 8, 9, 10, 11, 12, 13, 14] (by decide) ⟨rfl, trivial⟩ (q0 := 15) rfl rfl rfl rfl (Nat.le_of_ble_eq_true rfl) (nw := 16) ⟨rfl, trivial⟩ ⟨⟨_, rfl, rfl⟩, ⟨_, rfl, rfl⟩, ⟨_, rfl, rfl⟩, ⟨_, rfl, rfl⟩, ⟨_, rfl, rfl⟩, ⟨_, rfl, rfl⟩, ⟨_, rfl, rfl⟩, ⟨_, rfl, rfl⟩, ⟨_, rfl, rfl⟩, ⟨_, rfl, rfl⟩, ⟨_, rfl, rfl⟩, ⟨_, rfl, rfl⟩, ⟨_, rfl, rfl⟩, ⟨_, rfl, rfl⟩, ⟨_, rfl, rfl⟩, trivial⟩ rfl rfl (by decide) (by decide) rfl dX1_putSpread_104 (fun H locs hw => ?_)
                  obtain rfl := Option.some.inj hf
                  exact x_retv (pc := 107) E hr hk hw dX1_putSpread_107
      · have hf := x_neg q39 hf
        cases hf
set_option maxHeartbeats 4000000 in
set_option maxRecDepth 100000 in
theorem c_X1_putSpread (l : Launch) (G : xG) (ad : Nat → Nat) (ae : Nat → Nat) (s : S1) (q : S5) (x1 : Int32) (x2 : Int32) {z : S5} (hf : f_X1_putSpread s q x1 x2 = some z) : xC l yX1_putSpread cX1_putSpread 5 none (rm_X1_putSpread) G [.ref (ad 0), .int x1, .int x2, .ref (ae 0)] (cells1 G ad s ++ cells5 G ae q) none (cells1 G ad s ++ cells5 G ae z) :=
  x_met (by decide) rfl (Nat.le_of_ble_eq_true rfl) (fun p e sS m below meth c E hr hk ls hl hw => w_X1_putSpread_p0 E hr hk s q x1 x2 z hw hl hf)
set_option maxHeartbeats 4000000 in
set_option maxRecDepth 100000 in
theorem w_X1_putWhole_p0 {p : Program} {l : Launch} {e : Env} {sS : State} {m : MethodId} {args : Array Value} {below : List Frame} {meth : Method} {c : Code} {G : xG} {W0 : va_W} {ad : Nat → Nat} {ae : Nat → Nat}   (E : xE p sS m args c cX1_putWhole 2 RX1 G (x_in W0)) (hr : meth.sig.returnType = none) (hk : meth.locks = false)  : ∀ (s' : S1) (q' : S5) (z : S5) {H : Heap} {locs : List Loc} {ls : Array Slot}, xW G (x_in W0) sS.heap (cells1 G ad s' ++ cells5 G ae q') H locs → lv_has ls 2 [(0, .ref (ad 0)), (1, .ref (ae 0))] → f_X1_putWhole  s' q' = some z → W p l e (rm_X1_putWhole) sS m args below meth c H locs 0 0 (MQ below (xQ G W0 (cells1 G ad s' ++ cells5 G ae z) none) args sS 0 0 (x_in W0)) (F0 m 0 ls []) := by
  intro s q z H locs ls hw hl hf
  unfold f_X1_putWhole at hf
  refine lv_aload_n (pc := 0) E.1 E.2.1 dX1_putWhole_0 rfl (lv_at hl 1 rfl) ?_
  refine lv_aload_n (pc := 1) E.1 E.2.1 dX1_putWhole_1 rfl (lv_at hl 0 rfl) ?_
  refine xg_X1_73 (pc := 2) (v := .int (g1_allSum s)) E hw 0 rfl rfl dX1_putWhole_2 ?_
  refine lv_i2l (v := (Int32.toInt64 (g1_allSum s))) (pc := 5) E.1 E.2.1 dX1_putWhole_5 rfl ?_
  refine lv_aload_n (pc := 6) E.1 E.2.1 dX1_putWhole_6 rfl (lv_at hl 0 rfl) ?_
  refine xg_X1_76 (pc := 7) (v := .int (g1_allSpan s)) E hw 0 rfl rfl dX1_putWhole_7 ?_
  refine lv_i2l (v := (Int32.toInt64 (g1_allSpan s))) (pc := 10) E.1 E.2.1 dX1_putWhole_10 rfl ?_
  obtain ⟨v1, g2, hf⟩ := x_bind hf
  refine x_callV (pc := 11) (As := [.long (Int32.toInt64 (g1_allSum s)), .long (Int32.toInt64 (g1_allSpan s))]) (rest := []) (st1 := []) (ws' := (cells1 G ad s ++ cells5 G ae v1)) E hw hl (c_X5_put l G ae q (Int32.toInt64 (g1_allSum s)) (Int32.toInt64 (g1_allSpan s)) g2) xv_X1_155 xd_X5_put rfl rfl ⟨Nat.le_of_ble_eq_true rfl, Nat.le_of_ble_eq_true rfl⟩ [15] [0, 1, 2, 3, 4, 5, 6, 7, 8, 9, 10, 11, 12, 13, 14] (by decide) ⟨rfl, trivial⟩ (q0 := 15) rfl rfl rfl rfl (Nat.le_of_ble_eq_true rfl) (nw := 16) ⟨rfl, trivial⟩ ⟨⟨_, rfl, rfl⟩, ⟨_, rfl, rfl⟩, ⟨_, rfl, rfl⟩, ⟨_, rfl, rfl⟩, ⟨_, rfl, rfl⟩, ⟨_, rfl, rfl⟩, ⟨_, rfl, rfl⟩, ⟨_, rfl, rfl⟩, ⟨_, rfl, rfl⟩, ⟨_, rfl, rfl⟩, ⟨_, rfl, rfl⟩, ⟨_, rfl, rfl⟩, ⟨_, rfl, rfl⟩, ⟨_, rfl, rfl⟩, ⟨_, rfl, rfl⟩, trivial⟩ rfl rfl (by decide) (by decide) rfl dX1_putWhole_11 (fun H locs hw => ?_)
  obtain rfl := Option.some.inj hf
  exact x_retv (pc := 14) E hr hk hw dX1_putWhole_14
set_option maxHeartbeats 4000000 in
set_option maxRecDepth 100000 in
theorem c_X1_putWhole (l : Launch) (G : xG) (ad : Nat → Nat) (ae : Nat → Nat) (s : S1) (q : S5) {z : S5} (hf : f_X1_putWhole s q = some z) : xC l yX1_putWhole cX1_putWhole 2 none (rm_X1_putWhole) G [.ref (ad 0), .ref (ae 0)] (cells1 G ad s ++ cells5 G ae q) none (cells1 G ad s ++ cells5 G ae z) :=
  x_met (by decide) rfl (Nat.le_of_ble_eq_true rfl) (fun p e sS m below meth c E hr hk ls hl hw => w_X1_putWhole_p0 E hr hk s q z hw hl hf)
set_option maxHeartbeats 4000000 in
set_option maxRecDepth 100000 in
theorem w_X1_isRated_p0 {p : Program} {l : Launch} {e : Env} {sS : State} {m : MethodId} {args : Array Value} {below : List Frame} {meth : Method} {c : Code} {G : xG} {W0 : va_W} {ad : Nat → Nat}   (E : xE p sS m args c cX1_isRated 2 RX1 G (x_in W0)) (hr : meth.sig.returnType = (some .boolean)) (hk : meth.locks = false)  : ∀ (s' : S1) (x1' : Int32) (z : Int32) {H : Heap} {locs : List Loc} {ls : Array Slot}, xW G (x_in W0) sS.heap (cells1 G ad s') H locs → lv_has ls 2 [(0, .ref (ad 0)), (1, .int x1')] → f_X1_isRated  s' x1' = some z → W p l e (rm_X1_isRated) sS m args below meth c H locs 0 0 (MQ below (xQ G W0 (cells1 G ad s') (some (.int z))) args sS 0 0 (x_in W0)) (F0 m 0 ls []) := by
  intro s x1 z H locs ls hw hl hf
  unfold f_X1_isRated at hf
  refine lv_aload_n (pc := 0) E.1 E.2.1 dX1_isRated_0 rfl (lv_at hl 0 rfl) ?_
  refine lv_iload_n (pc := 1) E.1 E.2.1 dX1_isRated_1 rfl (lv_at hl 1 rfl) ?_
  obtain ⟨v1, g2, hf⟩ := x_bind hf
  refine x_callVA (pc := 2) (As := [.int x1]) (rest := []) (st1 := [.int v1]) (ws' := (cells1 G ad s)) E hw hl (c_X1_hasRow l G ad s x1 g2) xv_X1_120 xd_X1_hasRow rfl rfl ⟨Nat.le_of_ble_eq_true rfl, Nat.le_of_ble_eq_true rfl⟩ (q0 := 0) rfl rfl rfl rfl (Nat.le_of_ble_eq_true rfl) rfl dX1_isRated_2 (fun H locs hw => ?_)
  refine lv_if_eq (tgt := 21) (pc := 5) E.1 E.2.1 dX1_isRated_5 (by decide) (fun q3 => ?_) (fun q3 => ?_)
  · have hf := x_pos q3 hf
    refine lv_iconst (v := 0) (pc := 21) E.1 E.2.1 dX1_isRated_21 (by decide) ?_
    obtain rfl := Option.some.inj hf
    exact x_retz (pc := 22) (v := 0) (r := 0) E hr hk hw (by decide) dX1_isRated_22
  · have hf := x_neg q3 hf
    refine lv_aload_n (pc := 8) E.1 E.2.1 dX1_isRated_8 rfl (lv_at hl 0 rfl) ?_
    refine xg_X1_18 (pc := 9) (v := .ref (ad 3)) E hw 0 rfl rfl dX1_isRated_9 ?_
    refine lv_iload_n (pc := 12) E.1 E.2.1 dX1_isRated_12 rfl (lv_at hl 1 rfl) ?_
    obtain ⟨v5, g4, hf⟩ := x_bind hf
    refine x_iald (pc := 13) E hw 3 rfl g4 dX1_isRated_13 ?_
    refine lv_if_le (tgt := 21) (pc := 14) E.1 E.2.1 dX1_isRated_14 (by decide) (fun q6 => ?_) (fun q6 => ?_)
    · have hf := x_pos q6 hf
      refine lv_iconst (v := 0) (pc := 21) E.1 E.2.1 dX1_isRated_21 (by decide) ?_
      obtain rfl := Option.some.inj hf
      exact x_retz (pc := 22) (v := 0) (r := 0) E hr hk hw (by decide) dX1_isRated_22
    · have hf := x_neg q6 hf
      refine lv_iconst (v := 1) (pc := 17) E.1 E.2.1 dX1_isRated_17 (by decide) ?_
      refine lv_goto (tgt := 22) (pc := 18) E.1 E.2.1 dX1_isRated_18 (by decide) ?_
      obtain rfl := Option.some.inj hf
      exact x_retz (pc := 22) (v := 1) (r := 1) E hr hk hw (by decide) dX1_isRated_22
set_option maxHeartbeats 4000000 in
set_option maxRecDepth 100000 in
theorem c_X1_isRated (l : Launch) (G : xG) (ad : Nat → Nat) (s : S1) (x1 : Int32) {z : Int32} (hf : f_X1_isRated s x1 = some z) : xC l yX1_isRated cX1_isRated 2 (some .boolean) (rm_X1_isRated) G [.ref (ad 0), .int x1] (cells1 G ad s) (some (.int z)) (cells1 G ad s) :=
  x_met (by decide) rfl (Nat.le_of_ble_eq_true rfl) (fun p e sS m below meth c E hr hk ls hl hw => w_X1_isRated_p0 E hr hk s x1 z hw hl hf)
set_option maxHeartbeats 4000000 in
set_option maxRecDepth 100000 in
theorem w_X1_putRate_p0 {p : Program} {l : Launch} {e : Env} {sS : State} {m : MethodId} {args : Array Value} {below : List Frame} {meth : Method} {c : Code} {G : xG} {W0 : va_W} {ad : Nat → Nat} {ae : Nat → Nat}   (E : xE p sS m args c cX1_putRate 8 RX1 G (x_in W0)) (hr : meth.sig.returnType = none) (hk : meth.locks = false)  : ∀ (s' : S1) (q' : S5) (x1' : Int32) (z : S5) {H : Heap} {locs : List Loc} {ls : Array Slot}, xW G (x_in W0) sS.heap (cells1 G ad s' ++ cells5 G ae q') H locs → lv_has ls 8 [(0, .ref (ad 0)), (1, .int x1'), (2, .ref (ae 0))] → f_X1_putRate  s' q' x1' = some z → W p l e (rm_X1_putRate) sS m args below meth c H locs 0 0 (MQ below (xQ G W0 (cells1 G ad s' ++ cells5 G ae z) none) args sS 0 0 (x_in W0)) (F0 m 0 ls []) := by
  intro s q x1 z H locs ls hw hl hf
  unfold f_X1_putRate at hf
  refine lv_aload_n (pc := 0) E.1 E.2.1 dX1_putRate_0 rfl (lv_at hl 2 rfl) ?_
  obtain ⟨v1, g2, hf⟩ := x_bind hf
  refine x_callV (pc := 1) (As := []) (rest := []) (st1 := []) (ws' := (cells1 G ad s ++ cells5 G ae v1)) E hw hl (c_X5_putNone l G ae q g2) xv_X1_159 xd_X5_putNone rfl rfl ⟨Nat.le_of_ble_eq_true rfl, Nat.le_of_ble_eq_true rfl⟩ [15] [0, 1, 2, 3, 4, 5, 6, 7, 8, 9, 10, 11, 12, 13, 14] (by decide) ⟨rfl, trivial⟩ (q0 := 15) rfl rfl rfl rfl (Nat.le_of_ble_eq_true rfl) (nw := 16) ⟨rfl, trivial⟩ ⟨⟨_, rfl, rfl⟩, ⟨_, rfl, rfl⟩, ⟨_, rfl, rfl⟩, ⟨_, rfl, rfl⟩, ⟨_, rfl, rfl⟩, ⟨_, rfl, rfl⟩, ⟨_, rfl, rfl⟩, ⟨_, rfl, rfl⟩, ⟨_, rfl, rfl⟩, ⟨_, rfl, rfl⟩, ⟨_, rfl, rfl⟩, ⟨_, rfl, rfl⟩, ⟨_, rfl, rfl⟩, ⟨_, rfl, rfl⟩, ⟨_, rfl, rfl⟩, trivial⟩ rfl rfl (by decide) (by decide) rfl dX1_putRate_1 (fun H locs hw => ?_)
  refine lv_aload_n (pc := 4) E.1 E.2.1 dX1_putRate_4 rfl (lv_at hl 0 rfl) ?_
  refine lv_iload_n (pc := 5) E.1 E.2.1 dX1_putRate_5 rfl (lv_at hl 1 rfl) ?_
  obtain ⟨v3, g4, hf⟩ := x_bind hf
  refine x_callV (pc := 6) (As := [.int x1]) (rest := []) (st1 := [.int v3]) (ws' := (cells1 G ad s ++ cells5 G ae v1)) E hw hl (c_X1_isRated l G ad s x1 g4) xv_X1_162 xd_X1_isRated rfl rfl ⟨Nat.le_of_ble_eq_true rfl, Nat.le_of_ble_eq_true rfl⟩ [0, 1, 2, 3, 4, 5, 6, 7, 8, 9, 10, 11, 12, 13, 14] [15] (by decide) ⟨rfl, rfl, rfl, rfl, rfl, rfl, rfl, rfl, rfl, rfl, rfl, rfl, rfl, rfl, rfl, trivial⟩ (q0 := 0) rfl rfl rfl rfl (Nat.le_of_ble_eq_true rfl) (nw := 16) ⟨rfl, rfl, rfl, rfl, rfl, rfl, rfl, rfl, rfl, rfl, rfl, rfl, rfl, rfl, rfl, trivial⟩ ⟨⟨_, rfl, rfl⟩, trivial⟩ rfl rfl (by decide) (by decide) rfl dX1_putRate_6 (fun H locs hw => ?_)
  refine lv_if_eq (tgt := 89) (pc := 9) E.1 E.2.1 dX1_putRate_9 (by decide) (fun q5 => ?_) (fun q5 => ?_)
  · have hf := x_pos q5 hf
    obtain rfl := Option.some.inj hf
    exact x_retv (pc := 89) E hr hk hw dX1_putRate_89
  · have hf := x_neg q5 hf
    refine lv_aload_n (pc := 12) E.1 E.2.1 dX1_putRate_12 rfl (lv_at hl 0 rfl) ?_
    refine lv_aload_n (pc := 13) E.1 E.2.1 dX1_putRate_13 rfl (lv_at hl 0 rfl) ?_
    refine xg_X1_9 (pc := 14) (v := .ref (ad 1)) E hw 0 rfl rfl dX1_putRate_14 ?_
    refine lv_iload_n (pc := 17) E.1 E.2.1 dX1_putRate_17 rfl (lv_at hl 1 rfl) ?_
    obtain ⟨v7, g6, hf⟩ := x_bind hf
    refine x_iald (pc := 18) E hw 1 rfl g6 dX1_putRate_18 ?_
    obtain ⟨v8, g9, hf⟩ := x_bind hf
    refine x_callV (pc := 19) (As := [.int v7]) (rest := []) (st1 := [.ref (ad v8)]) (ws' := (cells1 G ad s ++ cells5 G ae v1)) E hw hl (c_X1_poolOf l G ad s v7 g9) xv_X1_138 xd_X1_poolOf rfl rfl ⟨Nat.le_of_ble_eq_true rfl, Nat.le_of_ble_eq_true rfl⟩ [0, 1, 2, 3, 4, 5, 6, 7, 8, 9, 10, 11, 12, 13, 14] [15] (by decide) ⟨rfl, rfl, rfl, rfl, rfl, rfl, rfl, rfl, rfl, rfl, rfl, rfl, rfl, rfl, rfl, trivial⟩ (q0 := 0) rfl rfl rfl rfl (Nat.le_of_ble_eq_true rfl) (nw := 16) ⟨rfl, rfl, rfl, rfl, rfl, rfl, rfl, rfl, rfl, rfl, rfl, rfl, rfl, rfl, rfl, trivial⟩ ⟨⟨_, rfl, rfl⟩, trivial⟩ rfl rfl (by decide) (by decide) rfl dX1_putRate_19 (fun H locs hw => ?_)
    by_cases q10 : v8 = 7
    · have hf := x_pos q10 hf
      rw [q10]
      refine xg_X1_165 (pc := 22) (v := .ref (ad 8)) E hw 7 rfl rfl dX1_putRate_22 ?_
      refine lv_astore_n (lv' := [(3, .ref (ad 8)), (0, .ref (ad 0)), (1, .int x1), (2, .ref (ae 0))]) (pc := 25) E.1 E.2.1 dX1_putRate_25 rfl hl (by decide) rfl (fun ls hl => ?_)
      refine lv_aload_n (pc := 26) E.1 E.2.1 dX1_putRate_26 rfl (lv_at hl 1 rfl) ?_
      refine xg_X1_27 (pc := 27) (v := .ref (ad 6)) E hw 0 rfl rfl dX1_putRate_27 ?_
      refine lv_iload_n (pc := 30) E.1 E.2.1 dX1_putRate_30 rfl (lv_at hl 2 rfl) ?_
      obtain ⟨v12, g11, hf⟩ := x_bind hf
      refine x_iald (pc := 31) E hw 6 rfl g11 dX1_putRate_31 ?_
      refine lv_i2l (v := (Int32.toInt64 v12)) (pc := 32) E.1 E.2.1 dX1_putRate_32 rfl ?_
      refine lv_lstore (lv' := [(4, .long (Int32.toInt64 v12)), (3, .ref (ad 8)), (0, .ref (ad 0)), (1, .int x1), (2, .ref (ae 0))]) (pc := 33) E.1 E.2.1 dX1_putRate_33 hl (by decide) rfl (fun ls hl => ?_)
      refine lv_aload_n (pc := 35) E.1 E.2.1 dX1_putRate_35 rfl (lv_at hl 2 rfl) ?_
      refine xg_X1_18 (pc := 36) (v := .ref (ad 3)) E hw 0 rfl rfl dX1_putRate_36 ?_
      refine lv_iload_n (pc := 39) E.1 E.2.1 dX1_putRate_39 rfl (lv_at hl 3 rfl) ?_
      obtain ⟨v14, g13, hf⟩ := x_bind hf
      refine x_iald (pc := 40) E hw 3 rfl g13 dX1_putRate_40 ?_
      refine lv_i2l (v := (Int32.toInt64 v14)) (pc := 41) E.1 E.2.1 dX1_putRate_41 rfl ?_
      refine lv_lstore (lv' := [(6, .long (Int32.toInt64 v14)), (4, .long (Int32.toInt64 v12)), (3, .ref (ad 8)), (0, .ref (ad 0)), (1, .int x1), (2, .ref (ae 0))]) (pc := 42) E.1 E.2.1 dX1_putRate_42 hl (by decide) rfl (fun ls hl => ?_)
      refine lv_aload_n (pc := 44) E.1 E.2.1 dX1_putRate_44 rfl (lv_at hl 5 rfl) ?_
      refine lv_lload (pc := 45) E.1 E.2.1 dX1_putRate_45 (lv_at hl 1 rfl) ?_
      refine lv_aload_n (pc := 47) E.1 E.2.1 dX1_putRate_47 rfl (lv_at hl 3 rfl) ?_
      refine xg_X1_21 (pc := 48) (v := .ref (ad 4)) E hw 0 rfl rfl dX1_putRate_48 ?_
      refine lv_iload_n (pc := 51) E.1 E.2.1 dX1_putRate_51 rfl (lv_at hl 4 rfl) ?_
      obtain ⟨v16, g15, hf⟩ := x_bind hf
      refine x_iald (pc := 52) E hw 4 rfl g15 dX1_putRate_52 ?_
      refine lv_i2l (v := (Int32.toInt64 v16)) (pc := 53) E.1 E.2.1 dX1_putRate_53 rfl ?_
      refine lv_lmul (pc := 54) E.1 E.2.1 dX1_putRate_54 ?_
      refine lv_aload_n (pc := 55) E.1 E.2.1 dX1_putRate_55 rfl (lv_at hl 2 rfl) ?_
      refine xg_X1_168 (pc := 56) (v := .long (g5_lower (g4_base (g1_poolA s)))) E hw 8 rfl rfl dX1_putRate_56 ?_
      refine lv_lmul (pc := 59) E.1 E.2.1 dX1_putRate_59 ?_
      refine lv_ldc2 (v := 1000) (pc := 60) E.1 E.2.1 E.2.2.2.1 (E.2.2.2.2.1 _ wq_970) dX1_putRate_60 ?_
      refine lv_lload (pc := 63) E.1 E.2.1 dX1_putRate_63 (lv_at hl 1 rfl) ?_
      refine lv_lsub (pc := 65) E.1 E.2.1 dX1_putRate_65 ?_
      refine lv_aload_n (pc := 66) E.1 E.2.1 dX1_putRate_66 rfl (lv_at hl 2 rfl) ?_
      refine xg_X1_174 (pc := 67) (v := .long (g5_upper (g4_base (g1_poolA s)))) E hw 8 rfl rfl dX1_putRate_67 ?_
      refine lv_lmul (pc := 70) E.1 E.2.1 dX1_putRate_70 ?_
      refine lv_lload (pc := 71) E.1 E.2.1 dX1_putRate_71 (lv_at hl 0 rfl) ?_
      refine lv_lmul (pc := 73) E.1 E.2.1 dX1_putRate_73 ?_
      refine lv_ladd (pc := 74) E.1 E.2.1 dX1_putRate_74 ?_
      refine lv_ldc2 (v := 1000) (pc := 75) E.1 E.2.1 E.2.2.2.1 (E.2.2.2.2.1 _ wq_970) dX1_putRate_75 ?_
      refine lv_lload (pc := 78) E.1 E.2.1 dX1_putRate_78 (lv_at hl 0 rfl) ?_
      refine lv_lmul (pc := 80) E.1 E.2.1 dX1_putRate_80 ?_
      refine lv_aload_n (pc := 81) E.1 E.2.1 dX1_putRate_81 rfl (lv_at hl 2 rfl) ?_
      refine xg_X1_168 (pc := 82) (v := .long (g5_lower (g4_base (g1_poolA s)))) E hw 8 rfl rfl dX1_putRate_82 ?_
      refine lv_lmul (pc := 85) E.1 E.2.1 dX1_putRate_85 ?_
      obtain ⟨v17, g18, hf⟩ := x_bind hf
      refine x_callV (pc := 86) (As := [.long ((((Int32.toInt64 v12) * (Int32.toInt64 v16)) * (g5_lower (g4_base (g1_poolA s)))) + ((((1000 : Int64) - (Int32.toInt64 v12)) * (g5_upper (g4_base (g1_poolA s)))) * (Int32.toInt64 v14))), .long (((1000 : Int64) * (Int32.toInt64 v14)) * (g5_lower (g4_base (g1_poolA s))))]) (rest := []) (st1 := []) (ws' := (cells1 G ad s ++ cells5 G ae v17)) E hw hl (c_X5_put l G ae v1 ((((Int32.toInt64 v12) * (Int32.toInt64 v16)) * (g5_lower (g4_base (g1_poolA s)))) + ((((1000 : Int64) - (Int32.toInt64 v12)) * (g5_upper (g4_base (g1_poolA s)))) * (Int32.toInt64 v14))) (((1000 : Int64) * (Int32.toInt64 v14)) * (g5_lower (g4_base (g1_poolA s)))) g18) xv_X1_155 xd_X5_put rfl rfl ⟨Nat.le_of_ble_eq_true rfl, Nat.le_of_ble_eq_true rfl⟩ [15] [0, 1, 2, 3, 4, 5, 6, 7, 8, 9, 10, 11, 12, 13, 14] (by decide) ⟨rfl, trivial⟩ (q0 := 15) rfl rfl rfl rfl (Nat.le_of_ble_eq_true rfl) (nw := 16) ⟨rfl, trivial⟩ ⟨⟨_, rfl, rfl⟩, ⟨_, rfl, rfl⟩, ⟨_, rfl, rfl⟩, ⟨_, rfl, rfl⟩, ⟨_, rfl, rfl⟩, ⟨_, rfl, rfl⟩, ⟨_, rfl, rfl⟩, ⟨_, rfl, rfl⟩, ⟨_, rfl, rfl⟩, ⟨_, rfl, rfl⟩, ⟨_, rfl, rfl⟩, ⟨_, rfl, rfl⟩, ⟨_, rfl, rfl⟩, ⟨_, rfl, rfl⟩, ⟨_, rfl, rfl⟩, trivial⟩ rfl rfl (by decide) (by decide) rfl dX1_putRate_86 (fun H locs hw => ?_)
      obtain rfl := Option.some.inj hf
      exact x_retv (pc := 89) E hr hk hw dX1_putRate_89
    · have hf := x_neg q10 hf
      by_cases q19 : v8 = 9
      · have hf := x_pos q19 hf
        rw [q19]
        refine xg_X1_165 (pc := 22) (v := .ref (ad 10)) E hw 9 rfl rfl dX1_putRate_22 ?_
        refine lv_astore_n (lv' := [(3, .ref (ad 10)), (0, .ref (ad 0)), (1, .int x1), (2, .ref (ae 0))]) (pc := 25) E.1 E.2.1 dX1_putRate_25 rfl hl (by decide) rfl (fun ls hl => ?_)
        refine lv_aload_n (pc := 26) E.1 E.2.1 dX1_putRate_26 rfl (lv_at hl 1 rfl) ?_
        refine xg_X1_27 (pc := 27) (v := .ref (ad 6)) E hw 0 rfl rfl dX1_putRate_27 ?_
        refine lv_iload_n (pc := 30) E.1 E.2.1 dX1_putRate_30 rfl (lv_at hl 2 rfl) ?_
        obtain ⟨v21, g20, hf⟩ := x_bind hf
        refine x_iald (pc := 31) E hw 6 rfl g20 dX1_putRate_31 ?_
        refine lv_i2l (v := (Int32.toInt64 v21)) (pc := 32) E.1 E.2.1 dX1_putRate_32 rfl ?_
        refine lv_lstore (lv' := [(4, .long (Int32.toInt64 v21)), (3, .ref (ad 10)), (0, .ref (ad 0)), (1, .int x1), (2, .ref (ae 0))]) (pc := 33) E.1 E.2.1 dX1_putRate_33 hl (by decide) rfl (fun ls hl => ?_)
        refine lv_aload_n (pc := 35) E.1 E.2.1 dX1_putRate_35 rfl (lv_at hl 2 rfl) ?_
        refine xg_X1_18 (pc := 36) (v := .ref (ad 3)) E hw 0 rfl rfl dX1_putRate_36 ?_
        refine lv_iload_n (pc := 39) E.1 E.2.1 dX1_putRate_39 rfl (lv_at hl 3 rfl) ?_
        obtain ⟨v23, g22, hf⟩ := x_bind hf
        refine x_iald (pc := 40) E hw 3 rfl g22 dX1_putRate_40 ?_
        refine lv_i2l (v := (Int32.toInt64 v23)) (pc := 41) E.1 E.2.1 dX1_putRate_41 rfl ?_
        refine lv_lstore (lv' := [(6, .long (Int32.toInt64 v23)), (4, .long (Int32.toInt64 v21)), (3, .ref (ad 10)), (0, .ref (ad 0)), (1, .int x1), (2, .ref (ae 0))]) (pc := 42) E.1 E.2.1 dX1_putRate_42 hl (by decide) rfl (fun ls hl => ?_)
        refine lv_aload_n (pc := 44) E.1 E.2.1 dX1_putRate_44 rfl (lv_at hl 5 rfl) ?_
        refine lv_lload (pc := 45) E.1 E.2.1 dX1_putRate_45 (lv_at hl 1 rfl) ?_
        refine lv_aload_n (pc := 47) E.1 E.2.1 dX1_putRate_47 rfl (lv_at hl 3 rfl) ?_
        refine xg_X1_21 (pc := 48) (v := .ref (ad 4)) E hw 0 rfl rfl dX1_putRate_48 ?_
        refine lv_iload_n (pc := 51) E.1 E.2.1 dX1_putRate_51 rfl (lv_at hl 4 rfl) ?_
        obtain ⟨v25, g24, hf⟩ := x_bind hf
        refine x_iald (pc := 52) E hw 4 rfl g24 dX1_putRate_52 ?_
        refine lv_i2l (v := (Int32.toInt64 v25)) (pc := 53) E.1 E.2.1 dX1_putRate_53 rfl ?_
        refine lv_lmul (pc := 54) E.1 E.2.1 dX1_putRate_54 ?_
        refine lv_aload_n (pc := 55) E.1 E.2.1 dX1_putRate_55 rfl (lv_at hl 2 rfl) ?_
        refine xg_X1_168 (pc := 56) (v := .long (g5_lower (g4_base (g1_poolB s)))) E hw 10 rfl rfl dX1_putRate_56 ?_
        refine lv_lmul (pc := 59) E.1 E.2.1 dX1_putRate_59 ?_
        refine lv_ldc2 (v := 1000) (pc := 60) E.1 E.2.1 E.2.2.2.1 (E.2.2.2.2.1 _ wq_970) dX1_putRate_60 ?_
        refine lv_lload (pc := 63) E.1 E.2.1 dX1_putRate_63 (lv_at hl 1 rfl) ?_
        refine lv_lsub (pc := 65) E.1 E.2.1 dX1_putRate_65 ?_
        refine lv_aload_n (pc := 66) E.1 E.2.1 dX1_putRate_66 rfl (lv_at hl 2 rfl) ?_
        refine xg_X1_174 (pc := 67) (v := .long (g5_upper (g4_base (g1_poolB s)))) E hw 10 rfl rfl dX1_putRate_67 ?_
        refine lv_lmul (pc := 70) E.1 E.2.1 dX1_putRate_70 ?_
        refine lv_lload (pc := 71) E.1 E.2.1 dX1_putRate_71 (lv_at hl 0 rfl) ?_
        refine lv_lmul (pc := 73) E.1 E.2.1 dX1_putRate_73 ?_
        refine lv_ladd (pc := 74) E.1 E.2.1 dX1_putRate_74 ?_
        refine lv_ldc2 (v := 1000) (pc := 75) E.1 E.2.1 E.2.2.2.1 (E.2.2.2.2.1 _ wq_970) dX1_putRate_75 ?_
        refine lv_lload (pc := 78) E.1 E.2.1 dX1_putRate_78 (lv_at hl 0 rfl) ?_
        refine lv_lmul (pc := 80) E.1 E.2.1 dX1_putRate_80 ?_
        refine lv_aload_n (pc := 81) E.1 E.2.1 dX1_putRate_81 rfl (lv_at hl 2 rfl) ?_
        refine xg_X1_168 (pc := 82) (v := .long (g5_lower (g4_base (g1_poolB s)))) E hw 10 rfl rfl dX1_putRate_82 ?_
        refine lv_lmul (pc := 85) E.1 E.2.1 dX1_putRate_85 ?_
        obtain ⟨v26, g27, hf⟩ := x_bind hf
        refine x_callV (pc := 86) (As := [.long ((((Int32.toInt64 v21) * (Int32.toInt64 v25)) * (g5_lower (g4_base (g1_poolB s)))) + ((((1000 : Int64) - (Int32.toInt64 v21)) * (g5_upper (g4_base (g1_poolB s)))) * (Int32.toInt64 v23))), .long (((1000 : Int64) * (Int32.toInt64 v23)) * (g5_lower (g4_base (g1_poolB s))))]) (rest := []) (st1 := []) (ws' := (cells1 G ad s ++ cells5 G ae v26)) E hw hl (c_X5_put l G ae v1 ((((Int32.toInt64 v21) * (Int32.toInt64 v25)) * (g5_lower (g4_base (g1_poolB s)))) + ((((1000 : Int64) - (Int32.toInt64 v21)) * (g5_upper (g4_base (g1_poolB s)))) * (Int32.toInt64 v23))) (((1000 : Int64) * (Int32.toInt64 v23)) * (g5_lower (g4_base (g1_poolB s)))) g27) xv_X1_155 xd_X5_put rfl rfl ⟨Nat.le_of_ble_eq_true rfl, Nat.le_of_ble_eq_true rfl⟩ [15] [0, 1, 2, 3, 4, 5, 6, 7, 8, 9, 10, 11, 12, 13, 14] (by decide) ⟨rfl, trivial⟩ (q0 := 15) rfl rfl rfl rfl (Nat.le_of_ble_eq_true rfl) (nw := 16) ⟨rfl, trivial⟩ ⟨⟨_, rfl, rfl⟩, ⟨_, rfl, rfl⟩, ⟨_, rfl, rfl⟩, ⟨_, rfl, rfl⟩, ⟨_, rfl, rfl⟩, ⟨_, rfl, rfl⟩, ⟨_, rfl, rfl⟩, ⟨_, rfl, rfl⟩, ⟨_, rfl, rfl⟩, ⟨_, rfl, rfl⟩, ⟨_, rfl, rfl⟩, ⟨_, rfl, rfl⟩, ⟨_, rfl, rfl⟩, ⟨_, rfl, rfl⟩, ⟨_, rfl, rfl⟩, trivial⟩ rfl rfl (by decide) (by decide) rfl dX1_putRate_86 (fun H locs hw => ?_)
        obtain rfl := Option.some.inj hf
        exact x_retv (pc := 89) E hr hk hw dX1_putRate_89
      · have hf := x_neg q19 hf
        by_cases q28 : v8 = 11
        · have hf := x_pos q28 hf
          rw [q28]
          refine xg_X1_165 (pc := 22) (v := .ref (ad 12)) E hw 11 rfl rfl dX1_putRate_22 ?_
          refine lv_astore_n (lv' := [(3, .ref (ad 12)), (0, .ref (ad 0)), (1, .int x1), (2, .ref (ae 0))]) (pc := 25) E.1 E.2.1 dX1_putRate_25 rfl hl (by decide) rfl (fun ls hl => ?_)
          refine lv_aload_n (pc := 26) E.1 E.2.1 dX1_putRate_26 rfl (lv_at hl 1 rfl) ?_
          refine xg_X1_27 (pc := 27) (v := .ref (ad 6)) E hw 0 rfl rfl dX1_putRate_27 ?_
          refine lv_iload_n (pc := 30) E.1 E.2.1 dX1_putRate_30 rfl (lv_at hl 2 rfl) ?_
          obtain ⟨v30, g29, hf⟩ := x_bind hf
          refine x_iald (pc := 31) E hw 6 rfl g29 dX1_putRate_31 ?_
          refine lv_i2l (v := (Int32.toInt64 v30)) (pc := 32) E.1 E.2.1 dX1_putRate_32 rfl ?_
          refine lv_lstore (lv' := [(4, .long (Int32.toInt64 v30)), (3, .ref (ad 12)), (0, .ref (ad 0)), (1, .int x1), (2, .ref (ae 0))]) (pc := 33) E.1 E.2.1 dX1_putRate_33 hl (by decide) rfl (fun ls hl => ?_)
          refine lv_aload_n (pc := 35) E.1 E.2.1 dX1_putRate_35 rfl (lv_at hl 2 rfl) ?_
          refine xg_X1_18 (pc := 36) (v := .ref (ad 3)) E hw 0 rfl rfl dX1_putRate_36 ?_
          refine lv_iload_n (pc := 39) E.1 E.2.1 dX1_putRate_39 rfl (lv_at hl 3 rfl) ?_
          obtain ⟨v32, g31, hf⟩ := x_bind hf
          refine x_iald (pc := 40) E hw 3 rfl g31 dX1_putRate_40 ?_
          refine lv_i2l (v := (Int32.toInt64 v32)) (pc := 41) E.1 E.2.1 dX1_putRate_41 rfl ?_
          refine lv_lstore (lv' := [(6, .long (Int32.toInt64 v32)), (4, .long (Int32.toInt64 v30)), (3, .ref (ad 12)), (0, .ref (ad 0)), (1, .int x1), (2, .ref (ae 0))]) (pc := 42) E.1 E.2.1 dX1_putRate_42 hl (by decide) rfl (fun ls hl => ?_)
          refine lv_aload_n (pc := 44) E.1 E.2.1 dX1_putRate_44 rfl (lv_at hl 5 rfl) ?_
          refine lv_lload (pc := 45) E.1 E.2.1 dX1_putRate_45 (lv_at hl 1 rfl) ?_
          refine lv_aload_n (pc := 47) E.1 E.2.1 dX1_putRate_47 rfl (lv_at hl 3 rfl) ?_
          refine xg_X1_21 (pc := 48) (v := .ref (ad 4)) E hw 0 rfl rfl dX1_putRate_48 ?_
          refine lv_iload_n (pc := 51) E.1 E.2.1 dX1_putRate_51 rfl (lv_at hl 4 rfl) ?_
          obtain ⟨v34, g33, hf⟩ := x_bind hf
          refine x_iald (pc := 52) E hw 4 rfl g33 dX1_putRate_52 ?_
          refine lv_i2l (v := (Int32.toInt64 v34)) (pc := 53) E.1 E.2.1 dX1_putRate_53 rfl ?_
          refine lv_lmul (pc := 54) E.1 E.2.1 dX1_putRate_54 ?_
          refine lv_aload_n (pc := 55) E.1 E.2.1 dX1_putRate_55 rfl (lv_at hl 2 rfl) ?_
          refine xg_X1_168 (pc := 56) (v := .long (g5_lower (g4_base (g1_poolC s)))) E hw 12 rfl rfl dX1_putRate_56 ?_
          refine lv_lmul (pc := 59) E.1 E.2.1 dX1_putRate_59 ?_
          refine lv_ldc2 (v := 1000) (pc := 60) E.1 E.2.1 E.2.2.2.1 (E.2.2.2.2.1 _ wq_970) dX1_putRate_60 ?_
          refine lv_lload (pc := 63) E.1 E.2.1 dX1_putRate_63 (lv_at hl 1 rfl) ?_
          refine lv_lsub (pc := 65) E.1 E.2.1 dX1_putRate_65 ?_
          refine lv_aload_n (pc := 66) E.1 E.2.1 dX1_putRate_66 rfl (lv_at hl 2 rfl) ?_
          refine xg_X1_174 (pc := 67) (v := .long (g5_upper (g4_base (g1_poolC s)))) E hw 12 rfl rfl dX1_putRate_67 ?_
          refine lv_lmul (pc := 70) E.1 E.2.1 dX1_putRate_70 ?_
          refine lv_lload (pc := 71) E.1 E.2.1 dX1_putRate_71 (lv_at hl 0 rfl) ?_
          refine lv_lmul (pc := 73) E.1 E.2.1 dX1_putRate_73 ?_
          refine lv_ladd (pc := 74) E.1 E.2.1 dX1_putRate_74 ?_
          refine lv_ldc2 (v := 1000) (pc := 75) E.1 E.2.1 E.2.2.2.1 (E.2.2.2.2.1 _ wq_970) dX1_putRate_75 ?_
          refine lv_lload (pc := 78) E.1 E.2.1 dX1_putRate_78 (lv_at hl 0 rfl) ?_
          refine lv_lmul (pc := 80) E.1 E.2.1 dX1_putRate_80 ?_
          refine lv_aload_n (pc := 81) E.1 E.2.1 dX1_putRate_81 rfl (lv_at hl 2 rfl) ?_
          refine xg_X1_168 (pc := 82) (v := .long (g5_lower (g4_base (g1_poolC s)))) E hw 12 rfl rfl dX1_putRate_82 ?_
          refine lv_lmul (pc := 85) E.1 E.2.1 dX1_putRate_85 ?_
          obtain ⟨v35, g36, hf⟩ := x_bind hf
          refine x_callV (pc := 86) (As := [.long ((((Int32.toInt64 v30) * (Int32.toInt64 v34)) * (g5_lower (g4_base (g1_poolC s)))) + ((((1000 : Int64) - (Int32.toInt64 v30)) * (g5_upper (g4_base (g1_poolC s)))) * (Int32.toInt64 v32))), .long (((1000 : Int64) * (Int32.toInt64 v32)) * (g5_lower (g4_base (g1_poolC s))))]) (rest := []) (st1 := []) (ws' := (cells1 G ad s ++ cells5 G ae v35)) E hw hl (c_X5_put l G ae v1 ((((Int32.toInt64 v30) * (Int32.toInt64 v34)) * (g5_lower (g4_base (g1_poolC s)))) + ((((1000 : Int64) - (Int32.toInt64 v30)) * (g5_upper (g4_base (g1_poolC s)))) * (Int32.toInt64 v32))) (((1000 : Int64) * (Int32.toInt64 v32)) * (g5_lower (g4_base (g1_poolC s)))) g36) xv_X1_155 xd_X5_put rfl rfl ⟨Nat.le_of_ble_eq_true rfl, Nat.le_of_ble_eq_true rfl⟩ [15] [0, 1, 2, 3, 4, 5, 6, 7, 8, 9, 10, 11, 12, 13, 14] (by decide) ⟨rfl, trivial⟩ (q0 := 15) rfl rfl rfl rfl (Nat.le_of_ble_eq_true rfl) (nw := 16) ⟨rfl, trivial⟩ ⟨⟨_, rfl, rfl⟩, ⟨_, rfl, rfl⟩, ⟨_, rfl, rfl⟩, ⟨_, rfl, rfl⟩, ⟨_, rfl, rfl⟩, ⟨_, rfl, rfl⟩, ⟨_, rfl, rfl⟩, ⟨_, rfl, rfl⟩, ⟨_, rfl, rfl⟩, ⟨_, rfl, rfl⟩, ⟨_, rfl, rfl⟩, ⟨_, rfl, rfl⟩, ⟨_, rfl, rfl⟩, ⟨_, rfl, rfl⟩, ⟨_, rfl, rfl⟩, trivial⟩ rfl rfl (by decide) (by decide) rfl dX1_putRate_86 (fun H locs hw => ?_)
          obtain rfl := Option.some.inj hf
          exact x_retv (pc := 89) E hr hk hw dX1_putRate_89
        · have hf := x_neg q28 hf
          cases hf
set_option maxHeartbeats 4000000 in
set_option maxRecDepth 100000 in
theorem c_X1_putRate (l : Launch) (G : xG) (ad : Nat → Nat) (ae : Nat → Nat) (s : S1) (q : S5) (x1 : Int32) {z : S5} (hf : f_X1_putRate s q x1 = some z) : xC l yX1_putRate cX1_putRate 8 none (rm_X1_putRate) G [.ref (ad 0), .int x1, .ref (ae 0)] (cells1 G ad s ++ cells5 G ae q) none (cells1 G ad s ++ cells5 G ae z) :=
  x_met (by decide) rfl (Nat.le_of_ble_eq_true rfl) (fun p e sS m below meth c E hr hk ls hl hw => w_X1_putRate_p0 E hr hk s q x1 z hw hl hf)
set_option maxHeartbeats 4000000 in
set_option maxRecDepth 100000 in
theorem w_X1_putRate_i13_p0 {p : Program} {l : Launch} {e : Env} {sS : State} {m : MethodId} {args : Array Value} {below : List Frame} {meth : Method} {c : Code} {G : xG} {W0 : va_W} {ad : Nat → Nat}   (E : xE p sS m args c cX1_putRate 8 RX1 G (x_in W0)) (hr : meth.sig.returnType = none) (hk : meth.locks = false)  : ∀ (s' : S1) (x1' : Int32) (z : S1) {H : Heap} {locs : List Loc} {ls : Array Slot}, xW G (x_in W0) sS.heap (cells1 G ad s') H locs → lv_has ls 8 [(0, .ref (ad 0)), (1, .int x1'), (2, .ref (ad 13))] → f_X1_putRate_i13  s' x1' = some z → W p l e (rm_X1_putRate_i13) sS m args below meth c H locs 0 0 (MQ below (xQ G W0 (cells1 G ad z) none) args sS 0 0 (x_in W0)) (F0 m 0 ls []) := by
  intro s x1 z H locs ls hw hl hf
  unfold f_X1_putRate_i13 at hf
  refine lv_aload_n (pc := 0) E.1 E.2.1 dX1_putRate_0 rfl (lv_at hl 2 rfl) ?_
  obtain ⟨v1, g2, hf⟩ := x_bind hf
  refine x_callV (pc := 1) (As := []) (rest := []) (st1 := []) (ws' := (cells1c G ad (g1_fleets s) (g1_allSum s) (g1_allSpan s) (g1_classes s) (g1_losses s) (g1_spans s) (g1_sums s) (g1_squares s) (g1_shares s) (g1_poolA s) (g1_poolB s) (g1_poolC s) v1 (g1_second s))) E hw hl (c_X5_putNone l G (fun k => ad (k + 13)) (g1_first s) g2) xv_X1_159 xd_X5_putNone rfl rfl ⟨Nat.le_of_ble_eq_true rfl, Nat.le_of_ble_eq_true rfl⟩ [13] [0, 1, 2, 3, 4, 5, 6, 7, 8, 9, 10, 11, 12, 14] (by decide) ⟨rfl, trivial⟩ (q0 := 13) rfl rfl rfl rfl (Nat.le_of_ble_eq_true rfl) (nw := 15) ⟨rfl, trivial⟩ ⟨⟨_, rfl, rfl⟩, ⟨_, rfl, rfl⟩, ⟨_, rfl, rfl⟩, ⟨_, rfl, rfl⟩, ⟨_, rfl, rfl⟩, ⟨_, rfl, rfl⟩, ⟨_, rfl, rfl⟩, ⟨_, rfl, rfl⟩, ⟨_, rfl, rfl⟩, ⟨_, rfl, rfl⟩, ⟨_, rfl, rfl⟩, ⟨_, rfl, rfl⟩, ⟨_, rfl, rfl⟩, ⟨_, rfl, rfl⟩, trivial⟩ rfl rfl (by decide) (by decide) rfl dX1_putRate_1 (fun H locs hw => ?_)
  refine lv_aload_n (pc := 4) E.1 E.2.1 dX1_putRate_4 rfl (lv_at hl 0 rfl) ?_
  refine lv_iload_n (pc := 5) E.1 E.2.1 dX1_putRate_5 rfl (lv_at hl 1 rfl) ?_
  obtain ⟨v3, g4, hf⟩ := x_bind hf
  refine x_callVA (pc := 6) (As := [.int x1]) (rest := []) (st1 := [.int v3]) (ws' := (cells1c G ad (g1_fleets s) (g1_allSum s) (g1_allSpan s) (g1_classes s) (g1_losses s) (g1_spans s) (g1_sums s) (g1_squares s) (g1_shares s) (g1_poolA s) (g1_poolB s) (g1_poolC s) v1 (g1_second s))) E hw hl (c_X1_isRated l G ad (u1_first s v1) x1 g4) xv_X1_162 xd_X1_isRated rfl rfl ⟨Nat.le_of_ble_eq_true rfl, Nat.le_of_ble_eq_true rfl⟩ (q0 := 0) rfl rfl rfl rfl (Nat.le_of_ble_eq_true rfl) rfl dX1_putRate_6 (fun H locs hw => ?_)
  refine lv_if_eq (tgt := 89) (pc := 9) E.1 E.2.1 dX1_putRate_9 (by decide) (fun q5 => ?_) (fun q5 => ?_)
  · have hf := x_pos q5 hf
    obtain rfl := Option.some.inj hf
    exact x_retv (pc := 89) E hr hk hw dX1_putRate_89
  · have hf := x_neg q5 hf
    refine lv_aload_n (pc := 12) E.1 E.2.1 dX1_putRate_12 rfl (lv_at hl 0 rfl) ?_
    refine lv_aload_n (pc := 13) E.1 E.2.1 dX1_putRate_13 rfl (lv_at hl 0 rfl) ?_
    refine xg_X1_9 (pc := 14) (v := .ref (ad 1)) E hw 0 rfl rfl dX1_putRate_14 ?_
    refine lv_iload_n (pc := 17) E.1 E.2.1 dX1_putRate_17 rfl (lv_at hl 1 rfl) ?_
    obtain ⟨v7, g6, hf⟩ := x_bind hf
    refine x_iald (pc := 18) E hw 1 rfl g6 dX1_putRate_18 ?_
    obtain ⟨v8, g9, hf⟩ := x_bind hf
    refine x_callVA (pc := 19) (As := [.int v7]) (rest := []) (st1 := [.ref (ad v8)]) (ws' := (cells1c G ad (g1_fleets s) (g1_allSum s) (g1_allSpan s) (g1_classes s) (g1_losses s) (g1_spans s) (g1_sums s) (g1_squares s) (g1_shares s) (g1_poolA s) (g1_poolB s) (g1_poolC s) v1 (g1_second s))) E hw hl (c_X1_poolOf l G ad (u1_first s v1) v7 g9) xv_X1_138 xd_X1_poolOf rfl rfl ⟨Nat.le_of_ble_eq_true rfl, Nat.le_of_ble_eq_true rfl⟩ (q0 := 0) rfl rfl rfl rfl (Nat.le_of_ble_eq_true rfl) rfl dX1_putRate_19 (fun H locs hw => ?_)
    by_cases q10 : v8 = 7
    · have hf := x_pos q10 hf
      rw [q10]
      refine xg_X1_165 (pc := 22) (v := .ref (ad 8)) E hw 7 rfl rfl dX1_putRate_22 ?_
      refine lv_astore_n (lv' := [(3, .ref (ad 8)), (0, .ref (ad 0)), (1, .int x1), (2, .ref (ad 13))]) (pc := 25) E.1 E.2.1 dX1_putRate_25 rfl hl (by decide) rfl (fun ls hl => ?_)
      refine lv_aload_n (pc := 26) E.1 E.2.1 dX1_putRate_26 rfl (lv_at hl 1 rfl) ?_
      refine xg_X1_27 (pc := 27) (v := .ref (ad 6)) E hw 0 rfl rfl dX1_putRate_27 ?_
      refine lv_iload_n (pc := 30) E.1 E.2.1 dX1_putRate_30 rfl (lv_at hl 2 rfl) ?_
      obtain ⟨v12, g11, hf⟩ := x_bind hf
      refine x_iald (pc := 31) E hw 6 rfl g11 dX1_putRate_31 ?_
      refine lv_i2l (v := (Int32.toInt64 v12)) (pc := 32) E.1 E.2.1 dX1_putRate_32 rfl ?_
      refine lv_lstore (lv' := [(4, .long (Int32.toInt64 v12)), (3, .ref (ad 8)), (0, .ref (ad 0)), (1, .int x1), (2, .ref (ad 13))]) (pc := 33) E.1 E.2.1 dX1_putRate_33 hl (by decide) rfl (fun ls hl => ?_)
      refine lv_aload_n (pc := 35) E.1 E.2.1 dX1_putRate_35 rfl (lv_at hl 2 rfl) ?_
      refine xg_X1_18 (pc := 36) (v := .ref (ad 3)) E hw 0 rfl rfl dX1_putRate_36 ?_
      refine lv_iload_n (pc := 39) E.1 E.2.1 dX1_putRate_39 rfl (lv_at hl 3 rfl) ?_
      obtain ⟨v14, g13, hf⟩ := x_bind hf
      refine x_iald (pc := 40) E hw 3 rfl g13 dX1_putRate_40 ?_
      refine lv_i2l (v := (Int32.toInt64 v14)) (pc := 41) E.1 E.2.1 dX1_putRate_41 rfl ?_
      refine lv_lstore (lv' := [(6, .long (Int32.toInt64 v14)), (4, .long (Int32.toInt64 v12)), (3, .ref (ad 8)), (0, .ref (ad 0)), (1, .int x1), (2, .ref (ad 13))]) (pc := 42) E.1 E.2.1 dX1_putRate_42 hl (by decide) rfl (fun ls hl => ?_)
      refine lv_aload_n (pc := 44) E.1 E.2.1 dX1_putRate_44 rfl (lv_at hl 5 rfl) ?_
      refine lv_lload (pc := 45) E.1 E.2.1 dX1_putRate_45 (lv_at hl 1 rfl) ?_
      refine lv_aload_n (pc := 47) E.1 E.2.1 dX1_putRate_47 rfl (lv_at hl 3 rfl) ?_
      refine xg_X1_21 (pc := 48) (v := .ref (ad 4)) E hw 0 rfl rfl dX1_putRate_48 ?_
      refine lv_iload_n (pc := 51) E.1 E.2.1 dX1_putRate_51 rfl (lv_at hl 4 rfl) ?_
      obtain ⟨v16, g15, hf⟩ := x_bind hf
      refine x_iald (pc := 52) E hw 4 rfl g15 dX1_putRate_52 ?_
      refine lv_i2l (v := (Int32.toInt64 v16)) (pc := 53) E.1 E.2.1 dX1_putRate_53 rfl ?_
      refine lv_lmul (pc := 54) E.1 E.2.1 dX1_putRate_54 ?_
      refine lv_aload_n (pc := 55) E.1 E.2.1 dX1_putRate_55 rfl (lv_at hl 2 rfl) ?_
      refine xg_X1_168 (pc := 56) (v := .long (g5_lower (g4_base (g1_poolA s)))) E hw 8 rfl rfl dX1_putRate_56 ?_
      refine lv_lmul (pc := 59) E.1 E.2.1 dX1_putRate_59 ?_
      refine lv_ldc2 (v := 1000) (pc := 60) E.1 E.2.1 E.2.2.2.1 (E.2.2.2.2.1 _ wq_970) dX1_putRate_60 ?_
      refine lv_lload (pc := 63) E.1 E.2.1 dX1_putRate_63 (lv_at hl 1 rfl) ?_
      refine lv_lsub (pc := 65) E.1 E.2.1 dX1_putRate_65 ?_
      refine lv_aload_n (pc := 66) E.1 E.2.1 dX1_putRate_66 rfl (lv_at hl 2 rfl) ?_
      refine xg_X1_174 (pc := 67) (v := .long (g5_upper (g4_base (g1_poolA s)))) E hw 8 rfl rfl dX1_putRate_67 ?_
      refine lv_lmul (pc := 70) E.1 E.2.1 dX1_putRate_70 ?_
      refine lv_lload (pc := 71) E.1 E.2.1 dX1_putRate_71 (lv_at hl 0 rfl) ?_
      refine lv_lmul (pc := 73) E.1 E.2.1 dX1_putRate_73 ?_
      refine lv_ladd (pc := 74) E.1 E.2.1 dX1_putRate_74 ?_
      refine lv_ldc2 (v := 1000) (pc := 75) E.1 E.2.1 E.2.2.2.1 (E.2.2.2.2.1 _ wq_970) dX1_putRate_75 ?_
      refine lv_lload (pc := 78) E.1 E.2.1 dX1_putRate_78 (lv_at hl 0 rfl) ?_
      refine lv_lmul (pc := 80) E.1 E.2.1 dX1_putRate_80 ?_
      refine lv_aload_n (pc := 81) E.1 E.2.1 dX1_putRate_81 rfl (lv_at hl 2 rfl) ?_
      refine xg_X1_168 (pc := 82) (v := .long (g5_lower (g4_base (g1_poolA s)))) E hw 8 rfl rfl dX1_putRate_82 ?_
      refine lv_lmul (pc := 85) E.1 E.2.1 dX1_putRate_85 ?_
      obtain ⟨v17, g18, hf⟩ := x_bind hf
      refine x_callV (pc := 86) (As := [.long ((((Int32.toInt64 v12) * (Int32.toInt64 v16)) * (g5_lower (g4_base (g1_poolA s)))) + ((((1000 : Int64) - (Int32.toInt64 v12)) * (g5_upper (g4_base (g1_poolA s)))) * (Int32.toInt64 v14))), .long (((1000 : Int64) * (Int32.toInt64 v14)) * (g5_lower (g4_base (g1_poolA s))))]) (rest := []) (st1 := []) (ws' := (cells1c G ad (g1_fleets s) (g1_allSum s) (g1_allSpan s) (g1_classes s) (g1_losses s) (g1_spans s) (g1_sums s) (g1_squares s) (g1_shares s) (g1_poolA s) (g1_poolB s) (g1_poolC s) v17 (g1_second s))) E hw hl (c_X5_put l G (fun k => ad (k + 13)) v1 ((((Int32.toInt64 v12) * (Int32.toInt64 v16)) * (g5_lower (g4_base (g1_poolA s)))) + ((((1000 : Int64) - (Int32.toInt64 v12)) * (g5_upper (g4_base (g1_poolA s)))) * (Int32.toInt64 v14))) (((1000 : Int64) * (Int32.toInt64 v14)) * (g5_lower (g4_base (g1_poolA s)))) g18) xv_X1_155 xd_X5_put rfl rfl ⟨Nat.le_of_ble_eq_true rfl, Nat.le_of_ble_eq_true rfl⟩ [13] [0, 1, 2, 3, 4, 5, 6, 7, 8, 9, 10, 11, 12, 14] (by decide) ⟨rfl, trivial⟩ (q0 := 13) rfl rfl rfl rfl (Nat.le_of_ble_eq_true rfl) (nw := 15) ⟨rfl, trivial⟩ ⟨⟨_, rfl, rfl⟩, ⟨_, rfl, rfl⟩, ⟨_, rfl, rfl⟩, ⟨_, rfl, rfl⟩, ⟨_, rfl, rfl⟩, ⟨_, rfl, rfl⟩, ⟨_, rfl, rfl⟩, ⟨_, rfl, rfl⟩, ⟨_, rfl, rfl⟩, ⟨_, rfl, rfl⟩, ⟨_, rfl, rfl⟩, ⟨_, rfl, rfl⟩, ⟨_, rfl, rfl⟩, ⟨_, rfl, rfl⟩, trivial⟩ rfl rfl (by decide) (by decide) rfl dX1_putRate_86 (fun H locs hw => ?_)
      obtain rfl := Option.some.inj hf
      exact x_retv (pc := 89) E hr hk hw dX1_putRate_89
    · have hf := x_neg q10 hf
      by_cases q19 : v8 = 9
      · have hf := x_pos q19 hf
        rw [q19]
        refine xg_X1_165 (pc := 22) (v := .ref (ad 10)) E hw 9 rfl rfl dX1_putRate_22 ?_
        refine lv_astore_n (lv' := [(3, .ref (ad 10)), (0, .ref (ad 0)), (1, .int x1), (2, .ref (ad 13))]) (pc := 25) E.1 E.2.1 dX1_putRate_25 rfl hl (by decide) rfl (fun ls hl => ?_)
        refine lv_aload_n (pc := 26) E.1 E.2.1 dX1_putRate_26 rfl (lv_at hl 1 rfl) ?_
        refine xg_X1_27 (pc := 27) (v := .ref (ad 6)) E hw 0 rfl rfl dX1_putRate_27 ?_
        refine lv_iload_n (pc := 30) E.1 E.2.1 dX1_putRate_30 rfl (lv_at hl 2 rfl) ?_
        obtain ⟨v21, g20, hf⟩ := x_bind hf
        refine x_iald (pc := 31) E hw 6 rfl g20 dX1_putRate_31 ?_
        refine lv_i2l (v := (Int32.toInt64 v21)) (pc := 32) E.1 E.2.1 dX1_putRate_32 rfl ?_
        refine lv_lstore (lv' := [(4, .long (Int32.toInt64 v21)), (3, .ref (ad 10)), (0, .ref (ad 0)), (1, .int x1), (2, .ref (ad 13))]) (pc := 33) E.1 E.2.1 dX1_putRate_33 hl (by decide) rfl (fun ls hl => ?_)
        refine lv_aload_n (pc := 35) E.1 E.2.1 dX1_putRate_35 rfl (lv_at hl 2 rfl) ?_
        refine xg_X1_18 (pc := 36) (v := .ref (ad 3)) E hw 0 rfl rfl dX1_putRate_36 ?_
        refine lv_iload_n (pc := 39) E.1 E.2.1 dX1_putRate_39 rfl (lv_at hl 3 rfl) ?_
        obtain ⟨v23, g22, hf⟩ := x_bind hf
        refine x_iald (pc := 40) E hw 3 rfl g22 dX1_putRate_40 ?_
        refine lv_i2l (v := (Int32.toInt64 v23)) (pc := 41) E.1 E.2.1 dX1_putRate_41 rfl ?_
        refine lv_lstore (lv' := [(6, .long (Int32.toInt64 v23)), (4, .long (Int32.toInt64 v21)), (3, .ref (ad 10)), (0, .ref (ad 0)), (1, .int x1), (2, .ref (ad 13))]) (pc := 42) E.1 E.2.1 dX1_putRate_42 hl (by decide) rfl (fun ls hl => ?_)
        refine lv_aload_n (pc := 44) E.1 E.2.1 dX1_putRate_44 rfl (lv_at hl 5 rfl) ?_
        refine lv_lload (pc := 45) E.1 E.2.1 dX1_putRate_45 (lv_at hl 1 rfl) ?_
        refine lv_aload_n (pc := 47) E.1 E.2.1 dX1_putRate_47 rfl (lv_at hl 3 rfl) ?_
        refine xg_X1_21 (pc := 48) (v := .ref (ad 4)) E hw 0 rfl rfl dX1_putRate_48 ?_
        refine lv_iload_n (pc := 51) E.1 E.2.1 dX1_putRate_51 rfl (lv_at hl 4 rfl) ?_
        obtain ⟨v25, g24, hf⟩ := x_bind hf
        refine x_iald (pc := 52) E hw 4 rfl g24 dX1_putRate_52 ?_
        refine lv_i2l (v := (Int32.toInt64 v25)) (pc := 53) E.1 E.2.1 dX1_putRate_53 rfl ?_
        refine lv_lmul (pc := 54) E.1 E.2.1 dX1_putRate_54 ?_
        refine lv_aload_n (pc := 55) E.1 E.2.1 dX1_putRate_55 rfl (lv_at hl 2 rfl) ?_
        refine xg_X1_168 (pc := 56) (v := .long (g5_lower (g4_base (g1_poolB s)))) E hw 10 rfl rfl dX1_putRate_56 ?_
        refine lv_lmul (pc := 59) E.1 E.2.1 dX1_putRate_59 ?_
        refine lv_ldc2 (v := 1000) (pc := 60) E.1 E.2.1 E.2.2.2.1 (E.2.2.2.2.1 _ wq_970) dX1_putRate_60 ?_
        refine lv_lload (pc := 63) E.1 E.2.1 dX1_putRate_63 (lv_at hl 1 rfl) ?_
        refine lv_lsub (pc := 65) E.1 E.2.1 dX1_putRate_65 ?_
        refine lv_aload_n (pc := 66) E.1 E.2.1 dX1_putRate_66 rfl (lv_at hl 2 rfl) ?_
        refine xg_X1_174 (pc := 67) (v := .long (g5_upper (g4_base (g1_poolB s)))) E hw 10 rfl rfl dX1_putRate_67 ?_
        refine lv_lmul (pc := 70) E.1 E.2.1 dX1_putRate_70 ?_
        refine lv_lload (pc := 71) E.1 E.2.1 dX1_putRate_71 (lv_at hl 0 rfl) ?_
        refine lv_lmul (pc := 73) E.1 E.2.1 dX1_putRate_73 ?_
        refine lv_ladd (pc := 74) E.1 E.2.1 dX1_putRate_74 ?_
        refine lv_ldc2 (v := 1000) (pc := 75) E.1 E.2.1 E.2.2.2.1 (E.2.2.2.2.1 _ wq_970) dX1_putRate_75 ?_
        refine lv_lload (pc := 78) E.1 E.2.1 dX1_putRate_78 (lv_at hl 0 rfl) ?_
        refine lv_lmul (pc := 80) E.1 E.2.1 dX1_putRate_80 ?_
        refine lv_aload_n (pc := 81) E.1 E.2.1 dX1_putRate_81 rfl (lv_at hl 2 rfl) ?_
        refine xg_X1_168 (pc := 82) (v := .long (g5_lower (g4_base (g1_poolB s)))) E hw 10 rfl rfl dX1_putRate_82 ?_
        refine lv_lmul (pc := 85) E.1 E.2.1 dX1_putRate_85 ?_
        obtain ⟨v26, g27, hf⟩ := x_bind hf
        refine x_callV (pc := 86) (As := [.long ((((Int32.toInt64 v21) * (Int32.toInt64 v25)) * (g5_lower (g4_base (g1_poolB s)))) + ((((1000 : Int64) - (Int32.toInt64 v21)) * (g5_upper (g4_base (g1_poolB s)))) * (Int32.toInt64 v23))), .long (((1000 : Int64) * (Int32.toInt64 v23)) * (g5_lower (g4_base (g1_poolB s))))]) (rest := []) (st1 := []) (ws' := (cells1c G ad (g1_fleets s) (g1_allSum s) (g1_allSpan s) (g1_classes s) (g1_losses s) (g1_spans s) (g1_sums s) (g1_squares s) (g1_shares s) (g1_poolA s) (g1_poolB s) (g1_poolC s) v26 (g1_second s))) E hw hl (c_X5_put l G (fun k => ad (k + 13)) v1 ((((Int32.toInt64 v21) * (Int32.toInt64 v25)) * (g5_lower (g4_base (g1_poolB s)))) + ((((1000 : Int64) - (Int32.toInt64 v21)) * (g5_upper (g4_base (g1_poolB s)))) * (Int32.toInt64 v23))) (((1000 : Int64) * (Int32.toInt64 v23)) * (g5_lower (g4_base (g1_poolB s)))) g27) xv_X1_155 xd_X5_put rfl rfl ⟨Nat.le_of_ble_eq_true rfl, Nat.le_of_ble_eq_true rfl⟩ [13] [0, 1, 2, 3, 4, 5, 6, 7, 8, 9, 10, 11, 12, 14] (by decide) ⟨rfl, trivial⟩ (q0 := 13) rfl rfl rfl rfl (Nat.le_of_ble_eq_true rfl) (nw := 15) ⟨rfl, trivial⟩ ⟨⟨_, rfl, rfl⟩, ⟨_, rfl, rfl⟩, ⟨_, rfl, rfl⟩, ⟨_, rfl, rfl⟩, ⟨_, rfl, rfl⟩, ⟨_, rfl, rfl⟩, ⟨_, rfl, rfl⟩, ⟨_, rfl, rfl⟩, ⟨_, rfl, rfl⟩, ⟨_, rfl, rfl⟩, ⟨_, rfl, rfl⟩, ⟨_, rfl, rfl⟩, ⟨_, rfl, rfl⟩, ⟨_, rfl, rfl⟩, trivial⟩ rfl rfl (by decide) (by decide) rfl dX1_putRate_86 (fun H locs hw => ?_)
        obtain rfl := Option.some.inj hf
        exact x_retv (pc := 89) E hr hk hw dX1_putRate_89
      · have hf := x_neg q19 hf
        by_cases q28 : v8 = 11
        · have hf := x_pos q28 hf
          rw [q28]
          refine xg_X1_165 (pc := 22) (v := .ref (ad 12)) E hw 11 rfl rfl dX1_putRate_22 ?_
          refine lv_astore_n (lv' := [(3, .ref (ad 12)), (0, .ref (ad 0)), (1, .int x1), (2, .ref (ad 13))]) (pc := 25) E.1 E.2.1 dX1_putRate_25 rfl hl (by decide) rfl (fun ls hl => ?_)
          refine lv_aload_n (pc := 26) E.1 E.2.1 dX1_putRate_26 rfl (lv_at hl 1 rfl) ?_
          refine xg_X1_27 (pc := 27) (v := .ref (ad 6)) E hw 0 rfl rfl dX1_putRate_27 ?_
          refine lv_iload_n (pc := 30) E.1 E.2.1 dX1_putRate_30 rfl (lv_at hl 2 rfl) ?_
          obtain ⟨v30, g29, hf⟩ := x_bind hf
          refine x_iald (pc := 31) E hw 6 rfl g29 dX1_putRate_31 ?_
          refine lv_i2l (v := (Int32.toInt64 v30)) (pc := 32) E.1 E.2.1 dX1_putRate_32 rfl ?_
          refine lv_lstore (lv' := [(4, .long (Int32.toInt64 v30)), (3, .ref (ad 12)), (0, .ref (ad 0)), (1, .int x1), (2, .ref (ad 13))]) (pc := 33) E.1 E.2.1 dX1_putRate_33 hl (by decide) rfl (fun ls hl => ?_)
          refine lv_aload_n (pc := 35) E.1 E.2.1 dX1_putRate_35 rfl (lv_at hl 2 rfl) ?_
          refine xg_X1_18 (pc := 36) (v := .ref (ad 3)) E hw 0 rfl rfl dX1_putRate_36 ?_
          refine lv_iload_n (pc := 39) E.1 E.2.1 dX1_putRate_39 rfl (lv_at hl 3 rfl) ?_
          obtain ⟨v32, g31, hf⟩ := x_bind hf
          refine x_iald (pc := 40) E hw 3 rfl g31 dX1_putRate_40 ?_
          refine lv_i2l (v := (Int32.toInt64 v32)) (pc := 41) E.1 E.2.1 dX1_putRate_41 rfl ?_
          refine lv_lstore (lv' := [(6, .long (Int32.toInt64 v32)), (4, .long (Int32.toInt64 v30)), (3, .ref (ad 12)), (0, .ref (ad 0)), (1, .int x1), (2, .ref (ad 13))]) (pc := 42) E.1 E.2.1 dX1_putRate_42 hl (by decide) rfl (fun ls hl => ?_)
          refine lv_aload_n (pc := 44) E.1 E.2.1 dX1_putRate_44 rfl (lv_at hl 5 rfl) ?_
          refine lv_lload (pc := 45) E.1 E.2.1 dX1_putRate_45 (lv_at hl 1 rfl) ?_
          refine lv_aload_n (pc := 47) E.1 E.2.1 dX1_putRate_47 rfl (lv_at hl 3 rfl) ?_
          refine xg_X1_21 (pc := 48) (v := .ref (ad 4)) E hw 0 rfl rfl dX1_putRate_48 ?_
          refine lv_iload_n (pc := 51) E.1 E.2.1 dX1_putRate_51 rfl (lv_at hl 4 rfl) ?_
          obtain ⟨v34, g33, hf⟩ := x_bind hf
          refine x_iald (pc := 52) E hw 4 rfl g33 dX1_putRate_52 ?_
          refine lv_i2l (v := (Int32.toInt64 v34)) (pc := 53) E.1 E.2.1 dX1_putRate_53 rfl ?_
          refine lv_lmul (pc := 54) E.1 E.2.1 dX1_putRate_54 ?_
          refine lv_aload_n (pc := 55) E.1 E.2.1 dX1_putRate_55 rfl (lv_at hl 2 rfl) ?_
          refine xg_X1_168 (pc := 56) (v := .long (g5_lower (g4_base (g1_poolC s)))) E hw 12 rfl rfl dX1_putRate_56 ?_
          refine lv_lmul (pc := 59) E.1 E.2.1 dX1_putRate_59 ?_
          refine lv_ldc2 (v := 1000) (pc := 60) E.1 E.2.1 E.2.2.2.1 (E.2.2.2.2.1 _ wq_970) dX1_putRate_60 ?_
          refine lv_lload (pc := 63) E.1 E.2.1 dX1_putRate_63 (lv_at hl 1 rfl) ?_
          refine lv_lsub (pc := 65) E.1 E.2.1 dX1_putRate_65 ?_
          refine lv_aload_n (pc := 66) E.1 E.2.1 dX1_putRate_66 rfl (lv_at hl 2 rfl) ?_
          refine xg_X1_174 (pc := 67) (v := .long (g5_upper (g4_base (g1_poolC s)))) E hw 12 rfl rfl dX1_putRate_67 ?_
          refine lv_lmul (pc := 70) E.1 E.2.1 dX1_putRate_70 ?_
          refine lv_lload (pc := 71) E.1 E.2.1 dX1_putRate_71 (lv_at hl 0 rfl) ?_
          refine lv_lmul (pc := 73) E.1 E.2.1 dX1_putRate_73 ?_
          refine lv_ladd (pc := 74) E.1 E.2.1 dX1_putRate_74 ?_
          refine lv_ldc2 (v := 1000) (pc := 75) E.1 E.2.1 E.2.2.2.1 (E.2.2.2.2.1 _ wq_970) dX1_putRate_75 ?_
          refine lv_lload (pc := 78) E.1 E.2.1 dX1_putRate_78 (lv_at hl 0 rfl) ?_
          refine lv_lmul (pc := 80) E.1 E.2.1 dX1_putRate_80 ?_
          refine lv_aload_n (pc := 81) E.1 E.2.1 dX1_putRate_81 rfl (lv_at hl 2 rfl) ?_
          refine xg_X1_168 (pc := 82) (v := .long (g5_lower (g4_base (g1_poolC s)))) E hw 12 rfl rfl dX1_putRate_82 ?_
          refine lv_lmul (pc := 85) E.1 E.2.1 dX1_putRate_85 ?_
          obtain ⟨v35, g36, hf⟩ := x_bind hf
          refine x_callV (pc := 86) (As := [.long ((((Int32.toInt64 v30) * (Int32.toInt64 v34)) * (g5_lower (g4_base (g1_poolC s)))) + ((((1000 : Int64) - (Int32.toInt64 v30)) * (g5_upper (g4_base (g1_poolC s)))) * (Int32.toInt64 v32))), .long (((1000 : Int64) * (Int32.toInt64 v32)) * (g5_lower (g4_base (g1_poolC s))))]) (rest := []) (st1 := []) (ws' := (cells1c G ad (g1_fleets s) (g1_allSum s) (g1_allSpan s) (g1_classes s) (g1_losses s) (g1_spans s) (g1_sums s) (g1_squares s) (g1_shares s) (g1_poolA s) (g1_poolB s) (g1_poolC s) v35 (g1_second s))) E hw hl (c_X5_put l G (fun k => ad (k + 13)) v1 ((((Int32.toInt64 v30) * (Int32.toInt64 v34)) * (g5_lower (g4_base (g1_poolC s)))) + ((((1000 : Int64) - (Int32.toInt64 v30)) * (g5_upper (g4_base (g1_poolC s)))) * (Int32.toInt64 v32))) (((1000 : Int64) * (Int32.toInt64 v32)) * (g5_lower (g4_base (g1_poolC s)))) g36) xv_X1_155 xd_X5_put rfl rfl ⟨Nat.le_of_ble_eq_true rfl, Nat.le_of_ble_eq_true rfl⟩ [13] [0, 1, 2, 3, 4, 5, 6, 7, 8, 9, 10, 11, 12, 14] (by decide) ⟨rfl, trivial⟩ (q0 := 13) rfl rfl rfl rfl (Nat.le_of_ble_eq_true rfl) (nw := 15) ⟨rfl, trivial⟩ ⟨⟨_, rfl, rfl⟩, ⟨_, rfl, rfl⟩, ⟨_, rfl, rfl⟩, ⟨_, rfl, rfl⟩, ⟨_, rfl, rfl⟩, ⟨_, rfl, rfl⟩, ⟨_, rfl, rfl⟩, ⟨_, rfl, rfl⟩, ⟨_, rfl, rfl⟩, ⟨_, rfl, rfl⟩, ⟨_, rfl, rfl⟩, ⟨_, rfl, rfl⟩, ⟨_, rfl, rfl⟩, ⟨_, rfl, rfl⟩, trivial⟩ rfl rfl (by decide) (by decide) rfl dX1_putRate_86 (fun H locs hw => ?_)
          obtain rfl := Option.some.inj hf
          exact x_retv (pc := 89) E hr hk hw dX1_putRate_89
        · have hf := x_neg q28 hf
          cases hf
set_option maxHeartbeats 4000000 in
set_option maxRecDepth 100000 in
theorem c_X1_putRate_i13 (l : Launch) (G : xG) (ad : Nat → Nat) (s : S1) (x1 : Int32) {z : S1} (hf : f_X1_putRate_i13 s x1 = some z) : xC l yX1_putRate cX1_putRate 8 none (rm_X1_putRate_i13) G [.ref (ad 0), .int x1, .ref (ad 13)] (cells1 G ad s) none (cells1 G ad z) :=
  x_met (by decide) rfl (Nat.le_of_ble_eq_true rfl) (fun p e sS m below meth c E hr hk ls hl hw => w_X1_putRate_i13_p0 E hr hk s x1 z hw hl hf)
set_option maxHeartbeats 4000000 in
set_option maxRecDepth 100000 in
theorem w_X1_rateCut_p0 {p : Program} {l : Launch} {e : Env} {sS : State} {m : MethodId} {args : Array Value} {below : List Frame} {meth : Method} {c : Code} {G : xG} {W0 : va_W} {ad : Nat → Nat}   (E : xE p sS m args c cX1_rateCut 2 RX1 G (x_in W0)) (hr : meth.sig.returnType = (some .int)) (hk : meth.locks = false)  : ∀ (s' : S1) (x1' : Int32) (z : Int32 × S1) {H : Heap} {locs : List Loc} {ls : Array Slot}, xW G (x_in W0) sS.heap (cells1 G ad s') H locs → lv_has ls 2 [(0, .ref (ad 0)), (1, .int x1')] → f_X1_rateCut  s' x1' = some z → W p l e (rm_X1_rateCut) sS m args below meth c H locs 0 0 (MQ below (xQ G W0 (cells1 G ad z.2) (some (.int z.1))) args sS 0 0 (x_in W0)) (F0 m 0 ls []) := by
  intro s x1 z H locs ls hw hl hf
  unfold f_X1_rateCut at hf
  refine lv_aload_n (pc := 0) E.1 E.2.1 dX1_rateCut_0 rfl (lv_at hl 0 rfl) ?_
  refine lv_iload_n (pc := 1) E.1 E.2.1 dX1_rateCut_1 rfl (lv_at hl 1 rfl) ?_
  refine lv_aload_n (pc := 2) E.1 E.2.1 dX1_rateCut_2 rfl (lv_at hl 0 rfl) ?_
  refine xg_X1_46 (pc := 3) (v := .ref (ad 13)) E hw 0 rfl rfl dX1_rateCut_3 ?_
  obtain ⟨v1, g2, hf⟩ := x_bind hf
  refine x_callVA (pc := 6) (As := [.int x1, .ref (ad 13)]) (rest := []) (st1 := []) (ws' := (cells1 G ad v1)) E hw hl (c_X1_putRate_i13 l G ad s x1 g2) xv_X1_177 xd_X1_putRate rfl rfl ⟨Nat.le_of_ble_eq_true rfl, Nat.le_of_ble_eq_true rfl⟩ (q0 := 0) rfl rfl rfl rfl (Nat.le_of_ble_eq_true rfl) rfl dX1_rateCut_6 (fun H locs hw => ?_)
  refine lv_aload_n (pc := 9) E.1 E.2.1 dX1_rateCut_9 rfl (lv_at hl 0 rfl) ?_
  refine xg_X1_46 (pc := 10) (v := .ref (ad 13)) E hw 0 rfl rfl dX1_rateCut_10 ?_
  obtain ⟨v3, g4, hf⟩ := x_bind hf
  refine x_callV (pc := 13) (As := []) (rest := []) (st1 := [.int v3]) (ws' := (cells1 G ad v1)) E hw hl (c_X5_inThousandths l G (fun k => ad (k + 13)) (g1_first v1) g4) xv_X1_180 xd_X5_inThousandths rfl rfl ⟨Nat.le_of_ble_eq_true rfl, Nat.le_of_ble_eq_true rfl⟩ [13] [0, 1, 2, 3, 4, 5, 6, 7, 8, 9, 10, 11, 12, 14] (by decide) ⟨rfl, trivial⟩ (q0 := 13) rfl rfl rfl rfl (Nat.le_of_ble_eq_true rfl) (nw := 15) ⟨rfl, trivial⟩ ⟨⟨_, rfl, rfl⟩, ⟨_, rfl, rfl⟩, ⟨_, rfl, rfl⟩, ⟨_, rfl, rfl⟩, ⟨_, rfl, rfl⟩, ⟨_, rfl, rfl⟩, ⟨_, rfl, rfl⟩, ⟨_, rfl, rfl⟩, ⟨_, rfl, rfl⟩, ⟨_, rfl, rfl⟩, ⟨_, rfl, rfl⟩, ⟨_, rfl, rfl⟩, ⟨_, rfl, rfl⟩, ⟨_, rfl, rfl⟩, trivial⟩ rfl rfl (by decide) (by decide) rfl dX1_rateCut_13 (fun H locs hw => ?_)
  obtain rfl := Option.some.inj hf
  exact x_reti (pc := 16) E hr hk hw dX1_rateCut_16
set_option maxHeartbeats 4000000 in
set_option maxRecDepth 100000 in
theorem c_X1_rateCut (l : Launch) (G : xG) (ad : Nat → Nat) (s : S1) (x1 : Int32) {z : Int32 × S1} (hf : f_X1_rateCut s x1 = some z) : xC l yX1_rateCut cX1_rateCut 2 (some .int) (rm_X1_rateCut) G [.ref (ad 0), .int x1] (cells1 G ad s) (some (.int z.1)) (cells1 G ad z.2) :=
  x_met (by decide) rfl (Nat.le_of_ble_eq_true rfl) (fun p e sS m below meth c E hr hk ls hl hw => w_X1_rateCut_p0 E hr hk s x1 z hw hl hf)
set_option maxHeartbeats 4000000 in
set_option maxRecDepth 100000 in
theorem w_X1_putRate_i14_p0 {p : Program} {l : Launch} {e : Env} {sS : State} {m : MethodId} {args : Array Value} {below : List Frame} {meth : Method} {c : Code} {G : xG} {W0 : va_W} {ad : Nat → Nat}   (E : xE p sS m args c cX1_putRate 8 RX1 G (x_in W0)) (hr : meth.sig.returnType = none) (hk : meth.locks = false)  : ∀ (s' : S1) (x1' : Int32) (z : S1) {H : Heap} {locs : List Loc} {ls : Array Slot}, xW G (x_in W0) sS.heap (cells1 G ad s') H locs → lv_has ls 8 [(0, .ref (ad 0)), (1, .int x1'), (2, .ref (ad 14))] → f_X1_putRate_i14  s' x1' = some z → W p l e (rm_X1_putRate_i14) sS m args below meth c H locs 0 0 (MQ below (xQ G W0 (cells1 G ad z) none) args sS 0 0 (x_in W0)) (F0 m 0 ls []) := by
  intro s x1 z H locs ls hw hl hf
  unfold f_X1_putRate_i14 at hf
  refine lv_aload_n (pc := 0) E.1 E.2.1 dX1_putRate_0 rfl (lv_at hl 2 rfl) ?_
  obtain ⟨v1, g2, hf⟩ := x_bind hf
  refine x_callV (pc := 1) (As := []) (rest := []) (st1 := []) (ws' := (cells1c G ad (g1_fleets s) (g1_allSum s) (g1_allSpan s) (g1_classes s) (g1_losses s) (g1_spans s) (g1_sums s) (g1_squares s) (g1_shares s) (g1_poolA s) (g1_poolB s) (g1_poolC s) (g1_first s) v1)) E hw hl (c_X5_putNone l G (fun k => ad (k + 14)) (g1_second s) g2) xv_X1_159 xd_X5_putNone rfl rfl ⟨Nat.le_of_ble_eq_true rfl, Nat.le_of_ble_eq_true rfl⟩ [14] [0, 1, 2, 3, 4, 5, 6, 7, 8, 9, 10, 11, 12, 13] (by decide) ⟨rfl, trivial⟩ (q0 := 14) rfl rfl rfl rfl (Nat.le_of_ble_eq_true rfl) (nw := 15) ⟨rfl, trivial⟩ ⟨⟨_, rfl, rfl⟩, ⟨_, rfl, rfl⟩, ⟨_, rfl, rfl⟩, ⟨_, rfl, rfl⟩, ⟨_, rfl, rfl⟩, ⟨_, rfl, rfl⟩, ⟨_, rfl, rfl⟩, ⟨_, rfl, rfl⟩, ⟨_, rfl, rfl⟩, ⟨_, rfl, rfl⟩, ⟨_, rfl, rfl⟩, ⟨_, rfl, rfl⟩, ⟨_, rfl, rfl⟩, ⟨_, rfl, rfl⟩, trivial⟩ rfl rfl (by decide) (by decide) rfl dX1_putRate_1 (fun H locs hw => ?_)
  refine lv_aload_n (pc := 4) E.1 E.2.1 dX1_putRate_4 rfl (lv_at hl 0 rfl) ?_
  refine lv_iload_n (pc := 5) E.1 E.2.1 dX1_putRate_5 rfl (lv_at hl 1 rfl) ?_
  obtain ⟨v3, g4, hf⟩ := x_bind hf
  refine x_callVA (pc := 6) (As := [.int x1]) (rest := []) (st1 := [.int v3]) (ws' := (cells1c G ad (g1_fleets s) (g1_allSum s) (g1_allSpan s) (g1_classes s) (g1_losses s) (g1_spans s) (g1_sums s) (g1_squares s) (g1_shares s) (g1_poolA s) (g1_poolB s) (g1_poolC s) (g1_first s) v1)) E hw hl (c_X1_isRated l G ad (u1_second s v1) x1 g4) xv_X1_162 xd_X1_isRated rfl rfl ⟨Nat.le_of_ble_eq_true rfl, Nat.le_of_ble_eq_true rfl⟩ (q0 := 0) rfl rfl rfl rfl (Nat.le_of_ble_eq_true rfl) rfl dX1_putRate_6 (fun H locs hw => ?_)
  refine lv_if_eq (tgt := 89) (pc := 9) E.1 E.2.1 dX1_putRate_9 (by decide) (fun q5 => ?_) (fun q5 => ?_)
  · have hf := x_pos q5 hf
    obtain rfl := Option.some.inj hf
    exact x_retv (pc := 89) E hr hk hw dX1_putRate_89
  · have hf := x_neg q5 hf
    refine lv_aload_n (pc := 12) E.1 E.2.1 dX1_putRate_12 rfl (lv_at hl 0 rfl) ?_
    refine lv_aload_n (pc := 13) E.1 E.2.1 dX1_putRate_13 rfl (lv_at hl 0 rfl) ?_
    refine xg_X1_9 (pc := 14) (v := .ref (ad 1)) E hw 0 rfl rfl dX1_putRate_14 ?_
    refine lv_iload_n (pc := 17) E.1 E.2.1 dX1_putRate_17 rfl (lv_at hl 1 rfl) ?_
    obtain ⟨v7, g6, hf⟩ := x_bind hf
    refine x_iald (pc := 18) E hw 1 rfl g6 dX1_putRate_18 ?_
    obtain ⟨v8, g9, hf⟩ := x_bind hf
    refine x_callVA (pc := 19) (As := [.int v7]) (rest := []) (st1 := [.ref (ad v8)]) (ws' := (cells1c G ad (g1_fleets s) (g1_allSum s) (g1_allSpan s) (g1_classes s) (g1_losses s) (g1_spans s) (g1_sums s) (g1_squares s) (g1_shares s) (g1_poolA s) (g1_poolB s) (g1_poolC s) (g1_first s) v1)) E hw hl (c_X1_poolOf l G ad (u1_second s v1) v7 g9) xv_X1_138 xd_X1_poolOf rfl rfl ⟨Nat.le_of_ble_eq_true rfl, Nat.le_of_ble_eq_true rfl⟩ (q0 := 0) rfl rfl rfl rfl (Nat.le_of_ble_eq_true rfl) rfl dX1_putRate_19 (fun H locs hw => ?_)
    by_cases q10 : v8 = 7
    · have hf := x_pos q10 hf
      rw [q10]
      refine xg_X1_165 (pc := 22) (v := .ref (ad 8)) E hw 7 rfl rfl dX1_putRate_22 ?_
      refine lv_astore_n (lv' := [(3, .ref (ad 8)), (0, .ref (ad 0)), (1, .int x1), (2, .ref (ad 14))]) (pc := 25) E.1 E.2.1 dX1_putRate_25 rfl hl (by decide) rfl (fun ls hl => ?_)
      refine lv_aload_n (pc := 26) E.1 E.2.1 dX1_putRate_26 rfl (lv_at hl 1 rfl) ?_
      refine xg_X1_27 (pc := 27) (v := .ref (ad 6)) E hw 0 rfl rfl dX1_putRate_27 ?_
      refine lv_iload_n (pc := 30) E.1 E.2.1 dX1_putRate_30 rfl (lv_at hl 2 rfl) ?_
      obtain ⟨v12, g11, hf⟩ := x_bind hf
      refine x_iald (pc := 31) E hw 6 rfl g11 dX1_putRate_31 ?_
      refine lv_i2l (v := (Int32.toInt64 v12)) (pc := 32) E.1 E.2.1 dX1_putRate_32 rfl ?_
      refine lv_lstore (lv' := [(4, .long (Int32.toInt64 v12)), (3, .ref (ad 8)), (0, .ref (ad 0)), (1, .int x1), (2, .ref (ad 14))]) (pc := 33) E.1 E.2.1 dX1_putRate_33 hl (by decide) rfl (fun ls hl => ?_)
      refine lv_aload_n (pc := 35) E.1 E.2.1 dX1_putRate_35 rfl (lv_at hl 2 rfl) ?_
      refine xg_X1_18 (pc := 36) (v := .ref (ad 3)) E hw 0 rfl rfl dX1_putRate_36 ?_
      refine lv_iload_n (pc := 39) E.1 E.2.1 dX1_putRate_39 rfl (lv_at hl 3 rfl) ?_
      obtain ⟨v14, g13, hf⟩ := x_bind hf
      refine x_iald (pc := 40) E hw 3 rfl g13 dX1_putRate_40 ?_
      refine lv_i2l (v := (Int32.toInt64 v14)) (pc := 41) E.1 E.2.1 dX1_putRate_41 rfl ?_
      refine lv_lstore (lv' := [(6, .long (Int32.toInt64 v14)), (4, .long (Int32.toInt64 v12)), (3, .ref (ad 8)), (0, .ref (ad 0)), (1, .int x1), (2, .ref (ad 14))]) (pc := 42) E.1 E.2.1 dX1_putRate_42 hl (by decide) rfl (fun ls hl => ?_)
      refine lv_aload_n (pc := 44) E.1 E.2.1 dX1_putRate_44 rfl (lv_at hl 5 rfl) ?_
      refine lv_lload (pc := 45) E.1 E.2.1 dX1_putRate_45 (lv_at hl 1 rfl) ?_
      refine lv_aload_n (pc := 47) E.1 E.2.1 dX1_putRate_47 rfl (lv_at hl 3 rfl) ?_
      refine xg_X1_21 (pc := 48) (v := .ref (ad 4)) E hw 0 rfl rfl dX1_putRate_48 ?_
      refine lv_iload_n (pc := 51) E.1 E.2.1 dX1_putRate_51 rfl (lv_at hl 4 rfl) ?_
      obtain ⟨v16, g15, hf⟩ := x_bind hf
      refine x_iald (pc := 52) E hw 4 rfl g15 dX1_putRate_52 ?_
      refine lv_i2l (v := (Int32.toInt64 v16)) (pc := 53) E.1 E.2.1 dX1_putRate_53 rfl ?_
      refine lv_lmul (pc := 54) E.1 E.2.1 dX1_putRate_54 ?_
      refine lv_aload_n (pc := 55) E.1 E.2.1 dX1_putRate_55 rfl (lv_at hl 2 rfl) ?_
      refine xg_X1_168 (pc := 56) (v := .long (g5_lower (g4_base (g1_poolA s)))) E hw 8 rfl rfl dX1_putRate_56 ?_
      refine lv_lmul (pc := 59) E.1 E.2.1 dX1_putRate_59 ?_
      refine lv_ldc2 (v := 1000) (pc := 60) E.1 E.2.1 E.2.2.2.1 (E.2.2.2.2.1 _ wq_970) dX1_putRate_60 ?_
      refine lv_lload (pc := 63) E.1 E.2.1 dX1_putRate_63 (lv_at hl 1 rfl) ?_
      refine lv_lsub (pc := 65) E.1 E.2.1 dX1_putRate_65 ?_
      refine lv_aload_n (pc := 66) E.1 E.2.1 dX1_putRate_66 rfl (lv_at hl 2 rfl) ?_
      refine xg_X1_174 (pc := 67) (v := .long (g5_upper (g4_base (g1_poolA s)))) E hw 8 rfl rfl dX1_putRate_67 ?_
      refine lv_lmul (pc := 70) E.1 E.2.1 dX1_putRate_70 ?_
      refine lv_lload (pc := 71) E.1 E.2.1 dX1_putRate_71 (lv_at hl 0 rfl) ?_
      refine lv_lmul (pc := 73) E.1 E.2.1 dX1_putRate_73 ?_
      refine lv_ladd (pc := 74) E.1 E.2.1 dX1_putRate_74 ?_
      refine lv_ldc2 (v := 1000) (pc := 75) E.1 E.2.1 E.2.2.2.1 (E.2.2.2.2.1 _ wq_970) dX1_putRate_75 ?_
      refine lv_lload (pc := 78) E.1 E.2.1 dX1_putRate_78 (lv_at hl 0 rfl) ?_
      refine lv_lmul (pc := 80) E.1 E.2.1 dX1_putRate_80 ?_
      refine lv_aload_n (pc := 81) E.1 E.2.1 dX1_putRate_81 rfl (lv_at hl 2 rfl) ?_
      refine xg_X1_168 (pc := 82) (v := .long (g5_lower (g4_base (g1_poolA s)))) E hw 8 rfl rfl dX1_putRate_82 ?_
      refine lv_lmul (pc := 85) E.1 E.2.1 dX1_putRate_85 ?_
      obtain ⟨v17, g18, hf⟩ := x_bind hf
      refine x_callV (pc := 86) (As := [.long ((((Int32.toInt64 v12) * (Int32.toInt64 v16)) * (g5_lower (g4_base (g1_poolA s)))) + ((((1000 : Int64) - (Int32.toInt64 v12)) * (g5_upper (g4_base (g1_poolA s)))) * (Int32.toInt64 v14))), .long (((1000 : Int64) * (Int32.toInt64 v14)) * (g5_lower (g4_base (g1_poolA s))))]) (rest := []) (st1 := []) (ws' := (cells1c G ad (g1_fleets s) (g1_allSum s) (g1_allSpan s) (g1_classes s) (g1_losses s) (g1_spans s) (g1_sums s) (g1_squares s) (g1_shares s) (g1_poolA s) (g1_poolB s) (g1_poolC s) (g1_first s) v17)) E hw hl (c_X5_put l G (fun k => ad (k + 14)) v1 ((((Int32.toInt64 v12) * (Int32.toInt64 v16)) * (g5_lower (g4_base (g1_poolA s)))) + ((((1000 : Int64) - (Int32.toInt64 v12)) * (g5_upper (g4_base (g1_poolA s)))) * (Int32.toInt64 v14))) (((1000 : Int64) * (Int32.toInt64 v14)) * (g5_lower (g4_base (g1_poolA s)))) g18) xv_X1_155 xd_X5_put rfl rfl ⟨Nat.le_of_ble_eq_true rfl, Nat.le_of_ble_eq_true rfl⟩ [14] [0, 1, 2, 3, 4, 5, 6, 7, 8, 9, 10, 11, 12, 13] (by decide) ⟨rfl, trivial⟩ (q0 := 14) rfl rfl rfl rfl (Nat.le_of_ble_eq_true rfl) (nw := 15) ⟨rfl, trivial⟩ ⟨⟨_, rfl, rfl⟩, ⟨_, rfl, rfl⟩, ⟨_, rfl, rfl⟩, ⟨_, rfl, rfl⟩, ⟨_, rfl, rfl⟩, ⟨_, rfl, rfl⟩, ⟨_, rfl, rfl⟩, ⟨_, rfl, rfl⟩, ⟨_, rfl, rfl⟩, ⟨_, rfl, rfl⟩, ⟨_, rfl, rfl⟩, ⟨_, rfl, rfl⟩, ⟨_, rfl, rfl⟩, ⟨_, rfl, rfl⟩, trivial⟩ rfl rfl (by decide) (by decide) rfl dX1_putRate_86 (fun H locs hw => ?_)
      obtain rfl := Option.some.inj hf
      exact x_retv (pc := 89) E hr hk hw dX1_putRate_89
    · have hf := x_neg q10 hf
      by_cases q19 : v8 = 9
      · have hf := x_pos q19 hf
        rw [q19]
        refine xg_X1_165 (pc := 22) (v := .ref (ad 10)) E hw 9 rfl rfl dX1_putRate_22 ?_
        refine lv_astore_n (lv' := [(3, .ref (ad 10)), (0, .ref (ad 0)), (1, .int x1), (2, .ref (ad 14))]) (pc := 25) E.1 E.2.1 dX1_putRate_25 rfl hl (by decide) rfl (fun ls hl => ?_)
        refine lv_aload_n (pc := 26) E.1 E.2.1 dX1_putRate_26 rfl (lv_at hl 1 rfl) ?_
        refine xg_X1_27 (pc := 27) (v := .ref (ad 6)) E hw 0 rfl rfl dX1_putRate_27 ?_
        refine lv_iload_n (pc := 30) E.1 E.2.1 dX1_putRate_30 rfl (lv_at hl 2 rfl) ?_
        obtain ⟨v21, g20, hf⟩ := x_bind hf
        refine x_iald (pc := 31) E hw 6 rfl g20 dX1_putRate_31 ?_
        refine lv_i2l (v := (Int32.toInt64 v21)) (pc := 32) E.1 E.2.1 dX1_putRate_32 rfl ?_
        refine lv_lstore (lv' := [(4, .long (Int32.toInt64 v21)), (3, .ref (ad 10)), (0, .ref (ad 0)), (1, .int x1), (2, .ref (ad 14))]) (pc := 33) E.1 E.2.1 dX1_putRate_33 hl (by decide) rfl (fun ls hl => ?_)
        refine lv_aload_n (pc := 35) E.1 E.2.1 dX1_putRate_35 rfl (lv_at hl 2 rfl) ?_
        refine xg_X1_18 (pc := 36) (v := .ref (ad 3)) E hw 0 rfl rfl dX1_putRate_36 ?_
        refine lv_iload_n (pc := 39) E.1 E.2.1 dX1_putRate_39 rfl (lv_at hl 3 rfl) ?_
        obtain ⟨v23, g22, hf⟩ := x_bind hf
        refine x_iald (pc := 40) E hw 3 rfl g22 dX1_putRate_40 ?_
        refine lv_i2l (v := (Int32.toInt64 v23)) (pc := 41) E.1 E.2.1 dX1_putRate_41 rfl ?_
        refine lv_lstore (lv' := [(6, .long (Int32.toInt64 v23)), (4, .long (Int32.toInt64 v21)), (3, .ref (ad 10)), (0, .ref (ad 0)), (1, .int x1), (2, .ref (ad 14))]) (pc := 42) E.1 E.2.1 dX1_putRate_42 hl (by decide) rfl (fun ls hl => ?_)
        refine lv_aload_n (pc := 44) E.1 E.2.1 dX1_putRate_44 rfl (lv_at hl 5 rfl) ?_
        refine lv_lload (pc := 45) E.1 E.2.1 dX1_putRate_45 (lv_at hl 1 rfl) ?_
        refine lv_aload_n (pc := 47) E.1 E.2.1 dX1_putRate_47 rfl (lv_at hl 3 rfl) ?_
        refine xg_X1_21 (pc := 48) (v := .ref (ad 4)) E hw 0 rfl rfl dX1_putRate_48 ?_
        refine lv_iload_n (pc := 51) E.1 E.2.1 dX1_putRate_51 rfl (lv_at hl 4 rfl) ?_
        obtain ⟨v25, g24, hf⟩ := x_bind hf
        refine x_iald (pc := 52) E hw 4 rfl g24 dX1_putRate_52 ?_
        refine lv_i2l (v := (Int32.toInt64 v25)) (pc := 53) E.1 E.2.1 dX1_putRate_53 rfl ?_
        refine lv_lmul (pc := 54) E.1 E.2.1 dX1_putRate_54 ?_
        refine lv_aload_n (pc := 55) E.1 E.2.1 dX1_putRate_55 rfl (lv_at hl 2 rfl) ?_
        refine xg_X1_168 (pc := 56) (v := .long (g5_lower (g4_base (g1_poolB s)))) E hw 10 rfl rfl dX1_putRate_56 ?_
        refine lv_lmul (pc := 59) E.1 E.2.1 dX1_putRate_59 ?_
        refine lv_ldc2 (v := 1000) (pc := 60) E.1 E.2.1 E.2.2.2.1 (E.2.2.2.2.1 _ wq_970) dX1_putRate_60 ?_
        refine lv_lload (pc := 63) E.1 E.2.1 dX1_putRate_63 (lv_at hl 1 rfl) ?_
        refine lv_lsub (pc := 65) E.1 E.2.1 dX1_putRate_65 ?_
        refine lv_aload_n (pc := 66) E.1 E.2.1 dX1_putRate_66 rfl (lv_at hl 2 rfl) ?_
        refine xg_X1_174 (pc := 67) (v := .long (g5_upper (g4_base (g1_poolB s)))) E hw 10 rfl rfl dX1_putRate_67 ?_
        refine lv_lmul (pc := 70) E.1 E.2.1 dX1_putRate_70 ?_
        refine lv_lload (pc := 71) E.1 E.2.1 dX1_putRate_71 (lv_at hl 0 rfl) ?_
        refine lv_lmul (pc := 73) E.1 E.2.1 dX1_putRate_73 ?_
        refine lv_ladd (pc := 74) E.1 E.2.1 dX1_putRate_74 ?_
        refine lv_ldc2 (v := 1000) (pc := 75) E.1 E.2.1 E.2.2.2.1 (E.2.2.2.2.1 _ wq_970) dX1_putRate_75 ?_
        refine lv_lload (pc := 78) E.1 E.2.1 dX1_putRate_78 (lv_at hl 0 rfl) ?_
        refine lv_lmul (pc := 80) E.1 E.2.1 dX1_putRate_80 ?_
        refine lv_aload_n (pc := 81) E.1 E.2.1 dX1_putRate_81 rfl (lv_at hl 2 rfl) ?_
        refine xg_X1_168 (pc := 82) (v := .long (g5_lower (g4_base (g1_poolB s)))) E hw 10 rfl rfl dX1_putRate_82 ?_
        refine lv_lmul (pc := 85) E.1 E.2.1 dX1_putRate_85 ?_
        obtain ⟨v26, g27, hf⟩ := x_bind hf
        refine x_callV (pc := 86) (As := [.long ((((Int32.toInt64 v21) * (Int32.toInt64 v25)) * (g5_lower (g4_base (g1_poolB s)))) + ((((1000 : Int64) - (Int32.toInt64 v21)) * (g5_upper (g4_base (g1_poolB s)))) * (Int32.toInt64 v23))), .long (((1000 : Int64) * (Int32.toInt64 v23)) * (g5_lower (g4_base (g1_poolB s))))]) (rest := []) (st1 := []) (ws' := (cells1c G ad (g1_fleets s) (g1_allSum s) (g1_allSpan s) (g1_classes s) (g1_losses s) (g1_spans s) (g1_sums s) (g1_squares s) (g1_shares s) (g1_poolA s) (g1_poolB s) (g1_poolC s) (g1_first s) v26)) E hw hl (c_X5_put l G (fun k => ad (k + 14)) v1 ((((Int32.toInt64 v21) * (Int32.toInt64 v25)) * (g5_lower (g4_base (g1_poolB s)))) + ((((1000 : Int64) - (Int32.toInt64 v21)) * (g5_upper (g4_base (g1_poolB s)))) * (Int32.toInt64 v23))) (((1000 : Int64) * (Int32.toInt64 v23)) * (g5_lower (g4_base (g1_poolB s)))) g27) xv_X1_155 xd_X5_put rfl rfl ⟨Nat.le_of_ble_eq_true rfl, Nat.le_of_ble_eq_true rfl⟩ [14] [0, 1, 2, 3, 4, 5, 6, 7, 8, 9, 10, 11, 12, 13] (by decide) ⟨rfl, trivial⟩ (q0 := 14) rfl rfl rfl rfl (Nat.le_of_ble_eq_true rfl) (nw := 15) ⟨rfl, trivial⟩ ⟨⟨_, rfl, rfl⟩, ⟨_, rfl, rfl⟩, ⟨_, rfl, rfl⟩, ⟨_, rfl, rfl⟩, ⟨_, rfl, rfl⟩, ⟨_, rfl, rfl⟩, ⟨_, rfl, rfl⟩, ⟨_, rfl, rfl⟩, ⟨_, rfl, rfl⟩, ⟨_, rfl, rfl⟩, ⟨_, rfl, rfl⟩, ⟨_, rfl, rfl⟩, ⟨_, rfl, rfl⟩, ⟨_, rfl, rfl⟩, trivial⟩ rfl rfl (by decide) (by decide) rfl dX1_putRate_86 (fun H locs hw => ?_)
        obtain rfl := Option.some.inj hf
        exact x_retv (pc := 89) E hr hk hw dX1_putRate_89
      · have hf := x_neg q19 hf
        by_cases q28 : v8 = 11
        · have hf := x_pos q28 hf
          rw [q28]
          refine xg_X1_165 (pc := 22) (v := .ref (ad 12)) E hw 11 rfl rfl dX1_putRate_22 ?_
          refine lv_astore_n (lv' := [(3, .ref (ad 12)), (0, .ref (ad 0)), (1, .int x1), (2, .ref (ad 14))]) (pc := 25) E.1 E.2.1 dX1_putRate_25 rfl hl (by decide) rfl (fun ls hl => ?_)
          refine lv_aload_n (pc := 26) E.1 E.2.1 dX1_putRate_26 rfl (lv_at hl 1 rfl) ?_
          refine xg_X1_27 (pc := 27) (v := .ref (ad 6)) E hw 0 rfl rfl dX1_putRate_27 ?_
          refine lv_iload_n (pc := 30) E.1 E.2.1 dX1_putRate_30 rfl (lv_at hl 2 rfl) ?_
          obtain ⟨v30, g29, hf⟩ := x_bind hf
          refine x_iald (pc := 31) E hw 6 rfl g29 dX1_putRate_31 ?_
          refine lv_i2l (v := (Int32.toInt64 v30)) (pc := 32) E.1 E.2.1 dX1_putRate_32 rfl ?_
          refine lv_lstore (lv' := [(4, .long (Int32.toInt64 v30)), (3, .ref (ad 12)), (0, .ref (ad 0)), (1, .int x1), (2, .ref (ad 14))]) (pc := 33) E.1 E.2.1 dX1_putRate_33 hl (by decide) rfl (fun ls hl => ?_)
          refine lv_aload_n (pc := 35) E.1 E.2.1 dX1_putRate_35 rfl (lv_at hl 2 rfl) ?_
          refine xg_X1_18 (pc := 36) (v := .ref (ad 3)) E hw 0 rfl rfl dX1_putRate_36 ?_
          refine lv_iload_n (pc := 39) E.1 E.2.1 dX1_putRate_39 rfl (lv_at hl 3 rfl) ?_
          obtain ⟨v32, g31, hf⟩ := x_bind hf
          refine x_iald (pc := 40) E hw 3 rfl g31 dX1_putRate_40 ?_
          refine lv_i2l (v := (Int32.toInt64 v32)) (pc := 41) E.1 E.2.1 dX1_putRate_41 rfl ?_
          refine lv_lstore (lv' := [(6, .long (Int32.toInt64 v32)), (4, .long (Int32.toInt64 v30)), (3, .ref (ad 12)), (0, .ref (ad 0)), (1, .int x1), (2, .ref (ad 14))]) (pc := 42) E.1 E.2.1 dX1_putRate_42 hl (by decide) rfl (fun ls hl => ?_)
          refine lv_aload_n (pc := 44) E.1 E.2.1 dX1_putRate_44 rfl (lv_at hl 5 rfl) ?_
          refine lv_lload (pc := 45) E.1 E.2.1 dX1_putRate_45 (lv_at hl 1 rfl) ?_
          refine lv_aload_n (pc := 47) E.1 E.2.1 dX1_putRate_47 rfl (lv_at hl 3 rfl) ?_
          refine xg_X1_21 (pc := 48) (v := .ref (ad 4)) E hw 0 rfl rfl dX1_putRate_48 ?_
          refine lv_iload_n (pc := 51) E.1 E.2.1 dX1_putRate_51 rfl (lv_at hl 4 rfl) ?_
          obtain ⟨v34, g33, hf⟩ := x_bind hf
          refine x_iald (pc := 52) E hw 4 rfl g33 dX1_putRate_52 ?_
          refine lv_i2l (v := (Int32.toInt64 v34)) (pc := 53) E.1 E.2.1 dX1_putRate_53 rfl ?_
          refine lv_lmul (pc := 54) E.1 E.2.1 dX1_putRate_54 ?_
          refine lv_aload_n (pc := 55) E.1 E.2.1 dX1_putRate_55 rfl (lv_at hl 2 rfl) ?_
          refine xg_X1_168 (pc := 56) (v := .long (g5_lower (g4_base (g1_poolC s)))) E hw 12 rfl rfl dX1_putRate_56 ?_
          refine lv_lmul (pc := 59) E.1 E.2.1 dX1_putRate_59 ?_
          refine lv_ldc2 (v := 1000) (pc := 60) E.1 E.2.1 E.2.2.2.1 (E.2.2.2.2.1 _ wq_970) dX1_putRate_60 ?_
          refine lv_lload (pc := 63) E.1 E.2.1 dX1_putRate_63 (lv_at hl 1 rfl) ?_
          refine lv_lsub (pc := 65) E.1 E.2.1 dX1_putRate_65 ?_
          refine lv_aload_n (pc := 66) E.1 E.2.1 dX1_putRate_66 rfl (lv_at hl 2 rfl) ?_
          refine xg_X1_174 (pc := 67) (v := .long (g5_upper (g4_base (g1_poolC s)))) E hw 12 rfl rfl dX1_putRate_67 ?_
          refine lv_lmul (pc := 70) E.1 E.2.1 dX1_putRate_70 ?_
          refine lv_lload (pc := 71) E.1 E.2.1 dX1_putRate_71 (lv_at hl 0 rfl) ?_
          refine lv_lmul (pc := 73) E.1 E.2.1 dX1_putRate_73 ?_
          refine lv_ladd (pc := 74) E.1 E.2.1 dX1_putRate_74 ?_
          refine lv_ldc2 (v := 1000) (pc := 75) E.1 E.2.1 E.2.2.2.1 (E.2.2.2.2.1 _ wq_970) dX1_putRate_75 ?_
          refine lv_lload (pc := 78) E.1 E.2.1 dX1_putRate_78 (lv_at hl 0 rfl) ?_
          refine lv_lmul (pc := 80) E.1 E.2.1 dX1_putRate_80 ?_
          refine lv_aload_n (pc := 81) E.1 E.2.1 dX1_putRate_81 rfl (lv_at hl 2 rfl) ?_
          refine xg_X1_168 (pc := 82) (v := .long (g5_lower (g4_base (g1_poolC s)))) E hw 12 rfl rfl dX1_putRate_82 ?_
          refine lv_lmul (pc := 85) E.1 E.2.1 dX1_putRate_85 ?_
          obtain ⟨v35, g36, hf⟩ := x_bind hf
          refine x_callV (pc := 86) (As := [.long ((((Int32.toInt64 v30) * (Int32.toInt64 v34)) * (g5_lower (g4_base (g1_poolC s)))) + ((((1000 : Int64) - (Int32.toInt64 v30)) * (g5_upper (g4_base (g1_poolC s)))) * (Int32.toInt64 v32))), .long (((1000 : Int64) * (Int32.toInt64 v32)) * (g5_lower (g4_base (g1_poolC s))))]) (rest := []) (st1 := []) (ws' := (cells1c G ad (g1_fleets s) (g1_allSum s) (g1_allSpan s) (g1_classes s) (g1_losses s) (g1_spans s) (g1_sums s) (g1_squares s) (g1_shares s) (g1_poolA s) (g1_poolB s) (g1_poolC s) (g1_first s) v35)) E hw hl (c_X5_put l G (fun k => ad (k + 14)) v1 ((((Int32.toInt64 v30) * (Int32.toInt64 v34)) * (g5_lower (g4_base (g1_poolC s)))) + ((((1000 : Int64) - (Int32.toInt64 v30)) * (g5_upper (g4_base (g1_poolC s)))) * (Int32.toInt64 v32))) (((1000 : Int64) * (Int32.toInt64 v32)) * (g5_lower (g4_base (g1_poolC s)))) g36) xv_X1_155 xd_X5_put rfl rfl ⟨Nat.le_of_ble_eq_true rfl, Nat.le_of_ble_eq_true rfl⟩ [14] [0, 1, 2, 3, 4, 5, 6, 7, 8, 9, 10, 11, 12, 13] (by decide) ⟨rfl, trivial⟩ (q0 := 14) rfl rfl rfl rfl (Nat.le_of_ble_eq_true rfl) (nw := 15) ⟨rfl, trivial⟩ ⟨⟨_, rfl, rfl⟩, ⟨_, rfl, rfl⟩, ⟨_, rfl, rfl⟩, ⟨_, rfl, rfl⟩, ⟨_, rfl, rfl⟩, ⟨_, rfl, rfl⟩, ⟨_, rfl, rfl⟩, ⟨_, rfl, rfl⟩, ⟨_, rfl, rfl⟩, ⟨_, rfl, rfl⟩, ⟨_, rfl, rfl⟩, ⟨_, rfl, rfl⟩, ⟨_, rfl, rfl⟩, ⟨_, rfl, rfl⟩, trivial⟩ rfl rfl (by decide) (by decide) rfl dX1_putRate_86 (fun H locs hw => ?_)
          obtain rfl := Option.some.inj hf
          exact x_retv (pc := 89) E hr hk hw dX1_putRate_89
        · have hf := x_neg q28 hf
          cases hf
set_option maxHeartbeats 4000000 in
set_option maxRecDepth 100000 in
theorem c_X1_putRate_i14 (l : Launch) (G : xG) (ad : Nat → Nat) (s : S1) (x1 : Int32) {z : S1} (hf : f_X1_putRate_i14 s x1 = some z) : xC l yX1_putRate cX1_putRate 8 none (rm_X1_putRate_i14) G [.ref (ad 0), .int x1, .ref (ad 14)] (cells1 G ad s) none (cells1 G ad z) :=
  x_met (by decide) rfl (Nat.le_of_ble_eq_true rfl) (fun p e sS m below meth c E hr hk ls hl hw => w_X1_putRate_i14_p0 E hr hk s x1 z hw hl hf)
set_option maxHeartbeats 4000000 in
set_option maxRecDepth 100000 in
theorem w_X1_compareRates_p0 {p : Program} {l : Launch} {e : Env} {sS : State} {m : MethodId} {args : Array Value} {below : List Frame} {meth : Method} {c : Code} {G : xG} {W0 : va_W} {ad : Nat → Nat}   (E : xE p sS m args c cX1_compareRates 3 RX1 G (x_in W0)) (hr : meth.sig.returnType = (some .int)) (hk : meth.locks = false)  : ∀ (s' : S1) (x1' : Int32) (x2' : Int32) (z : Int32 × S1) {H : Heap} {locs : List Loc} {ls : Array Slot}, xW G (x_in W0) sS.heap (cells1 G ad s') H locs → lv_has ls 3 [(0, .ref (ad 0)), (1, .int x1'), (2, .int x2')] → f_X1_compareRates  s' x1' x2' = some z → W p l e (rm_X1_compareRates) sS m args below meth c H locs 0 0 (MQ below (xQ G W0 (cells1 G ad z.2) (some (.int z.1))) args sS 0 0 (x_in W0)) (F0 m 0 ls []) := by
  intro s x1 x2 z H locs ls hw hl hf
  unfold f_X1_compareRates at hf
  refine lv_aload_n (pc := 0) E.1 E.2.1 dX1_compareRates_0 rfl (lv_at hl 0 rfl) ?_
  refine lv_iload_n (pc := 1) E.1 E.2.1 dX1_compareRates_1 rfl (lv_at hl 1 rfl) ?_
  refine lv_aload_n (pc := 2) E.1 E.2.1 dX1_compareRates_2 rfl (lv_at hl 0 rfl) ?_
  refine xg_X1_46 (pc := 3) (v := .ref (ad 13)) E hw 0 rfl rfl dX1_compareRates_3 ?_
  obtain ⟨v1, g2, hf⟩ := x_bind hf
  refine x_callVA (pc := 6) (As := [.int x1, .ref (ad 13)]) (rest := []) (st1 := []) (ws' := (cells1 G ad v1)) E hw hl (c_X1_putRate_i13 l G ad s x1 g2) xv_X1_177 xd_X1_putRate rfl rfl ⟨Nat.le_of_ble_eq_true rfl, Nat.le_of_ble_eq_true rfl⟩ (q0 := 0) rfl rfl rfl rfl (Nat.le_of_ble_eq_true rfl) rfl dX1_compareRates_6 (fun H locs hw => ?_)
  refine lv_aload_n (pc := 9) E.1 E.2.1 dX1_compareRates_9 rfl (lv_at hl 0 rfl) ?_
  refine lv_iload_n (pc := 10) E.1 E.2.1 dX1_compareRates_10 rfl (lv_at hl 2 rfl) ?_
  refine lv_aload_n (pc := 11) E.1 E.2.1 dX1_compareRates_11 rfl (lv_at hl 0 rfl) ?_
  refine xg_X1_50 (pc := 12) (v := .ref (ad 14)) E hw 0 rfl rfl dX1_compareRates_12 ?_
  obtain ⟨v3, g4, hf⟩ := x_bind hf
  refine x_callVA (pc := 15) (As := [.int x2, .ref (ad 14)]) (rest := []) (st1 := []) (ws' := (cells1 G ad v3)) E hw hl (c_X1_putRate_i14 l G ad v1 x2 g4) xv_X1_177 xd_X1_putRate rfl rfl ⟨Nat.le_of_ble_eq_true rfl, Nat.le_of_ble_eq_true rfl⟩ (q0 := 0) rfl rfl rfl rfl (Nat.le_of_ble_eq_true rfl) rfl dX1_compareRates_15 (fun H locs hw => ?_)
  refine lv_aload_n (pc := 18) E.1 E.2.1 dX1_compareRates_18 rfl (lv_at hl 0 rfl) ?_
  refine xg_X1_46 (pc := 19) (v := .ref (ad 13)) E hw 0 rfl rfl dX1_compareRates_19 ?_
  refine lv_aload_n (pc := 22) E.1 E.2.1 dX1_compareRates_22 rfl (lv_at hl 0 rfl) ?_
  refine xg_X1_50 (pc := 23) (v := .ref (ad 14)) E hw 0 rfl rfl dX1_compareRates_23 ?_
  obtain ⟨v5, g6, hf⟩ := x_bind hf
  refine x_callV (pc := 26) (As := [.ref (ad 14)]) (rest := []) (st1 := [.int v5]) (ws' := (cells1 G ad v3)) E hw hl (c_X5_compareWith l G (fun k => ad (k + 13)) (fun k => ad (k + 14)) (g1_first v3) (g1_second v3) g6) xv_X1_196 xd_X5_compareWith rfl rfl ⟨Nat.le_of_ble_eq_true rfl, Nat.le_of_ble_eq_true rfl⟩ [13, 14] [0, 1, 2, 3, 4, 5, 6, 7, 8, 9, 10, 11, 12] (by decide) ⟨rfl, rfl, trivial⟩ (q0 := 13) rfl rfl rfl rfl (Nat.le_of_ble_eq_true rfl) (nw := 15) ⟨rfl, rfl, trivial⟩ ⟨⟨_, rfl, rfl⟩, ⟨_, rfl, rfl⟩, ⟨_, rfl, rfl⟩, ⟨_, rfl, rfl⟩, ⟨_, rfl, rfl⟩, ⟨_, rfl, rfl⟩, ⟨_, rfl, rfl⟩, ⟨_, rfl, rfl⟩, ⟨_, rfl, rfl⟩, ⟨_, rfl, rfl⟩, ⟨_, rfl, rfl⟩, ⟨_, rfl, rfl⟩, ⟨_, rfl, rfl⟩, trivial⟩ rfl rfl (by decide) (by decide) rfl dX1_compareRates_26 (fun H locs hw => ?_)
  obtain rfl := Option.some.inj hf
  exact x_reti (pc := 29) E hr hk hw dX1_compareRates_29
set_option maxHeartbeats 4000000 in
set_option maxRecDepth 100000 in
theorem c_X1_compareRates (l : Launch) (G : xG) (ad : Nat → Nat) (s : S1) (x1 : Int32) (x2 : Int32) {z : Int32 × S1} (hf : f_X1_compareRates s x1 x2 = some z) : xC l yX1_compareRates cX1_compareRates 3 (some .int) (rm_X1_compareRates) G [.ref (ad 0), .int x1, .int x2] (cells1 G ad s) (some (.int z.1)) (cells1 G ad z.2) :=
  x_met (by decide) rfl (Nat.le_of_ble_eq_true rfl) (fun p e sS m below meth c E hr hk ls hl hw => w_X1_compareRates_p0 E hr hk s x1 x2 z hw hl hf)
set_option maxHeartbeats 4000000 in
set_option maxRecDepth 100000 in
theorem w_X1_placeOf_p4 {p : Program} {l : Launch} {e : Env} {sS : State} {m : MethodId} {args : Array Value} {below : List Frame} {meth : Method} {c : Code} {G : xG} {W0 : va_W} {ad : Nat → Nat}  {k4 : S1 → Int32 → Int32 → Int32 → Option (Int32 × S1)} (E : xE p sS m args c cX1_placeOf 5 RX1 G (x_in W0)) (hr : meth.sig.returnType = (some .int)) (hk : meth.locks = false) (hk4 : ∀ (s' : S1) (x1' : Int32) (x2' : Int32) (x3' : Int32) (z : Int32 × S1) {H : Heap} {locs : List Loc} {ls : Array Slot}, xW G (x_in W0) sS.heap (cells1 G ad s') H locs → lv_has ls 5 [(0, .ref (ad 0)), (1, .int x1'), (2, .int x2'), (3, .int x3')] → k4  s' x1' x2' x3' = some z → W p l e (rm_X1_placeOf) sS m args below meth c H locs 0 0 (MQ below (xQ G W0 (cells1 G ad z.2) (some (.int z.1))) args sS 0 0 (x_in W0)) (F0 m 4 ls [])) : ∀ (s' : S1) (x1' : Int32) (x2' : Int32) (x3' : Int32) (z : Int32 × S1) {H : Heap} {locs : List Loc} {ls : Array Slot}, xW G (x_in W0) sS.heap (cells1 G ad s') H locs → lv_has ls 5 [(0, .ref (ad 0)), (1, .int x1'), (2, .int x2'), (3, .int x3')] → f_X1_placeOf_p4 k4 s' x1' x2' x3' = some z → W p l e (rm_X1_placeOf) sS m args below meth c H locs 0 0 (MQ below (xQ G W0 (cells1 G ad z.2) (some (.int z.1))) args sS 0 0 (x_in W0)) (F0 m 4 ls []) := by
  intro s x1 x2 x3 z H locs ls hw hl hf
  unfold f_X1_placeOf_p4 at hf
  refine lv_iload_n (pc := 4) E.1 E.2.1 dX1_placeOf_4 rfl (lv_at hl 3 rfl) ?_
  refine lv_aload_n (pc := 5) E.1 E.2.1 dX1_placeOf_5 rfl (lv_at hl 0 rfl) ?_
  refine xg_X1_65 (pc := 6) (v := .int (g1_fleets s)) E hw 0 rfl rfl dX1_placeOf_6 ?_
  refine lv_icmp_ge (tgt := 62) (pc := 9) E.1 E.2.1 dX1_placeOf_9 (by decide) (fun q1 => ?_) (fun q1 => ?_)
  · have hf := x_pos q1 hf
    refine lv_iload_n (pc := 62) E.1 E.2.1 dX1_placeOf_62 rfl (lv_at hl 2 rfl) ?_
    obtain rfl := Option.some.inj hf
    exact x_reti (pc := 63) E hr hk hw dX1_placeOf_63
  · have hf := x_neg q1 hf
    refine lv_iload_n (pc := 12) E.1 E.2.1 dX1_placeOf_12 rfl (lv_at hl 3 rfl) ?_
    refine lv_iload_n (pc := 13) E.1 E.2.1 dX1_placeOf_13 rfl (lv_at hl 1 rfl) ?_
    refine lv_icmp_eq (tgt := 56) (pc := 14) E.1 E.2.1 dX1_placeOf_14 (by decide) (fun q2 => ?_) (fun q2 => ?_)
    · have hf := x_pos q2 hf
      refine lv_iinc (v := (x3 + 1)) (lv' := [(3, .int (x3 + 1)), (0, .ref (ad 0)), (1, .int x1), (2, .int x2)]) (pc := 56) E.1 E.2.1 dX1_placeOf_56 hl (k := 3) rfl rfl (by decide) rfl (fun ls hl => ?_)
      refine lv_goto (tgt := 4) (pc := 59) E.1 E.2.1 dX1_placeOf_59 (by decide) ?_
      exact hk4 s x1 x2 (x3 + 1) z hw (lv_sub hl [1, 2, 3, 0] rfl) hf
    · have hf := x_neg q2 hf
      refine lv_aload_n (pc := 17) E.1 E.2.1 dX1_placeOf_17 rfl (lv_at hl 0 rfl) ?_
      refine lv_iload_n (pc := 18) E.1 E.2.1 dX1_placeOf_18 rfl (lv_at hl 3 rfl) ?_
      obtain ⟨v3, g4, hf⟩ := x_bind hf
      refine x_callVA (pc := 19) (As := [.int x3]) (rest := []) (st1 := [.int v3]) (ws' := (cells1 G ad s)) E hw hl (c_X1_isRated l G ad s x3 g4) xv_X1_162 xd_X1_isRated rfl rfl ⟨Nat.le_of_ble_eq_true rfl, Nat.le_of_ble_eq_true rfl⟩ (q0 := 0) rfl rfl rfl rfl (Nat.le_of_ble_eq_true rfl) rfl dX1_placeOf_19 (fun H locs hw => ?_)
      refine lv_if_eq (tgt := 56) (pc := 22) E.1 E.2.1 dX1_placeOf_22 (by decide) (fun q5 => ?_) (fun q5 => ?_)
      · have hf := x_pos q5 hf
        refine lv_iinc (v := (x3 + 1)) (lv' := [(3, .int (x3 + 1)), (0, .ref (ad 0)), (1, .int x1), (2, .int x2)]) (pc := 56) E.1 E.2.1 dX1_placeOf_56 hl (k := 3) rfl rfl (by decide) rfl (fun ls hl => ?_)
        refine lv_goto (tgt := 4) (pc := 59) E.1 E.2.1 dX1_placeOf_59 (by decide) ?_
        exact hk4 s x1 x2 (x3 + 1) z hw (lv_sub hl [1, 2, 3, 0] rfl) hf
      · have hf := x_neg q5 hf
        refine lv_aload_n (pc := 25) E.1 E.2.1 dX1_placeOf_25 rfl (lv_at hl 0 rfl) ?_
        refine lv_iload_n (pc := 26) E.1 E.2.1 dX1_placeOf_26 rfl (lv_at hl 3 rfl) ?_
        refine lv_iload_n (pc := 27) E.1 E.2.1 dX1_placeOf_27 rfl (lv_at hl 1 rfl) ?_
        obtain ⟨v6, g7, hf⟩ := x_bind hf
        refine x_callVA (pc := 28) (As := [.int x3, .int x1]) (rest := []) (st1 := [.int v6.1]) (ws' := (cells1 G ad v6.2)) E hw hl (c_X1_compareRates l G ad s x3 x1 g7) xv_X1_200 xd_X1_compareRates rfl rfl ⟨Nat.le_of_ble_eq_true rfl, Nat.le_of_ble_eq_true rfl⟩ (q0 := 0) rfl rfl rfl rfl (Nat.le_of_ble_eq_true rfl) rfl dX1_placeOf_28 (fun H locs hw => ?_)
        refine lv_istore (lv' := [(4, .int v6.1), (0, .ref (ad 0)), (1, .int x1), (2, .int x2), (3, .int x3)]) (pc := 31) E.1 E.2.1 dX1_placeOf_31 hl (by decide) rfl (fun ls hl => ?_)
        refine lv_iload_n (pc := 33) E.1 E.2.1 dX1_placeOf_33 rfl (lv_at hl 3 rfl) ?_
        refine lv_iload (pc := 34) E.1 E.2.1 dX1_placeOf_34 (lv_at hl 0 rfl) ?_
        refine lv_if_gt (tgt := 49) (pc := 36) E.1 E.2.1 dX1_placeOf_36 (by decide) (fun q8 => ?_) (fun q8 => ?_)
        · have hf := x_pos q8 hf
          refine lv_iconst (v := 1) (pc := 49) E.1 E.2.1 dX1_placeOf_49 (by decide) ?_
          refine lv_goto (tgt := 54) (pc := 50) E.1 E.2.1 dX1_placeOf_50 (by decide) ?_
          refine lv_iadd (pc := 54) E.1 E.2.1 dX1_placeOf_54 ?_
          refine lv_istore_n (lv' := [(2, .int (x2 + (1 : Int32))), (4, .int v6.1), (0, .ref (ad 0)), (1, .int x1), (3, .int x3)]) (pc := 55) E.1 E.2.1 dX1_placeOf_55 rfl hl (by decide) rfl (fun ls hl => ?_)
          refine lv_iinc (v := (x3 + 1)) (lv' := [(3, .int (x3 + 1)), (2, .int (x2 + (1 : Int32))), (4, .int v6.1), (0, .ref (ad 0)), (1, .int x1)]) (pc := 56) E.1 E.2.1 dX1_placeOf_56 hl (k := 4) rfl rfl (by decide) rfl (fun ls hl => ?_)
          refine lv_goto (tgt := 4) (pc := 59) E.1 E.2.1 dX1_placeOf_59 (by decide) ?_
          exact hk4 v6.2 x1 (x2 + (1 : Int32)) (x3 + 1) z hw (lv_sub hl [3, 4, 1, 0] rfl) hf
        · have hf := x_neg q8 hf
          refine lv_iload (pc := 39) E.1 E.2.1 dX1_placeOf_39 (lv_at hl 0 rfl) ?_
          refine lv_if_ne (tgt := 53) (pc := 41) E.1 E.2.1 dX1_placeOf_41 (by decide) (fun q9 => ?_) (fun q9 => ?_)
          · have hf := x_neg q9 hf
            refine lv_iconst (v := 0) (pc := 53) E.1 E.2.1 dX1_placeOf_53 (by decide) ?_
            refine lv_iadd (pc := 54) E.1 E.2.1 dX1_placeOf_54 ?_
            refine lv_istore_n (lv' := [(2, .int (x2 + (0 : Int32))), (4, .int v6.1), (0, .ref (ad 0)), (1, .int x1), (3, .int x3)]) (pc := 55) E.1 E.2.1 dX1_placeOf_55 rfl hl (by decide) rfl (fun ls hl => ?_)
            refine lv_iinc (v := (x3 + 1)) (lv' := [(3, .int (x3 + 1)), (2, .int (x2 + (0 : Int32))), (4, .int v6.1), (0, .ref (ad 0)), (1, .int x1)]) (pc := 56) E.1 E.2.1 dX1_placeOf_56 hl (k := 4) rfl rfl (by decide) rfl (fun ls hl => ?_)
            refine lv_goto (tgt := 4) (pc := 59) E.1 E.2.1 dX1_placeOf_59 (by decide) ?_
            exact hk4 v6.2 x1 (x2 + (0 : Int32)) (x3 + 1) z hw (lv_sub hl [3, 4, 1, 0] rfl) hf
          · have hf := x_pos q9 hf
            refine lv_iload_n (pc := 44) E.1 E.2.1 dX1_placeOf_44 rfl (lv_at hl 4 rfl) ?_
            refine lv_iload_n (pc := 45) E.1 E.2.1 dX1_placeOf_45 rfl (lv_at hl 2 rfl) ?_
            refine lv_icmp_ge (tgt := 53) (pc := 46) E.1 E.2.1 dX1_placeOf_46 (by decide) (fun q10 => ?_) (fun q10 => ?_)
            · have hf := x_pos q10 hf
              refine lv_iconst (v := 0) (pc := 53) E.1 E.2.1 dX1_placeOf_53 (by decide) ?_
              refine lv_iadd (pc := 54) E.1 E.2.1 dX1_placeOf_54 ?_
              refine lv_istore_n (lv' := [(2, .int (x2 + (0 : Int32))), (4, .int v6.1), (0, .ref (ad 0)), (1, .int x1), (3, .int x3)]) (pc := 55) E.1 E.2.1 dX1_placeOf_55 rfl hl (by decide) rfl (fun ls hl => ?_)
              refine lv_iinc (v := (x3 + 1)) (lv' := [(3, .int (x3 + 1)), (2, .int (x2 + (0 : Int32))), (4, .int v6.1), (0, .ref (ad 0)), (1, .int x1)]) (pc := 56) E.1 E.2.1 dX1_placeOf_56 hl (k := 4) rfl rfl (by decide) rfl (fun ls hl => ?_)
              refine lv_goto (tgt := 4) (pc := 59) E.1 E.2.1 dX1_placeOf_59 (by decide) ?_
              exact hk4 v6.2 x1 (x2 + (0 : Int32)) (x3 + 1) z hw (lv_sub hl [3, 4, 1, 0] rfl) hf
            · have hf := x_neg q10 hf
              refine lv_iconst (v := 1) (pc := 49) E.1 E.2.1 dX1_placeOf_49 (by decide) ?_
              refine lv_goto (tgt := 54) (pc := 50) E.1 E.2.1 dX1_placeOf_50 (by decide) ?_
              refine lv_iadd (pc := 54) E.1 E.2.1 dX1_placeOf_54 ?_
              refine lv_istore_n (lv' := [(2, .int (x2 + (1 : Int32))), (4, .int v6.1), (0, .ref (ad 0)), (1, .int x1), (3, .int x3)]) (pc := 55) E.1 E.2.1 dX1_placeOf_55 rfl hl (by decide) rfl (fun ls hl => ?_)
              refine lv_iinc (v := (x3 + 1)) (lv' := [(3, .int (x3 + 1)), (2, .int (x2 + (1 : Int32))), (4, .int v6.1), (0, .ref (ad 0)), (1, .int x1)]) (pc := 56) E.1 E.2.1 dX1_placeOf_56 hl (k := 4) rfl rfl (by decide) rfl (fun ls hl => ?_)
              refine lv_goto (tgt := 4) (pc := 59) E.1 E.2.1 dX1_placeOf_59 (by decide) ?_
              exact hk4 v6.2 x1 (x2 + (1 : Int32)) (x3 + 1) z hw (lv_sub hl [3, 4, 1, 0] rfl) hf
set_option maxHeartbeats 4000000 in
set_option maxRecDepth 100000 in
theorem wl_X1_placeOf_p4 {p : Program} {l : Launch} {e : Env} {sS : State} {m : MethodId} {args : Array Value} {below : List Frame} {meth : Method} {c : Code} {G : xG} {W0 : va_W} {ad : Nat → Nat}   (E : xE p sS m args c cX1_placeOf 5 RX1 G (x_in W0)) (hr : meth.sig.returnType = (some .int)) (hk : meth.locks = false)  : ∀ (s' : S1) (x1' : Int32) (x2' : Int32) (x3' : Int32) (z : Int32 × S1) {H : Heap} {locs : List Loc} {ls : Array Slot}, xW G (x_in W0) sS.heap (cells1 G ad s') H locs → lv_has ls 5 [(0, .ref (ad 0)), (1, .int x1'), (2, .int x2'), (3, .int x3')] → lp_X1_placeOf_p4  s' x1' x2' x3' = some z → W p l e (rm_X1_placeOf) sS m args below meth c H locs 0 0 (MQ below (xQ G W0 (cells1 G ad z.2) (some (.int z.1))) args sS 0 0 (x_in W0)) (F0 m 4 ls []) := by
  intro s x1 x2 x3 z H locs ls hw hl hf
  exact x_loop_W (P := fun (q : S1 × Int32 × Int32 × Int32) (z : Int32 × S1) => ∀ {H : Heap} {locs : List Loc} {ls : Array Slot}, xW G (x_in W0) sS.heap (cells1 G ad q.1) H locs → lv_has ls 5 [(0, .ref (ad 0)), (1, .int q.2.1), (2, .int q.2.2.1), (3, .int q.2.2.2)] → W p l e (rm_X1_placeOf) sS m args below meth c H locs 0 0 (MQ below (xQ G W0 (cells1 G ad z.2) (some (.int z.1))) args sS 0 0 (x_in W0)) (F0 m 4 ls [])) (fun k hkk q z hf H locs ls hw hl => w_X1_placeOf_p4 E hr hk  (fun s x1 x2 x3 z H locs ls hw hl hf => hkk (s, x1, x2, x3) z hf hw hl) q.1 q.2.1 q.2.2.1 q.2.2.2 z hw hl hf) FU (s, x1, x2, x3) z hf hw hl
set_option maxHeartbeats 4000000 in
set_option maxRecDepth 100000 in
theorem w_X1_placeOf_p0 {p : Program} {l : Launch} {e : Env} {sS : State} {m : MethodId} {args : Array Value} {below : List Frame} {meth : Method} {c : Code} {G : xG} {W0 : va_W} {ad : Nat → Nat}   (E : xE p sS m args c cX1_placeOf 5 RX1 G (x_in W0)) (hr : meth.sig.returnType = (some .int)) (hk : meth.locks = false)  : ∀ (s' : S1) (x1' : Int32) (z : Int32 × S1) {H : Heap} {locs : List Loc} {ls : Array Slot}, xW G (x_in W0) sS.heap (cells1 G ad s') H locs → lv_has ls 5 [(0, .ref (ad 0)), (1, .int x1')] → f_X1_placeOf  s' x1' = some z → W p l e (rm_X1_placeOf) sS m args below meth c H locs 0 0 (MQ below (xQ G W0 (cells1 G ad z.2) (some (.int z.1))) args sS 0 0 (x_in W0)) (F0 m 0 ls []) := by
  intro s x1 z H locs ls hw hl hf
  unfold f_X1_placeOf at hf
  refine lv_iconst (v := 0) (pc := 0) E.1 E.2.1 dX1_placeOf_0 (by decide) ?_
  refine lv_istore_n (lv' := [(2, .int 0), (0, .ref (ad 0)), (1, .int x1)]) (pc := 1) E.1 E.2.1 dX1_placeOf_1 rfl hl (by decide) rfl (fun ls hl => ?_)
  refine lv_iconst (v := 0) (pc := 2) E.1 E.2.1 dX1_placeOf_2 (by decide) ?_
  refine lv_istore_n (lv' := [(3, .int 0), (2, .int 0), (0, .ref (ad 0)), (1, .int x1)]) (pc := 3) E.1 E.2.1 dX1_placeOf_3 rfl hl (by decide) rfl (fun ls hl => ?_)
  exact wl_X1_placeOf_p4 E hr hk  s x1 0 0 z hw (lv_sub hl [2, 3, 1, 0] rfl) hf
set_option maxHeartbeats 4000000 in
set_option maxRecDepth 100000 in
theorem c_X1_placeOf (l : Launch) (G : xG) (ad : Nat → Nat) (s : S1) (x1 : Int32) {z : Int32 × S1} (hf : f_X1_placeOf s x1 = some z) : xC l yX1_placeOf cX1_placeOf 5 (some .int) (rm_X1_placeOf) G [.ref (ad 0), .int x1] (cells1 G ad s) (some (.int z.1)) (cells1 G ad z.2) :=
  x_met (by decide) rfl (Nat.le_of_ble_eq_true rfl) (fun p e sS m below meth c E hr hk ls hl hw => w_X1_placeOf_p0 E hr hk s x1 z hw hl hf)
set_option maxHeartbeats 4000000 in
set_option maxRecDepth 100000 in
theorem w_X1_shareBySpan_p0 {p : Program} {l : Launch} {e : Env} {sS : State} {m : MethodId} {args : Array Value} {below : List Frame} {meth : Method} {c : Code} {G : xG} {W0 : va_W} {ad : Nat → Nat}   (E : xE p sS m args c cX1_shareBySpan 3 RX1 G (x_in W0)) (hr : meth.sig.returnType = (some .int)) (hk : meth.locks = false)  : ∀ (s' : S1) (x1' : Int32) (x2' : Int32) (z : Int32) {H : Heap} {locs : List Loc} {ls : Array Slot}, xW G (x_in W0) sS.heap (cells1 G ad s') H locs → lv_has ls 3 [(0, .ref (ad 0)), (1, .int x1'), (2, .int x2')] → f_X1_shareBySpan  s' x1' x2' = some z → W p l e (rm_X1_shareBySpan) sS m args below meth c H locs 0 0 (MQ below (xQ G W0 (cells1 G ad s') (some (.int z))) args sS 0 0 (x_in W0)) (F0 m 0 ls []) := by
  intro s x1 x2 z H locs ls hw hl hf
  unfold f_X1_shareBySpan at hf
  refine lv_aload_n (pc := 0) E.1 E.2.1 dX1_shareBySpan_0 rfl (lv_at hl 0 rfl) ?_
  refine lv_iload_n (pc := 1) E.1 E.2.1 dX1_shareBySpan_1 rfl (lv_at hl 1 rfl) ?_
  obtain ⟨v1, g2, hf⟩ := x_bind hf
  refine x_callVA (pc := 2) (As := [.int x1]) (rest := []) (st1 := [.int v1]) (ws' := (cells1 G ad s)) E hw hl (c_X1_hasRow l G ad s x1 g2) xv_X1_120 xd_X1_hasRow rfl rfl ⟨Nat.le_of_ble_eq_true rfl, Nat.le_of_ble_eq_true rfl⟩ (q0 := 0) rfl rfl rfl rfl (Nat.le_of_ble_eq_true rfl) rfl dX1_shareBySpan_2 (fun H locs hw => ?_)
  refine lv_if_eq (tgt := 25) (pc := 5) E.1 E.2.1 dX1_shareBySpan_5 (by decide) (fun q3 => ?_) (fun q3 => ?_)
  · have hf := x_pos q3 hf
    refine lv_iconst (v := 0) (pc := 25) E.1 E.2.1 dX1_shareBySpan_25 (by decide) ?_
    obtain rfl := Option.some.inj hf
    exact x_reti (pc := 26) E hr hk hw dX1_shareBySpan_26
  · have hf := x_neg q3 hf
    refine lv_aload_n (pc := 8) E.1 E.2.1 dX1_shareBySpan_8 rfl (lv_at hl 0 rfl) ?_
    refine lv_aload_n (pc := 9) E.1 E.2.1 dX1_shareBySpan_9 rfl (lv_at hl 0 rfl) ?_
    refine xg_X1_9 (pc := 10) (v := .ref (ad 1)) E hw 0 rfl rfl dX1_shareBySpan_10 ?_
    refine lv_iload_n (pc := 13) E.1 E.2.1 dX1_shareBySpan_13 rfl (lv_at hl 1 rfl) ?_
    obtain ⟨v5, g4, hf⟩ := x_bind hf
    refine x_iald (pc := 14) E hw 1 rfl g4 dX1_shareBySpan_14 ?_
    obtain ⟨v6, g7, hf⟩ := x_bind hf
    refine x_callVA (pc := 15) (As := [.int v5]) (rest := []) (st1 := [.ref (ad v6)]) (ws' := (cells1 G ad s)) E hw hl (c_X1_poolOf l G ad s v5 g7) xv_X1_138 xd_X1_poolOf rfl rfl ⟨Nat.le_of_ble_eq_true rfl, Nat.le_of_ble_eq_true rfl⟩ (q0 := 0) rfl rfl rfl rfl (Nat.le_of_ble_eq_true rfl) rfl dX1_shareBySpan_15 (fun H locs hw => ?_)
    by_cases q8 : v6 = 7
    · have hf := x_pos q8 hf
      rw [q8]
      refine lv_iload_n (pc := 18) E.1 E.2.1 dX1_shareBySpan_18 rfl (lv_at hl 2 rfl) ?_
      obtain ⟨v9, g10, hf⟩ := x_bind hf
      refine x_callV (pc := 19) (As := [.int x2]) (rest := []) (st1 := [.int v9]) (ws' := (cells1 G ad s)) E hw hl (c_X4_shareBySpan l G (fun k => ad (k + 7)) (g1_poolA s) x2 g10) xv_X1_146 xd_X4_shareBySpan rfl rfl ⟨Nat.le_of_ble_eq_true rfl, Nat.le_of_ble_eq_true rfl⟩ [7, 8] [0, 1, 2, 3, 4, 5, 6, 9, 10, 11, 12, 13, 14] (by decide) ⟨rfl, rfl, trivial⟩ (q0 := 7) rfl rfl rfl rfl (Nat.le_of_ble_eq_true rfl) (nw := 15) ⟨rfl, rfl, trivial⟩ ⟨⟨_, rfl, rfl⟩, ⟨_, rfl, rfl⟩, ⟨_, rfl, rfl⟩, ⟨_, rfl, rfl⟩, ⟨_, rfl, rfl⟩, ⟨_, rfl, rfl⟩, ⟨_, rfl, rfl⟩, ⟨_, rfl, rfl⟩, ⟨_, rfl, rfl⟩, ⟨_, rfl, rfl⟩, ⟨_, rfl, rfl⟩, ⟨_, rfl, rfl⟩, ⟨_, rfl, rfl⟩, trivial⟩ rfl rfl (by decide) (by decide) rfl dX1_shareBySpan_19 (fun H locs hw => ?_)
      refine lv_goto (tgt := 26) (pc := 22) E.1 E.2.1 dX1_shareBySpan_22 (by decide) ?_
      obtain rfl := Option.some.inj hf
      exact x_reti (pc := 26) E hr hk hw dX1_shareBySpan_26
    · have hf := x_neg q8 hf
      by_cases q11 : v6 = 9
      · have hf := x_pos q11 hf
        rw [q11]
        refine lv_iload_n (pc := 18) E.1 E.2.1 dX1_shareBySpan_18 rfl (lv_at hl 2 rfl) ?_
        obtain ⟨v12, g13, hf⟩ := x_bind hf
        refine x_callV (pc := 19) (As := [.int x2]) (rest := []) (st1 := [.int v12]) (ws' := (cells1 G ad s)) E hw hl (c_X4_shareBySpan l G (fun k => ad (k + 9)) (g1_poolB s) x2 g13) xv_X1_146 xd_X4_shareBySpan rfl rfl ⟨Nat.le_of_ble_eq_true rfl, Nat.le_of_ble_eq_true rfl⟩ [9, 10] [0, 1, 2, 3, 4, 5, 6, 7, 8, 11, 12, 13, 14] (by decide) ⟨rfl, rfl, trivial⟩ (q0 := 9) rfl rfl rfl rfl (Nat.le_of_ble_eq_true rfl) (nw := 15) ⟨rfl, rfl, trivial⟩ ⟨⟨_, rfl, rfl⟩, ⟨_, rfl, rfl⟩, ⟨_, rfl, rfl⟩, ⟨_, rfl, rfl⟩, ⟨_, rfl, rfl⟩, ⟨_, rfl, rfl⟩, ⟨_, rfl, rfl⟩, ⟨_, rfl, rfl⟩, ⟨_, rfl, rfl⟩, ⟨_, rfl, rfl⟩, ⟨_, rfl, rfl⟩, ⟨_, rfl, rfl⟩, ⟨_, rfl, rfl⟩, trivial⟩ rfl rfl (by decide) (by decide) rfl dX1_shareBySpan_19 (fun H locs hw => ?_)
        refine lv_goto (tgt := 26) (pc := 22) E.1 E.2.1 dX1_shareBySpan_22 (by decide) ?_
        obtain rfl := Option.some.inj hf
        exact x_reti (pc := 26) E hr hk hw dX1_shareBySpan_26
      · have hf := x_neg q11 hf
        by_cases q14 : v6 = 11
        · have hf := x_pos q14 hf
          rw [q14]
          refine lv_iload_n (pc := 18) E.1 E.2.1 dX1_shareBySpan_18 rfl (lv_at hl 2 rfl) ?_
          obtain ⟨v15, g16, hf⟩ := x_bind hf
          refine x_callV (pc := 19) (As := [.int x2]) (rest := []) (st1 := [.int v15]) (ws' := (cells1 G ad s)) E hw hl (c_X4_shareBySpan l G (fun k => ad (k + 11)) (g1_poolC s) x2 g16) xv_X1_146 xd_X4_shareBySpan rfl rfl ⟨Nat.le_of_ble_eq_true rfl, Nat.le_of_ble_eq_true rfl⟩ [11, 12] [0, 1, 2, 3, 4, 5, 6, 7, 8, 9, 10, 13, 14] (by decide) ⟨rfl, rfl, trivial⟩ (q0 := 11) rfl rfl rfl rfl (Nat.le_of_ble_eq_true rfl) (nw := 15) ⟨rfl, rfl, trivial⟩ ⟨⟨_, rfl, rfl⟩, ⟨_, rfl, rfl⟩, ⟨_, rfl, rfl⟩, ⟨_, rfl, rfl⟩, ⟨_, rfl, rfl⟩, ⟨_, rfl, rfl⟩, ⟨_, rfl, rfl⟩, ⟨_, rfl, rfl⟩, ⟨_, rfl, rfl⟩, ⟨_, rfl, rfl⟩, ⟨_, rfl, rfl⟩, ⟨_, rfl, rfl⟩, ⟨_, rfl, rfl⟩, trivial⟩ rfl rfl (by decide) (by decide) rfl dX1_shareBySpan_19 (fun H locs hw => ?_)
          refine lv_goto (tgt := 26) (pc := 22) E.1 E.2.1 dX1_shareBySpan_22 (by decide) ?_
          obtain rfl := Option.some.inj hf
          exact x_reti (pc := 26) E hr hk hw dX1_shareBySpan_26
        · have hf := x_neg q14 hf
          cases hf
set_option maxHeartbeats 4000000 in
set_option maxRecDepth 100000 in
theorem c_X1_shareBySpan (l : Launch) (G : xG) (ad : Nat → Nat) (s : S1) (x1 : Int32) (x2 : Int32) {z : Int32} (hf : f_X1_shareBySpan s x1 x2 = some z) : xC l yX1_shareBySpan cX1_shareBySpan 3 (some .int) (rm_X1_shareBySpan) G [.ref (ad 0), .int x1, .int x2] (cells1 G ad s) (some (.int z)) (cells1 G ad s) :=
  x_met (by decide) rfl (Nat.le_of_ble_eq_true rfl) (fun p e sS m below meth c E hr hk ls hl hw => w_X1_shareBySpan_p0 E hr hk s x1 x2 z hw hl hf)
