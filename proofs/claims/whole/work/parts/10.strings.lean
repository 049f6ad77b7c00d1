def x_slen (w : Nat) : Option Int32 := if w < 8 then some (nI (x_len.getD w 0)) else none
def x_schr (w : Nat) (i : Int32) : Option Int32 := if w < 8 ∧ x_ok i (x_len.getD w 0) = true then some ((x_byt.getD w []).getD i.toNatClampNeg 0) else none
theorem x_byt_ok : ∀ w, w < 8 → ∀ j, j < x_len.getD w 0 → (Int32.toUInt32 ((x_byt.getD w []).getD j 0 &&& 255) % 65536).toInt32 = (x_byt.getD w []).getD j 0 ∧ narrow .char (.int ((x_byt.getD w []).getD j 0)) = .int ((x_byt.getD w []).getD j 0) := by decide +kernel
theorem x_len_ok : ∀ w, w < 8 → x_len.getD w 0 < 100 := by decide +kernel
section XT
variable {p : Program} {l : Launch} {e : Env} {R : Room} {s : State} {m : MethodId} {args : Array Value} {below : List Frame} {meth : Method} {c : Code} {H : Heap} {locs : List Loc} {Q : State → Prop} {G : xG} {A : Nat → Prop} {ws ws' wc wc' : va_W} {cc : ByteArray} {nL pc : Nat} {ls : Array Slot} {rest st0 : List Value} {own : String} {o : Option Value} {a : Nat} {cells slots : Nat}
variable {y : MethodName} {bytes : ByteArray} {maxL n index : Nat} {ret : Option FieldType} {rm : Room} {C : String} {b : Addr} {As : List Value} {lv : List (Nat × Value)}
theorem x_ldcSg {tx : String} {k q : Nat} (E : xE p s m args c cc nL own G A) (hZ : vk_R own k tx q s) (hdg : decode cc pc = .ok (.ldc k, 2)) (kk : W p l e R s m args below meth c H locs cells slots Q (F0 m (pc + 2) ls (.ref q :: rest))) : W p l e R s m args below meth c H locs cells slots Q (F0 m pc ls rest) := va_ldcS E.1 E.2.1 E.2.2.2.1 hZ hdg kk
theorem x_ldcWg {tx : String} {k q : Nat} (E : xE p s m args c cc nL own G A) (hZ : vk_R own k tx q s) (hdg : decode cc pc = .ok (.ldc_w k, 3)) (kk : W p l e R s m args below meth c H locs cells slots Q (F0 m (pc + 3) ls (.ref q :: rest))) : W p l e R s m args below meth c H locs cells slots Q (F0 m pc ls rest) := by
  intro T hT X
  obtain ⟨t, a1, b1⟩ := kk T hT X
  exact ⟨t, X.ldcStringW E.1 E.2.2.2.1 (text := tx) (a := q) hZ.1 hZ.2 (g := F0 m pc ls rest) rfl (by rw [E.2.1]; exact hdg) t a1, b1⟩
/-- a call on a String constant -/
theorem x_callT {w : Nat} (E : xE p s m args c cc nL own G A) (hw : xW G A s.heap ws H locs) (hl : lv_has ls nL lv) (hM : xC l y bytes maxL ret rm G (.ref (G.2.2.1 w) :: As) [] o []) (hw8 : w < 8) (hG : GoodIn x_tbl (wsV own index "java/lang/String" y (.code y bytes maxL ret :: x_tbl)))
    (hd : y.cls = "java/lang/String" ∧ y.cls ≠ "java/lang/invoke/MethodHandle" ∧ y.cls ≠ "java/lang/invoke/VarHandle" ∧ (parseMethodDescriptor y.desc).map (fun d => d.parameters.length) = some n) (hr0 : rm.cells = 0) (hr1 : rm.slots = 0) (hRm : rm.frames + 1 ≤ R.frames ∧ 8 + (maxL + 11) + rm.locals ≤ R.locals)
    (hn : As.length = n) (hst : st0 = As.reverse ++ .ref (G.2.2.1 w) :: rest) (hcat : 2 * 0 + (rest.map fun v => v.category).sum ≤ 8)
    {st1 : List Value} (hst1 : o.toList ++ rest = st1) (hdg : decode cc pc = .ok (.invokevirtual index, 3))
    (kk : ∀ (H1 : Heap) (locs1 : List Loc), xW G A s.heap ws H1 locs1 → W p l e R s m args below meth c H1 locs1 cells slots Q (F0 m (pc + 3) ls st1)) (hcs : cells ≤ R.cells ∧ slots ≤ R.slots := by exact ⟨Nat.zero_le _, Nat.zero_le _⟩) : W p l e R s m args below meth c H locs cells slots Q (F0 m pc ls st0) := by
  subst hst1
  obtain ⟨hx, hb, hml, hown, hts, hK, hS⟩ := id E
  refine x_run0 (va_runV (C := "java/lang/String") (b := G.2.2.1 w) (As := As) (rest := rest) ⟨hx, hb, hml, hown, hts⟩ hM.1 (cwV n hts hG rfl hr0 hr1 hd hRm) ?_ rfl hn hl.1 hst hcat hdg hcs) hw kk
  obtain ⟨f1, f2⟩ := x_pre0 (av := .ref (G.2.2.1 w) :: As) E hw
  exact ⟨f1, vk_recv hS.1 hw8 hw.2.2, f2⟩
theorem x_retn {w0 : va_W} {v : Int32} {ty : FieldType} (E : xE p s m args c cc nL own G (x_in w0)) (hr : meth.sig.returnType = some ty) (hlocks : meth.locks = false) (hw : xW G (x_in w0) s.heap ws H locs) (hn : narrow ty (.int v) = .int v) (hdg : decode cc pc = .ok (.ireturn, 1)) :
    W p l e R s m args below meth c H locs 0 0 (MQ below (xQ G w0 ws (some (.int v))) args s 0 0 (x_in w0)) (F0 m pc ls [.int v]) :=
  W.zret (v := v) E.1 E.2.1 hr hn (fun t ht _ => ⟨rfl, by rw [ht]; exact hw.1, hw.2.2.F ht⟩) hw.2.2.2.2 hdg hlocks
end XT
abbrev rm_ct_coder : Room := { frames := 0, cells := 0, slots := 0, locals := 0 }
set_option maxHeartbeats 4000000 in
set_option maxRecDepth 100000 in
theorem ct_coder (l : Launch) (G : xG) (w : Nat) (hw8 : w < 8) : xC l yJ0_coder_7d493 cJ0_coder_7d493 1 (some .byte) (rm_ct_coder) G [.ref (G.2.2.1 w)] [] (some (.int 0)) [] := by
  refine x_met (by decide) rfl (Nat.le_of_ble_eq_true rfl) (fun p e s m below meth c E hr hk ls hl hw => ?_)
  refine va_gets (pc := 0) E.1 E.2.1 E.2.2.2.2.2.2.2.2.1 hw.2.2 E.2.2.2.1 (E.2.2.2.2.1 _ wq_436) (fun _ h => h) dJ0_coder_7d493_0 ?_
  refine lv_if_eq (tgt := 13) (pc := 3) E.1 E.2.1 dJ0_coder_7d493_3 (by decide) (fun q => absurd q (by decide)) (fun q => ?_)
  refine lv_aload_n (pc := 6) E.1 E.2.1 dJ0_coder_7d493_6 rfl (lv_at hl 0 rfl) ?_
  refine vk_getf (pc := 7) E.1 E.2.1 (E.2.2.2.2.2.2.1.1 w hw8).2.1 hw.2.2 E.2.2.2.1 (E.2.2.2.2.1 _ wq_1754) (fun _ h => h) dJ0_coder_7d493_7 ?_
  refine lv_goto (tgt := 14) (pc := 10) E.1 E.2.1 dJ0_coder_7d493_10 (by decide) ?_
  exact x_retn (pc := 14) E hr hk hw (by decide) dJ0_coder_7d493_14
abbrev rm_ct_isLatin1 : Room := { frames := 0, cells := 0, slots := 0, locals := 0 }
set_option maxHeartbeats 4000000 in
set_option maxRecDepth 100000 in
theorem ct_isLatin1 (l : Launch) (G : xG) (w : Nat) (hw8 : w < 8) : xC l yJ0_isLatin1_aae02 cJ0_isLatin1_aae02 1 (some .boolean) (rm_ct_isLatin1) G [.ref (G.2.2.1 w)] [] (some (.int 1)) [] := by
  refine x_met (by decide) rfl (Nat.le_of_ble_eq_true rfl) (fun p e s m below meth c E hr hk ls hl hw => ?_)
  refine va_gets (pc := 0) E.1 E.2.1 E.2.2.2.2.2.2.2.2.1 hw.2.2 E.2.2.2.1 (E.2.2.2.2.1 _ wq_436) (fun _ h => h) dJ0_isLatin1_aae02_0 ?_
  refine lv_if_eq (tgt := 17) (pc := 3) E.1 E.2.1 dJ0_isLatin1_aae02_3 (by decide) (fun q => absurd q (by decide)) (fun q => ?_)
  refine lv_aload_n (pc := 6) E.1 E.2.1 dJ0_isLatin1_aae02_6 rfl (lv_at hl 0 rfl) ?_
  refine vk_getf (pc := 7) E.1 E.2.1 (E.2.2.2.2.2.2.1.1 w hw8).2.1 hw.2.2 E.2.2.2.1 (E.2.2.2.2.1 _ wq_1754) (fun _ h => h) dJ0_isLatin1_aae02_7 ?_
  refine lv_if_ne (tgt := 17) (pc := 10) E.1 E.2.1 dJ0_isLatin1_aae02_10 (by decide) (fun q => absurd rfl q) (fun q => ?_)
  refine lv_iconst (v := 1) (pc := 13) E.1 E.2.1 dJ0_isLatin1_aae02_13 (by decide) ?_
  refine lv_goto (tgt := 18) (pc := 14) E.1 E.2.1 dJ0_isLatin1_aae02_14 (by decide) ?_
  exact x_retn (pc := 18) E hr hk hw (by decide) dJ0_isLatin1_aae02_18
abbrev rm_ct_length : Room := { frames := 1, cells := 0, slots := 0, locals := 20 }
set_option maxHeartbeats 4000000 in
set_option maxRecDepth 100000 in
theorem ct_length (l : Launch) (G : xG) (w : Nat) (hw8 : w < 8) : xC l yJ0_length_8abf5 cJ0_length_8abf5 1 (some .int) (rm_ct_length) G [.ref (G.2.2.1 w)] [] (some (.int (nI (x_len.getD w 0)))) [] := by
  refine x_met (by decide) rfl (Nat.le_of_ble_eq_true rfl) (fun p e s m below meth c E hr hk ls hl hw => ?_)
  refine lv_aload_n (pc := 0) E.1 E.2.1 dJ0_length_8abf5_0 rfl (lv_at hl 0 rfl) ?_
  refine vk_getf (pc := 1) E.1 E.2.1 (E.2.2.2.2.2.2.1.1 w hw8).2.2.1 hw.2.2 E.2.2.2.1 (E.2.2.2.2.1 _ wq_1753) (fun _ h => h) dJ0_length_8abf5_1 ?_
  refine va_tlen (v := nI (x_len.getD w 0)) (pc := 4) E.1 E.2.1 (E.2.2.2.2.2.2.1.1 w hw8).2.2.2 hw.2.2 rfl dJ0_length_8abf5_4 ?_
  refine lv_aload_n (pc := 5) E.1 E.2.1 dJ0_length_8abf5_5 rfl (lv_at hl 0 rfl) ?_
  refine x_callT (pc := 6) (w := w) (As := []) (rest := [.int (nI (x_len.getD w 0))]) (st1 := [.int 0, .int (nI (x_len.getD w 0))]) E hw hl (ct_coder l G w hw8) hw8 xv_J0_335 xd_J0_coder_7d493 rfl rfl ⟨Nat.le_of_ble_eq_true rfl, Nat.le_of_ble_eq_true rfl⟩ rfl rfl (Nat.le_of_ble_eq_true rfl) rfl dJ0_length_8abf5_6 (fun H locs hw => ?_)
  refine lv_ishr (pc := 9) E.1 E.2.1 dJ0_length_8abf5_9 ?_
  have hz : nI (x_len.getD w 0) >>> ((0 : Int32) &&& 31) = nI (x_len.getD w 0) := (by decide +kernel : ∀ w, w < 8 → nI (x_len.getD w 0) >>> ((0 : Int32) &&& 31) = nI (x_len.getD w 0)) w hw8
  rw [hz]
  exact x_reti (pc := 10) E hr hk hw dJ0_length_8abf5_10
abbrev rm_ct_pre_n : Room := { frames := 0, cells := 0, slots := 0, locals := 0 }
set_option maxHeartbeats 4000000 in
set_option maxRecDepth 100000 in
theorem ct_pre_n (l : Launch) (G : xG) (i n : Int32) (h1 : ¬ i < 0) (h2 : i < n) : xC l yJ3_checkIndex_8e157 cJ3_checkIndex_8e157 3 (some .int) (rm_ct_pre_n) G [.int i, .int n, .null] [] (some (.int i)) [] := by
  refine x_met (by decide) rfl (Nat.le_of_ble_eq_true rfl) (fun p e s m below meth c E hr hk ls hl hw => ?_)
  refine lv_iload_n (pc := 0) E.1 E.2.1 dJ3_checkIndex_8e157_0 rfl (lv_at hl 0 rfl) ?_
  refine lv_if_lt (tgt := 9) (pc := 1) E.1 E.2.1 dJ3_checkIndex_8e157_1 (by decide) (fun q => absurd q h1) (fun q => ?_)
  refine lv_iload_n (pc := 4) E.1 E.2.1 dJ3_checkIndex_8e157_4 rfl (lv_at hl 0 rfl) ?_
  refine lv_iload_n (pc := 5) E.1 E.2.1 dJ3_checkIndex_8e157_5 rfl (lv_at hl 1 rfl) ?_
  refine lv_icmp_lt (tgt := 16) (pc := 6) E.1 E.2.1 dJ3_checkIndex_8e157_6 (by decide) (fun q => ?_) (fun q => absurd h2 q)
  refine lv_iload_n (pc := 16) E.1 E.2.1 dJ3_checkIndex_8e157_16 rfl (lv_at hl 0 rfl) ?_
  exact x_reti (pc := 17) E hr hk hw dJ3_checkIndex_8e157_17
abbrev rm_ct_pre_r : Room := { frames := 0, cells := 0, slots := 0, locals := 0 }
set_option maxHeartbeats 4000000 in
set_option maxRecDepth 100000 in
theorem ct_pre_r (l : Launch) (G : xG) (t : Nat) (i n : Int32) (h1 : ¬ i < 0) (h2 : i < n) : xC l yJ3_checkIndex_8e157 cJ3_checkIndex_8e157 3 (some .int) (rm_ct_pre_r) G [.int i, .int n, .ref t] [] (some (.int i)) [] := by
  refine x_met (by decide) rfl (Nat.le_of_ble_eq_true rfl) (fun p e s m below meth c E hr hk ls hl hw => ?_)
  refine lv_iload_n (pc := 0) E.1 E.2.1 dJ3_checkIndex_8e157_0 rfl (lv_at hl 0 rfl) ?_
  refine lv_if_lt (tgt := 9) (pc := 1) E.1 E.2.1 dJ3_checkIndex_8e157_1 (by decide) (fun q => absurd q h1) (fun q => ?_)
  refine lv_iload_n (pc := 4) E.1 E.2.1 dJ3_checkIndex_8e157_4 rfl (lv_at hl 0 rfl) ?_
  refine lv_iload_n (pc := 5) E.1 E.2.1 dJ3_checkIndex_8e157_5 rfl (lv_at hl 1 rfl) ?_
  refine lv_icmp_lt (tgt := 16) (pc := 6) E.1 E.2.1 dJ3_checkIndex_8e157_6 (by decide) (fun q => ?_) (fun q => absurd h2 q)
  refine lv_iload_n (pc := 16) E.1 E.2.1 dJ3_checkIndex_8e157_16 rfl (lv_at hl 0 rfl) ?_
  exact x_reti (pc := 17) E hr hk hw dJ3_checkIndex_8e157_17
abbrev rm_ct_chk : Room := { frames := 1, cells := 0, slots := 0, locals := 22 }
set_option maxHeartbeats 4000000 in
set_option maxRecDepth 100000 in
theorem ct_chk (l : Launch) (G : xG) (i n : Int32) (h1 : ¬ i < 0) (h2 : i < n) : xC l yJ0_checkIndex_df160 cJ0_checkIndex_df160 2 none (rm_ct_chk) G [.int i, .int n] [] none [] := by
  refine x_met (by decide) rfl (Nat.le_of_ble_eq_true rfl) (fun p e s m below meth c E hr hk ls hl hw => ?_)
  refine lv_iload_n (pc := 0) E.1 E.2.1 dJ0_checkIndex_df160_0 rfl (lv_at hl 0 rfl) ?_
  refine lv_iload_n (pc := 1) E.1 E.2.1 dJ0_checkIndex_df160_1 rfl (lv_at hl 1 rfl) ?_
  rcases E.2.2.2.2.2.2.2.2.2.1 with hz | ⟨t, hz⟩
  · refine va_gets (pc := 2) E.1 E.2.1 hz hw.2.2 E.2.2.2.1 (E.2.2.2.2.1 _ wq_452) (fun _ h => h) dJ0_checkIndex_df160_2 ?_
    refine x_callSX0 (pc := 5) (As := [.int i, .int n, .null]) (rest := []) (st1 := [.int i]) E hw hl (ct_pre_n l G i n h1 h2) wq_454 wq_456 wq_455 wq_106 xe_J3_checkIndex_8e157 rfl rfl ⟨Nat.le_of_ble_eq_true rfl, Nat.le_of_ble_eq_true rfl⟩ rfl rfl (Nat.le_of_ble_eq_true rfl) rfl dJ0_checkIndex_df160_5 (fun H locs hw => ?_)
    refine lv_pop (pc := 8) E.1 E.2.1 dJ0_checkIndex_df160_8 rfl ?_
    exact x_retv (pc := 9) E hr hk hw dJ0_checkIndex_df160_9
  · refine va_gets (pc := 2) E.1 E.2.1 hz hw.2.2 E.2.2.2.1 (E.2.2.2.2.1 _ wq_452) (fun _ h => h) dJ0_checkIndex_df160_2 ?_
    refine x_callSX0 (pc := 5) (As := [.int i, .int n, .ref t]) (rest := []) (st1 := [.int i]) E hw hl (ct_pre_r l G t i n h1 h2) wq_454 wq_456 wq_455 wq_106 xe_J3_checkIndex_8e157 rfl rfl ⟨Nat.le_of_ble_eq_true rfl, Nat.le_of_ble_eq_true rfl⟩ rfl rfl (Nat.le_of_ble_eq_true rfl) rfl dJ0_checkIndex_df160_5 (fun H locs hw => ?_)
    refine lv_pop (pc := 8) E.1 E.2.1 dJ0_checkIndex_df160_8 rfl ?_
    exact x_retv (pc := 9) E hr hk hw dJ0_checkIndex_df160_9

abbrev rm_ct_l1 : Room := { frames := 2, cells := 0, slots := 0, locals := 50 }
set_option maxHeartbeats 4000000 in
set_option maxRecDepth 100000 in
theorem ct_l1 (l : Launch) (G : xG) (w : Nat) (hw8 : w < 8) (i : Int32) (hi : x_ok i (x_len.getD w 0) = true) : xC l yJ1_charAt_3b067 cJ1_charAt_3b067 2 (some .char) (rm_ct_l1) G [.ref (G.2.2.2 w), .int i] [] (some (.int ((x_byt.getD w []).getD i.toNatClampNeg 0))) [] := by
  refine x_met (by decide) rfl (Nat.le_of_ble_eq_true rfl) (fun p e s m below meth c E hr hk ls hl hw => ?_)
  have hin := x_ok_in hi
  have hL := x_len_ok w hw8
  obtain ⟨j, hj, rfl⟩ := vp_in_of hin (by omega)
  have hjc : (nI j).toNatClampNeg = j := nI_clamp (by omega)
  obtain ⟨hb1, hb2⟩ := x_byt_ok w hw8 j hj
  rw [hjc]
  refine lv_iload_n (pc := 0) E.1 E.2.1 dJ1_charAt_3b067_0 rfl (lv_at hl 1 rfl) ?_
  refine lv_aload_n (pc := 1) E.1 E.2.1 dJ1_charAt_3b067_1 rfl (lv_at hl 0 rfl) ?_
  refine va_tlen (v := nI (x_len.getD w 0)) (pc := 2) E.1 E.2.1 (E.2.2.2.2.2.2.1.1 w hw8).2.2.2 hw.2.2 rfl dJ1_charAt_3b067_2 ?_
  refine x_callSX0 (pc := 3) (As := [.int (nI j), .int (nI (x_len.getD w 0))]) (rest := []) (st1 := []) E hw hl (ct_chk l G (nI j) (nI (x_len.getD w 0)) (nI_pos (by omega)) (nI_lt hj (by omega))) wq_449 wq_451 wq_450 wq_104 xe_J0_checkIndex_df160 rfl rfl ⟨Nat.le_of_ble_eq_true rfl, Nat.le_of_ble_eq_true rfl⟩ rfl rfl (Nat.le_of_ble_eq_true rfl) rfl dJ1_charAt_3b067_3 (fun H locs hw => ?_)
  refine lv_aload_n (pc := 6) E.1 E.2.1 dJ1_charAt_3b067_6 rfl (lv_at hl 0 rfl) ?_
  refine lv_iload_n (pc := 7) E.1 E.2.1 dJ1_charAt_3b067_7 rfl (lv_at hl 1 rfl) ?_
  refine va_tb (v := .int ((x_byt.getD w []).getD j 0)) (pc := 8) E.1 E.2.1 (E.2.2.2.2.2.2.1.1 w hw8).2.2.2 hw.2.2 (vp_in_nI hj (by omega)) (by rw [hjc]) dJ1_charAt_3b067_8 ?_
  refine lv_sipush (v := 255) (pc := 9) E.1 E.2.1 dJ1_charAt_3b067_9 (by decide) ?_
  refine lv_iand (pc := 12) E.1 E.2.1 dJ1_charAt_3b067_12 ?_
  refine lv_i2c (v := (x_byt.getD w []).getD j 0) (pc := 13) E.1 E.2.1 dJ1_charAt_3b067_13 hb1 ?_
  exact x_retn (pc := 14) E hr hk hw hb2 dJ1_charAt_3b067_14
abbrev rm_ct_charAt : Room := { frames := 3, cells := 0, slots := 0, locals := 80 }
set_option maxHeartbeats 4000000 in
set_option maxRecDepth 100000 in
theorem ct_charAt (l : Launch) (G : xG) (w : Nat) (hw8 : w < 8) (i : Int32) (hi : x_ok i (x_len.getD w 0) = true) : xC l yJ0_charAt_5068e cJ0_charAt_5068e 2 (some .char) (rm_ct_charAt) G [.ref (G.2.2.1 w), .int i] [] (some (.int ((x_byt.getD w []).getD i.toNatClampNeg 0))) [] := by
  refine x_met (by decide) rfl (Nat.le_of_ble_eq_true rfl) (fun p e s m below meth c E hr hk ls hl hw => ?_)
  have hL := x_len_ok w hw8
  obtain ⟨j, hj, hij⟩ := vp_in_of (x_ok_in hi) (by omega)
  have hjc : i.toNatClampNeg = j := by rw [hij]; exact nI_clamp (by omega)
  obtain ⟨hb1, hb2⟩ := x_byt_ok w hw8 j hj
  rw [← hjc] at hb2
  refine lv_aload_n (pc := 0) E.1 E.2.1 dJ0_charAt_5068e_0 rfl (lv_at hl 0 rfl) ?_
  refine x_callT (pc := 1) (w := w) (As := []) (rest := []) (st1 := [.int 1]) E hw hl (ct_isLatin1 l G w hw8) hw8 xv_J0_492 xd_J0_isLatin1_aae02 rfl rfl ⟨Nat.le_of_ble_eq_true rfl, Nat.le_of_ble_eq_true rfl⟩ rfl rfl (Nat.le_of_ble_eq_true rfl) rfl dJ0_charAt_5068e_1 (fun H locs hw => ?_)
  refine lv_if_eq (tgt := 16) (pc := 4) E.1 E.2.1 dJ0_charAt_5068e_4 (by decide) (fun q => absurd q (by decide)) (fun q => ?_)
  refine lv_aload_n (pc := 7) E.1 E.2.1 dJ0_charAt_5068e_7 rfl (lv_at hl 0 rfl) ?_
  refine vk_getf (pc := 8) E.1 E.2.1 (E.2.2.2.2.2.2.1.1 w hw8).2.2.1 hw.2.2 E.2.2.2.1 (E.2.2.2.2.1 _ wq_1753) (fun _ h => h) dJ0_charAt_5068e_8 ?_
  refine lv_iload_n (pc := 11) E.1 E.2.1 dJ0_charAt_5068e_11 rfl (lv_at hl 1 rfl) ?_
  refine x_callSX0 (pc := 12) (As := [.ref (G.2.2.2 w), .int i]) (rest := []) (st1 := [.int ((x_byt.getD w []).getD i.toNatClampNeg 0)]) E hw hl (ct_l1 l G w hw8 i hi) wq_446 wq_448 wq_447 wq_105 xe_J1_charAt_3b067 rfl rfl ⟨Nat.le_of_ble_eq_true rfl, Nat.le_of_ble_eq_true rfl⟩ rfl rfl (Nat.le_of_ble_eq_true rfl) rfl dJ0_charAt_5068e_12 (fun H locs hw => ?_)
  exact x_retn (pc := 15) E hr hk hw hb2 dJ0_charAt_5068e_15
theorem x_slen_some {w : Nat} {v : Int32} (h : x_slen w = some v) : w < 8 ∧ nI (x_len.getD w 0) = v := by
  unfold x_slen at h
  split at h
  · rename_i q; exact ⟨q, Option.some.inj h⟩
  · cases h
theorem x_schr_some {w : Nat} {i v : Int32} (h : x_schr w i = some v) : (w < 8 ∧ x_ok i (x_len.getD w 0) = true) ∧ (x_byt.getD w []).getD i.toNatClampNeg 0 = v := by
  unfold x_schr at h
  split at h
  · rename_i q; exact ⟨q, Option.some.inj h⟩
  · cases h
theorem x_slenR_X6 {p : Program} {l : Launch} {e : Env} {R : Room} {s : State} {m : MethodId} {args : Array Value} {below : List Frame} {meth : Method} {c : Code} {H : Heap} {locs : List Loc} {Q : State → Prop} {G : xG} {A : Nat → Prop} {ws : va_W} {cc : ByteArray} {nL pc w : Nat} {ls : Array Slot} {rest : List Value} {lv : List (Nat × Value)} {v : Int32} (E : xE p s m args c cc nL RX6 G A) (hw : xW G A s.heap ws H locs) (hl : lv_has ls nL lv) (hg : x_slen w = some v) (h1 : 2 ≤ R.frames) (h2 : 40 ≤ R.locals) (hcat : 2 * 0 + (rest.map fun v => v.category).sum ≤ 8) (hdg : decode cc pc = .ok (.invokevirtual 117, 3))
    (kk : ∀ (H1 : Heap) (locs1 : List Loc), xW G A s.heap ws H1 locs1 → W p l e R s m args below meth c H1 locs1 0 0 Q (F0 m (pc + 3) ls (.int v :: rest))) : W p l e R s m args below meth c H locs 0 0 Q (F0 m pc ls (.ref (G.2.2.1 w) :: rest)) := by
  obtain ⟨h8, rfl⟩ := x_slen_some hg
  exact x_callT (w := w) (As := []) (rest := rest) E hw hl (ct_length l G w h8) h8 xv_X6_117 xd_J0_length_8abf5 rfl rfl ⟨h1, h2⟩ rfl rfl hcat rfl hdg kk
theorem x_schrR_X6 {p : Program} {l : Launch} {e : Env} {R : Room} {s : State} {m : MethodId} {args : Array Value} {below : List Frame} {meth : Method} {c : Code} {H : Heap} {locs : List Loc} {Q : State → Prop} {G : xG} {A : Nat → Prop} {ws : va_W} {cc : ByteArray} {nL pc w : Nat} {ls : Array Slot} {rest : List Value} {lv : List (Nat × Value)} {i v : Int32} (E : xE p s m args c cc nL RX6 G A) (hw : xW G A s.heap ws H locs) (hl : lv_has ls nL lv) (hg : x_schr w i = some v) (h1 : 4 ≤ R.frames) (h2 : 101 ≤ R.locals) (hcat : 2 * 0 + (rest.map fun v => v.category).sum ≤ 8) (hdg : decode cc pc = .ok (.invokevirtual 123, 3))
    (kk : ∀ (H1 : Heap) (locs1 : List Loc), xW G A s.heap ws H1 locs1 → W p l e R s m args below meth c H1 locs1 0 0 Q (F0 m (pc + 3) ls (.int v :: rest))) : W p l e R s m args below meth c H locs 0 0 Q (F0 m pc ls (.int i :: .ref (G.2.2.1 w) :: rest)) := by
  obtain ⟨⟨h8, hi⟩, rfl⟩ := x_schr_some hg
  exact x_callT (w := w) (As := [.int i]) (rest := rest) E hw hl (ct_charAt l G w h8 i hi) h8 xv_X6_123 xd_J0_charAt_5068e rfl rfl ⟨h1, h2⟩ rfl rfl hcat rfl hdg kk
theorem x_slenR_X3 {p : Program} {l : Launch} {e : Env} {R : Room} {s : State} {m : MethodId} {args : Array Value} {below : List Frame} {meth : Method} {c : Code} {H : Heap} {locs : List Loc} {Q : State → Prop} {G : xG} {A : Nat → Prop} {ws : va_W} {cc : ByteArray} {nL pc w : Nat} {ls : Array Slot} {rest : List Value} {lv : List (Nat × Value)} {v : Int32} (E : xE p s m args c cc nL RX3 G A) (hw : xW G A s.heap ws H locs) (hl : lv_has ls nL lv) (hg : x_slen w = some v) (h1 : 2 ≤ R.frames) (h2 : 40 ≤ R.locals) (hcat : 2 * 0 + (rest.map fun v => v.category).sum ≤ 8) (hdg : decode cc pc = .ok (.invokevirtual 21, 3))
    (kk : ∀ (H1 : Heap) (locs1 : List Loc), xW G A s.heap ws H1 locs1 → W p l e R s m args below meth c H1 locs1 0 0 Q (F0 m (pc + 3) ls (.int v :: rest))) : W p l e R s m args below meth c H locs 0 0 Q (F0 m pc ls (.ref (G.2.2.1 w) :: rest)) := by
  obtain ⟨h8, rfl⟩ := x_slen_some hg
  exact x_callT (w := w) (As := []) (rest := rest) E hw hl (ct_length l G w h8) h8 xv_X3_21 xd_J0_length_8abf5 rfl rfl ⟨h1, h2⟩ rfl rfl hcat rfl hdg kk
theorem x_schrR_X3 {p : Program} {l : Launch} {e : Env} {R : Room} {s : State} {m : MethodId} {args : Array Value} {below : List Frame} {meth : Method} {c : Code} {H : Heap} {locs : List Loc} {Q : State → Prop} {G : xG} {A : Nat → Prop} {ws : va_W} {cc : ByteArray} {nL pc w : Nat} {ls : Array Slot} {rest : List Value} {lv : List (Nat × Value)} {i v : Int32} (E : xE p s m args c cc nL RX3 G A) (hw : xW G A s.heap ws H locs) (hl : lv_has ls nL lv) (hg : x_schr w i = some v) (h1 : 4 ≤ R.frames) (h2 : 101 ≤ R.locals) (hcat : 2 * 0 + (rest.map fun v => v.category).sum ≤ 8) (hdg : decode cc pc = .ok (.invokevirtual 27, 3))
    (kk : ∀ (H1 : Heap) (locs1 : List Loc), xW G A s.heap ws H1 locs1 → W p l e R s m args below meth c H1 locs1 0 0 Q (F0 m (pc + 3) ls (.int v :: rest))) : W p l e R s m args below meth c H locs 0 0 Q (F0 m pc ls (.int i :: .ref (G.2.2.1 w) :: rest)) := by
  obtain ⟨⟨h8, hi⟩, rfl⟩ := x_schr_some hg
  exact x_callT (w := w) (As := [.int i]) (rest := rest) E hw hl (ct_charAt l G w h8 i hi) h8 xv_X3_27 xd_J0_charAt_5068e rfl rfl ⟨h1, h2⟩ rfl rfl hcat rfl hdg kk
