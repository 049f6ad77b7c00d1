set_option maxHeartbeats 4000000 in
set_option maxRecDepth 100000 in
theorem w_law_p1816 {p : Program} {l : Launch} {e : Env} {sS : State} {m : MethodId} {below : List Frame} {meth : Method} {c : Code} {G : xG} {ad ae : Nat → Nat} {b L : Nat} {xs : Nat → Int32} {k18 : S7 → S8 → Int32 → Option Int32} (E : xE p sS m #[Value.ref b] c cL_law 4 RL G (fun q => sS.heap.size ≤ q)) (hX : va_X b L xs sS sS.heap) (hbl : b < sS.heap.size) (hr : meth.sig.returnType = ret) (hk : meth.locks = false) (hk18 : ∀ (s' : S7) (q' : S8) (x3' : Int32) {H : Heap} {locs : List Loc} {ls : Array Slot}, xW G (fun q => sS.heap.size ≤ q) sS.heap (cells7 G ad s' ++ cells8 G ae q') H locs → lv_has ls 4 [(0, .ref b), (1, .ref (ad 0)), (2, .ref (ae 0)), (3, .int x3')] → k18  s' q' x3' = some 1 → W p l e room_1 sS m #[Value.ref b] below meth c H locs 51 5492 (lw_Z below #[Value.ref b] sS) (F0 m 18 ls [])) : ∀ (s' : S7) (q' : S8) (x3' : Int32) {H : Heap} {locs : List Loc} {ls : Array Slot}, xW G (fun q => sS.heap.size ≤ q) sS.heap (cells7 G ad s' ++ cells8 G ae q') H locs → lv_has ls 4 [(0, .ref b), (1, .ref (ad 0)), (2, .ref (ae 0)), (3, .int x3')] → f_law_p1816 k18 L xs s' q' x3' = some 1 → W p l e room_1 sS m #[Value.ref b] below meth c H locs 51 5492 (lw_Z below #[Value.ref b] sS) (F0 m 1816 ls []) := by
  intro s q x3 H locs ls hw hl hf
  unfold f_law_p1816 at hf
  refine lv_iinc (v := (x3 + 6)) (lv' := [(3, .int (x3 + 6)), (0, .ref b), (1, .ref (ad 0)), (2, .ref (ae 0))]) (pc := 1816) E.1 E.2.1 dL_law_1816 hl (k := 3) rfl rfl (by decide) rfl (fun ls hl => ?_)
  refine lv_goto (tgt := 18) (pc := 1819) E.1 E.2.1 dL_law_1819 (by decide) ?_
  exact hk18 s q (x3 + 6) hw (lv_sub hl [1, 2, 3, 0] rfl) hf
set_option maxHeartbeats 4000000 in
set_option maxRecDepth 100000 in
theorem w_law_p1793 {p : Program} {l : Launch} {e : Env} {sS : State} {m : MethodId} {below : List Frame} {meth : Method} {c : Code} {G : xG} {ad ae : Nat → Nat} {b L : Nat} {xs : Nat → Int32} {k18 : S7 → S8 → Int32 → Option Int32} (E : xE p sS m #[Value.ref b] c cL_law 4 RL G (fun q => sS.heap.size ≤ q)) (hX : va_X b L xs sS sS.heap) (hbl : b < sS.heap.size) (hr : meth.sig.returnType = ret) (hk : meth.locks = false) (hk18 : ∀ (s' : S7) (q' : S8) (x3' : Int32) {H : Heap} {locs : List Loc} {ls : Array Slot}, xW G (fun q => sS.heap.size ≤ q) sS.heap (cells7 G ad s' ++ cells8 G ae q') H locs → lv_has ls 4 [(0, .ref b), (1, .ref (ad 0)), (2, .ref (ae 0)), (3, .int x3')] → k18  s' q' x3' = some 1 → W p l e room_1 sS m #[Value.ref b] below meth c H locs 51 5492 (lw_Z below #[Value.ref b] sS) (F0 m 18 ls [])) : ∀ (s' : S7) (q' : S8) (x3' : Int32) {H : Heap} {locs : List Loc} {ls : Array Slot}, xW G (fun q => sS.heap.size ≤ q) sS.heap (cells7 G ad s' ++ cells8 G ae q') H locs → lv_has ls 4 [(0, .ref b), (1, .ref (ad 0)), (2, .ref (ae 0)), (3, .int x3')] → f_law_p1793 k18 L xs s' q' x3' = some 1 → W p l e room_1 sS m #[Value.ref b] below meth c H locs 51 5492 (lw_Z below #[Value.ref b] sS) (F0 m 1793 ls []) := by
  intro s q x3 H locs ls hw hl hf
  unfold f_law_p1793 at hf
  refine lv_aload_n (pc := 1793) E.1 E.2.1 dL_law_1793 rfl (lv_at hl 1 rfl) ?_
  refine lv_aload_n (pc := 1794) E.1 E.2.1 dL_law_1794 rfl (lv_at hl 0 rfl) ?_
  refine lv_iload_n (pc := 1795) E.1 E.2.1 dL_law_1795 rfl (lv_at hl 3 rfl) ?_
  refine lv_iconst (v := 1) (pc := 1796) E.1 E.2.1 dL_law_1796 (by decide) ?_
  refine lv_iadd (pc := 1797) E.1 E.2.1 dL_law_1797 ?_
  obtain ⟨v2, g1, hf⟩ := x_bind hf
  refine x_sld (pc := 1798) E hX hbl hw g1 dL_law_1798 ?_
  obtain ⟨v3, g4, hf⟩ := x_bind hf
  refine x_callV (pc := 1799) (As := [.int v2]) (rest := []) (st1 := [.int v3]) (ws' := (cells7 G ad s ++ cells8 G ae q)) E hw hl (c_X7_count l G ad s v2 g4) xv_L_220 xd_X7_count rfl rfl ⟨Nat.le_of_ble_eq_true rfl, Nat.le_of_ble_eq_true rfl⟩ [0, 1, 2, 3, 4, 5, 6, 7, 8, 9, 10, 11, 12, 13, 14, 15, 16, 17, 18, 19, 20, 21, 22, 23, 24, 25, 26, 27, 28, 29, 30] [31, 32, 33, 34, 35, 36, 37, 38, 39, 40, 41, 42, 43, 44, 45, 46, 47, 48, 49, 50] (by decide) ⟨rfl, rfl, rfl, rfl, rfl, rfl, rfl, rfl, rfl, rfl, rfl, rfl, rfl, rfl, rfl, rfl, rfl, rfl, rfl, rfl, rfl, rfl, rfl, rfl, rfl, rfl, rfl, rfl, rfl, rfl, rfl, trivial⟩ (q0 := 0) rfl rfl rfl rfl (Nat.le_of_ble_eq_true rfl) (nw := 51) ⟨rfl, rfl, rfl, rfl, rfl, rfl, rfl, rfl, rfl, rfl, rfl, rfl, rfl, rfl, rfl, rfl, rfl, rfl, rfl, rfl, rfl, rfl, rfl, rfl, rfl, rfl, rfl, rfl, rfl, rfl, rfl, trivial⟩ ⟨⟨_, rfl, rfl⟩, ⟨_, rfl, rfl⟩, ⟨_, rfl, rfl⟩, ⟨_, rfl, rfl⟩, ⟨_, rfl, rfl⟩, ⟨_, rfl, rfl⟩, ⟨_, rfl, rfl⟩, ⟨_, rfl, rfl⟩, ⟨_, rfl, rfl⟩, ⟨_, rfl, rfl⟩, ⟨_, rfl, rfl⟩, ⟨_, rfl, rfl⟩, ⟨_, rfl, rfl⟩, ⟨_, rfl, rfl⟩, ⟨_, rfl, rfl⟩, ⟨_, rfl, rfl⟩, ⟨_, rfl, rfl⟩, ⟨_, rfl, rfl⟩, ⟨_, rfl, rfl⟩, ⟨_, rfl, rfl⟩, trivial⟩ rfl rfl (by decide) (by decide) rfl dL_law_1799 (fun H locs hw => ?_) (hcs := ⟨Nat.le_refl _, Nat.le_refl _⟩)
  refine lv_aload_n (pc := 1802) E.1 E.2.1 dL_law_1802 rfl (lv_at hl 2 rfl) ?_
  refine lv_aload_n (pc := 1803) E.1 E.2.1 dL_law_1803 rfl (lv_at hl 0 rfl) ?_
  refine lv_iload_n (pc := 1804) E.1 E.2.1 dL_law_1804 rfl (lv_at hl 3 rfl) ?_
  refine lv_iconst (v := 1) (pc := 1805) E.1 E.2.1 dL_law_1805 (by decide) ?_
  refine lv_iadd (pc := 1806) E.1 E.2.1 dL_law_1806 ?_
  obtain ⟨v6, g5, hf⟩ := x_bind hf
  refine x_sld (pc := 1807) E hX hbl hw g5 dL_law_1807 ?_
  obtain ⟨v7, g8, hf⟩ := x_bind hf
  refine x_callV (pc := 1808) (As := [.int v6]) (rest := [.int v3]) (st1 := [.int v7, .int v3]) (ws' := (cells7 G ad s ++ cells8 G ae q)) E hw hl (c_X8_count l G ae q v6 g8) xv_L_223 xd_X8_count rfl rfl ⟨Nat.le_of_ble_eq_true rfl, Nat.le_of_ble_eq_true rfl⟩ [31, 32, 33, 34, 35, 36, 37, 38, 39, 40, 41, 42, 43, 44, 45, 46, 47, 48, 49, 50] [0, 1, 2, 3, 4, 5, 6, 7, 8, 9, 10, 11, 12, 13, 14, 15, 16, 17, 18, 19, 20, 21, 22, 23, 24, 25, 26, 27, 28, 29, 30] (by decide) ⟨rfl, rfl, rfl, rfl, rfl, rfl, rfl, rfl, rfl, rfl, rfl, rfl, rfl, rfl, rfl, rfl, rfl, rfl, rfl, rfl, trivial⟩ (q0 := 31) rfl rfl rfl rfl (Nat.le_of_ble_eq_true rfl) (nw := 51) ⟨rfl, rfl, rfl, rfl, rfl, rfl, rfl, rfl, rfl, rfl, rfl, rfl, rfl, rfl, rfl, rfl, rfl, rfl, rfl, rfl, trivial⟩ ⟨⟨_, rfl, rfl⟩, ⟨_, rfl, rfl⟩, ⟨_, rfl, rfl⟩, ⟨_, rfl, rfl⟩, ⟨_, rfl, rfl⟩, ⟨_, rfl, rfl⟩, ⟨_, rfl, rfl⟩, ⟨_, rfl, rfl⟩, ⟨_, rfl, rfl⟩, ⟨_, rfl, rfl⟩, ⟨_, rfl, rfl⟩, ⟨_, rfl, rfl⟩, ⟨_, rfl, rfl⟩, ⟨_, rfl, rfl⟩, ⟨_, rfl, rfl⟩, ⟨_, rfl, rfl⟩, ⟨_, rfl, rfl⟩, ⟨_, rfl, rfl⟩, ⟨_, rfl, rfl⟩, ⟨_, rfl, rfl⟩, ⟨_, rfl, rfl⟩, ⟨_, rfl, rfl⟩, ⟨_, rfl, rfl⟩, ⟨_, rfl, rfl⟩, ⟨_, rfl, rfl⟩, ⟨_, rfl, rfl⟩, ⟨_, rfl, rfl⟩, ⟨_, rfl, rfl⟩, ⟨_, rfl, rfl⟩, ⟨_, rfl, rfl⟩, ⟨_, rfl, rfl⟩, trivial⟩ rfl rfl (by decide) (by decide) rfl dL_law_1808 (fun H locs hw => ?_) (hcs := ⟨Nat.le_refl _, Nat.le_refl _⟩)
  refine lv_icmp_eq (tgt := 1816) (pc := 1811) E.1 E.2.1 dL_law_1811 (by decide) (fun q9 => ?_) (fun q9 => ?_)
  · have hf := x_pos q9 hf
    exact w_law_p1816 E hX hbl hr hk hk18 s q x3 hw (lv_sub hl [0, 1, 2, 3] rfl) hf
  · have hf := x_neg q9 hf
    refine lv_iconst (v := 0) (pc := 1814) E.1 E.2.1 dL_law_1814 (by decide) ?_
    exact absurd (Option.some.inj hf) (by decide)
set_option maxHeartbeats 4000000 in
set_option maxRecDepth 100000 in
theorem w_law_p1770 {p : Program} {l : Launch} {e : Env} {sS : State} {m : MethodId} {below : List Frame} {meth : Method} {c : Code} {G : xG} {ad ae : Nat → Nat} {b L : Nat} {xs : Nat → Int32} {k18 : S7 → S8 → Int32 → Option Int32} (E : xE p sS m #[Value.ref b] c cL_law 4 RL G (fun q => sS.heap.size ≤ q)) (hX : va_X b L xs sS sS.heap) (hbl : b < sS.heap.size) (hr : meth.sig.returnType = ret) (hk : meth.locks = false) (hk18 : ∀ (s' : S7) (q' : S8) (x3' : Int32) {H : Heap} {locs : List Loc} {ls : Array Slot}, xW G (fun q => sS.heap.size ≤ q) sS.heap (cells7 G ad s' ++ cells8 G ae q') H locs → lv_has ls 4 [(0, .ref b), (1, .ref (ad 0)), (2, .ref (ae 0)), (3, .int x3')] → k18  s' q' x3' = some 1 → W p l e room_1 sS m #[Value.ref b] below meth c H locs 51 5492 (lw_Z below #[Value.ref b] sS) (F0 m 18 ls [])) : ∀ (s' : S7) (q' : S8) (x3' : Int32) {H : Heap} {locs : List Loc} {ls : Array Slot}, xW G (fun q => sS.heap.size ≤ q) sS.heap (cells7 G ad s' ++ cells8 G ae q') H locs → lv_has ls 4 [(0, .ref b), (1, .ref (ad 0)), (2, .ref (ae 0)), (3, .int x3')] → f_law_p1770 k18 L xs s' q' x3' = some 1 → W p l e room_1 sS m #[Value.ref b] below meth c H locs 51 5492 (lw_Z below #[Value.ref b] sS) (F0 m 1770 ls []) := by
  intro s q x3 H locs ls hw hl hf
  unfold f_law_p1770 at hf
  refine lv_aload_n (pc := 1770) E.1 E.2.1 dL_law_1770 rfl (lv_at hl 1 rfl) ?_
  refine lv_aload_n (pc := 1771) E.1 E.2.1 dL_law_1771 rfl (lv_at hl 0 rfl) ?_
  refine lv_iload_n (pc := 1772) E.1 E.2.1 dL_law_1772 rfl (lv_at hl 3 rfl) ?_
  refine lv_iconst (v := 1) (pc := 1773) E.1 E.2.1 dL_law_1773 (by decide) ?_
  refine lv_iadd (pc := 1774) E.1 E.2.1 dL_law_1774 ?_
  obtain ⟨v2, g1, hf⟩ := x_bind hf
  refine x_sld (pc := 1775) E hX hbl hw g1 dL_law_1775 ?_
  obtain ⟨v3, g4, hf⟩ := x_bind hf
  refine x_callV (pc := 1776) (As := [.int v2]) (rest := []) (st1 := [.int v3.1]) (ws' := (cells7 G ad v3.2 ++ cells8 G ae q)) E hw hl (c_X7_spell l G ad s v2 g4) xv_L_216 xd_X7_spell rfl rfl ⟨Nat.le_of_ble_eq_true rfl, Nat.le_of_ble_eq_true rfl⟩ [0, 1, 2, 3, 4, 5, 6, 7, 8, 9, 10, 11, 12, 13, 14, 15, 16, 17, 18, 19, 20, 21, 22, 23, 24, 25, 26, 27, 28, 29, 30] [31, 32, 33, 34, 35, 36, 37, 38, 39, 40, 41, 42, 43, 44, 45, 46, 47, 48, 49, 50] (by decide) ⟨rfl, rfl, rfl, rfl, rfl, rfl, rfl, rfl, rfl, rfl, rfl, rfl, rfl, rfl, rfl, rfl, rfl, rfl, rfl, rfl, rfl, rfl, rfl, rfl, rfl, rfl, rfl, rfl, rfl, rfl, rfl, trivial⟩ (q0 := 0) rfl rfl rfl rfl (Nat.le_of_ble_eq_true rfl) (nw := 51) ⟨rfl, rfl, rfl, rfl, rfl, rfl, rfl, rfl, rfl, rfl, rfl, rfl, rfl, rfl, rfl, rfl, rfl, rfl, rfl, rfl, rfl, rfl, rfl, rfl, rfl, rfl, rfl, rfl, rfl, rfl, rfl, trivial⟩ ⟨⟨_, rfl, rfl⟩, ⟨_, rfl, rfl⟩, ⟨_, rfl, rfl⟩, ⟨_, rfl, rfl⟩, ⟨_, rfl, rfl⟩, ⟨_, rfl, rfl⟩, ⟨_, rfl, rfl⟩, ⟨_, rfl, rfl⟩, ⟨_, rfl, rfl⟩, ⟨_, rfl, rfl⟩, ⟨_, rfl, rfl⟩, ⟨_, rfl, rfl⟩, ⟨_, rfl, rfl⟩, ⟨_, rfl, rfl⟩, ⟨_, rfl, rfl⟩, ⟨_, rfl, rfl⟩, ⟨_, rfl, rfl⟩, ⟨_, rfl, rfl⟩, ⟨_, rfl, rfl⟩, ⟨_, rfl, rfl⟩, trivial⟩ rfl rfl (by decide) (by decide) rfl dL_law_1776 (fun H locs hw => ?_) (hcs := ⟨Nat.le_refl _, Nat.le_refl _⟩)
  refine lv_aload_n (pc := 1779) E.1 E.2.1 dL_law_1779 rfl (lv_at hl 2 rfl) ?_
  refine lv_aload_n (pc := 1780) E.1 E.2.1 dL_law_1780 rfl (lv_at hl 0 rfl) ?_
  refine lv_iload_n (pc := 1781) E.1 E.2.1 dL_law_1781 rfl (lv_at hl 3 rfl) ?_
  refine lv_iconst (v := 1) (pc := 1782) E.1 E.2.1 dL_law_1782 (by decide) ?_
  refine lv_iadd (pc := 1783) E.1 E.2.1 dL_law_1783 ?_
  obtain ⟨v6, g5, hf⟩ := x_bind hf
  refine x_sld (pc := 1784) E hX hbl hw g5 dL_law_1784 ?_
  obtain ⟨v7, g8, hf⟩ := x_bind hf
  refine x_callV (pc := 1785) (As := [.int v6]) (rest := [.int v3.1]) (st1 := [.int v7.1, .int v3.1]) (ws' := (cells7 G ad v3.2 ++ cells8 G ae v7.2)) E hw hl (c_X8_spell l G ae q v6 g8) xv_L_219 xd_X8_spell rfl rfl ⟨Nat.le_of_ble_eq_true rfl, Nat.le_of_ble_eq_true rfl⟩ [31, 32, 33, 34, 35, 36, 37, 38, 39, 40, 41, 42, 43, 44, 45, 46, 47, 48, 49, 50] [0, 1, 2, 3, 4, 5, 6, 7, 8, 9, 10, 11, 12, 13, 14, 15, 16, 17, 18, 19, 20, 21, 22, 23, 24, 25, 26, 27, 28, 29, 30] (by decide) ⟨rfl, rfl, rfl, rfl, rfl, rfl, rfl, rfl, rfl, rfl, rfl, rfl, rfl, rfl, rfl, rfl, rfl, rfl, rfl, rfl, trivial⟩ (q0 := 31) rfl rfl rfl rfl (Nat.le_of_ble_eq_true rfl) (nw := 51) ⟨rfl, rfl, rfl, rfl, rfl, rfl, rfl, rfl, rfl, rfl, rfl, rfl, rfl, rfl, rfl, rfl, rfl, rfl, rfl, rfl, trivial⟩ ⟨⟨_, rfl, rfl⟩, ⟨_, rfl, rfl⟩, ⟨_, rfl, rfl⟩, ⟨_, rfl, rfl⟩, ⟨_, rfl, rfl⟩, ⟨_, rfl, rfl⟩, ⟨_, rfl, rfl⟩, ⟨_, rfl, rfl⟩, ⟨_, rfl, rfl⟩, ⟨_, rfl, rfl⟩, ⟨_, rfl, rfl⟩, ⟨_, rfl, rfl⟩, ⟨_, rfl, rfl⟩, ⟨_, rfl, rfl⟩, ⟨_, rfl, rfl⟩, ⟨_, rfl, rfl⟩, ⟨_, rfl, rfl⟩, ⟨_, rfl, rfl⟩, ⟨_, rfl, rfl⟩, ⟨_, rfl, rfl⟩, ⟨_, rfl, rfl⟩, ⟨_, rfl, rfl⟩, ⟨_, rfl, rfl⟩, ⟨_, rfl, rfl⟩, ⟨_, rfl, rfl⟩, ⟨_, rfl, rfl⟩, ⟨_, rfl, rfl⟩, ⟨_, rfl, rfl⟩, ⟨_, rfl, rfl⟩, ⟨_, rfl, rfl⟩, ⟨_, rfl, rfl⟩, trivial⟩ rfl rfl (by decide) (by decide) rfl dL_law_1785 (fun H locs hw => ?_) (hcs := ⟨Nat.le_refl _, Nat.le_refl _⟩)
  refine lv_icmp_eq (tgt := 1816) (pc := 1788) E.1 E.2.1 dL_law_1788 (by decide) (fun q9 => ?_) (fun q9 => ?_)
  · have hf := x_pos q9 hf
    exact w_law_p1816 E hX hbl hr hk hk18 v3.2 v7.2 x3 hw (lv_sub hl [0, 1, 2, 3] rfl) hf
  · have hf := x_neg q9 hf
    refine lv_iconst (v := 0) (pc := 1791) E.1 E.2.1 dL_law_1791 (by decide) ?_
    exact absurd (Option.some.inj hf) (by decide)
set_option maxHeartbeats 4000000 in
set_option maxRecDepth 100000 in
theorem w_law_p1737 {p : Program} {l : Launch} {e : Env} {sS : State} {m : MethodId} {below : List Frame} {meth : Method} {c : Code} {G : xG} {ad ae : Nat → Nat} {b L : Nat} {xs : Nat → Int32} {k18 : S7 → S8 → Int32 → Option Int32} (E : xE p sS m #[Value.ref b] c cL_law 4 RL G (fun q => sS.heap.size ≤ q)) (hX : va_X b L xs sS sS.heap) (hbl : b < sS.heap.size) (hr : meth.sig.returnType = ret) (hk : meth.locks = false) (hk18 : ∀ (s' : S7) (q' : S8) (x3' : Int32) {H : Heap} {locs : List Loc} {ls : Array Slot}, xW G (fun q => sS.heap.size ≤ q) sS.heap (cells7 G ad s' ++ cells8 G ae q') H locs → lv_has ls 4 [(0, .ref b), (1, .ref (ad 0)), (2, .ref (ae 0)), (3, .int x3')] → k18  s' q' x3' = some 1 → W p l e room_1 sS m #[Value.ref b] below meth c H locs 51 5492 (lw_Z below #[Value.ref b] sS) (F0 m 18 ls [])) : ∀ (s' : S7) (q' : S8) (x3' : Int32) {H : Heap} {locs : List Loc} {ls : Array Slot}, xW G (fun q => sS.heap.size ≤ q) sS.heap (cells7 G ad s' ++ cells8 G ae q') H locs → lv_has ls 4 [(0, .ref b), (1, .ref (ad 0)), (2, .ref (ae 0)), (3, .int x3')] → f_law_p1737 k18 L xs s' q' x3' = some 1 → W p l e room_1 sS m #[Value.ref b] below meth c H locs 51 5492 (lw_Z below #[Value.ref b] sS) (F0 m 1737 ls []) := by
  intro s q x3 H locs ls hw hl hf
  unfold f_law_p1737 at hf
  refine lv_aload_n (pc := 1737) E.1 E.2.1 dL_law_1737 rfl (lv_at hl 1 rfl) ?_
  refine lv_aload_n (pc := 1738) E.1 E.2.1 dL_law_1738 rfl (lv_at hl 0 rfl) ?_
  refine lv_iload_n (pc := 1739) E.1 E.2.1 dL_law_1739 rfl (lv_at hl 3 rfl) ?_
  refine lv_iconst (v := 1) (pc := 1740) E.1 E.2.1 dL_law_1740 (by decide) ?_
  refine lv_iadd (pc := 1741) E.1 E.2.1 dL_law_1741 ?_
  obtain ⟨v2, g1, hf⟩ := x_bind hf
  refine x_sld (pc := 1742) E hX hbl hw g1 dL_law_1742 ?_
  refine lv_aload_n (pc := 1743) E.1 E.2.1 dL_law_1743 rfl (lv_at hl 0 rfl) ?_
  refine lv_iload_n (pc := 1744) E.1 E.2.1 dL_law_1744 rfl (lv_at hl 3 rfl) ?_
  refine lv_iconst (v := 2) (pc := 1745) E.1 E.2.1 dL_law_1745 (by decide) ?_
  refine lv_iadd (pc := 1746) E.1 E.2.1 dL_law_1746 ?_
  obtain ⟨v4, g3, hf⟩ := x_bind hf
  refine x_sld (pc := 1747) E hX hbl hw g3 dL_law_1747 ?_
  obtain ⟨v5, g6, hf⟩ := x_bind hf
  refine x_callV (pc := 1748) (As := [.int v2, .int v4]) (rest := []) (st1 := [.int v5.1]) (ws' := (cells7 G ad v5.2 ++ cells8 G ae q)) E hw hl (c_X7_report l G ad s v2 v4 g6) xv_L_212 xd_X7_report rfl rfl ⟨Nat.le_of_ble_eq_true rfl, Nat.le_of_ble_eq_true rfl⟩ [0, 1, 2, 3, 4, 5, 6, 7, 8, 9, 10, 11, 12, 13, 14, 15, 16, 17, 18, 19, 20, 21, 22, 23, 24, 25, 26, 27, 28, 29, 30] [31, 32, 33, 34, 35, 36, 37, 38, 39, 40, 41, 42, 43, 44, 45, 46, 47, 48, 49, 50] (by decide) ⟨rfl, rfl, rfl, rfl, rfl, rfl, rfl, rfl, rfl, rfl, rfl, rfl, rfl, rfl, rfl, rfl, rfl, rfl, rfl, rfl, rfl, rfl, rfl, rfl, rfl, rfl, rfl, rfl, rfl, rfl, rfl, trivial⟩ (q0 := 0) rfl rfl rfl rfl (Nat.le_of_ble_eq_true rfl) (nw := 51) ⟨rfl, rfl, rfl, rfl, rfl, rfl, rfl, rfl, rfl, rfl, rfl, rfl, rfl, rfl, rfl, rfl, rfl, rfl, rfl, rfl, rfl, rfl, rfl, rfl, rfl, rfl, rfl, rfl, rfl, rfl, rfl, trivial⟩ ⟨⟨_, rfl, rfl⟩, ⟨_, rfl, rfl⟩, ⟨_, rfl, rfl⟩, ⟨_, rfl, rfl⟩, ⟨_, rfl, rfl⟩, ⟨_, rfl, rfl⟩, ⟨_, rfl, rfl⟩, ⟨_, rfl, rfl⟩, ⟨_, rfl, rfl⟩, ⟨_, rfl, rfl⟩, ⟨_, rfl, rfl⟩, ⟨_, rfl, rfl⟩, ⟨_, rfl, rfl⟩, ⟨_, rfl, rfl⟩, ⟨_, rfl, rfl⟩, ⟨_, rfl, rfl⟩, ⟨_, rfl, rfl⟩, ⟨_, rfl, rfl⟩, ⟨_, rfl, rfl⟩, ⟨_, rfl, rfl⟩, trivial⟩ rfl rfl (by decide) (by decide) rfl dL_law_1748 (fun H locs hw => ?_) (hcs := ⟨Nat.le_refl _, Nat.le_refl _⟩)
  refine lv_aload_n (pc := 1751) E.1 E.2.1 dL_law_1751 rfl (lv_at hl 2 rfl) ?_
  refine lv_aload_n (pc := 1752) E.1 E.2.1 dL_law_1752 rfl (lv_at hl 0 rfl) ?_
  refine lv_iload_n (pc := 1753) E.1 E.2.1 dL_law_1753 rfl (lv_at hl 3 rfl) ?_
  refine lv_iconst (v := 1) (pc := 1754) E.1 E.2.1 dL_law_1754 (by decide) ?_
  refine lv_iadd (pc := 1755) E.1 E.2.1 dL_law_1755 ?_
  obtain ⟨v8, g7, hf⟩ := x_bind hf
  refine x_sld (pc := 1756) E hX hbl hw g7 dL_law_1756 ?_
  refine lv_aload_n (pc := 1757) E.1 E.2.1 dL_law_1757 rfl (lv_at hl 0 rfl) ?_
  refine lv_iload_n (pc := 1758) E.1 E.2.1 dL_law_1758 rfl (lv_at hl 3 rfl) ?_
  refine lv_iconst (v := 2) (pc := 1759) E.1 E.2.1 dL_law_1759 (by decide) ?_
  refine lv_iadd (pc := 1760) E.1 E.2.1 dL_law_1760 ?_
  obtain ⟨v10, g9, hf⟩ := x_bind hf
  refine x_sld (pc := 1761) E hX hbl hw g9 dL_law_1761 ?_
  obtain ⟨v11, g12, hf⟩ := x_bind hf
  refine x_callV (pc := 1762) (As := [.int v8, .int v10]) (rest := [.int v5.1]) (st1 := [.int v11.1, .int v5.1]) (ws' := (cells7 G ad v5.2 ++ cells8 G ae v11.2)) E hw hl (c_X8_report l G ae q v8 v10 g12) xv_L_215 xd_X8_report rfl rfl ⟨Nat.le_of_ble_eq_true rfl, Nat.le_of_ble_eq_true rfl⟩ [31, 32, 33, 34, 35, 36, 37, 38, 39, 40, 41, 42, 43, 44, 45, 46, 47, 48, 49, 50] [0, 1, 2, 3, 4, 5, 6, 7, 8, 9, 10, 11, 12, 13, 14, 15, 16, 17, 18, 19, 20, 21, 22, 23, 24, 25, 26, 27, 28, 29, 30] (by decide) ⟨rfl, rfl, rfl, rfl, rfl, rfl, rfl, rfl, rfl, rfl, rfl, rfl, rfl, rfl, rfl, rfl, rfl, rfl, rfl, rfl, trivial⟩ (q0 := 31) rfl rfl rfl rfl (Nat.le_of_ble_eq_true rfl) (nw := 51) ⟨rfl, rfl, rfl, rfl, rfl, rfl, rfl, rfl, rfl, rfl, rfl, rfl, rfl, rfl, rfl, rfl, rfl, rfl, rfl, rfl, trivial⟩ ⟨⟨_, rfl, rfl⟩, ⟨_, rfl, rfl⟩, ⟨_, rfl, rfl⟩, ⟨_, rfl, rfl⟩, ⟨_, rfl, rfl⟩, ⟨_, rfl, rfl⟩, ⟨_, rfl, rfl⟩, ⟨_, rfl, rfl⟩, ⟨_, rfl, rfl⟩, ⟨_, rfl, rfl⟩, ⟨_, rfl, rfl⟩, ⟨_, rfl, rfl⟩, ⟨_, rfl, rfl⟩, ⟨_, rfl, rfl⟩, ⟨_, rfl, rfl⟩, ⟨_, rfl, rfl⟩, ⟨_, rfl, rfl⟩, ⟨_, rfl, rfl⟩, ⟨_, rfl, rfl⟩, ⟨_, rfl, rfl⟩, ⟨_, rfl, rfl⟩, ⟨_, rfl, rfl⟩, ⟨_, rfl, rfl⟩, ⟨_, rfl, rfl⟩, ⟨_, rfl, rfl⟩, ⟨_, rfl, rfl⟩, ⟨_, rfl, rfl⟩, ⟨_, rfl, rfl⟩, ⟨_, rfl, rfl⟩, ⟨_, rfl, rfl⟩, ⟨_, rfl, rfl⟩, trivial⟩ rfl rfl (by decide) (by decide) rfl dL_law_1762 (fun H locs hw => ?_) (hcs := ⟨Nat.le_refl _, Nat.le_refl _⟩)
  refine lv_icmp_eq (tgt := 1816) (pc := 1765) E.1 E.2.1 dL_law_1765 (by decide) (fun q13 => ?_) (fun q13 => ?_)
  · have hf := x_pos q13 hf
    exact w_law_p1816 E hX hbl hr hk hk18 v5.2 v11.2 x3 hw (lv_sub hl [0, 1, 2, 3] rfl) hf
  · have hf := x_neg q13 hf
    refine lv_iconst (v := 0) (pc := 1768) E.1 E.2.1 dL_law_1768 (by decide) ?_
    exact absurd (Option.some.inj hf) (by decide)
set_option maxHeartbeats 4000000 in
set_option maxRecDepth 100000 in
theorem w_law_p1724 {p : Program} {l : Launch} {e : Env} {sS : State} {m : MethodId} {below : List Frame} {meth : Method} {c : Code} {G : xG} {ad ae : Nat → Nat} {b L : Nat} {xs : Nat → Int32} {k18 : S7 → S8 → Int32 → Option Int32} (E : xE p sS m #[Value.ref b] c cL_law 4 RL G (fun q => sS.heap.size ≤ q)) (hX : va_X b L xs sS sS.heap) (hbl : b < sS.heap.size) (hr : meth.sig.returnType = ret) (hk : meth.locks = false) (hk18 : ∀ (s' : S7) (q' : S8) (x3' : Int32) {H : Heap} {locs : List Loc} {ls : Array Slot}, xW G (fun q => sS.heap.size ≤ q) sS.heap (cells7 G ad s' ++ cells8 G ae q') H locs → lv_has ls 4 [(0, .ref b), (1, .ref (ad 0)), (2, .ref (ae 0)), (3, .int x3')] → k18  s' q' x3' = some 1 → W p l e room_1 sS m #[Value.ref b] below meth c H locs 51 5492 (lw_Z below #[Value.ref b] sS) (F0 m 18 ls [])) : ∀ (s' : S7) (q' : S8) (x3' : Int32) {H : Heap} {locs : List Loc} {ls : Array Slot}, xW G (fun q => sS.heap.size ≤ q) sS.heap (cells7 G ad s' ++ cells8 G ae q') H locs → lv_has ls 4 [(0, .ref b), (1, .ref (ad 0)), (2, .ref (ae 0)), (3, .int x3')] → f_law_p1724 k18 L xs s' q' x3' = some 1 → W p l e room_1 sS m #[Value.ref b] below meth c H locs 51 5492 (lw_Z below #[Value.ref b] sS) (F0 m 1724 ls []) := by
  intro s q x3 H locs ls hw hl hf
  unfold f_law_p1724 at hf
  refine lv_aload_n (pc := 1724) E.1 E.2.1 dL_law_1724 rfl (lv_at hl 1 rfl) ?_
  obtain ⟨v1, g2, hf⟩ := x_bind hf
  refine x_callV (pc := 1725) (As := []) (rest := []) (st1 := [.int v1.1]) (ws' := (cells7 G ad v1.2 ++ cells8 G ae q)) E hw hl (c_X7_dearest l G ad s g2) xv_L_208 xd_X7_dearest rfl rfl ⟨Nat.le_of_ble_eq_true rfl, Nat.le_of_ble_eq_true rfl⟩ [0, 1, 2, 3, 4, 5, 6, 7, 8, 9, 10, 11, 12, 13, 14, 15, 16, 17, 18, 19, 20, 21, 22, 23, 24, 25, 26, 27, 28, 29, 30] [31, 32, 33, 34, 35, 36, 37, 38, 39, 40, 41, 42, 43, 44, 45, 46, 47, 48, 49, 50] (by decide) ⟨rfl, rfl, rfl, rfl, rfl, rfl, rfl, rfl, rfl, rfl, rfl, rfl, rfl, rfl, rfl, rfl, rfl, rfl, rfl, rfl, rfl, rfl, rfl, rfl, rfl, rfl, rfl, rfl, rfl, rfl, rfl, trivial⟩ (q0 := 0) rfl rfl rfl rfl (Nat.le_of_ble_eq_true rfl) (nw := 51) ⟨rfl, rfl, rfl, rfl, rfl, rfl, rfl, rfl, rfl, rfl, rfl, rfl, rfl, rfl, rfl, rfl, rfl, rfl, rfl, rfl, rfl, rfl, rfl, rfl, rfl, rfl, rfl, rfl, rfl, rfl, rfl, trivial⟩ ⟨⟨_, rfl, rfl⟩, ⟨_, rfl, rfl⟩, ⟨_, rfl, rfl⟩, ⟨_, rfl, rfl⟩, ⟨_, rfl, rfl⟩, ⟨_, rfl, rfl⟩, ⟨_, rfl, rfl⟩, ⟨_, rfl, rfl⟩, ⟨_, rfl, rfl⟩, ⟨_, rfl, rfl⟩, ⟨_, rfl, rfl⟩, ⟨_, rfl, rfl⟩, ⟨_, rfl, rfl⟩, ⟨_, rfl, rfl⟩, ⟨_, rfl, rfl⟩, ⟨_, rfl, rfl⟩, ⟨_, rfl, rfl⟩, ⟨_, rfl, rfl⟩, ⟨_, rfl, rfl⟩, ⟨_, rfl, rfl⟩, trivial⟩ rfl rfl (by decide) (by decide) rfl dL_law_1725 (fun H locs hw => ?_) (hcs := ⟨Nat.le_refl _, Nat.le_refl _⟩)
  refine lv_aload_n (pc := 1728) E.1 E.2.1 dL_law_1728 rfl (lv_at hl 2 rfl) ?_
  obtain ⟨v3, g4, hf⟩ := x_bind hf
  refine x_callV (pc := 1729) (As := []) (rest := [.int v1.1]) (st1 := [.int v3.1, .int v1.1]) (ws' := (cells7 G ad v1.2 ++ cells8 G ae v3.2)) E hw hl (c_X8_dearest l G ae q g4) xv_L_211 xd_X8_dearest rfl rfl ⟨Nat.le_of_ble_eq_true rfl, Nat.le_of_ble_eq_true rfl⟩ [31, 32, 33, 34, 35, 36, 37, 38, 39, 40, 41, 42, 43, 44, 45, 46, 47, 48, 49, 50] [0, 1, 2, 3, 4, 5, 6, 7, 8, 9, 10, 11, 12, 13, 14, 15, 16, 17, 18, 19, 20, 21, 22, 23, 24, 25, 26, 27, 28, 29, 30] (by decide) ⟨rfl, rfl, rfl, rfl, rfl, rfl, rfl, rfl, rfl, rfl, rfl, rfl, rfl, rfl, rfl, rfl, rfl, rfl, rfl, rfl, trivial⟩ (q0 := 31) rfl rfl rfl rfl (Nat.le_of_ble_eq_true rfl) (nw := 51) ⟨rfl, rfl, rfl, rfl, rfl, rfl, rfl, rfl, rfl, rfl, rfl, rfl, rfl, rfl, rfl, rfl, rfl, rfl, rfl, rfl, trivial⟩ ⟨⟨_, rfl, rfl⟩, ⟨_, rfl, rfl⟩, ⟨_, rfl, rfl⟩, ⟨_, rfl, rfl⟩, ⟨_, rfl, rfl⟩, ⟨_, rfl, rfl⟩, ⟨_, rfl, rfl⟩, ⟨_, rfl, rfl⟩, ⟨_, rfl, rfl⟩, ⟨_, rfl, rfl⟩, ⟨_, rfl, rfl⟩, ⟨_, rfl, rfl⟩, ⟨_, rfl, rfl⟩, ⟨_, rfl, rfl⟩, ⟨_, rfl, rfl⟩, ⟨_, rfl, rfl⟩, ⟨_, rfl, rfl⟩, ⟨_, rfl, rfl⟩, ⟨_, rfl, rfl⟩, ⟨_, rfl, rfl⟩, ⟨_, rfl, rfl⟩, ⟨_, rfl, rfl⟩, ⟨_, rfl, rfl⟩, ⟨_, rfl, rfl⟩, ⟨_, rfl, rfl⟩, ⟨_, rfl, rfl⟩, ⟨_, rfl, rfl⟩, ⟨_, rfl, rfl⟩, ⟨_, rfl, rfl⟩, ⟨_, rfl, rfl⟩, ⟨_, rfl, rfl⟩, trivial⟩ rfl rfl (by decide) (by decide) rfl dL_law_1729 (fun H locs hw => ?_) (hcs := ⟨Nat.le_refl _, Nat.le_refl _⟩)
  refine lv_icmp_eq (tgt := 1816) (pc := 1732) E.1 E.2.1 dL_law_1732 (by decide) (fun q5 => ?_) (fun q5 => ?_)
  · have hf := x_pos q5 hf
    exact w_law_p1816 E hX hbl hr hk hk18 v1.2 v3.2 x3 hw (lv_sub hl [0, 1, 2, 3] rfl) hf
  · have hf := x_neg q5 hf
    refine lv_iconst (v := 0) (pc := 1735) E.1 E.2.1 dL_law_1735 (by decide) ?_
    exact absurd (Option.some.inj hf) (by decide)
set_option maxHeartbeats 4000000 in
set_option maxRecDepth 100000 in
theorem w_law_p1691 {p : Program} {l : Launch} {e : Env} {sS : State} {m : MethodId} {below : List Frame} {meth : Method} {c : Code} {G : xG} {ad ae : Nat → Nat} {b L : Nat} {xs : Nat → Int32} {k18 : S7 → S8 → Int32 → Option Int32} (E : xE p sS m #[Value.ref b] c cL_law 4 RL G (fun q => sS.heap.size ≤ q)) (hX : va_X b L xs sS sS.heap) (hbl : b < sS.heap.size) (hr : meth.sig.returnType = ret) (hk : meth.locks = false) (hk18 : ∀ (s' : S7) (q' : S8) (x3' : Int32) {H : Heap} {locs : List Loc} {ls : Array Slot}, xW G (fun q => sS.heap.size ≤ q) sS.heap (cells7 G ad s' ++ cells8 G ae q') H locs → lv_has ls 4 [(0, .ref b), (1, .ref (ad 0)), (2, .ref (ae 0)), (3, .int x3')] → k18  s' q' x3' = some 1 → W p l e room_1 sS m #[Value.ref b] below meth c H locs 51 5492 (lw_Z below #[Value.ref b] sS) (F0 m 18 ls [])) : ∀ (s' : S7) (q' : S8) (x3' : Int32) {H : Heap} {locs : List Loc} {ls : Array Slot}, xW G (fun q => sS.heap.size ≤ q) sS.heap (cells7 G ad s' ++ cells8 G ae q') H locs → lv_has ls 4 [(0, .ref b), (1, .ref (ad 0)), (2, .ref (ae 0)), (3, .int x3')] → f_law_p1691 k18 L xs s' q' x3' = some 1 → W p l e room_1 sS m #[Value.ref b] below meth c H locs 51 5492 (lw_Z below #[Value.ref b] sS) (F0 m 1691 ls []) := by
  intro s q x3 H locs ls hw hl hf
  unfold f_law_p1691 at hf
  refine lv_aload_n (pc := 1691) E.1 E.2.1 dL_law_1691 rfl (lv_at hl 1 rfl) ?_
  refine lv_aload_n (pc := 1692) E.1 E.2.1 dL_law_1692 rfl (lv_at hl 0 rfl) ?_
  refine lv_iload_n (pc := 1693) E.1 E.2.1 dL_law_1693 rfl (lv_at hl 3 rfl) ?_
  refine lv_iconst (v := 1) (pc := 1694) E.1 E.2.1 dL_law_1694 (by decide) ?_
  refine lv_iadd (pc := 1695) E.1 E.2.1 dL_law_1695 ?_
  obtain ⟨v2, g1, hf⟩ := x_bind hf
  refine x_sld (pc := 1696) E hX hbl hw g1 dL_law_1696 ?_
  refine lv_aload_n (pc := 1697) E.1 E.2.1 dL_law_1697 rfl (lv_at hl 0 rfl) ?_
  refine lv_iload_n (pc := 1698) E.1 E.2.1 dL_law_1698 rfl (lv_at hl 3 rfl) ?_
  refine lv_iconst (v := 2) (pc := 1699) E.1 E.2.1 dL_law_1699 (by decide) ?_
  refine lv_iadd (pc := 1700) E.1 E.2.1 dL_law_1700 ?_
  obtain ⟨v4, g3, hf⟩ := x_bind hf
  refine x_sld (pc := 1701) E hX hbl hw g3 dL_law_1701 ?_
  obtain ⟨v5, g6, hf⟩ := x_bind hf
  refine x_callV (pc := 1702) (As := [.int v2, .int v4]) (rest := []) (st1 := [.int v5.1]) (ws' := (cells7 G ad v5.2 ++ cells8 G ae q)) E hw hl (c_X7_withoutClaim l G ad s v2 v4 g6) xv_L_204 xd_X7_withoutClaim rfl rfl ⟨Nat.le_of_ble_eq_true rfl, Nat.le_of_ble_eq_true rfl⟩ [0, 1, 2, 3, 4, 5, 6, 7, 8, 9, 10, 11, 12, 13, 14, 15, 16, 17, 18, 19, 20, 21, 22, 23, 24, 25, 26, 27, 28, 29, 30] [31, 32, 33, 34, 35, 36, 37, 38, 39, 40, 41, 42, 43, 44, 45, 46, 47, 48, 49, 50] (by decide) ⟨rfl, rfl, rfl, rfl, rfl, rfl, rfl, rfl, rfl, rfl, rfl, rfl, rfl, rfl, rfl, rfl, rfl, rfl, rfl, rfl, rfl, rfl, rfl, rfl, rfl, rfl, rfl, rfl, rfl, rfl, rfl, trivial⟩ (q0 := 0) rfl rfl rfl rfl (Nat.le_of_ble_eq_true rfl) (nw := 51) ⟨rfl, rfl, rfl, rfl, rfl, rfl, rfl, rfl, rfl, rfl, rfl, rfl, rfl, rfl, rfl, rfl, rfl, rfl, rfl, rfl, rfl, rfl, rfl, rfl, rfl, rfl, rfl, rfl, rfl, rfl, rfl, trivial⟩ ⟨⟨_, rfl, rfl⟩, ⟨_, rfl, rfl⟩, ⟨_, rfl, rfl⟩, ⟨_, rfl, rfl⟩, ⟨_, rfl, rfl⟩, ⟨_, rfl, rfl⟩, ⟨_, rfl, rfl⟩, ⟨_, rfl, rfl⟩, ⟨_, rfl, rfl⟩, ⟨_, rfl, rfl⟩, ⟨_, rfl, rfl⟩, ⟨_, rfl, rfl⟩, ⟨_, rfl, rfl⟩, ⟨_, rfl, rfl⟩, ⟨_, rfl, rfl⟩, ⟨_, rfl, rfl⟩, ⟨_, rfl, rfl⟩, ⟨_, rfl, rfl⟩, ⟨_, rfl, rfl⟩, ⟨_, rfl, rfl⟩, trivial⟩ rfl rfl (by decide) (by decide) rfl dL_law_1702 (fun H locs hw => ?_) (hcs := ⟨Nat.le_refl _, Nat.le_refl _⟩)
  refine lv_aload_n (pc := 1705) E.1 E.2.1 dL_law_1705 rfl (lv_at hl 2 rfl) ?_
  refine lv_aload_n (pc := 1706) E.1 E.2.1 dL_law_1706 rfl (lv_at hl 0 rfl) ?_
  refine lv_iload_n (pc := 1707) E.1 E.2.1 dL_law_1707 rfl (lv_at hl 3 rfl) ?_
  refine lv_iconst (v := 1) (pc := 1708) E.1 E.2.1 dL_law_1708 (by decide) ?_
  refine lv_iadd (pc := 1709) E.1 E.2.1 dL_law_1709 ?_
  obtain ⟨v8, g7, hf⟩ := x_bind hf
  refine x_sld (pc := 1710) E hX hbl hw g7 dL_law_1710 ?_
  refine lv_aload_n (pc := 1711) E.1 E.2.1 dL_law_1711 rfl (lv_at hl 0 rfl) ?_
  refine lv_iload_n (pc := 1712) E.1 E.2.1 dL_law_1712 rfl (lv_at hl 3 rfl) ?_
  refine lv_iconst (v := 2) (pc := 1713) E.1 E.2.1 dL_law_1713 (by decide) ?_
  refine lv_iadd (pc := 1714) E.1 E.2.1 dL_law_1714 ?_
  obtain ⟨v10, g9, hf⟩ := x_bind hf
  refine x_sld (pc := 1715) E hX hbl hw g9 dL_law_1715 ?_
  obtain ⟨v11, g12, hf⟩ := x_bind hf
  refine x_callV (pc := 1716) (As := [.int v8, .int v10]) (rest := [.int v5.1]) (st1 := [.int v11.1, .int v5.1]) (ws' := (cells7 G ad v5.2 ++ cells8 G ae v11.2)) E hw hl (c_X8_withoutClaim l G ae q v8 v10 g12) xv_L_207 xd_X8_withoutClaim rfl rfl ⟨Nat.le_of_ble_eq_true rfl, Nat.le_of_ble_eq_true rfl⟩ [31, 32, 33, 34, 35, 36, 37, 38, 39, 40, 41, 42, 43, 44, 45, 46, 47, 48, 49, 50] [0, 1, 2, 3, 4, 5, 6, 7, 8, 9, 10, 11, 12, 13, 14, 15, 16, 17, 18, 19, 20, 21, 22, 23, 24, 25, 26, 27, 28, 29, 30] (by decide) ⟨rfl, rfl, rfl, rfl, rfl, rfl, rfl, rfl, rfl, rfl, rfl, rfl, rfl, rfl, rfl, rfl, rfl, rfl, rfl, rfl, trivial⟩ (q0 := 31) rfl rfl rfl rfl (Nat.le_of_ble_eq_true rfl) (nw := 51) ⟨rfl, rfl, rfl, rfl, rfl, rfl, rfl, rfl, rfl, rfl, rfl, rfl, rfl, rfl, rfl, rfl, rfl, rfl, rfl, rfl, trivial⟩ ⟨⟨_, rfl, rfl⟩, ⟨_, rfl, rfl⟩, ⟨_, rfl, rfl⟩, ⟨_, rfl, rfl⟩, ⟨_, rfl, rfl⟩, ⟨_, rfl, rfl⟩, ⟨_, rfl, rfl⟩, ⟨_, rfl, rfl⟩, ⟨_, rfl, rfl⟩, ⟨_, rfl, rfl⟩, ⟨_, rfl, rfl⟩, ⟨_, rfl, rfl⟩, ⟨_, rfl, rfl⟩, ⟨_, rfl, rfl⟩, ⟨_, rfl, rfl⟩, ⟨_, rfl, rfl⟩, ⟨_, rfl, rfl⟩, ⟨_, rfl, rfl⟩, ⟨_, rfl, rfl⟩, ⟨_, rfl, rfl⟩, ⟨_, rfl, rfl⟩, ⟨_, rfl, rfl⟩, ⟨_, rfl, rfl⟩, ⟨_, rfl, rfl⟩, ⟨_, rfl, rfl⟩, ⟨_, rfl, rfl⟩, ⟨_, rfl, rfl⟩, ⟨_, rfl, rfl⟩, ⟨_, rfl, rfl⟩, ⟨_, rfl, rfl⟩, ⟨_, rfl, rfl⟩, trivial⟩ rfl rfl (by decide) (by decide) rfl dL_law_1716 (fun H locs hw => ?_) (hcs := ⟨Nat.le_refl _, Nat.le_refl _⟩)
  refine lv_icmp_eq (tgt := 1816) (pc := 1719) E.1 E.2.1 dL_law_1719 (by decide) (fun q13 => ?_) (fun q13 => ?_)
  · have hf := x_pos q13 hf
    exact w_law_p1816 E hX hbl hr hk hk18 v5.2 v11.2 x3 hw (lv_sub hl [0, 1, 2, 3] rfl) hf
  · have hf := x_neg q13 hf
    refine lv_iconst (v := 0) (pc := 1722) E.1 E.2.1 dL_law_1722 (by decide) ?_
    exact absurd (Option.some.inj hf) (by decide)
set_option maxHeartbeats 4000000 in
set_option maxRecDepth 100000 in
theorem w_law_p1682 {p : Program} {l : Launch} {e : Env} {sS : State} {m : MethodId} {below : List Frame} {meth : Method} {c : Code} {G : xG} {ad ae : Nat → Nat} {b L : Nat} {xs : Nat → Int32} {k18 : S7 → S8 → Int32 → Option Int32} (E : xE p sS m #[Value.ref b] c cL_law 4 RL G (fun q => sS.heap.size ≤ q)) (hX : va_X b L xs sS sS.heap) (hbl : b < sS.heap.size) (hr : meth.sig.returnType = ret) (hk : meth.locks = false) (hk18 : ∀ (s' : S7) (q' : S8) (x3' : Int32) {H : Heap} {locs : List Loc} {ls : Array Slot}, xW G (fun q => sS.heap.size ≤ q) sS.heap (cells7 G ad s' ++ cells8 G ae q') H locs → lv_has ls 4 [(0, .ref b), (1, .ref (ad 0)), (2, .ref (ae 0)), (3, .int x3')] → k18  s' q' x3' = some 1 → W p l e room_1 sS m #[Value.ref b] below meth c H locs 51 5492 (lw_Z below #[Value.ref b] sS) (F0 m 18 ls [])) : ∀ (s' : S7) (q' : S8) (x3' : Int32) (y0' : Int64) (y2' : Int32) (y3' : Int32) (y4' : Int32) (y5' : Int32) {H : Heap} {locs : List Loc} {ls : Array Slot}, xW G (fun q => sS.heap.size ≤ q) sS.heap (cells7 G ad s' ++ cells8 G ae q') H locs → lv_has ls 4 [(0, .ref b), (1, .ref (ad 0)), (2, .ref (ae 0)), (3, .int x3')] → f_law_p1682 k18 L xs s' q' x3' y0' y2' y3' y4' y5' = some 1 → W p l e room_1 sS m #[Value.ref b] below meth c H locs 51 5492 (lw_Z below #[Value.ref b] sS) (F0 m 1682 ls [.int y5', .int y4', .int y3', .int y2', .ref (ae 0), .long y0']) := by
  intro s q x3 y0 y2 y3 y4 y5 H locs ls hw hl hf
  unfold f_law_p1682 at hf
  obtain ⟨v1, g2, hf⟩ := x_bind hf
  refine x_callV (pc := 1682) (As := [.int y2, .int y3, .int y4, .int y5]) (rest := [.long y0]) (st1 := [.long v1.1, .long y0]) (ws' := (cells7 G ad s ++ cells8 G ae v1.2)) E hw hl (c_X8_joined l G ae q y2 y3 y4 y5 g2) xv_L_203 xd_X8_joined rfl rfl ⟨Nat.le_of_ble_eq_true rfl, Nat.le_of_ble_eq_true rfl⟩ [31, 32, 33, 34, 35, 36, 37, 38, 39, 40, 41, 42, 43, 44, 45, 46, 47, 48, 49, 50] [0, 1, 2, 3, 4, 5, 6, 7, 8, 9, 10, 11, 12, 13, 14, 15, 16, 17, 18, 19, 20, 21, 22, 23, 24, 25, 26, 27, 28, 29, 30] (by decide) ⟨rfl, rfl, rfl, rfl, rfl, rfl, rfl, rfl, rfl, rfl, rfl, rfl, rfl, rfl, rfl, rfl, rfl, rfl, rfl, rfl, trivial⟩ (q0 := 31) rfl rfl rfl rfl (Nat.le_of_ble_eq_true rfl) (nw := 51) ⟨rfl, rfl, rfl, rfl, rfl, rfl, rfl, rfl, rfl, rfl, rfl, rfl, rfl, rfl, rfl, rfl, rfl, rfl, rfl, rfl, trivial⟩ ⟨⟨_, rfl, rfl⟩, ⟨_, rfl, rfl⟩, ⟨_, rfl, rfl⟩, ⟨_, rfl, rfl⟩, ⟨_, rfl, rfl⟩, ⟨_, rfl, rfl⟩, ⟨_, rfl, rfl⟩, ⟨_, rfl, rfl⟩, ⟨_, rfl, rfl⟩, ⟨_, rfl, rfl⟩, ⟨_, rfl, rfl⟩, ⟨_, rfl, rfl⟩, ⟨_, rfl, rfl⟩, ⟨_, rfl, rfl⟩, ⟨_, rfl, rfl⟩, ⟨_, rfl, rfl⟩, ⟨_, rfl, rfl⟩, ⟨_, rfl, rfl⟩, ⟨_, rfl, rfl⟩, ⟨_, rfl, rfl⟩, ⟨_, rfl, rfl⟩, ⟨_, rfl, rfl⟩, ⟨_, rfl, rfl⟩, ⟨_, rfl, rfl⟩, ⟨_, rfl, rfl⟩, ⟨_, rfl, rfl⟩, ⟨_, rfl, rfl⟩, ⟨_, rfl, rfl⟩, ⟨_, rfl, rfl⟩, ⟨_, rfl, rfl⟩, ⟨_, rfl, rfl⟩, trivial⟩ rfl rfl (by decide) (by decide) rfl dL_law_1682 (fun H locs hw => ?_) (hcs := ⟨Nat.le_refl _, Nat.le_refl _⟩)
  refine W.lcmp (pc := 1685) E.1 E.2.1 dL_law_1685 ?_
  refine lv_if_eq (tgt := 1816) (pc := 1686) E.1 E.2.1 dL_law_1686 (by decide) (fun q3 => ?_) (fun q3 => ?_)
  · have hf := x_pos q3 hf
    exact w_law_p1816 E hX hbl hr hk hk18 s v1.2 x3 hw (lv_sub hl [0, 1, 2, 3] rfl) hf
  · have hf := x_neg q3 hf
    refine lv_iconst (v := 0) (pc := 1689) E.1 E.2.1 dL_law_1689 (by decide) ?_
    exact absurd (Option.some.inj hf) (by decide)
set_option maxHeartbeats 4000000 in
set_option maxRecDepth 100000 in
theorem w_law_p1650 {p : Program} {l : Launch} {e : Env} {sS : State} {m : MethodId} {below : List Frame} {meth : Method} {c : Code} {G : xG} {ad ae : Nat → Nat} {b L : Nat} {xs : Nat → Int32} {k18 : S7 → S8 → Int32 → Option Int32} (E : xE p sS m #[Value.ref b] c cL_law 4 RL G (fun q => sS.heap.size ≤ q)) (hX : va_X b L xs sS sS.heap) (hbl : b < sS.heap.size) (hr : meth.sig.returnType = ret) (hk : meth.locks = false) (hk18 : ∀ (s' : S7) (q' : S8) (x3' : Int32) {H : Heap} {locs : List Loc} {ls : Array Slot}, xW G (fun q => sS.heap.size ≤ q) sS.heap (cells7 G ad s' ++ cells8 G ae q') H locs → lv_has ls 4 [(0, .ref b), (1, .ref (ad 0)), (2, .ref (ae 0)), (3, .int x3')] → k18  s' q' x3' = some 1 → W p l e room_1 sS m #[Value.ref b] below meth c H locs 51 5492 (lw_Z below #[Value.ref b] sS) (F0 m 18 ls [])) : ∀ (s' : S7) (q' : S8) (x3' : Int32) (y1' : Int32) (y2' : Int32) (y3' : Int32) (y4' : Int32) {H : Heap} {locs : List Loc} {ls : Array Slot}, xW G (fun q => sS.heap.size ≤ q) sS.heap (cells7 G ad s' ++ cells8 G ae q') H locs → lv_has ls 4 [(0, .ref b), (1, .ref (ad 0)), (2, .ref (ae 0)), (3, .int x3')] → f_law_p1650 k18 L xs s' q' x3' y1' y2' y3' y4' = some 1 → W p l e room_1 sS m #[Value.ref b] below meth c H locs 51 5492 (lw_Z below #[Value.ref b] sS) (F0 m 1650 ls [.int y4', .int y3', .int y2', .int y1', .ref (ad 0)]) := by
  intro s q x3 y1 y2 y3 y4 H locs ls hw hl hf
  unfold f_law_p1650 at hf
  obtain ⟨v1, g2, hf⟩ := x_bind hf
  refine x_callV (pc := 1650) (As := [.int y1, .int y2, .int y3, .int y4]) (rest := []) (st1 := [.long v1.1]) (ws' := (cells7 G ad v1.2 ++ cells8 G ae q)) E hw hl (c_X7_joined l G ad s y1 y2 y3 y4 g2) xv_L_199 xd_X7_joined rfl rfl ⟨Nat.le_of_ble_eq_true rfl, Nat.le_of_ble_eq_true rfl⟩ [0, 1, 2, 3, 4, 5, 6, 7, 8, 9, 10, 11, 12, 13, 14, 15, 16, 17, 18, 19, 20, 21, 22, 23, 24, 25, 26, 27, 28, 29, 30] [31, 32, 33, 34, 35, 36, 37, 38, 39, 40, 41, 42, 43, 44, 45, 46, 47, 48, 49, 50] (by decide) ⟨rfl, rfl, rfl, rfl, rfl, rfl, rfl, rfl, rfl, rfl, rfl, rfl, rfl, rfl, rfl, rfl, rfl, rfl, rfl, rfl, rfl, rfl, rfl, rfl, rfl, rfl, rfl, rfl, rfl, rfl, rfl, trivial⟩ (q0 := 0) rfl rfl rfl rfl (Nat.le_of_ble_eq_true rfl) (nw := 51) ⟨rfl, rfl, rfl, rfl, rfl, rfl, rfl, rfl, rfl, rfl, rfl, rfl, rfl, rfl, rfl, rfl, rfl, rfl, rfl, rfl, rfl, rfl, rfl, rfl, rfl, rfl, rfl, rfl, rfl, rfl, rfl, trivial⟩ ⟨⟨_, rfl, rfl⟩, ⟨_, rfl, rfl⟩, ⟨_, rfl, rfl⟩, ⟨_, rfl, rfl⟩, ⟨_, rfl, rfl⟩, ⟨_, rfl, rfl⟩, ⟨_, rfl, rfl⟩, ⟨_, rfl, rfl⟩, ⟨_, rfl, rfl⟩, ⟨_, rfl, rfl⟩, ⟨_, rfl, rfl⟩, ⟨_, rfl, rfl⟩, ⟨_, rfl, rfl⟩, ⟨_, rfl, rfl⟩, ⟨_, rfl, rfl⟩, ⟨_, rfl, rfl⟩, ⟨_, rfl, rfl⟩, ⟨_, rfl, rfl⟩, ⟨_, rfl, rfl⟩, ⟨_, rfl, rfl⟩, trivial⟩ rfl rfl (by decide) (by decide) rfl dL_law_1650 (fun H locs hw => ?_) (hcs := ⟨Nat.le_refl _, Nat.le_refl _⟩)
  refine lv_aload_n (pc := 1653) E.1 E.2.1 dL_law_1653 rfl (lv_at hl 2 rfl) ?_
  refine lv_aload_n (pc := 1654) E.1 E.2.1 dL_law_1654 rfl (lv_at hl 0 rfl) ?_
  refine lv_iload_n (pc := 1655) E.1 E.2.1 dL_law_1655 rfl (lv_at hl 3 rfl) ?_
  refine lv_iconst (v := 1) (pc := 1656) E.1 E.2.1 dL_law_1656 (by decide) ?_
  refine lv_iadd (pc := 1657) E.1 E.2.1 dL_law_1657 ?_
  obtain ⟨v4, g3, hf⟩ := x_bind hf
  refine x_sld (pc := 1658) E hX hbl hw g3 dL_law_1658 ?_
  refine lv_aload_n (pc := 1659) E.1 E.2.1 dL_law_1659 rfl (lv_at hl 0 rfl) ?_
  refine lv_iload_n (pc := 1660) E.1 E.2.1 dL_law_1660 rfl (lv_at hl 3 rfl) ?_
  refine lv_iconst (v := 2) (pc := 1661) E.1 E.2.1 dL_law_1661 (by decide) ?_
  refine lv_iadd (pc := 1662) E.1 E.2.1 dL_law_1662 ?_
  obtain ⟨v6, g5, hf⟩ := x_bind hf
  refine x_sld (pc := 1663) E hX hbl hw g5 dL_law_1663 ?_
  refine lv_aload_n (pc := 1664) E.1 E.2.1 dL_law_1664 rfl (lv_at hl 0 rfl) ?_
  refine lv_iload_n (pc := 1665) E.1 E.2.1 dL_law_1665 rfl (lv_at hl 3 rfl) ?_
  refine lv_iconst (v := 3) (pc := 1666) E.1 E.2.1 dL_law_1666 (by decide) ?_
  refine lv_iadd (pc := 1667) E.1 E.2.1 dL_law_1667 ?_
  obtain ⟨v8, g7, hf⟩ := x_bind hf
  refine x_sld (pc := 1668) E hX hbl hw g7 dL_law_1668 ?_
  refine lv_aload_n (pc := 1669) E.1 E.2.1 dL_law_1669 rfl (lv_at hl 0 rfl) ?_
  refine lv_iload_n (pc := 1670) E.1 E.2.1 dL_law_1670 rfl (lv_at hl 3 rfl) ?_
  refine lv_iconst (v := 4) (pc := 1671) E.1 E.2.1 dL_law_1671 (by decide) ?_
  refine lv_iadd (pc := 1672) E.1 E.2.1 dL_law_1672 ?_
  obtain ⟨v10, g9, hf⟩ := x_bind hf
  refine x_sld (pc := 1673) E hX hbl hw g9 dL_law_1673 ?_
  refine lv_if_eq (tgt := 1681) (pc := 1674) E.1 E.2.1 dL_law_1674 (by decide) (fun q11 => ?_) (fun q11 => ?_)
  · have hf := x_pos q11 hf
    refine lv_iconst (v := 0) (pc := 1681) E.1 E.2.1 dL_law_1681 (by decide) ?_
    exact w_law_p1682 E hX hbl hr hk hk18 v1.2 q x3 v1.1 v4 v6 v8 0 hw (lv_sub hl [0, 1, 2, 3] rfl) hf
  · have hf := x_neg q11 hf
    refine lv_iconst (v := 1) (pc := 1677) E.1 E.2.1 dL_law_1677 (by decide) ?_
    refine lv_goto (tgt := 1682) (pc := 1678) E.1 E.2.1 dL_law_1678 (by decide) ?_
    exact w_law_p1682 E hX hbl hr hk hk18 v1.2 q x3 v1.1 v4 v6 v8 1 hw (lv_sub hl [0, 1, 2, 3] rfl) hf
set_option maxHeartbeats 4000000 in
set_option maxRecDepth 100000 in
theorem w_law_p1621 {p : Program} {l : Launch} {e : Env} {sS : State} {m : MethodId} {below : List Frame} {meth : Method} {c : Code} {G : xG} {ad ae : Nat → Nat} {b L : Nat} {xs : Nat → Int32} {k18 : S7 → S8 → Int32 → Option Int32} (E : xE p sS m #[Value.ref b] c cL_law 4 RL G (fun q => sS.heap.size ≤ q)) (hX : va_X b L xs sS sS.heap) (hbl : b < sS.heap.size) (hr : meth.sig.returnType = ret) (hk : meth.locks = false) (hk18 : ∀ (s' : S7) (q' : S8) (x3' : Int32) {H : Heap} {locs : List Loc} {ls : Array Slot}, xW G (fun q => sS.heap.size ≤ q) sS.heap (cells7 G ad s' ++ cells8 G ae q') H locs → lv_has ls 4 [(0, .ref b), (1, .ref (ad 0)), (2, .ref (ae 0)), (3, .int x3')] → k18  s' q' x3' = some 1 → W p l e room_1 sS m #[Value.ref b] below meth c H locs 51 5492 (lw_Z below #[Value.ref b] sS) (F0 m 18 ls [])) : ∀ (s' : S7) (q' : S8) (x3' : Int32) {H : Heap} {locs : List Loc} {ls : Array Slot}, xW G (fun q => sS.heap.size ≤ q) sS.heap (cells7 G ad s' ++ cells8 G ae q') H locs → lv_has ls 4 [(0, .ref b), (1, .ref (ad 0)), (2, .ref (ae 0)), (3, .int x3')] → f_law_p1621 k18 L xs s' q' x3' = some 1 → W p l e room_1 sS m #[Value.ref b] below meth c H locs 51 5492 (lw_Z below #[Value.ref b] sS) (F0 m 1621 ls []) := by
  intro s q x3 H locs ls hw hl hf
  unfold f_law_p1621 at hf
  refine lv_aload_n (pc := 1621) E.1 E.2.1 dL_law_1621 rfl (lv_at hl 1 rfl) ?_
  refine lv_aload_n (pc := 1622) E.1 E.2.1 dL_law_1622 rfl (lv_at hl 0 rfl) ?_
  refine lv_iload_n (pc := 1623) E.1 E.2.1 dL_law_1623 rfl (lv_at hl 3 rfl) ?_
  refine lv_iconst (v := 1) (pc := 1624) E.1 E.2.1 dL_law_1624 (by decide) ?_
  refine lv_iadd (pc := 1625) E.1 E.2.1 dL_law_1625 ?_
  obtain ⟨v2, g1, hf⟩ := x_bind hf
  refine x_sld (pc := 1626) E hX hbl hw g1 dL_law_1626 ?_
  refine lv_aload_n (pc := 1627) E.1 E.2.1 dL_law_1627 rfl (lv_at hl 0 rfl) ?_
  refine lv_iload_n (pc := 1628) E.1 E.2.1 dL_law_1628 rfl (lv_at hl 3 rfl) ?_
  refine lv_iconst (v := 2) (pc := 1629) E.1 E.2.1 dL_law_1629 (by decide) ?_
  refine lv_iadd (pc := 1630) E.1 E.2.1 dL_law_1630 ?_
  obtain ⟨v4, g3, hf⟩ := x_bind hf
  refine x_sld (pc := 1631) E hX hbl hw g3 dL_law_1631 ?_
  refine lv_aload_n (pc := 1632) E.1 E.2.1 dL_law_1632 rfl (lv_at hl 0 rfl) ?_
  refine lv_iload_n (pc := 1633) E.1 E.2.1 dL_law_1633 rfl (lv_at hl 3 rfl) ?_
  refine lv_iconst (v := 3) (pc := 1634) E.1 E.2.1 dL_law_1634 (by decide) ?_
  refine lv_iadd (pc := 1635) E.1 E.2.1 dL_law_1635 ?_
  obtain ⟨v6, g5, hf⟩ := x_bind hf
  refine x_sld (pc := 1636) E hX hbl hw g5 dL_law_1636 ?_
  refine lv_aload_n (pc := 1637) E.1 E.2.1 dL_law_1637 rfl (lv_at hl 0 rfl) ?_
  refine lv_iload_n (pc := 1638) E.1 E.2.1 dL_law_1638 rfl (lv_at hl 3 rfl) ?_
  refine lv_iconst (v := 4) (pc := 1639) E.1 E.2.1 dL_law_1639 (by decide) ?_
  refine lv_iadd (pc := 1640) E.1 E.2.1 dL_law_1640 ?_
  obtain ⟨v8, g7, hf⟩ := x_bind hf
  refine x_sld (pc := 1641) E hX hbl hw g7 dL_law_1641 ?_
  refine lv_if_eq (tgt := 1649) (pc := 1642) E.1 E.2.1 dL_law_1642 (by decide) (fun q9 => ?_) (fun q9 => ?_)
  · have hf := x_pos q9 hf
    refine lv_iconst (v := 0) (pc := 1649) E.1 E.2.1 dL_law_1649 (by decide) ?_
    exact w_law_p1650 E hX hbl hr hk hk18 s q x3 v2 v4 v6 0 hw (lv_sub hl [0, 1, 2, 3] rfl) hf
  · have hf := x_neg q9 hf
    refine lv_iconst (v := 1) (pc := 1645) E.1 E.2.1 dL_law_1645 (by decide) ?_
    refine lv_goto (tgt := 1650) (pc := 1646) E.1 E.2.1 dL_law_1646 (by decide) ?_
    exact w_law_p1650 E hX hbl hr hk hk18 s q x3 v2 v4 v6 1 hw (lv_sub hl [0, 1, 2, 3] rfl) hf
set_option maxHeartbeats 4000000 in
set_option maxRecDepth 100000 in
theorem w_law_p1588 {p : Program} {l : Launch} {e : Env} {sS : State} {m : MethodId} {below : List Frame} {meth : Method} {c : Code} {G : xG} {ad ae : Nat → Nat} {b L : Nat} {xs : Nat → Int32} {k18 : S7 → S8 → Int32 → Option Int32} (E : xE p sS m #[Value.ref b] c cL_law 4 RL G (fun q => sS.heap.size ≤ q)) (hX : va_X b L xs sS sS.heap) (hbl : b < sS.heap.size) (hr : meth.sig.returnType = ret) (hk : meth.locks = false) (hk18 : ∀ (s' : S7) (q' : S8) (x3' : Int32) {H : Heap} {locs : List Loc} {ls : Array Slot}, xW G (fun q => sS.heap.size ≤ q) sS.heap (cells7 G ad s' ++ cells8 G ae q') H locs → lv_has ls 4 [(0, .ref b), (1, .ref (ad 0)), (2, .ref (ae 0)), (3, .int x3')] → k18  s' q' x3' = some 1 → W p l e room_1 sS m #[Value.ref b] below meth c H locs 51 5492 (lw_Z below #[Value.ref b] sS) (F0 m 18 ls [])) : ∀ (s' : S7) (q' : S8) (x3' : Int32) {H : Heap} {locs : List Loc} {ls : Array Slot}, xW G (fun q => sS.heap.size ≤ q) sS.heap (cells7 G ad s' ++ cells8 G ae q') H locs → lv_has ls 4 [(0, .ref b), (1, .ref (ad 0)), (2, .ref (ae 0)), (3, .int x3')] → f_law_p1588 k18 L xs s' q' x3' = some 1 → W p l e room_1 sS m #[Value.ref b] below meth c H locs 51 5492 (lw_Z below #[Value.ref b] sS) (F0 m 1588 ls []) := by
  intro s q x3 H locs ls hw hl hf
  unfold f_law_p1588 at hf
  refine lv_aload_n (pc := 1588) E.1 E.2.1 dL_law_1588 rfl (lv_at hl 1 rfl) ?_
  refine lv_aload_n (pc := 1589) E.1 E.2.1 dL_law_1589 rfl (lv_at hl 0 rfl) ?_
  refine lv_iload_n (pc := 1590) E.1 E.2.1 dL_law_1590 rfl (lv_at hl 3 rfl) ?_
  refine lv_iconst (v := 1) (pc := 1591) E.1 E.2.1 dL_law_1591 (by decide) ?_
  refine lv_iadd (pc := 1592) E.1 E.2.1 dL_law_1592 ?_
  obtain ⟨v2, g1, hf⟩ := x_bind hf
  refine x_sld (pc := 1593) E hX hbl hw g1 dL_law_1593 ?_
  refine lv_aload_n (pc := 1594) E.1 E.2.1 dL_law_1594 rfl (lv_at hl 0 rfl) ?_
  refine lv_iload_n (pc := 1595) E.1 E.2.1 dL_law_1595 rfl (lv_at hl 3 rfl) ?_
  refine lv_iconst (v := 2) (pc := 1596) E.1 E.2.1 dL_law_1596 (by decide) ?_
  refine lv_iadd (pc := 1597) E.1 E.2.1 dL_law_1597 ?_
  obtain ⟨v4, g3, hf⟩ := x_bind hf
  refine x_sld (pc := 1598) E hX hbl hw g3 dL_law_1598 ?_
  obtain ⟨v5, g6, hf⟩ := x_bind hf
  refine x_callV (pc := 1599) (As := [.int v2, .int v4]) (rest := []) (st1 := [.int v5.1]) (ws' := (cells7 G ad v5.2 ++ cells8 G ae q)) E hw hl (c_X7_withoutFleet l G ad s v2 v4 g6) xv_L_195 xd_X7_withoutFleet rfl rfl ⟨Nat.le_of_ble_eq_true rfl, Nat.le_of_ble_eq_true rfl⟩ [0, 1, 2, 3, 4, 5, 6, 7, 8, 9, 10, 11, 12, 13, 14, 15, 16, 17, 18, 19, 20, 21, 22, 23, 24, 25, 26, 27, 28, 29, 30] [31, 32, 33, 34, 35, 36, 37, 38, 39, 40, 41, 42, 43, 44, 45, 46, 47, 48, 49, 50] (by decide) ⟨rfl, rfl, rfl, rfl, rfl, rfl, rfl, rfl, rfl, rfl, rfl, rfl, rfl, rfl, rfl, rfl, rfl, rfl, rfl, rfl, rfl, rfl, rfl, rfl, rfl, rfl, rfl, rfl, rfl, rfl, rfl, trivial⟩ (q0 := 0) rfl rfl rfl rfl (Nat.le_of_ble_eq_true rfl) (nw := 51) ⟨rfl, rfl, rfl, rfl, rfl, rfl, rfl, rfl, rfl, rfl, rfl, rfl, rfl, rfl, rfl, rfl, rfl, rfl, rfl, rfl, rfl, rfl, rfl, rfl, rfl, rfl, rfl, rfl, rfl, rfl, rfl, trivial⟩ ⟨⟨_, rfl, rfl⟩, ⟨_, rfl, rfl⟩, ⟨_, rfl, rfl⟩, ⟨_, rfl, rfl⟩, ⟨_, rfl, rfl⟩, ⟨_, rfl, rfl⟩, ⟨_, rfl, rfl⟩, ⟨_, rfl, rfl⟩, ⟨_, rfl, rfl⟩, ⟨_, rfl, rfl⟩, ⟨_, rfl, rfl⟩, ⟨_, rfl, rfl⟩, ⟨_, rfl, rfl⟩, ⟨_, rfl, rfl⟩, ⟨_, rfl, rfl⟩, ⟨_, rfl, rfl⟩, ⟨_, rfl, rfl⟩, ⟨_, rfl, rfl⟩, ⟨_, rfl, rfl⟩, ⟨_, rfl, rfl⟩, trivial⟩ rfl rfl (by decide) (by decide) rfl dL_law_1599 (fun H locs hw => ?_) (hcs := ⟨Nat.le_refl _, Nat.le_refl _⟩)
  refine lv_aload_n (pc := 1602) E.1 E.2.1 dL_law_1602 rfl (lv_at hl 2 rfl) ?_
  refine lv_aload_n (pc := 1603) E.1 E.2.1 dL_law_1603 rfl (lv_at hl 0 rfl) ?_
  refine lv_iload_n (pc := 1604) E.1 E.2.1 dL_law_1604 rfl (lv_at hl 3 rfl) ?_
  refine lv_iconst (v := 1) (pc := 1605) E.1 E.2.1 dL_law_1605 (by decide) ?_
  refine lv_iadd (pc := 1606) E.1 E.2.1 dL_law_1606 ?_
  obtain ⟨v8, g7, hf⟩ := x_bind hf
  refine x_sld (pc := 1607) E hX hbl hw g7 dL_law_1607 ?_
  refine lv_aload_n (pc := 1608) E.1 E.2.1 dL_law_1608 rfl (lv_at hl 0 rfl) ?_
  refine lv_iload_n (pc := 1609) E.1 E.2.1 dL_law_1609 rfl (lv_at hl 3 rfl) ?_
  refine lv_iconst (v := 2) (pc := 1610) E.1 E.2.1 dL_law_1610 (by decide) ?_
  refine lv_iadd (pc := 1611) E.1 E.2.1 dL_law_1611 ?_
  obtain ⟨v10, g9, hf⟩ := x_bind hf
  refine x_sld (pc := 1612) E hX hbl hw g9 dL_law_1612 ?_
  obtain ⟨v11, g12, hf⟩ := x_bind hf
  refine x_callV (pc := 1613) (As := [.int v8, .int v10]) (rest := [.int v5.1]) (st1 := [.int v11.1, .int v5.1]) (ws' := (cells7 G ad v5.2 ++ cells8 G ae v11.2)) E hw hl (c_X8_withoutFleet l G ae q v8 v10 g12) xv_L_198 xd_X8_withoutFleet rfl rfl ⟨Nat.le_of_ble_eq_true rfl, Nat.le_of_ble_eq_true rfl⟩ [31, 32, 33, 34, 35, 36, 37, 38, 39, 40, 41, 42, 43, 44, 45, 46, 47, 48, 49, 50] [0, 1, 2, 3, 4, 5, 6, 7, 8, 9, 10, 11, 12, 13, 14, 15, 16, 17, 18, 19, 20, 21, 22, 23, 24, 25, 26, 27, 28, 29, 30] (by decide) ⟨rfl, rfl, rfl, rfl, rfl, rfl, rfl, rfl, rfl, rfl, rfl, rfl, rfl, rfl, rfl, rfl, rfl, rfl, rfl, rfl, trivial⟩ (q0 := 31) rfl rfl rfl rfl (Nat.le_of_ble_eq_true rfl) (nw := 51) ⟨rfl, rfl, rfl, rfl, rfl, rfl, rfl, rfl, rfl, rfl, rfl, rfl, rfl, rfl, rfl, rfl, rfl, rfl, rfl, rfl, trivial⟩ ⟨⟨_, rfl, rfl⟩, ⟨_, rfl, rfl⟩, ⟨_, rfl, rfl⟩, ⟨_, rfl, rfl⟩, ⟨_, rfl, rfl⟩, ⟨_, rfl, rfl⟩, ⟨_, rfl, rfl⟩, ⟨_, rfl, rfl⟩, ⟨_, rfl, rfl⟩, ⟨_, rfl, rfl⟩, ⟨_, rfl, rfl⟩, ⟨_, rfl, rfl⟩, ⟨_, rfl, rfl⟩, ⟨_, rfl, rfl⟩, ⟨_, rfl, rfl⟩, ⟨_, rfl, rfl⟩, ⟨_, rfl, rfl⟩, ⟨_, rfl, rfl⟩, ⟨_, rfl, rfl⟩, ⟨_, rfl, rfl⟩, ⟨_, rfl, rfl⟩, ⟨_, rfl, rfl⟩, ⟨_, rfl, rfl⟩, ⟨_, rfl, rfl⟩, ⟨_, rfl, rfl⟩, ⟨_, rfl, rfl⟩, ⟨_, rfl, rfl⟩, ⟨_, rfl, rfl⟩, ⟨_, rfl, rfl⟩, ⟨_, rfl, rfl⟩, ⟨_, rfl, rfl⟩, trivial⟩ rfl rfl (by decide) (by decide) rfl dL_law_1613 (fun H locs hw => ?_) (hcs := ⟨Nat.le_refl _, Nat.le_refl _⟩)
  refine lv_icmp_eq (tgt := 1816) (pc := 1616) E.1 E.2.1 dL_law_1616 (by decide) (fun q13 => ?_) (fun q13 => ?_)
  · have hf := x_pos q13 hf
    exact w_law_p1816 E hX hbl hr hk hk18 v5.2 v11.2 x3 hw (lv_sub hl [0, 1, 2, 3] rfl) hf
  · have hf := x_neg q13 hf
    refine lv_iconst (v := 0) (pc := 1619) E.1 E.2.1 dL_law_1619 (by decide) ?_
    exact absurd (Option.some.inj hf) (by decide)
set_option maxHeartbeats 4000000 in
set_option maxRecDepth 100000 in
theorem w_law_p1555 {p : Program} {l : Launch} {e : Env} {sS : State} {m : MethodId} {below : List Frame} {meth : Method} {c : Code} {G : xG} {ad ae : Nat → Nat} {b L : Nat} {xs : Nat → Int32} {k18 : S7 → S8 → Int32 → Option Int32} (E : xE p sS m #[Value.ref b] c cL_law 4 RL G (fun q => sS.heap.size ≤ q)) (hX : va_X b L xs sS sS.heap) (hbl : b < sS.heap.size) (hr : meth.sig.returnType = ret) (hk : meth.locks = false) (hk18 : ∀ (s' : S7) (q' : S8) (x3' : Int32) {H : Heap} {locs : List Loc} {ls : Array Slot}, xW G (fun q => sS.heap.size ≤ q) sS.heap (cells7 G ad s' ++ cells8 G ae q') H locs → lv_has ls 4 [(0, .ref b), (1, .ref (ad 0)), (2, .ref (ae 0)), (3, .int x3')] → k18  s' q' x3' = some 1 → W p l e room_1 sS m #[Value.ref b] below meth c H locs 51 5492 (lw_Z below #[Value.ref b] sS) (F0 m 18 ls [])) : ∀ (s' : S7) (q' : S8) (x3' : Int32) {H : Heap} {locs : List Loc} {ls : Array Slot}, xW G (fun q => sS.heap.size ≤ q) sS.heap (cells7 G ad s' ++ cells8 G ae q') H locs → lv_has ls 4 [(0, .ref b), (1, .ref (ad 0)), (2, .ref (ae 0)), (3, .int x3')] → f_law_p1555 k18 L xs s' q' x3' = some 1 → W p l e room_1 sS m #[Value.ref b] below meth c H locs 51 5492 (lw_Z below #[Value.ref b] sS) (F0 m 1555 ls []) := by
  intro s q x3 H locs ls hw hl hf
  unfold f_law_p1555 at hf
  refine lv_aload_n (pc := 1555) E.1 E.2.1 dL_law_1555 rfl (lv_at hl 1 rfl) ?_
  refine lv_aload_n (pc := 1556) E.1 E.2.1 dL_law_1556 rfl (lv_at hl 0 rfl) ?_
  refine lv_iload_n (pc := 1557) E.1 E.2.1 dL_law_1557 rfl (lv_at hl 3 rfl) ?_
  refine lv_iconst (v := 1) (pc := 1558) E.1 E.2.1 dL_law_1558 (by decide) ?_
  refine lv_iadd (pc := 1559) E.1 E.2.1 dL_law_1559 ?_
  obtain ⟨v2, g1, hf⟩ := x_bind hf
  refine x_sld (pc := 1560) E hX hbl hw g1 dL_law_1560 ?_
  refine lv_aload_n (pc := 1561) E.1 E.2.1 dL_law_1561 rfl (lv_at hl 0 rfl) ?_
  refine lv_iload_n (pc := 1562) E.1 E.2.1 dL_law_1562 rfl (lv_at hl 3 rfl) ?_
  refine lv_iconst (v := 2) (pc := 1563) E.1 E.2.1 dL_law_1563 (by decide) ?_
  refine lv_iadd (pc := 1564) E.1 E.2.1 dL_law_1564 ?_
  obtain ⟨v4, g3, hf⟩ := x_bind hf
  refine x_sld (pc := 1565) E hX hbl hw g3 dL_law_1565 ?_
  obtain ⟨v5, g6, hf⟩ := x_bind hf
  refine x_callV (pc := 1566) (As := [.int v2, .int v4]) (rest := []) (st1 := [.int v5.1]) (ws' := (cells7 G ad v5.2 ++ cells8 G ae q)) E hw hl (c_X7_earlyShare l G ad s v2 v4 g6) xv_L_191 xd_X7_earlyShare rfl rfl ⟨Nat.le_of_ble_eq_true rfl, Nat.le_of_ble_eq_true rfl⟩ [0, 1, 2, 3, 4, 5, 6, 7, 8, 9, 10, 11, 12, 13, 14, 15, 16, 17, 18, 19, 20, 21, 22, 23, 24, 25, 26, 27, 28, 29, 30] [31, 32, 33, 34, 35, 36, 37, 38, 39, 40, 41, 42, 43, 44, 45, 46, 47, 48, 49, 50] (by decide) ⟨rfl, rfl, rfl, rfl, rfl, rfl, rfl, rfl, rfl, rfl, rfl, rfl, rfl, rfl, rfl, rfl, rfl, rfl, rfl, rfl, rfl, rfl, rfl, rfl, rfl, rfl, rfl, rfl, rfl, rfl, rfl, trivial⟩ (q0 := 0) rfl rfl rfl rfl (Nat.le_of_ble_eq_true rfl) (nw := 51) ⟨rfl, rfl, rfl, rfl, rfl, rfl, rfl, rfl, rfl, rfl, rfl, rfl, rfl, rfl, rfl, rfl, rfl, rfl, rfl, rfl, rfl, rfl, rfl, rfl, rfl, rfl, rfl, rfl, rfl, rfl, rfl, trivial⟩ ⟨⟨_, rfl, rfl⟩, ⟨_, rfl, rfl⟩, ⟨_, rfl, rfl⟩, ⟨_, rfl, rfl⟩, ⟨_, rfl, rfl⟩, ⟨_, rfl, rfl⟩, ⟨_, rfl, rfl⟩, ⟨_, rfl, rfl⟩, ⟨_, rfl, rfl⟩, ⟨_, rfl, rfl⟩, ⟨_, rfl, rfl⟩, ⟨_, rfl, rfl⟩, ⟨_, rfl, rfl⟩, ⟨_, rfl, rfl⟩, ⟨_, rfl, rfl⟩, ⟨_, rfl, rfl⟩, ⟨_, rfl, rfl⟩, ⟨_, rfl, rfl⟩, ⟨_, rfl, rfl⟩, ⟨_, rfl, rfl⟩, trivial⟩ rfl rfl (by decide) (by decide) rfl dL_law_1566 (fun H locs hw => ?_) (hcs := ⟨Nat.le_refl _, Nat.le_refl _⟩)
  refine lv_aload_n (pc := 1569) E.1 E.2.1 dL_law_1569 rfl (lv_at hl 2 rfl) ?_
  refine lv_aload_n (pc := 1570) E.1 E.2.1 dL_law_1570 rfl (lv_at hl 0 rfl) ?_
  refine lv_iload_n (pc := 1571) E.1 E.2.1 dL_law_1571 rfl (lv_at hl 3 rfl) ?_
  refine lv_iconst (v := 1) (pc := 1572) E.1 E.2.1 dL_law_1572 (by decide) ?_
  refine lv_iadd (pc := 1573) E.1 E.2.1 dL_law_1573 ?_
  obtain ⟨v8, g7, hf⟩ := x_bind hf
  refine x_sld (pc := 1574) E hX hbl hw g7 dL_law_1574 ?_
  refine lv_aload_n (pc := 1575) E.1 E.2.1 dL_law_1575 rfl (lv_at hl 0 rfl) ?_
  refine lv_iload_n (pc := 1576) E.1 E.2.1 dL_law_1576 rfl (lv_at hl 3 rfl) ?_
  refine lv_iconst (v := 2) (pc := 1577) E.1 E.2.1 dL_law_1577 (by decide) ?_
  refine lv_iadd (pc := 1578) E.1 E.2.1 dL_law_1578 ?_
  obtain ⟨v10, g9, hf⟩ := x_bind hf
  refine x_sld (pc := 1579) E hX hbl hw g9 dL_law_1579 ?_
  obtain ⟨v11, g12, hf⟩ := x_bind hf
  refine x_callV (pc := 1580) (As := [.int v8, .int v10]) (rest := [.int v5.1]) (st1 := [.int v11.1, .int v5.1]) (ws' := (cells7 G ad v5.2 ++ cells8 G ae v11.2)) E hw hl (c_X8_earlyShare l G ae q v8 v10 g12) xv_L_194 xd_X8_earlyShare rfl rfl ⟨Nat.le_of_ble_eq_true rfl, Nat.le_of_ble_eq_true rfl⟩ [31, 32, 33, 34, 35, 36, 37, 38, 39, 40, 41, 42, 43, 44, 45, 46, 47, 48, 49, 50] [0, 1, 2, 3, 4, 5, 6, 7, 8, 9, 10, 11, 12, 13, 14, 15, 16, 17, 18, 19, 20, 21, 22, 23, 24, 25, 26, 27, 28, 29, 30] (by decide) ⟨rfl, rfl, rfl, rfl, rfl, rfl, rfl, rfl, rfl, rfl, rfl, rfl, rfl, rfl, rfl, rfl, rfl, rfl, rfl, rfl, trivial⟩ (q0 := 31) rfl rfl rfl rfl (Nat.le_of_ble_eq_true rfl) (nw := 51) ⟨rfl, rfl, rfl, rfl, rfl, rfl, rfl, rfl, rfl, rfl, rfl, rfl, rfl, rfl, rfl, rfl, rfl, rfl, rfl, rfl, trivial⟩ ⟨⟨_, rfl, rfl⟩, ⟨_, rfl, rfl⟩, ⟨_, rfl, rfl⟩, ⟨_, rfl, rfl⟩, ⟨_, rfl, rfl⟩, ⟨_, rfl, rfl⟩, ⟨_, rfl, rfl⟩, ⟨_, rfl, rfl⟩, ⟨_, rfl, rfl⟩, ⟨_, rfl, rfl⟩, ⟨_, rfl, rfl⟩, ⟨_, rfl, rfl⟩, ⟨_, rfl, rfl⟩, ⟨_, rfl, rfl⟩, ⟨_, rfl, rfl⟩, ⟨_, rfl, rfl⟩, ⟨_, rfl, rfl⟩, ⟨_, rfl, rfl⟩, ⟨_, rfl, rfl⟩, ⟨_, rfl, rfl⟩, ⟨_, rfl, rfl⟩, ⟨_, rfl, rfl⟩, ⟨_, rfl, rfl⟩, ⟨_, rfl, rfl⟩, ⟨_, rfl, rfl⟩, ⟨_, rfl, rfl⟩, ⟨_, rfl, rfl⟩, ⟨_, rfl, rfl⟩, ⟨_, rfl, rfl⟩, ⟨_, rfl, rfl⟩, ⟨_, rfl, rfl⟩, trivial⟩ rfl rfl (by decide) (by decide) rfl dL_law_1580 (fun H locs hw => ?_) (hcs := ⟨Nat.le_refl _, Nat.le_refl _⟩)
  refine lv_icmp_eq (tgt := 1816) (pc := 1583) E.1 E.2.1 dL_law_1583 (by decide) (fun q13 => ?_) (fun q13 => ?_)
  · have hf := x_pos q13 hf
    exact w_law_p1816 E hX hbl hr hk hk18 v5.2 v11.2 x3 hw (lv_sub hl [0, 1, 2, 3] rfl) hf
  · have hf := x_neg q13 hf
    refine lv_iconst (v := 0) (pc := 1586) E.1 E.2.1 dL_law_1586 (by decide) ?_
    exact absurd (Option.some.inj hf) (by decide)
set_option maxHeartbeats 4000000 in
set_option maxRecDepth 100000 in
theorem w_law_p1522 {p : Program} {l : Launch} {e : Env} {sS : State} {m : MethodId} {below : List Frame} {meth : Method} {c : Code} {G : xG} {ad ae : Nat → Nat} {b L : Nat} {xs : Nat → Int32} {k18 : S7 → S8 → Int32 → Option Int32} (E : xE p sS m #[Value.ref b] c cL_law 4 RL G (fun q => sS.heap.size ≤ q)) (hX : va_X b L xs sS sS.heap) (hbl : b < sS.heap.size) (hr : meth.sig.returnType = ret) (hk : meth.locks = false) (hk18 : ∀ (s' : S7) (q' : S8) (x3' : Int32) {H : Heap} {locs : List Loc} {ls : Array Slot}, xW G (fun q => sS.heap.size ≤ q) sS.heap (cells7 G ad s' ++ cells8 G ae q') H locs → lv_has ls 4 [(0, .ref b), (1, .ref (ad 0)), (2, .ref (ae 0)), (3, .int x3')] → k18  s' q' x3' = some 1 → W p l e room_1 sS m #[Value.ref b] below meth c H locs 51 5492 (lw_Z below #[Value.ref b] sS) (F0 m 18 ls [])) : ∀ (s' : S7) (q' : S8) (x3' : Int32) {H : Heap} {locs : List Loc} {ls : Array Slot}, xW G (fun q => sS.heap.size ≤ q) sS.heap (cells7 G ad s' ++ cells8 G ae q') H locs → lv_has ls 4 [(0, .ref b), (1, .ref (ad 0)), (2, .ref (ae 0)), (3, .int x3')] → f_law_p1522 k18 L xs s' q' x3' = some 1 → W p l e room_1 sS m #[Value.ref b] below meth c H locs 51 5492 (lw_Z below #[Value.ref b] sS) (F0 m 1522 ls []) := by
  intro s q x3 H locs ls hw hl hf
  unfold f_law_p1522 at hf
  refine lv_aload_n (pc := 1522) E.1 E.2.1 dL_law_1522 rfl (lv_at hl 1 rfl) ?_
  refine lv_aload_n (pc := 1523) E.1 E.2.1 dL_law_1523 rfl (lv_at hl 0 rfl) ?_
  refine lv_iload_n (pc := 1524) E.1 E.2.1 dL_law_1524 rfl (lv_at hl 3 rfl) ?_
  refine lv_iconst (v := 1) (pc := 1525) E.1 E.2.1 dL_law_1525 (by decide) ?_
  refine lv_iadd (pc := 1526) E.1 E.2.1 dL_law_1526 ?_
  obtain ⟨v2, g1, hf⟩ := x_bind hf
  refine x_sld (pc := 1527) E hX hbl hw g1 dL_law_1527 ?_
  refine lv_aload_n (pc := 1528) E.1 E.2.1 dL_law_1528 rfl (lv_at hl 0 rfl) ?_
  refine lv_iload_n (pc := 1529) E.1 E.2.1 dL_law_1529 rfl (lv_at hl 3 rfl) ?_
  refine lv_iconst (v := 2) (pc := 1530) E.1 E.2.1 dL_law_1530 (by decide) ?_
  refine lv_iadd (pc := 1531) E.1 E.2.1 dL_law_1531 ?_
  obtain ⟨v4, g3, hf⟩ := x_bind hf
  refine x_sld (pc := 1532) E hX hbl hw g3 dL_law_1532 ?_
  obtain ⟨v5, g6, hf⟩ := x_bind hf
  refine x_callV (pc := 1533) (As := [.int v2, .int v4]) (rest := []) (st1 := [.int v5.1]) (ws' := (cells7 G ad v5.2 ++ cells8 G ae q)) E hw hl (c_X7_early l G ad s v2 v4 g6) xv_L_187 xd_X7_early rfl rfl ⟨Nat.le_of_ble_eq_true rfl, Nat.le_of_ble_eq_true rfl⟩ [0, 1, 2, 3, 4, 5, 6, 7, 8, 9, 10, 11, 12, 13, 14, 15, 16, 17, 18, 19, 20, 21, 22, 23, 24, 25, 26, 27, 28, 29, 30] [31, 32, 33, 34, 35, 36, 37, 38, 39, 40, 41, 42, 43, 44, 45, 46, 47, 48, 49, 50] (by decide) ⟨rfl, rfl, rfl, rfl, rfl, rfl, rfl, rfl, rfl, rfl, rfl, rfl, rfl, rfl, rfl, rfl, rfl, rfl, rfl, rfl, rfl, rfl, rfl, rfl, rfl, rfl, rfl, rfl, rfl, rfl, rfl, trivial⟩ (q0 := 0) rfl rfl rfl rfl (Nat.le_of_ble_eq_true rfl) (nw := 51) ⟨rfl, rfl, rfl, rfl, rfl, rfl, rfl, rfl, rfl, rfl, rfl, rfl, rfl, rfl, rfl, rfl, rfl, rfl, rfl, rfl, rfl, rfl, rfl, rfl, rfl, rfl, rfl, rfl, rfl, rfl, rfl, trivial⟩ ⟨⟨_, rfl, rfl⟩, ⟨_, rfl, rfl⟩, ⟨_, rfl, rfl⟩, ⟨_, rfl, rfl⟩, ⟨_, rfl, rfl⟩, ⟨_, rfl, rfl⟩, ⟨_, rfl, rfl⟩, ⟨_, rfl, rfl⟩, ⟨_, rfl, rfl⟩, ⟨_, rfl, rfl⟩, ⟨_, rfl, rfl⟩, ⟨_, rfl, rfl⟩, ⟨_, rfl, rfl⟩, ⟨_, rfl, rfl⟩, ⟨_, rfl, rfl⟩, ⟨_, rfl, rfl⟩, ⟨_, rfl, rfl⟩, ⟨_, rfl, rfl⟩, ⟨_, rfl, rfl⟩, ⟨_, rfl, rfl⟩, trivial⟩ rfl rfl (by decide) (by decide) rfl dL_law_1533 (fun H locs hw => ?_) (hcs := ⟨Nat.le_refl _, Nat.le_refl _⟩)
  refine lv_aload_n (pc := 1536) E.1 E.2.1 dL_law_1536 rfl (lv_at hl 2 rfl) ?_
  refine lv_aload_n (pc := 1537) E.1 E.2.1 dL_law_1537 rfl (lv_at hl 0 rfl) ?_
  refine lv_iload_n (pc := 1538) E.1 E.2.1 dL_law_1538 rfl (lv_at hl 3 rfl) ?_
  refine lv_iconst (v := 1) (pc := 1539) E.1 E.2.1 dL_law_1539 (by decide) ?_
  refine lv_iadd (pc := 1540) E.1 E.2.1 dL_law_1540 ?_
  obtain ⟨v8, g7, hf⟩ := x_bind hf
  refine x_sld (pc := 1541) E hX hbl hw g7 dL_law_1541 ?_
  refine lv_aload_n (pc := 1542) E.1 E.2.1 dL_law_1542 rfl (lv_at hl 0 rfl) ?_
  refine lv_iload_n (pc := 1543) E.1 E.2.1 dL_law_1543 rfl (lv_at hl 3 rfl) ?_
  refine lv_iconst (v := 2) (pc := 1544) E.1 E.2.1 dL_law_1544 (by decide) ?_
  refine lv_iadd (pc := 1545) E.1 E.2.1 dL_law_1545 ?_
  obtain ⟨v10, g9, hf⟩ := x_bind hf
  refine x_sld (pc := 1546) E hX hbl hw g9 dL_law_1546 ?_
  obtain ⟨v11, g12, hf⟩ := x_bind hf
  refine x_callV (pc := 1547) (As := [.int v8, .int v10]) (rest := [.int v5.1]) (st1 := [.int v11.1, .int v5.1]) (ws' := (cells7 G ad v5.2 ++ cells8 G ae v11.2)) E hw hl (c_X8_early l G ae q v8 v10 g12) xv_L_190 xd_X8_early rfl rfl ⟨Nat.le_of_ble_eq_true rfl, Nat.le_of_ble_eq_true rfl⟩ [31, 32, 33, 34, 35, 36, 37, 38, 39, 40, 41, 42, 43, 44, 45, 46, 47, 48, 49, 50] [0, 1, 2, 3, 4, 5, 6, 7, 8, 9, 10, 11, 12, 13, 14, 15, 16, 17, 18, 19, 20, 21, 22, 23, 24, 25, 26, 27, 28, 29, 30] (by decide) ⟨rfl, rfl, rfl, rfl, rfl, rfl, rfl, rfl, rfl, rfl, rfl, rfl, rfl, rfl, rfl, rfl, rfl, rfl, rfl, rfl, trivial⟩ (q0 := 31) rfl rfl rfl rfl (Nat.le_of_ble_eq_true rfl) (nw := 51) ⟨rfl, rfl, rfl, rfl, rfl, rfl, rfl, rfl, rfl, rfl, rfl, rfl, rfl, rfl, rfl, rfl, rfl, rfl, rfl, rfl, trivial⟩ ⟨⟨_, rfl, rfl⟩, ⟨_, rfl, rfl⟩, ⟨_, rfl, rfl⟩, ⟨_, rfl, rfl⟩, ⟨_, rfl, rfl⟩, ⟨_, rfl, rfl⟩, ⟨_, rfl, rfl⟩, ⟨_, rfl, rfl⟩, ⟨_, rfl, rfl⟩, ⟨_, rfl, rfl⟩, ⟨_, rfl, rfl⟩, ⟨_, rfl, rfl⟩, ⟨_, rfl, rfl⟩, ⟨_, rfl, rfl⟩, ⟨_, rfl, rfl⟩, ⟨_, rfl, rfl⟩, ⟨_, rfl, rfl⟩, ⟨_, rfl, rfl⟩, ⟨_, rfl, rfl⟩, ⟨_, rfl, rfl⟩, ⟨_, rfl, rfl⟩, ⟨_, rfl, rfl⟩, ⟨_, rfl, rfl⟩, ⟨_, rfl, rfl⟩, ⟨_, rfl, rfl⟩, ⟨_, rfl, rfl⟩, ⟨_, rfl, rfl⟩, ⟨_, rfl, rfl⟩, ⟨_, rfl, rfl⟩, ⟨_, rfl, rfl⟩, ⟨_, rfl, rfl⟩, trivial⟩ rfl rfl (by decide) (by decide) rfl dL_law_1547 (fun H locs hw => ?_) (hcs := ⟨Nat.le_refl _, Nat.le_refl _⟩)
  refine lv_icmp_eq (tgt := 1816) (pc := 1550) E.1 E.2.1 dL_law_1550 (by decide) (fun q13 => ?_) (fun q13 => ?_)
  · have hf := x_pos q13 hf
    exact w_law_p1816 E hX hbl hr hk hk18 v5.2 v11.2 x3 hw (lv_sub hl [0, 1, 2, 3] rfl) hf
  · have hf := x_neg q13 hf
    refine lv_iconst (v := 0) (pc := 1553) E.1 E.2.1 dL_law_1553 (by decide) ?_
    exact absurd (Option.some.inj hf) (by decide)
set_option maxHeartbeats 4000000 in
set_option maxRecDepth 100000 in
theorem w_law_p1499 {p : Program} {l : Launch} {e : Env} {sS : State} {m : MethodId} {below : List Frame} {meth : Method} {c : Code} {G : xG} {ad ae : Nat → Nat} {b L : Nat} {xs : Nat → Int32} {k18 : S7 → S8 → Int32 → Option Int32} (E : xE p sS m #[Value.ref b] c cL_law 4 RL G (fun q => sS.heap.size ≤ q)) (hX : va_X b L xs sS sS.heap) (hbl : b < sS.heap.size) (hr : meth.sig.returnType = ret) (hk : meth.locks = false) (hk18 : ∀ (s' : S7) (q' : S8) (x3' : Int32) {H : Heap} {locs : List Loc} {ls : Array Slot}, xW G (fun q => sS.heap.size ≤ q) sS.heap (cells7 G ad s' ++ cells8 G ae q') H locs → lv_has ls 4 [(0, .ref b), (1, .ref (ad 0)), (2, .ref (ae 0)), (3, .int x3')] → k18  s' q' x3' = some 1 → W p l e room_1 sS m #[Value.ref b] below meth c H locs 51 5492 (lw_Z below #[Value.ref b] sS) (F0 m 18 ls [])) : ∀ (s' : S7) (q' : S8) (x3' : Int32) {H : Heap} {locs : List Loc} {ls : Array Slot}, xW G (fun q => sS.heap.size ≤ q) sS.heap (cells7 G ad s' ++ cells8 G ae q') H locs → lv_has ls 4 [(0, .ref b), (1, .ref (ad 0)), (2, .ref (ae 0)), (3, .int x3')] → f_law_p1499 k18 L xs s' q' x3' = some 1 → W p l e room_1 sS m #[Value.ref b] below meth c H locs 51 5492 (lw_Z below #[Value.ref b] sS) (F0 m 1499 ls []) := by
  intro s q x3 H locs ls hw hl hf
  unfold f_law_p1499 at hf
  refine lv_aload_n (pc := 1499) E.1 E.2.1 dL_law_1499 rfl (lv_at hl 1 rfl) ?_
  refine lv_aload_n (pc := 1500) E.1 E.2.1 dL_law_1500 rfl (lv_at hl 0 rfl) ?_
  refine lv_iload_n (pc := 1501) E.1 E.2.1 dL_law_1501 rfl (lv_at hl 3 rfl) ?_
  refine lv_iconst (v := 1) (pc := 1502) E.1 E.2.1 dL_law_1502 (by decide) ?_
  refine lv_iadd (pc := 1503) E.1 E.2.1 dL_law_1503 ?_
  obtain ⟨v2, g1, hf⟩ := x_bind hf
  refine x_sld (pc := 1504) E hX hbl hw g1 dL_law_1504 ?_
  obtain ⟨v3, g4, hf⟩ := x_bind hf
  refine x_callV (pc := 1505) (As := [.int v2]) (rest := []) (st1 := [.int v3.1]) (ws' := (cells7 G ad v3.2 ++ cells8 G ae q)) E hw hl (c_X7_capFor l G ad s v2 g4) xv_L_183 xd_X7_capFor rfl rfl ⟨Nat.le_of_ble_eq_true rfl, Nat.le_of_ble_eq_true rfl⟩ [0, 1, 2, 3, 4, 5, 6, 7, 8, 9, 10, 11, 12, 13, 14, 15, 16, 17, 18, 19, 20, 21, 22, 23, 24, 25, 26, 27, 28, 29, 30] [31, 32, 33, 34, 35, 36, 37, 38, 39, 40, 41, 42, 43, 44, 45, 46, 47, 48, 49, 50] (by decide) ⟨rfl, rfl, rfl, rfl, rfl, rfl, rfl, rfl, rfl, rfl, rfl, rfl, rfl, rfl, rfl, rfl, rfl, rfl, rfl, rfl, rfl, rfl, rfl, rfl, rfl, rfl, rfl, rfl, rfl, rfl, rfl, trivial⟩ (q0 := 0) rfl rfl rfl rfl (Nat.le_of_ble_eq_true rfl) (nw := 51) ⟨rfl, rfl, rfl, rfl, rfl, rfl, rfl, rfl, rfl, rfl, rfl, rfl, rfl, rfl, rfl, rfl, rfl, rfl, rfl, rfl, rfl, rfl, rfl, rfl, rfl, rfl, rfl, rfl, rfl, rfl, rfl, trivial⟩ ⟨⟨_, rfl, rfl⟩, ⟨_, rfl, rfl⟩, ⟨_, rfl, rfl⟩, ⟨_, rfl, rfl⟩, ⟨_, rfl, rfl⟩, ⟨_, rfl, rfl⟩, ⟨_, rfl, rfl⟩, ⟨_, rfl, rfl⟩, ⟨_, rfl, rfl⟩, ⟨_, rfl, rfl⟩, ⟨_, rfl, rfl⟩, ⟨_, rfl, rfl⟩, ⟨_, rfl, rfl⟩, ⟨_, rfl, rfl⟩, ⟨_, rfl, rfl⟩, ⟨_, rfl, rfl⟩, ⟨_, rfl, rfl⟩, ⟨_, rfl, rfl⟩, ⟨_, rfl, rfl⟩, ⟨_, rfl, rfl⟩, trivial⟩ rfl rfl (by decide) (by decide) rfl dL_law_1505 (fun H locs hw => ?_) (hcs := ⟨Nat.le_refl _, Nat.le_refl _⟩)
  refine lv_aload_n (pc := 1508) E.1 E.2.1 dL_law_1508 rfl (lv_at hl 2 rfl) ?_
  refine lv_aload_n (pc := 1509) E.1 E.2.1 dL_law_1509 rfl (lv_at hl 0 rfl) ?_
  refine lv_iload_n (pc := 1510) E.1 E.2.1 dL_law_1510 rfl (lv_at hl 3 rfl) ?_
  refine lv_iconst (v := 1) (pc := 1511) E.1 E.2.1 dL_law_1511 (by decide) ?_
  refine lv_iadd (pc := 1512) E.1 E.2.1 dL_law_1512 ?_
  obtain ⟨v6, g5, hf⟩ := x_bind hf
  refine x_sld (pc := 1513) E hX hbl hw g5 dL_law_1513 ?_
  obtain ⟨v7, g8, hf⟩ := x_bind hf
  refine x_callV (pc := 1514) (As := [.int v6]) (rest := [.int v3.1]) (st1 := [.int v7.1, .int v3.1]) (ws' := (cells7 G ad v3.2 ++ cells8 G ae v7.2)) E hw hl (c_X8_capFor l G ae q v6 g8) xv_L_186 xd_X8_capFor rfl rfl ⟨Nat.le_of_ble_eq_true rfl, Nat.le_of_ble_eq_true rfl⟩ [31, 32, 33, 34, 35, 36, 37, 38, 39, 40, 41, 42, 43, 44, 45, 46, 47, 48, 49, 50] [0, 1, 2, 3, 4, 5, 6, 7, 8, 9, 10, 11, 12, 13, 14, 15, 16, 17, 18, 19, 20, 21, 22, 23, 24, 25, 26, 27, 28, 29, 30] (by decide) ⟨rfl, rfl, rfl, rfl, rfl, rfl, rfl, rfl, rfl, rfl, rfl, rfl, rfl, rfl, rfl, rfl, rfl, rfl, rfl, rfl, trivial⟩ (q0 := 31) rfl rfl rfl rfl (Nat.le_of_ble_eq_true rfl) (nw := 51) ⟨rfl, rfl, rfl, rfl, rfl, rfl, rfl, rfl, rfl, rfl, rfl, rfl, rfl, rfl, rfl, rfl, rfl, rfl, rfl, rfl, trivial⟩ ⟨⟨_, rfl, rfl⟩, ⟨_, rfl, rfl⟩, ⟨_, rfl, rfl⟩, ⟨_, rfl, rfl⟩, ⟨_, rfl, rfl⟩, ⟨_, rfl, rfl⟩, ⟨_, rfl, rfl⟩, ⟨_, rfl, rfl⟩, ⟨_, rfl, rfl⟩, ⟨_, rfl, rfl⟩, ⟨_, rfl, rfl⟩, ⟨_, rfl, rfl⟩, ⟨_, rfl, rfl⟩, ⟨_, rfl, rfl⟩, ⟨_, rfl, rfl⟩, ⟨_, rfl, rfl⟩, ⟨_, rfl, rfl⟩, ⟨_, rfl, rfl⟩, ⟨_, rfl, rfl⟩, ⟨_, rfl, rfl⟩, ⟨_, rfl, rfl⟩, ⟨_, rfl, rfl⟩, ⟨_, rfl, rfl⟩, ⟨_, rfl, rfl⟩, ⟨_, rfl, rfl⟩, ⟨_, rfl, rfl⟩, ⟨_, rfl, rfl⟩, ⟨_, rfl, rfl⟩, ⟨_, rfl, rfl⟩, ⟨_, rfl, rfl⟩, ⟨_, rfl, rfl⟩, trivial⟩ rfl rfl (by decide) (by decide) rfl dL_law_1514 (fun H locs hw => ?_) (hcs := ⟨Nat.le_refl _, Nat.le_refl _⟩)
  refine lv_icmp_eq (tgt := 1816) (pc := 1517) E.1 E.2.1 dL_law_1517 (by decide) (fun q9 => ?_) (fun q9 => ?_)
  · have hf := x_pos q9 hf
    exact w_law_p1816 E hX hbl hr hk hk18 v3.2 v7.2 x3 hw (lv_sub hl [0, 1, 2, 3] rfl) hf
  · have hf := x_neg q9 hf
    refine lv_iconst (v := 0) (pc := 1520) E.1 E.2.1 dL_law_1520 (by decide) ?_
    exact absurd (Option.some.inj hf) (by decide)
set_option maxHeartbeats 4000000 in
set_option maxRecDepth 100000 in
theorem w_law_p1466 {p : Program} {l : Launch} {e : Env} {sS : State} {m : MethodId} {below : List Frame} {meth : Method} {c : Code} {G : xG} {ad ae : Nat → Nat} {b L : Nat} {xs : Nat → Int32} {k18 : S7 → S8 → Int32 → Option Int32} (E : xE p sS m #[Value.ref b] c cL_law 4 RL G (fun q => sS.heap.size ≤ q)) (hX : va_X b L xs sS sS.heap) (hbl : b < sS.heap.size) (hr : meth.sig.returnType = ret) (hk : meth.locks = false) (hk18 : ∀ (s' : S7) (q' : S8) (x3' : Int32) {H : Heap} {locs : List Loc} {ls : Array Slot}, xW G (fun q => sS.heap.size ≤ q) sS.heap (cells7 G ad s' ++ cells8 G ae q') H locs → lv_has ls 4 [(0, .ref b), (1, .ref (ad 0)), (2, .ref (ae 0)), (3, .int x3')] → k18  s' q' x3' = some 1 → W p l e room_1 sS m #[Value.ref b] below meth c H locs 51 5492 (lw_Z below #[Value.ref b] sS) (F0 m 18 ls [])) : ∀ (s' : S7) (q' : S8) (x3' : Int32) {H : Heap} {locs : List Loc} {ls : Array Slot}, xW G (fun q => sS.heap.size ≤ q) sS.heap (cells7 G ad s' ++ cells8 G ae q') H locs → lv_has ls 4 [(0, .ref b), (1, .ref (ad 0)), (2, .ref (ae 0)), (3, .int x3')] → f_law_p1466 k18 L xs s' q' x3' = some 1 → W p l e room_1 sS m #[Value.ref b] below meth c H locs 51 5492 (lw_Z below #[Value.ref b] sS) (F0 m 1466 ls []) := by
  intro s q x3 H locs ls hw hl hf
  unfold f_law_p1466 at hf
  refine lv_aload_n (pc := 1466) E.1 E.2.1 dL_law_1466 rfl (lv_at hl 1 rfl) ?_
  refine lv_aload_n (pc := 1467) E.1 E.2.1 dL_law_1467 rfl (lv_at hl 0 rfl) ?_
  refine lv_iload_n (pc := 1468) E.1 E.2.1 dL_law_1468 rfl (lv_at hl 3 rfl) ?_
  refine lv_iconst (v := 1) (pc := 1469) E.1 E.2.1 dL_law_1469 (by decide) ?_
  refine lv_iadd (pc := 1470) E.1 E.2.1 dL_law_1470 ?_
  obtain ⟨v2, g1, hf⟩ := x_bind hf
  refine x_sld (pc := 1471) E hX hbl hw g1 dL_law_1471 ?_
  refine lv_aload_n (pc := 1472) E.1 E.2.1 dL_law_1472 rfl (lv_at hl 0 rfl) ?_
  refine lv_iload_n (pc := 1473) E.1 E.2.1 dL_law_1473 rfl (lv_at hl 3 rfl) ?_
  refine lv_iconst (v := 2) (pc := 1474) E.1 E.2.1 dL_law_1474 (by decide) ?_
  refine lv_iadd (pc := 1475) E.1 E.2.1 dL_law_1475 ?_
  obtain ⟨v4, g3, hf⟩ := x_bind hf
  refine x_sld (pc := 1476) E hX hbl hw g3 dL_law_1476 ?_
  obtain ⟨v5, g6, hf⟩ := x_bind hf
  refine x_callV (pc := 1477) (As := [.int v2, .int v4]) (rest := []) (st1 := [.int v5.1]) (ws' := (cells7 G ad v5.2 ++ cells8 G ae q)) E hw hl (c_X7_byCap l G ad s v2 v4 g6) xv_L_179 xd_X7_byCap rfl rfl ⟨Nat.le_of_ble_eq_true rfl, Nat.le_of_ble_eq_true rfl⟩ [0, 1, 2, 3, 4, 5, 6, 7, 8, 9, 10, 11, 12, 13, 14, 15, 16, 17, 18, 19, 20, 21, 22, 23, 24, 25, 26, 27, 28, 29, 30] [31, 32, 33, 34, 35, 36, 37, 38, 39, 40, 41, 42, 43, 44, 45, 46, 47, 48, 49, 50] (by decide) ⟨rfl, rfl, rfl, rfl, rfl, rfl, rfl, rfl, rfl, rfl, rfl, rfl, rfl, rfl, rfl, rfl, rfl, rfl, rfl, rfl, rfl, rfl, rfl, rfl, rfl, rfl, rfl, rfl, rfl, rfl, rfl, trivial⟩ (q0 := 0) rfl rfl rfl rfl (Nat.le_of_ble_eq_true rfl) (nw := 51) ⟨rfl, rfl, rfl, rfl, rfl, rfl, rfl, rfl, rfl, rfl, rfl, rfl, rfl, rfl, rfl, rfl, rfl, rfl, rfl, rfl, rfl, rfl, rfl, rfl, rfl, rfl, rfl, rfl, rfl, rfl, rfl, trivial⟩ ⟨⟨_, rfl, rfl⟩, ⟨_, rfl, rfl⟩, ⟨_, rfl, rfl⟩, ⟨_, rfl, rfl⟩, ⟨_, rfl, rfl⟩, ⟨_, rfl, rfl⟩, ⟨_, rfl, rfl⟩, ⟨_, rfl, rfl⟩, ⟨_, rfl, rfl⟩, ⟨_, rfl, rfl⟩, ⟨_, rfl, rfl⟩, ⟨_, rfl, rfl⟩, ⟨_, rfl, rfl⟩, ⟨_, rfl, rfl⟩, ⟨_, rfl, rfl⟩, ⟨_, rfl, rfl⟩, ⟨_, rfl, rfl⟩, ⟨_, rfl, rfl⟩, ⟨_, rfl, rfl⟩, ⟨_, rfl, rfl⟩, trivial⟩ rfl rfl (by decide) (by decide) rfl dL_law_1477 (fun H locs hw => ?_) (hcs := ⟨Nat.le_refl _, Nat.le_refl _⟩)
  refine lv_aload_n (pc := 1480) E.1 E.2.1 dL_law_1480 rfl (lv_at hl 2 rfl) ?_
  refine lv_aload_n (pc := 1481) E.1 E.2.1 dL_law_1481 rfl (lv_at hl 0 rfl) ?_
  refine lv_iload_n (pc := 1482) E.1 E.2.1 dL_law_1482 rfl (lv_at hl 3 rfl) ?_
  refine lv_iconst (v := 1) (pc := 1483) E.1 E.2.1 dL_law_1483 (by decide) ?_
  refine lv_iadd (pc := 1484) E.1 E.2.1 dL_law_1484 ?_
  obtain ⟨v8, g7, hf⟩ := x_bind hf
  refine x_sld (pc := 1485) E hX hbl hw g7 dL_law_1485 ?_
  refine lv_aload_n (pc := 1486) E.1 E.2.1 dL_law_1486 rfl (lv_at hl 0 rfl) ?_
  refine lv_iload_n (pc := 1487) E.1 E.2.1 dL_law_1487 rfl (lv_at hl 3 rfl) ?_
  refine lv_iconst (v := 2) (pc := 1488) E.1 E.2.1 dL_law_1488 (by decide) ?_
  refine lv_iadd (pc := 1489) E.1 E.2.1 dL_law_1489 ?_
  obtain ⟨v10, g9, hf⟩ := x_bind hf
  refine x_sld (pc := 1490) E hX hbl hw g9 dL_law_1490 ?_
  obtain ⟨v11, g12, hf⟩ := x_bind hf
  refine x_callV (pc := 1491) (As := [.int v8, .int v10]) (rest := [.int v5.1]) (st1 := [.int v11.1, .int v5.1]) (ws' := (cells7 G ad v5.2 ++ cells8 G ae v11.2)) E hw hl (c_X8_byCap l G ae q v8 v10 g12) xv_L_182 xd_X8_byCap rfl rfl ⟨Nat.le_of_ble_eq_true rfl, Nat.le_of_ble_eq_true rfl⟩ [31, 32, 33, 34, 35, 36, 37, 38, 39, 40, 41, 42, 43, 44, 45, 46, 47, 48, 49, 50] [0, 1, 2, 3, 4, 5, 6, 7, 8, 9, 10, 11, 12, 13, 14, 15, 16, 17, 18, 19, 20, 21, 22, 23, 24, 25, 26, 27, 28, 29, 30] (by decide) ⟨rfl, rfl, rfl, rfl, rfl, rfl, rfl, rfl, rfl, rfl, rfl, rfl, rfl, rfl, rfl, rfl, rfl, rfl, rfl, rfl, trivial⟩ (q0 := 31) rfl rfl rfl rfl (Nat.le_of_ble_eq_true rfl) (nw := 51) ⟨rfl, rfl, rfl, rfl, rfl, rfl, rfl, rfl, rfl, rfl, rfl, rfl, rfl, rfl, rfl, rfl, rfl, rfl, rfl, rfl, trivial⟩ ⟨⟨_, rfl, rfl⟩, ⟨_, rfl, rfl⟩, ⟨_, rfl, rfl⟩, ⟨_, rfl, rfl⟩, ⟨_, rfl, rfl⟩, ⟨_, rfl, rfl⟩, ⟨_, rfl, rfl⟩, ⟨_, rfl, rfl⟩, ⟨_, rfl, rfl⟩, ⟨_, rfl, rfl⟩, ⟨_, rfl, rfl⟩, ⟨_, rfl, rfl⟩, ⟨_, rfl, rfl⟩, ⟨_, rfl, rfl⟩, ⟨_, rfl, rfl⟩, ⟨_, rfl, rfl⟩, ⟨_, rfl, rfl⟩, ⟨_, rfl, rfl⟩, ⟨_, rfl, rfl⟩, ⟨_, rfl, rfl⟩, ⟨_, rfl, rfl⟩, ⟨_, rfl, rfl⟩, ⟨_, rfl, rfl⟩, ⟨_, rfl, rfl⟩, ⟨_, rfl, rfl⟩, ⟨_, rfl, rfl⟩, ⟨_, rfl, rfl⟩, ⟨_, rfl, rfl⟩, ⟨_, rfl, rfl⟩, ⟨_, rfl, rfl⟩, ⟨_, rfl, rfl⟩, trivial⟩ rfl rfl (by decide) (by decide) rfl dL_law_1491 (fun H locs hw => ?_) (hcs := ⟨Nat.le_refl _, Nat.le_refl _⟩)
  refine lv_icmp_eq (tgt := 1816) (pc := 1494) E.1 E.2.1 dL_law_1494 (by decide) (fun q13 => ?_) (fun q13 => ?_)
  · have hf := x_pos q13 hf
    exact w_law_p1816 E hX hbl hr hk hk18 v5.2 v11.2 x3 hw (lv_sub hl [0, 1, 2, 3] rfl) hf
  · have hf := x_neg q13 hf
    refine lv_iconst (v := 0) (pc := 1497) E.1 E.2.1 dL_law_1497 (by decide) ?_
    exact absurd (Option.some.inj hf) (by decide)
set_option maxHeartbeats 4000000 in
set_option maxRecDepth 100000 in
theorem w_law_p1443 {p : Program} {l : Launch} {e : Env} {sS : State} {m : MethodId} {below : List Frame} {meth : Method} {c : Code} {G : xG} {ad ae : Nat → Nat} {b L : Nat} {xs : Nat → Int32} {k18 : S7 → S8 → Int32 → Option Int32} (E : xE p sS m #[Value.ref b] c cL_law 4 RL G (fun q => sS.heap.size ≤ q)) (hX : va_X b L xs sS sS.heap) (hbl : b < sS.heap.size) (hr : meth.sig.returnType = ret) (hk : meth.locks = false) (hk18 : ∀ (s' : S7) (q' : S8) (x3' : Int32) {H : Heap} {locs : List Loc} {ls : Array Slot}, xW G (fun q => sS.heap.size ≤ q) sS.heap (cells7 G ad s' ++ cells8 G ae q') H locs → lv_has ls 4 [(0, .ref b), (1, .ref (ad 0)), (2, .ref (ae 0)), (3, .int x3')] → k18  s' q' x3' = some 1 → W p l e room_1 sS m #[Value.ref b] below meth c H locs 51 5492 (lw_Z below #[Value.ref b] sS) (F0 m 18 ls [])) : ∀ (s' : S7) (q' : S8) (x3' : Int32) {H : Heap} {locs : List Loc} {ls : Array Slot}, xW G (fun q => sS.heap.size ≤ q) sS.heap (cells7 G ad s' ++ cells8 G ae q') H locs → lv_has ls 4 [(0, .ref b), (1, .ref (ad 0)), (2, .ref (ae 0)), (3, .int x3')] → f_law_p1443 k18 L xs s' q' x3' = some 1 → W p l e room_1 sS m #[Value.ref b] below meth c H locs 51 5492 (lw_Z below #[Value.ref b] sS) (F0 m 1443 ls []) := by
  intro s q x3 H locs ls hw hl hf
  unfold f_law_p1443 at hf
  refine lv_aload_n (pc := 1443) E.1 E.2.1 dL_law_1443 rfl (lv_at hl 1 rfl) ?_
  refine lv_aload_n (pc := 1444) E.1 E.2.1 dL_law_1444 rfl (lv_at hl 0 rfl) ?_
  refine lv_iload_n (pc := 1445) E.1 E.2.1 dL_law_1445 rfl (lv_at hl 3 rfl) ?_
  refine lv_iconst (v := 1) (pc := 1446) E.1 E.2.1 dL_law_1446 (by decide) ?_
  refine lv_iadd (pc := 1447) E.1 E.2.1 dL_law_1447 ?_
  obtain ⟨v2, g1, hf⟩ := x_bind hf
  refine x_sld (pc := 1448) E hX hbl hw g1 dL_law_1448 ?_
  obtain ⟨v3, g4, hf⟩ := x_bind hf
  refine x_callV (pc := 1449) (As := [.int v2]) (rest := []) (st1 := [.int v3.1]) (ws' := (cells7 G ad v3.2 ++ cells8 G ae q)) E hw hl (c_X7_bestClass l G ad s v2 g4) xv_L_175 xd_X7_bestClass rfl rfl ⟨Nat.le_of_ble_eq_true rfl, Nat.le_of_ble_eq_true rfl⟩ [0, 1, 2, 3, 4, 5, 6, 7, 8, 9, 10, 11, 12, 13, 14, 15, 16, 17, 18, 19, 20, 21, 22, 23, 24, 25, 26, 27, 28, 29, 30] [31, 32, 33, 34, 35, 36, 37, 38, 39, 40, 41, 42, 43, 44, 45, 46, 47, 48, 49, 50] (by decide) ⟨rfl, rfl, rfl, rfl, rfl, rfl, rfl, rfl, rfl, rfl, rfl, rfl, rfl, rfl, rfl, rfl, rfl, rfl, rfl, rfl, rfl, rfl, rfl, rfl, rfl, rfl, rfl, rfl, rfl, rfl, rfl, trivial⟩ (q0 := 0) rfl rfl rfl rfl (Nat.le_of_ble_eq_true rfl) (nw := 51) ⟨rfl, rfl, rfl, rfl, rfl, rfl, rfl, rfl, rfl, rfl, rfl, rfl, rfl, rfl, rfl, rfl, rfl, rfl, rfl, rfl, rfl, rfl, rfl, rfl, rfl, rfl, rfl, rfl, rfl, rfl, rfl, trivial⟩ ⟨⟨_, rfl, rfl⟩, ⟨_, rfl, rfl⟩, ⟨_, rfl, rfl⟩, ⟨_, rfl, rfl⟩, ⟨_, rfl, rfl⟩, ⟨_, rfl, rfl⟩, ⟨_, rfl, rfl⟩, ⟨_, rfl, rfl⟩, ⟨_, rfl, rfl⟩, ⟨_, rfl, rfl⟩, ⟨_, rfl, rfl⟩, ⟨_, rfl, rfl⟩, ⟨_, rfl, rfl⟩, ⟨_, rfl, rfl⟩, ⟨_, rfl, rfl⟩, ⟨_, rfl, rfl⟩, ⟨_, rfl, rfl⟩, ⟨_, rfl, rfl⟩, ⟨_, rfl, rfl⟩, ⟨_, rfl, rfl⟩, trivial⟩ rfl rfl (by decide) (by decide) rfl dL_law_1449 (fun H locs hw => ?_) (hcs := ⟨Nat.le_refl _, Nat.le_refl _⟩)
  refine lv_aload_n (pc := 1452) E.1 E.2.1 dL_law_1452 rfl (lv_at hl 2 rfl) ?_
  refine lv_aload_n (pc := 1453) E.1 E.2.1 dL_law_1453 rfl (lv_at hl 0 rfl) ?_
  refine lv_iload_n (pc := 1454) E.1 E.2.1 dL_law_1454 rfl (lv_at hl 3 rfl) ?_
  refine lv_iconst (v := 1) (pc := 1455) E.1 E.2.1 dL_law_1455 (by decide) ?_
  refine lv_iadd (pc := 1456) E.1 E.2.1 dL_law_1456 ?_
  obtain ⟨v6, g5, hf⟩ := x_bind hf
  refine x_sld (pc := 1457) E hX hbl hw g5 dL_law_1457 ?_
  obtain ⟨v7, g8, hf⟩ := x_bind hf
  refine x_callV (pc := 1458) (As := [.int v6]) (rest := [.int v3.1]) (st1 := [.int v7.1, .int v3.1]) (ws' := (cells7 G ad v3.2 ++ cells8 G ae v7.2)) E hw hl (c_X8_bestClass l G ae q v6 g8) xv_L_178 xd_X8_bestClass rfl rfl ⟨Nat.le_of_ble_eq_true rfl, Nat.le_of_ble_eq_true rfl⟩ [31, 32, 33, 34, 35, 36, 37, 38, 39, 40, 41, 42, 43, 44, 45, 46, 47, 48, 49, 50] [0, 1, 2, 3, 4, 5, 6, 7, 8, 9, 10, 11, 12, 13, 14, 15, 16, 17, 18, 19, 20, 21, 22, 23, 24, 25, 26, 27, 28, 29, 30] (by decide) ⟨rfl, rfl, rfl, rfl, rfl, rfl, rfl, rfl, rfl, rfl, rfl, rfl, rfl, rfl, rfl, rfl, rfl, rfl, rfl, rfl, trivial⟩ (q0 := 31) rfl rfl rfl rfl (Nat.le_of_ble_eq_true rfl) (nw := 51) ⟨rfl, rfl, rfl, rfl, rfl, rfl, rfl, rfl, rfl, rfl, rfl, rfl, rfl, rfl, rfl, rfl, rfl, rfl, rfl, rfl, trivial⟩ ⟨⟨_, rfl, rfl⟩, ⟨_, rfl, rfl⟩, ⟨_, rfl, rfl⟩, ⟨_, rfl, rfl⟩, ⟨_, rfl, rfl⟩, ⟨_, rfl, rfl⟩, ⟨_, rfl, rfl⟩, ⟨_, rfl, rfl⟩, ⟨_, rfl, rfl⟩, ⟨_, rfl, rfl⟩, ⟨_, rfl, rfl⟩, ⟨_, rfl, rfl⟩, ⟨_, rfl, rfl⟩, ⟨_, rfl, rfl⟩, ⟨_, rfl, rfl⟩, ⟨_, rfl, rfl⟩, ⟨_, rfl, rfl⟩, ⟨_, rfl, rfl⟩, ⟨_, rfl, rfl⟩, ⟨_, rfl, rfl⟩, ⟨_, rfl, rfl⟩, ⟨_, rfl, rfl⟩, ⟨_, rfl, rfl⟩, ⟨_, rfl, rfl⟩, ⟨_, rfl, rfl⟩, ⟨_, rfl, rfl⟩, ⟨_, rfl, rfl⟩, ⟨_, rfl, rfl⟩, ⟨_, rfl, rfl⟩, ⟨_, rfl, rfl⟩, ⟨_, rfl, rfl⟩, trivial⟩ rfl rfl (by decide) (by decide) rfl dL_law_1458 (fun H locs hw => ?_) (hcs := ⟨Nat.le_refl _, Nat.le_refl _⟩)
  refine lv_icmp_eq (tgt := 1816) (pc := 1461) E.1 E.2.1 dL_law_1461 (by decide) (fun q9 => ?_) (fun q9 => ?_)
  · have hf := x_pos q9 hf
    exact w_law_p1816 E hX hbl hr hk hk18 v3.2 v7.2 x3 hw (lv_sub hl [0, 1, 2, 3] rfl) hf
  · have hf := x_neg q9 hf
    refine lv_iconst (v := 0) (pc := 1464) E.1 E.2.1 dL_law_1464 (by decide) ?_
    exact absurd (Option.some.inj hf) (by decide)
set_option maxHeartbeats 4000000 in
set_option maxRecDepth 100000 in
theorem w_law_p1410 {p : Program} {l : Launch} {e : Env} {sS : State} {m : MethodId} {below : List Frame} {meth : Method} {c : Code} {G : xG} {ad ae : Nat → Nat} {b L : Nat} {xs : Nat → Int32} {k18 : S7 → S8 → Int32 → Option Int32} (E : xE p sS m #[Value.ref b] c cL_law 4 RL G (fun q => sS.heap.size ≤ q)) (hX : va_X b L xs sS sS.heap) (hbl : b < sS.heap.size) (hr : meth.sig.returnType = ret) (hk : meth.locks = false) (hk18 : ∀ (s' : S7) (q' : S8) (x3' : Int32) {H : Heap} {locs : List Loc} {ls : Array Slot}, xW G (fun q => sS.heap.size ≤ q) sS.heap (cells7 G ad s' ++ cells8 G ae q') H locs → lv_has ls 4 [(0, .ref b), (1, .ref (ad 0)), (2, .ref (ae 0)), (3, .int x3')] → k18  s' q' x3' = some 1 → W p l e room_1 sS m #[Value.ref b] below meth c H locs 51 5492 (lw_Z below #[Value.ref b] sS) (F0 m 18 ls [])) : ∀ (s' : S7) (q' : S8) (x3' : Int32) {H : Heap} {locs : List Loc} {ls : Array Slot}, xW G (fun q => sS.heap.size ≤ q) sS.heap (cells7 G ad s' ++ cells8 G ae q') H locs → lv_has ls 4 [(0, .ref b), (1, .ref (ad 0)), (2, .ref (ae 0)), (3, .int x3')] → f_law_p1410 k18 L xs s' q' x3' = some 1 → W p l e room_1 sS m #[Value.ref b] below meth c H locs 51 5492 (lw_Z below #[Value.ref b] sS) (F0 m 1410 ls []) := by
  intro s q x3 H locs ls hw hl hf
  unfold f_law_p1410 at hf
  refine lv_aload_n (pc := 1410) E.1 E.2.1 dL_law_1410 rfl (lv_at hl 1 rfl) ?_
  refine lv_aload_n (pc := 1411) E.1 E.2.1 dL_law_1411 rfl (lv_at hl 0 rfl) ?_
  refine lv_iload_n (pc := 1412) E.1 E.2.1 dL_law_1412 rfl (lv_at hl 3 rfl) ?_
  refine lv_iconst (v := 1) (pc := 1413) E.1 E.2.1 dL_law_1413 (by decide) ?_
  refine lv_iadd (pc := 1414) E.1 E.2.1 dL_law_1414 ?_
  obtain ⟨v2, g1, hf⟩ := x_bind hf
  refine x_sld (pc := 1415) E hX hbl hw g1 dL_law_1415 ?_
  refine lv_aload_n (pc := 1416) E.1 E.2.1 dL_law_1416 rfl (lv_at hl 0 rfl) ?_
  refine lv_iload_n (pc := 1417) E.1 E.2.1 dL_law_1417 rfl (lv_at hl 3 rfl) ?_
  refine lv_iconst (v := 2) (pc := 1418) E.1 E.2.1 dL_law_1418 (by decide) ?_
  refine lv_iadd (pc := 1419) E.1 E.2.1 dL_law_1419 ?_
  obtain ⟨v4, g3, hf⟩ := x_bind hf
  refine x_sld (pc := 1420) E hX hbl hw g3 dL_law_1420 ?_
  obtain ⟨v5, g6, hf⟩ := x_bind hf
  refine x_callV (pc := 1421) (As := [.int v2, .int v4]) (rest := []) (st1 := [.int v5.1]) (ws' := (cells7 G ad v5.2 ++ cells8 G ae q)) E hw hl (c_X7_inClass l G ad s v2 v4 g6) xv_L_171 xd_X7_inClass rfl rfl ⟨Nat.le_of_ble_eq_true rfl, Nat.le_of_ble_eq_true rfl⟩ [0, 1, 2, 3, 4, 5, 6, 7, 8, 9, 10, 11, 12, 13, 14, 15, 16, 17, 18, 19, 20, 21, 22, 23, 24, 25, 26, 27, 28, 29, 30] [31, 32, 33, 34, 35, 36, 37, 38, 39, 40, 41, 42, 43, 44, 45, 46, 47, 48, 49, 50] (by decide) ⟨rfl, rfl, rfl, rfl, rfl, rfl, rfl, rfl, rfl, rfl, rfl, rfl, rfl, rfl, rfl, rfl, rfl, rfl, rfl, rfl, rfl, rfl, rfl, rfl, rfl, rfl, rfl, rfl, rfl, rfl, rfl, trivial⟩ (q0 := 0) rfl rfl rfl rfl (Nat.le_of_ble_eq_true rfl) (nw := 51) ⟨rfl, rfl, rfl, rfl, rfl, rfl, rfl, rfl, rfl, rfl, rfl, rfl, rfl, rfl, rfl, rfl, rfl, rfl, rfl, rfl, rfl, rfl, rfl, rfl, rfl, rfl, rfl, rfl, rfl, rfl, rfl, trivial⟩ ⟨⟨_, rfl, rfl⟩, ⟨_, rfl, rfl⟩, ⟨_, rfl, rfl⟩, ⟨_, rfl, rfl⟩, ⟨_, rfl, rfl⟩, ⟨_, rfl, rfl⟩, ⟨_, rfl, rfl⟩, ⟨_, rfl, rfl⟩, ⟨_, rfl, rfl⟩, ⟨_, rfl, rfl⟩, ⟨_, rfl, rfl⟩, ⟨_, rfl, rfl⟩, ⟨_, rfl, rfl⟩, ⟨_, rfl, rfl⟩, ⟨_, rfl, rfl⟩, ⟨_, rfl, rfl⟩, ⟨_, rfl, rfl⟩, ⟨_, rfl, rfl⟩, ⟨_, rfl, rfl⟩, ⟨_, rfl, rfl⟩, trivial⟩ rfl rfl (by decide) (by decide) rfl dL_law_1421 (fun H locs hw => ?_) (hcs := ⟨Nat.le_refl _, Nat.le_refl _⟩)
  refine lv_aload_n (pc := 1424) E.1 E.2.1 dL_law_1424 rfl (lv_at hl 2 rfl) ?_
  refine lv_aload_n (pc := 1425) E.1 E.2.1 dL_law_1425 rfl (lv_at hl 0 rfl) ?_
  refine lv_iload_n (pc := 1426) E.1 E.2.1 dL_law_1426 rfl (lv_at hl 3 rfl) ?_
  refine lv_iconst (v := 1) (pc := 1427) E.1 E.2.1 dL_law_1427 (by decide) ?_
  refine lv_iadd (pc := 1428) E.1 E.2.1 dL_law_1428 ?_
  obtain ⟨v8, g7, hf⟩ := x_bind hf
  refine x_sld (pc := 1429) E hX hbl hw g7 dL_law_1429 ?_
  refine lv_aload_n (pc := 1430) E.1 E.2.1 dL_law_1430 rfl (lv_at hl 0 rfl) ?_
  refine lv_iload_n (pc := 1431) E.1 E.2.1 dL_law_1431 rfl (lv_at hl 3 rfl) ?_
  refine lv_iconst (v := 2) (pc := 1432) E.1 E.2.1 dL_law_1432 (by decide) ?_
  refine lv_iadd (pc := 1433) E.1 E.2.1 dL_law_1433 ?_
  obtain ⟨v10, g9, hf⟩ := x_bind hf
  refine x_sld (pc := 1434) E hX hbl hw g9 dL_law_1434 ?_
  obtain ⟨v11, g12, hf⟩ := x_bind hf
  refine x_callV (pc := 1435) (As := [.int v8, .int v10]) (rest := [.int v5.1]) (st1 := [.int v11.1, .int v5.1]) (ws' := (cells7 G ad v5.2 ++ cells8 G ae v11.2)) E hw hl (c_X8_inClass l G ae q v8 v10 g12) xv_L_174 xd_X8_inClass rfl rfl ⟨Nat.le_of_ble_eq_true rfl, Nat.le_of_ble_eq_true rfl⟩ [31, 32, 33, 34, 35, 36, 37, 38, 39, 40, 41, 42, 43, 44, 45, 46, 47, 48, 49, 50] [0, 1, 2, 3, 4, 5, 6, 7, 8, 9, 10, 11, 12, 13, 14, 15, 16, 17, 18, 19, 20, 21, 22, 23, 24, 25, 26, 27, 28, 29, 30] (by decide) ⟨rfl, rfl, rfl, rfl, rfl, rfl, rfl, rfl, rfl, rfl, rfl, rfl, rfl, rfl, rfl, rfl, rfl, rfl, rfl, rfl, trivial⟩ (q0 := 31) rfl rfl rfl rfl (Nat.le_of_ble_eq_true rfl) (nw := 51) ⟨rfl, rfl, rfl, rfl, rfl, rfl, rfl, rfl, rfl, rfl, rfl, rfl, rfl, rfl, rfl, rfl, rfl, rfl, rfl, rfl, trivial⟩ ⟨⟨_, rfl, rfl⟩, ⟨_, rfl, rfl⟩, ⟨_, rfl, rfl⟩, ⟨_, rfl, rfl⟩, ⟨_, rfl, rfl⟩, ⟨_, rfl, rfl⟩, ⟨_, rfl, rfl⟩, ⟨_, rfl, rfl⟩, ⟨_, rfl, rfl⟩, ⟨_, rfl, rfl⟩, ⟨_, rfl, rfl⟩, ⟨_, rfl, rfl⟩, ⟨_, rfl, rfl⟩, ⟨_, rfl, rfl⟩, ⟨_, rfl, rfl⟩, ⟨_, rfl, rfl⟩, ⟨_, rfl, rfl⟩, ⟨_, rfl, rfl⟩, ⟨_, rfl, rfl⟩, ⟨_, rfl, rfl⟩, ⟨_, rfl, rfl⟩, ⟨_, rfl, rfl⟩, ⟨_, rfl, rfl⟩, ⟨_, rfl, rfl⟩, ⟨_, rfl, rfl⟩, ⟨_, rfl, rfl⟩, ⟨_, rfl, rfl⟩, ⟨_, rfl, rfl⟩, ⟨_, rfl, rfl⟩, ⟨_, rfl, rfl⟩, ⟨_, rfl, rfl⟩, trivial⟩ rfl rfl (by decide) (by decide) rfl dL_law_1435 (fun H locs hw => ?_) (hcs := ⟨Nat.le_refl _, Nat.le_refl _⟩)
  refine lv_icmp_eq (tgt := 1816) (pc := 1438) E.1 E.2.1 dL_law_1438 (by decide) (fun q13 => ?_) (fun q13 => ?_)
  · have hf := x_pos q13 hf
    exact w_law_p1816 E hX hbl hr hk hk18 v5.2 v11.2 x3 hw (lv_sub hl [0, 1, 2, 3] rfl) hf
  · have hf := x_neg q13 hf
    refine lv_iconst (v := 0) (pc := 1441) E.1 E.2.1 dL_law_1441 (by decide) ?_
    exact absurd (Option.some.inj hf) (by decide)
set_option maxHeartbeats 4000000 in
set_option maxRecDepth 100000 in
theorem w_law_p1377 {p : Program} {l : Launch} {e : Env} {sS : State} {m : MethodId} {below : List Frame} {meth : Method} {c : Code} {G : xG} {ad ae : Nat → Nat} {b L : Nat} {xs : Nat → Int32} {k18 : S7 → S8 → Int32 → Option Int32} (E : xE p sS m #[Value.ref b] c cL_law 4 RL G (fun q => sS.heap.size ≤ q)) (hX : va_X b L xs sS sS.heap) (hbl : b < sS.heap.size) (hr : meth.sig.returnType = ret) (hk : meth.locks = false) (hk18 : ∀ (s' : S7) (q' : S8) (x3' : Int32) {H : Heap} {locs : List Loc} {ls : Array Slot}, xW G (fun q => sS.heap.size ≤ q) sS.heap (cells7 G ad s' ++ cells8 G ae q') H locs → lv_has ls 4 [(0, .ref b), (1, .ref (ad 0)), (2, .ref (ae 0)), (3, .int x3')] → k18  s' q' x3' = some 1 → W p l e room_1 sS m #[Value.ref b] below meth c H locs 51 5492 (lw_Z below #[Value.ref b] sS) (F0 m 18 ls [])) : ∀ (s' : S7) (q' : S8) (x3' : Int32) {H : Heap} {locs : List Loc} {ls : Array Slot}, xW G (fun q => sS.heap.size ≤ q) sS.heap (cells7 G ad s' ++ cells8 G ae q') H locs → lv_has ls 4 [(0, .ref b), (1, .ref (ad 0)), (2, .ref (ae 0)), (3, .int x3')] → f_law_p1377 k18 L xs s' q' x3' = some 1 → W p l e room_1 sS m #[Value.ref b] below meth c H locs 51 5492 (lw_Z below #[Value.ref b] sS) (F0 m 1377 ls []) := by
  intro s q x3 H locs ls hw hl hf
  unfold f_law_p1377 at hf
  refine lv_aload_n (pc := 1377) E.1 E.2.1 dL_law_1377 rfl (lv_at hl 1 rfl) ?_
  refine lv_aload_n (pc := 1378) E.1 E.2.1 dL_law_1378 rfl (lv_at hl 0 rfl) ?_
  refine lv_iload_n (pc := 1379) E.1 E.2.1 dL_law_1379 rfl (lv_at hl 3 rfl) ?_
  refine lv_iconst (v := 1) (pc := 1380) E.1 E.2.1 dL_law_1380 (by decide) ?_
  refine lv_iadd (pc := 1381) E.1 E.2.1 dL_law_1381 ?_
  obtain ⟨v2, g1, hf⟩ := x_bind hf
  refine x_sld (pc := 1382) E hX hbl hw g1 dL_law_1382 ?_
  refine lv_aload_n (pc := 1383) E.1 E.2.1 dL_law_1383 rfl (lv_at hl 0 rfl) ?_
  refine lv_iload_n (pc := 1384) E.1 E.2.1 dL_law_1384 rfl (lv_at hl 3 rfl) ?_
  refine lv_iconst (v := 2) (pc := 1385) E.1 E.2.1 dL_law_1385 (by decide) ?_
  refine lv_iadd (pc := 1386) E.1 E.2.1 dL_law_1386 ?_
  obtain ⟨v4, g3, hf⟩ := x_bind hf
  refine x_sld (pc := 1387) E hX hbl hw g3 dL_law_1387 ?_
  obtain ⟨v5, g6, hf⟩ := x_bind hf
  refine x_callV (pc := 1388) (As := [.int v2, .int v4]) (rest := []) (st1 := [.int v5.1]) (ws' := (cells7 G ad v5.2 ++ cells8 G ae q)) E hw hl (c_X7_yearsFor l G ad s v2 v4 g6) xv_L_167 xd_X7_yearsFor rfl rfl ⟨Nat.le_of_ble_eq_true rfl, Nat.le_of_ble_eq_true rfl⟩ [0, 1, 2, 3, 4, 5, 6, 7, 8, 9, 10, 11, 12, 13, 14, 15, 16, 17, 18, 19, 20, 21, 22, 23, 24, 25, 26, 27, 28, 29, 30] [31, 32, 33, 34, 35, 36, 37, 38, 39, 40, 41, 42, 43, 44, 45, 46, 47, 48, 49, 50] (by decide) ⟨rfl, rfl, rfl, rfl, rfl, rfl, rfl, rfl, rfl, rfl, rfl, rfl, rfl, rfl, rfl, rfl, rfl, rfl, rfl, rfl, rfl, rfl, rfl, rfl, rfl, rfl, rfl, rfl, rfl, rfl, rfl, trivial⟩ (q0 := 0) rfl rfl rfl rfl (Nat.le_of_ble_eq_true rfl) (nw := 51) ⟨rfl, rfl, rfl, rfl, rfl, rfl, rfl, rfl, rfl, rfl, rfl, rfl, rfl, rfl, rfl, rfl, rfl, rfl, rfl, rfl, rfl, rfl, rfl, rfl, rfl, rfl, rfl, rfl, rfl, rfl, rfl, trivial⟩ ⟨⟨_, rfl, rfl⟩, ⟨_, rfl, rfl⟩, ⟨_, rfl, rfl⟩, ⟨_, rfl, rfl⟩, ⟨_, rfl, rfl⟩, ⟨_, rfl, rfl⟩, ⟨_, rfl, rfl⟩, ⟨_, rfl, rfl⟩, ⟨_, rfl, rfl⟩, ⟨_, rfl, rfl⟩, ⟨_, rfl, rfl⟩, ⟨_, rfl, rfl⟩, ⟨_, rfl, rfl⟩, ⟨_, rfl, rfl⟩, ⟨_, rfl, rfl⟩, ⟨_, rfl, rfl⟩, ⟨_, rfl, rfl⟩, ⟨_, rfl, rfl⟩, ⟨_, rfl, rfl⟩, ⟨_, rfl, rfl⟩, trivial⟩ rfl rfl (by decide) (by decide) rfl dL_law_1388 (fun H locs hw => ?_) (hcs := ⟨Nat.le_refl _, Nat.le_refl _⟩)
  refine lv_aload_n (pc := 1391) E.1 E.2.1 dL_law_1391 rfl (lv_at hl 2 rfl) ?_
  refine lv_aload_n (pc := 1392) E.1 E.2.1 dL_law_1392 rfl (lv_at hl 0 rfl) ?_
  refine lv_iload_n (pc := 1393) E.1 E.2.1 dL_law_1393 rfl (lv_at hl 3 rfl) ?_
  refine lv_iconst (v := 1) (pc := 1394) E.1 E.2.1 dL_law_1394 (by decide) ?_
  refine lv_iadd (pc := 1395) E.1 E.2.1 dL_law_1395 ?_
  obtain ⟨v8, g7, hf⟩ := x_bind hf
  refine x_sld (pc := 1396) E hX hbl hw g7 dL_law_1396 ?_
  refine lv_aload_n (pc := 1397) E.1 E.2.1 dL_law_1397 rfl (lv_at hl 0 rfl) ?_
  refine lv_iload_n (pc := 1398) E.1 E.2.1 dL_law_1398 rfl (lv_at hl 3 rfl) ?_
  refine lv_iconst (v := 2) (pc := 1399) E.1 E.2.1 dL_law_1399 (by decide) ?_
  refine lv_iadd (pc := 1400) E.1 E.2.1 dL_law_1400 ?_
  obtain ⟨v10, g9, hf⟩ := x_bind hf
  refine x_sld (pc := 1401) E hX hbl hw g9 dL_law_1401 ?_
  obtain ⟨v11, g12, hf⟩ := x_bind hf
  refine x_callV (pc := 1402) (As := [.int v8, .int v10]) (rest := [.int v5.1]) (st1 := [.int v11.1, .int v5.1]) (ws' := (cells7 G ad v5.2 ++ cells8 G ae v11.2)) E hw hl (c_X8_yearsFor l G ae q v8 v10 g12) xv_L_170 xd_X8_yearsFor rfl rfl ⟨Nat.le_of_ble_eq_true rfl, Nat.le_of_ble_eq_true rfl⟩ [31, 32, 33, 34, 35, 36, 37, 38, 39, 40, 41, 42, 43, 44, 45, 46, 47, 48, 49, 50] [0, 1, 2, 3, 4, 5, 6, 7, 8, 9, 10, 11, 12, 13, 14, 15, 16, 17, 18, 19, 20, 21, 22, 23, 24, 25, 26, 27, 28, 29, 30] (by decide) ⟨rfl, rfl, rfl, rfl, rfl, rfl, rfl, rfl, rfl, rfl, rfl, rfl, rfl, rfl, rfl, rfl, rfl, rfl, rfl, rfl, trivial⟩ (q0 := 31) rfl rfl rfl rfl (Nat.le_of_ble_eq_true rfl) (nw := 51) ⟨rfl, rfl, rfl, rfl, rfl, rfl, rfl, rfl, rfl, rfl, rfl, rfl, rfl, rfl, rfl, rfl, rfl, rfl, rfl, rfl, trivial⟩ ⟨⟨_, rfl, rfl⟩, ⟨_, rfl, rfl⟩, ⟨_, rfl, rfl⟩, ⟨_, rfl, rfl⟩, ⟨_, rfl, rfl⟩, ⟨_, rfl, rfl⟩, ⟨_, rfl, rfl⟩, ⟨_, rfl, rfl⟩, ⟨_, rfl, rfl⟩, ⟨_, rfl, rfl⟩, ⟨_, rfl, rfl⟩, ⟨_, rfl, rfl⟩, ⟨_, rfl, rfl⟩, ⟨_, rfl, rfl⟩, ⟨_, rfl, rfl⟩, ⟨_, rfl, rfl⟩, ⟨_, rfl, rfl⟩, ⟨_, rfl, rfl⟩, ⟨_, rfl, rfl⟩, ⟨_, rfl, rfl⟩, ⟨_, rfl, rfl⟩, ⟨_, rfl, rfl⟩, ⟨_, rfl, rfl⟩, ⟨_, rfl, rfl⟩, ⟨_, rfl, rfl⟩, ⟨_, rfl, rfl⟩, ⟨_, rfl, rfl⟩, ⟨_, rfl, rfl⟩, ⟨_, rfl, rfl⟩, ⟨_, rfl, rfl⟩, ⟨_, rfl, rfl⟩, trivial⟩ rfl rfl (by decide) (by decide) rfl dL_law_1402 (fun H locs hw => ?_) (hcs := ⟨Nat.le_refl _, Nat.le_refl _⟩)
  refine lv_icmp_eq (tgt := 1816) (pc := 1405) E.1 E.2.1 dL_law_1405 (by decide) (fun q13 => ?_) (fun q13 => ?_)
  · have hf := x_pos q13 hf
    exact w_law_p1816 E hX hbl hr hk hk18 v5.2 v11.2 x3 hw (lv_sub hl [0, 1, 2, 3] rfl) hf
  · have hf := x_neg q13 hf
    refine lv_iconst (v := 0) (pc := 1408) E.1 E.2.1 dL_law_1408 (by decide) ?_
    exact absurd (Option.some.inj hf) (by decide)
set_option maxHeartbeats 4000000 in
set_option maxRecDepth 100000 in
theorem w_law_p1344 {p : Program} {l : Launch} {e : Env} {sS : State} {m : MethodId} {below : List Frame} {meth : Method} {c : Code} {G : xG} {ad ae : Nat → Nat} {b L : Nat} {xs : Nat → Int32} {k18 : S7 → S8 → Int32 → Option Int32} (E : xE p sS m #[Value.ref b] c cL_law 4 RL G (fun q => sS.heap.size ≤ q)) (hX : va_X b L xs sS sS.heap) (hbl : b < sS.heap.size) (hr : meth.sig.returnType = ret) (hk : meth.locks = false) (hk18 : ∀ (s' : S7) (q' : S8) (x3' : Int32) {H : Heap} {locs : List Loc} {ls : Array Slot}, xW G (fun q => sS.heap.size ≤ q) sS.heap (cells7 G ad s' ++ cells8 G ae q') H locs → lv_has ls 4 [(0, .ref b), (1, .ref (ad 0)), (2, .ref (ae 0)), (3, .int x3')] → k18  s' q' x3' = some 1 → W p l e room_1 sS m #[Value.ref b] below meth c H locs 51 5492 (lw_Z below #[Value.ref b] sS) (F0 m 18 ls [])) : ∀ (s' : S7) (q' : S8) (x3' : Int32) {H : Heap} {locs : List Loc} {ls : Array Slot}, xW G (fun q => sS.heap.size ≤ q) sS.heap (cells7 G ad s' ++ cells8 G ae q') H locs → lv_has ls 4 [(0, .ref b), (1, .ref (ad 0)), (2, .ref (ae 0)), (3, .int x3')] → f_law_p1344 k18 L xs s' q' x3' = some 1 → W p l e room_1 sS m #[Value.ref b] below meth c H locs 51 5492 (lw_Z below #[Value.ref b] sS) (F0 m 1344 ls []) := by
  intro s q x3 H locs ls hw hl hf
  unfold f_law_p1344 at hf
  refine lv_aload_n (pc := 1344) E.1 E.2.1 dL_law_1344 rfl (lv_at hl 1 rfl) ?_
  refine lv_aload_n (pc := 1345) E.1 E.2.1 dL_law_1345 rfl (lv_at hl 0 rfl) ?_
  refine lv_iload_n (pc := 1346) E.1 E.2.1 dL_law_1346 rfl (lv_at hl 3 rfl) ?_
  refine lv_iconst (v := 1) (pc := 1347) E.1 E.2.1 dL_law_1347 (by decide) ?_
  refine lv_iadd (pc := 1348) E.1 E.2.1 dL_law_1348 ?_
  obtain ⟨v2, g1, hf⟩ := x_bind hf
  refine x_sld (pc := 1349) E hX hbl hw g1 dL_law_1349 ?_
  refine lv_aload_n (pc := 1350) E.1 E.2.1 dL_law_1350 rfl (lv_at hl 0 rfl) ?_
  refine lv_iload_n (pc := 1351) E.1 E.2.1 dL_law_1351 rfl (lv_at hl 3 rfl) ?_
  refine lv_iconst (v := 2) (pc := 1352) E.1 E.2.1 dL_law_1352 (by decide) ?_
  refine lv_iadd (pc := 1353) E.1 E.2.1 dL_law_1353 ?_
  obtain ⟨v4, g3, hf⟩ := x_bind hf
  refine x_sld (pc := 1354) E hX hbl hw g3 dL_law_1354 ?_
  obtain ⟨v5, g6, hf⟩ := x_bind hf
  refine x_callV (pc := 1355) (As := [.int v2, .int v4]) (rest := []) (st1 := [.int v5.1]) (ws' := (cells7 G ad v5.2 ++ cells8 G ae q)) E hw hl (c_X7_shareBy l G ad s v2 v4 g6) xv_L_163 xd_X7_shareBy rfl rfl ⟨Nat.le_of_ble_eq_true rfl, Nat.le_of_ble_eq_true rfl⟩ [0, 1, 2, 3, 4, 5, 6, 7, 8, 9, 10, 11, 12, 13, 14, 15, 16, 17, 18, 19, 20, 21, 22, 23, 24, 25, 26, 27, 28, 29, 30] [31, 32, 33, 34, 35, 36, 37, 38, 39, 40, 41, 42, 43, 44, 45, 46, 47, 48, 49, 50] (by decide) ⟨rfl, rfl, rfl, rfl, rfl, rfl, rfl, rfl, rfl, rfl, rfl, rfl, rfl, rfl, rfl, rfl, rfl, rfl, rfl, rfl, rfl, rfl, rfl, rfl, rfl, rfl, rfl, rfl, rfl, rfl, rfl, trivial⟩ (q0 := 0) rfl rfl rfl rfl (Nat.le_of_ble_eq_true rfl) (nw := 51) ⟨rfl, rfl, rfl, rfl, rfl, rfl, rfl, rfl, rfl, rfl, rfl, rfl, rfl, rfl, rfl, rfl, rfl, rfl, rfl, rfl, rfl, rfl, rfl, rfl, rfl, rfl, rfl, rfl, rfl, rfl, rfl, trivial⟩ ⟨⟨_, rfl, rfl⟩, ⟨_, rfl, rfl⟩, ⟨_, rfl, rfl⟩, ⟨_, rfl, rfl⟩, ⟨_, rfl, rfl⟩, ⟨_, rfl, rfl⟩, ⟨_, rfl, rfl⟩, ⟨_, rfl, rfl⟩, ⟨_, rfl, rfl⟩, ⟨_, rfl, rfl⟩, ⟨_, rfl, rfl⟩, ⟨_, rfl, rfl⟩, ⟨_, rfl, rfl⟩, ⟨_, rfl, rfl⟩, ⟨_, rfl, rfl⟩, ⟨_, rfl, rfl⟩, ⟨_, rfl, rfl⟩, ⟨_, rfl, rfl⟩, ⟨_, rfl, rfl⟩, ⟨_, rfl, rfl⟩, trivial⟩ rfl rfl (by decide) (by decide) rfl dL_law_1355 (fun H locs hw => ?_) (hcs := ⟨Nat.le_refl _, Nat.le_refl _⟩)
  refine lv_aload_n (pc := 1358) E.1 E.2.1 dL_law_1358 rfl (lv_at hl 2 rfl) ?_
  refine lv_aload_n (pc := 1359) E.1 E.2.1 dL_law_1359 rfl (lv_at hl 0 rfl) ?_
  refine lv_iload_n (pc := 1360) E.1 E.2.1 dL_law_1360 rfl (lv_at hl 3 rfl) ?_
  refine lv_iconst (v := 1) (pc := 1361) E.1 E.2.1 dL_law_1361 (by decide) ?_
  refine lv_iadd (pc := 1362) E.1 E.2.1 dL_law_1362 ?_
  obtain ⟨v8, g7, hf⟩ := x_bind hf
  refine x_sld (pc := 1363) E hX hbl hw g7 dL_law_1363 ?_
  refine lv_aload_n (pc := 1364) E.1 E.2.1 dL_law_1364 rfl (lv_at hl 0 rfl) ?_
  refine lv_iload_n (pc := 1365) E.1 E.2.1 dL_law_1365 rfl (lv_at hl 3 rfl) ?_
  refine lv_iconst (v := 2) (pc := 1366) E.1 E.2.1 dL_law_1366 (by decide) ?_
  refine lv_iadd (pc := 1367) E.1 E.2.1 dL_law_1367 ?_
  obtain ⟨v10, g9, hf⟩ := x_bind hf
  refine x_sld (pc := 1368) E hX hbl hw g9 dL_law_1368 ?_
  obtain ⟨v11, g12, hf⟩ := x_bind hf
  refine x_callV (pc := 1369) (As := [.int v8, .int v10]) (rest := [.int v5.1]) (st1 := [.int v11.1, .int v5.1]) (ws' := (cells7 G ad v5.2 ++ cells8 G ae v11.2)) E hw hl (c_X8_shareBy l G ae q v8 v10 g12) xv_L_166 xd_X8_shareBy rfl rfl ⟨Nat.le_of_ble_eq_true rfl, Nat.le_of_ble_eq_true rfl⟩ [31, 32, 33, 34, 35, 36, 37, 38, 39, 40, 41, 42, 43, 44, 45, 46, 47, 48, 49, 50] [0, 1, 2, 3, 4, 5, 6, 7, 8, 9, 10, 11, 12, 13, 14, 15, 16, 17, 18, 19, 20, 21, 22, 23, 24, 25, 26, 27, 28, 29, 30] (by decide) ⟨rfl, rfl, rfl, rfl, rfl, rfl, rfl, rfl, rfl, rfl, rfl, rfl, rfl, rfl, rfl, rfl, rfl, rfl, rfl, rfl, trivial⟩ (q0 := 31) rfl rfl rfl rfl (Nat.le_of_ble_eq_true rfl) (nw := 51) ⟨rfl, rfl, rfl, rfl, rfl, rfl, rfl, rfl, rfl, rfl, rfl, rfl, rfl, rfl, rfl, rfl, rfl, rfl, rfl, rfl, trivial⟩ ⟨⟨_, rfl, rfl⟩, ⟨_, rfl, rfl⟩, ⟨_, rfl, rfl⟩, ⟨_, rfl, rfl⟩, ⟨_, rfl, rfl⟩, ⟨_, rfl, rfl⟩, ⟨_, rfl, rfl⟩, ⟨_, rfl, rfl⟩, ⟨_, rfl, rfl⟩, ⟨_, rfl, rfl⟩, ⟨_, rfl, rfl⟩, ⟨_, rfl, rfl⟩, ⟨_, rfl, rfl⟩, ⟨_, rfl, rfl⟩, ⟨_, rfl, rfl⟩, ⟨_, rfl, rfl⟩, ⟨_, rfl, rfl⟩, ⟨_, rfl, rfl⟩, ⟨_, rfl, rfl⟩, ⟨_, rfl, rfl⟩, ⟨_, rfl, rfl⟩, ⟨_, rfl, rfl⟩, ⟨_, rfl, rfl⟩, ⟨_, rfl, rfl⟩, ⟨_, rfl, rfl⟩, ⟨_, rfl, rfl⟩, ⟨_, rfl, rfl⟩, ⟨_, rfl, rfl⟩, ⟨_, rfl, rfl⟩, ⟨_, rfl, rfl⟩, ⟨_, rfl, rfl⟩, trivial⟩ rfl rfl (by decide) (by decide) rfl dL_law_1369 (fun H locs hw => ?_) (hcs := ⟨Nat.le_refl _, Nat.le_refl _⟩)
  refine lv_icmp_eq (tgt := 1816) (pc := 1372) E.1 E.2.1 dL_law_1372 (by decide) (fun q13 => ?_) (fun q13 => ?_)
  · have hf := x_pos q13 hf
    exact w_law_p1816 E hX hbl hr hk hk18 v5.2 v11.2 x3 hw (lv_sub hl [0, 1, 2, 3] rfl) hf
  · have hf := x_neg q13 hf
    refine lv_iconst (v := 0) (pc := 1375) E.1 E.2.1 dL_law_1375 (by decide) ?_
    exact absurd (Option.some.inj hf) (by decide)
set_option maxHeartbeats 4000000 in
set_option maxRecDepth 100000 in
theorem w_law_p1311 {p : Program} {l : Launch} {e : Env} {sS : State} {m : MethodId} {below : List Frame} {meth : Method} {c : Code} {G : xG} {ad ae : Nat → Nat} {b L : Nat} {xs : Nat → Int32} {k18 : S7 → S8 → Int32 → Option Int32} (E : xE p sS m #[Value.ref b] c cL_law 4 RL G (fun q => sS.heap.size ≤ q)) (hX : va_X b L xs sS sS.heap) (hbl : b < sS.heap.size) (hr : meth.sig.returnType = ret) (hk : meth.locks = false) (hk18 : ∀ (s' : S7) (q' : S8) (x3' : Int32) {H : Heap} {locs : List Loc} {ls : Array Slot}, xW G (fun q => sS.heap.size ≤ q) sS.heap (cells7 G ad s' ++ cells8 G ae q') H locs → lv_has ls 4 [(0, .ref b), (1, .ref (ad 0)), (2, .ref (ae 0)), (3, .int x3')] → k18  s' q' x3' = some 1 → W p l e room_1 sS m #[Value.ref b] below meth c H locs 51 5492 (lw_Z below #[Value.ref b] sS) (F0 m 18 ls [])) : ∀ (s' : S7) (q' : S8) (x3' : Int32) {H : Heap} {locs : List Loc} {ls : Array Slot}, xW G (fun q => sS.heap.size ≤ q) sS.heap (cells7 G ad s' ++ cells8 G ae q') H locs → lv_has ls 4 [(0, .ref b), (1, .ref (ad 0)), (2, .ref (ae 0)), (3, .int x3')] → f_law_p1311 k18 L xs s' q' x3' = some 1 → W p l e room_1 sS m #[Value.ref b] below meth c H locs 51 5492 (lw_Z below #[Value.ref b] sS) (F0 m 1311 ls []) := by
  intro s q x3 H locs ls hw hl hf
  unfold f_law_p1311 at hf
  refine lv_aload_n (pc := 1311) E.1 E.2.1 dL_law_1311 rfl (lv_at hl 1 rfl) ?_
  refine lv_aload_n (pc := 1312) E.1 E.2.1 dL_law_1312 rfl (lv_at hl 0 rfl) ?_
  refine lv_iload_n (pc := 1313) E.1 E.2.1 dL_law_1313 rfl (lv_at hl 3 rfl) ?_
  refine lv_iconst (v := 1) (pc := 1314) E.1 E.2.1 dL_law_1314 (by decide) ?_
  refine lv_iadd (pc := 1315) E.1 E.2.1 dL_law_1315 ?_
  obtain ⟨v2, g1, hf⟩ := x_bind hf
  refine x_sld (pc := 1316) E hX hbl hw g1 dL_law_1316 ?_
  refine lv_aload_n (pc := 1317) E.1 E.2.1 dL_law_1317 rfl (lv_at hl 0 rfl) ?_
  refine lv_iload_n (pc := 1318) E.1 E.2.1 dL_law_1318 rfl (lv_at hl 3 rfl) ?_
  refine lv_iconst (v := 2) (pc := 1319) E.1 E.2.1 dL_law_1319 (by decide) ?_
  refine lv_iadd (pc := 1320) E.1 E.2.1 dL_law_1320 ?_
  obtain ⟨v4, g3, hf⟩ := x_bind hf
  refine x_sld (pc := 1321) E hX hbl hw g3 dL_law_1321 ?_
  obtain ⟨v5, g6, hf⟩ := x_bind hf
  refine x_callV (pc := 1322) (As := [.int v2, .int v4]) (rest := []) (st1 := [.int v5.1]) (ws' := (cells7 G ad v5.2 ++ cells8 G ae q)) E hw hl (c_X7_premium l G ad s v2 v4 g6) xv_L_159 xd_X7_premium rfl rfl ⟨Nat.le_of_ble_eq_true rfl, Nat.le_of_ble_eq_true rfl⟩ [0, 1, 2, 3, 4, 5, 6, 7, 8, 9, 10, 11, 12, 13, 14, 15, 16, 17, 18, 19, 20, 21, 22, 23, 24, 25, 26, 27, 28, 29, 30] [31, 32, 33, 34, 35, 36, 37, 38, 39, 40, 41, 42, 43, 44, 45, 46, 47, 48, 49, 50] (by decide) ⟨rfl, rfl, rfl, rfl, rfl, rfl, rfl, rfl, rfl, rfl, rfl, rfl, rfl, rfl, rfl, rfl, rfl, rfl, rfl, rfl, rfl, rfl, rfl, rfl, rfl, rfl, rfl, rfl, rfl, rfl, rfl, trivial⟩ (q0 := 0) rfl rfl rfl rfl (Nat.le_of_ble_eq_true rfl) (nw := 51) ⟨rfl, rfl, rfl, rfl, rfl, rfl, rfl, rfl, rfl, rfl, rfl, rfl, rfl, rfl, rfl, rfl, rfl, rfl, rfl, rfl, rfl, rfl, rfl, rfl, rfl, rfl, rfl, rfl, rfl, rfl, rfl, trivial⟩ ⟨⟨_, rfl, rfl⟩, ⟨_, rfl, rfl⟩, ⟨_, rfl, rfl⟩, ⟨_, rfl, rfl⟩, ⟨_, rfl, rfl⟩, ⟨_, rfl, rfl⟩, ⟨_, rfl, rfl⟩, ⟨_, rfl, rfl⟩, ⟨_, rfl, rfl⟩, ⟨_, rfl, rfl⟩, ⟨_, rfl, rfl⟩, ⟨_, rfl, rfl⟩, ⟨_, rfl, rfl⟩, ⟨_, rfl, rfl⟩, ⟨_, rfl, rfl⟩, ⟨_, rfl, rfl⟩, ⟨_, rfl, rfl⟩, ⟨_, rfl, rfl⟩, ⟨_, rfl, rfl⟩, ⟨_, rfl, rfl⟩, trivial⟩ rfl rfl (by decide) (by decide) rfl dL_law_1322 (fun H locs hw => ?_) (hcs := ⟨Nat.le_refl _, Nat.le_refl _⟩)
  refine lv_aload_n (pc := 1325) E.1 E.2.1 dL_law_1325 rfl (lv_at hl 2 rfl) ?_
  refine lv_aload_n (pc := 1326) E.1 E.2.1 dL_law_1326 rfl (lv_at hl 0 rfl) ?_
  refine lv_iload_n (pc := 1327) E.1 E.2.1 dL_law_1327 rfl (lv_at hl 3 rfl) ?_
  refine lv_iconst (v := 1) (pc := 1328) E.1 E.2.1 dL_law_1328 (by decide) ?_
  refine lv_iadd (pc := 1329) E.1 E.2.1 dL_law_1329 ?_
  obtain ⟨v8, g7, hf⟩ := x_bind hf
  refine x_sld (pc := 1330) E hX hbl hw g7 dL_law_1330 ?_
  refine lv_aload_n (pc := 1331) E.1 E.2.1 dL_law_1331 rfl (lv_at hl 0 rfl) ?_
  refine lv_iload_n (pc := 1332) E.1 E.2.1 dL_law_1332 rfl (lv_at hl 3 rfl) ?_
  refine lv_iconst (v := 2) (pc := 1333) E.1 E.2.1 dL_law_1333 (by decide) ?_
  refine lv_iadd (pc := 1334) E.1 E.2.1 dL_law_1334 ?_
  obtain ⟨v10, g9, hf⟩ := x_bind hf
  refine x_sld (pc := 1335) E hX hbl hw g9 dL_law_1335 ?_
  obtain ⟨v11, g12, hf⟩ := x_bind hf
  refine x_callV (pc := 1336) (As := [.int v8, .int v10]) (rest := [.int v5.1]) (st1 := [.int v11.1, .int v5.1]) (ws' := (cells7 G ad v5.2 ++ cells8 G ae v11.2)) E hw hl (c_X8_premium l G ae q v8 v10 g12) xv_L_162 xd_X8_premium rfl rfl ⟨Nat.le_of_ble_eq_true rfl, Nat.le_of_ble_eq_true rfl⟩ [31, 32, 33, 34, 35, 36, 37, 38, 39, 40, 41, 42, 43, 44, 45, 46, 47, 48, 49, 50] [0, 1, 2, 3, 4, 5, 6, 7, 8, 9, 10, 11, 12, 13, 14, 15, 16, 17, 18, 19, 20, 21, 22, 23, 24, 25, 26, 27, 28, 29, 30] (by decide) ⟨rfl, rfl, rfl, rfl, rfl, rfl, rfl, rfl, rfl, rfl, rfl, rfl, rfl, rfl, rfl, rfl, rfl, rfl, rfl, rfl, trivial⟩ (q0 := 31) rfl rfl rfl rfl (Nat.le_of_ble_eq_true rfl) (nw := 51) ⟨rfl, rfl, rfl, rfl, rfl, rfl, rfl, rfl, rfl, rfl, rfl, rfl, rfl, rfl, rfl, rfl, rfl, rfl, rfl, rfl, trivial⟩ ⟨⟨_, rfl, rfl⟩, ⟨_, rfl, rfl⟩, ⟨_, rfl, rfl⟩, ⟨_, rfl, rfl⟩, ⟨_, rfl, rfl⟩, ⟨_, rfl, rfl⟩, ⟨_, rfl, rfl⟩, ⟨_, rfl, rfl⟩, ⟨_, rfl, rfl⟩, ⟨_, rfl, rfl⟩, ⟨_, rfl, rfl⟩, ⟨_, rfl, rfl⟩, ⟨_, rfl, rfl⟩, ⟨_, rfl, rfl⟩, ⟨_, rfl, rfl⟩, ⟨_, rfl, rfl⟩, ⟨_, rfl, rfl⟩, ⟨_, rfl, rfl⟩, ⟨_, rfl, rfl⟩, ⟨_, rfl, rfl⟩, ⟨_, rfl, rfl⟩, ⟨_, rfl, rfl⟩, ⟨_, rfl, rfl⟩, ⟨_, rfl, rfl⟩, ⟨_, rfl, rfl⟩, ⟨_, rfl, rfl⟩, ⟨_, rfl, rfl⟩, ⟨_, rfl, rfl⟩, ⟨_, rfl, rfl⟩, ⟨_, rfl, rfl⟩, ⟨_, rfl, rfl⟩, trivial⟩ rfl rfl (by decide) (by decide) rfl dL_law_1336 (fun H locs hw => ?_) (hcs := ⟨Nat.le_refl _, Nat.le_refl _⟩)
  refine lv_icmp_eq (tgt := 1816) (pc := 1339) E.1 E.2.1 dL_law_1339 (by decide) (fun q13 => ?_) (fun q13 => ?_)
  · have hf := x_pos q13 hf
    exact w_law_p1816 E hX hbl hr hk hk18 v5.2 v11.2 x3 hw (lv_sub hl [0, 1, 2, 3] rfl) hf
  · have hf := x_neg q13 hf
    refine lv_iconst (v := 0) (pc := 1342) E.1 E.2.1 dL_law_1342 (by decide) ?_
    exact absurd (Option.some.inj hf) (by decide)
set_option maxHeartbeats 4000000 in
set_option maxRecDepth 100000 in
theorem w_law_p1278 {p : Program} {l : Launch} {e : Env} {sS : State} {m : MethodId} {below : List Frame} {meth : Method} {c : Code} {G : xG} {ad ae : Nat → Nat} {b L : Nat} {xs : Nat → Int32} {k18 : S7 → S8 → Int32 → Option Int32} (E : xE p sS m #[Value.ref b] c cL_law 4 RL G (fun q => sS.heap.size ≤ q)) (hX : va_X b L xs sS sS.heap) (hbl : b < sS.heap.size) (hr : meth.sig.returnType = ret) (hk : meth.locks = false) (hk18 : ∀ (s' : S7) (q' : S8) (x3' : Int32) {H : Heap} {locs : List Loc} {ls : Array Slot}, xW G (fun q => sS.heap.size ≤ q) sS.heap (cells7 G ad s' ++ cells8 G ae q') H locs → lv_has ls 4 [(0, .ref b), (1, .ref (ad 0)), (2, .ref (ae 0)), (3, .int x3')] → k18  s' q' x3' = some 1 → W p l e room_1 sS m #[Value.ref b] below meth c H locs 51 5492 (lw_Z below #[Value.ref b] sS) (F0 m 18 ls [])) : ∀ (s' : S7) (q' : S8) (x3' : Int32) {H : Heap} {locs : List Loc} {ls : Array Slot}, xW G (fun q => sS.heap.size ≤ q) sS.heap (cells7 G ad s' ++ cells8 G ae q') H locs → lv_has ls 4 [(0, .ref b), (1, .ref (ad 0)), (2, .ref (ae 0)), (3, .int x3')] → f_law_p1278 k18 L xs s' q' x3' = some 1 → W p l e room_1 sS m #[Value.ref b] below meth c H locs 51 5492 (lw_Z below #[Value.ref b] sS) (F0 m 1278 ls []) := by
  intro s q x3 H locs ls hw hl hf
  unfold f_law_p1278 at hf
  refine lv_aload_n (pc := 1278) E.1 E.2.1 dL_law_1278 rfl (lv_at hl 1 rfl) ?_
  refine lv_aload_n (pc := 1279) E.1 E.2.1 dL_law_1279 rfl (lv_at hl 0 rfl) ?_
  refine lv_iload_n (pc := 1280) E.1 E.2.1 dL_law_1280 rfl (lv_at hl 3 rfl) ?_
  refine lv_iconst (v := 1) (pc := 1281) E.1 E.2.1 dL_law_1281 (by decide) ?_
  refine lv_iadd (pc := 1282) E.1 E.2.1 dL_law_1282 ?_
  obtain ⟨v2, g1, hf⟩ := x_bind hf
  refine x_sld (pc := 1283) E hX hbl hw g1 dL_law_1283 ?_
  refine lv_aload_n (pc := 1284) E.1 E.2.1 dL_law_1284 rfl (lv_at hl 0 rfl) ?_
  refine lv_iload_n (pc := 1285) E.1 E.2.1 dL_law_1285 rfl (lv_at hl 3 rfl) ?_
  refine lv_iconst (v := 2) (pc := 1286) E.1 E.2.1 dL_law_1286 (by decide) ?_
  refine lv_iadd (pc := 1287) E.1 E.2.1 dL_law_1287 ?_
  obtain ⟨v4, g3, hf⟩ := x_bind hf
  refine x_sld (pc := 1288) E hX hbl hw g3 dL_law_1288 ?_
  obtain ⟨v5, g6, hf⟩ := x_bind hf
  refine x_callV (pc := 1289) (As := [.int v2, .int v4]) (rest := []) (st1 := [.int v5.1]) (ws' := (cells7 G ad v5.2 ++ cells8 G ae q)) E hw hl (c_X7_gap l G ad s v2 v4 g6) xv_L_155 xd_X7_gap rfl rfl ⟨Nat.le_of_ble_eq_true rfl, Nat.le_of_ble_eq_true rfl⟩ [0, 1, 2, 3, 4, 5, 6, 7, 8, 9, 10, 11, 12, 13, 14, 15, 16, 17, 18, 19, 20, 21, 22, 23, 24, 25, 26, 27, 28, 29, 30] [31, 32, 33, 34, 35, 36, 37, 38, 39, 40, 41, 42, 43, 44, 45, 46, 47, 48, 49, 50] (by decide) ⟨rfl, rfl, rfl, rfl, rfl, rfl, rfl, rfl, rfl, rfl, rfl, rfl, rfl, rfl, rfl, rfl, rfl, rfl, rfl, rfl, rfl, rfl, rfl, rfl, rfl, rfl, rfl, rfl, rfl, rfl, rfl, trivial⟩ (q0 := 0) rfl rfl rfl rfl (Nat.le_of_ble_eq_true rfl) (nw := 51) ⟨rfl, rfl, rfl, rfl, rfl, rfl, rfl, rfl, rfl, rfl, rfl, rfl, rfl, rfl, rfl, rfl, rfl, rfl, rfl, rfl, rfl, rfl, rfl, rfl, rfl, rfl, rfl, rfl, rfl, rfl, rfl, trivial⟩ ⟨⟨_, rfl, rfl⟩, ⟨_, rfl, rfl⟩, ⟨_, rfl, rfl⟩, ⟨_, rfl, rfl⟩, ⟨_, rfl, rfl⟩, ⟨_, rfl, rfl⟩, ⟨_, rfl, rfl⟩, ⟨_, rfl, rfl⟩, ⟨_, rfl, rfl⟩, ⟨_, rfl, rfl⟩, ⟨_, rfl, rfl⟩, ⟨_, rfl, rfl⟩, ⟨_, rfl, rfl⟩, ⟨_, rfl, rfl⟩, ⟨_, rfl, rfl⟩, ⟨_, rfl, rfl⟩, ⟨_, rfl, rfl⟩, ⟨_, rfl, rfl⟩, ⟨_, rfl, rfl⟩, ⟨_, rfl, rfl⟩, trivial⟩ rfl rfl (by decide) (by decide) rfl dL_law_1289 (fun H locs hw => ?_) (hcs := ⟨Nat.le_refl _, Nat.le_refl _⟩)
  refine lv_aload_n (pc := 1292) E.1 E.2.1 dL_law_1292 rfl (lv_at hl 2 rfl) ?_
  refine lv_aload_n (pc := 1293) E.1 E.2.1 dL_law_1293 rfl (lv_at hl 0 rfl) ?_
  refine lv_iload_n (pc := 1294) E.1 E.2.1 dL_law_1294 rfl (lv_at hl 3 rfl) ?_
  refine lv_iconst (v := 1) (pc := 1295) E.1 E.2.1 dL_law_1295 (by decide) ?_
  refine lv_iadd (pc := 1296) E.1 E.2.1 dL_law_1296 ?_
  obtain ⟨v8, g7, hf⟩ := x_bind hf
  refine x_sld (pc := 1297) E hX hbl hw g7 dL_law_1297 ?_
  refine lv_aload_n (pc := 1298) E.1 E.2.1 dL_law_1298 rfl (lv_at hl 0 rfl) ?_
  refine lv_iload_n (pc := 1299) E.1 E.2.1 dL_law_1299 rfl (lv_at hl 3 rfl) ?_
  refine lv_iconst (v := 2) (pc := 1300) E.1 E.2.1 dL_law_1300 (by decide) ?_
  refine lv_iadd (pc := 1301) E.1 E.2.1 dL_law_1301 ?_
  obtain ⟨v10, g9, hf⟩ := x_bind hf
  refine x_sld (pc := 1302) E hX hbl hw g9 dL_law_1302 ?_
  obtain ⟨v11, g12, hf⟩ := x_bind hf
  refine x_callV (pc := 1303) (As := [.int v8, .int v10]) (rest := [.int v5.1]) (st1 := [.int v11.1, .int v5.1]) (ws' := (cells7 G ad v5.2 ++ cells8 G ae v11.2)) E hw hl (c_X8_gap l G ae q v8 v10 g12) xv_L_158 xd_X8_gap rfl rfl ⟨Nat.le_of_ble_eq_true rfl, Nat.le_of_ble_eq_true rfl⟩ [31, 32, 33, 34, 35, 36, 37, 38, 39, 40, 41, 42, 43, 44, 45, 46, 47, 48, 49, 50] [0, 1, 2, 3, 4, 5, 6, 7, 8, 9, 10, 11, 12, 13, 14, 15, 16, 17, 18, 19, 20, 21, 22, 23, 24, 25, 26, 27, 28, 29, 30] (by decide) ⟨rfl, rfl, rfl, rfl, rfl, rfl, rfl, rfl, rfl, rfl, rfl, rfl, rfl, rfl, rfl, rfl, rfl, rfl, rfl, rfl, trivial⟩ (q0 := 31) rfl rfl rfl rfl (Nat.le_of_ble_eq_true rfl) (nw := 51) ⟨rfl, rfl, rfl, rfl, rfl, rfl, rfl, rfl, rfl, rfl, rfl, rfl, rfl, rfl, rfl, rfl, rfl, rfl, rfl, rfl, trivial⟩ ⟨⟨_, rfl, rfl⟩, ⟨_, rfl, rfl⟩, ⟨_, rfl, rfl⟩, ⟨_, rfl, rfl⟩, ⟨_, rfl, rfl⟩, ⟨_, rfl, rfl⟩, ⟨_, rfl, rfl⟩, ⟨_, rfl, rfl⟩, ⟨_, rfl, rfl⟩, ⟨_, rfl, rfl⟩, ⟨_, rfl, rfl⟩, ⟨_, rfl, rfl⟩, ⟨_, rfl, rfl⟩, ⟨_, rfl, rfl⟩, ⟨_, rfl, rfl⟩, ⟨_, rfl, rfl⟩, ⟨_, rfl, rfl⟩, ⟨_, rfl, rfl⟩, ⟨_, rfl, rfl⟩, ⟨_, rfl, rfl⟩, ⟨_, rfl, rfl⟩, ⟨_, rfl, rfl⟩, ⟨_, rfl, rfl⟩, ⟨_, rfl, rfl⟩, ⟨_, rfl, rfl⟩, ⟨_, rfl, rfl⟩, ⟨_, rfl, rfl⟩, ⟨_, rfl, rfl⟩, ⟨_, rfl, rfl⟩, ⟨_, rfl, rfl⟩, ⟨_, rfl, rfl⟩, trivial⟩ rfl rfl (by decide) (by decide) rfl dL_law_1303 (fun H locs hw => ?_) (hcs := ⟨Nat.le_refl _, Nat.le_refl _⟩)
  refine lv_icmp_eq (tgt := 1816) (pc := 1306) E.1 E.2.1 dL_law_1306 (by decide) (fun q13 => ?_) (fun q13 => ?_)
  · have hf := x_pos q13 hf
    exact w_law_p1816 E hX hbl hr hk hk18 v5.2 v11.2 x3 hw (lv_sub hl [0, 1, 2, 3] rfl) hf
  · have hf := x_neg q13 hf
    refine lv_iconst (v := 0) (pc := 1309) E.1 E.2.1 dL_law_1309 (by decide) ?_
    exact absurd (Option.some.inj hf) (by decide)
set_option maxHeartbeats 4000000 in
set_option maxRecDepth 100000 in
theorem w_law_p1255 {p : Program} {l : Launch} {e : Env} {sS : State} {m : MethodId} {below : List Frame} {meth : Method} {c : Code} {G : xG} {ad ae : Nat → Nat} {b L : Nat} {xs : Nat → Int32} {k18 : S7 → S8 → Int32 → Option Int32} (E : xE p sS m #[Value.ref b] c cL_law 4 RL G (fun q => sS.heap.size ≤ q)) (hX : va_X b L xs sS sS.heap) (hbl : b < sS.heap.size) (hr : meth.sig.returnType = ret) (hk : meth.locks = false) (hk18 : ∀ (s' : S7) (q' : S8) (x3' : Int32) {H : Heap} {locs : List Loc} {ls : Array Slot}, xW G (fun q => sS.heap.size ≤ q) sS.heap (cells7 G ad s' ++ cells8 G ae q') H locs → lv_has ls 4 [(0, .ref b), (1, .ref (ad 0)), (2, .ref (ae 0)), (3, .int x3')] → k18  s' q' x3' = some 1 → W p l e room_1 sS m #[Value.ref b] below meth c H locs 51 5492 (lw_Z below #[Value.ref b] sS) (F0 m 18 ls [])) : ∀ (s' : S7) (q' : S8) (x3' : Int32) {H : Heap} {locs : List Loc} {ls : Array Slot}, xW G (fun q => sS.heap.size ≤ q) sS.heap (cells7 G ad s' ++ cells8 G ae q') H locs → lv_has ls 4 [(0, .ref b), (1, .ref (ad 0)), (2, .ref (ae 0)), (3, .int x3')] → f_law_p1255 k18 L xs s' q' x3' = some 1 → W p l e room_1 sS m #[Value.ref b] below meth c H locs 51 5492 (lw_Z below #[Value.ref b] sS) (F0 m 1255 ls []) := by
  intro s q x3 H locs ls hw hl hf
  unfold f_law_p1255 at hf
  refine lv_aload_n (pc := 1255) E.1 E.2.1 dL_law_1255 rfl (lv_at hl 1 rfl) ?_
  refine lv_aload_n (pc := 1256) E.1 E.2.1 dL_law_1256 rfl (lv_at hl 0 rfl) ?_
  refine lv_iload_n (pc := 1257) E.1 E.2.1 dL_law_1257 rfl (lv_at hl 3 rfl) ?_
  refine lv_iconst (v := 1) (pc := 1258) E.1 E.2.1 dL_law_1258 (by decide) ?_
  refine lv_iadd (pc := 1259) E.1 E.2.1 dL_law_1259 ?_
  obtain ⟨v2, g1, hf⟩ := x_bind hf
  refine x_sld (pc := 1260) E hX hbl hw g1 dL_law_1260 ?_
  obtain ⟨v3, g4, hf⟩ := x_bind hf
  refine x_callV (pc := 1261) (As := [.int v2]) (rest := []) (st1 := [.int v3]) (ws' := (cells7 G ad s ++ cells8 G ae q)) E hw hl (c_X7_claimsIn l G ad s v2 g4) xv_L_151 xd_X7_claimsIn rfl rfl ⟨Nat.le_of_ble_eq_true rfl, Nat.le_of_ble_eq_true rfl⟩ [0, 1, 2, 3, 4, 5, 6, 7, 8, 9, 10, 11, 12, 13, 14, 15, 16, 17, 18, 19, 20, 21, 22, 23, 24, 25, 26, 27, 28, 29, 30] [31, 32, 33, 34, 35, 36, 37, 38, 39, 40, 41, 42, 43, 44, 45, 46, 47, 48, 49, 50] (by decide) ⟨rfl, rfl, rfl, rfl, rfl, rfl, rfl, rfl, rfl, rfl, rfl, rfl, rfl, rfl, rfl, rfl, rfl, rfl, rfl, rfl, rfl, rfl, rfl, rfl, rfl, rfl, rfl, rfl, rfl, rfl, rfl, trivial⟩ (q0 := 0) rfl rfl rfl rfl (Nat.le_of_ble_eq_true rfl) (nw := 51) ⟨rfl, rfl, rfl, rfl, rfl, rfl, rfl, rfl, rfl, rfl, rfl, rfl, rfl, rfl, rfl, rfl, rfl, rfl, rfl, rfl, rfl, rfl, rfl, rfl, rfl, rfl, rfl, rfl, rfl, rfl, rfl, trivial⟩ ⟨⟨_, rfl, rfl⟩, ⟨_, rfl, rfl⟩, ⟨_, rfl, rfl⟩, ⟨_, rfl, rfl⟩, ⟨_, rfl, rfl⟩, ⟨_, rfl, rfl⟩, ⟨_, rfl, rfl⟩, ⟨_, rfl, rfl⟩, ⟨_, rfl, rfl⟩, ⟨_, rfl, rfl⟩, ⟨_, rfl, rfl⟩, ⟨_, rfl, rfl⟩, ⟨_, rfl, rfl⟩, ⟨_, rfl, rfl⟩, ⟨_, rfl, rfl⟩, ⟨_, rfl, rfl⟩, ⟨_, rfl, rfl⟩, ⟨_, rfl, rfl⟩, ⟨_, rfl, rfl⟩, ⟨_, rfl, rfl⟩, trivial⟩ rfl rfl (by decide) (by decide) rfl dL_law_1261 (fun H locs hw => ?_) (hcs := ⟨Nat.le_refl _, Nat.le_refl _⟩)
  refine lv_aload_n (pc := 1264) E.1 E.2.1 dL_law_1264 rfl (lv_at hl 2 rfl) ?_
  refine lv_aload_n (pc := 1265) E.1 E.2.1 dL_law_1265 rfl (lv_at hl 0 rfl) ?_
  refine lv_iload_n (pc := 1266) E.1 E.2.1 dL_law_1266 rfl (lv_at hl 3 rfl) ?_
  refine lv_iconst (v := 1) (pc := 1267) E.1 E.2.1 dL_law_1267 (by decide) ?_
  refine lv_iadd (pc := 1268) E.1 E.2.1 dL_law_1268 ?_
  obtain ⟨v6, g5, hf⟩ := x_bind hf
  refine x_sld (pc := 1269) E hX hbl hw g5 dL_law_1269 ?_
  obtain ⟨v7, g8, hf⟩ := x_bind hf
  refine x_callV (pc := 1270) (As := [.int v6]) (rest := [.int v3]) (st1 := [.int v7, .int v3]) (ws' := (cells7 G ad s ++ cells8 G ae q)) E hw hl (c_X8_claimsIn l G ae q v6 g8) xv_L_154 xd_X8_claimsIn rfl rfl ⟨Nat.le_of_ble_eq_true rfl, Nat.le_of_ble_eq_true rfl⟩ [31, 32, 33, 34, 35, 36, 37, 38, 39, 40, 41, 42, 43, 44, 45, 46, 47, 48, 49, 50] [0, 1, 2, 3, 4, 5, 6, 7, 8, 9, 10, 11, 12, 13, 14, 15, 16, 17, 18, 19, 20, 21, 22, 23, 24, 25, 26, 27, 28, 29, 30] (by decide) ⟨rfl, rfl, rfl, rfl, rfl, rfl, rfl, rfl, rfl, rfl, rfl, rfl, rfl, rfl, rfl, rfl, rfl, rfl, rfl, rfl, trivial⟩ (q0 := 31) rfl rfl rfl rfl (Nat.le_of_ble_eq_true rfl) (nw := 51) ⟨rfl, rfl, rfl, rfl, rfl, rfl, rfl, rfl, rfl, rfl, rfl, rfl, rfl, rfl, rfl, rfl, rfl, rfl, rfl, rfl, trivial⟩ ⟨⟨_, rfl, rfl⟩, ⟨_, rfl, rfl⟩, ⟨_, rfl, rfl⟩, ⟨_, rfl, rfl⟩, ⟨_, rfl, rfl⟩, ⟨_, rfl, rfl⟩, ⟨_, rfl, rfl⟩, ⟨_, rfl, rfl⟩, ⟨_, rfl, rfl⟩, ⟨_, rfl, rfl⟩, ⟨_, rfl, rfl⟩, ⟨_, rfl, rfl⟩, ⟨_, rfl, rfl⟩, ⟨_, rfl, rfl⟩, ⟨_, rfl, rfl⟩, ⟨_, rfl, rfl⟩, ⟨_, rfl, rfl⟩, ⟨_, rfl, rfl⟩, ⟨_, rfl, rfl⟩, ⟨_, rfl, rfl⟩, ⟨_, rfl, rfl⟩, ⟨_, rfl, rfl⟩, ⟨_, rfl, rfl⟩, ⟨_, rfl, rfl⟩, ⟨_, rfl, rfl⟩, ⟨_, rfl, rfl⟩, ⟨_, rfl, rfl⟩, ⟨_, rfl, rfl⟩, ⟨_, rfl, rfl⟩, ⟨_, rfl, rfl⟩, ⟨_, rfl, rfl⟩, trivial⟩ rfl rfl (by decide) (by decide) rfl dL_law_1270 (fun H locs hw => ?_) (hcs := ⟨Nat.le_refl _, Nat.le_refl _⟩)
  refine lv_icmp_eq (tgt := 1816) (pc := 1273) E.1 E.2.1 dL_law_1273 (by decide) (fun q9 => ?_) (fun q9 => ?_)
  · have hf := x_pos q9 hf
    exact w_law_p1816 E hX hbl hr hk hk18 s q x3 hw (lv_sub hl [0, 1, 2, 3] rfl) hf
  · have hf := x_neg q9 hf
    refine lv_iconst (v := 0) (pc := 1276) E.1 E.2.1 dL_law_1276 (by decide) ?_
    exact absurd (Option.some.inj hf) (by decide)
set_option maxHeartbeats 4000000 in
set_option maxRecDepth 100000 in
theorem w_law_p1232 {p : Program} {l : Launch} {e : Env} {sS : State} {m : MethodId} {below : List Frame} {meth : Method} {c : Code} {G : xG} {ad ae : Nat → Nat} {b L : Nat} {xs : Nat → Int32} {k18 : S7 → S8 → Int32 → Option Int32} (E : xE p sS m #[Value.ref b] c cL_law 4 RL G (fun q => sS.heap.size ≤ q)) (hX : va_X b L xs sS sS.heap) (hbl : b < sS.heap.size) (hr : meth.sig.returnType = ret) (hk : meth.locks = false) (hk18 : ∀ (s' : S7) (q' : S8) (x3' : Int32) {H : Heap} {locs : List Loc} {ls : Array Slot}, xW G (fun q => sS.heap.size ≤ q) sS.heap (cells7 G ad s' ++ cells8 G ae q') H locs → lv_has ls 4 [(0, .ref b), (1, .ref (ad 0)), (2, .ref (ae 0)), (3, .int x3')] → k18  s' q' x3' = some 1 → W p l e room_1 sS m #[Value.ref b] below meth c H locs 51 5492 (lw_Z below #[Value.ref b] sS) (F0 m 18 ls [])) : ∀ (s' : S7) (q' : S8) (x3' : Int32) {H : Heap} {locs : List Loc} {ls : Array Slot}, xW G (fun q => sS.heap.size ≤ q) sS.heap (cells7 G ad s' ++ cells8 G ae q') H locs → lv_has ls 4 [(0, .ref b), (1, .ref (ad 0)), (2, .ref (ae 0)), (3, .int x3')] → f_law_p1232 k18 L xs s' q' x3' = some 1 → W p l e room_1 sS m #[Value.ref b] below meth c H locs 51 5492 (lw_Z below #[Value.ref b] sS) (F0 m 1232 ls []) := by
  intro s q x3 H locs ls hw hl hf
  unfold f_law_p1232 at hf
  refine lv_aload_n (pc := 1232) E.1 E.2.1 dL_law_1232 rfl (lv_at hl 1 rfl) ?_
  refine lv_aload_n (pc := 1233) E.1 E.2.1 dL_law_1233 rfl (lv_at hl 0 rfl) ?_
  refine lv_iload_n (pc := 1234) E.1 E.2.1 dL_law_1234 rfl (lv_at hl 3 rfl) ?_
  refine lv_iconst (v := 1) (pc := 1235) E.1 E.2.1 dL_law_1235 (by decide) ?_
  refine lv_iadd (pc := 1236) E.1 E.2.1 dL_law_1236 ?_
  obtain ⟨v2, g1, hf⟩ := x_bind hf
  refine x_sld (pc := 1237) E hX hbl hw g1 dL_law_1237 ?_
  obtain ⟨v3, g4, hf⟩ := x_bind hf
  refine x_callV (pc := 1238) (As := [.int v2]) (rest := []) (st1 := [.int v3.1]) (ws' := (cells7 G ad v3.2 ++ cells8 G ae q)) E hw hl (c_X7_dearestOf l G ad s v2 g4) xv_L_147 xd_X7_dearestOf rfl rfl ⟨Nat.le_of_ble_eq_true rfl, Nat.le_of_ble_eq_true rfl⟩ [0, 1, 2, 3, 4, 5, 6, 7, 8, 9, 10, 11, 12, 13, 14, 15, 16, 17, 18, 19, 20, 21, 22, 23, 24, 25, 26, 27, 28, 29, 30] [31, 32, 33, 34, 35, 36, 37, 38, 39, 40, 41, 42, 43, 44, 45, 46, 47, 48, 49, 50] (by decide) ⟨rfl, rfl, rfl, rfl, rfl, rfl, rfl, rfl, rfl, rfl, rfl, rfl, rfl, rfl, rfl, rfl, rfl, rfl, rfl, rfl, rfl, rfl, rfl, rfl, rfl, rfl, rfl, rfl, rfl, rfl, rfl, trivial⟩ (q0 := 0) rfl rfl rfl rfl (Nat.le_of_ble_eq_true rfl) (nw := 51) ⟨rfl, rfl, rfl, rfl, rfl, rfl, rfl, rfl, rfl, rfl, rfl, rfl, rfl, rfl, rfl, rfl, rfl, rfl, rfl, rfl, rfl, rfl, rfl, rfl, rfl, rfl, rfl, rfl, rfl, rfl, rfl, trivial⟩ ⟨⟨_, rfl, rfl⟩, ⟨_, rfl, rfl⟩, ⟨_, rfl, rfl⟩, ⟨_, rfl, rfl⟩, ⟨_, rfl, rfl⟩, ⟨_, rfl, rfl⟩, ⟨_, rfl, rfl⟩, ⟨_, rfl, rfl⟩, ⟨_, rfl, rfl⟩, ⟨_, rfl, rfl⟩, ⟨_, rfl, rfl⟩, ⟨_, rfl, rfl⟩, ⟨_, rfl, rfl⟩, ⟨_, rfl, rfl⟩, ⟨_, rfl, rfl⟩, ⟨_, rfl, rfl⟩, ⟨_, rfl, rfl⟩, ⟨_, rfl, rfl⟩, ⟨_, rfl, rfl⟩, ⟨_, rfl, rfl⟩, trivial⟩ rfl rfl (by decide) (by decide) rfl dL_law_1238 (fun H locs hw => ?_) (hcs := ⟨Nat.le_refl _, Nat.le_refl _⟩)
  refine lv_aload_n (pc := 1241) E.1 E.2.1 dL_law_1241 rfl (lv_at hl 2 rfl) ?_
  refine lv_aload_n (pc := 1242) E.1 E.2.1 dL_law_1242 rfl (lv_at hl 0 rfl) ?_
  refine lv_iload_n (pc := 1243) E.1 E.2.1 dL_law_1243 rfl (lv_at hl 3 rfl) ?_
  refine lv_iconst (v := 1) (pc := 1244) E.1 E.2.1 dL_law_1244 (by decide) ?_
  refine lv_iadd (pc := 1245) E.1 E.2.1 dL_law_1245 ?_
  obtain ⟨v6, g5, hf⟩ := x_bind hf
  refine x_sld (pc := 1246) E hX hbl hw g5 dL_law_1246 ?_
  obtain ⟨v7, g8, hf⟩ := x_bind hf
  refine x_callV (pc := 1247) (As := [.int v6]) (rest := [.int v3.1]) (st1 := [.int v7.1, .int v3.1]) (ws' := (cells7 G ad v3.2 ++ cells8 G ae v7.2)) E hw hl (c_X8_dearestOf l G ae q v6 g8) xv_L_150 xd_X8_dearestOf rfl rfl ⟨Nat.le_of_ble_eq_true rfl, Nat.le_of_ble_eq_true rfl⟩ [31, 32, 33, 34, 35, 36, 37, 38, 39, 40, 41, 42, 43, 44, 45, 46, 47, 48, 49, 50] [0, 1, 2, 3, 4, 5, 6, 7, 8, 9, 10, 11, 12, 13, 14, 15, 16, 17, 18, 19, 20, 21, 22, 23, 24, 25, 26, 27, 28, 29, 30] (by decide) ⟨rfl, rfl, rfl, rfl, rfl, rfl, rfl, rfl, rfl, rfl, rfl, rfl, rfl, rfl, rfl, rfl, rfl, rfl, rfl, rfl, trivial⟩ (q0 := 31) rfl rfl rfl rfl (Nat.le_of_ble_eq_true rfl) (nw := 51) ⟨rfl, rfl, rfl, rfl, rfl, rfl, rfl, rfl, rfl, rfl, rfl, rfl, rfl, rfl, rfl, rfl, rfl, rfl, rfl, rfl, trivial⟩ ⟨⟨_, rfl, rfl⟩, ⟨_, rfl, rfl⟩, ⟨_, rfl, rfl⟩, ⟨_, rfl, rfl⟩, ⟨_, rfl, rfl⟩, ⟨_, rfl, rfl⟩, ⟨_, rfl, rfl⟩, ⟨_, rfl, rfl⟩, ⟨_, rfl, rfl⟩, ⟨_, rfl, rfl⟩, ⟨_, rfl, rfl⟩, ⟨_, rfl, rfl⟩, ⟨_, rfl, rfl⟩, ⟨_, rfl, rfl⟩, ⟨_, rfl, rfl⟩, ⟨_, rfl, rfl⟩, ⟨_, rfl, rfl⟩, ⟨_, rfl, rfl⟩, ⟨_, rfl, rfl⟩, ⟨_, rfl, rfl⟩, ⟨_, rfl, rfl⟩, ⟨_, rfl, rfl⟩, ⟨_, rfl, rfl⟩, ⟨_, rfl, rfl⟩, ⟨_, rfl, rfl⟩, ⟨_, rfl, rfl⟩, ⟨_, rfl, rfl⟩, ⟨_, rfl, rfl⟩, ⟨_, rfl, rfl⟩, ⟨_, rfl, rfl⟩, ⟨_, rfl, rfl⟩, trivial⟩ rfl rfl (by decide) (by decide) rfl dL_law_1247 (fun H locs hw => ?_) (hcs := ⟨Nat.le_refl _, Nat.le_refl _⟩)
  refine lv_icmp_eq (tgt := 1816) (pc := 1250) E.1 E.2.1 dL_law_1250 (by decide) (fun q9 => ?_) (fun q9 => ?_)
  · have hf := x_pos q9 hf
    exact w_law_p1816 E hX hbl hr hk hk18 v3.2 v7.2 x3 hw (lv_sub hl [0, 1, 2, 3] rfl) hf
  · have hf := x_neg q9 hf
    refine lv_iconst (v := 0) (pc := 1253) E.1 E.2.1 dL_law_1253 (by decide) ?_
    exact absurd (Option.some.inj hf) (by decide)
set_option maxHeartbeats 4000000 in
set_option maxRecDepth 100000 in
theorem w_law_p1209 {p : Program} {l : Launch} {e : Env} {sS : State} {m : MethodId} {below : List Frame} {meth : Method} {c : Code} {G : xG} {ad ae : Nat → Nat} {b L : Nat} {xs : Nat → Int32} {k18 : S7 → S8 → Int32 → Option Int32} (E : xE p sS m #[Value.ref b] c cL_law 4 RL G (fun q => sS.heap.size ≤ q)) (hX : va_X b L xs sS sS.heap) (hbl : b < sS.heap.size) (hr : meth.sig.returnType = ret) (hk : meth.locks = false) (hk18 : ∀ (s' : S7) (q' : S8) (x3' : Int32) {H : Heap} {locs : List Loc} {ls : Array Slot}, xW G (fun q => sS.heap.size ≤ q) sS.heap (cells7 G ad s' ++ cells8 G ae q') H locs → lv_has ls 4 [(0, .ref b), (1, .ref (ad 0)), (2, .ref (ae 0)), (3, .int x3')] → k18  s' q' x3' = some 1 → W p l e room_1 sS m #[Value.ref b] below meth c H locs 51 5492 (lw_Z below #[Value.ref b] sS) (F0 m 18 ls [])) : ∀ (s' : S7) (q' : S8) (x3' : Int32) {H : Heap} {locs : List Loc} {ls : Array Slot}, xW G (fun q => sS.heap.size ≤ q) sS.heap (cells7 G ad s' ++ cells8 G ae q') H locs → lv_has ls 4 [(0, .ref b), (1, .ref (ad 0)), (2, .ref (ae 0)), (3, .int x3')] → f_law_p1209 k18 L xs s' q' x3' = some 1 → W p l e room_1 sS m #[Value.ref b] below meth c H locs 51 5492 (lw_Z below #[Value.ref b] sS) (F0 m 1209 ls []) := by
  intro s q x3 H locs ls hw hl hf
  unfold f_law_p1209 at hf
  refine lv_aload_n (pc := 1209) E.1 E.2.1 dL_law_1209 rfl (lv_at hl 1 rfl) ?_
  refine lv_aload_n (pc := 1210) E.1 E.2.1 dL_law_1210 rfl (lv_at hl 0 rfl) ?_
  refine lv_iload_n (pc := 1211) E.1 E.2.1 dL_law_1211 rfl (lv_at hl 3 rfl) ?_
  refine lv_iconst (v := 1) (pc := 1212) E.1 E.2.1 dL_law_1212 (by decide) ?_
  refine lv_iadd (pc := 1213) E.1 E.2.1 dL_law_1213 ?_
  obtain ⟨v2, g1, hf⟩ := x_bind hf
  refine x_sld (pc := 1214) E hX hbl hw g1 dL_law_1214 ?_
  obtain ⟨v3, g4, hf⟩ := x_bind hf
  refine x_callV (pc := 1215) (As := [.int v2]) (rest := []) (st1 := [.int v3.1]) (ws' := (cells7 G ad v3.2 ++ cells8 G ae q)) E hw hl (c_X7_worst l G ad s v2 g4) xv_L_143 xd_X7_worst rfl rfl ⟨Nat.le_of_ble_eq_true rfl, Nat.le_of_ble_eq_true rfl⟩ [0, 1, 2, 3, 4, 5, 6, 7, 8, 9, 10, 11, 12, 13, 14, 15, 16, 17, 18, 19, 20, 21, 22, 23, 24, 25, 26, 27, 28, 29, 30] [31, 32, 33, 34, 35, 36, 37, 38, 39, 40, 41, 42, 43, 44, 45, 46, 47, 48, 49, 50] (by decide) ⟨rfl, rfl, rfl, rfl, rfl, rfl, rfl, rfl, rfl, rfl, rfl, rfl, rfl, rfl, rfl, rfl, rfl, rfl, rfl, rfl, rfl, rfl, rfl, rfl, rfl, rfl, rfl, rfl, rfl, rfl, rfl, trivial⟩ (q0 := 0) rfl rfl rfl rfl (Nat.le_of_ble_eq_true rfl) (nw := 51) ⟨rfl, rfl, rfl, rfl, rfl, rfl, rfl, rfl, rfl, rfl, rfl, rfl, rfl, rfl, rfl, rfl, rfl, rfl, rfl, rfl, rfl, rfl, rfl, rfl, rfl, rfl, rfl, rfl, rfl, rfl, rfl, trivial⟩ ⟨⟨_, rfl, rfl⟩, ⟨_, rfl, rfl⟩, ⟨_, rfl, rfl⟩, ⟨_, rfl, rfl⟩, ⟨_, rfl, rfl⟩, ⟨_, rfl, rfl⟩, ⟨_, rfl, rfl⟩, ⟨_, rfl, rfl⟩, ⟨_, rfl, rfl⟩, ⟨_, rfl, rfl⟩, ⟨_, rfl, rfl⟩, ⟨_, rfl, rfl⟩, ⟨_, rfl, rfl⟩, ⟨_, rfl, rfl⟩, ⟨_, rfl, rfl⟩, ⟨_, rfl, rfl⟩, ⟨_, rfl, rfl⟩, ⟨_, rfl, rfl⟩, ⟨_, rfl, rfl⟩, ⟨_, rfl, rfl⟩, trivial⟩ rfl rfl (by decide) (by decide) rfl dL_law_1215 (fun H locs hw => ?_) (hcs := ⟨Nat.le_refl _, Nat.le_refl _⟩)
  refine lv_aload_n (pc := 1218) E.1 E.2.1 dL_law_1218 rfl (lv_at hl 2 rfl) ?_
  refine lv_aload_n (pc := 1219) E.1 E.2.1 dL_law_1219 rfl (lv_at hl 0 rfl) ?_
  refine lv_iload_n (pc := 1220) E.1 E.2.1 dL_law_1220 rfl (lv_at hl 3 rfl) ?_
  refine lv_iconst (v := 1) (pc := 1221) E.1 E.2.1 dL_law_1221 (by decide) ?_
  refine lv_iadd (pc := 1222) E.1 E.2.1 dL_law_1222 ?_
  obtain ⟨v6, g5, hf⟩ := x_bind hf
  refine x_sld (pc := 1223) E hX hbl hw g5 dL_law_1223 ?_
  obtain ⟨v7, g8, hf⟩ := x_bind hf
  refine x_callV (pc := 1224) (As := [.int v6]) (rest := [.int v3.1]) (st1 := [.int v7, .int v3.1]) (ws' := (cells7 G ad v3.2 ++ cells8 G ae q)) E hw hl (c_X8_worst l G ae q v6 g8) xv_L_146 xd_X8_worst rfl rfl ⟨Nat.le_of_ble_eq_true rfl, Nat.le_of_ble_eq_true rfl⟩ [31, 32, 33, 34, 35, 36, 37, 38, 39, 40, 41, 42, 43, 44, 45, 46, 47, 48, 49, 50] [0, 1, 2, 3, 4, 5, 6, 7, 8, 9, 10, 11, 12, 13, 14, 15, 16, 17, 18, 19, 20, 21, 22, 23, 24, 25, 26, 27, 28, 29, 30] (by decide) ⟨rfl, rfl, rfl, rfl, rfl, rfl, rfl, rfl, rfl, rfl, rfl, rfl, rfl, rfl, rfl, rfl, rfl, rfl, rfl, rfl, trivial⟩ (q0 := 31) rfl rfl rfl rfl (Nat.le_of_ble_eq_true rfl) (nw := 51) ⟨rfl, rfl, rfl, rfl, rfl, rfl, rfl, rfl, rfl, rfl, rfl, rfl, rfl, rfl, rfl, rfl, rfl, rfl, rfl, rfl, trivial⟩ ⟨⟨_, rfl, rfl⟩, ⟨_, rfl, rfl⟩, ⟨_, rfl, rfl⟩, ⟨_, rfl, rfl⟩, ⟨_, rfl, rfl⟩, ⟨_, rfl, rfl⟩, ⟨_, rfl, rfl⟩, ⟨_, rfl, rfl⟩, ⟨_, rfl, rfl⟩, ⟨_, rfl, rfl⟩, ⟨_, rfl, rfl⟩, ⟨_, rfl, rfl⟩, ⟨_, rfl, rfl⟩, ⟨_, rfl, rfl⟩, ⟨_, rfl, rfl⟩, ⟨_, rfl, rfl⟩, ⟨_, rfl, rfl⟩, ⟨_, rfl, rfl⟩, ⟨_, rfl, rfl⟩, ⟨_, rfl, rfl⟩, ⟨_, rfl, rfl⟩, ⟨_, rfl, rfl⟩, ⟨_, rfl, rfl⟩, ⟨_, rfl, rfl⟩, ⟨_, rfl, rfl⟩, ⟨_, rfl, rfl⟩, ⟨_, rfl, rfl⟩, ⟨_, rfl, rfl⟩, ⟨_, rfl, rfl⟩, ⟨_, rfl, rfl⟩, ⟨_, rfl, rfl⟩, trivial⟩ rfl rfl (by decide) (by decide) rfl dL_law_1224 (fun H locs hw => ?_) (hcs := ⟨Nat.le_refl _, Nat.le_refl _⟩)
  refine lv_icmp_eq (tgt := 1816) (pc := 1227) E.1 E.2.1 dL_law_1227 (by decide) (fun q9 => ?_) (fun q9 => ?_)
  · have hf := x_pos q9 hf
    exact w_law_p1816 E hX hbl hr hk hk18 v3.2 q x3 hw (lv_sub hl [0, 1, 2, 3] rfl) hf
  · have hf := x_neg q9 hf
    refine lv_iconst (v := 0) (pc := 1230) E.1 E.2.1 dL_law_1230 (by decide) ?_
    exact absurd (Option.some.inj hf) (by decide)
set_option maxHeartbeats 4000000 in
set_option maxRecDepth 100000 in
theorem w_law_p1176 {p : Program} {l : Launch} {e : Env} {sS : State} {m : MethodId} {below : List Frame} {meth : Method} {c : Code} {G : xG} {ad ae : Nat → Nat} {b L : Nat} {xs : Nat → Int32} {k18 : S7 → S8 → Int32 → Option Int32} (E : xE p sS m #[Value.ref b] c cL_law 4 RL G (fun q => sS.heap.size ≤ q)) (hX : va_X b L xs sS sS.heap) (hbl : b < sS.heap.size) (hr : meth.sig.returnType = ret) (hk : meth.locks = false) (hk18 : ∀ (s' : S7) (q' : S8) (x3' : Int32) {H : Heap} {locs : List Loc} {ls : Array Slot}, xW G (fun q => sS.heap.size ≤ q) sS.heap (cells7 G ad s' ++ cells8 G ae q') H locs → lv_has ls 4 [(0, .ref b), (1, .ref (ad 0)), (2, .ref (ae 0)), (3, .int x3')] → k18  s' q' x3' = some 1 → W p l e room_1 sS m #[Value.ref b] below meth c H locs 51 5492 (lw_Z below #[Value.ref b] sS) (F0 m 18 ls [])) : ∀ (s' : S7) (q' : S8) (x3' : Int32) {H : Heap} {locs : List Loc} {ls : Array Slot}, xW G (fun q => sS.heap.size ≤ q) sS.heap (cells7 G ad s' ++ cells8 G ae q') H locs → lv_has ls 4 [(0, .ref b), (1, .ref (ad 0)), (2, .ref (ae 0)), (3, .int x3')] → f_law_p1176 k18 L xs s' q' x3' = some 1 → W p l e room_1 sS m #[Value.ref b] below meth c H locs 51 5492 (lw_Z below #[Value.ref b] sS) (F0 m 1176 ls []) := by
  intro s q x3 H locs ls hw hl hf
  unfold f_law_p1176 at hf
  refine lv_aload_n (pc := 1176) E.1 E.2.1 dL_law_1176 rfl (lv_at hl 1 rfl) ?_
  refine lv_aload_n (pc := 1177) E.1 E.2.1 dL_law_1177 rfl (lv_at hl 0 rfl) ?_
  refine lv_iload_n (pc := 1178) E.1 E.2.1 dL_law_1178 rfl (lv_at hl 3 rfl) ?_
  refine lv_iconst (v := 1) (pc := 1179) E.1 E.2.1 dL_law_1179 (by decide) ?_
  refine lv_iadd (pc := 1180) E.1 E.2.1 dL_law_1180 ?_
  obtain ⟨v2, g1, hf⟩ := x_bind hf
  refine x_sld (pc := 1181) E hX hbl hw g1 dL_law_1181 ?_
  refine lv_aload_n (pc := 1182) E.1 E.2.1 dL_law_1182 rfl (lv_at hl 0 rfl) ?_
  refine lv_iload_n (pc := 1183) E.1 E.2.1 dL_law_1183 rfl (lv_at hl 3 rfl) ?_
  refine lv_iconst (v := 2) (pc := 1184) E.1 E.2.1 dL_law_1184 (by decide) ?_
  refine lv_iadd (pc := 1185) E.1 E.2.1 dL_law_1185 ?_
  obtain ⟨v4, g3, hf⟩ := x_bind hf
  refine x_sld (pc := 1186) E hX hbl hw g3 dL_law_1186 ?_
  obtain ⟨v5, g6, hf⟩ := x_bind hf
  refine x_callV (pc := 1187) (As := [.int v2, .int v4]) (rest := []) (st1 := [.int v5]) (ws' := (cells7 G ad s ++ cells8 G ae q)) E hw hl (c_X7_greatest l G ad s v2 v4 g6) xv_L_139 xd_X7_greatest rfl rfl ⟨Nat.le_of_ble_eq_true rfl, Nat.le_of_ble_eq_true rfl⟩ [0, 1, 2, 3, 4, 5, 6, 7, 8, 9, 10, 11, 12, 13, 14, 15, 16, 17, 18, 19, 20, 21, 22, 23, 24, 25, 26, 27, 28, 29, 30] [31, 32, 33, 34, 35, 36, 37, 38, 39, 40, 41, 42, 43, 44, 45, 46, 47, 48, 49, 50] (by decide) ⟨rfl, rfl, rfl, rfl, rfl, rfl, rfl, rfl, rfl, rfl, rfl, rfl, rfl, rfl, rfl, rfl, rfl, rfl, rfl, rfl, rfl, rfl, rfl, rfl, rfl, rfl, rfl, rfl, rfl, rfl, rfl, trivial⟩ (q0 := 0) rfl rfl rfl rfl (Nat.le_of_ble_eq_true rfl) (nw := 51) ⟨rfl, rfl, rfl, rfl, rfl, rfl, rfl, rfl, rfl, rfl, rfl, rfl, rfl, rfl, rfl, rfl, rfl, rfl, rfl, rfl, rfl, rfl, rfl, rfl, rfl, rfl, rfl, rfl, rfl, rfl, rfl, trivial⟩ ⟨⟨_, rfl, rfl⟩, ⟨_, rfl, rfl⟩, ⟨_, rfl, rfl⟩, ⟨_, rfl, rfl⟩, ⟨_, rfl, rfl⟩, ⟨_, rfl, rfl⟩, ⟨_, rfl, rfl⟩, ⟨_, rfl, rfl⟩, ⟨_, rfl, rfl⟩, ⟨_, rfl, rfl⟩, ⟨_, rfl, rfl⟩, ⟨_, rfl, rfl⟩, ⟨_, rfl, rfl⟩, ⟨_, rfl, rfl⟩, ⟨_, rfl, rfl⟩, ⟨_, rfl, rfl⟩, ⟨_, rfl, rfl⟩, ⟨_, rfl, rfl⟩, ⟨_, rfl, rfl⟩, ⟨_, rfl, rfl⟩, trivial⟩ rfl rfl (by decide) (by decide) rfl dL_law_1187 (fun H locs hw => ?_) (hcs := ⟨Nat.le_refl _, Nat.le_refl _⟩)
  refine lv_aload_n (pc := 1190) E.1 E.2.1 dL_law_1190 rfl (lv_at hl 2 rfl) ?_
  refine lv_aload_n (pc := 1191) E.1 E.2.1 dL_law_1191 rfl (lv_at hl 0 rfl) ?_
  refine lv_iload_n (pc := 1192) E.1 E.2.1 dL_law_1192 rfl (lv_at hl 3 rfl) ?_
  refine lv_iconst (v := 1) (pc := 1193) E.1 E.2.1 dL_law_1193 (by decide) ?_
  refine lv_iadd (pc := 1194) E.1 E.2.1 dL_law_1194 ?_
  obtain ⟨v8, g7, hf⟩ := x_bind hf
  refine x_sld (pc := 1195) E hX hbl hw g7 dL_law_1195 ?_
  refine lv_aload_n (pc := 1196) E.1 E.2.1 dL_law_1196 rfl (lv_at hl 0 rfl) ?_
  refine lv_iload_n (pc := 1197) E.1 E.2.1 dL_law_1197 rfl (lv_at hl 3 rfl) ?_
  refine lv_iconst (v := 2) (pc := 1198) E.1 E.2.1 dL_law_1198 (by decide) ?_
  refine lv_iadd (pc := 1199) E.1 E.2.1 dL_law_1199 ?_
  obtain ⟨v10, g9, hf⟩ := x_bind hf
  refine x_sld (pc := 1200) E hX hbl hw g9 dL_law_1200 ?_
  obtain ⟨v11, g12, hf⟩ := x_bind hf
  refine x_callV (pc := 1201) (As := [.int v8, .int v10]) (rest := [.int v5]) (st1 := [.int v11, .int v5]) (ws' := (cells7 G ad s ++ cells8 G ae q)) E hw hl (c_X8_greatest l G ae q v8 v10 g12) xv_L_142 xd_X8_greatest rfl rfl ⟨Nat.le_of_ble_eq_true rfl, Nat.le_of_ble_eq_true rfl⟩ [31, 32, 33, 34, 35, 36, 37, 38, 39, 40, 41, 42, 43, 44, 45, 46, 47, 48, 49, 50] [0, 1, 2, 3, 4, 5, 6, 7, 8, 9, 10, 11, 12, 13, 14, 15, 16, 17, 18, 19, 20, 21, 22, 23, 24, 25, 26, 27, 28, 29, 30] (by decide) ⟨rfl, rfl, rfl, rfl, rfl, rfl, rfl, rfl, rfl, rfl, rfl, rfl, rfl, rfl, rfl, rfl, rfl, rfl, rfl, rfl, trivial⟩ (q0 := 31) rfl rfl rfl rfl (Nat.le_of_ble_eq_true rfl) (nw := 51) ⟨rfl, rfl, rfl, rfl, rfl, rfl, rfl, rfl, rfl, rfl, rfl, rfl, rfl, rfl, rfl, rfl, rfl, rfl, rfl, rfl, trivial⟩ ⟨⟨_, rfl, rfl⟩, ⟨_, rfl, rfl⟩, ⟨_, rfl, rfl⟩, ⟨_, rfl, rfl⟩, ⟨_, rfl, rfl⟩, ⟨_, rfl, rfl⟩, ⟨_, rfl, rfl⟩, ⟨_, rfl, rfl⟩, ⟨_, rfl, rfl⟩, ⟨_, rfl, rfl⟩, ⟨_, rfl, rfl⟩, ⟨_, rfl, rfl⟩, ⟨_, rfl, rfl⟩, ⟨_, rfl, rfl⟩, ⟨_, rfl, rfl⟩, ⟨_, rfl, rfl⟩, ⟨_, rfl, rfl⟩, ⟨_, rfl, rfl⟩, ⟨_, rfl, rfl⟩, ⟨_, rfl, rfl⟩, ⟨_, rfl, rfl⟩, ⟨_, rfl, rfl⟩, ⟨_, rfl, rfl⟩, ⟨_, rfl, rfl⟩, ⟨_, rfl, rfl⟩, ⟨_, rfl, rfl⟩, ⟨_, rfl, rfl⟩, ⟨_, rfl, rfl⟩, ⟨_, rfl, rfl⟩, ⟨_, rfl, rfl⟩, ⟨_, rfl, rfl⟩, trivial⟩ rfl rfl (by decide) (by decide) rfl dL_law_1201 (fun H locs hw => ?_) (hcs := ⟨Nat.le_refl _, Nat.le_refl _⟩)
  refine lv_icmp_eq (tgt := 1816) (pc := 1204) E.1 E.2.1 dL_law_1204 (by decide) (fun q13 => ?_) (fun q13 => ?_)
  · have hf := x_pos q13 hf
    exact w_law_p1816 E hX hbl hr hk hk18 s q x3 hw (lv_sub hl [0, 1, 2, 3] rfl) hf
  · have hf := x_neg q13 hf
    refine lv_iconst (v := 0) (pc := 1207) E.1 E.2.1 dL_law_1207 (by decide) ?_
    exact absurd (Option.some.inj hf) (by decide)
set_option maxHeartbeats 4000000 in
set_option maxRecDepth 100000 in
theorem w_law_p1153 {p : Program} {l : Launch} {e : Env} {sS : State} {m : MethodId} {below : List Frame} {meth : Method} {c : Code} {G : xG} {ad ae : Nat → Nat} {b L : Nat} {xs : Nat → Int32} {k18 : S7 → S8 → Int32 → Option Int32} (E : xE p sS m #[Value.ref b] c cL_law 4 RL G (fun q => sS.heap.size ≤ q)) (hX : va_X b L xs sS sS.heap) (hbl : b < sS.heap.size) (hr : meth.sig.returnType = ret) (hk : meth.locks = false) (hk18 : ∀ (s' : S7) (q' : S8) (x3' : Int32) {H : Heap} {locs : List Loc} {ls : Array Slot}, xW G (fun q => sS.heap.size ≤ q) sS.heap (cells7 G ad s' ++ cells8 G ae q') H locs → lv_has ls 4 [(0, .ref b), (1, .ref (ad 0)), (2, .ref (ae 0)), (3, .int x3')] → k18  s' q' x3' = some 1 → W p l e room_1 sS m #[Value.ref b] below meth c H locs 51 5492 (lw_Z below #[Value.ref b] sS) (F0 m 18 ls [])) : ∀ (s' : S7) (q' : S8) (x3' : Int32) {H : Heap} {locs : List Loc} {ls : Array Slot}, xW G (fun q => sS.heap.size ≤ q) sS.heap (cells7 G ad s' ++ cells8 G ae q') H locs → lv_has ls 4 [(0, .ref b), (1, .ref (ad 0)), (2, .ref (ae 0)), (3, .int x3')] → f_law_p1153 k18 L xs s' q' x3' = some 1 → W p l e room_1 sS m #[Value.ref b] below meth c H locs 51 5492 (lw_Z below #[Value.ref b] sS) (F0 m 1153 ls []) := by
  intro s q x3 H locs ls hw hl hf
  unfold f_law_p1153 at hf
  refine lv_aload_n (pc := 1153) E.1 E.2.1 dL_law_1153 rfl (lv_at hl 1 rfl) ?_
  refine lv_aload_n (pc := 1154) E.1 E.2.1 dL_law_1154 rfl (lv_at hl 0 rfl) ?_
  refine lv_iload_n (pc := 1155) E.1 E.2.1 dL_law_1155 rfl (lv_at hl 3 rfl) ?_
  refine lv_iconst (v := 1) (pc := 1156) E.1 E.2.1 dL_law_1156 (by decide) ?_
  refine lv_iadd (pc := 1157) E.1 E.2.1 dL_law_1157 ?_
  obtain ⟨v2, g1, hf⟩ := x_bind hf
  refine x_sld (pc := 1158) E hX hbl hw g1 dL_law_1158 ?_
  obtain ⟨v3, g4, hf⟩ := x_bind hf
  refine x_callV (pc := 1159) (As := [.int v2]) (rest := []) (st1 := [.int v3.1]) (ws' := (cells7 G ad v3.2 ++ cells8 G ae q)) E hw hl (c_X7_ranked l G ad s v2 g4) xv_L_135 xd_X7_ranked rfl rfl ⟨Nat.le_of_ble_eq_true rfl, Nat.le_of_ble_eq_true rfl⟩ [0, 1, 2, 3, 4, 5, 6, 7, 8, 9, 10, 11, 12, 13, 14, 15, 16, 17, 18, 19, 20, 21, 22, 23, 24, 25, 26, 27, 28, 29, 30] [31, 32, 33, 34, 35, 36, 37, 38, 39, 40, 41, 42, 43, 44, 45, 46, 47, 48, 49, 50] (by decide) ⟨rfl, rfl, rfl, rfl, rfl, rfl, rfl, rfl, rfl, rfl, rfl, rfl, rfl, rfl, rfl, rfl, rfl, rfl, rfl, rfl, rfl, rfl, rfl, rfl, rfl, rfl, rfl, rfl, rfl, rfl, rfl, trivial⟩ (q0 := 0) rfl rfl rfl rfl (Nat.le_of_ble_eq_true rfl) (nw := 51) ⟨rfl, rfl, rfl, rfl, rfl, rfl, rfl, rfl, rfl, rfl, rfl, rfl, rfl, rfl, rfl, rfl, rfl, rfl, rfl, rfl, rfl, rfl, rfl, rfl, rfl, rfl, rfl, rfl, rfl, rfl, rfl, trivial⟩ ⟨⟨_, rfl, rfl⟩, ⟨_, rfl, rfl⟩, ⟨_, rfl, rfl⟩, ⟨_, rfl, rfl⟩, ⟨_, rfl, rfl⟩, ⟨_, rfl, rfl⟩, ⟨_, rfl, rfl⟩, ⟨_, rfl, rfl⟩, ⟨_, rfl, rfl⟩, ⟨_, rfl, rfl⟩, ⟨_, rfl, rfl⟩, ⟨_, rfl, rfl⟩, ⟨_, rfl, rfl⟩, ⟨_, rfl, rfl⟩, ⟨_, rfl, rfl⟩, ⟨_, rfl, rfl⟩, ⟨_, rfl, rfl⟩, ⟨_, rfl, rfl⟩, ⟨_, rfl, rfl⟩, ⟨_, rfl, rfl⟩, trivial⟩ rfl rfl (by decide) (by decide) rfl dL_law_1159 (fun H locs hw => ?_) (hcs := ⟨Nat.le_refl _, Nat.le_refl _⟩)
  refine lv_aload_n (pc := 1162) E.1 E.2.1 dL_law_1162 rfl (lv_at hl 2 rfl) ?_
  refine lv_aload_n (pc := 1163) E.1 E.2.1 dL_law_1163 rfl (lv_at hl 0 rfl) ?_
  refine lv_iload_n (pc := 1164) E.1 E.2.1 dL_law_1164 rfl (lv_at hl 3 rfl) ?_
  refine lv_iconst (v := 1) (pc := 1165) E.1 E.2.1 dL_law_1165 (by decide) ?_
  refine lv_iadd (pc := 1166) E.1 E.2.1 dL_law_1166 ?_
  obtain ⟨v6, g5, hf⟩ := x_bind hf
  refine x_sld (pc := 1167) E hX hbl hw g5 dL_law_1167 ?_
  obtain ⟨v7, g8, hf⟩ := x_bind hf
  refine x_callV (pc := 1168) (As := [.int v6]) (rest := [.int v3.1]) (st1 := [.int v7.1, .int v3.1]) (ws' := (cells7 G ad v3.2 ++ cells8 G ae v7.2)) E hw hl (c_X8_ranked l G ae q v6 g8) xv_L_138 xd_X8_ranked rfl rfl ⟨Nat.le_of_ble_eq_true rfl, Nat.le_of_ble_eq_true rfl⟩ [31, 32, 33, 34, 35, 36, 37, 38, 39, 40, 41, 42, 43, 44, 45, 46, 47, 48, 49, 50] [0, 1, 2, 3, 4, 5, 6, 7, 8, 9, 10, 11, 12, 13, 14, 15, 16, 17, 18, 19, 20, 21, 22, 23, 24, 25, 26, 27, 28, 29, 30] (by decide) ⟨rfl, rfl, rfl, rfl, rfl, rfl, rfl, rfl, rfl, rfl, rfl, rfl, rfl, rfl, rfl, rfl, rfl, rfl, rfl, rfl, trivial⟩ (q0 := 31) rfl rfl rfl rfl (Nat.le_of_ble_eq_true rfl) (nw := 51) ⟨rfl, rfl, rfl, rfl, rfl, rfl, rfl, rfl, rfl, rfl, rfl, rfl, rfl, rfl, rfl, rfl, rfl, rfl, rfl, rfl, trivial⟩ ⟨⟨_, rfl, rfl⟩, ⟨_, rfl, rfl⟩, ⟨_, rfl, rfl⟩, ⟨_, rfl, rfl⟩, ⟨_, rfl, rfl⟩, ⟨_, rfl, rfl⟩, ⟨_, rfl, rfl⟩, ⟨_, rfl, rfl⟩, ⟨_, rfl, rfl⟩, ⟨_, rfl, rfl⟩, ⟨_, rfl, rfl⟩, ⟨_, rfl, rfl⟩, ⟨_, rfl, rfl⟩, ⟨_, rfl, rfl⟩, ⟨_, rfl, rfl⟩, ⟨_, rfl, rfl⟩, ⟨_, rfl, rfl⟩, ⟨_, rfl, rfl⟩, ⟨_, rfl, rfl⟩, ⟨_, rfl, rfl⟩, ⟨_, rfl, rfl⟩, ⟨_, rfl, rfl⟩, ⟨_, rfl, rfl⟩, ⟨_, rfl, rfl⟩, ⟨_, rfl, rfl⟩, ⟨_, rfl, rfl⟩, ⟨_, rfl, rfl⟩, ⟨_, rfl, rfl⟩, ⟨_, rfl, rfl⟩, ⟨_, rfl, rfl⟩, ⟨_, rfl, rfl⟩, trivial⟩ rfl rfl (by decide) (by decide) rfl dL_law_1168 (fun H locs hw => ?_) (hcs := ⟨Nat.le_refl _, Nat.le_refl _⟩)
  refine lv_icmp_eq (tgt := 1816) (pc := 1171) E.1 E.2.1 dL_law_1171 (by decide) (fun q9 => ?_) (fun q9 => ?_)
  · have hf := x_pos q9 hf
    exact w_law_p1816 E hX hbl hr hk hk18 v3.2 v7.2 x3 hw (lv_sub hl [0, 1, 2, 3] rfl) hf
  · have hf := x_neg q9 hf
    refine lv_iconst (v := 0) (pc := 1174) E.1 E.2.1 dL_law_1174 (by decide) ?_
    exact absurd (Option.some.inj hf) (by decide)
set_option maxHeartbeats 4000000 in
set_option maxRecDepth 100000 in
theorem w_law_p1130 {p : Program} {l : Launch} {e : Env} {sS : State} {m : MethodId} {below : List Frame} {meth : Method} {c : Code} {G : xG} {ad ae : Nat → Nat} {b L : Nat} {xs : Nat → Int32} {k18 : S7 → S8 → Int32 → Option Int32} (E : xE p sS m #[Value.ref b] c cL_law 4 RL G (fun q => sS.heap.size ≤ q)) (hX : va_X b L xs sS sS.heap) (hbl : b < sS.heap.size) (hr : meth.sig.returnType = ret) (hk : meth.locks = false) (hk18 : ∀ (s' : S7) (q' : S8) (x3' : Int32) {H : Heap} {locs : List Loc} {ls : Array Slot}, xW G (fun q => sS.heap.size ≤ q) sS.heap (cells7 G ad s' ++ cells8 G ae q') H locs → lv_has ls 4 [(0, .ref b), (1, .ref (ad 0)), (2, .ref (ae 0)), (3, .int x3')] → k18  s' q' x3' = some 1 → W p l e room_1 sS m #[Value.ref b] below meth c H locs 51 5492 (lw_Z below #[Value.ref b] sS) (F0 m 18 ls [])) : ∀ (s' : S7) (q' : S8) (x3' : Int32) {H : Heap} {locs : List Loc} {ls : Array Slot}, xW G (fun q => sS.heap.size ≤ q) sS.heap (cells7 G ad s' ++ cells8 G ae q') H locs → lv_has ls 4 [(0, .ref b), (1, .ref (ad 0)), (2, .ref (ae 0)), (3, .int x3')] → f_law_p1130 k18 L xs s' q' x3' = some 1 → W p l e room_1 sS m #[Value.ref b] below meth c H locs 51 5492 (lw_Z below #[Value.ref b] sS) (F0 m 1130 ls []) := by
  intro s q x3 H locs ls hw hl hf
  unfold f_law_p1130 at hf
  refine lv_aload_n (pc := 1130) E.1 E.2.1 dL_law_1130 rfl (lv_at hl 1 rfl) ?_
  refine lv_aload_n (pc := 1131) E.1 E.2.1 dL_law_1131 rfl (lv_at hl 0 rfl) ?_
  refine lv_iload_n (pc := 1132) E.1 E.2.1 dL_law_1132 rfl (lv_at hl 3 rfl) ?_
  refine lv_iconst (v := 1) (pc := 1133) E.1 E.2.1 dL_law_1133 (by decide) ?_
  refine lv_iadd (pc := 1134) E.1 E.2.1 dL_law_1134 ?_
  obtain ⟨v2, g1, hf⟩ := x_bind hf
  refine x_sld (pc := 1135) E hX hbl hw g1 dL_law_1135 ?_
  obtain ⟨v3, g4, hf⟩ := x_bind hf
  refine x_callV (pc := 1136) (As := [.int v2]) (rest := []) (st1 := [.int v3.1]) (ws' := (cells7 G ad v3.2 ++ cells8 G ae q)) E hw hl (c_X7_thousandths l G ad s v2 g4) xv_L_131 xd_X7_thousandths rfl rfl ⟨Nat.le_of_ble_eq_true rfl, Nat.le_of_ble_eq_true rfl⟩ [0, 1, 2, 3, 4, 5, 6, 7, 8, 9, 10, 11, 12, 13, 14, 15, 16, 17, 18, 19, 20, 21, 22, 23, 24, 25, 26, 27, 28, 29, 30] [31, 32, 33, 34, 35, 36, 37, 38, 39, 40, 41, 42, 43, 44, 45, 46, 47, 48, 49, 50] (by decide) ⟨rfl, rfl, rfl, rfl, rfl, rfl, rfl, rfl, rfl, rfl, rfl, rfl, rfl, rfl, rfl, rfl, rfl, rfl, rfl, rfl, rfl, rfl, rfl, rfl, rfl, rfl, rfl, rfl, rfl, rfl, rfl, trivial⟩ (q0 := 0) rfl rfl rfl rfl (Nat.le_of_ble_eq_true rfl) (nw := 51) ⟨rfl, rfl, rfl, rfl, rfl, rfl, rfl, rfl, rfl, rfl, rfl, rfl, rfl, rfl, rfl, rfl, rfl, rfl, rfl, rfl, rfl, rfl, rfl, rfl, rfl, rfl, rfl, rfl, rfl, rfl, rfl, trivial⟩ ⟨⟨_, rfl, rfl⟩, ⟨_, rfl, rfl⟩, ⟨_, rfl, rfl⟩, ⟨_, rfl, rfl⟩, ⟨_, rfl, rfl⟩, ⟨_, rfl, rfl⟩, ⟨_, rfl, rfl⟩, ⟨_, rfl, rfl⟩, ⟨_, rfl, rfl⟩, ⟨_, rfl, rfl⟩, ⟨_, rfl, rfl⟩, ⟨_, rfl, rfl⟩, ⟨_, rfl, rfl⟩, ⟨_, rfl, rfl⟩, ⟨_, rfl, rfl⟩, ⟨_, rfl, rfl⟩, ⟨_, rfl, rfl⟩, ⟨_, rfl, rfl⟩, ⟨_, rfl, rfl⟩, ⟨_, rfl, rfl⟩, trivial⟩ rfl rfl (by decide) (by decide) rfl dL_law_1136 (fun H locs hw => ?_) (hcs := ⟨Nat.le_refl _, Nat.le_refl _⟩)
  refine lv_aload_n (pc := 1139) E.1 E.2.1 dL_law_1139 rfl (lv_at hl 2 rfl) ?_
  refine lv_aload_n (pc := 1140) E.1 E.2.1 dL_law_1140 rfl (lv_at hl 0 rfl) ?_
  refine lv_iload_n (pc := 1141) E.1 E.2.1 dL_law_1141 rfl (lv_at hl 3 rfl) ?_
  refine lv_iconst (v := 1) (pc := 1142) E.1 E.2.1 dL_law_1142 (by decide) ?_
  refine lv_iadd (pc := 1143) E.1 E.2.1 dL_law_1143 ?_
  obtain ⟨v6, g5, hf⟩ := x_bind hf
  refine x_sld (pc := 1144) E hX hbl hw g5 dL_law_1144 ?_
  obtain ⟨v7, g8, hf⟩ := x_bind hf
  refine x_callV (pc := 1145) (As := [.int v6]) (rest := [.int v3.1]) (st1 := [.int v7.1, .int v3.1]) (ws' := (cells7 G ad v3.2 ++ cells8 G ae v7.2)) E hw hl (c_X8_thousandths l G ae q v6 g8) xv_L_134 xd_X8_thousandths rfl rfl ⟨Nat.le_of_ble_eq_true rfl, Nat.le_of_ble_eq_true rfl⟩ [31, 32, 33, 34, 35, 36, 37, 38, 39, 40, 41, 42, 43, 44, 45, 46, 47, 48, 49, 50] [0, 1, 2, 3, 4, 5, 6, 7, 8, 9, 10, 11, 12, 13, 14, 15, 16, 17, 18, 19, 20, 21, 22, 23, 24, 25, 26, 27, 28, 29, 30] (by decide) ⟨rfl, rfl, rfl, rfl, rfl, rfl, rfl, rfl, rfl, rfl, rfl, rfl, rfl, rfl, rfl, rfl, rfl, rfl, rfl, rfl, trivial⟩ (q0 := 31) rfl rfl rfl rfl (Nat.le_of_ble_eq_true rfl) (nw := 51) ⟨rfl, rfl, rfl, rfl, rfl, rfl, rfl, rfl, rfl, rfl, rfl, rfl, rfl, rfl, rfl, rfl, rfl, rfl, rfl, rfl, trivial⟩ ⟨⟨_, rfl, rfl⟩, ⟨_, rfl, rfl⟩, ⟨_, rfl, rfl⟩, ⟨_, rfl, rfl⟩, ⟨_, rfl, rfl⟩, ⟨_, rfl, rfl⟩, ⟨_, rfl, rfl⟩, ⟨_, rfl, rfl⟩, ⟨_, rfl, rfl⟩, ⟨_, rfl, rfl⟩, ⟨_, rfl, rfl⟩, ⟨_, rfl, rfl⟩, ⟨_, rfl, rfl⟩, ⟨_, rfl, rfl⟩, ⟨_, rfl, rfl⟩, ⟨_, rfl, rfl⟩, ⟨_, rfl, rfl⟩, ⟨_, rfl, rfl⟩, ⟨_, rfl, rfl⟩, ⟨_, rfl, rfl⟩, ⟨_, rfl, rfl⟩, ⟨_, rfl, rfl⟩, ⟨_, rfl, rfl⟩, ⟨_, rfl, rfl⟩, ⟨_, rfl, rfl⟩, ⟨_, rfl, rfl⟩, ⟨_, rfl, rfl⟩, ⟨_, rfl, rfl⟩, ⟨_, rfl, rfl⟩, ⟨_, rfl, rfl⟩, ⟨_, rfl, rfl⟩, trivial⟩ rfl rfl (by decide) (by decide) rfl dL_law_1145 (fun H locs hw => ?_) (hcs := ⟨Nat.le_refl _, Nat.le_refl _⟩)
  refine lv_icmp_eq (tgt := 1816) (pc := 1148) E.1 E.2.1 dL_law_1148 (by decide) (fun q9 => ?_) (fun q9 => ?_)
  · have hf := x_pos q9 hf
    exact w_law_p1816 E hX hbl hr hk hk18 v3.2 v7.2 x3 hw (lv_sub hl [0, 1, 2, 3] rfl) hf
  · have hf := x_neg q9 hf
    refine lv_iconst (v := 0) (pc := 1151) E.1 E.2.1 dL_law_1151 (by decide) ?_
    exact absurd (Option.some.inj hf) (by decide)
set_option maxHeartbeats 4000000 in
set_option maxRecDepth 100000 in
theorem w_law_p1121 {p : Program} {l : Launch} {e : Env} {sS : State} {m : MethodId} {below : List Frame} {meth : Method} {c : Code} {G : xG} {ad ae : Nat → Nat} {b L : Nat} {xs : Nat → Int32} {k18 : S7 → S8 → Int32 → Option Int32} (E : xE p sS m #[Value.ref b] c cL_law 4 RL G (fun q => sS.heap.size ≤ q)) (hX : va_X b L xs sS sS.heap) (hbl : b < sS.heap.size) (hr : meth.sig.returnType = ret) (hk : meth.locks = false) (hk18 : ∀ (s' : S7) (q' : S8) (x3' : Int32) {H : Heap} {locs : List Loc} {ls : Array Slot}, xW G (fun q => sS.heap.size ≤ q) sS.heap (cells7 G ad s' ++ cells8 G ae q') H locs → lv_has ls 4 [(0, .ref b), (1, .ref (ad 0)), (2, .ref (ae 0)), (3, .int x3')] → k18  s' q' x3' = some 1 → W p l e room_1 sS m #[Value.ref b] below meth c H locs 51 5492 (lw_Z below #[Value.ref b] sS) (F0 m 18 ls [])) : ∀ (s' : S7) (q' : S8) (x3' : Int32) (y0' : Int64) (y2' : Int32) (y3' : Int32) {H : Heap} {locs : List Loc} {ls : Array Slot}, xW G (fun q => sS.heap.size ≤ q) sS.heap (cells7 G ad s' ++ cells8 G ae q') H locs → lv_has ls 4 [(0, .ref b), (1, .ref (ad 0)), (2, .ref (ae 0)), (3, .int x3')] → f_law_p1121 k18 L xs s' q' x3' y0' y2' y3' = some 1 → W p l e room_1 sS m #[Value.ref b] below meth c H locs 51 5492 (lw_Z below #[Value.ref b] sS) (F0 m 1121 ls [.int y3', .int y2', .ref (ae 0), .long y0']) := by
  intro s q x3 y0 y2 y3 H locs ls hw hl hf
  unfold f_law_p1121 at hf
  obtain ⟨v1, g2, hf⟩ := x_bind hf
  refine x_callV (pc := 1121) (As := [.int y2, .int y3]) (rest := [.long y0]) (st1 := [.long v1.1, .long y0]) (ws' := (cells7 G ad s ++ cells8 G ae v1.2)) E hw hl (c_X8_rate l G ae q y2 y3 g2) xv_L_130 xd_X8_rate rfl rfl ⟨Nat.le_of_ble_eq_true rfl, Nat.le_of_ble_eq_true rfl⟩ [31, 32, 33, 34, 35, 36, 37, 38, 39, 40, 41, 42, 43, 44, 45, 46, 47, 48, 49, 50] [0, 1, 2, 3, 4, 5, 6, 7, 8, 9, 10, 11, 12, 13, 14, 15, 16, 17, 18, 19, 20, 21, 22, 23, 24, 25, 26, 27, 28, 29, 30] (by decide) ⟨rfl, rfl, rfl, rfl, rfl, rfl, rfl, rfl, rfl, rfl, rfl, rfl, rfl, rfl, rfl, rfl, rfl, rfl, rfl, rfl, trivial⟩ (q0 := 31) rfl rfl rfl rfl (Nat.le_of_ble_eq_true rfl) (nw := 51) ⟨rfl, rfl, rfl, rfl, rfl, rfl, rfl, rfl, rfl, rfl, rfl, rfl, rfl, rfl, rfl, rfl, rfl, rfl, rfl, rfl, trivial⟩ ⟨⟨_, rfl, rfl⟩, ⟨_, rfl, rfl⟩, ⟨_, rfl, rfl⟩, ⟨_, rfl, rfl⟩, ⟨_, rfl, rfl⟩, ⟨_, rfl, rfl⟩, ⟨_, rfl, rfl⟩, ⟨_, rfl, rfl⟩, ⟨_, rfl, rfl⟩, ⟨_, rfl, rfl⟩, ⟨_, rfl, rfl⟩, ⟨_, rfl, rfl⟩, ⟨_, rfl, rfl⟩, ⟨_, rfl, rfl⟩, ⟨_, rfl, rfl⟩, ⟨_, rfl, rfl⟩, ⟨_, rfl, rfl⟩, ⟨_, rfl, rfl⟩, ⟨_, rfl, rfl⟩, ⟨_, rfl, rfl⟩, ⟨_, rfl, rfl⟩, ⟨_, rfl, rfl⟩, ⟨_, rfl, rfl⟩, ⟨_, rfl, rfl⟩, ⟨_, rfl, rfl⟩, ⟨_, rfl, rfl⟩, ⟨_, rfl, rfl⟩, ⟨_, rfl, rfl⟩, ⟨_, rfl, rfl⟩, ⟨_, rfl, rfl⟩, ⟨_, rfl, rfl⟩, trivial⟩ rfl rfl (by decide) (by decide) rfl dL_law_1121 (fun H locs hw => ?_) (hcs := ⟨Nat.le_refl _, Nat.le_refl _⟩)
  refine W.lcmp (pc := 1124) E.1 E.2.1 dL_law_1124 ?_
  refine lv_if_eq (tgt := 1816) (pc := 1125) E.1 E.2.1 dL_law_1125 (by decide) (fun q3 => ?_) (fun q3 => ?_)
  · have hf := x_pos q3 hf
    exact w_law_p1816 E hX hbl hr hk hk18 s v1.2 x3 hw (lv_sub hl [0, 1, 2, 3] rfl) hf
  · have hf := x_neg q3 hf
    refine lv_iconst (v := 0) (pc := 1128) E.1 E.2.1 dL_law_1128 (by decide) ?_
    exact absurd (Option.some.inj hf) (by decide)
set_option maxHeartbeats 4000000 in
set_option maxRecDepth 100000 in
theorem w_law_p1099 {p : Program} {l : Launch} {e : Env} {sS : State} {m : MethodId} {below : List Frame} {meth : Method} {c : Code} {G : xG} {ad ae : Nat → Nat} {b L : Nat} {xs : Nat → Int32} {k18 : S7 → S8 → Int32 → Option Int32} (E : xE p sS m #[Value.ref b] c cL_law 4 RL G (fun q => sS.heap.size ≤ q)) (hX : va_X b L xs sS sS.heap) (hbl : b < sS.heap.size) (hr : meth.sig.returnType = ret) (hk : meth.locks = false) (hk18 : ∀ (s' : S7) (q' : S8) (x3' : Int32) {H : Heap} {locs : List Loc} {ls : Array Slot}, xW G (fun q => sS.heap.size ≤ q) sS.heap (cells7 G ad s' ++ cells8 G ae q') H locs → lv_has ls 4 [(0, .ref b), (1, .ref (ad 0)), (2, .ref (ae 0)), (3, .int x3')] → k18  s' q' x3' = some 1 → W p l e room_1 sS m #[Value.ref b] below meth c H locs 51 5492 (lw_Z below #[Value.ref b] sS) (F0 m 18 ls [])) : ∀ (s' : S7) (q' : S8) (x3' : Int32) (y1' : Int32) (y2' : Int32) {H : Heap} {locs : List Loc} {ls : Array Slot}, xW G (fun q => sS.heap.size ≤ q) sS.heap (cells7 G ad s' ++ cells8 G ae q') H locs → lv_has ls 4 [(0, .ref b), (1, .ref (ad 0)), (2, .ref (ae 0)), (3, .int x3')] → f_law_p1099 k18 L xs s' q' x3' y1' y2' = some 1 → W p l e room_1 sS m #[Value.ref b] below meth c H locs 51 5492 (lw_Z below #[Value.ref b] sS) (F0 m 1099 ls [.int y2', .int y1', .ref (ad 0)]) := by
  intro s q x3 y1 y2 H locs ls hw hl hf
  unfold f_law_p1099 at hf
  obtain ⟨v1, g2, hf⟩ := x_bind hf
  refine x_callV (pc := 1099) (As := [.int y1, .int y2]) (rest := []) (st1 := [.long v1.1]) (ws' := (cells7 G ad v1.2 ++ cells8 G ae q)) E hw hl (c_X7_rate l G ad s y1 y2 g2) xv_L_126 xd_X7_rate rfl rfl ⟨Nat.le_of_ble_eq_true rfl, Nat.le_of_ble_eq_true rfl⟩ [0, 1, 2, 3, 4, 5, 6, 7, 8, 9, 10, 11, 12, 13, 14, 15, 16, 17, 18, 19, 20, 21, 22, 23, 24, 25, 26, 27, 28, 29, 30] [31, 32, 33, 34, 35, 36, 37, 38, 39, 40, 41, 42, 43, 44, 45, 46, 47, 48, 49, 50] (by decide) ⟨rfl, rfl, rfl, rfl, rfl, rfl, rfl, rfl, rfl, rfl, rfl, rfl, rfl, rfl, rfl, rfl, rfl, rfl, rfl, rfl, rfl, rfl, rfl, rfl, rfl, rfl, rfl, rfl, rfl, rfl, rfl, trivial⟩ (q0 := 0) rfl rfl rfl rfl (Nat.le_of_ble_eq_true rfl) (nw := 51) ⟨rfl, rfl, rfl, rfl, rfl, rfl, rfl, rfl, rfl, rfl, rfl, rfl, rfl, rfl, rfl, rfl, rfl, rfl, rfl, rfl, rfl, rfl, rfl, rfl, rfl, rfl, rfl, rfl, rfl, rfl, rfl, trivial⟩ ⟨⟨_, rfl, rfl⟩, ⟨_, rfl, rfl⟩, ⟨_, rfl, rfl⟩, ⟨_, rfl, rfl⟩, ⟨_, rfl, rfl⟩, ⟨_, rfl, rfl⟩, ⟨_, rfl, rfl⟩, ⟨_, rfl, rfl⟩, ⟨_, rfl, rfl⟩, ⟨_, rfl, rfl⟩, ⟨_, rfl, rfl⟩, ⟨_, rfl, rfl⟩, ⟨_, rfl, rfl⟩, ⟨_, rfl, rfl⟩, ⟨_, rfl, rfl⟩, ⟨_, rfl, rfl⟩, ⟨_, rfl, rfl⟩, ⟨_, rfl, rfl⟩, ⟨_, rfl, rfl⟩, ⟨_, rfl, rfl⟩, trivial⟩ rfl rfl (by decide) (by decide) rfl dL_law_1099 (fun H locs hw => ?_) (hcs := ⟨Nat.le_refl _, Nat.le_refl _⟩)
  refine lv_aload_n (pc := 1102) E.1 E.2.1 dL_law_1102 rfl (lv_at hl 2 rfl) ?_
  refine lv_aload_n (pc := 1103) E.1 E.2.1 dL_law_1103 rfl (lv_at hl 0 rfl) ?_
  refine lv_iload_n (pc := 1104) E.1 E.2.1 dL_law_1104 rfl (lv_at hl 3 rfl) ?_
  refine lv_iconst (v := 1) (pc := 1105) E.1 E.2.1 dL_law_1105 (by decide) ?_
  refine lv_iadd (pc := 1106) E.1 E.2.1 dL_law_1106 ?_
  obtain ⟨v4, g3, hf⟩ := x_bind hf
  refine x_sld (pc := 1107) E hX hbl hw g3 dL_law_1107 ?_
  refine lv_aload_n (pc := 1108) E.1 E.2.1 dL_law_1108 rfl (lv_at hl 0 rfl) ?_
  refine lv_iload_n (pc := 1109) E.1 E.2.1 dL_law_1109 rfl (lv_at hl 3 rfl) ?_
  refine lv_iconst (v := 2) (pc := 1110) E.1 E.2.1 dL_law_1110 (by decide) ?_
  refine lv_iadd (pc := 1111) E.1 E.2.1 dL_law_1111 ?_
  obtain ⟨v6, g5, hf⟩ := x_bind hf
  refine x_sld (pc := 1112) E hX hbl hw g5 dL_law_1112 ?_
  refine lv_if_eq (tgt := 1120) (pc := 1113) E.1 E.2.1 dL_law_1113 (by decide) (fun q7 => ?_) (fun q7 => ?_)
  · have hf := x_pos q7 hf
    refine lv_iconst (v := 0) (pc := 1120) E.1 E.2.1 dL_law_1120 (by decide) ?_
    exact w_law_p1121 E hX hbl hr hk hk18 v1.2 q x3 v1.1 v4 0 hw (lv_sub hl [0, 1, 2, 3] rfl) hf
  · have hf := x_neg q7 hf
    refine lv_iconst (v := 1) (pc := 1116) E.1 E.2.1 dL_law_1116 (by decide) ?_
    refine lv_goto (tgt := 1121) (pc := 1117) E.1 E.2.1 dL_law_1117 (by decide) ?_
    exact w_law_p1121 E hX hbl hr hk hk18 v1.2 q x3 v1.1 v4 1 hw (lv_sub hl [0, 1, 2, 3] rfl) hf
set_option maxHeartbeats 4000000 in
set_option maxRecDepth 100000 in
theorem w_law_p1080 {p : Program} {l : Launch} {e : Env} {sS : State} {m : MethodId} {below : List Frame} {meth : Method} {c : Code} {G : xG} {ad ae : Nat → Nat} {b L : Nat} {xs : Nat → Int32} {k18 : S7 → S8 → Int32 → Option Int32} (E : xE p sS m #[Value.ref b] c cL_law 4 RL G (fun q => sS.heap.size ≤ q)) (hX : va_X b L xs sS sS.heap) (hbl : b < sS.heap.size) (hr : meth.sig.returnType = ret) (hk : meth.locks = false) (hk18 : ∀ (s' : S7) (q' : S8) (x3' : Int32) {H : Heap} {locs : List Loc} {ls : Array Slot}, xW G (fun q => sS.heap.size ≤ q) sS.heap (cells7 G ad s' ++ cells8 G ae q') H locs → lv_has ls 4 [(0, .ref b), (1, .ref (ad 0)), (2, .ref (ae 0)), (3, .int x3')] → k18  s' q' x3' = some 1 → W p l e room_1 sS m #[Value.ref b] below meth c H locs 51 5492 (lw_Z below #[Value.ref b] sS) (F0 m 18 ls [])) : ∀ (s' : S7) (q' : S8) (x3' : Int32) {H : Heap} {locs : List Loc} {ls : Array Slot}, xW G (fun q => sS.heap.size ≤ q) sS.heap (cells7 G ad s' ++ cells8 G ae q') H locs → lv_has ls 4 [(0, .ref b), (1, .ref (ad 0)), (2, .ref (ae 0)), (3, .int x3')] → f_law_p1080 k18 L xs s' q' x3' = some 1 → W p l e room_1 sS m #[Value.ref b] below meth c H locs 51 5492 (lw_Z below #[Value.ref b] sS) (F0 m 1080 ls []) := by
  intro s q x3 H locs ls hw hl hf
  unfold f_law_p1080 at hf
  refine lv_aload_n (pc := 1080) E.1 E.2.1 dL_law_1080 rfl (lv_at hl 1 rfl) ?_
  refine lv_aload_n (pc := 1081) E.1 E.2.1 dL_law_1081 rfl (lv_at hl 0 rfl) ?_
  refine lv_iload_n (pc := 1082) E.1 E.2.1 dL_law_1082 rfl (lv_at hl 3 rfl) ?_
  refine lv_iconst (v := 1) (pc := 1083) E.1 E.2.1 dL_law_1083 (by decide) ?_
  refine lv_iadd (pc := 1084) E.1 E.2.1 dL_law_1084 ?_
  obtain ⟨v2, g1, hf⟩ := x_bind hf
  refine x_sld (pc := 1085) E hX hbl hw g1 dL_law_1085 ?_
  refine lv_aload_n (pc := 1086) E.1 E.2.1 dL_law_1086 rfl (lv_at hl 0 rfl) ?_
  refine lv_iload_n (pc := 1087) E.1 E.2.1 dL_law_1087 rfl (lv_at hl 3 rfl) ?_
  refine lv_iconst (v := 2) (pc := 1088) E.1 E.2.1 dL_law_1088 (by decide) ?_
  refine lv_iadd (pc := 1089) E.1 E.2.1 dL_law_1089 ?_
  obtain ⟨v4, g3, hf⟩ := x_bind hf
  refine x_sld (pc := 1090) E hX hbl hw g3 dL_law_1090 ?_
  refine lv_if_eq (tgt := 1098) (pc := 1091) E.1 E.2.1 dL_law_1091 (by decide) (fun q5 => ?_) (fun q5 => ?_)
  · have hf := x_pos q5 hf
    refine lv_iconst (v := 0) (pc := 1098) E.1 E.2.1 dL_law_1098 (by decide) ?_
    exact w_law_p1099 E hX hbl hr hk hk18 s q x3 v2 0 hw (lv_sub hl [0, 1, 2, 3] rfl) hf
  · have hf := x_neg q5 hf
    refine lv_iconst (v := 1) (pc := 1094) E.1 E.2.1 dL_law_1094 (by decide) ?_
    refine lv_goto (tgt := 1099) (pc := 1095) E.1 E.2.1 dL_law_1095 (by decide) ?_
    exact w_law_p1099 E hX hbl hr hk hk18 s q x3 v2 1 hw (lv_sub hl [0, 1, 2, 3] rfl) hf
set_option maxHeartbeats 4000000 in
set_option maxRecDepth 100000 in
theorem w_law_p1071 {p : Program} {l : Launch} {e : Env} {sS : State} {m : MethodId} {below : List Frame} {meth : Method} {c : Code} {G : xG} {ad ae : Nat → Nat} {b L : Nat} {xs : Nat → Int32} {k18 : S7 → S8 → Int32 → Option Int32} (E : xE p sS m #[Value.ref b] c cL_law 4 RL G (fun q => sS.heap.size ≤ q)) (hX : va_X b L xs sS sS.heap) (hbl : b < sS.heap.size) (hr : meth.sig.returnType = ret) (hk : meth.locks = false) (hk18 : ∀ (s' : S7) (q' : S8) (x3' : Int32) {H : Heap} {locs : List Loc} {ls : Array Slot}, xW G (fun q => sS.heap.size ≤ q) sS.heap (cells7 G ad s' ++ cells8 G ae q') H locs → lv_has ls 4 [(0, .ref b), (1, .ref (ad 0)), (2, .ref (ae 0)), (3, .int x3')] → k18  s' q' x3' = some 1 → W p l e room_1 sS m #[Value.ref b] below meth c H locs 51 5492 (lw_Z below #[Value.ref b] sS) (F0 m 18 ls [])) : ∀ (s' : S7) (q' : S8) (x3' : Int32) (y0' : Int64) (y2' : Int32) {H : Heap} {locs : List Loc} {ls : Array Slot}, xW G (fun q => sS.heap.size ≤ q) sS.heap (cells7 G ad s' ++ cells8 G ae q') H locs → lv_has ls 4 [(0, .ref b), (1, .ref (ad 0)), (2, .ref (ae 0)), (3, .int x3')] → f_law_p1071 k18 L xs s' q' x3' y0' y2' = some 1 → W p l e room_1 sS m #[Value.ref b] below meth c H locs 51 5492 (lw_Z below #[Value.ref b] sS) (F0 m 1071 ls [.int y2', .ref (ae 0), .long y0']) := by
  intro s q x3 y0 y2 H locs ls hw hl hf
  unfold f_law_p1071 at hf
  obtain ⟨v1, g2, hf⟩ := x_bind hf
  refine x_callV (pc := 1071) (As := [.int y2]) (rest := [.long y0]) (st1 := [.long v1.1, .long y0]) (ws' := (cells7 G ad s ++ cells8 G ae v1.2)) E hw hl (c_X8_whole l G ae q y2 g2) xv_L_125 xd_X8_whole rfl rfl ⟨Nat.le_of_ble_eq_true rfl, Nat.le_of_ble_eq_true rfl⟩ [31, 32, 33, 34, 35, 36, 37, 38, 39, 40, 41, 42, 43, 44, 45, 46, 47, 48, 49, 50] [0, 1, 2, 3, 4, 5, 6, 7, 8, 9, 10, 11, 12, 13, 14, 15, 16, 17, 18, 19, 20, 21, 22, 23, 24, 25, 26, 27, 28, 29, 30] (by decide) ⟨rfl, rfl, rfl, rfl, rfl, rfl, rfl, rfl, rfl, rfl, rfl, rfl, rfl, rfl, rfl, rfl, rfl, rfl, rfl, rfl, trivial⟩ (q0 := 31) rfl rfl rfl rfl (Nat.le_of_ble_eq_true rfl) (nw := 51) ⟨rfl, rfl, rfl, rfl, rfl, rfl, rfl, rfl, rfl, rfl, rfl, rfl, rfl, rfl, rfl, rfl, rfl, rfl, rfl, rfl, trivial⟩ ⟨⟨_, rfl, rfl⟩, ⟨_, rfl, rfl⟩, ⟨_, rfl, rfl⟩, ⟨_, rfl, rfl⟩, ⟨_, rfl, rfl⟩, ⟨_, rfl, rfl⟩, ⟨_, rfl, rfl⟩, ⟨_, rfl, rfl⟩, ⟨_, rfl, rfl⟩, ⟨_, rfl, rfl⟩, ⟨_, rfl, rfl⟩, ⟨_, rfl, rfl⟩, ⟨_, rfl, rfl⟩, ⟨_, rfl, rfl⟩, ⟨_, rfl, rfl⟩, ⟨_, rfl, rfl⟩, ⟨_, rfl, rfl⟩, ⟨_, rfl, rfl⟩, ⟨_, rfl, rfl⟩, ⟨_, rfl, rfl⟩, ⟨_, rfl, rfl⟩, ⟨_, rfl, rfl⟩, ⟨_, rfl, rfl⟩, ⟨_, rfl, rfl⟩, ⟨_, rfl, rfl⟩, ⟨_, rfl, rfl⟩, ⟨_, rfl, rfl⟩, ⟨_, rfl, rfl⟩, ⟨_, rfl, rfl⟩, ⟨_, rfl, rfl⟩, ⟨_, rfl, rfl⟩, trivial⟩ rfl rfl (by decide) (by decide) rfl dL_law_1071 (fun H locs hw => ?_) (hcs := ⟨Nat.le_refl _, Nat.le_refl _⟩)
  refine W.lcmp (pc := 1074) E.1 E.2.1 dL_law_1074 ?_
  refine lv_if_eq (tgt := 1816) (pc := 1075) E.1 E.2.1 dL_law_1075 (by decide) (fun q3 => ?_) (fun q3 => ?_)
  · have hf := x_pos q3 hf
    exact w_law_p1816 E hX hbl hr hk hk18 s v1.2 x3 hw (lv_sub hl [0, 1, 2, 3] rfl) hf
  · have hf := x_neg q3 hf
    refine lv_iconst (v := 0) (pc := 1078) E.1 E.2.1 dL_law_1078 (by decide) ?_
    exact absurd (Option.some.inj hf) (by decide)
set_option maxHeartbeats 4000000 in
set_option maxRecDepth 100000 in
theorem w_law_p1054 {p : Program} {l : Launch} {e : Env} {sS : State} {m : MethodId} {below : List Frame} {meth : Method} {c : Code} {G : xG} {ad ae : Nat → Nat} {b L : Nat} {xs : Nat → Int32} {k18 : S7 → S8 → Int32 → Option Int32} (E : xE p sS m #[Value.ref b] c cL_law 4 RL G (fun q => sS.heap.size ≤ q)) (hX : va_X b L xs sS sS.heap) (hbl : b < sS.heap.size) (hr : meth.sig.returnType = ret) (hk : meth.locks = false) (hk18 : ∀ (s' : S7) (q' : S8) (x3' : Int32) {H : Heap} {locs : List Loc} {ls : Array Slot}, xW G (fun q => sS.heap.size ≤ q) sS.heap (cells7 G ad s' ++ cells8 G ae q') H locs → lv_has ls 4 [(0, .ref b), (1, .ref (ad 0)), (2, .ref (ae 0)), (3, .int x3')] → k18  s' q' x3' = some 1 → W p l e room_1 sS m #[Value.ref b] below meth c H locs 51 5492 (lw_Z below #[Value.ref b] sS) (F0 m 18 ls [])) : ∀ (s' : S7) (q' : S8) (x3' : Int32) (y1' : Int32) {H : Heap} {locs : List Loc} {ls : Array Slot}, xW G (fun q => sS.heap.size ≤ q) sS.heap (cells7 G ad s' ++ cells8 G ae q') H locs → lv_has ls 4 [(0, .ref b), (1, .ref (ad 0)), (2, .ref (ae 0)), (3, .int x3')] → f_law_p1054 k18 L xs s' q' x3' y1' = some 1 → W p l e room_1 sS m #[Value.ref b] below meth c H locs 51 5492 (lw_Z below #[Value.ref b] sS) (F0 m 1054 ls [.int y1', .ref (ad 0)]) := by
  intro s q x3 y1 H locs ls hw hl hf
  unfold f_law_p1054 at hf
  obtain ⟨v1, g2, hf⟩ := x_bind hf
  refine x_callV (pc := 1054) (As := [.int y1]) (rest := []) (st1 := [.long v1.1]) (ws' := (cells7 G ad v1.2 ++ cells8 G ae q)) E hw hl (c_X7_whole l G ad s y1 g2) xv_L_121 xd_X7_whole rfl rfl ⟨Nat.le_of_ble_eq_true rfl, Nat.le_of_ble_eq_true rfl⟩ [0, 1, 2, 3, 4, 5, 6, 7, 8, 9, 10, 11, 12, 13, 14, 15, 16, 17, 18, 19, 20, 21, 22, 23, 24, 25, 26, 27, 28, 29, 30] [31, 32, 33, 34, 35, 36, 37, 38, 39, 40, 41, 42, 43, 44, 45, 46, 47, 48, 49, 50] (by decide) ⟨rfl, rfl, rfl, rfl, rfl, rfl, rfl, rfl, rfl, rfl, rfl, rfl, rfl, rfl, rfl, rfl, rfl, rfl, rfl, rfl, rfl, rfl, rfl, rfl, rfl, rfl, rfl, rfl, rfl, rfl, rfl, trivial⟩ (q0 := 0) rfl rfl rfl rfl (Nat.le_of_ble_eq_true rfl) (nw := 51) ⟨rfl, rfl, rfl, rfl, rfl, rfl, rfl, rfl, rfl, rfl, rfl, rfl, rfl, rfl, rfl, rfl, rfl, rfl, rfl, rfl, rfl, rfl, rfl, rfl, rfl, rfl, rfl, rfl, rfl, rfl, rfl, trivial⟩ ⟨⟨_, rfl, rfl⟩, ⟨_, rfl, rfl⟩, ⟨_, rfl, rfl⟩, ⟨_, rfl, rfl⟩, ⟨_, rfl, rfl⟩, ⟨_, rfl, rfl⟩, ⟨_, rfl, rfl⟩, ⟨_, rfl, rfl⟩, ⟨_, rfl, rfl⟩, ⟨_, rfl, rfl⟩, ⟨_, rfl, rfl⟩, ⟨_, rfl, rfl⟩, ⟨_, rfl, rfl⟩, ⟨_, rfl, rfl⟩, ⟨_, rfl, rfl⟩, ⟨_, rfl, rfl⟩, ⟨_, rfl, rfl⟩, ⟨_, rfl, rfl⟩, ⟨_, rfl, rfl⟩, ⟨_, rfl, rfl⟩, trivial⟩ rfl rfl (by decide) (by decide) rfl dL_law_1054 (fun H locs hw => ?_) (hcs := ⟨Nat.le_refl _, Nat.le_refl _⟩)
  refine lv_aload_n (pc := 1057) E.1 E.2.1 dL_law_1057 rfl (lv_at hl 2 rfl) ?_
  refine lv_aload_n (pc := 1058) E.1 E.2.1 dL_law_1058 rfl (lv_at hl 0 rfl) ?_
  refine lv_iload_n (pc := 1059) E.1 E.2.1 dL_law_1059 rfl (lv_at hl 3 rfl) ?_
  refine lv_iconst (v := 1) (pc := 1060) E.1 E.2.1 dL_law_1060 (by decide) ?_
  refine lv_iadd (pc := 1061) E.1 E.2.1 dL_law_1061 ?_
  obtain ⟨v4, g3, hf⟩ := x_bind hf
  refine x_sld (pc := 1062) E hX hbl hw g3 dL_law_1062 ?_
  refine lv_if_eq (tgt := 1070) (pc := 1063) E.1 E.2.1 dL_law_1063 (by decide) (fun q5 => ?_) (fun q5 => ?_)
  · have hf := x_pos q5 hf
    refine lv_iconst (v := 0) (pc := 1070) E.1 E.2.1 dL_law_1070 (by decide) ?_
    exact w_law_p1071 E hX hbl hr hk hk18 v1.2 q x3 v1.1 0 hw (lv_sub hl [0, 1, 2, 3] rfl) hf
  · have hf := x_neg q5 hf
    refine lv_iconst (v := 1) (pc := 1066) E.1 E.2.1 dL_law_1066 (by decide) ?_
    refine lv_goto (tgt := 1071) (pc := 1067) E.1 E.2.1 dL_law_1067 (by decide) ?_
    exact w_law_p1071 E hX hbl hr hk hk18 v1.2 q x3 v1.1 1 hw (lv_sub hl [0, 1, 2, 3] rfl) hf
set_option maxHeartbeats 4000000 in
set_option maxRecDepth 100000 in
theorem w_law_p1040 {p : Program} {l : Launch} {e : Env} {sS : State} {m : MethodId} {below : List Frame} {meth : Method} {c : Code} {G : xG} {ad ae : Nat → Nat} {b L : Nat} {xs : Nat → Int32} {k18 : S7 → S8 → Int32 → Option Int32} (E : xE p sS m #[Value.ref b] c cL_law 4 RL G (fun q => sS.heap.size ≤ q)) (hX : va_X b L xs sS sS.heap) (hbl : b < sS.heap.size) (hr : meth.sig.returnType = ret) (hk : meth.locks = false) (hk18 : ∀ (s' : S7) (q' : S8) (x3' : Int32) {H : Heap} {locs : List Loc} {ls : Array Slot}, xW G (fun q => sS.heap.size ≤ q) sS.heap (cells7 G ad s' ++ cells8 G ae q') H locs → lv_has ls 4 [(0, .ref b), (1, .ref (ad 0)), (2, .ref (ae 0)), (3, .int x3')] → k18  s' q' x3' = some 1 → W p l e room_1 sS m #[Value.ref b] below meth c H locs 51 5492 (lw_Z below #[Value.ref b] sS) (F0 m 18 ls [])) : ∀ (s' : S7) (q' : S8) (x3' : Int32) {H : Heap} {locs : List Loc} {ls : Array Slot}, xW G (fun q => sS.heap.size ≤ q) sS.heap (cells7 G ad s' ++ cells8 G ae q') H locs → lv_has ls 4 [(0, .ref b), (1, .ref (ad 0)), (2, .ref (ae 0)), (3, .int x3')] → f_law_p1040 k18 L xs s' q' x3' = some 1 → W p l e room_1 sS m #[Value.ref b] below meth c H locs 51 5492 (lw_Z below #[Value.ref b] sS) (F0 m 1040 ls []) := by
  intro s q x3 H locs ls hw hl hf
  unfold f_law_p1040 at hf
  refine lv_aload_n (pc := 1040) E.1 E.2.1 dL_law_1040 rfl (lv_at hl 1 rfl) ?_
  refine lv_aload_n (pc := 1041) E.1 E.2.1 dL_law_1041 rfl (lv_at hl 0 rfl) ?_
  refine lv_iload_n (pc := 1042) E.1 E.2.1 dL_law_1042 rfl (lv_at hl 3 rfl) ?_
  refine lv_iconst (v := 1) (pc := 1043) E.1 E.2.1 dL_law_1043 (by decide) ?_
  refine lv_iadd (pc := 1044) E.1 E.2.1 dL_law_1044 ?_
  obtain ⟨v2, g1, hf⟩ := x_bind hf
  refine x_sld (pc := 1045) E hX hbl hw g1 dL_law_1045 ?_
  refine lv_if_eq (tgt := 1053) (pc := 1046) E.1 E.2.1 dL_law_1046 (by decide) (fun q3 => ?_) (fun q3 => ?_)
  · have hf := x_pos q3 hf
    refine lv_iconst (v := 0) (pc := 1053) E.1 E.2.1 dL_law_1053 (by decide) ?_
    exact w_law_p1054 E hX hbl hr hk hk18 s q x3 0 hw (lv_sub hl [0, 1, 2, 3] rfl) hf
  · have hf := x_neg q3 hf
    refine lv_iconst (v := 1) (pc := 1049) E.1 E.2.1 dL_law_1049 (by decide) ?_
    refine lv_goto (tgt := 1054) (pc := 1050) E.1 E.2.1 dL_law_1050 (by decide) ?_
    exact w_law_p1054 E hX hbl hr hk hk18 s q x3 1 hw (lv_sub hl [0, 1, 2, 3] rfl) hf
set_option maxHeartbeats 4000000 in
set_option maxRecDepth 100000 in
theorem w_law_p1031 {p : Program} {l : Launch} {e : Env} {sS : State} {m : MethodId} {below : List Frame} {meth : Method} {c : Code} {G : xG} {ad ae : Nat → Nat} {b L : Nat} {xs : Nat → Int32} {k18 : S7 → S8 → Int32 → Option Int32} (E : xE p sS m #[Value.ref b] c cL_law 4 RL G (fun q => sS.heap.size ≤ q)) (hX : va_X b L xs sS sS.heap) (hbl : b < sS.heap.size) (hr : meth.sig.returnType = ret) (hk : meth.locks = false) (hk18 : ∀ (s' : S7) (q' : S8) (x3' : Int32) {H : Heap} {locs : List Loc} {ls : Array Slot}, xW G (fun q => sS.heap.size ≤ q) sS.heap (cells7 G ad s' ++ cells8 G ae q') H locs → lv_has ls 4 [(0, .ref b), (1, .ref (ad 0)), (2, .ref (ae 0)), (3, .int x3')] → k18  s' q' x3' = some 1 → W p l e room_1 sS m #[Value.ref b] below meth c H locs 51 5492 (lw_Z below #[Value.ref b] sS) (F0 m 18 ls [])) : ∀ (s' : S7) (q' : S8) (x3' : Int32) (y0' : Int64) (y2' : Int32) (y3' : Int32) (y4' : Int32) {H : Heap} {locs : List Loc} {ls : Array Slot}, xW G (fun q => sS.heap.size ≤ q) sS.heap (cells7 G ad s' ++ cells8 G ae q') H locs → lv_has ls 4 [(0, .ref b), (1, .ref (ad 0)), (2, .ref (ae 0)), (3, .int x3')] → f_law_p1031 k18 L xs s' q' x3' y0' y2' y3' y4' = some 1 → W p l e room_1 sS m #[Value.ref b] below meth c H locs 51 5492 (lw_Z below #[Value.ref b] sS) (F0 m 1031 ls [.int y4', .int y3', .int y2', .ref (ae 0), .long y0']) := by
  intro s q x3 y0 y2 y3 y4 H locs ls hw hl hf
  unfold f_law_p1031 at hf
  obtain ⟨v1, g2, hf⟩ := x_bind hf
  refine x_callV (pc := 1031) (As := [.int y2, .int y3, .int y4]) (rest := [.long y0]) (st1 := [.long v1.1, .long y0]) (ws' := (cells7 G ad s ++ cells8 G ae v1.2)) E hw hl (c_X8_spread l G ae q y2 y3 y4 g2) xv_L_120 xd_X8_spread rfl rfl ⟨Nat.le_of_ble_eq_true rfl, Nat.le_of_ble_eq_true rfl⟩ [31, 32, 33, 34, 35, 36, 37, 38, 39, 40, 41, 42, 43, 44, 45, 46, 47, 48, 49, 50] [0, 1, 2, 3, 4, 5, 6, 7, 8, 9, 10, 11, 12, 13, 14, 15, 16, 17, 18, 19, 20, 21, 22, 23, 24, 25, 26, 27, 28, 29, 30] (by decide) ⟨rfl, rfl, rfl, rfl, rfl, rfl, rfl, rfl, rfl, rfl, rfl, rfl, rfl, rfl, rfl, rfl, rfl, rfl, rfl, rfl, trivial⟩ (q0 := 31) rfl rfl rfl rfl (Nat.le_of_ble_eq_true rfl) (nw := 51) ⟨rfl, rfl, rfl, rfl, rfl, rfl, rfl, rfl, rfl, rfl, rfl, rfl, rfl, rfl, rfl, rfl, rfl, rfl, rfl, rfl, trivial⟩ ⟨⟨_, rfl, rfl⟩, ⟨_, rfl, rfl⟩, ⟨_, rfl, rfl⟩, ⟨_, rfl, rfl⟩, ⟨_, rfl, rfl⟩, ⟨_, rfl, rfl⟩, ⟨_, rfl, rfl⟩, ⟨_, rfl, rfl⟩, ⟨_, rfl, rfl⟩, ⟨_, rfl, rfl⟩, ⟨_, rfl, rfl⟩, ⟨_, rfl, rfl⟩, ⟨_, rfl, rfl⟩, ⟨_, rfl, rfl⟩, ⟨_, rfl, rfl⟩, ⟨_, rfl, rfl⟩, ⟨_, rfl, rfl⟩, ⟨_, rfl, rfl⟩, ⟨_, rfl, rfl⟩, ⟨_, rfl, rfl⟩, ⟨_, rfl, rfl⟩, ⟨_, rfl, rfl⟩, ⟨_, rfl, rfl⟩, ⟨_, rfl, rfl⟩, ⟨_, rfl, rfl⟩, ⟨_, rfl, rfl⟩, ⟨_, rfl, rfl⟩, ⟨_, rfl, rfl⟩, ⟨_, rfl, rfl⟩, ⟨_, rfl, rfl⟩, ⟨_, rfl, rfl⟩, trivial⟩ rfl rfl (by decide) (by decide) rfl dL_law_1031 (fun H locs hw => ?_) (hcs := ⟨Nat.le_refl _, Nat.le_refl _⟩)
  refine W.lcmp (pc := 1034) E.1 E.2.1 dL_law_1034 ?_
  refine lv_if_eq (tgt := 1816) (pc := 1035) E.1 E.2.1 dL_law_1035 (by decide) (fun q3 => ?_) (fun q3 => ?_)
  · have hf := x_pos q3 hf
    exact w_law_p1816 E hX hbl hr hk hk18 s v1.2 x3 hw (lv_sub hl [0, 1, 2, 3] rfl) hf
  · have hf := x_neg q3 hf
    refine lv_iconst (v := 0) (pc := 1038) E.1 E.2.1 dL_law_1038 (by decide) ?_
    exact absurd (Option.some.inj hf) (by decide)
set_option maxHeartbeats 4000000 in
set_option maxRecDepth 100000 in
theorem w_law_p1004 {p : Program} {l : Launch} {e : Env} {sS : State} {m : MethodId} {below : List Frame} {meth : Method} {c : Code} {G : xG} {ad ae : Nat → Nat} {b L : Nat} {xs : Nat → Int32} {k18 : S7 → S8 → Int32 → Option Int32} (E : xE p sS m #[Value.ref b] c cL_law 4 RL G (fun q => sS.heap.size ≤ q)) (hX : va_X b L xs sS sS.heap) (hbl : b < sS.heap.size) (hr : meth.sig.returnType = ret) (hk : meth.locks = false) (hk18 : ∀ (s' : S7) (q' : S8) (x3' : Int32) {H : Heap} {locs : List Loc} {ls : Array Slot}, xW G (fun q => sS.heap.size ≤ q) sS.heap (cells7 G ad s' ++ cells8 G ae q') H locs → lv_has ls 4 [(0, .ref b), (1, .ref (ad 0)), (2, .ref (ae 0)), (3, .int x3')] → k18  s' q' x3' = some 1 → W p l e room_1 sS m #[Value.ref b] below meth c H locs 51 5492 (lw_Z below #[Value.ref b] sS) (F0 m 18 ls [])) : ∀ (s' : S7) (q' : S8) (x3' : Int32) (y1' : Int32) (y2' : Int32) (y3' : Int32) {H : Heap} {locs : List Loc} {ls : Array Slot}, xW G (fun q => sS.heap.size ≤ q) sS.heap (cells7 G ad s' ++ cells8 G ae q') H locs → lv_has ls 4 [(0, .ref b), (1, .ref (ad 0)), (2, .ref (ae 0)), (3, .int x3')] → f_law_p1004 k18 L xs s' q' x3' y1' y2' y3' = some 1 → W p l e room_1 sS m #[Value.ref b] below meth c H locs 51 5492 (lw_Z below #[Value.ref b] sS) (F0 m 1004 ls [.int y3', .int y2', .int y1', .ref (ad 0)]) := by
  intro s q x3 y1 y2 y3 H locs ls hw hl hf
  unfold f_law_p1004 at hf
  obtain ⟨v1, g2, hf⟩ := x_bind hf
  refine x_callV (pc := 1004) (As := [.int y1, .int y2, .int y3]) (rest := []) (st1 := [.long v1.1]) (ws' := (cells7 G ad v1.2 ++ cells8 G ae q)) E hw hl (c_X7_spread l G ad s y1 y2 y3 g2) xv_L_116 xd_X7_spread rfl rfl ⟨Nat.le_of_ble_eq_true rfl, Nat.le_of_ble_eq_true rfl⟩ [0, 1, 2, 3, 4, 5, 6, 7, 8, 9, 10, 11, 12, 13, 14, 15, 16, 17, 18, 19, 20, 21, 22, 23, 24, 25, 26, 27, 28, 29, 30] [31, 32, 33, 34, 35, 36, 37, 38, 39, 40, 41, 42, 43, 44, 45, 46, 47, 48, 49, 50] (by decide) ⟨rfl, rfl, rfl, rfl, rfl, rfl, rfl, rfl, rfl, rfl, rfl, rfl, rfl, rfl, rfl, rfl, rfl, rfl, rfl, rfl, rfl, rfl, rfl, rfl, rfl, rfl, rfl, rfl, rfl, rfl, rfl, trivial⟩ (q0 := 0) rfl rfl rfl rfl (Nat.le_of_ble_eq_true rfl) (nw := 51) ⟨rfl, rfl, rfl, rfl, rfl, rfl, rfl, rfl, rfl, rfl, rfl, rfl, rfl, rfl, rfl, rfl, rfl, rfl, rfl, rfl, rfl, rfl, rfl, rfl, rfl, rfl, rfl, rfl, rfl, rfl, rfl, trivial⟩ ⟨⟨_, rfl, rfl⟩, ⟨_, rfl, rfl⟩, ⟨_, rfl, rfl⟩, ⟨_, rfl, rfl⟩, ⟨_, rfl, rfl⟩, ⟨_, rfl, rfl⟩, ⟨_, rfl, rfl⟩, ⟨_, rfl, rfl⟩, ⟨_, rfl, rfl⟩, ⟨_, rfl, rfl⟩, ⟨_, rfl, rfl⟩, ⟨_, rfl, rfl⟩, ⟨_, rfl, rfl⟩, ⟨_, rfl, rfl⟩, ⟨_, rfl, rfl⟩, ⟨_, rfl, rfl⟩, ⟨_, rfl, rfl⟩, ⟨_, rfl, rfl⟩, ⟨_, rfl, rfl⟩, ⟨_, rfl, rfl⟩, trivial⟩ rfl rfl (by decide) (by decide) rfl dL_law_1004 (fun H locs hw => ?_) (hcs := ⟨Nat.le_refl _, Nat.le_refl _⟩)
  refine lv_aload_n (pc := 1007) E.1 E.2.1 dL_law_1007 rfl (lv_at hl 2 rfl) ?_
  refine lv_aload_n (pc := 1008) E.1 E.2.1 dL_law_1008 rfl (lv_at hl 0 rfl) ?_
  refine lv_iload_n (pc := 1009) E.1 E.2.1 dL_law_1009 rfl (lv_at hl 3 rfl) ?_
  refine lv_iconst (v := 1) (pc := 1010) E.1 E.2.1 dL_law_1010 (by decide) ?_
  refine lv_iadd (pc := 1011) E.1 E.2.1 dL_law_1011 ?_
  obtain ⟨v4, g3, hf⟩ := x_bind hf
  refine x_sld (pc := 1012) E hX hbl hw g3 dL_law_1012 ?_
  refine lv_aload_n (pc := 1013) E.1 E.2.1 dL_law_1013 rfl (lv_at hl 0 rfl) ?_
  refine lv_iload_n (pc := 1014) E.1 E.2.1 dL_law_1014 rfl (lv_at hl 3 rfl) ?_
  refine lv_iconst (v := 2) (pc := 1015) E.1 E.2.1 dL_law_1015 (by decide) ?_
  refine lv_iadd (pc := 1016) E.1 E.2.1 dL_law_1016 ?_
  obtain ⟨v6, g5, hf⟩ := x_bind hf
  refine x_sld (pc := 1017) E hX hbl hw g5 dL_law_1017 ?_
  refine lv_aload_n (pc := 1018) E.1 E.2.1 dL_law_1018 rfl (lv_at hl 0 rfl) ?_
  refine lv_iload_n (pc := 1019) E.1 E.2.1 dL_law_1019 rfl (lv_at hl 3 rfl) ?_
  refine lv_iconst (v := 3) (pc := 1020) E.1 E.2.1 dL_law_1020 (by decide) ?_
  refine lv_iadd (pc := 1021) E.1 E.2.1 dL_law_1021 ?_
  obtain ⟨v8, g7, hf⟩ := x_bind hf
  refine x_sld (pc := 1022) E hX hbl hw g7 dL_law_1022 ?_
  refine lv_if_eq (tgt := 1030) (pc := 1023) E.1 E.2.1 dL_law_1023 (by decide) (fun q9 => ?_) (fun q9 => ?_)
  · have hf := x_pos q9 hf
    refine lv_iconst (v := 0) (pc := 1030) E.1 E.2.1 dL_law_1030 (by decide) ?_
    exact w_law_p1031 E hX hbl hr hk hk18 v1.2 q x3 v1.1 v4 v6 0 hw (lv_sub hl [0, 1, 2, 3] rfl) hf
  · have hf := x_neg q9 hf
    refine lv_iconst (v := 1) (pc := 1026) E.1 E.2.1 dL_law_1026 (by decide) ?_
    refine lv_goto (tgt := 1031) (pc := 1027) E.1 E.2.1 dL_law_1027 (by decide) ?_
    exact w_law_p1031 E hX hbl hr hk hk18 v1.2 q x3 v1.1 v4 v6 1 hw (lv_sub hl [0, 1, 2, 3] rfl) hf
set_option maxHeartbeats 4000000 in
set_option maxRecDepth 100000 in
theorem w_law_p980 {p : Program} {l : Launch} {e : Env} {sS : State} {m : MethodId} {below : List Frame} {meth : Method} {c : Code} {G : xG} {ad ae : Nat → Nat} {b L : Nat} {xs : Nat → Int32} {k18 : S7 → S8 → Int32 → Option Int32} (E : xE p sS m #[Value.ref b] c cL_law 4 RL G (fun q => sS.heap.size ≤ q)) (hX : va_X b L xs sS sS.heap) (hbl : b < sS.heap.size) (hr : meth.sig.returnType = ret) (hk : meth.locks = false) (hk18 : ∀ (s' : S7) (q' : S8) (x3' : Int32) {H : Heap} {locs : List Loc} {ls : Array Slot}, xW G (fun q => sS.heap.size ≤ q) sS.heap (cells7 G ad s' ++ cells8 G ae q') H locs → lv_has ls 4 [(0, .ref b), (1, .ref (ad 0)), (2, .ref (ae 0)), (3, .int x3')] → k18  s' q' x3' = some 1 → W p l e room_1 sS m #[Value.ref b] below meth c H locs 51 5492 (lw_Z below #[Value.ref b] sS) (F0 m 18 ls [])) : ∀ (s' : S7) (q' : S8) (x3' : Int32) {H : Heap} {locs : List Loc} {ls : Array Slot}, xW G (fun q => sS.heap.size ≤ q) sS.heap (cells7 G ad s' ++ cells8 G ae q') H locs → lv_has ls 4 [(0, .ref b), (1, .ref (ad 0)), (2, .ref (ae 0)), (3, .int x3')] → f_law_p980 k18 L xs s' q' x3' = some 1 → W p l e room_1 sS m #[Value.ref b] below meth c H locs 51 5492 (lw_Z below #[Value.ref b] sS) (F0 m 980 ls []) := by
  intro s q x3 H locs ls hw hl hf
  unfold f_law_p980 at hf
  refine lv_aload_n (pc := 980) E.1 E.2.1 dL_law_980 rfl (lv_at hl 1 rfl) ?_
  refine lv_aload_n (pc := 981) E.1 E.2.1 dL_law_981 rfl (lv_at hl 0 rfl) ?_
  refine lv_iload_n (pc := 982) E.1 E.2.1 dL_law_982 rfl (lv_at hl 3 rfl) ?_
  refine lv_iconst (v := 1) (pc := 983) E.1 E.2.1 dL_law_983 (by decide) ?_
  refine lv_iadd (pc := 984) E.1 E.2.1 dL_law_984 ?_
  obtain ⟨v2, g1, hf⟩ := x_bind hf
  refine x_sld (pc := 985) E hX hbl hw g1 dL_law_985 ?_
  refine lv_aload_n (pc := 986) E.1 E.2.1 dL_law_986 rfl (lv_at hl 0 rfl) ?_
  refine lv_iload_n (pc := 987) E.1 E.2.1 dL_law_987 rfl (lv_at hl 3 rfl) ?_
  refine lv_iconst (v := 2) (pc := 988) E.1 E.2.1 dL_law_988 (by decide) ?_
  refine lv_iadd (pc := 989) E.1 E.2.1 dL_law_989 ?_
  obtain ⟨v4, g3, hf⟩ := x_bind hf
  refine x_sld (pc := 990) E hX hbl hw g3 dL_law_990 ?_
  refine lv_aload_n (pc := 991) E.1 E.2.1 dL_law_991 rfl (lv_at hl 0 rfl) ?_
  refine lv_iload_n (pc := 992) E.1 E.2.1 dL_law_992 rfl (lv_at hl 3 rfl) ?_
  refine lv_iconst (v := 3) (pc := 993) E.1 E.2.1 dL_law_993 (by decide) ?_
  refine lv_iadd (pc := 994) E.1 E.2.1 dL_law_994 ?_
  obtain ⟨v6, g5, hf⟩ := x_bind hf
  refine x_sld (pc := 995) E hX hbl hw g5 dL_law_995 ?_
  refine lv_if_eq (tgt := 1003) (pc := 996) E.1 E.2.1 dL_law_996 (by decide) (fun q7 => ?_) (fun q7 => ?_)
  · have hf := x_pos q7 hf
    refine lv_iconst (v := 0) (pc := 1003) E.1 E.2.1 dL_law_1003 (by decide) ?_
    exact w_law_p1004 E hX hbl hr hk hk18 s q x3 v2 v4 0 hw (lv_sub hl [0, 1, 2, 3] rfl) hf
  · have hf := x_neg q7 hf
    refine lv_iconst (v := 1) (pc := 999) E.1 E.2.1 dL_law_999 (by decide) ?_
    refine lv_goto (tgt := 1004) (pc := 1000) E.1 E.2.1 dL_law_1000 (by decide) ?_
    exact w_law_p1004 E hX hbl hr hk hk18 s q x3 v2 v4 1 hw (lv_sub hl [0, 1, 2, 3] rfl) hf
set_option maxHeartbeats 4000000 in
set_option maxRecDepth 100000 in
theorem w_law_p947 {p : Program} {l : Launch} {e : Env} {sS : State} {m : MethodId} {below : List Frame} {meth : Method} {c : Code} {G : xG} {ad ae : Nat → Nat} {b L : Nat} {xs : Nat → Int32} {k18 : S7 → S8 → Int32 → Option Int32} (E : xE p sS m #[Value.ref b] c cL_law 4 RL G (fun q => sS.heap.size ≤ q)) (hX : va_X b L xs sS sS.heap) (hbl : b < sS.heap.size) (hr : meth.sig.returnType = ret) (hk : meth.locks = false) (hk18 : ∀ (s' : S7) (q' : S8) (x3' : Int32) {H : Heap} {locs : List Loc} {ls : Array Slot}, xW G (fun q => sS.heap.size ≤ q) sS.heap (cells7 G ad s' ++ cells8 G ae q') H locs → lv_has ls 4 [(0, .ref b), (1, .ref (ad 0)), (2, .ref (ae 0)), (3, .int x3')] → k18  s' q' x3' = some 1 → W p l e room_1 sS m #[Value.ref b] below meth c H locs 51 5492 (lw_Z below #[Value.ref b] sS) (F0 m 18 ls [])) : ∀ (s' : S7) (q' : S8) (x3' : Int32) {H : Heap} {locs : List Loc} {ls : Array Slot}, xW G (fun q => sS.heap.size ≤ q) sS.heap (cells7 G ad s' ++ cells8 G ae q') H locs → lv_has ls 4 [(0, .ref b), (1, .ref (ad 0)), (2, .ref (ae 0)), (3, .int x3')] → f_law_p947 k18 L xs s' q' x3' = some 1 → W p l e room_1 sS m #[Value.ref b] below meth c H locs 51 5492 (lw_Z below #[Value.ref b] sS) (F0 m 947 ls []) := by
  intro s q x3 H locs ls hw hl hf
  unfold f_law_p947 at hf
  refine lv_aload_n (pc := 947) E.1 E.2.1 dL_law_947 rfl (lv_at hl 1 rfl) ?_
  refine lv_aload_n (pc := 948) E.1 E.2.1 dL_law_948 rfl (lv_at hl 0 rfl) ?_
  refine lv_iload_n (pc := 949) E.1 E.2.1 dL_law_949 rfl (lv_at hl 3 rfl) ?_
  refine lv_iconst (v := 1) (pc := 950) E.1 E.2.1 dL_law_950 (by decide) ?_
  refine lv_iadd (pc := 951) E.1 E.2.1 dL_law_951 ?_
  obtain ⟨v2, g1, hf⟩ := x_bind hf
  refine x_sld (pc := 952) E hX hbl hw g1 dL_law_952 ?_
  refine lv_aload_n (pc := 953) E.1 E.2.1 dL_law_953 rfl (lv_at hl 0 rfl) ?_
  refine lv_iload_n (pc := 954) E.1 E.2.1 dL_law_954 rfl (lv_at hl 3 rfl) ?_
  refine lv_iconst (v := 2) (pc := 955) E.1 E.2.1 dL_law_955 (by decide) ?_
  refine lv_iadd (pc := 956) E.1 E.2.1 dL_law_956 ?_
  obtain ⟨v4, g3, hf⟩ := x_bind hf
  refine x_sld (pc := 957) E hX hbl hw g3 dL_law_957 ?_
  obtain ⟨v5, g6, hf⟩ := x_bind hf
  refine x_callV (pc := 958) (As := [.int v2, .int v4]) (rest := []) (st1 := [.int v5.1]) (ws' := (cells7 G ad v5.2 ++ cells8 G ae q)) E hw hl (c_X7_group l G ad s v2 v4 g6) xv_L_112 xd_X7_group rfl rfl ⟨Nat.le_of_ble_eq_true rfl, Nat.le_of_ble_eq_true rfl⟩ [0, 1, 2, 3, 4, 5, 6, 7, 8, 9, 10, 11, 12, 13, 14, 15, 16, 17, 18, 19, 20, 21, 22, 23, 24, 25, 26, 27, 28, 29, 30] [31, 32, 33, 34, 35, 36, 37, 38, 39, 40, 41, 42, 43, 44, 45, 46, 47, 48, 49, 50] (by decide) ⟨rfl, rfl, rfl, rfl, rfl, rfl, rfl, rfl, rfl, rfl, rfl, rfl, rfl, rfl, rfl, rfl, rfl, rfl, rfl, rfl, rfl, rfl, rfl, rfl, rfl, rfl, rfl, rfl, rfl, rfl, rfl, trivial⟩ (q0 := 0) rfl rfl rfl rfl (Nat.le_of_ble_eq_true rfl) (nw := 51) ⟨rfl, rfl, rfl, rfl, rfl, rfl, rfl, rfl, rfl, rfl, rfl, rfl, rfl, rfl, rfl, rfl, rfl, rfl, rfl, rfl, rfl, rfl, rfl, rfl, rfl, rfl, rfl, rfl, rfl, rfl, rfl, trivial⟩ ⟨⟨_, rfl, rfl⟩, ⟨_, rfl, rfl⟩, ⟨_, rfl, rfl⟩, ⟨_, rfl, rfl⟩, ⟨_, rfl, rfl⟩, ⟨_, rfl, rfl⟩, ⟨_, rfl, rfl⟩, ⟨_, rfl, rfl⟩, ⟨_, rfl, rfl⟩, ⟨_, rfl, rfl⟩, ⟨_, rfl, rfl⟩, ⟨_, rfl, rfl⟩, ⟨_, rfl, rfl⟩, ⟨_, rfl, rfl⟩, ⟨_, rfl, rfl⟩, ⟨_, rfl, rfl⟩, ⟨_, rfl, rfl⟩, ⟨_, rfl, rfl⟩, ⟨_, rfl, rfl⟩, ⟨_, rfl, rfl⟩, trivial⟩ rfl rfl (by decide) (by decide) rfl dL_law_958 (fun H locs hw => ?_) (hcs := ⟨Nat.le_refl _, Nat.le_refl _⟩)
  refine lv_aload_n (pc := 961) E.1 E.2.1 dL_law_961 rfl (lv_at hl 2 rfl) ?_
  refine lv_aload_n (pc := 962) E.1 E.2.1 dL_law_962 rfl (lv_at hl 0 rfl) ?_
  refine lv_iload_n (pc := 963) E.1 E.2.1 dL_law_963 rfl (lv_at hl 3 rfl) ?_
  refine lv_iconst (v := 1) (pc := 964) E.1 E.2.1 dL_law_964 (by decide) ?_
  refine lv_iadd (pc := 965) E.1 E.2.1 dL_law_965 ?_
  obtain ⟨v8, g7, hf⟩ := x_bind hf
  refine x_sld (pc := 966) E hX hbl hw g7 dL_law_966 ?_
  refine lv_aload_n (pc := 967) E.1 E.2.1 dL_law_967 rfl (lv_at hl 0 rfl) ?_
  refine lv_iload_n (pc := 968) E.1 E.2.1 dL_law_968 rfl (lv_at hl 3 rfl) ?_
  refine lv_iconst (v := 2) (pc := 969) E.1 E.2.1 dL_law_969 (by decide) ?_
  refine lv_iadd (pc := 970) E.1 E.2.1 dL_law_970 ?_
  obtain ⟨v10, g9, hf⟩ := x_bind hf
  refine x_sld (pc := 971) E hX hbl hw g9 dL_law_971 ?_
  obtain ⟨v11, g12, hf⟩ := x_bind hf
  refine x_callV (pc := 972) (As := [.int v8, .int v10]) (rest := [.int v5.1]) (st1 := [.int v11.1, .int v5.1]) (ws' := (cells7 G ad v5.2 ++ cells8 G ae v11.2)) E hw hl (c_X8_group l G ae q v8 v10 g12) xv_L_115 xd_X8_group rfl rfl ⟨Nat.le_of_ble_eq_true rfl, Nat.le_of_ble_eq_true rfl⟩ [31, 32, 33, 34, 35, 36, 37, 38, 39, 40, 41, 42, 43, 44, 45, 46, 47, 48, 49, 50] [0, 1, 2, 3, 4, 5, 6, 7, 8, 9, 10, 11, 12, 13, 14, 15, 16, 17, 18, 19, 20, 21, 22, 23, 24, 25, 26, 27, 28, 29, 30] (by decide) ⟨rfl, rfl, rfl, rfl, rfl, rfl, rfl, rfl, rfl, rfl, rfl, rfl, rfl, rfl, rfl, rfl, rfl, rfl, rfl, rfl, trivial⟩ (q0 := 31) rfl rfl rfl rfl (Nat.le_of_ble_eq_true rfl) (nw := 51) ⟨rfl, rfl, rfl, rfl, rfl, rfl, rfl, rfl, rfl, rfl, rfl, rfl, rfl, rfl, rfl, rfl, rfl, rfl, rfl, rfl, trivial⟩ ⟨⟨_, rfl, rfl⟩, ⟨_, rfl, rfl⟩, ⟨_, rfl, rfl⟩, ⟨_, rfl, rfl⟩, ⟨_, rfl, rfl⟩, ⟨_, rfl, rfl⟩, ⟨_, rfl, rfl⟩, ⟨_, rfl, rfl⟩, ⟨_, rfl, rfl⟩, ⟨_, rfl, rfl⟩, ⟨_, rfl, rfl⟩, ⟨_, rfl, rfl⟩, ⟨_, rfl, rfl⟩, ⟨_, rfl, rfl⟩, ⟨_, rfl, rfl⟩, ⟨_, rfl, rfl⟩, ⟨_, rfl, rfl⟩, ⟨_, rfl, rfl⟩, ⟨_, rfl, rfl⟩, ⟨_, rfl, rfl⟩, ⟨_, rfl, rfl⟩, ⟨_, rfl, rfl⟩, ⟨_, rfl, rfl⟩, ⟨_, rfl, rfl⟩, ⟨_, rfl, rfl⟩, ⟨_, rfl, rfl⟩, ⟨_, rfl, rfl⟩, ⟨_, rfl, rfl⟩, ⟨_, rfl, rfl⟩, ⟨_, rfl, rfl⟩, ⟨_, rfl, rfl⟩, trivial⟩ rfl rfl (by decide) (by decide) rfl dL_law_972 (fun H locs hw => ?_) (hcs := ⟨Nat.le_refl _, Nat.le_refl _⟩)
  refine lv_icmp_eq (tgt := 1816) (pc := 975) E.1 E.2.1 dL_law_975 (by decide) (fun q13 => ?_) (fun q13 => ?_)
  · have hf := x_pos q13 hf
    exact w_law_p1816 E hX hbl hr hk hk18 v5.2 v11.2 x3 hw (lv_sub hl [0, 1, 2, 3] rfl) hf
  · have hf := x_neg q13 hf
    refine lv_iconst (v := 0) (pc := 978) E.1 E.2.1 dL_law_978 (by decide) ?_
    exact absurd (Option.some.inj hf) (by decide)
set_option maxHeartbeats 4000000 in
set_option maxRecDepth 100000 in
theorem w_law_p914 {p : Program} {l : Launch} {e : Env} {sS : State} {m : MethodId} {below : List Frame} {meth : Method} {c : Code} {G : xG} {ad ae : Nat → Nat} {b L : Nat} {xs : Nat → Int32} {k18 : S7 → S8 → Int32 → Option Int32} (E : xE p sS m #[Value.ref b] c cL_law 4 RL G (fun q => sS.heap.size ≤ q)) (hX : va_X b L xs sS sS.heap) (hbl : b < sS.heap.size) (hr : meth.sig.returnType = ret) (hk : meth.locks = false) (hk18 : ∀ (s' : S7) (q' : S8) (x3' : Int32) {H : Heap} {locs : List Loc} {ls : Array Slot}, xW G (fun q => sS.heap.size ≤ q) sS.heap (cells7 G ad s' ++ cells8 G ae q') H locs → lv_has ls 4 [(0, .ref b), (1, .ref (ad 0)), (2, .ref (ae 0)), (3, .int x3')] → k18  s' q' x3' = some 1 → W p l e room_1 sS m #[Value.ref b] below meth c H locs 51 5492 (lw_Z below #[Value.ref b] sS) (F0 m 18 ls [])) : ∀ (s' : S7) (q' : S8) (x3' : Int32) {H : Heap} {locs : List Loc} {ls : Array Slot}, xW G (fun q => sS.heap.size ≤ q) sS.heap (cells7 G ad s' ++ cells8 G ae q') H locs → lv_has ls 4 [(0, .ref b), (1, .ref (ad 0)), (2, .ref (ae 0)), (3, .int x3')] → f_law_p914 k18 L xs s' q' x3' = some 1 → W p l e room_1 sS m #[Value.ref b] below meth c H locs 51 5492 (lw_Z below #[Value.ref b] sS) (F0 m 914 ls []) := by
  intro s q x3 H locs ls hw hl hf
  unfold f_law_p914 at hf
  refine lv_aload_n (pc := 914) E.1 E.2.1 dL_law_914 rfl (lv_at hl 1 rfl) ?_
  refine lv_aload_n (pc := 915) E.1 E.2.1 dL_law_915 rfl (lv_at hl 0 rfl) ?_
  refine lv_iload_n (pc := 916) E.1 E.2.1 dL_law_916 rfl (lv_at hl 3 rfl) ?_
  refine lv_iconst (v := 1) (pc := 917) E.1 E.2.1 dL_law_917 (by decide) ?_
  refine lv_iadd (pc := 918) E.1 E.2.1 dL_law_918 ?_
  obtain ⟨v2, g1, hf⟩ := x_bind hf
  refine x_sld (pc := 919) E hX hbl hw g1 dL_law_919 ?_
  refine lv_aload_n (pc := 920) E.1 E.2.1 dL_law_920 rfl (lv_at hl 0 rfl) ?_
  refine lv_iload_n (pc := 921) E.1 E.2.1 dL_law_921 rfl (lv_at hl 3 rfl) ?_
  refine lv_iconst (v := 2) (pc := 922) E.1 E.2.1 dL_law_922 (by decide) ?_
  refine lv_iadd (pc := 923) E.1 E.2.1 dL_law_923 ?_
  obtain ⟨v4, g3, hf⟩ := x_bind hf
  refine x_sld (pc := 924) E hX hbl hw g3 dL_law_924 ?_
  obtain ⟨v5, g6, hf⟩ := x_bind hf
  refine x_callV (pc := 925) (As := [.int v2, .int v4]) (rest := []) (st1 := [.int v5]) (ws' := (cells7 G ad s ++ cells8 G ae q)) E hw hl (c_X7_claimOf l G ad s v2 v4 g6) xv_L_108 xd_X7_claimOf rfl rfl ⟨Nat.le_of_ble_eq_true rfl, Nat.le_of_ble_eq_true rfl⟩ [0, 1, 2, 3, 4, 5, 6, 7, 8, 9, 10, 11, 12, 13, 14, 15, 16, 17, 18, 19, 20, 21, 22, 23, 24, 25, 26, 27, 28, 29, 30] [31, 32, 33, 34, 35, 36, 37, 38, 39, 40, 41, 42, 43, 44, 45, 46, 47, 48, 49, 50] (by decide) ⟨rfl, rfl, rfl, rfl, rfl, rfl, rfl, rfl, rfl, rfl, rfl, rfl, rfl, rfl, rfl, rfl, rfl, rfl, rfl, rfl, rfl, rfl, rfl, rfl, rfl, rfl, rfl, rfl, rfl, rfl, rfl, trivial⟩ (q0 := 0) rfl rfl rfl rfl (Nat.le_of_ble_eq_true rfl) (nw := 51) ⟨rfl, rfl, rfl, rfl, rfl, rfl, rfl, rfl, rfl, rfl, rfl, rfl, rfl, rfl, rfl, rfl, rfl, rfl, rfl, rfl, rfl, rfl, rfl, rfl, rfl, rfl, rfl, rfl, rfl, rfl, rfl, trivial⟩ ⟨⟨_, rfl, rfl⟩, ⟨_, rfl, rfl⟩, ⟨_, rfl, rfl⟩, ⟨_, rfl, rfl⟩, ⟨_, rfl, rfl⟩, ⟨_, rfl, rfl⟩, ⟨_, rfl, rfl⟩, ⟨_, rfl, rfl⟩, ⟨_, rfl, rfl⟩, ⟨_, rfl, rfl⟩, ⟨_, rfl, rfl⟩, ⟨_, rfl, rfl⟩, ⟨_, rfl, rfl⟩, ⟨_, rfl, rfl⟩, ⟨_, rfl, rfl⟩, ⟨_, rfl, rfl⟩, ⟨_, rfl, rfl⟩, ⟨_, rfl, rfl⟩, ⟨_, rfl, rfl⟩, ⟨_, rfl, rfl⟩, trivial⟩ rfl rfl (by decide) (by decide) rfl dL_law_925 (fun H locs hw => ?_) (hcs := ⟨Nat.le_refl _, Nat.le_refl _⟩)
  refine lv_aload_n (pc := 928) E.1 E.2.1 dL_law_928 rfl (lv_at hl 2 rfl) ?_
  refine lv_aload_n (pc := 929) E.1 E.2.1 dL_law_929 rfl (lv_at hl 0 rfl) ?_
  refine lv_iload_n (pc := 930) E.1 E.2.1 dL_law_930 rfl (lv_at hl 3 rfl) ?_
  refine lv_iconst (v := 1) (pc := 931) E.1 E.2.1 dL_law_931 (by decide) ?_
  refine lv_iadd (pc := 932) E.1 E.2.1 dL_law_932 ?_
  obtain ⟨v8, g7, hf⟩ := x_bind hf
  refine x_sld (pc := 933) E hX hbl hw g7 dL_law_933 ?_
  refine lv_aload_n (pc := 934) E.1 E.2.1 dL_law_934 rfl (lv_at hl 0 rfl) ?_
  refine lv_iload_n (pc := 935) E.1 E.2.1 dL_law_935 rfl (lv_at hl 3 rfl) ?_
  refine lv_iconst (v := 2) (pc := 936) E.1 E.2.1 dL_law_936 (by decide) ?_
  refine lv_iadd (pc := 937) E.1 E.2.1 dL_law_937 ?_
  obtain ⟨v10, g9, hf⟩ := x_bind hf
  refine x_sld (pc := 938) E hX hbl hw g9 dL_law_938 ?_
  obtain ⟨v11, g12, hf⟩ := x_bind hf
  refine x_callV (pc := 939) (As := [.int v8, .int v10]) (rest := [.int v5]) (st1 := [.int v11, .int v5]) (ws' := (cells7 G ad s ++ cells8 G ae q)) E hw hl (c_X8_claimOf l G ae q v8 v10 g12) xv_L_111 xd_X8_claimOf rfl rfl ⟨Nat.le_of_ble_eq_true rfl, Nat.le_of_ble_eq_true rfl⟩ [31, 32, 33, 34, 35, 36, 37, 38, 39, 40, 41, 42, 43, 44, 45, 46, 47, 48, 49, 50] [0, 1, 2, 3, 4, 5, 6, 7, 8, 9, 10, 11, 12, 13, 14, 15, 16, 17, 18, 19, 20, 21, 22, 23, 24, 25, 26, 27, 28, 29, 30] (by decide) ⟨rfl, rfl, rfl, rfl, rfl, rfl, rfl, rfl, rfl, rfl, rfl, rfl, rfl, rfl, rfl, rfl, rfl, rfl, rfl, rfl, trivial⟩ (q0 := 31) rfl rfl rfl rfl (Nat.le_of_ble_eq_true rfl) (nw := 51) ⟨rfl, rfl, rfl, rfl, rfl, rfl, rfl, rfl, rfl, rfl, rfl, rfl, rfl, rfl, rfl, rfl, rfl, rfl, rfl, rfl, trivial⟩ ⟨⟨_, rfl, rfl⟩, ⟨_, rfl, rfl⟩, ⟨_, rfl, rfl⟩, ⟨_, rfl, rfl⟩, ⟨_, rfl, rfl⟩, ⟨_, rfl, rfl⟩, ⟨_, rfl, rfl⟩, ⟨_, rfl, rfl⟩, ⟨_, rfl, rfl⟩, ⟨_, rfl, rfl⟩, ⟨_, rfl, rfl⟩, ⟨_, rfl, rfl⟩, ⟨_, rfl, rfl⟩, ⟨_, rfl, rfl⟩, ⟨_, rfl, rfl⟩, ⟨_, rfl, rfl⟩, ⟨_, rfl, rfl⟩, ⟨_, rfl, rfl⟩, ⟨_, rfl, rfl⟩, ⟨_, rfl, rfl⟩, ⟨_, rfl, rfl⟩, ⟨_, rfl, rfl⟩, ⟨_, rfl, rfl⟩, ⟨_, rfl, rfl⟩, ⟨_, rfl, rfl⟩, ⟨_, rfl, rfl⟩, ⟨_, rfl, rfl⟩, ⟨_, rfl, rfl⟩, ⟨_, rfl, rfl⟩, ⟨_, rfl, rfl⟩, ⟨_, rfl, rfl⟩, trivial⟩ rfl rfl (by decide) (by decide) rfl dL_law_939 (fun H locs hw => ?_) (hcs := ⟨Nat.le_refl _, Nat.le_refl _⟩)
  refine lv_icmp_eq (tgt := 1816) (pc := 942) E.1 E.2.1 dL_law_942 (by decide) (fun q13 => ?_) (fun q13 => ?_)
  · have hf := x_pos q13 hf
    exact w_law_p1816 E hX hbl hr hk hk18 s q x3 hw (lv_sub hl [0, 1, 2, 3] rfl) hf
  · have hf := x_neg q13 hf
    refine lv_iconst (v := 0) (pc := 945) E.1 E.2.1 dL_law_945 (by decide) ?_
    exact absurd (Option.some.inj hf) (by decide)
set_option maxHeartbeats 4000000 in
set_option maxRecDepth 100000 in
theorem w_law_p881 {p : Program} {l : Launch} {e : Env} {sS : State} {m : MethodId} {below : List Frame} {meth : Method} {c : Code} {G : xG} {ad ae : Nat → Nat} {b L : Nat} {xs : Nat → Int32} {k18 : S7 → S8 → Int32 → Option Int32} (E : xE p sS m #[Value.ref b] c cL_law 4 RL G (fun q => sS.heap.size ≤ q)) (hX : va_X b L xs sS sS.heap) (hbl : b < sS.heap.size) (hr : meth.sig.returnType = ret) (hk : meth.locks = false) (hk18 : ∀ (s' : S7) (q' : S8) (x3' : Int32) {H : Heap} {locs : List Loc} {ls : Array Slot}, xW G (fun q => sS.heap.size ≤ q) sS.heap (cells7 G ad s' ++ cells8 G ae q') H locs → lv_has ls 4 [(0, .ref b), (1, .ref (ad 0)), (2, .ref (ae 0)), (3, .int x3')] → k18  s' q' x3' = some 1 → W p l e room_1 sS m #[Value.ref b] below meth c H locs 51 5492 (lw_Z below #[Value.ref b] sS) (F0 m 18 ls [])) : ∀ (s' : S7) (q' : S8) (x3' : Int32) {H : Heap} {locs : List Loc} {ls : Array Slot}, xW G (fun q => sS.heap.size ≤ q) sS.heap (cells7 G ad s' ++ cells8 G ae q') H locs → lv_has ls 4 [(0, .ref b), (1, .ref (ad 0)), (2, .ref (ae 0)), (3, .int x3')] → f_law_p881 k18 L xs s' q' x3' = some 1 → W p l e room_1 sS m #[Value.ref b] below meth c H locs 51 5492 (lw_Z below #[Value.ref b] sS) (F0 m 881 ls []) := by
  intro s q x3 H locs ls hw hl hf
  unfold f_law_p881 at hf
  refine lv_aload_n (pc := 881) E.1 E.2.1 dL_law_881 rfl (lv_at hl 1 rfl) ?_
  refine lv_aload_n (pc := 882) E.1 E.2.1 dL_law_882 rfl (lv_at hl 0 rfl) ?_
  refine lv_iload_n (pc := 883) E.1 E.2.1 dL_law_883 rfl (lv_at hl 3 rfl) ?_
  refine lv_iconst (v := 1) (pc := 884) E.1 E.2.1 dL_law_884 (by decide) ?_
  refine lv_iadd (pc := 885) E.1 E.2.1 dL_law_885 ?_
  obtain ⟨v2, g1, hf⟩ := x_bind hf
  refine x_sld (pc := 886) E hX hbl hw g1 dL_law_886 ?_
  refine lv_aload_n (pc := 887) E.1 E.2.1 dL_law_887 rfl (lv_at hl 0 rfl) ?_
  refine lv_iload_n (pc := 888) E.1 E.2.1 dL_law_888 rfl (lv_at hl 3 rfl) ?_
  refine lv_iconst (v := 2) (pc := 889) E.1 E.2.1 dL_law_889 (by decide) ?_
  refine lv_iadd (pc := 890) E.1 E.2.1 dL_law_890 ?_
  obtain ⟨v4, g3, hf⟩ := x_bind hf
  refine x_sld (pc := 891) E hX hbl hw g3 dL_law_891 ?_
  obtain ⟨v5, g6, hf⟩ := x_bind hf
  refine x_callV (pc := 892) (As := [.int v2, .int v4]) (rest := []) (st1 := [.int v5.1]) (ws' := (cells7 G ad v5.2 ++ cells8 G ae q)) E hw hl (c_X7_loss l G ad s v2 v4 g6) xv_L_104 xd_X7_loss rfl rfl ⟨Nat.le_of_ble_eq_true rfl, Nat.le_of_ble_eq_true rfl⟩ [0, 1, 2, 3, 4, 5, 6, 7, 8, 9, 10, 11, 12, 13, 14, 15, 16, 17, 18, 19, 20, 21, 22, 23, 24, 25, 26, 27, 28, 29, 30] [31, 32, 33, 34, 35, 36, 37, 38, 39, 40, 41, 42, 43, 44, 45, 46, 47, 48, 49, 50] (by decide) ⟨rfl, rfl, rfl, rfl, rfl, rfl, rfl, rfl, rfl, rfl, rfl, rfl, rfl, rfl, rfl, rfl, rfl, rfl, rfl, rfl, rfl, rfl, rfl, rfl, rfl, rfl, rfl, rfl, rfl, rfl, rfl, trivial⟩ (q0 := 0) rfl rfl rfl rfl (Nat.le_of_ble_eq_true rfl) (nw := 51) ⟨rfl, rfl, rfl, rfl, rfl, rfl, rfl, rfl, rfl, rfl, rfl, rfl, rfl, rfl, rfl, rfl, rfl, rfl, rfl, rfl, rfl, rfl, rfl, rfl, rfl, rfl, rfl, rfl, rfl, rfl, rfl, trivial⟩ ⟨⟨_, rfl, rfl⟩, ⟨_, rfl, rfl⟩, ⟨_, rfl, rfl⟩, ⟨_, rfl, rfl⟩, ⟨_, rfl, rfl⟩, ⟨_, rfl, rfl⟩, ⟨_, rfl, rfl⟩, ⟨_, rfl, rfl⟩, ⟨_, rfl, rfl⟩, ⟨_, rfl, rfl⟩, ⟨_, rfl, rfl⟩, ⟨_, rfl, rfl⟩, ⟨_, rfl, rfl⟩, ⟨_, rfl, rfl⟩, ⟨_, rfl, rfl⟩, ⟨_, rfl, rfl⟩, ⟨_, rfl, rfl⟩, ⟨_, rfl, rfl⟩, ⟨_, rfl, rfl⟩, ⟨_, rfl, rfl⟩, trivial⟩ rfl rfl (by decide) (by decide) rfl dL_law_892 (fun H locs hw => ?_) (hcs := ⟨Nat.le_refl _, Nat.le_refl _⟩)
  refine lv_aload_n (pc := 895) E.1 E.2.1 dL_law_895 rfl (lv_at hl 2 rfl) ?_
  refine lv_aload_n (pc := 896) E.1 E.2.1 dL_law_896 rfl (lv_at hl 0 rfl) ?_
  refine lv_iload_n (pc := 897) E.1 E.2.1 dL_law_897 rfl (lv_at hl 3 rfl) ?_
  refine lv_iconst (v := 1) (pc := 898) E.1 E.2.1 dL_law_898 (by decide) ?_
  refine lv_iadd (pc := 899) E.1 E.2.1 dL_law_899 ?_
  obtain ⟨v8, g7, hf⟩ := x_bind hf
  refine x_sld (pc := 900) E hX hbl hw g7 dL_law_900 ?_
  refine lv_aload_n (pc := 901) E.1 E.2.1 dL_law_901 rfl (lv_at hl 0 rfl) ?_
  refine lv_iload_n (pc := 902) E.1 E.2.1 dL_law_902 rfl (lv_at hl 3 rfl) ?_
  refine lv_iconst (v := 2) (pc := 903) E.1 E.2.1 dL_law_903 (by decide) ?_
  refine lv_iadd (pc := 904) E.1 E.2.1 dL_law_904 ?_
  obtain ⟨v10, g9, hf⟩ := x_bind hf
  refine x_sld (pc := 905) E hX hbl hw g9 dL_law_905 ?_
  obtain ⟨v11, g12, hf⟩ := x_bind hf
  refine x_callV (pc := 906) (As := [.int v8, .int v10]) (rest := [.int v5.1]) (st1 := [.int v11, .int v5.1]) (ws' := (cells7 G ad v5.2 ++ cells8 G ae q)) E hw hl (c_X8_loss l G ae q v8 v10 g12) xv_L_107 xd_X8_loss rfl rfl ⟨Nat.le_of_ble_eq_true rfl, Nat.le_of_ble_eq_true rfl⟩ [31, 32, 33, 34, 35, 36, 37, 38, 39, 40, 41, 42, 43, 44, 45, 46, 47, 48, 49, 50] [0, 1, 2, 3, 4, 5, 6, 7, 8, 9, 10, 11, 12, 13, 14, 15, 16, 17, 18, 19, 20, 21, 22, 23, 24, 25, 26, 27, 28, 29, 30] (by decide) ⟨rfl, rfl, rfl, rfl, rfl, rfl, rfl, rfl, rfl, rfl, rfl, rfl, rfl, rfl, rfl, rfl, rfl, rfl, rfl, rfl, trivial⟩ (q0 := 31) rfl rfl rfl rfl (Nat.le_of_ble_eq_true rfl) (nw := 51) ⟨rfl, rfl, rfl, rfl, rfl, rfl, rfl, rfl, rfl, rfl, rfl, rfl, rfl, rfl, rfl, rfl, rfl, rfl, rfl, rfl, trivial⟩ ⟨⟨_, rfl, rfl⟩, ⟨_, rfl, rfl⟩, ⟨_, rfl, rfl⟩, ⟨_, rfl, rfl⟩, ⟨_, rfl, rfl⟩, ⟨_, rfl, rfl⟩, ⟨_, rfl, rfl⟩, ⟨_, rfl, rfl⟩, ⟨_, rfl, rfl⟩, ⟨_, rfl, rfl⟩, ⟨_, rfl, rfl⟩, ⟨_, rfl, rfl⟩, ⟨_, rfl, rfl⟩, ⟨_, rfl, rfl⟩, ⟨_, rfl, rfl⟩, ⟨_, rfl, rfl⟩, ⟨_, rfl, rfl⟩, ⟨_, rfl, rfl⟩, ⟨_, rfl, rfl⟩, ⟨_, rfl, rfl⟩, ⟨_, rfl, rfl⟩, ⟨_, rfl, rfl⟩, ⟨_, rfl, rfl⟩, ⟨_, rfl, rfl⟩, ⟨_, rfl, rfl⟩, ⟨_, rfl, rfl⟩, ⟨_, rfl, rfl⟩, ⟨_, rfl, rfl⟩, ⟨_, rfl, rfl⟩, ⟨_, rfl, rfl⟩, ⟨_, rfl, rfl⟩, trivial⟩ rfl rfl (by decide) (by decide) rfl dL_law_906 (fun H locs hw => ?_) (hcs := ⟨Nat.le_refl _, Nat.le_refl _⟩)
  refine lv_icmp_eq (tgt := 1816) (pc := 909) E.1 E.2.1 dL_law_909 (by decide) (fun q13 => ?_) (fun q13 => ?_)
  · have hf := x_pos q13 hf
    exact w_law_p1816 E hX hbl hr hk hk18 v5.2 q x3 hw (lv_sub hl [0, 1, 2, 3] rfl) hf
  · have hf := x_neg q13 hf
    refine lv_iconst (v := 0) (pc := 912) E.1 E.2.1 dL_law_912 (by decide) ?_
    exact absurd (Option.some.inj hf) (by decide)
set_option maxHeartbeats 4000000 in
set_option maxRecDepth 100000 in
theorem w_law_p848 {p : Program} {l : Launch} {e : Env} {sS : State} {m : MethodId} {below : List Frame} {meth : Method} {c : Code} {G : xG} {ad ae : Nat → Nat} {b L : Nat} {xs : Nat → Int32} {k18 : S7 → S8 → Int32 → Option Int32} (E : xE p sS m #[Value.ref b] c cL_law 4 RL G (fun q => sS.heap.size ≤ q)) (hX : va_X b L xs sS sS.heap) (hbl : b < sS.heap.size) (hr : meth.sig.returnType = ret) (hk : meth.locks = false) (hk18 : ∀ (s' : S7) (q' : S8) (x3' : Int32) {H : Heap} {locs : List Loc} {ls : Array Slot}, xW G (fun q => sS.heap.size ≤ q) sS.heap (cells7 G ad s' ++ cells8 G ae q') H locs → lv_has ls 4 [(0, .ref b), (1, .ref (ad 0)), (2, .ref (ae 0)), (3, .int x3')] → k18  s' q' x3' = some 1 → W p l e room_1 sS m #[Value.ref b] below meth c H locs 51 5492 (lw_Z below #[Value.ref b] sS) (F0 m 18 ls [])) : ∀ (s' : S7) (q' : S8) (x3' : Int32) {H : Heap} {locs : List Loc} {ls : Array Slot}, xW G (fun q => sS.heap.size ≤ q) sS.heap (cells7 G ad s' ++ cells8 G ae q') H locs → lv_has ls 4 [(0, .ref b), (1, .ref (ad 0)), (2, .ref (ae 0)), (3, .int x3')] → f_law_p848 k18 L xs s' q' x3' = some 1 → W p l e room_1 sS m #[Value.ref b] below meth c H locs 51 5492 (lw_Z below #[Value.ref b] sS) (F0 m 848 ls []) := by
  intro s q x3 H locs ls hw hl hf
  unfold f_law_p848 at hf
  refine lv_aload_n (pc := 848) E.1 E.2.1 dL_law_848 rfl (lv_at hl 1 rfl) ?_
  refine lv_aload_n (pc := 849) E.1 E.2.1 dL_law_849 rfl (lv_at hl 0 rfl) ?_
  refine lv_iload_n (pc := 850) E.1 E.2.1 dL_law_850 rfl (lv_at hl 3 rfl) ?_
  refine lv_iconst (v := 1) (pc := 851) E.1 E.2.1 dL_law_851 (by decide) ?_
  refine lv_iadd (pc := 852) E.1 E.2.1 dL_law_852 ?_
  obtain ⟨v2, g1, hf⟩ := x_bind hf
  refine x_sld (pc := 853) E hX hbl hw g1 dL_law_853 ?_
  refine lv_aload_n (pc := 854) E.1 E.2.1 dL_law_854 rfl (lv_at hl 0 rfl) ?_
  refine lv_iload_n (pc := 855) E.1 E.2.1 dL_law_855 rfl (lv_at hl 3 rfl) ?_
  refine lv_iconst (v := 2) (pc := 856) E.1 E.2.1 dL_law_856 (by decide) ?_
  refine lv_iadd (pc := 857) E.1 E.2.1 dL_law_857 ?_
  obtain ⟨v4, g3, hf⟩ := x_bind hf
  refine x_sld (pc := 858) E hX hbl hw g3 dL_law_858 ?_
  obtain ⟨v5, g6, hf⟩ := x_bind hf
  refine x_callV (pc := 859) (As := [.int v2, .int v4]) (rest := []) (st1 := [.int v5.1]) (ws' := (cells7 G ad v5.2 ++ cells8 G ae q)) E hw hl (c_X7_of l G ad s v2 v4 g6) xv_L_100 xd_X7_of rfl rfl ⟨Nat.le_of_ble_eq_true rfl, Nat.le_of_ble_eq_true rfl⟩ [0, 1, 2, 3, 4, 5, 6, 7, 8, 9, 10, 11, 12, 13, 14, 15, 16, 17, 18, 19, 20, 21, 22, 23, 24, 25, 26, 27, 28, 29, 30] [31, 32, 33, 34, 35, 36, 37, 38, 39, 40, 41, 42, 43, 44, 45, 46, 47, 48, 49, 50] (by decide) ⟨rfl, rfl, rfl, rfl, rfl, rfl, rfl, rfl, rfl, rfl, rfl, rfl, rfl, rfl, rfl, rfl, rfl, rfl, rfl, rfl, rfl, rfl, rfl, rfl, rfl, rfl, rfl, rfl, rfl, rfl, rfl, trivial⟩ (q0 := 0) rfl rfl rfl rfl (Nat.le_of_ble_eq_true rfl) (nw := 51) ⟨rfl, rfl, rfl, rfl, rfl, rfl, rfl, rfl, rfl, rfl, rfl, rfl, rfl, rfl, rfl, rfl, rfl, rfl, rfl, rfl, rfl, rfl, rfl, rfl, rfl, rfl, rfl, rfl, rfl, rfl, rfl, trivial⟩ ⟨⟨_, rfl, rfl⟩, ⟨_, rfl, rfl⟩, ⟨_, rfl, rfl⟩, ⟨_, rfl, rfl⟩, ⟨_, rfl, rfl⟩, ⟨_, rfl, rfl⟩, ⟨_, rfl, rfl⟩, ⟨_, rfl, rfl⟩, ⟨_, rfl, rfl⟩, ⟨_, rfl, rfl⟩, ⟨_, rfl, rfl⟩, ⟨_, rfl, rfl⟩, ⟨_, rfl, rfl⟩, ⟨_, rfl, rfl⟩, ⟨_, rfl, rfl⟩, ⟨_, rfl, rfl⟩, ⟨_, rfl, rfl⟩, ⟨_, rfl, rfl⟩, ⟨_, rfl, rfl⟩, ⟨_, rfl, rfl⟩, trivial⟩ rfl rfl (by decide) (by decide) rfl dL_law_859 (fun H locs hw => ?_) (hcs := ⟨Nat.le_refl _, Nat.le_refl _⟩)
  refine lv_aload_n (pc := 862) E.1 E.2.1 dL_law_862 rfl (lv_at hl 2 rfl) ?_
  refine lv_aload_n (pc := 863) E.1 E.2.1 dL_law_863 rfl (lv_at hl 0 rfl) ?_
  refine lv_iload_n (pc := 864) E.1 E.2.1 dL_law_864 rfl (lv_at hl 3 rfl) ?_
  refine lv_iconst (v := 1) (pc := 865) E.1 E.2.1 dL_law_865 (by decide) ?_
  refine lv_iadd (pc := 866) E.1 E.2.1 dL_law_866 ?_
  obtain ⟨v8, g7, hf⟩ := x_bind hf
  refine x_sld (pc := 867) E hX hbl hw g7 dL_law_867 ?_
  refine lv_aload_n (pc := 868) E.1 E.2.1 dL_law_868 rfl (lv_at hl 0 rfl) ?_
  refine lv_iload_n (pc := 869) E.1 E.2.1 dL_law_869 rfl (lv_at hl 3 rfl) ?_
  refine lv_iconst (v := 2) (pc := 870) E.1 E.2.1 dL_law_870 (by decide) ?_
  refine lv_iadd (pc := 871) E.1 E.2.1 dL_law_871 ?_
  obtain ⟨v10, g9, hf⟩ := x_bind hf
  refine x_sld (pc := 872) E hX hbl hw g9 dL_law_872 ?_
  obtain ⟨v11, g12, hf⟩ := x_bind hf
  refine x_callV (pc := 873) (As := [.int v8, .int v10]) (rest := [.int v5.1]) (st1 := [.int v11.1, .int v5.1]) (ws' := (cells7 G ad v5.2 ++ cells8 G ae v11.2)) E hw hl (c_X8_of l G ae q v8 v10 g12) xv_L_103 xd_X8_of rfl rfl ⟨Nat.le_of_ble_eq_true rfl, Nat.le_of_ble_eq_true rfl⟩ [31, 32, 33, 34, 35, 36, 37, 38, 39, 40, 41, 42, 43, 44, 45, 46, 47, 48, 49, 50] [0, 1, 2, 3, 4, 5, 6, 7, 8, 9, 10, 11, 12, 13, 14, 15, 16, 17, 18, 19, 20, 21, 22, 23, 24, 25, 26, 27, 28, 29, 30] (by decide) ⟨rfl, rfl, rfl, rfl, rfl, rfl, rfl, rfl, rfl, rfl, rfl, rfl, rfl, rfl, rfl, rfl, rfl, rfl, rfl, rfl, trivial⟩ (q0 := 31) rfl rfl rfl rfl (Nat.le_of_ble_eq_true rfl) (nw := 51) ⟨rfl, rfl, rfl, rfl, rfl, rfl, rfl, rfl, rfl, rfl, rfl, rfl, rfl, rfl, rfl, rfl, rfl, rfl, rfl, rfl, trivial⟩ ⟨⟨_, rfl, rfl⟩, ⟨_, rfl, rfl⟩, ⟨_, rfl, rfl⟩, ⟨_, rfl, rfl⟩, ⟨_, rfl, rfl⟩, ⟨_, rfl, rfl⟩, ⟨_, rfl, rfl⟩, ⟨_, rfl, rfl⟩, ⟨_, rfl, rfl⟩, ⟨_, rfl, rfl⟩, ⟨_, rfl, rfl⟩, ⟨_, rfl, rfl⟩, ⟨_, rfl, rfl⟩, ⟨_, rfl, rfl⟩, ⟨_, rfl, rfl⟩, ⟨_, rfl, rfl⟩, ⟨_, rfl, rfl⟩, ⟨_, rfl, rfl⟩, ⟨_, rfl, rfl⟩, ⟨_, rfl, rfl⟩, ⟨_, rfl, rfl⟩, ⟨_, rfl, rfl⟩, ⟨_, rfl, rfl⟩, ⟨_, rfl, rfl⟩, ⟨_, rfl, rfl⟩, ⟨_, rfl, rfl⟩, ⟨_, rfl, rfl⟩, ⟨_, rfl, rfl⟩, ⟨_, rfl, rfl⟩, ⟨_, rfl, rfl⟩, ⟨_, rfl, rfl⟩, trivial⟩ rfl rfl (by decide) (by decide) rfl dL_law_873 (fun H locs hw => ?_) (hcs := ⟨Nat.le_refl _, Nat.le_refl _⟩)
  refine lv_icmp_eq (tgt := 1816) (pc := 876) E.1 E.2.1 dL_law_876 (by decide) (fun q13 => ?_) (fun q13 => ?_)
  · have hf := x_pos q13 hf
    exact w_law_p1816 E hX hbl hr hk hk18 v5.2 v11.2 x3 hw (lv_sub hl [0, 1, 2, 3] rfl) hf
  · have hf := x_neg q13 hf
    refine lv_iconst (v := 0) (pc := 879) E.1 E.2.1 dL_law_879 (by decide) ?_
    exact absurd (Option.some.inj hf) (by decide)
set_option maxHeartbeats 4000000 in
set_option maxRecDepth 100000 in
theorem w_law_p835 {p : Program} {l : Launch} {e : Env} {sS : State} {m : MethodId} {below : List Frame} {meth : Method} {c : Code} {G : xG} {ad ae : Nat → Nat} {b L : Nat} {xs : Nat → Int32} {k18 : S7 → S8 → Int32 → Option Int32} (E : xE p sS m #[Value.ref b] c cL_law 4 RL G (fun q => sS.heap.size ≤ q)) (hX : va_X b L xs sS sS.heap) (hbl : b < sS.heap.size) (hr : meth.sig.returnType = ret) (hk : meth.locks = false) (hk18 : ∀ (s' : S7) (q' : S8) (x3' : Int32) {H : Heap} {locs : List Loc} {ls : Array Slot}, xW G (fun q => sS.heap.size ≤ q) sS.heap (cells7 G ad s' ++ cells8 G ae q') H locs → lv_has ls 4 [(0, .ref b), (1, .ref (ad 0)), (2, .ref (ae 0)), (3, .int x3')] → k18  s' q' x3' = some 1 → W p l e room_1 sS m #[Value.ref b] below meth c H locs 51 5492 (lw_Z below #[Value.ref b] sS) (F0 m 18 ls [])) : ∀ (s' : S7) (q' : S8) (x3' : Int32) {H : Heap} {locs : List Loc} {ls : Array Slot}, xW G (fun q => sS.heap.size ≤ q) sS.heap (cells7 G ad s' ++ cells8 G ae q') H locs → lv_has ls 4 [(0, .ref b), (1, .ref (ad 0)), (2, .ref (ae 0)), (3, .int x3')] → f_law_p835 k18 L xs s' q' x3' = some 1 → W p l e room_1 sS m #[Value.ref b] below meth c H locs 51 5492 (lw_Z below #[Value.ref b] sS) (F0 m 835 ls []) := by
  intro s q x3 H locs ls hw hl hf
  unfold f_law_p835 at hf
  refine lv_aload_n (pc := 835) E.1 E.2.1 dL_law_835 rfl (lv_at hl 1 rfl) ?_
  obtain ⟨v1, g2, hf⟩ := x_bind hf
  refine x_callV (pc := 836) (As := []) (rest := []) (st1 := [.int v1.1]) (ws' := (cells7 G ad v1.2 ++ cells8 G ae q)) E hw hl (c_X7_undo l G ad s g2) xv_L_96 xd_X7_undo rfl rfl ⟨Nat.le_of_ble_eq_true rfl, Nat.le_of_ble_eq_true rfl⟩ [0, 1, 2, 3, 4, 5, 6, 7, 8, 9, 10, 11, 12, 13, 14, 15, 16, 17, 18, 19, 20, 21, 22, 23, 24, 25, 26, 27, 28, 29, 30] [31, 32, 33, 34, 35, 36, 37, 38, 39, 40, 41, 42, 43, 44, 45, 46, 47, 48, 49, 50] (by decide) ⟨rfl, rfl, rfl, rfl, rfl, rfl, rfl, rfl, rfl, rfl, rfl, rfl, rfl, rfl, rfl, rfl, rfl, rfl, rfl, rfl, rfl, rfl, rfl, rfl, rfl, rfl, rfl, rfl, rfl, rfl, rfl, trivial⟩ (q0 := 0) rfl rfl rfl rfl (Nat.le_of_ble_eq_true rfl) (nw := 51) ⟨rfl, rfl, rfl, rfl, rfl, rfl, rfl, rfl, rfl, rfl, rfl, rfl, rfl, rfl, rfl, rfl, rfl, rfl, rfl, rfl, rfl, rfl, rfl, rfl, rfl, rfl, rfl, rfl, rfl, rfl, rfl, trivial⟩ ⟨⟨_, rfl, rfl⟩, ⟨_, rfl, rfl⟩, ⟨_, rfl, rfl⟩, ⟨_, rfl, rfl⟩, ⟨_, rfl, rfl⟩, ⟨_, rfl, rfl⟩, ⟨_, rfl, rfl⟩, ⟨_, rfl, rfl⟩, ⟨_, rfl, rfl⟩, ⟨_, rfl, rfl⟩, ⟨_, rfl, rfl⟩, ⟨_, rfl, rfl⟩, ⟨_, rfl, rfl⟩, ⟨_, rfl, rfl⟩, ⟨_, rfl, rfl⟩, ⟨_, rfl, rfl⟩, ⟨_, rfl, rfl⟩, ⟨_, rfl, rfl⟩, ⟨_, rfl, rfl⟩, ⟨_, rfl, rfl⟩, trivial⟩ rfl rfl (by decide) (by decide) rfl dL_law_836 (fun H locs hw => ?_) (hcs := ⟨Nat.le_refl _, Nat.le_refl _⟩)
  refine lv_aload_n (pc := 839) E.1 E.2.1 dL_law_839 rfl (lv_at hl 2 rfl) ?_
  obtain ⟨v3, g4, hf⟩ := x_bind hf
  refine x_callV (pc := 840) (As := []) (rest := [.int v1.1]) (st1 := [.int v3.1, .int v1.1]) (ws' := (cells7 G ad v1.2 ++ cells8 G ae v3.2)) E hw hl (c_X8_undo l G ae q g4) xv_L_99 xd_X8_undo rfl rfl ⟨Nat.le_of_ble_eq_true rfl, Nat.le_of_ble_eq_true rfl⟩ [31, 32, 33, 34, 35, 36, 37, 38, 39, 40, 41, 42, 43, 44, 45, 46, 47, 48, 49, 50] [0, 1, 2, 3, 4, 5, 6, 7, 8, 9, 10, 11, 12, 13, 14, 15, 16, 17, 18, 19, 20, 21, 22, 23, 24, 25, 26, 27, 28, 29, 30] (by decide) ⟨rfl, rfl, rfl, rfl, rfl, rfl, rfl, rfl, rfl, rfl, rfl, rfl, rfl, rfl, rfl, rfl, rfl, rfl, rfl, rfl, trivial⟩ (q0 := 31) rfl rfl rfl rfl (Nat.le_of_ble_eq_true rfl) (nw := 51) ⟨rfl, rfl, rfl, rfl, rfl, rfl, rfl, rfl, rfl, rfl, rfl, rfl, rfl, rfl, rfl, rfl, rfl, rfl, rfl, rfl, trivial⟩ ⟨⟨_, rfl, rfl⟩, ⟨_, rfl, rfl⟩, ⟨_, rfl, rfl⟩, ⟨_, rfl, rfl⟩, ⟨_, rfl, rfl⟩, ⟨_, rfl, rfl⟩, ⟨_, rfl, rfl⟩, ⟨_, rfl, rfl⟩, ⟨_, rfl, rfl⟩, ⟨_, rfl, rfl⟩, ⟨_, rfl, rfl⟩, ⟨_, rfl, rfl⟩, ⟨_, rfl, rfl⟩, ⟨_, rfl, rfl⟩, ⟨_, rfl, rfl⟩, ⟨_, rfl, rfl⟩, ⟨_, rfl, rfl⟩, ⟨_, rfl, rfl⟩, ⟨_, rfl, rfl⟩, ⟨_, rfl, rfl⟩, ⟨_, rfl, rfl⟩, ⟨_, rfl, rfl⟩, ⟨_, rfl, rfl⟩, ⟨_, rfl, rfl⟩, ⟨_, rfl, rfl⟩, ⟨_, rfl, rfl⟩, ⟨_, rfl, rfl⟩, ⟨_, rfl, rfl⟩, ⟨_, rfl, rfl⟩, ⟨_, rfl, rfl⟩, ⟨_, rfl, rfl⟩, trivial⟩ rfl rfl (by decide) (by decide) rfl dL_law_840 (fun H locs hw => ?_) (hcs := ⟨Nat.le_refl _, Nat.le_refl _⟩)
  refine lv_icmp_eq (tgt := 1816) (pc := 843) E.1 E.2.1 dL_law_843 (by decide) (fun q5 => ?_) (fun q5 => ?_)
  · have hf := x_pos q5 hf
    exact w_law_p1816 E hX hbl hr hk hk18 v1.2 v3.2 x3 hw (lv_sub hl [0, 1, 2, 3] rfl) hf
  · have hf := x_neg q5 hf
    refine lv_iconst (v := 0) (pc := 846) E.1 E.2.1 dL_law_846 (by decide) ?_
    exact absurd (Option.some.inj hf) (by decide)
set_option maxHeartbeats 4000000 in
set_option maxRecDepth 100000 in
theorem w_law_p812 {p : Program} {l : Launch} {e : Env} {sS : State} {m : MethodId} {below : List Frame} {meth : Method} {c : Code} {G : xG} {ad ae : Nat → Nat} {b L : Nat} {xs : Nat → Int32} {k18 : S7 → S8 → Int32 → Option Int32} (E : xE p sS m #[Value.ref b] c cL_law 4 RL G (fun q => sS.heap.size ≤ q)) (hX : va_X b L xs sS sS.heap) (hbl : b < sS.heap.size) (hr : meth.sig.returnType = ret) (hk : meth.locks = false) (hk18 : ∀ (s' : S7) (q' : S8) (x3' : Int32) {H : Heap} {locs : List Loc} {ls : Array Slot}, xW G (fun q => sS.heap.size ≤ q) sS.heap (cells7 G ad s' ++ cells8 G ae q') H locs → lv_has ls 4 [(0, .ref b), (1, .ref (ad 0)), (2, .ref (ae 0)), (3, .int x3')] → k18  s' q' x3' = some 1 → W p l e room_1 sS m #[Value.ref b] below meth c H locs 51 5492 (lw_Z below #[Value.ref b] sS) (F0 m 18 ls [])) : ∀ (s' : S7) (q' : S8) (x3' : Int32) {H : Heap} {locs : List Loc} {ls : Array Slot}, xW G (fun q => sS.heap.size ≤ q) sS.heap (cells7 G ad s' ++ cells8 G ae q') H locs → lv_has ls 4 [(0, .ref b), (1, .ref (ad 0)), (2, .ref (ae 0)), (3, .int x3')] → f_law_p812 k18 L xs s' q' x3' = some 1 → W p l e room_1 sS m #[Value.ref b] below meth c H locs 51 5492 (lw_Z below #[Value.ref b] sS) (F0 m 812 ls []) := by
  intro s q x3 H locs ls hw hl hf
  unfold f_law_p812 at hf
  refine lv_aload_n (pc := 812) E.1 E.2.1 dL_law_812 rfl (lv_at hl 1 rfl) ?_
  refine lv_aload_n (pc := 813) E.1 E.2.1 dL_law_813 rfl (lv_at hl 0 rfl) ?_
  refine lv_iload_n (pc := 814) E.1 E.2.1 dL_law_814 rfl (lv_at hl 3 rfl) ?_
  refine lv_iconst (v := 1) (pc := 815) E.1 E.2.1 dL_law_815 (by decide) ?_
  refine lv_iadd (pc := 816) E.1 E.2.1 dL_law_816 ?_
  obtain ⟨v2, g1, hf⟩ := x_bind hf
  refine x_sld (pc := 817) E hX hbl hw g1 dL_law_817 ?_
  obtain ⟨v3, g4, hf⟩ := x_bind hf
  refine x_callV (pc := 818) (As := [.int v2]) (rest := []) (st1 := [.int v3.1]) (ws' := (cells7 G ad v3.2 ++ cells8 G ae q)) E hw hl (c_X7_steady l G ad s v2 g4) xv_L_92 xd_X7_steady rfl rfl ⟨Nat.le_of_ble_eq_true rfl, Nat.le_of_ble_eq_true rfl⟩ [0, 1, 2, 3, 4, 5, 6, 7, 8, 9, 10, 11, 12, 13, 14, 15, 16, 17, 18, 19, 20, 21, 22, 23, 24, 25, 26, 27, 28, 29, 30] [31, 32, 33, 34, 35, 36, 37, 38, 39, 40, 41, 42, 43, 44, 45, 46, 47, 48, 49, 50] (by decide) ⟨rfl, rfl, rfl, rfl, rfl, rfl, rfl, rfl, rfl, rfl, rfl, rfl, rfl, rfl, rfl, rfl, rfl, rfl, rfl, rfl, rfl, rfl, rfl, rfl, rfl, rfl, rfl, rfl, rfl, rfl, rfl, trivial⟩ (q0 := 0) rfl rfl rfl rfl (Nat.le_of_ble_eq_true rfl) (nw := 51) ⟨rfl, rfl, rfl, rfl, rfl, rfl, rfl, rfl, rfl, rfl, rfl, rfl, rfl, rfl, rfl, rfl, rfl, rfl, rfl, rfl, rfl, rfl, rfl, rfl, rfl, rfl, rfl, rfl, rfl, rfl, rfl, trivial⟩ ⟨⟨_, rfl, rfl⟩, ⟨_, rfl, rfl⟩, ⟨_, rfl, rfl⟩, ⟨_, rfl, rfl⟩, ⟨_, rfl, rfl⟩, ⟨_, rfl, rfl⟩, ⟨_, rfl, rfl⟩, ⟨_, rfl, rfl⟩, ⟨_, rfl, rfl⟩, ⟨_, rfl, rfl⟩, ⟨_, rfl, rfl⟩, ⟨_, rfl, rfl⟩, ⟨_, rfl, rfl⟩, ⟨_, rfl, rfl⟩, ⟨_, rfl, rfl⟩, ⟨_, rfl, rfl⟩, ⟨_, rfl, rfl⟩, ⟨_, rfl, rfl⟩, ⟨_, rfl, rfl⟩, ⟨_, rfl, rfl⟩, trivial⟩ rfl rfl (by decide) (by decide) rfl dL_law_818 (fun H locs hw => ?_) (hcs := ⟨Nat.le_refl _, Nat.le_refl _⟩)
  refine lv_aload_n (pc := 821) E.1 E.2.1 dL_law_821 rfl (lv_at hl 2 rfl) ?_
  refine lv_aload_n (pc := 822) E.1 E.2.1 dL_law_822 rfl (lv_at hl 0 rfl) ?_
  refine lv_iload_n (pc := 823) E.1 E.2.1 dL_law_823 rfl (lv_at hl 3 rfl) ?_
  refine lv_iconst (v := 1) (pc := 824) E.1 E.2.1 dL_law_824 (by decide) ?_
  refine lv_iadd (pc := 825) E.1 E.2.1 dL_law_825 ?_
  obtain ⟨v6, g5, hf⟩ := x_bind hf
  refine x_sld (pc := 826) E hX hbl hw g5 dL_law_826 ?_
  obtain ⟨v7, g8, hf⟩ := x_bind hf
  refine x_callV (pc := 827) (As := [.int v6]) (rest := [.int v3.1]) (st1 := [.int v7.1, .int v3.1]) (ws' := (cells7 G ad v3.2 ++ cells8 G ae v7.2)) E hw hl (c_X8_steady l G ae q v6 g8) xv_L_95 xd_X8_steady rfl rfl ⟨Nat.le_of_ble_eq_true rfl, Nat.le_of_ble_eq_true rfl⟩ [31, 32, 33, 34, 35, 36, 37, 38, 39, 40, 41, 42, 43, 44, 45, 46, 47, 48, 49, 50] [0, 1, 2, 3, 4, 5, 6, 7, 8, 9, 10, 11, 12, 13, 14, 15, 16, 17, 18, 19, 20, 21, 22, 23, 24, 25, 26, 27, 28, 29, 30] (by decide) ⟨rfl, rfl, rfl, rfl, rfl, rfl, rfl, rfl, rfl, rfl, rfl, rfl, rfl, rfl, rfl, rfl, rfl, rfl, rfl, rfl, trivial⟩ (q0 := 31) rfl rfl rfl rfl (Nat.le_of_ble_eq_true rfl) (nw := 51) ⟨rfl, rfl, rfl, rfl, rfl, rfl, rfl, rfl, rfl, rfl, rfl, rfl, rfl, rfl, rfl, rfl, rfl, rfl, rfl, rfl, trivial⟩ ⟨⟨_, rfl, rfl⟩, ⟨_, rfl, rfl⟩, ⟨_, rfl, rfl⟩, ⟨_, rfl, rfl⟩, ⟨_, rfl, rfl⟩, ⟨_, rfl, rfl⟩, ⟨_, rfl, rfl⟩, ⟨_, rfl, rfl⟩, ⟨_, rfl, rfl⟩, ⟨_, rfl, rfl⟩, ⟨_, rfl, rfl⟩, ⟨_, rfl, rfl⟩, ⟨_, rfl, rfl⟩, ⟨_, rfl, rfl⟩, ⟨_, rfl, rfl⟩, ⟨_, rfl, rfl⟩, ⟨_, rfl, rfl⟩, ⟨_, rfl, rfl⟩, ⟨_, rfl, rfl⟩, ⟨_, rfl, rfl⟩, ⟨_, rfl, rfl⟩, ⟨_, rfl, rfl⟩, ⟨_, rfl, rfl⟩, ⟨_, rfl, rfl⟩, ⟨_, rfl, rfl⟩, ⟨_, rfl, rfl⟩, ⟨_, rfl, rfl⟩, ⟨_, rfl, rfl⟩, ⟨_, rfl, rfl⟩, ⟨_, rfl, rfl⟩, ⟨_, rfl, rfl⟩, trivial⟩ rfl rfl (by decide) (by decide) rfl dL_law_827 (fun H locs hw => ?_) (hcs := ⟨Nat.le_refl _, Nat.le_refl _⟩)
  refine lv_icmp_eq (tgt := 1816) (pc := 830) E.1 E.2.1 dL_law_830 (by decide) (fun q9 => ?_) (fun q9 => ?_)
  · have hf := x_pos q9 hf
    exact w_law_p1816 E hX hbl hr hk hk18 v3.2 v7.2 x3 hw (lv_sub hl [0, 1, 2, 3] rfl) hf
  · have hf := x_neg q9 hf
    refine lv_iconst (v := 0) (pc := 833) E.1 E.2.1 dL_law_833 (by decide) ?_
    exact absurd (Option.some.inj hf) (by decide)
set_option maxHeartbeats 4000000 in
set_option maxRecDepth 100000 in
theorem w_law_p789 {p : Program} {l : Launch} {e : Env} {sS : State} {m : MethodId} {below : List Frame} {meth : Method} {c : Code} {G : xG} {ad ae : Nat → Nat} {b L : Nat} {xs : Nat → Int32} {k18 : S7 → S8 → Int32 → Option Int32} (E : xE p sS m #[Value.ref b] c cL_law 4 RL G (fun q => sS.heap.size ≤ q)) (hX : va_X b L xs sS sS.heap) (hbl : b < sS.heap.size) (hr : meth.sig.returnType = ret) (hk : meth.locks = false) (hk18 : ∀ (s' : S7) (q' : S8) (x3' : Int32) {H : Heap} {locs : List Loc} {ls : Array Slot}, xW G (fun q => sS.heap.size ≤ q) sS.heap (cells7 G ad s' ++ cells8 G ae q') H locs → lv_has ls 4 [(0, .ref b), (1, .ref (ad 0)), (2, .ref (ae 0)), (3, .int x3')] → k18  s' q' x3' = some 1 → W p l e room_1 sS m #[Value.ref b] below meth c H locs 51 5492 (lw_Z below #[Value.ref b] sS) (F0 m 18 ls [])) : ∀ (s' : S7) (q' : S8) (x3' : Int32) {H : Heap} {locs : List Loc} {ls : Array Slot}, xW G (fun q => sS.heap.size ≤ q) sS.heap (cells7 G ad s' ++ cells8 G ae q') H locs → lv_has ls 4 [(0, .ref b), (1, .ref (ad 0)), (2, .ref (ae 0)), (3, .int x3')] → f_law_p789 k18 L xs s' q' x3' = some 1 → W p l e room_1 sS m #[Value.ref b] below meth c H locs 51 5492 (lw_Z below #[Value.ref b] sS) (F0 m 789 ls []) := by
  intro s q x3 H locs ls hw hl hf
  unfold f_law_p789 at hf
  refine lv_aload_n (pc := 789) E.1 E.2.1 dL_law_789 rfl (lv_at hl 1 rfl) ?_
  refine lv_aload_n (pc := 790) E.1 E.2.1 dL_law_790 rfl (lv_at hl 0 rfl) ?_
  refine lv_iload_n (pc := 791) E.1 E.2.1 dL_law_791 rfl (lv_at hl 3 rfl) ?_
  refine lv_iconst (v := 1) (pc := 792) E.1 E.2.1 dL_law_792 (by decide) ?_
  refine lv_iadd (pc := 793) E.1 E.2.1 dL_law_793 ?_
  obtain ⟨v2, g1, hf⟩ := x_bind hf
  refine x_sld (pc := 794) E hX hbl hw g1 dL_law_794 ?_
  obtain ⟨v3, g4, hf⟩ := x_bind hf
  refine x_callV (pc := 795) (As := [.int v2]) (rest := []) (st1 := [.int v3.1]) (ws' := (cells7 G ad v3.2 ++ cells8 G ae q)) E hw hl (c_X7_cap l G ad s v2 g4) xv_L_88 xd_X7_cap rfl rfl ⟨Nat.le_of_ble_eq_true rfl, Nat.le_of_ble_eq_true rfl⟩ [0, 1, 2, 3, 4, 5, 6, 7, 8, 9, 10, 11, 12, 13, 14, 15, 16, 17, 18, 19, 20, 21, 22, 23, 24, 25, 26, 27, 28, 29, 30] [31, 32, 33, 34, 35, 36, 37, 38, 39, 40, 41, 42, 43, 44, 45, 46, 47, 48, 49, 50] (by decide) ⟨rfl, rfl, rfl, rfl, rfl, rfl, rfl, rfl, rfl, rfl, rfl, rfl, rfl, rfl, rfl, rfl, rfl, rfl, rfl, rfl, rfl, rfl, rfl, rfl, rfl, rfl, rfl, rfl, rfl, rfl, rfl, trivial⟩ (q0 := 0) rfl rfl rfl rfl (Nat.le_of_ble_eq_true rfl) (nw := 51) ⟨rfl, rfl, rfl, rfl, rfl, rfl, rfl, rfl, rfl, rfl, rfl, rfl, rfl, rfl, rfl, rfl, rfl, rfl, rfl, rfl, rfl, rfl, rfl, rfl, rfl, rfl, rfl, rfl, rfl, rfl, rfl, trivial⟩ ⟨⟨_, rfl, rfl⟩, ⟨_, rfl, rfl⟩, ⟨_, rfl, rfl⟩, ⟨_, rfl, rfl⟩, ⟨_, rfl, rfl⟩, ⟨_, rfl, rfl⟩, ⟨_, rfl, rfl⟩, ⟨_, rfl, rfl⟩, ⟨_, rfl, rfl⟩, ⟨_, rfl, rfl⟩, ⟨_, rfl, rfl⟩, ⟨_, rfl, rfl⟩, ⟨_, rfl, rfl⟩, ⟨_, rfl, rfl⟩, ⟨_, rfl, rfl⟩, ⟨_, rfl, rfl⟩, ⟨_, rfl, rfl⟩, ⟨_, rfl, rfl⟩, ⟨_, rfl, rfl⟩, ⟨_, rfl, rfl⟩, trivial⟩ rfl rfl (by decide) (by decide) rfl dL_law_795 (fun H locs hw => ?_) (hcs := ⟨Nat.le_refl _, Nat.le_refl _⟩)
  refine lv_aload_n (pc := 798) E.1 E.2.1 dL_law_798 rfl (lv_at hl 2 rfl) ?_
  refine lv_aload_n (pc := 799) E.1 E.2.1 dL_law_799 rfl (lv_at hl 0 rfl) ?_
  refine lv_iload_n (pc := 800) E.1 E.2.1 dL_law_800 rfl (lv_at hl 3 rfl) ?_
  refine lv_iconst (v := 1) (pc := 801) E.1 E.2.1 dL_law_801 (by decide) ?_
  refine lv_iadd (pc := 802) E.1 E.2.1 dL_law_802 ?_
  obtain ⟨v6, g5, hf⟩ := x_bind hf
  refine x_sld (pc := 803) E hX hbl hw g5 dL_law_803 ?_
  obtain ⟨v7, g8, hf⟩ := x_bind hf
  refine x_callV (pc := 804) (As := [.int v6]) (rest := [.int v3.1]) (st1 := [.int v7.1, .int v3.1]) (ws' := (cells7 G ad v3.2 ++ cells8 G ae v7.2)) E hw hl (c_X8_cap l G ae q v6 g8) xv_L_91 xd_X8_cap rfl rfl ⟨Nat.le_of_ble_eq_true rfl, Nat.le_of_ble_eq_true rfl⟩ [31, 32, 33, 34, 35, 36, 37, 38, 39, 40, 41, 42, 43, 44, 45, 46, 47, 48, 49, 50] [0, 1, 2, 3, 4, 5, 6, 7, 8, 9, 10, 11, 12, 13, 14, 15, 16, 17, 18, 19, 20, 21, 22, 23, 24, 25, 26, 27, 28, 29, 30] (by decide) ⟨rfl, rfl, rfl, rfl, rfl, rfl, rfl, rfl, rfl, rfl, rfl, rfl, rfl, rfl, rfl, rfl, rfl, rfl, rfl, rfl, trivial⟩ (q0 := 31) rfl rfl rfl rfl (Nat.le_of_ble_eq_true rfl) (nw := 51) ⟨rfl, rfl, rfl, rfl, rfl, rfl, rfl, rfl, rfl, rfl, rfl, rfl, rfl, rfl, rfl, rfl, rfl, rfl, rfl, rfl, trivial⟩ ⟨⟨_, rfl, rfl⟩, ⟨_, rfl, rfl⟩, ⟨_, rfl, rfl⟩, ⟨_, rfl, rfl⟩, ⟨_, rfl, rfl⟩, ⟨_, rfl, rfl⟩, ⟨_, rfl, rfl⟩, ⟨_, rfl, rfl⟩, ⟨_, rfl, rfl⟩, ⟨_, rfl, rfl⟩, ⟨_, rfl, rfl⟩, ⟨_, rfl, rfl⟩, ⟨_, rfl, rfl⟩, ⟨_, rfl, rfl⟩, ⟨_, rfl, rfl⟩, ⟨_, rfl, rfl⟩, ⟨_, rfl, rfl⟩, ⟨_, rfl, rfl⟩, ⟨_, rfl, rfl⟩, ⟨_, rfl, rfl⟩, ⟨_, rfl, rfl⟩, ⟨_, rfl, rfl⟩, ⟨_, rfl, rfl⟩, ⟨_, rfl, rfl⟩, ⟨_, rfl, rfl⟩, ⟨_, rfl, rfl⟩, ⟨_, rfl, rfl⟩, ⟨_, rfl, rfl⟩, ⟨_, rfl, rfl⟩, ⟨_, rfl, rfl⟩, ⟨_, rfl, rfl⟩, trivial⟩ rfl rfl (by decide) (by decide) rfl dL_law_804 (fun H locs hw => ?_) (hcs := ⟨Nat.le_refl _, Nat.le_refl _⟩)
  refine lv_icmp_eq (tgt := 1816) (pc := 807) E.1 E.2.1 dL_law_807 (by decide) (fun q9 => ?_) (fun q9 => ?_)
  · have hf := x_pos q9 hf
    exact w_law_p1816 E hX hbl hr hk hk18 v3.2 v7.2 x3 hw (lv_sub hl [0, 1, 2, 3] rfl) hf
  · have hf := x_neg q9 hf
    refine lv_iconst (v := 0) (pc := 810) E.1 E.2.1 dL_law_810 (by decide) ?_
    exact absurd (Option.some.inj hf) (by decide)
set_option maxHeartbeats 4000000 in
set_option maxRecDepth 100000 in
theorem w_law_p756 {p : Program} {l : Launch} {e : Env} {sS : State} {m : MethodId} {below : List Frame} {meth : Method} {c : Code} {G : xG} {ad ae : Nat → Nat} {b L : Nat} {xs : Nat → Int32} {k18 : S7 → S8 → Int32 → Option Int32} (E : xE p sS m #[Value.ref b] c cL_law 4 RL G (fun q => sS.heap.size ≤ q)) (hX : va_X b L xs sS sS.heap) (hbl : b < sS.heap.size) (hr : meth.sig.returnType = ret) (hk : meth.locks = false) (hk18 : ∀ (s' : S7) (q' : S8) (x3' : Int32) {H : Heap} {locs : List Loc} {ls : Array Slot}, xW G (fun q => sS.heap.size ≤ q) sS.heap (cells7 G ad s' ++ cells8 G ae q') H locs → lv_has ls 4 [(0, .ref b), (1, .ref (ad 0)), (2, .ref (ae 0)), (3, .int x3')] → k18  s' q' x3' = some 1 → W p l e room_1 sS m #[Value.ref b] below meth c H locs 51 5492 (lw_Z below #[Value.ref b] sS) (F0 m 18 ls [])) : ∀ (s' : S7) (q' : S8) (x3' : Int32) {H : Heap} {locs : List Loc} {ls : Array Slot}, xW G (fun q => sS.heap.size ≤ q) sS.heap (cells7 G ad s' ++ cells8 G ae q') H locs → lv_has ls 4 [(0, .ref b), (1, .ref (ad 0)), (2, .ref (ae 0)), (3, .int x3')] → f_law_p756 k18 L xs s' q' x3' = some 1 → W p l e room_1 sS m #[Value.ref b] below meth c H locs 51 5492 (lw_Z below #[Value.ref b] sS) (F0 m 756 ls []) := by
  intro s q x3 H locs ls hw hl hf
  unfold f_law_p756 at hf
  refine lv_aload_n (pc := 756) E.1 E.2.1 dL_law_756 rfl (lv_at hl 1 rfl) ?_
  refine lv_aload_n (pc := 757) E.1 E.2.1 dL_law_757 rfl (lv_at hl 0 rfl) ?_
  refine lv_iload_n (pc := 758) E.1 E.2.1 dL_law_758 rfl (lv_at hl 3 rfl) ?_
  refine lv_iconst (v := 1) (pc := 759) E.1 E.2.1 dL_law_759 (by decide) ?_
  refine lv_iadd (pc := 760) E.1 E.2.1 dL_law_760 ?_
  obtain ⟨v2, g1, hf⟩ := x_bind hf
  refine x_sld (pc := 761) E hX hbl hw g1 dL_law_761 ?_
  refine lv_aload_n (pc := 762) E.1 E.2.1 dL_law_762 rfl (lv_at hl 0 rfl) ?_
  refine lv_iload_n (pc := 763) E.1 E.2.1 dL_law_763 rfl (lv_at hl 3 rfl) ?_
  refine lv_iconst (v := 2) (pc := 764) E.1 E.2.1 dL_law_764 (by decide) ?_
  refine lv_iadd (pc := 765) E.1 E.2.1 dL_law_765 ?_
  obtain ⟨v4, g3, hf⟩ := x_bind hf
  refine x_sld (pc := 766) E hX hbl hw g3 dL_law_766 ?_
  obtain ⟨v5, g6, hf⟩ := x_bind hf
  refine x_callV (pc := 767) (As := [.int v2, .int v4]) (rest := []) (st1 := [.int v5.1]) (ws' := (cells7 G ad v5.2 ++ cells8 G ae q)) E hw hl (c_X7_merge l G ad s v2 v4 g6) xv_L_84 xd_X7_merge rfl rfl ⟨Nat.le_of_ble_eq_true rfl, Nat.le_of_ble_eq_true rfl⟩ [0, 1, 2, 3, 4, 5, 6, 7, 8, 9, 10, 11, 12, 13, 14, 15, 16, 17, 18, 19, 20, 21, 22, 23, 24, 25, 26, 27, 28, 29, 30] [31, 32, 33, 34, 35, 36, 37, 38, 39, 40, 41, 42, 43, 44, 45, 46, 47, 48, 49, 50] (by decide) ⟨rfl, rfl, rfl, rfl, rfl, rfl, rfl, rfl, rfl, rfl, rfl, rfl, rfl, rfl, rfl, rfl, rfl, rfl, rfl, rfl, rfl, rfl, rfl, rfl, rfl, rfl, rfl, rfl, rfl, rfl, rfl, trivial⟩ (q0 := 0) rfl rfl rfl rfl (Nat.le_of_ble_eq_true rfl) (nw := 51) ⟨rfl, rfl, rfl, rfl, rfl, rfl, rfl, rfl, rfl, rfl, rfl, rfl, rfl, rfl, rfl, rfl, rfl, rfl, rfl, rfl, rfl, rfl, rfl, rfl, rfl, rfl, rfl, rfl, rfl, rfl, rfl, trivial⟩ ⟨⟨_, rfl, rfl⟩, ⟨_, rfl, rfl⟩, ⟨_, rfl, rfl⟩, ⟨_, rfl, rfl⟩, ⟨_, rfl, rfl⟩, ⟨_, rfl, rfl⟩, ⟨_, rfl, rfl⟩, ⟨_, rfl, rfl⟩, ⟨_, rfl, rfl⟩, ⟨_, rfl, rfl⟩, ⟨_, rfl, rfl⟩, ⟨_, rfl, rfl⟩, ⟨_, rfl, rfl⟩, ⟨_, rfl, rfl⟩, ⟨_, rfl, rfl⟩, ⟨_, rfl, rfl⟩, ⟨_, rfl, rfl⟩, ⟨_, rfl, rfl⟩, ⟨_, rfl, rfl⟩, ⟨_, rfl, rfl⟩, trivial⟩ rfl rfl (by decide) (by decide) rfl dL_law_767 (fun H locs hw => ?_) (hcs := ⟨Nat.le_refl _, Nat.le_refl _⟩)
  refine lv_aload_n (pc := 770) E.1 E.2.1 dL_law_770 rfl (lv_at hl 2 rfl) ?_
  refine lv_aload_n (pc := 771) E.1 E.2.1 dL_law_771 rfl (lv_at hl 0 rfl) ?_
  refine lv_iload_n (pc := 772) E.1 E.2.1 dL_law_772 rfl (lv_at hl 3 rfl) ?_
  refine lv_iconst (v := 1) (pc := 773) E.1 E.2.1 dL_law_773 (by decide) ?_
  refine lv_iadd (pc := 774) E.1 E.2.1 dL_law_774 ?_
  obtain ⟨v8, g7, hf⟩ := x_bind hf
  refine x_sld (pc := 775) E hX hbl hw g7 dL_law_775 ?_
  refine lv_aload_n (pc := 776) E.1 E.2.1 dL_law_776 rfl (lv_at hl 0 rfl) ?_
  refine lv_iload_n (pc := 777) E.1 E.2.1 dL_law_777 rfl (lv_at hl 3 rfl) ?_
  refine lv_iconst (v := 2) (pc := 778) E.1 E.2.1 dL_law_778 (by decide) ?_
  refine lv_iadd (pc := 779) E.1 E.2.1 dL_law_779 ?_
  obtain ⟨v10, g9, hf⟩ := x_bind hf
  refine x_sld (pc := 780) E hX hbl hw g9 dL_law_780 ?_
  obtain ⟨v11, g12, hf⟩ := x_bind hf
  refine x_callV (pc := 781) (As := [.int v8, .int v10]) (rest := [.int v5.1]) (st1 := [.int v11.1, .int v5.1]) (ws' := (cells7 G ad v5.2 ++ cells8 G ae v11.2)) E hw hl (c_X8_merge l G ae q v8 v10 g12) xv_L_87 xd_X8_merge rfl rfl ⟨Nat.le_of_ble_eq_true rfl, Nat.le_of_ble_eq_true rfl⟩ [31, 32, 33, 34, 35, 36, 37, 38, 39, 40, 41, 42, 43, 44, 45, 46, 47, 48, 49, 50] [0, 1, 2, 3, 4, 5, 6, 7, 8, 9, 10, 11, 12, 13, 14, 15, 16, 17, 18, 19, 20, 21, 22, 23, 24, 25, 26, 27, 28, 29, 30] (by decide) ⟨rfl, rfl, rfl, rfl, rfl, rfl, rfl, rfl, rfl, rfl, rfl, rfl, rfl, rfl, rfl, rfl, rfl, rfl, rfl, rfl, trivial⟩ (q0 := 31) rfl rfl rfl rfl (Nat.le_of_ble_eq_true rfl) (nw := 51) ⟨rfl, rfl, rfl, rfl, rfl, rfl, rfl, rfl, rfl, rfl, rfl, rfl, rfl, rfl, rfl, rfl, rfl, rfl, rfl, rfl, trivial⟩ ⟨⟨_, rfl, rfl⟩, ⟨_, rfl, rfl⟩, ⟨_, rfl, rfl⟩, ⟨_, rfl, rfl⟩, ⟨_, rfl, rfl⟩, ⟨_, rfl, rfl⟩, ⟨_, rfl, rfl⟩, ⟨_, rfl, rfl⟩, ⟨_, rfl, rfl⟩, ⟨_, rfl, rfl⟩, ⟨_, rfl, rfl⟩, ⟨_, rfl, rfl⟩, ⟨_, rfl, rfl⟩, ⟨_, rfl, rfl⟩, ⟨_, rfl, rfl⟩, ⟨_, rfl, rfl⟩, ⟨_, rfl, rfl⟩, ⟨_, rfl, rfl⟩, ⟨_, rfl, rfl⟩, ⟨_, rfl, rfl⟩, ⟨_, rfl, rfl⟩, ⟨_, rfl, rfl⟩, ⟨_, rfl, rfl⟩, ⟨_, rfl, rfl⟩, ⟨_, rfl, rfl⟩, ⟨_, rfl, rfl⟩, ⟨_, rfl, rfl⟩, ⟨_, rfl, rfl⟩, ⟨_, rfl, rfl⟩, ⟨_, rfl, rfl⟩, ⟨_, rfl, rfl⟩, trivial⟩ rfl rfl (by decide) (by decide) rfl dL_law_781 (fun H locs hw => ?_) (hcs := ⟨Nat.le_refl _, Nat.le_refl _⟩)
  refine lv_icmp_eq (tgt := 1816) (pc := 784) E.1 E.2.1 dL_law_784 (by decide) (fun q13 => ?_) (fun q13 => ?_)
  · have hf := x_pos q13 hf
    exact w_law_p1816 E hX hbl hr hk hk18 v5.2 v11.2 x3 hw (lv_sub hl [0, 1, 2, 3] rfl) hf
  · have hf := x_neg q13 hf
    refine lv_iconst (v := 0) (pc := 787) E.1 E.2.1 dL_law_787 (by decide) ?_
    exact absurd (Option.some.inj hf) (by decide)
set_option maxHeartbeats 4000000 in
set_option maxRecDepth 100000 in
theorem w_law_p723 {p : Program} {l : Launch} {e : Env} {sS : State} {m : MethodId} {below : List Frame} {meth : Method} {c : Code} {G : xG} {ad ae : Nat → Nat} {b L : Nat} {xs : Nat → Int32} {k18 : S7 → S8 → Int32 → Option Int32} (E : xE p sS m #[Value.ref b] c cL_law 4 RL G (fun q => sS.heap.size ≤ q)) (hX : va_X b L xs sS sS.heap) (hbl : b < sS.heap.size) (hr : meth.sig.returnType = ret) (hk : meth.locks = false) (hk18 : ∀ (s' : S7) (q' : S8) (x3' : Int32) {H : Heap} {locs : List Loc} {ls : Array Slot}, xW G (fun q => sS.heap.size ≤ q) sS.heap (cells7 G ad s' ++ cells8 G ae q') H locs → lv_has ls 4 [(0, .ref b), (1, .ref (ad 0)), (2, .ref (ae 0)), (3, .int x3')] → k18  s' q' x3' = some 1 → W p l e room_1 sS m #[Value.ref b] below meth c H locs 51 5492 (lw_Z below #[Value.ref b] sS) (F0 m 18 ls [])) : ∀ (s' : S7) (q' : S8) (x3' : Int32) {H : Heap} {locs : List Loc} {ls : Array Slot}, xW G (fun q => sS.heap.size ≤ q) sS.heap (cells7 G ad s' ++ cells8 G ae q') H locs → lv_has ls 4 [(0, .ref b), (1, .ref (ad 0)), (2, .ref (ae 0)), (3, .int x3')] → f_law_p723 k18 L xs s' q' x3' = some 1 → W p l e room_1 sS m #[Value.ref b] below meth c H locs 51 5492 (lw_Z below #[Value.ref b] sS) (F0 m 723 ls []) := by
  intro s q x3 H locs ls hw hl hf
  unfold f_law_p723 at hf
  refine lv_aload_n (pc := 723) E.1 E.2.1 dL_law_723 rfl (lv_at hl 1 rfl) ?_
  refine lv_aload_n (pc := 724) E.1 E.2.1 dL_law_724 rfl (lv_at hl 0 rfl) ?_
  refine lv_iload_n (pc := 725) E.1 E.2.1 dL_law_725 rfl (lv_at hl 3 rfl) ?_
  refine lv_iconst (v := 1) (pc := 726) E.1 E.2.1 dL_law_726 (by decide) ?_
  refine lv_iadd (pc := 727) E.1 E.2.1 dL_law_727 ?_
  obtain ⟨v2, g1, hf⟩ := x_bind hf
  refine x_sld (pc := 728) E hX hbl hw g1 dL_law_728 ?_
  refine lv_aload_n (pc := 729) E.1 E.2.1 dL_law_729 rfl (lv_at hl 0 rfl) ?_
  refine lv_iload_n (pc := 730) E.1 E.2.1 dL_law_730 rfl (lv_at hl 3 rfl) ?_
  refine lv_iconst (v := 2) (pc := 731) E.1 E.2.1 dL_law_731 (by decide) ?_
  refine lv_iadd (pc := 732) E.1 E.2.1 dL_law_732 ?_
  obtain ⟨v4, g3, hf⟩ := x_bind hf
  refine x_sld (pc := 733) E hX hbl hw g3 dL_law_733 ?_
  obtain ⟨v5, g6, hf⟩ := x_bind hf
  refine x_callV (pc := 734) (As := [.int v2, .int v4]) (rest := []) (st1 := [.int v5.1]) (ws' := (cells7 G ad v5.2 ++ cells8 G ae q)) E hw hl (c_X7_split l G ad s v2 v4 g6) xv_L_80 xd_X7_split rfl rfl ⟨Nat.le_of_ble_eq_true rfl, Nat.le_of_ble_eq_true rfl⟩ [0, 1, 2, 3, 4, 5, 6, 7, 8, 9, 10, 11, 12, 13, 14, 15, 16, 17, 18, 19, 20, 21, 22, 23, 24, 25, 26, 27, 28, 29, 30] [31, 32, 33, 34, 35, 36, 37, 38, 39, 40, 41, 42, 43, 44, 45, 46, 47, 48, 49, 50] (by decide) ⟨rfl, rfl, rfl, rfl, rfl, rfl, rfl, rfl, rfl, rfl, rfl, rfl, rfl, rfl, rfl, rfl, rfl, rfl, rfl, rfl, rfl, rfl, rfl, rfl, rfl, rfl, rfl, rfl, rfl, rfl, rfl, trivial⟩ (q0 := 0) rfl rfl rfl rfl (Nat.le_of_ble_eq_true rfl) (nw := 51) ⟨rfl, rfl, rfl, rfl, rfl, rfl, rfl, rfl, rfl, rfl, rfl, rfl, rfl, rfl, rfl, rfl, rfl, rfl, rfl, rfl, rfl, rfl, rfl, rfl, rfl, rfl, rfl, rfl, rfl, rfl, rfl, trivial⟩ ⟨⟨_, rfl, rfl⟩, ⟨_, rfl, rfl⟩, ⟨_, rfl, rfl⟩, ⟨_, rfl, rfl⟩, ⟨_, rfl, rfl⟩, ⟨_, rfl, rfl⟩, ⟨_, rfl, rfl⟩, ⟨_, rfl, rfl⟩, ⟨_, rfl, rfl⟩, ⟨_, rfl, rfl⟩, ⟨_, rfl, rfl⟩, ⟨_, rfl, rfl⟩, ⟨_, rfl, rfl⟩, ⟨_, rfl, rfl⟩, ⟨_, rfl, rfl⟩, ⟨_, rfl, rfl⟩, ⟨_, rfl, rfl⟩, ⟨_, rfl, rfl⟩, ⟨_, rfl, rfl⟩, ⟨_, rfl, rfl⟩, trivial⟩ rfl rfl (by decide) (by decide) rfl dL_law_734 (fun H locs hw => ?_) (hcs := ⟨Nat.le_refl _, Nat.le_refl _⟩)
  refine lv_aload_n (pc := 737) E.1 E.2.1 dL_law_737 rfl (lv_at hl 2 rfl) ?_
  refine lv_aload_n (pc := 738) E.1 E.2.1 dL_law_738 rfl (lv_at hl 0 rfl) ?_
  refine lv_iload_n (pc := 739) E.1 E.2.1 dL_law_739 rfl (lv_at hl 3 rfl) ?_
  refine lv_iconst (v := 1) (pc := 740) E.1 E.2.1 dL_law_740 (by decide) ?_
  refine lv_iadd (pc := 741) E.1 E.2.1 dL_law_741 ?_
  obtain ⟨v8, g7, hf⟩ := x_bind hf
  refine x_sld (pc := 742) E hX hbl hw g7 dL_law_742 ?_
  refine lv_aload_n (pc := 743) E.1 E.2.1 dL_law_743 rfl (lv_at hl 0 rfl) ?_
  refine lv_iload_n (pc := 744) E.1 E.2.1 dL_law_744 rfl (lv_at hl 3 rfl) ?_
  refine lv_iconst (v := 2) (pc := 745) E.1 E.2.1 dL_law_745 (by decide) ?_
  refine lv_iadd (pc := 746) E.1 E.2.1 dL_law_746 ?_
  obtain ⟨v10, g9, hf⟩ := x_bind hf
  refine x_sld (pc := 747) E hX hbl hw g9 dL_law_747 ?_
  obtain ⟨v11, g12, hf⟩ := x_bind hf
  refine x_callV (pc := 748) (As := [.int v8, .int v10]) (rest := [.int v5.1]) (st1 := [.int v11.1, .int v5.1]) (ws' := (cells7 G ad v5.2 ++ cells8 G ae v11.2)) E hw hl (c_X8_split l G ae q v8 v10 g12) xv_L_83 xd_X8_split rfl rfl ⟨Nat.le_of_ble_eq_true rfl, Nat.le_of_ble_eq_true rfl⟩ [31, 32, 33, 34, 35, 36, 37, 38, 39, 40, 41, 42, 43, 44, 45, 46, 47, 48, 49, 50] [0, 1, 2, 3, 4, 5, 6, 7, 8, 9, 10, 11, 12, 13, 14, 15, 16, 17, 18, 19, 20, 21, 22, 23, 24, 25, 26, 27, 28, 29, 30] (by decide) ⟨rfl, rfl, rfl, rfl, rfl, rfl, rfl, rfl, rfl, rfl, rfl, rfl, rfl, rfl, rfl, rfl, rfl, rfl, rfl, rfl, trivial⟩ (q0 := 31) rfl rfl rfl rfl (Nat.le_of_ble_eq_true rfl) (nw := 51) ⟨rfl, rfl, rfl, rfl, rfl, rfl, rfl, rfl, rfl, rfl, rfl, rfl, rfl, rfl, rfl, rfl, rfl, rfl, rfl, rfl, trivial⟩ ⟨⟨_, rfl, rfl⟩, ⟨_, rfl, rfl⟩, ⟨_, rfl, rfl⟩, ⟨_, rfl, rfl⟩, ⟨_, rfl, rfl⟩, ⟨_, rfl, rfl⟩, ⟨_, rfl, rfl⟩, ⟨_, rfl, rfl⟩, ⟨_, rfl, rfl⟩, ⟨_, rfl, rfl⟩, ⟨_, rfl, rfl⟩, ⟨_, rfl, rfl⟩, ⟨_, rfl, rfl⟩, ⟨_, rfl, rfl⟩, ⟨_, rfl, rfl⟩, ⟨_, rfl, rfl⟩, ⟨_, rfl, rfl⟩, ⟨_, rfl, rfl⟩, ⟨_, rfl, rfl⟩, ⟨_, rfl, rfl⟩, ⟨_, rfl, rfl⟩, ⟨_, rfl, rfl⟩, ⟨_, rfl, rfl⟩, ⟨_, rfl, rfl⟩, ⟨_, rfl, rfl⟩, ⟨_, rfl, rfl⟩, ⟨_, rfl, rfl⟩, ⟨_, rfl, rfl⟩, ⟨_, rfl, rfl⟩, ⟨_, rfl, rfl⟩, ⟨_, rfl, rfl⟩, trivial⟩ rfl rfl (by decide) (by decide) rfl dL_law_748 (fun H locs hw => ?_) (hcs := ⟨Nat.le_refl _, Nat.le_refl _⟩)
  refine lv_icmp_eq (tgt := 1816) (pc := 751) E.1 E.2.1 dL_law_751 (by decide) (fun q13 => ?_) (fun q13 => ?_)
  · have hf := x_pos q13 hf
    exact w_law_p1816 E hX hbl hr hk hk18 v5.2 v11.2 x3 hw (lv_sub hl [0, 1, 2, 3] rfl) hf
  · have hf := x_neg q13 hf
    refine lv_iconst (v := 0) (pc := 754) E.1 E.2.1 dL_law_754 (by decide) ?_
    exact absurd (Option.some.inj hf) (by decide)
set_option maxHeartbeats 4000000 in
set_option maxRecDepth 100000 in
theorem w_law_p690 {p : Program} {l : Launch} {e : Env} {sS : State} {m : MethodId} {below : List Frame} {meth : Method} {c : Code} {G : xG} {ad ae : Nat → Nat} {b L : Nat} {xs : Nat → Int32} {k18 : S7 → S8 → Int32 → Option Int32} (E : xE p sS m #[Value.ref b] c cL_law 4 RL G (fun q => sS.heap.size ≤ q)) (hX : va_X b L xs sS sS.heap) (hbl : b < sS.heap.size) (hr : meth.sig.returnType = ret) (hk : meth.locks = false) (hk18 : ∀ (s' : S7) (q' : S8) (x3' : Int32) {H : Heap} {locs : List Loc} {ls : Array Slot}, xW G (fun q => sS.heap.size ≤ q) sS.heap (cells7 G ad s' ++ cells8 G ae q') H locs → lv_has ls 4 [(0, .ref b), (1, .ref (ad 0)), (2, .ref (ae 0)), (3, .int x3')] → k18  s' q' x3' = some 1 → W p l e room_1 sS m #[Value.ref b] below meth c H locs 51 5492 (lw_Z below #[Value.ref b] sS) (F0 m 18 ls [])) : ∀ (s' : S7) (q' : S8) (x3' : Int32) {H : Heap} {locs : List Loc} {ls : Array Slot}, xW G (fun q => sS.heap.size ≤ q) sS.heap (cells7 G ad s' ++ cells8 G ae q') H locs → lv_has ls 4 [(0, .ref b), (1, .ref (ad 0)), (2, .ref (ae 0)), (3, .int x3')] → f_law_p690 k18 L xs s' q' x3' = some 1 → W p l e room_1 sS m #[Value.ref b] below meth c H locs 51 5492 (lw_Z below #[Value.ref b] sS) (F0 m 690 ls []) := by
  intro s q x3 H locs ls hw hl hf
  unfold f_law_p690 at hf
  refine lv_aload_n (pc := 690) E.1 E.2.1 dL_law_690 rfl (lv_at hl 1 rfl) ?_
  refine lv_aload_n (pc := 691) E.1 E.2.1 dL_law_691 rfl (lv_at hl 0 rfl) ?_
  refine lv_iload_n (pc := 692) E.1 E.2.1 dL_law_692 rfl (lv_at hl 3 rfl) ?_
  refine lv_iconst (v := 1) (pc := 693) E.1 E.2.1 dL_law_693 (by decide) ?_
  refine lv_iadd (pc := 694) E.1 E.2.1 dL_law_694 ?_
  obtain ⟨v2, g1, hf⟩ := x_bind hf
  refine x_sld (pc := 695) E hX hbl hw g1 dL_law_695 ?_
  refine lv_aload_n (pc := 696) E.1 E.2.1 dL_law_696 rfl (lv_at hl 0 rfl) ?_
  refine lv_iload_n (pc := 697) E.1 E.2.1 dL_law_697 rfl (lv_at hl 3 rfl) ?_
  refine lv_iconst (v := 2) (pc := 698) E.1 E.2.1 dL_law_698 (by decide) ?_
  refine lv_iadd (pc := 699) E.1 E.2.1 dL_law_699 ?_
  obtain ⟨v4, g3, hf⟩ := x_bind hf
  refine x_sld (pc := 700) E hX hbl hw g3 dL_law_700 ?_
  obtain ⟨v5, g6, hf⟩ := x_bind hf
  refine x_callV (pc := 701) (As := [.int v2, .int v4]) (rest := []) (st1 := [.int v5.1]) (ws' := (cells7 G ad v5.2 ++ cells8 G ae q)) E hw hl (c_X7_scale l G ad s v2 v4 g6) xv_L_76 xd_X7_scale rfl rfl ⟨Nat.le_of_ble_eq_true rfl, Nat.le_of_ble_eq_true rfl⟩ [0, 1, 2, 3, 4, 5, 6, 7, 8, 9, 10, 11, 12, 13, 14, 15, 16, 17, 18, 19, 20, 21, 22, 23, 24, 25, 26, 27, 28, 29, 30] [31, 32, 33, 34, 35, 36, 37, 38, 39, 40, 41, 42, 43, 44, 45, 46, 47, 48, 49, 50] (by decide) ⟨rfl, rfl, rfl, rfl, rfl, rfl, rfl, rfl, rfl, rfl, rfl, rfl, rfl, rfl, rfl, rfl, rfl, rfl, rfl, rfl, rfl, rfl, rfl, rfl, rfl, rfl, rfl, rfl, rfl, rfl, rfl, trivial⟩ (q0 := 0) rfl rfl rfl rfl (Nat.le_of_ble_eq_true rfl) (nw := 51) ⟨rfl, rfl, rfl, rfl, rfl, rfl, rfl, rfl, rfl, rfl, rfl, rfl, rfl, rfl, rfl, rfl, rfl, rfl, rfl, rfl, rfl, rfl, rfl, rfl, rfl, rfl, rfl, rfl, rfl, rfl, rfl, trivial⟩ ⟨⟨_, rfl, rfl⟩, ⟨_, rfl, rfl⟩, ⟨_, rfl, rfl⟩, ⟨_, rfl, rfl⟩, ⟨_, rfl, rfl⟩, ⟨_, rfl, rfl⟩, ⟨_, rfl, rfl⟩, ⟨_, rfl, rfl⟩, ⟨_, rfl, rfl⟩, ⟨_, rfl, rfl⟩, ⟨_, rfl, rfl⟩, ⟨_, rfl, rfl⟩, ⟨_, rfl, rfl⟩, ⟨_, rfl, rfl⟩, ⟨_, rfl, rfl⟩, ⟨_, rfl, rfl⟩, ⟨_, rfl, rfl⟩, ⟨_, rfl, rfl⟩, ⟨_, rfl, rfl⟩, ⟨_, rfl, rfl⟩, trivial⟩ rfl rfl (by decide) (by decide) rfl dL_law_701 (fun H locs hw => ?_) (hcs := ⟨Nat.le_refl _, Nat.le_refl _⟩)
  refine lv_aload_n (pc := 704) E.1 E.2.1 dL_law_704 rfl (lv_at hl 2 rfl) ?_
  refine lv_aload_n (pc := 705) E.1 E.2.1 dL_law_705 rfl (lv_at hl 0 rfl) ?_
  refine lv_iload_n (pc := 706) E.1 E.2.1 dL_law_706 rfl (lv_at hl 3 rfl) ?_
  refine lv_iconst (v := 1) (pc := 707) E.1 E.2.1 dL_law_707 (by decide) ?_
  refine lv_iadd (pc := 708) E.1 E.2.1 dL_law_708 ?_
  obtain ⟨v8, g7, hf⟩ := x_bind hf
  refine x_sld (pc := 709) E hX hbl hw g7 dL_law_709 ?_
  refine lv_aload_n (pc := 710) E.1 E.2.1 dL_law_710 rfl (lv_at hl 0 rfl) ?_
  refine lv_iload_n (pc := 711) E.1 E.2.1 dL_law_711 rfl (lv_at hl 3 rfl) ?_
  refine lv_iconst (v := 2) (pc := 712) E.1 E.2.1 dL_law_712 (by decide) ?_
  refine lv_iadd (pc := 713) E.1 E.2.1 dL_law_713 ?_
  obtain ⟨v10, g9, hf⟩ := x_bind hf
  refine x_sld (pc := 714) E hX hbl hw g9 dL_law_714 ?_
  obtain ⟨v11, g12, hf⟩ := x_bind hf
  refine x_callV (pc := 715) (As := [.int v8, .int v10]) (rest := [.int v5.1]) (st1 := [.int v11.1, .int v5.1]) (ws' := (cells7 G ad v5.2 ++ cells8 G ae v11.2)) E hw hl (c_X8_scale l G ae q v8 v10 g12) xv_L_79 xd_X8_scale rfl rfl ⟨Nat.le_of_ble_eq_true rfl, Nat.le_of_ble_eq_true rfl⟩ [31, 32, 33, 34, 35, 36, 37, 38, 39, 40, 41, 42, 43, 44, 45, 46, 47, 48, 49, 50] [0, 1, 2, 3, 4, 5, 6, 7, 8, 9, 10, 11, 12, 13, 14, 15, 16, 17, 18, 19, 20, 21, 22, 23, 24, 25, 26, 27, 28, 29, 30] (by decide) ⟨rfl, rfl, rfl, rfl, rfl, rfl, rfl, rfl, rfl, rfl, rfl, rfl, rfl, rfl, rfl, rfl, rfl, rfl, rfl, rfl, trivial⟩ (q0 := 31) rfl rfl rfl rfl (Nat.le_of_ble_eq_true rfl) (nw := 51) ⟨rfl, rfl, rfl, rfl, rfl, rfl, rfl, rfl, rfl, rfl, rfl, rfl, rfl, rfl, rfl, rfl, rfl, rfl, rfl, rfl, trivial⟩ ⟨⟨_, rfl, rfl⟩, ⟨_, rfl, rfl⟩, ⟨_, rfl, rfl⟩, ⟨_, rfl, rfl⟩, ⟨_, rfl, rfl⟩, ⟨_, rfl, rfl⟩, ⟨_, rfl, rfl⟩, ⟨_, rfl, rfl⟩, ⟨_, rfl, rfl⟩, ⟨_, rfl, rfl⟩, ⟨_, rfl, rfl⟩, ⟨_, rfl, rfl⟩, ⟨_, rfl, rfl⟩, ⟨_, rfl, rfl⟩, ⟨_, rfl, rfl⟩, ⟨_, rfl, rfl⟩, ⟨_, rfl, rfl⟩, ⟨_, rfl, rfl⟩, ⟨_, rfl, rfl⟩, ⟨_, rfl, rfl⟩, ⟨_, rfl, rfl⟩, ⟨_, rfl, rfl⟩, ⟨_, rfl, rfl⟩, ⟨_, rfl, rfl⟩, ⟨_, rfl, rfl⟩, ⟨_, rfl, rfl⟩, ⟨_, rfl, rfl⟩, ⟨_, rfl, rfl⟩, ⟨_, rfl, rfl⟩, ⟨_, rfl, rfl⟩, ⟨_, rfl, rfl⟩, trivial⟩ rfl rfl (by decide) (by decide) rfl dL_law_715 (fun H locs hw => ?_) (hcs := ⟨Nat.le_refl _, Nat.le_refl _⟩)
  refine lv_icmp_eq (tgt := 1816) (pc := 718) E.1 E.2.1 dL_law_718 (by decide) (fun q13 => ?_) (fun q13 => ?_)
  · have hf := x_pos q13 hf
    exact w_law_p1816 E hX hbl hr hk hk18 v5.2 v11.2 x3 hw (lv_sub hl [0, 1, 2, 3] rfl) hf
  · have hf := x_neg q13 hf
    refine lv_iconst (v := 0) (pc := 721) E.1 E.2.1 dL_law_721 (by decide) ?_
    exact absurd (Option.some.inj hf) (by decide)
set_option maxHeartbeats 4000000 in
set_option maxRecDepth 100000 in
theorem w_law_p657 {p : Program} {l : Launch} {e : Env} {sS : State} {m : MethodId} {below : List Frame} {meth : Method} {c : Code} {G : xG} {ad ae : Nat → Nat} {b L : Nat} {xs : Nat → Int32} {k18 : S7 → S8 → Int32 → Option Int32} (E : xE p sS m #[Value.ref b] c cL_law 4 RL G (fun q => sS.heap.size ≤ q)) (hX : va_X b L xs sS sS.heap) (hbl : b < sS.heap.size) (hr : meth.sig.returnType = ret) (hk : meth.locks = false) (hk18 : ∀ (s' : S7) (q' : S8) (x3' : Int32) {H : Heap} {locs : List Loc} {ls : Array Slot}, xW G (fun q => sS.heap.size ≤ q) sS.heap (cells7 G ad s' ++ cells8 G ae q') H locs → lv_has ls 4 [(0, .ref b), (1, .ref (ad 0)), (2, .ref (ae 0)), (3, .int x3')] → k18  s' q' x3' = some 1 → W p l e room_1 sS m #[Value.ref b] below meth c H locs 51 5492 (lw_Z below #[Value.ref b] sS) (F0 m 18 ls [])) : ∀ (s' : S7) (q' : S8) (x3' : Int32) {H : Heap} {locs : List Loc} {ls : Array Slot}, xW G (fun q => sS.heap.size ≤ q) sS.heap (cells7 G ad s' ++ cells8 G ae q') H locs → lv_has ls 4 [(0, .ref b), (1, .ref (ad 0)), (2, .ref (ae 0)), (3, .int x3')] → f_law_p657 k18 L xs s' q' x3' = some 1 → W p l e room_1 sS m #[Value.ref b] below meth c H locs 51 5492 (lw_Z below #[Value.ref b] sS) (F0 m 657 ls []) := by
  intro s q x3 H locs ls hw hl hf
  unfold f_law_p657 at hf
  refine lv_aload_n (pc := 657) E.1 E.2.1 dL_law_657 rfl (lv_at hl 1 rfl) ?_
  refine lv_aload_n (pc := 658) E.1 E.2.1 dL_law_658 rfl (lv_at hl 0 rfl) ?_
  refine lv_iload_n (pc := 659) E.1 E.2.1 dL_law_659 rfl (lv_at hl 3 rfl) ?_
  refine lv_iconst (v := 1) (pc := 660) E.1 E.2.1 dL_law_660 (by decide) ?_
  refine lv_iadd (pc := 661) E.1 E.2.1 dL_law_661 ?_
  obtain ⟨v2, g1, hf⟩ := x_bind hf
  refine x_sld (pc := 662) E hX hbl hw g1 dL_law_662 ?_
  refine lv_aload_n (pc := 663) E.1 E.2.1 dL_law_663 rfl (lv_at hl 0 rfl) ?_
  refine lv_iload_n (pc := 664) E.1 E.2.1 dL_law_664 rfl (lv_at hl 3 rfl) ?_
  refine lv_iconst (v := 2) (pc := 665) E.1 E.2.1 dL_law_665 (by decide) ?_
  refine lv_iadd (pc := 666) E.1 E.2.1 dL_law_666 ?_
  obtain ⟨v4, g3, hf⟩ := x_bind hf
  refine x_sld (pc := 667) E hX hbl hw g3 dL_law_667 ?_
  obtain ⟨v5, g6, hf⟩ := x_bind hf
  refine x_callV (pc := 668) (As := [.int v2, .int v4]) (rest := []) (st1 := [.int v5.1]) (ws' := (cells7 G ad v5.2 ++ cells8 G ae q)) E hw hl (c_X7_swap l G ad s v2 v4 g6) xv_L_71 xd_X7_swap rfl rfl ⟨Nat.le_of_ble_eq_true rfl, Nat.le_of_ble_eq_true rfl⟩ [0, 1, 2, 3, 4, 5, 6, 7, 8, 9, 10, 11, 12, 13, 14, 15, 16, 17, 18, 19, 20, 21, 22, 23, 24, 25, 26, 27, 28, 29, 30] [31, 32, 33, 34, 35, 36, 37, 38, 39, 40, 41, 42, 43, 44, 45, 46, 47, 48, 49, 50] (by decide) ⟨rfl, rfl, rfl, rfl, rfl, rfl, rfl, rfl, rfl, rfl, rfl, rfl, rfl, rfl, rfl, rfl, rfl, rfl, rfl, rfl, rfl, rfl, rfl, rfl, rfl, rfl, rfl, rfl, rfl, rfl, rfl, trivial⟩ (q0 := 0) rfl rfl rfl rfl (Nat.le_of_ble_eq_true rfl) (nw := 51) ⟨rfl, rfl, rfl, rfl, rfl, rfl, rfl, rfl, rfl, rfl, rfl, rfl, rfl, rfl, rfl, rfl, rfl, rfl, rfl, rfl, rfl, rfl, rfl, rfl, rfl, rfl, rfl, rfl, rfl, rfl, rfl, trivial⟩ ⟨⟨_, rfl, rfl⟩, ⟨_, rfl, rfl⟩, ⟨_, rfl, rfl⟩, ⟨_, rfl, rfl⟩, ⟨_, rfl, rfl⟩, ⟨_, rfl, rfl⟩, ⟨_, rfl, rfl⟩, ⟨_, rfl, rfl⟩, ⟨_, rfl, rfl⟩, ⟨_, rfl, rfl⟩, ⟨_, rfl, rfl⟩, ⟨_, rfl, rfl⟩, ⟨_, rfl, rfl⟩, ⟨_, rfl, rfl⟩, ⟨_, rfl, rfl⟩, ⟨_, rfl, rfl⟩, ⟨_, rfl, rfl⟩, ⟨_, rfl, rfl⟩, ⟨_, rfl, rfl⟩, ⟨_, rfl, rfl⟩, trivial⟩ rfl rfl (by decide) (by decide) rfl dL_law_668 (fun H locs hw => ?_) (hcs := ⟨Nat.le_refl _, Nat.le_refl _⟩)
  refine lv_aload_n (pc := 671) E.1 E.2.1 dL_law_671 rfl (lv_at hl 2 rfl) ?_
  refine lv_aload_n (pc := 672) E.1 E.2.1 dL_law_672 rfl (lv_at hl 0 rfl) ?_
  refine lv_iload_n (pc := 673) E.1 E.2.1 dL_law_673 rfl (lv_at hl 3 rfl) ?_
  refine lv_iconst (v := 1) (pc := 674) E.1 E.2.1 dL_law_674 (by decide) ?_
  refine lv_iadd (pc := 675) E.1 E.2.1 dL_law_675 ?_
  obtain ⟨v8, g7, hf⟩ := x_bind hf
  refine x_sld (pc := 676) E hX hbl hw g7 dL_law_676 ?_
  refine lv_aload_n (pc := 677) E.1 E.2.1 dL_law_677 rfl (lv_at hl 0 rfl) ?_
  refine lv_iload_n (pc := 678) E.1 E.2.1 dL_law_678 rfl (lv_at hl 3 rfl) ?_
  refine lv_iconst (v := 2) (pc := 679) E.1 E.2.1 dL_law_679 (by decide) ?_
  refine lv_iadd (pc := 680) E.1 E.2.1 dL_law_680 ?_
  obtain ⟨v10, g9, hf⟩ := x_bind hf
  refine x_sld (pc := 681) E hX hbl hw g9 dL_law_681 ?_
  obtain ⟨v11, g12, hf⟩ := x_bind hf
  refine x_callV (pc := 682) (As := [.int v8, .int v10]) (rest := [.int v5.1]) (st1 := [.int v11.1, .int v5.1]) (ws' := (cells7 G ad v5.2 ++ cells8 G ae v11.2)) E hw hl (c_X8_swap l G ae q v8 v10 g12) xv_L_75 xd_X8_swap rfl rfl ⟨Nat.le_of_ble_eq_true rfl, Nat.le_of_ble_eq_true rfl⟩ [31, 32, 33, 34, 35, 36, 37, 38, 39, 40, 41, 42, 43, 44, 45, 46, 47, 48, 49, 50] [0, 1, 2, 3, 4, 5, 6, 7, 8, 9, 10, 11, 12, 13, 14, 15, 16, 17, 18, 19, 20, 21, 22, 23, 24, 25, 26, 27, 28, 29, 30] (by decide) ⟨rfl, rfl, rfl, rfl, rfl, rfl, rfl, rfl, rfl, rfl, rfl, rfl, rfl, rfl, rfl, rfl, rfl, rfl, rfl, rfl, trivial⟩ (q0 := 31) rfl rfl rfl rfl (Nat.le_of_ble_eq_true rfl) (nw := 51) ⟨rfl, rfl, rfl, rfl, rfl, rfl, rfl, rfl, rfl, rfl, rfl, rfl, rfl, rfl, rfl, rfl, rfl, rfl, rfl, rfl, trivial⟩ ⟨⟨_, rfl, rfl⟩, ⟨_, rfl, rfl⟩, ⟨_, rfl, rfl⟩, ⟨_, rfl, rfl⟩, ⟨_, rfl, rfl⟩, ⟨_, rfl, rfl⟩, ⟨_, rfl, rfl⟩, ⟨_, rfl, rfl⟩, ⟨_, rfl, rfl⟩, ⟨_, rfl, rfl⟩, ⟨_, rfl, rfl⟩, ⟨_, rfl, rfl⟩, ⟨_, rfl, rfl⟩, ⟨_, rfl, rfl⟩, ⟨_, rfl, rfl⟩, ⟨_, rfl, rfl⟩, ⟨_, rfl, rfl⟩, ⟨_, rfl, rfl⟩, ⟨_, rfl, rfl⟩, ⟨_, rfl, rfl⟩, ⟨_, rfl, rfl⟩, ⟨_, rfl, rfl⟩, ⟨_, rfl, rfl⟩, ⟨_, rfl, rfl⟩, ⟨_, rfl, rfl⟩, ⟨_, rfl, rfl⟩, ⟨_, rfl, rfl⟩, ⟨_, rfl, rfl⟩, ⟨_, rfl, rfl⟩, ⟨_, rfl, rfl⟩, ⟨_, rfl, rfl⟩, trivial⟩ rfl rfl (by decide) (by decide) rfl dL_law_682 (fun H locs hw => ?_) (hcs := ⟨Nat.le_refl _, Nat.le_refl _⟩)
  refine lv_icmp_eq (tgt := 1816) (pc := 685) E.1 E.2.1 dL_law_685 (by decide) (fun q13 => ?_) (fun q13 => ?_)
  · have hf := x_pos q13 hf
    exact w_law_p1816 E hX hbl hr hk hk18 v5.2 v11.2 x3 hw (lv_sub hl [0, 1, 2, 3] rfl) hf
  · have hf := x_neg q13 hf
    refine lv_iconst (v := 0) (pc := 688) E.1 E.2.1 dL_law_688 (by decide) ?_
    exact absurd (Option.some.inj hf) (by decide)
set_option maxHeartbeats 4000000 in
set_option maxRecDepth 100000 in
theorem w_law_p624 {p : Program} {l : Launch} {e : Env} {sS : State} {m : MethodId} {below : List Frame} {meth : Method} {c : Code} {G : xG} {ad ae : Nat → Nat} {b L : Nat} {xs : Nat → Int32} {k18 : S7 → S8 → Int32 → Option Int32} (E : xE p sS m #[Value.ref b] c cL_law 4 RL G (fun q => sS.heap.size ≤ q)) (hX : va_X b L xs sS sS.heap) (hbl : b < sS.heap.size) (hr : meth.sig.returnType = ret) (hk : meth.locks = false) (hk18 : ∀ (s' : S7) (q' : S8) (x3' : Int32) {H : Heap} {locs : List Loc} {ls : Array Slot}, xW G (fun q => sS.heap.size ≤ q) sS.heap (cells7 G ad s' ++ cells8 G ae q') H locs → lv_has ls 4 [(0, .ref b), (1, .ref (ad 0)), (2, .ref (ae 0)), (3, .int x3')] → k18  s' q' x3' = some 1 → W p l e room_1 sS m #[Value.ref b] below meth c H locs 51 5492 (lw_Z below #[Value.ref b] sS) (F0 m 18 ls [])) : ∀ (s' : S7) (q' : S8) (x3' : Int32) {H : Heap} {locs : List Loc} {ls : Array Slot}, xW G (fun q => sS.heap.size ≤ q) sS.heap (cells7 G ad s' ++ cells8 G ae q') H locs → lv_has ls 4 [(0, .ref b), (1, .ref (ad 0)), (2, .ref (ae 0)), (3, .int x3')] → f_law_p624 k18 L xs s' q' x3' = some 1 → W p l e room_1 sS m #[Value.ref b] below meth c H locs 51 5492 (lw_Z below #[Value.ref b] sS) (F0 m 624 ls []) := by
  intro s q x3 H locs ls hw hl hf
  unfold f_law_p624 at hf
  refine lv_aload_n (pc := 624) E.1 E.2.1 dL_law_624 rfl (lv_at hl 1 rfl) ?_
  refine lv_aload_n (pc := 625) E.1 E.2.1 dL_law_625 rfl (lv_at hl 0 rfl) ?_
  refine lv_iload_n (pc := 626) E.1 E.2.1 dL_law_626 rfl (lv_at hl 3 rfl) ?_
  refine lv_iconst (v := 1) (pc := 627) E.1 E.2.1 dL_law_627 (by decide) ?_
  refine lv_iadd (pc := 628) E.1 E.2.1 dL_law_628 ?_
  obtain ⟨v2, g1, hf⟩ := x_bind hf
  refine x_sld (pc := 629) E hX hbl hw g1 dL_law_629 ?_
  refine lv_aload_n (pc := 630) E.1 E.2.1 dL_law_630 rfl (lv_at hl 0 rfl) ?_
  refine lv_iload_n (pc := 631) E.1 E.2.1 dL_law_631 rfl (lv_at hl 3 rfl) ?_
  refine lv_iconst (v := 2) (pc := 632) E.1 E.2.1 dL_law_632 (by decide) ?_
  refine lv_iadd (pc := 633) E.1 E.2.1 dL_law_633 ?_
  obtain ⟨v4, g3, hf⟩ := x_bind hf
  refine x_sld (pc := 634) E hX hbl hw g3 dL_law_634 ?_
  obtain ⟨v5, g6, hf⟩ := x_bind hf
  refine x_callV (pc := 635) (As := [.int v2, .int v4]) (rest := []) (st1 := [.int v5.1]) (ws' := (cells7 G ad v5.2 ++ cells8 G ae q)) E hw hl (c_X7_join l G ad s v2 v4 g6) xv_L_67 xd_X7_join rfl rfl ⟨Nat.le_of_ble_eq_true rfl, Nat.le_of_ble_eq_true rfl⟩ [0, 1, 2, 3, 4, 5, 6, 7, 8, 9, 10, 11, 12, 13, 14, 15, 16, 17, 18, 19, 20, 21, 22, 23, 24, 25, 26, 27, 28, 29, 30] [31, 32, 33, 34, 35, 36, 37, 38, 39, 40, 41, 42, 43, 44, 45, 46, 47, 48, 49, 50] (by decide) ⟨rfl, rfl, rfl, rfl, rfl, rfl, rfl, rfl, rfl, rfl, rfl, rfl, rfl, rfl, rfl, rfl, rfl, rfl, rfl, rfl, rfl, rfl, rfl, rfl, rfl, rfl, rfl, rfl, rfl, rfl, rfl, trivial⟩ (q0 := 0) rfl rfl rfl rfl (Nat.le_of_ble_eq_true rfl) (nw := 51) ⟨rfl, rfl, rfl, rfl, rfl, rfl, rfl, rfl, rfl, rfl, rfl, rfl, rfl, rfl, rfl, rfl, rfl, rfl, rfl, rfl, rfl, rfl, rfl, rfl, rfl, rfl, rfl, rfl, rfl, rfl, rfl, trivial⟩ ⟨⟨_, rfl, rfl⟩, ⟨_, rfl, rfl⟩, ⟨_, rfl, rfl⟩, ⟨_, rfl, rfl⟩, ⟨_, rfl, rfl⟩, ⟨_, rfl, rfl⟩, ⟨_, rfl, rfl⟩, ⟨_, rfl, rfl⟩, ⟨_, rfl, rfl⟩, ⟨_, rfl, rfl⟩, ⟨_, rfl, rfl⟩, ⟨_, rfl, rfl⟩, ⟨_, rfl, rfl⟩, ⟨_, rfl, rfl⟩, ⟨_, rfl, rfl⟩, ⟨_, rfl, rfl⟩, ⟨_, rfl, rfl⟩, ⟨_, rfl, rfl⟩, ⟨_, rfl, rfl⟩, ⟨_, rfl, rfl⟩, trivial⟩ rfl rfl (by decide) (by decide) rfl dL_law_635 (fun H locs hw => ?_) (hcs := ⟨Nat.le_refl _, Nat.le_refl _⟩)
  refine lv_aload_n (pc := 638) E.1 E.2.1 dL_law_638 rfl (lv_at hl 2 rfl) ?_
  refine lv_aload_n (pc := 639) E.1 E.2.1 dL_law_639 rfl (lv_at hl 0 rfl) ?_
  refine lv_iload_n (pc := 640) E.1 E.2.1 dL_law_640 rfl (lv_at hl 3 rfl) ?_
  refine lv_iconst (v := 1) (pc := 641) E.1 E.2.1 dL_law_641 (by decide) ?_
  refine lv_iadd (pc := 642) E.1 E.2.1 dL_law_642 ?_
  obtain ⟨v8, g7, hf⟩ := x_bind hf
  refine x_sld (pc := 643) E hX hbl hw g7 dL_law_643 ?_
  refine lv_aload_n (pc := 644) E.1 E.2.1 dL_law_644 rfl (lv_at hl 0 rfl) ?_
  refine lv_iload_n (pc := 645) E.1 E.2.1 dL_law_645 rfl (lv_at hl 3 rfl) ?_
  refine lv_iconst (v := 2) (pc := 646) E.1 E.2.1 dL_law_646 (by decide) ?_
  refine lv_iadd (pc := 647) E.1 E.2.1 dL_law_647 ?_
  obtain ⟨v10, g9, hf⟩ := x_bind hf
  refine x_sld (pc := 648) E hX hbl hw g9 dL_law_648 ?_
  obtain ⟨v11, g12, hf⟩ := x_bind hf
  refine x_callV (pc := 649) (As := [.int v8, .int v10]) (rest := [.int v5.1]) (st1 := [.int v11.1, .int v5.1]) (ws' := (cells7 G ad v5.2 ++ cells8 G ae v11.2)) E hw hl (c_X8_join l G ae q v8 v10 g12) xv_L_70 xd_X8_join rfl rfl ⟨Nat.le_of_ble_eq_true rfl, Nat.le_of_ble_eq_true rfl⟩ [31, 32, 33, 34, 35, 36, 37, 38, 39, 40, 41, 42, 43, 44, 45, 46, 47, 48, 49, 50] [0, 1, 2, 3, 4, 5, 6, 7, 8, 9, 10, 11, 12, 13, 14, 15, 16, 17, 18, 19, 20, 21, 22, 23, 24, 25, 26, 27, 28, 29, 30] (by decide) ⟨rfl, rfl, rfl, rfl, rfl, rfl, rfl, rfl, rfl, rfl, rfl, rfl, rfl, rfl, rfl, rfl, rfl, rfl, rfl, rfl, trivial⟩ (q0 := 31) rfl rfl rfl rfl (Nat.le_of_ble_eq_true rfl) (nw := 51) ⟨rfl, rfl, rfl, rfl, rfl, rfl, rfl, rfl, rfl, rfl, rfl, rfl, rfl, rfl, rfl, rfl, rfl, rfl, rfl, rfl, trivial⟩ ⟨⟨_, rfl, rfl⟩, ⟨_, rfl, rfl⟩, ⟨_, rfl, rfl⟩, ⟨_, rfl, rfl⟩, ⟨_, rfl, rfl⟩, ⟨_, rfl, rfl⟩, ⟨_, rfl, rfl⟩, ⟨_, rfl, rfl⟩, ⟨_, rfl, rfl⟩, ⟨_, rfl, rfl⟩, ⟨_, rfl, rfl⟩, ⟨_, rfl, rfl⟩, ⟨_, rfl, rfl⟩, ⟨_, rfl, rfl⟩, ⟨_, rfl, rfl⟩, ⟨_, rfl, rfl⟩, ⟨_, rfl, rfl⟩, ⟨_, rfl, rfl⟩, ⟨_, rfl, rfl⟩, ⟨_, rfl, rfl⟩, ⟨_, rfl, rfl⟩, ⟨_, rfl, rfl⟩, ⟨_, rfl, rfl⟩, ⟨_, rfl, rfl⟩, ⟨_, rfl, rfl⟩, ⟨_, rfl, rfl⟩, ⟨_, rfl, rfl⟩, ⟨_, rfl, rfl⟩, ⟨_, rfl, rfl⟩, ⟨_, rfl, rfl⟩, ⟨_, rfl, rfl⟩, trivial⟩ rfl rfl (by decide) (by decide) rfl dL_law_649 (fun H locs hw => ?_) (hcs := ⟨Nat.le_refl _, Nat.le_refl _⟩)
  refine lv_icmp_eq (tgt := 1816) (pc := 652) E.1 E.2.1 dL_law_652 (by decide) (fun q13 => ?_) (fun q13 => ?_)
  · have hf := x_pos q13 hf
    exact w_law_p1816 E hX hbl hr hk hk18 v5.2 v11.2 x3 hw (lv_sub hl [0, 1, 2, 3] rfl) hf
  · have hf := x_neg q13 hf
    refine lv_iconst (v := 0) (pc := 655) E.1 E.2.1 dL_law_655 (by decide) ?_
    exact absurd (Option.some.inj hf) (by decide)
set_option maxHeartbeats 4000000 in
set_option maxRecDepth 100000 in
theorem w_law_p591 {p : Program} {l : Launch} {e : Env} {sS : State} {m : MethodId} {below : List Frame} {meth : Method} {c : Code} {G : xG} {ad ae : Nat → Nat} {b L : Nat} {xs : Nat → Int32} {k18 : S7 → S8 → Int32 → Option Int32} (E : xE p sS m #[Value.ref b] c cL_law 4 RL G (fun q => sS.heap.size ≤ q)) (hX : va_X b L xs sS sS.heap) (hbl : b < sS.heap.size) (hr : meth.sig.returnType = ret) (hk : meth.locks = false) (hk18 : ∀ (s' : S7) (q' : S8) (x3' : Int32) {H : Heap} {locs : List Loc} {ls : Array Slot}, xW G (fun q => sS.heap.size ≤ q) sS.heap (cells7 G ad s' ++ cells8 G ae q') H locs → lv_has ls 4 [(0, .ref b), (1, .ref (ad 0)), (2, .ref (ae 0)), (3, .int x3')] → k18  s' q' x3' = some 1 → W p l e room_1 sS m #[Value.ref b] below meth c H locs 51 5492 (lw_Z below #[Value.ref b] sS) (F0 m 18 ls [])) : ∀ (s' : S7) (q' : S8) (x3' : Int32) {H : Heap} {locs : List Loc} {ls : Array Slot}, xW G (fun q => sS.heap.size ≤ q) sS.heap (cells7 G ad s' ++ cells8 G ae q') H locs → lv_has ls 4 [(0, .ref b), (1, .ref (ad 0)), (2, .ref (ae 0)), (3, .int x3')] → f_law_p591 k18 L xs s' q' x3' = some 1 → W p l e room_1 sS m #[Value.ref b] below meth c H locs 51 5492 (lw_Z below #[Value.ref b] sS) (F0 m 591 ls []) := by
  intro s q x3 H locs ls hw hl hf
  unfold f_law_p591 at hf
  refine lv_aload_n (pc := 591) E.1 E.2.1 dL_law_591 rfl (lv_at hl 1 rfl) ?_
  refine lv_aload_n (pc := 592) E.1 E.2.1 dL_law_592 rfl (lv_at hl 0 rfl) ?_
  refine lv_iload_n (pc := 593) E.1 E.2.1 dL_law_593 rfl (lv_at hl 3 rfl) ?_
  refine lv_iconst (v := 1) (pc := 594) E.1 E.2.1 dL_law_594 (by decide) ?_
  refine lv_iadd (pc := 595) E.1 E.2.1 dL_law_595 ?_
  obtain ⟨v2, g1, hf⟩ := x_bind hf
  refine x_sld (pc := 596) E hX hbl hw g1 dL_law_596 ?_
  refine lv_aload_n (pc := 597) E.1 E.2.1 dL_law_597 rfl (lv_at hl 0 rfl) ?_
  refine lv_iload_n (pc := 598) E.1 E.2.1 dL_law_598 rfl (lv_at hl 3 rfl) ?_
  refine lv_iconst (v := 2) (pc := 599) E.1 E.2.1 dL_law_599 (by decide) ?_
  refine lv_iadd (pc := 600) E.1 E.2.1 dL_law_600 ?_
  obtain ⟨v4, g3, hf⟩ := x_bind hf
  refine x_sld (pc := 601) E hX hbl hw g3 dL_law_601 ?_
  obtain ⟨v5, g6, hf⟩ := x_bind hf
  refine x_callV (pc := 602) (As := [.int v2, .int v4]) (rest := []) (st1 := [.int v5.1]) (ws' := (cells7 G ad v5.2 ++ cells8 G ae q)) E hw hl (c_X7_amend l G ad s v2 v4 g6) xv_L_63 xd_X7_amend rfl rfl ⟨Nat.le_of_ble_eq_true rfl, Nat.le_of_ble_eq_true rfl⟩ [0, 1, 2, 3, 4, 5, 6, 7, 8, 9, 10, 11, 12, 13, 14, 15, 16, 17, 18, 19, 20, 21, 22, 23, 24, 25, 26, 27, 28, 29, 30] [31, 32, 33, 34, 35, 36, 37, 38, 39, 40, 41, 42, 43, 44, 45, 46, 47, 48, 49, 50] (by decide) ⟨rfl, rfl, rfl, rfl, rfl, rfl, rfl, rfl, rfl, rfl, rfl, rfl, rfl, rfl, rfl, rfl, rfl, rfl, rfl, rfl, rfl, rfl, rfl, rfl, rfl, rfl, rfl, rfl, rfl, rfl, rfl, trivial⟩ (q0 := 0) rfl rfl rfl rfl (Nat.le_of_ble_eq_true rfl) (nw := 51) ⟨rfl, rfl, rfl, rfl, rfl, rfl, rfl, rfl, rfl, rfl, rfl, rfl, rfl, rfl, rfl, rfl, rfl, rfl, rfl, rfl, rfl, rfl, rfl, rfl, rfl, rfl, rfl, rfl, rfl, rfl, rfl, trivial⟩ ⟨⟨_, rfl, rfl⟩, ⟨_, rfl, rfl⟩, ⟨_, rfl, rfl⟩, ⟨_, rfl, rfl⟩, ⟨_, rfl, rfl⟩, ⟨_, rfl, rfl⟩, ⟨_, rfl, rfl⟩, ⟨_, rfl, rfl⟩, ⟨_, rfl, rfl⟩, ⟨_, rfl, rfl⟩, ⟨_, rfl, rfl⟩, ⟨_, rfl, rfl⟩, ⟨_, rfl, rfl⟩, ⟨_, rfl, rfl⟩, ⟨_, rfl, rfl⟩, ⟨_, rfl, rfl⟩, ⟨_, rfl, rfl⟩, ⟨_, rfl, rfl⟩, ⟨_, rfl, rfl⟩, ⟨_, rfl, rfl⟩, trivial⟩ rfl rfl (by decide) (by decide) rfl dL_law_602 (fun H locs hw => ?_) (hcs := ⟨Nat.le_refl _, Nat.le_refl _⟩)
  refine lv_aload_n (pc := 605) E.1 E.2.1 dL_law_605 rfl (lv_at hl 2 rfl) ?_
  refine lv_aload_n (pc := 606) E.1 E.2.1 dL_law_606 rfl (lv_at hl 0 rfl) ?_
  refine lv_iload_n (pc := 607) E.1 E.2.1 dL_law_607 rfl (lv_at hl 3 rfl) ?_
  refine lv_iconst (v := 1) (pc := 608) E.1 E.2.1 dL_law_608 (by decide) ?_
  refine lv_iadd (pc := 609) E.1 E.2.1 dL_law_609 ?_
  obtain ⟨v8, g7, hf⟩ := x_bind hf
  refine x_sld (pc := 610) E hX hbl hw g7 dL_law_610 ?_
  refine lv_aload_n (pc := 611) E.1 E.2.1 dL_law_611 rfl (lv_at hl 0 rfl) ?_
  refine lv_iload_n (pc := 612) E.1 E.2.1 dL_law_612 rfl (lv_at hl 3 rfl) ?_
  refine lv_iconst (v := 2) (pc := 613) E.1 E.2.1 dL_law_613 (by decide) ?_
  refine lv_iadd (pc := 614) E.1 E.2.1 dL_law_614 ?_
  obtain ⟨v10, g9, hf⟩ := x_bind hf
  refine x_sld (pc := 615) E hX hbl hw g9 dL_law_615 ?_
  obtain ⟨v11, g12, hf⟩ := x_bind hf
  refine x_callV (pc := 616) (As := [.int v8, .int v10]) (rest := [.int v5.1]) (st1 := [.int v11.1, .int v5.1]) (ws' := (cells7 G ad v5.2 ++ cells8 G ae v11.2)) E hw hl (c_X8_amend l G ae q v8 v10 g12) xv_L_66 xd_X8_amend rfl rfl ⟨Nat.le_of_ble_eq_true rfl, Nat.le_of_ble_eq_true rfl⟩ [31, 32, 33, 34, 35, 36, 37, 38, 39, 40, 41, 42, 43, 44, 45, 46, 47, 48, 49, 50] [0, 1, 2, 3, 4, 5, 6, 7, 8, 9, 10, 11, 12, 13, 14, 15, 16, 17, 18, 19, 20, 21, 22, 23, 24, 25, 26, 27, 28, 29, 30] (by decide) ⟨rfl, rfl, rfl, rfl, rfl, rfl, rfl, rfl, rfl, rfl, rfl, rfl, rfl, rfl, rfl, rfl, rfl, rfl, rfl, rfl, trivial⟩ (q0 := 31) rfl rfl rfl rfl (Nat.le_of_ble_eq_true rfl) (nw := 51) ⟨rfl, rfl, rfl, rfl, rfl, rfl, rfl, rfl, rfl, rfl, rfl, rfl, rfl, rfl, rfl, rfl, rfl, rfl, rfl, rfl, trivial⟩ ⟨⟨_, rfl, rfl⟩, ⟨_, rfl, rfl⟩, ⟨_, rfl, rfl⟩, ⟨_, rfl, rfl⟩, ⟨_, rfl, rfl⟩, ⟨_, rfl, rfl⟩, ⟨_, rfl, rfl⟩, ⟨_, rfl, rfl⟩, ⟨_, rfl, rfl⟩, ⟨_, rfl, rfl⟩, ⟨_, rfl, rfl⟩, ⟨_, rfl, rfl⟩, ⟨_, rfl, rfl⟩, ⟨_, rfl, rfl⟩, ⟨_, rfl, rfl⟩, ⟨_, rfl, rfl⟩, ⟨_, rfl, rfl⟩, ⟨_, rfl, rfl⟩, ⟨_, rfl, rfl⟩, ⟨_, rfl, rfl⟩, ⟨_, rfl, rfl⟩, ⟨_, rfl, rfl⟩, ⟨_, rfl, rfl⟩, ⟨_, rfl, rfl⟩, ⟨_, rfl, rfl⟩, ⟨_, rfl, rfl⟩, ⟨_, rfl, rfl⟩, ⟨_, rfl, rfl⟩, ⟨_, rfl, rfl⟩, ⟨_, rfl, rfl⟩, ⟨_, rfl, rfl⟩, trivial⟩ rfl rfl (by decide) (by decide) rfl dL_law_616 (fun H locs hw => ?_) (hcs := ⟨Nat.le_refl _, Nat.le_refl _⟩)
  refine lv_icmp_eq (tgt := 1816) (pc := 619) E.1 E.2.1 dL_law_619 (by decide) (fun q13 => ?_) (fun q13 => ?_)
  · have hf := x_pos q13 hf
    exact w_law_p1816 E hX hbl hr hk hk18 v5.2 v11.2 x3 hw (lv_sub hl [0, 1, 2, 3] rfl) hf
  · have hf := x_neg q13 hf
    refine lv_iconst (v := 0) (pc := 622) E.1 E.2.1 dL_law_622 (by decide) ?_
    exact absurd (Option.some.inj hf) (by decide)
set_option maxHeartbeats 4000000 in
set_option maxRecDepth 100000 in
theorem w_law_p568 {p : Program} {l : Launch} {e : Env} {sS : State} {m : MethodId} {below : List Frame} {meth : Method} {c : Code} {G : xG} {ad ae : Nat → Nat} {b L : Nat} {xs : Nat → Int32} {k18 : S7 → S8 → Int32 → Option Int32} (E : xE p sS m #[Value.ref b] c cL_law 4 RL G (fun q => sS.heap.size ≤ q)) (hX : va_X b L xs sS sS.heap) (hbl : b < sS.heap.size) (hr : meth.sig.returnType = ret) (hk : meth.locks = false) (hk18 : ∀ (s' : S7) (q' : S8) (x3' : Int32) {H : Heap} {locs : List Loc} {ls : Array Slot}, xW G (fun q => sS.heap.size ≤ q) sS.heap (cells7 G ad s' ++ cells8 G ae q') H locs → lv_has ls 4 [(0, .ref b), (1, .ref (ad 0)), (2, .ref (ae 0)), (3, .int x3')] → k18  s' q' x3' = some 1 → W p l e room_1 sS m #[Value.ref b] below meth c H locs 51 5492 (lw_Z below #[Value.ref b] sS) (F0 m 18 ls [])) : ∀ (s' : S7) (q' : S8) (x3' : Int32) {H : Heap} {locs : List Loc} {ls : Array Slot}, xW G (fun q => sS.heap.size ≤ q) sS.heap (cells7 G ad s' ++ cells8 G ae q') H locs → lv_has ls 4 [(0, .ref b), (1, .ref (ad 0)), (2, .ref (ae 0)), (3, .int x3')] → f_law_p568 k18 L xs s' q' x3' = some 1 → W p l e room_1 sS m #[Value.ref b] below meth c H locs 51 5492 (lw_Z below #[Value.ref b] sS) (F0 m 568 ls []) := by
  intro s q x3 H locs ls hw hl hf
  unfold f_law_p568 at hf
  refine lv_aload_n (pc := 568) E.1 E.2.1 dL_law_568 rfl (lv_at hl 1 rfl) ?_
  refine lv_aload_n (pc := 569) E.1 E.2.1 dL_law_569 rfl (lv_at hl 0 rfl) ?_
  refine lv_iload_n (pc := 570) E.1 E.2.1 dL_law_570 rfl (lv_at hl 3 rfl) ?_
  refine lv_iconst (v := 1) (pc := 571) E.1 E.2.1 dL_law_571 (by decide) ?_
  refine lv_iadd (pc := 572) E.1 E.2.1 dL_law_572 ?_
  obtain ⟨v2, g1, hf⟩ := x_bind hf
  refine x_sld (pc := 573) E hX hbl hw g1 dL_law_573 ?_
  obtain ⟨v3, g4, hf⟩ := x_bind hf
  refine x_callV (pc := 574) (As := [.int v2]) (rest := []) (st1 := [.int v3.1]) (ws' := (cells7 G ad v3.2 ++ cells8 G ae q)) E hw hl (c_X7_waive l G ad s v2 g4) xv_L_59 xd_X7_waive rfl rfl ⟨Nat.le_of_ble_eq_true rfl, Nat.le_of_ble_eq_true rfl⟩ [0, 1, 2, 3, 4, 5, 6, 7, 8, 9, 10, 11, 12, 13, 14, 15, 16, 17, 18, 19, 20, 21, 22, 23, 24, 25, 26, 27, 28, 29, 30] [31, 32, 33, 34, 35, 36, 37, 38, 39, 40, 41, 42, 43, 44, 45, 46, 47, 48, 49, 50] (by decide) ⟨rfl, rfl, rfl, rfl, rfl, rfl, rfl, rfl, rfl, rfl, rfl, rfl, rfl, rfl, rfl, rfl, rfl, rfl, rfl, rfl, rfl, rfl, rfl, rfl, rfl, rfl, rfl, rfl, rfl, rfl, rfl, trivial⟩ (q0 := 0) rfl rfl rfl rfl (Nat.le_of_ble_eq_true rfl) (nw := 51) ⟨rfl, rfl, rfl, rfl, rfl, rfl, rfl, rfl, rfl, rfl, rfl, rfl, rfl, rfl, rfl, rfl, rfl, rfl, rfl, rfl, rfl, rfl, rfl, rfl, rfl, rfl, rfl, rfl, rfl, rfl, rfl, trivial⟩ ⟨⟨_, rfl, rfl⟩, ⟨_, rfl, rfl⟩, ⟨_, rfl, rfl⟩, ⟨_, rfl, rfl⟩, ⟨_, rfl, rfl⟩, ⟨_, rfl, rfl⟩, ⟨_, rfl, rfl⟩, ⟨_, rfl, rfl⟩, ⟨_, rfl, rfl⟩, ⟨_, rfl, rfl⟩, ⟨_, rfl, rfl⟩, ⟨_, rfl, rfl⟩, ⟨_, rfl, rfl⟩, ⟨_, rfl, rfl⟩, ⟨_, rfl, rfl⟩, ⟨_, rfl, rfl⟩, ⟨_, rfl, rfl⟩, ⟨_, rfl, rfl⟩, ⟨_, rfl, rfl⟩, ⟨_, rfl, rfl⟩, trivial⟩ rfl rfl (by decide) (by decide) rfl dL_law_574 (fun H locs hw => ?_) (hcs := ⟨Nat.le_refl _, Nat.le_refl _⟩)
  refine lv_aload_n (pc := 577) E.1 E.2.1 dL_law_577 rfl (lv_at hl 2 rfl) ?_
  refine lv_aload_n (pc := 578) E.1 E.2.1 dL_law_578 rfl (lv_at hl 0 rfl) ?_
  refine lv_iload_n (pc := 579) E.1 E.2.1 dL_law_579 rfl (lv_at hl 3 rfl) ?_
  refine lv_iconst (v := 1) (pc := 580) E.1 E.2.1 dL_law_580 (by decide) ?_
  refine lv_iadd (pc := 581) E.1 E.2.1 dL_law_581 ?_
  obtain ⟨v6, g5, hf⟩ := x_bind hf
  refine x_sld (pc := 582) E hX hbl hw g5 dL_law_582 ?_
  obtain ⟨v7, g8, hf⟩ := x_bind hf
  refine x_callV (pc := 583) (As := [.int v6]) (rest := [.int v3.1]) (st1 := [.int v7.1, .int v3.1]) (ws' := (cells7 G ad v3.2 ++ cells8 G ae v7.2)) E hw hl (c_X8_waive l G ae q v6 g8) xv_L_62 xd_X8_waive rfl rfl ⟨Nat.le_of_ble_eq_true rfl, Nat.le_of_ble_eq_true rfl⟩ [31, 32, 33, 34, 35, 36, 37, 38, 39, 40, 41, 42, 43, 44, 45, 46, 47, 48, 49, 50] [0, 1, 2, 3, 4, 5, 6, 7, 8, 9, 10, 11, 12, 13, 14, 15, 16, 17, 18, 19, 20, 21, 22, 23, 24, 25, 26, 27, 28, 29, 30] (by decide) ⟨rfl, rfl, rfl, rfl, rfl, rfl, rfl, rfl, rfl, rfl, rfl, rfl, rfl, rfl, rfl, rfl, rfl, rfl, rfl, rfl, trivial⟩ (q0 := 31) rfl rfl rfl rfl (Nat.le_of_ble_eq_true rfl) (nw := 51) ⟨rfl, rfl, rfl, rfl, rfl, rfl, rfl, rfl, rfl, rfl, rfl, rfl, rfl, rfl, rfl, rfl, rfl, rfl, rfl, rfl, trivial⟩ ⟨⟨_, rfl, rfl⟩, ⟨_, rfl, rfl⟩, ⟨_, rfl, rfl⟩, ⟨_, rfl, rfl⟩, ⟨_, rfl, rfl⟩, ⟨_, rfl, rfl⟩, ⟨_, rfl, rfl⟩, ⟨_, rfl, rfl⟩, ⟨_, rfl, rfl⟩, ⟨_, rfl, rfl⟩, ⟨_, rfl, rfl⟩, ⟨_, rfl, rfl⟩, ⟨_, rfl, rfl⟩, ⟨_, rfl, rfl⟩, ⟨_, rfl, rfl⟩, ⟨_, rfl, rfl⟩, ⟨_, rfl, rfl⟩, ⟨_, rfl, rfl⟩, ⟨_, rfl, rfl⟩, ⟨_, rfl, rfl⟩, ⟨_, rfl, rfl⟩, ⟨_, rfl, rfl⟩, ⟨_, rfl, rfl⟩, ⟨_, rfl, rfl⟩, ⟨_, rfl, rfl⟩, ⟨_, rfl, rfl⟩, ⟨_, rfl, rfl⟩, ⟨_, rfl, rfl⟩, ⟨_, rfl, rfl⟩, ⟨_, rfl, rfl⟩, ⟨_, rfl, rfl⟩, trivial⟩ rfl rfl (by decide) (by decide) rfl dL_law_583 (fun H locs hw => ?_) (hcs := ⟨Nat.le_refl _, Nat.le_refl _⟩)
  refine lv_icmp_eq (tgt := 1816) (pc := 586) E.1 E.2.1 dL_law_586 (by decide) (fun q9 => ?_) (fun q9 => ?_)
  · have hf := x_pos q9 hf
    exact w_law_p1816 E hX hbl hr hk hk18 v3.2 v7.2 x3 hw (lv_sub hl [0, 1, 2, 3] rfl) hf
  · have hf := x_neg q9 hf
    refine lv_iconst (v := 0) (pc := 589) E.1 E.2.1 dL_law_589 (by decide) ?_
    exact absurd (Option.some.inj hf) (by decide)
set_option maxHeartbeats 4000000 in
set_option maxRecDepth 100000 in
theorem w_law_p525 {p : Program} {l : Launch} {e : Env} {sS : State} {m : MethodId} {below : List Frame} {meth : Method} {c : Code} {G : xG} {ad ae : Nat → Nat} {b L : Nat} {xs : Nat → Int32} {k18 : S7 → S8 → Int32 → Option Int32} (E : xE p sS m #[Value.ref b] c cL_law 4 RL G (fun q => sS.heap.size ≤ q)) (hX : va_X b L xs sS sS.heap) (hbl : b < sS.heap.size) (hr : meth.sig.returnType = ret) (hk : meth.locks = false) (hk18 : ∀ (s' : S7) (q' : S8) (x3' : Int32) {H : Heap} {locs : List Loc} {ls : Array Slot}, xW G (fun q => sS.heap.size ≤ q) sS.heap (cells7 G ad s' ++ cells8 G ae q') H locs → lv_has ls 4 [(0, .ref b), (1, .ref (ad 0)), (2, .ref (ae 0)), (3, .int x3')] → k18  s' q' x3' = some 1 → W p l e room_1 sS m #[Value.ref b] below meth c H locs 51 5492 (lw_Z below #[Value.ref b] sS) (F0 m 18 ls [])) : ∀ (s' : S7) (q' : S8) (x3' : Int32) {H : Heap} {locs : List Loc} {ls : Array Slot}, xW G (fun q => sS.heap.size ≤ q) sS.heap (cells7 G ad s' ++ cells8 G ae q') H locs → lv_has ls 4 [(0, .ref b), (1, .ref (ad 0)), (2, .ref (ae 0)), (3, .int x3')] → f_law_p525 k18 L xs s' q' x3' = some 1 → W p l e room_1 sS m #[Value.ref b] below meth c H locs 51 5492 (lw_Z below #[Value.ref b] sS) (F0 m 525 ls []) := by
  intro s q x3 H locs ls hw hl hf
  unfold f_law_p525 at hf
  refine lv_aload_n (pc := 525) E.1 E.2.1 dL_law_525 rfl (lv_at hl 1 rfl) ?_
  refine lv_aload_n (pc := 526) E.1 E.2.1 dL_law_526 rfl (lv_at hl 0 rfl) ?_
  refine lv_iload_n (pc := 527) E.1 E.2.1 dL_law_527 rfl (lv_at hl 3 rfl) ?_
  refine lv_iconst (v := 1) (pc := 528) E.1 E.2.1 dL_law_528 (by decide) ?_
  refine lv_iadd (pc := 529) E.1 E.2.1 dL_law_529 ?_
  obtain ⟨v2, g1, hf⟩ := x_bind hf
  refine x_sld (pc := 530) E hX hbl hw g1 dL_law_530 ?_
  refine lv_aload_n (pc := 531) E.1 E.2.1 dL_law_531 rfl (lv_at hl 0 rfl) ?_
  refine lv_iload_n (pc := 532) E.1 E.2.1 dL_law_532 rfl (lv_at hl 3 rfl) ?_
  refine lv_iconst (v := 2) (pc := 533) E.1 E.2.1 dL_law_533 (by decide) ?_
  refine lv_iadd (pc := 534) E.1 E.2.1 dL_law_534 ?_
  obtain ⟨v4, g3, hf⟩ := x_bind hf
  refine x_sld (pc := 535) E hX hbl hw g3 dL_law_535 ?_
  refine lv_aload_n (pc := 536) E.1 E.2.1 dL_law_536 rfl (lv_at hl 0 rfl) ?_
  refine lv_iload_n (pc := 537) E.1 E.2.1 dL_law_537 rfl (lv_at hl 3 rfl) ?_
  refine lv_iconst (v := 3) (pc := 538) E.1 E.2.1 dL_law_538 (by decide) ?_
  refine lv_iadd (pc := 539) E.1 E.2.1 dL_law_539 ?_
  obtain ⟨v6, g5, hf⟩ := x_bind hf
  refine x_sld (pc := 540) E hX hbl hw g5 dL_law_540 ?_
  obtain ⟨v7, g8, hf⟩ := x_bind hf
  refine x_callV (pc := 541) (As := [.int v2, .int v4, .int v6]) (rest := []) (st1 := [.int v7.1]) (ws' := (cells7 G ad v7.2 ++ cells8 G ae q)) E hw hl (c_X7_claim l G ad s v2 v4 v6 g8) xv_L_54 xd_X7_claim rfl rfl ⟨Nat.le_of_ble_eq_true rfl, Nat.le_of_ble_eq_true rfl⟩ [0, 1, 2, 3, 4, 5, 6, 7, 8, 9, 10, 11, 12, 13, 14, 15, 16, 17, 18, 19, 20, 21, 22, 23, 24, 25, 26, 27, 28, 29, 30] [31, 32, 33, 34, 35, 36, 37, 38, 39, 40, 41, 42, 43, 44, 45, 46, 47, 48, 49, 50] (by decide) ⟨rfl, rfl, rfl, rfl, rfl, rfl, rfl, rfl, rfl, rfl, rfl, rfl, rfl, rfl, rfl, rfl, rfl, rfl, rfl, rfl, rfl, rfl, rfl, rfl, rfl, rfl, rfl, rfl, rfl, rfl, rfl, trivial⟩ (q0 := 0) rfl rfl rfl rfl (Nat.le_of_ble_eq_true rfl) (nw := 51) ⟨rfl, rfl, rfl, rfl, rfl, rfl, rfl, rfl, rfl, rfl, rfl, rfl, rfl, rfl, rfl, rfl, rfl, rfl, rfl, rfl, rfl, rfl, rfl, rfl, rfl, rfl, rfl, rfl, rfl, rfl, rfl, trivial⟩ ⟨⟨_, rfl, rfl⟩, ⟨_, rfl, rfl⟩, ⟨_, rfl, rfl⟩, ⟨_, rfl, rfl⟩, ⟨_, rfl, rfl⟩, ⟨_, rfl, rfl⟩, ⟨_, rfl, rfl⟩, ⟨_, rfl, rfl⟩, ⟨_, rfl, rfl⟩, ⟨_, rfl, rfl⟩, ⟨_, rfl, rfl⟩, ⟨_, rfl, rfl⟩, ⟨_, rfl, rfl⟩, ⟨_, rfl, rfl⟩, ⟨_, rfl, rfl⟩, ⟨_, rfl, rfl⟩, ⟨_, rfl, rfl⟩, ⟨_, rfl, rfl⟩, ⟨_, rfl, rfl⟩, ⟨_, rfl, rfl⟩, trivial⟩ rfl rfl (by decide) (by decide) rfl dL_law_541 (fun H locs hw => ?_) (hcs := ⟨Nat.le_refl _, Nat.le_refl _⟩)
  refine lv_aload_n (pc := 544) E.1 E.2.1 dL_law_544 rfl (lv_at hl 2 rfl) ?_
  refine lv_aload_n (pc := 545) E.1 E.2.1 dL_law_545 rfl (lv_at hl 0 rfl) ?_
  refine lv_iload_n (pc := 546) E.1 E.2.1 dL_law_546 rfl (lv_at hl 3 rfl) ?_
  refine lv_iconst (v := 1) (pc := 547) E.1 E.2.1 dL_law_547 (by decide) ?_
  refine lv_iadd (pc := 548) E.1 E.2.1 dL_law_548 ?_
  obtain ⟨v10, g9, hf⟩ := x_bind hf
  refine x_sld (pc := 549) E hX hbl hw g9 dL_law_549 ?_
  refine lv_aload_n (pc := 550) E.1 E.2.1 dL_law_550 rfl (lv_at hl 0 rfl) ?_
  refine lv_iload_n (pc := 551) E.1 E.2.1 dL_law_551 rfl (lv_at hl 3 rfl) ?_
  refine lv_iconst (v := 2) (pc := 552) E.1 E.2.1 dL_law_552 (by decide) ?_
  refine lv_iadd (pc := 553) E.1 E.2.1 dL_law_553 ?_
  obtain ⟨v12, g11, hf⟩ := x_bind hf
  refine x_sld (pc := 554) E hX hbl hw g11 dL_law_554 ?_
  refine lv_aload_n (pc := 555) E.1 E.2.1 dL_law_555 rfl (lv_at hl 0 rfl) ?_
  refine lv_iload_n (pc := 556) E.1 E.2.1 dL_law_556 rfl (lv_at hl 3 rfl) ?_
  refine lv_iconst (v := 3) (pc := 557) E.1 E.2.1 dL_law_557 (by decide) ?_
  refine lv_iadd (pc := 558) E.1 E.2.1 dL_law_558 ?_
  obtain ⟨v14, g13, hf⟩ := x_bind hf
  refine x_sld (pc := 559) E hX hbl hw g13 dL_law_559 ?_
  obtain ⟨v15, g16, hf⟩ := x_bind hf
  refine x_callV (pc := 560) (As := [.int v10, .int v12, .int v14]) (rest := [.int v7.1]) (st1 := [.int v15.1, .int v7.1]) (ws' := (cells7 G ad v7.2 ++ cells8 G ae v15.2)) E hw hl (c_X8_claim l G ae q v10 v12 v14 g16) xv_L_58 xd_X8_claim rfl rfl ⟨Nat.le_of_ble_eq_true rfl, Nat.le_of_ble_eq_true rfl⟩ [31, 32, 33, 34, 35, 36, 37, 38, 39, 40, 41, 42, 43, 44, 45, 46, 47, 48, 49, 50] [0, 1, 2, 3, 4, 5, 6, 7, 8, 9, 10, 11, 12, 13, 14, 15, 16, 17, 18, 19, 20, 21, 22, 23, 24, 25, 26, 27, 28, 29, 30] (by decide) ⟨rfl, rfl, rfl, rfl, rfl, rfl, rfl, rfl, rfl, rfl, rfl, rfl, rfl, rfl, rfl, rfl, rfl, rfl, rfl, rfl, trivial⟩ (q0 := 31) rfl rfl rfl rfl (Nat.le_of_ble_eq_true rfl) (nw := 51) ⟨rfl, rfl, rfl, rfl, rfl, rfl, rfl, rfl, rfl, rfl, rfl, rfl, rfl, rfl, rfl, rfl, rfl, rfl, rfl, rfl, trivial⟩ ⟨⟨_, rfl, rfl⟩, ⟨_, rfl, rfl⟩, ⟨_, rfl, rfl⟩, ⟨_, rfl, rfl⟩, ⟨_, rfl, rfl⟩, ⟨_, rfl, rfl⟩, ⟨_, rfl, rfl⟩, ⟨_, rfl, rfl⟩, ⟨_, rfl, rfl⟩, ⟨_, rfl, rfl⟩, ⟨_, rfl, rfl⟩, ⟨_, rfl, rfl⟩, ⟨_, rfl, rfl⟩, ⟨_, rfl, rfl⟩, ⟨_, rfl, rfl⟩, ⟨_, rfl, rfl⟩, ⟨_, rfl, rfl⟩, ⟨_, rfl, rfl⟩, ⟨_, rfl, rfl⟩, ⟨_, rfl, rfl⟩, ⟨_, rfl, rfl⟩, ⟨_, rfl, rfl⟩, ⟨_, rfl, rfl⟩, ⟨_, rfl, rfl⟩, ⟨_, rfl, rfl⟩, ⟨_, rfl, rfl⟩, ⟨_, rfl, rfl⟩, ⟨_, rfl, rfl⟩, ⟨_, rfl, rfl⟩, ⟨_, rfl, rfl⟩, ⟨_, rfl, rfl⟩, trivial⟩ rfl rfl (by decide) (by decide) rfl dL_law_560 (fun H locs hw => ?_) (hcs := ⟨Nat.le_refl _, Nat.le_refl _⟩)
  refine lv_icmp_eq (tgt := 1816) (pc := 563) E.1 E.2.1 dL_law_563 (by decide) (fun q17 => ?_) (fun q17 => ?_)
  · have hf := x_pos q17 hf
    exact w_law_p1816 E hX hbl hr hk hk18 v7.2 v15.2 x3 hw (lv_sub hl [0, 1, 2, 3] rfl) hf
  · have hf := x_neg q17 hf
    refine lv_iconst (v := 0) (pc := 566) E.1 E.2.1 dL_law_566 (by decide) ?_
    exact absurd (Option.some.inj hf) (by decide)
set_option maxHeartbeats 4000000 in
set_option maxRecDepth 100000 in
theorem w_law_p502 {p : Program} {l : Launch} {e : Env} {sS : State} {m : MethodId} {below : List Frame} {meth : Method} {c : Code} {G : xG} {ad ae : Nat → Nat} {b L : Nat} {xs : Nat → Int32} {k18 : S7 → S8 → Int32 → Option Int32} (E : xE p sS m #[Value.ref b] c cL_law 4 RL G (fun q => sS.heap.size ≤ q)) (hX : va_X b L xs sS sS.heap) (hbl : b < sS.heap.size) (hr : meth.sig.returnType = ret) (hk : meth.locks = false) (hk18 : ∀ (s' : S7) (q' : S8) (x3' : Int32) {H : Heap} {locs : List Loc} {ls : Array Slot}, xW G (fun q => sS.heap.size ≤ q) sS.heap (cells7 G ad s' ++ cells8 G ae q') H locs → lv_has ls 4 [(0, .ref b), (1, .ref (ad 0)), (2, .ref (ae 0)), (3, .int x3')] → k18  s' q' x3' = some 1 → W p l e room_1 sS m #[Value.ref b] below meth c H locs 51 5492 (lw_Z below #[Value.ref b] sS) (F0 m 18 ls [])) : ∀ (s' : S7) (q' : S8) (x3' : Int32) {H : Heap} {locs : List Loc} {ls : Array Slot}, xW G (fun q => sS.heap.size ≤ q) sS.heap (cells7 G ad s' ++ cells8 G ae q') H locs → lv_has ls 4 [(0, .ref b), (1, .ref (ad 0)), (2, .ref (ae 0)), (3, .int x3')] → f_law_p502 k18 L xs s' q' x3' = some 1 → W p l e room_1 sS m #[Value.ref b] below meth c H locs 51 5492 (lw_Z below #[Value.ref b] sS) (F0 m 502 ls []) := by
  intro s q x3 H locs ls hw hl hf
  unfold f_law_p502 at hf
  refine lv_aload_n (pc := 502) E.1 E.2.1 dL_law_502 rfl (lv_at hl 1 rfl) ?_
  refine lv_aload_n (pc := 503) E.1 E.2.1 dL_law_503 rfl (lv_at hl 0 rfl) ?_
  refine lv_iload_n (pc := 504) E.1 E.2.1 dL_law_504 rfl (lv_at hl 3 rfl) ?_
  refine lv_iconst (v := 1) (pc := 505) E.1 E.2.1 dL_law_505 (by decide) ?_
  refine lv_iadd (pc := 506) E.1 E.2.1 dL_law_506 ?_
  obtain ⟨v2, g1, hf⟩ := x_bind hf
  refine x_sld (pc := 507) E hX hbl hw g1 dL_law_507 ?_
  obtain ⟨v3, g4, hf⟩ := x_bind hf
  refine x_callV (pc := 508) (As := [.int v2]) (rest := []) (st1 := [.int v3.1]) (ws' := (cells7 G ad v3.2 ++ cells8 G ae q)) E hw hl (c_X7_forget l G ad s v2 g4) xv_L_50 xd_X7_forget rfl rfl ⟨Nat.le_of_ble_eq_true rfl, Nat.le_of_ble_eq_true rfl⟩ [0, 1, 2, 3, 4, 5, 6, 7, 8, 9, 10, 11, 12, 13, 14, 15, 16, 17, 18, 19, 20, 21, 22, 23, 24, 25, 26, 27, 28, 29, 30] [31, 32, 33, 34, 35, 36, 37, 38, 39, 40, 41, 42, 43, 44, 45, 46, 47, 48, 49, 50] (by decide) ⟨rfl, rfl, rfl, rfl, rfl, rfl, rfl, rfl, rfl, rfl, rfl, rfl, rfl, rfl, rfl, rfl, rfl, rfl, rfl, rfl, rfl, rfl, rfl, rfl, rfl, rfl, rfl, rfl, rfl, rfl, rfl, trivial⟩ (q0 := 0) rfl rfl rfl rfl (Nat.le_of_ble_eq_true rfl) (nw := 51) ⟨rfl, rfl, rfl, rfl, rfl, rfl, rfl, rfl, rfl, rfl, rfl, rfl, rfl, rfl, rfl, rfl, rfl, rfl, rfl, rfl, rfl, rfl, rfl, rfl, rfl, rfl, rfl, rfl, rfl, rfl, rfl, trivial⟩ ⟨⟨_, rfl, rfl⟩, ⟨_, rfl, rfl⟩, ⟨_, rfl, rfl⟩, ⟨_, rfl, rfl⟩, ⟨_, rfl, rfl⟩, ⟨_, rfl, rfl⟩, ⟨_, rfl, rfl⟩, ⟨_, rfl, rfl⟩, ⟨_, rfl, rfl⟩, ⟨_, rfl, rfl⟩, ⟨_, rfl, rfl⟩, ⟨_, rfl, rfl⟩, ⟨_, rfl, rfl⟩, ⟨_, rfl, rfl⟩, ⟨_, rfl, rfl⟩, ⟨_, rfl, rfl⟩, ⟨_, rfl, rfl⟩, ⟨_, rfl, rfl⟩, ⟨_, rfl, rfl⟩, ⟨_, rfl, rfl⟩, trivial⟩ rfl rfl (by decide) (by decide) rfl dL_law_508 (fun H locs hw => ?_) (hcs := ⟨Nat.le_refl _, Nat.le_refl _⟩)
  refine lv_aload_n (pc := 511) E.1 E.2.1 dL_law_511 rfl (lv_at hl 2 rfl) ?_
  refine lv_aload_n (pc := 512) E.1 E.2.1 dL_law_512 rfl (lv_at hl 0 rfl) ?_
  refine lv_iload_n (pc := 513) E.1 E.2.1 dL_law_513 rfl (lv_at hl 3 rfl) ?_
  refine lv_iconst (v := 1) (pc := 514) E.1 E.2.1 dL_law_514 (by decide) ?_
  refine lv_iadd (pc := 515) E.1 E.2.1 dL_law_515 ?_
  obtain ⟨v6, g5, hf⟩ := x_bind hf
  refine x_sld (pc := 516) E hX hbl hw g5 dL_law_516 ?_
  obtain ⟨v7, g8, hf⟩ := x_bind hf
  refine x_callV (pc := 517) (As := [.int v6]) (rest := [.int v3.1]) (st1 := [.int v7.1, .int v3.1]) (ws' := (cells7 G ad v3.2 ++ cells8 G ae v7.2)) E hw hl (c_X8_forget l G ae q v6 g8) xv_L_53 xd_X8_forget rfl rfl ⟨Nat.le_of_ble_eq_true rfl, Nat.le_of_ble_eq_true rfl⟩ [31, 32, 33, 34, 35, 36, 37, 38, 39, 40, 41, 42, 43, 44, 45, 46, 47, 48, 49, 50] [0, 1, 2, 3, 4, 5, 6, 7, 8, 9, 10, 11, 12, 13, 14, 15, 16, 17, 18, 19, 20, 21, 22, 23, 24, 25, 26, 27, 28, 29, 30] (by decide) ⟨rfl, rfl, rfl, rfl, rfl, rfl, rfl, rfl, rfl, rfl, rfl, rfl, rfl, rfl, rfl, rfl, rfl, rfl, rfl, rfl, trivial⟩ (q0 := 31) rfl rfl rfl rfl (Nat.le_of_ble_eq_true rfl) (nw := 51) ⟨rfl, rfl, rfl, rfl, rfl, rfl, rfl, rfl, rfl, rfl, rfl, rfl, rfl, rfl, rfl, rfl, rfl, rfl, rfl, rfl, trivial⟩ ⟨⟨_, rfl, rfl⟩, ⟨_, rfl, rfl⟩, ⟨_, rfl, rfl⟩, ⟨_, rfl, rfl⟩, ⟨_, rfl, rfl⟩, ⟨_, rfl, rfl⟩, ⟨_, rfl, rfl⟩, ⟨_, rfl, rfl⟩, ⟨_, rfl, rfl⟩, ⟨_, rfl, rfl⟩, ⟨_, rfl, rfl⟩, ⟨_, rfl, rfl⟩, ⟨_, rfl, rfl⟩, ⟨_, rfl, rfl⟩, ⟨_, rfl, rfl⟩, ⟨_, rfl, rfl⟩, ⟨_, rfl, rfl⟩, ⟨_, rfl, rfl⟩, ⟨_, rfl, rfl⟩, ⟨_, rfl, rfl⟩, ⟨_, rfl, rfl⟩, ⟨_, rfl, rfl⟩, ⟨_, rfl, rfl⟩, ⟨_, rfl, rfl⟩, ⟨_, rfl, rfl⟩, ⟨_, rfl, rfl⟩, ⟨_, rfl, rfl⟩, ⟨_, rfl, rfl⟩, ⟨_, rfl, rfl⟩, ⟨_, rfl, rfl⟩, ⟨_, rfl, rfl⟩, trivial⟩ rfl rfl (by decide) (by decide) rfl dL_law_517 (fun H locs hw => ?_) (hcs := ⟨Nat.le_refl _, Nat.le_refl _⟩)
  refine lv_icmp_eq (tgt := 1816) (pc := 520) E.1 E.2.1 dL_law_520 (by decide) (fun q9 => ?_) (fun q9 => ?_)
  · have hf := x_pos q9 hf
    exact w_law_p1816 E hX hbl hr hk hk18 v3.2 v7.2 x3 hw (lv_sub hl [0, 1, 2, 3] rfl) hf
  · have hf := x_neg q9 hf
    refine lv_iconst (v := 0) (pc := 523) E.1 E.2.1 dL_law_523 (by decide) ?_
    exact absurd (Option.some.inj hf) (by decide)
set_option maxHeartbeats 4000000 in
set_option maxRecDepth 100000 in
theorem w_law_p469 {p : Program} {l : Launch} {e : Env} {sS : State} {m : MethodId} {below : List Frame} {meth : Method} {c : Code} {G : xG} {ad ae : Nat → Nat} {b L : Nat} {xs : Nat → Int32} {k18 : S7 → S8 → Int32 → Option Int32} (E : xE p sS m #[Value.ref b] c cL_law 4 RL G (fun q => sS.heap.size ≤ q)) (hX : va_X b L xs sS sS.heap) (hbl : b < sS.heap.size) (hr : meth.sig.returnType = ret) (hk : meth.locks = false) (hk18 : ∀ (s' : S7) (q' : S8) (x3' : Int32) {H : Heap} {locs : List Loc} {ls : Array Slot}, xW G (fun q => sS.heap.size ≤ q) sS.heap (cells7 G ad s' ++ cells8 G ae q') H locs → lv_has ls 4 [(0, .ref b), (1, .ref (ad 0)), (2, .ref (ae 0)), (3, .int x3')] → k18  s' q' x3' = some 1 → W p l e room_1 sS m #[Value.ref b] below meth c H locs 51 5492 (lw_Z below #[Value.ref b] sS) (F0 m 18 ls [])) : ∀ (s' : S7) (q' : S8) (x3' : Int32) {H : Heap} {locs : List Loc} {ls : Array Slot}, xW G (fun q => sS.heap.size ≤ q) sS.heap (cells7 G ad s' ++ cells8 G ae q') H locs → lv_has ls 4 [(0, .ref b), (1, .ref (ad 0)), (2, .ref (ae 0)), (3, .int x3')] → f_law_p469 k18 L xs s' q' x3' = some 1 → W p l e room_1 sS m #[Value.ref b] below meth c H locs 51 5492 (lw_Z below #[Value.ref b] sS) (F0 m 469 ls []) := by
  intro s q x3 H locs ls hw hl hf
  unfold f_law_p469 at hf
  refine lv_aload_n (pc := 469) E.1 E.2.1 dL_law_469 rfl (lv_at hl 1 rfl) ?_
  refine lv_aload_n (pc := 470) E.1 E.2.1 dL_law_470 rfl (lv_at hl 0 rfl) ?_
  refine lv_iload_n (pc := 471) E.1 E.2.1 dL_law_471 rfl (lv_at hl 3 rfl) ?_
  refine lv_iconst (v := 1) (pc := 472) E.1 E.2.1 dL_law_472 (by decide) ?_
  refine lv_iadd (pc := 473) E.1 E.2.1 dL_law_473 ?_
  obtain ⟨v2, g1, hf⟩ := x_bind hf
  refine x_sld (pc := 474) E hX hbl hw g1 dL_law_474 ?_
  refine lv_aload_n (pc := 475) E.1 E.2.1 dL_law_475 rfl (lv_at hl 0 rfl) ?_
  refine lv_iload_n (pc := 476) E.1 E.2.1 dL_law_476 rfl (lv_at hl 3 rfl) ?_
  refine lv_iconst (v := 2) (pc := 477) E.1 E.2.1 dL_law_477 (by decide) ?_
  refine lv_iadd (pc := 478) E.1 E.2.1 dL_law_478 ?_
  obtain ⟨v4, g3, hf⟩ := x_bind hf
  refine x_sld (pc := 479) E hX hbl hw g3 dL_law_479 ?_
  obtain ⟨v5, g6, hf⟩ := x_bind hf
  refine x_callV (pc := 480) (As := [.int v2, .int v4]) (rest := []) (st1 := [.int v5.1]) (ws' := (cells7 G ad v5.2 ++ cells8 G ae q)) E hw hl (c_X7_lapse l G ad s v2 v4 g6) xv_L_46 xd_X7_lapse rfl rfl ⟨Nat.le_of_ble_eq_true rfl, Nat.le_of_ble_eq_true rfl⟩ [0, 1, 2, 3, 4, 5, 6, 7, 8, 9, 10, 11, 12, 13, 14, 15, 16, 17, 18, 19, 20, 21, 22, 23, 24, 25, 26, 27, 28, 29, 30] [31, 32, 33, 34, 35, 36, 37, 38, 39, 40, 41, 42, 43, 44, 45, 46, 47, 48, 49, 50] (by decide) ⟨rfl, rfl, rfl, rfl, rfl, rfl, rfl, rfl, rfl, rfl, rfl, rfl, rfl, rfl, rfl, rfl, rfl, rfl, rfl, rfl, rfl, rfl, rfl, rfl, rfl, rfl, rfl, rfl, rfl, rfl, rfl, trivial⟩ (q0 := 0) rfl rfl rfl rfl (Nat.le_of_ble_eq_true rfl) (nw := 51) ⟨rfl, rfl, rfl, rfl, rfl, rfl, rfl, rfl, rfl, rfl, rfl, rfl, rfl, rfl, rfl, rfl, rfl, rfl, rfl, rfl, rfl, rfl, rfl, rfl, rfl, rfl, rfl, rfl, rfl, rfl, rfl, trivial⟩ ⟨⟨_, rfl, rfl⟩, ⟨_, rfl, rfl⟩, ⟨_, rfl, rfl⟩, ⟨_, rfl, rfl⟩, ⟨_, rfl, rfl⟩, ⟨_, rfl, rfl⟩, ⟨_, rfl, rfl⟩, ⟨_, rfl, rfl⟩, ⟨_, rfl, rfl⟩, ⟨_, rfl, rfl⟩, ⟨_, rfl, rfl⟩, ⟨_, rfl, rfl⟩, ⟨_, rfl, rfl⟩, ⟨_, rfl, rfl⟩, ⟨_, rfl, rfl⟩, ⟨_, rfl, rfl⟩, ⟨_, rfl, rfl⟩, ⟨_, rfl, rfl⟩, ⟨_, rfl, rfl⟩, ⟨_, rfl, rfl⟩, trivial⟩ rfl rfl (by decide) (by decide) rfl dL_law_480 (fun H locs hw => ?_) (hcs := ⟨Nat.le_refl _, Nat.le_refl _⟩)
  refine lv_aload_n (pc := 483) E.1 E.2.1 dL_law_483 rfl (lv_at hl 2 rfl) ?_
  refine lv_aload_n (pc := 484) E.1 E.2.1 dL_law_484 rfl (lv_at hl 0 rfl) ?_
  refine lv_iload_n (pc := 485) E.1 E.2.1 dL_law_485 rfl (lv_at hl 3 rfl) ?_
  refine lv_iconst (v := 1) (pc := 486) E.1 E.2.1 dL_law_486 (by decide) ?_
  refine lv_iadd (pc := 487) E.1 E.2.1 dL_law_487 ?_
  obtain ⟨v8, g7, hf⟩ := x_bind hf
  refine x_sld (pc := 488) E hX hbl hw g7 dL_law_488 ?_
  refine lv_aload_n (pc := 489) E.1 E.2.1 dL_law_489 rfl (lv_at hl 0 rfl) ?_
  refine lv_iload_n (pc := 490) E.1 E.2.1 dL_law_490 rfl (lv_at hl 3 rfl) ?_
  refine lv_iconst (v := 2) (pc := 491) E.1 E.2.1 dL_law_491 (by decide) ?_
  refine lv_iadd (pc := 492) E.1 E.2.1 dL_law_492 ?_
  obtain ⟨v10, g9, hf⟩ := x_bind hf
  refine x_sld (pc := 493) E hX hbl hw g9 dL_law_493 ?_
  obtain ⟨v11, g12, hf⟩ := x_bind hf
  refine x_callV (pc := 494) (As := [.int v8, .int v10]) (rest := [.int v5.1]) (st1 := [.int v11.1, .int v5.1]) (ws' := (cells7 G ad v5.2 ++ cells8 G ae v11.2)) E hw hl (c_X8_lapse l G ae q v8 v10 g12) xv_L_49 xd_X8_lapse rfl rfl ⟨Nat.le_of_ble_eq_true rfl, Nat.le_of_ble_eq_true rfl⟩ [31, 32, 33, 34, 35, 36, 37, 38, 39, 40, 41, 42, 43, 44, 45, 46, 47, 48, 49, 50] [0, 1, 2, 3, 4, 5, 6, 7, 8, 9, 10, 11, 12, 13, 14, 15, 16, 17, 18, 19, 20, 21, 22, 23, 24, 25, 26, 27, 28, 29, 30] (by decide) ⟨rfl, rfl, rfl, rfl, rfl, rfl, rfl, rfl, rfl, rfl, rfl, rfl, rfl, rfl, rfl, rfl, rfl, rfl, rfl, rfl, trivial⟩ (q0 := 31) rfl rfl rfl rfl (Nat.le_of_ble_eq_true rfl) (nw := 51) ⟨rfl, rfl, rfl, rfl, rfl, rfl, rfl, rfl, rfl, rfl, rfl, rfl, rfl, rfl, rfl, rfl, rfl, rfl, rfl, rfl, trivial⟩ ⟨⟨_, rfl, rfl⟩, ⟨_, rfl, rfl⟩, ⟨_, rfl, rfl⟩, ⟨_, rfl, rfl⟩, ⟨_, rfl, rfl⟩, ⟨_, rfl, rfl⟩, ⟨_, rfl, rfl⟩, ⟨_, rfl, rfl⟩, ⟨_, rfl, rfl⟩, ⟨_, rfl, rfl⟩, ⟨_, rfl, rfl⟩, ⟨_, rfl, rfl⟩, ⟨_, rfl, rfl⟩, ⟨_, rfl, rfl⟩, ⟨_, rfl, rfl⟩, ⟨_, rfl, rfl⟩, ⟨_, rfl, rfl⟩, ⟨_, rfl, rfl⟩, ⟨_, rfl, rfl⟩, ⟨_, rfl, rfl⟩, ⟨_, rfl, rfl⟩, ⟨_, rfl, rfl⟩, ⟨_, rfl, rfl⟩, ⟨_, rfl, rfl⟩, ⟨_, rfl, rfl⟩, ⟨_, rfl, rfl⟩, ⟨_, rfl, rfl⟩, ⟨_, rfl, rfl⟩, ⟨_, rfl, rfl⟩, ⟨_, rfl, rfl⟩, ⟨_, rfl, rfl⟩, trivial⟩ rfl rfl (by decide) (by decide) rfl dL_law_494 (fun H locs hw => ?_) (hcs := ⟨Nat.le_refl _, Nat.le_refl _⟩)
  refine lv_icmp_eq (tgt := 1816) (pc := 497) E.1 E.2.1 dL_law_497 (by decide) (fun q13 => ?_) (fun q13 => ?_)
  · have hf := x_pos q13 hf
    exact w_law_p1816 E hX hbl hr hk hk18 v5.2 v11.2 x3 hw (lv_sub hl [0, 1, 2, 3] rfl) hf
  · have hf := x_neg q13 hf
    refine lv_iconst (v := 0) (pc := 500) E.1 E.2.1 dL_law_500 (by decide) ?_
    exact absurd (Option.some.inj hf) (by decide)
set_option maxHeartbeats 4000000 in
set_option maxRecDepth 100000 in
theorem w_law_p436 {p : Program} {l : Launch} {e : Env} {sS : State} {m : MethodId} {below : List Frame} {meth : Method} {c : Code} {G : xG} {ad ae : Nat → Nat} {b L : Nat} {xs : Nat → Int32} {k18 : S7 → S8 → Int32 → Option Int32} (E : xE p sS m #[Value.ref b] c cL_law 4 RL G (fun q => sS.heap.size ≤ q)) (hX : va_X b L xs sS sS.heap) (hbl : b < sS.heap.size) (hr : meth.sig.returnType = ret) (hk : meth.locks = false) (hk18 : ∀ (s' : S7) (q' : S8) (x3' : Int32) {H : Heap} {locs : List Loc} {ls : Array Slot}, xW G (fun q => sS.heap.size ≤ q) sS.heap (cells7 G ad s' ++ cells8 G ae q') H locs → lv_has ls 4 [(0, .ref b), (1, .ref (ad 0)), (2, .ref (ae 0)), (3, .int x3')] → k18  s' q' x3' = some 1 → W p l e room_1 sS m #[Value.ref b] below meth c H locs 51 5492 (lw_Z below #[Value.ref b] sS) (F0 m 18 ls [])) : ∀ (s' : S7) (q' : S8) (x3' : Int32) {H : Heap} {locs : List Loc} {ls : Array Slot}, xW G (fun q => sS.heap.size ≤ q) sS.heap (cells7 G ad s' ++ cells8 G ae q') H locs → lv_has ls 4 [(0, .ref b), (1, .ref (ad 0)), (2, .ref (ae 0)), (3, .int x3')] → f_law_p436 k18 L xs s' q' x3' = some 1 → W p l e room_1 sS m #[Value.ref b] below meth c H locs 51 5492 (lw_Z below #[Value.ref b] sS) (F0 m 436 ls []) := by
  intro s q x3 H locs ls hw hl hf
  unfold f_law_p436 at hf
  refine lv_aload_n (pc := 436) E.1 E.2.1 dL_law_436 rfl (lv_at hl 1 rfl) ?_
  refine lv_aload_n (pc := 437) E.1 E.2.1 dL_law_437 rfl (lv_at hl 0 rfl) ?_
  refine lv_iload_n (pc := 438) E.1 E.2.1 dL_law_438 rfl (lv_at hl 3 rfl) ?_
  refine lv_iconst (v := 1) (pc := 439) E.1 E.2.1 dL_law_439 (by decide) ?_
  refine lv_iadd (pc := 440) E.1 E.2.1 dL_law_440 ?_
  obtain ⟨v2, g1, hf⟩ := x_bind hf
  refine x_sld (pc := 441) E hX hbl hw g1 dL_law_441 ?_
  refine lv_aload_n (pc := 442) E.1 E.2.1 dL_law_442 rfl (lv_at hl 0 rfl) ?_
  refine lv_iload_n (pc := 443) E.1 E.2.1 dL_law_443 rfl (lv_at hl 3 rfl) ?_
  refine lv_iconst (v := 2) (pc := 444) E.1 E.2.1 dL_law_444 (by decide) ?_
  refine lv_iadd (pc := 445) E.1 E.2.1 dL_law_445 ?_
  obtain ⟨v4, g3, hf⟩ := x_bind hf
  refine x_sld (pc := 446) E hX hbl hw g3 dL_law_446 ?_
  obtain ⟨v5, g6, hf⟩ := x_bind hf
  refine x_callV (pc := 447) (As := [.int v2, .int v4]) (rest := []) (st1 := [.int v5.1]) (ws' := (cells7 G ad v5.2 ++ cells8 G ae q)) E hw hl (c_X7_insure l G ad s v2 v4 g6) xv_L_42 xd_X7_insure rfl rfl ⟨Nat.le_of_ble_eq_true rfl, Nat.le_of_ble_eq_true rfl⟩ [0, 1, 2, 3, 4, 5, 6, 7, 8, 9, 10, 11, 12, 13, 14, 15, 16, 17, 18, 19, 20, 21, 22, 23, 24, 25, 26, 27, 28, 29, 30] [31, 32, 33, 34, 35, 36, 37, 38, 39, 40, 41, 42, 43, 44, 45, 46, 47, 48, 49, 50] (by decide) ⟨rfl, rfl, rfl, rfl, rfl, rfl, rfl, rfl, rfl, rfl, rfl, rfl, rfl, rfl, rfl, rfl, rfl, rfl, rfl, rfl, rfl, rfl, rfl, rfl, rfl, rfl, rfl, rfl, rfl, rfl, rfl, trivial⟩ (q0 := 0) rfl rfl rfl rfl (Nat.le_of_ble_eq_true rfl) (nw := 51) ⟨rfl, rfl, rfl, rfl, rfl, rfl, rfl, rfl, rfl, rfl, rfl, rfl, rfl, rfl, rfl, rfl, rfl, rfl, rfl, rfl, rfl, rfl, rfl, rfl, rfl, rfl, rfl, rfl, rfl, rfl, rfl, trivial⟩ ⟨⟨_, rfl, rfl⟩, ⟨_, rfl, rfl⟩, ⟨_, rfl, rfl⟩, ⟨_, rfl, rfl⟩, ⟨_, rfl, rfl⟩, ⟨_, rfl, rfl⟩, ⟨_, rfl, rfl⟩, ⟨_, rfl, rfl⟩, ⟨_, rfl, rfl⟩, ⟨_, rfl, rfl⟩, ⟨_, rfl, rfl⟩, ⟨_, rfl, rfl⟩, ⟨_, rfl, rfl⟩, ⟨_, rfl, rfl⟩, ⟨_, rfl, rfl⟩, ⟨_, rfl, rfl⟩, ⟨_, rfl, rfl⟩, ⟨_, rfl, rfl⟩, ⟨_, rfl, rfl⟩, ⟨_, rfl, rfl⟩, trivial⟩ rfl rfl (by decide) (by decide) rfl dL_law_447 (fun H locs hw => ?_) (hcs := ⟨Nat.le_refl _, Nat.le_refl _⟩)
  refine lv_aload_n (pc := 450) E.1 E.2.1 dL_law_450 rfl (lv_at hl 2 rfl) ?_
  refine lv_aload_n (pc := 451) E.1 E.2.1 dL_law_451 rfl (lv_at hl 0 rfl) ?_
  refine lv_iload_n (pc := 452) E.1 E.2.1 dL_law_452 rfl (lv_at hl 3 rfl) ?_
  refine lv_iconst (v := 1) (pc := 453) E.1 E.2.1 dL_law_453 (by decide) ?_
  refine lv_iadd (pc := 454) E.1 E.2.1 dL_law_454 ?_
  obtain ⟨v8, g7, hf⟩ := x_bind hf
  refine x_sld (pc := 455) E hX hbl hw g7 dL_law_455 ?_
  refine lv_aload_n (pc := 456) E.1 E.2.1 dL_law_456 rfl (lv_at hl 0 rfl) ?_
  refine lv_iload_n (pc := 457) E.1 E.2.1 dL_law_457 rfl (lv_at hl 3 rfl) ?_
  refine lv_iconst (v := 2) (pc := 458) E.1 E.2.1 dL_law_458 (by decide) ?_
  refine lv_iadd (pc := 459) E.1 E.2.1 dL_law_459 ?_
  obtain ⟨v10, g9, hf⟩ := x_bind hf
  refine x_sld (pc := 460) E hX hbl hw g9 dL_law_460 ?_
  obtain ⟨v11, g12, hf⟩ := x_bind hf
  refine x_callV (pc := 461) (As := [.int v8, .int v10]) (rest := [.int v5.1]) (st1 := [.int v11.1, .int v5.1]) (ws' := (cells7 G ad v5.2 ++ cells8 G ae v11.2)) E hw hl (c_X8_insure l G ae q v8 v10 g12) xv_L_45 xd_X8_insure rfl rfl ⟨Nat.le_of_ble_eq_true rfl, Nat.le_of_ble_eq_true rfl⟩ [31, 32, 33, 34, 35, 36, 37, 38, 39, 40, 41, 42, 43, 44, 45, 46, 47, 48, 49, 50] [0, 1, 2, 3, 4, 5, 6, 7, 8, 9, 10, 11, 12, 13, 14, 15, 16, 17, 18, 19, 20, 21, 22, 23, 24, 25, 26, 27, 28, 29, 30] (by decide) ⟨rfl, rfl, rfl, rfl, rfl, rfl, rfl, rfl, rfl, rfl, rfl, rfl, rfl, rfl, rfl, rfl, rfl, rfl, rfl, rfl, trivial⟩ (q0 := 31) rfl rfl rfl rfl (Nat.le_of_ble_eq_true rfl) (nw := 51) ⟨rfl, rfl, rfl, rfl, rfl, rfl, rfl, rfl, rfl, rfl, rfl, rfl, rfl, rfl, rfl, rfl, rfl, rfl, rfl, rfl, trivial⟩ ⟨⟨_, rfl, rfl⟩, ⟨_, rfl, rfl⟩, ⟨_, rfl, rfl⟩, ⟨_, rfl, rfl⟩, ⟨_, rfl, rfl⟩, ⟨_, rfl, rfl⟩, ⟨_, rfl, rfl⟩, ⟨_, rfl, rfl⟩, ⟨_, rfl, rfl⟩, ⟨_, rfl, rfl⟩, ⟨_, rfl, rfl⟩, ⟨_, rfl, rfl⟩, ⟨_, rfl, rfl⟩, ⟨_, rfl, rfl⟩, ⟨_, rfl, rfl⟩, ⟨_, rfl, rfl⟩, ⟨_, rfl, rfl⟩, ⟨_, rfl, rfl⟩, ⟨_, rfl, rfl⟩, ⟨_, rfl, rfl⟩, ⟨_, rfl, rfl⟩, ⟨_, rfl, rfl⟩, ⟨_, rfl, rfl⟩, ⟨_, rfl, rfl⟩, ⟨_, rfl, rfl⟩, ⟨_, rfl, rfl⟩, ⟨_, rfl, rfl⟩, ⟨_, rfl, rfl⟩, ⟨_, rfl, rfl⟩, ⟨_, rfl, rfl⟩, ⟨_, rfl, rfl⟩, trivial⟩ rfl rfl (by decide) (by decide) rfl dL_law_461 (fun H locs hw => ?_) (hcs := ⟨Nat.le_refl _, Nat.le_refl _⟩)
  refine lv_icmp_eq (tgt := 1816) (pc := 464) E.1 E.2.1 dL_law_464 (by decide) (fun q13 => ?_) (fun q13 => ?_)
  · have hf := x_pos q13 hf
    exact w_law_p1816 E hX hbl hr hk hk18 v5.2 v11.2 x3 hw (lv_sub hl [0, 1, 2, 3] rfl) hf
  · have hf := x_neg q13 hf
    refine lv_iconst (v := 0) (pc := 467) E.1 E.2.1 dL_law_467 (by decide) ?_
    exact absurd (Option.some.inj hf) (by decide)
set_option maxHeartbeats 4000000 in
set_option maxRecDepth 100000 in
theorem w_law_p403 {p : Program} {l : Launch} {e : Env} {sS : State} {m : MethodId} {below : List Frame} {meth : Method} {c : Code} {G : xG} {ad ae : Nat → Nat} {b L : Nat} {xs : Nat → Int32} {k18 : S7 → S8 → Int32 → Option Int32} (E : xE p sS m #[Value.ref b] c cL_law 4 RL G (fun q => sS.heap.size ≤ q)) (hX : va_X b L xs sS sS.heap) (hbl : b < sS.heap.size) (hr : meth.sig.returnType = ret) (hk : meth.locks = false) (hk18 : ∀ (s' : S7) (q' : S8) (x3' : Int32) {H : Heap} {locs : List Loc} {ls : Array Slot}, xW G (fun q => sS.heap.size ≤ q) sS.heap (cells7 G ad s' ++ cells8 G ae q') H locs → lv_has ls 4 [(0, .ref b), (1, .ref (ad 0)), (2, .ref (ae 0)), (3, .int x3')] → k18  s' q' x3' = some 1 → W p l e room_1 sS m #[Value.ref b] below meth c H locs 51 5492 (lw_Z below #[Value.ref b] sS) (F0 m 18 ls [])) : ∀ (s' : S7) (q' : S8) (x3' : Int32) {H : Heap} {locs : List Loc} {ls : Array Slot}, xW G (fun q => sS.heap.size ≤ q) sS.heap (cells7 G ad s' ++ cells8 G ae q') H locs → lv_has ls 4 [(0, .ref b), (1, .ref (ad 0)), (2, .ref (ae 0)), (3, .int x3')] → f_law_p403 k18 L xs s' q' x3' = some 1 → W p l e room_1 sS m #[Value.ref b] below meth c H locs 51 5492 (lw_Z below #[Value.ref b] sS) (F0 m 403 ls []) := by
  intro s q x3 H locs ls hw hl hf
  unfold f_law_p403 at hf
  refine lv_aload_n (pc := 403) E.1 E.2.1 dL_law_403 rfl (lv_at hl 1 rfl) ?_
  refine lv_aload_n (pc := 404) E.1 E.2.1 dL_law_404 rfl (lv_at hl 0 rfl) ?_
  refine lv_iload_n (pc := 405) E.1 E.2.1 dL_law_405 rfl (lv_at hl 3 rfl) ?_
  refine lv_iconst (v := 1) (pc := 406) E.1 E.2.1 dL_law_406 (by decide) ?_
  refine lv_iadd (pc := 407) E.1 E.2.1 dL_law_407 ?_
  obtain ⟨v2, g1, hf⟩ := x_bind hf
  refine x_sld (pc := 408) E hX hbl hw g1 dL_law_408 ?_
  refine lv_aload_n (pc := 409) E.1 E.2.1 dL_law_409 rfl (lv_at hl 0 rfl) ?_
  refine lv_iload_n (pc := 410) E.1 E.2.1 dL_law_410 rfl (lv_at hl 3 rfl) ?_
  refine lv_iconst (v := 2) (pc := 411) E.1 E.2.1 dL_law_411 (by decide) ?_
  refine lv_iadd (pc := 412) E.1 E.2.1 dL_law_412 ?_
  obtain ⟨v4, g3, hf⟩ := x_bind hf
  refine x_sld (pc := 413) E hX hbl hw g3 dL_law_413 ?_
  obtain ⟨v5, g6, hf⟩ := x_bind hf
  refine x_callV (pc := 414) (As := [.int v2, .int v4]) (rest := []) (st1 := [.int v5.1]) (ws' := (cells7 G ad v5.2 ++ cells8 G ae q)) E hw hl (c_X7_move l G ad s v2 v4 g6) xv_L_38 xd_X7_move rfl rfl ⟨Nat.le_of_ble_eq_true rfl, Nat.le_of_ble_eq_true rfl⟩ [0, 1, 2, 3, 4, 5, 6, 7, 8, 9, 10, 11, 12, 13, 14, 15, 16, 17, 18, 19, 20, 21, 22, 23, 24, 25, 26, 27, 28, 29, 30] [31, 32, 33, 34, 35, 36, 37, 38, 39, 40, 41, 42, 43, 44, 45, 46, 47, 48, 49, 50] (by decide) ⟨rfl, rfl, rfl, rfl, rfl, rfl, rfl, rfl, rfl, rfl, rfl, rfl, rfl, rfl, rfl, rfl, rfl, rfl, rfl, rfl, rfl, rfl, rfl, rfl, rfl, rfl, rfl, rfl, rfl, rfl, rfl, trivial⟩ (q0 := 0) rfl rfl rfl rfl (Nat.le_of_ble_eq_true rfl) (nw := 51) ⟨rfl, rfl, rfl, rfl, rfl, rfl, rfl, rfl, rfl, rfl, rfl, rfl, rfl, rfl, rfl, rfl, rfl, rfl, rfl, rfl, rfl, rfl, rfl, rfl, rfl, rfl, rfl, rfl, rfl, rfl, rfl, trivial⟩ ⟨⟨_, rfl, rfl⟩, ⟨_, rfl, rfl⟩, ⟨_, rfl, rfl⟩, ⟨_, rfl, rfl⟩, ⟨_, rfl, rfl⟩, ⟨_, rfl, rfl⟩, ⟨_, rfl, rfl⟩, ⟨_, rfl, rfl⟩, ⟨_, rfl, rfl⟩, ⟨_, rfl, rfl⟩, ⟨_, rfl, rfl⟩, ⟨_, rfl, rfl⟩, ⟨_, rfl, rfl⟩, ⟨_, rfl, rfl⟩, ⟨_, rfl, rfl⟩, ⟨_, rfl, rfl⟩, ⟨_, rfl, rfl⟩, ⟨_, rfl, rfl⟩, ⟨_, rfl, rfl⟩, ⟨_, rfl, rfl⟩, trivial⟩ rfl rfl (by decide) (by decide) rfl dL_law_414 (fun H locs hw => ?_) (hcs := ⟨Nat.le_refl _, Nat.le_refl _⟩)
  refine lv_aload_n (pc := 417) E.1 E.2.1 dL_law_417 rfl (lv_at hl 2 rfl) ?_
  refine lv_aload_n (pc := 418) E.1 E.2.1 dL_law_418 rfl (lv_at hl 0 rfl) ?_
  refine lv_iload_n (pc := 419) E.1 E.2.1 dL_law_419 rfl (lv_at hl 3 rfl) ?_
  refine lv_iconst (v := 1) (pc := 420) E.1 E.2.1 dL_law_420 (by decide) ?_
  refine lv_iadd (pc := 421) E.1 E.2.1 dL_law_421 ?_
  obtain ⟨v8, g7, hf⟩ := x_bind hf
  refine x_sld (pc := 422) E hX hbl hw g7 dL_law_422 ?_
  refine lv_aload_n (pc := 423) E.1 E.2.1 dL_law_423 rfl (lv_at hl 0 rfl) ?_
  refine lv_iload_n (pc := 424) E.1 E.2.1 dL_law_424 rfl (lv_at hl 3 rfl) ?_
  refine lv_iconst (v := 2) (pc := 425) E.1 E.2.1 dL_law_425 (by decide) ?_
  refine lv_iadd (pc := 426) E.1 E.2.1 dL_law_426 ?_
  obtain ⟨v10, g9, hf⟩ := x_bind hf
  refine x_sld (pc := 427) E hX hbl hw g9 dL_law_427 ?_
  obtain ⟨v11, g12, hf⟩ := x_bind hf
  refine x_callV (pc := 428) (As := [.int v8, .int v10]) (rest := [.int v5.1]) (st1 := [.int v11.1, .int v5.1]) (ws' := (cells7 G ad v5.2 ++ cells8 G ae v11.2)) E hw hl (c_X8_move l G ae q v8 v10 g12) xv_L_41 xd_X8_move rfl rfl ⟨Nat.le_of_ble_eq_true rfl, Nat.le_of_ble_eq_true rfl⟩ [31, 32, 33, 34, 35, 36, 37, 38, 39, 40, 41, 42, 43, 44, 45, 46, 47, 48, 49, 50] [0, 1, 2, 3, 4, 5, 6, 7, 8, 9, 10, 11, 12, 13, 14, 15, 16, 17, 18, 19, 20, 21, 22, 23, 24, 25, 26, 27, 28, 29, 30] (by decide) ⟨rfl, rfl, rfl, rfl, rfl, rfl, rfl, rfl, rfl, rfl, rfl, rfl, rfl, rfl, rfl, rfl, rfl, rfl, rfl, rfl, trivial⟩ (q0 := 31) rfl rfl rfl rfl (Nat.le_of_ble_eq_true rfl) (nw := 51) ⟨rfl, rfl, rfl, rfl, rfl, rfl, rfl, rfl, rfl, rfl, rfl, rfl, rfl, rfl, rfl, rfl, rfl, rfl, rfl, rfl, trivial⟩ ⟨⟨_, rfl, rfl⟩, ⟨_, rfl, rfl⟩, ⟨_, rfl, rfl⟩, ⟨_, rfl, rfl⟩, ⟨_, rfl, rfl⟩, ⟨_, rfl, rfl⟩, ⟨_, rfl, rfl⟩, ⟨_, rfl, rfl⟩, ⟨_, rfl, rfl⟩, ⟨_, rfl, rfl⟩, ⟨_, rfl, rfl⟩, ⟨_, rfl, rfl⟩, ⟨_, rfl, rfl⟩, ⟨_, rfl, rfl⟩, ⟨_, rfl, rfl⟩, ⟨_, rfl, rfl⟩, ⟨_, rfl, rfl⟩, ⟨_, rfl, rfl⟩, ⟨_, rfl, rfl⟩, ⟨_, rfl, rfl⟩, ⟨_, rfl, rfl⟩, ⟨_, rfl, rfl⟩, ⟨_, rfl, rfl⟩, ⟨_, rfl, rfl⟩, ⟨_, rfl, rfl⟩, ⟨_, rfl, rfl⟩, ⟨_, rfl, rfl⟩, ⟨_, rfl, rfl⟩, ⟨_, rfl, rfl⟩, ⟨_, rfl, rfl⟩, ⟨_, rfl, rfl⟩, trivial⟩ rfl rfl (by decide) (by decide) rfl dL_law_428 (fun H locs hw => ?_) (hcs := ⟨Nat.le_refl _, Nat.le_refl _⟩)
  refine lv_icmp_eq (tgt := 1816) (pc := 431) E.1 E.2.1 dL_law_431 (by decide) (fun q13 => ?_) (fun q13 => ?_)
  · have hf := x_pos q13 hf
    exact w_law_p1816 E hX hbl hr hk hk18 v5.2 v11.2 x3 hw (lv_sub hl [0, 1, 2, 3] rfl) hf
  · have hf := x_neg q13 hf
    refine lv_iconst (v := 0) (pc := 434) E.1 E.2.1 dL_law_434 (by decide) ?_
    exact absurd (Option.some.inj hf) (by decide)
set_option maxHeartbeats 4000000 in
set_option maxRecDepth 100000 in
theorem w_law_p380 {p : Program} {l : Launch} {e : Env} {sS : State} {m : MethodId} {below : List Frame} {meth : Method} {c : Code} {G : xG} {ad ae : Nat → Nat} {b L : Nat} {xs : Nat → Int32} {k18 : S7 → S8 → Int32 → Option Int32} (E : xE p sS m #[Value.ref b] c cL_law 4 RL G (fun q => sS.heap.size ≤ q)) (hX : va_X b L xs sS sS.heap) (hbl : b < sS.heap.size) (hr : meth.sig.returnType = ret) (hk : meth.locks = false) (hk18 : ∀ (s' : S7) (q' : S8) (x3' : Int32) {H : Heap} {locs : List Loc} {ls : Array Slot}, xW G (fun q => sS.heap.size ≤ q) sS.heap (cells7 G ad s' ++ cells8 G ae q') H locs → lv_has ls 4 [(0, .ref b), (1, .ref (ad 0)), (2, .ref (ae 0)), (3, .int x3')] → k18  s' q' x3' = some 1 → W p l e room_1 sS m #[Value.ref b] below meth c H locs 51 5492 (lw_Z below #[Value.ref b] sS) (F0 m 18 ls [])) : ∀ (s' : S7) (q' : S8) (x3' : Int32) {H : Heap} {locs : List Loc} {ls : Array Slot}, xW G (fun q => sS.heap.size ≤ q) sS.heap (cells7 G ad s' ++ cells8 G ae q') H locs → lv_has ls 4 [(0, .ref b), (1, .ref (ad 0)), (2, .ref (ae 0)), (3, .int x3')] → f_law_p380 k18 L xs s' q' x3' = some 1 → W p l e room_1 sS m #[Value.ref b] below meth c H locs 51 5492 (lw_Z below #[Value.ref b] sS) (F0 m 380 ls []) := by
  intro s q x3 H locs ls hw hl hf
  unfold f_law_p380 at hf
  refine lv_aload_n (pc := 380) E.1 E.2.1 dL_law_380 rfl (lv_at hl 1 rfl) ?_
  refine lv_aload_n (pc := 381) E.1 E.2.1 dL_law_381 rfl (lv_at hl 0 rfl) ?_
  refine lv_iload_n (pc := 382) E.1 E.2.1 dL_law_382 rfl (lv_at hl 3 rfl) ?_
  refine lv_iconst (v := 1) (pc := 383) E.1 E.2.1 dL_law_383 (by decide) ?_
  refine lv_iadd (pc := 384) E.1 E.2.1 dL_law_384 ?_
  obtain ⟨v2, g1, hf⟩ := x_bind hf
  refine x_sld (pc := 385) E hX hbl hw g1 dL_law_385 ?_
  obtain ⟨v3, g4, hf⟩ := x_bind hf
  refine x_callV (pc := 386) (As := [.int v2]) (rest := []) (st1 := [.int v3.1]) (ws' := (cells7 G ad v3.2 ++ cells8 G ae q)) E hw hl (c_X7_leave l G ad s v2 g4) xv_L_33 xd_X7_leave rfl rfl ⟨Nat.le_of_ble_eq_true rfl, Nat.le_of_ble_eq_true rfl⟩ [0, 1, 2, 3, 4, 5, 6, 7, 8, 9, 10, 11, 12, 13, 14, 15, 16, 17, 18, 19, 20, 21, 22, 23, 24, 25, 26, 27, 28, 29, 30] [31, 32, 33, 34, 35, 36, 37, 38, 39, 40, 41, 42, 43, 44, 45, 46, 47, 48, 49, 50] (by decide) ⟨rfl, rfl, rfl, rfl, rfl, rfl, rfl, rfl, rfl, rfl, rfl, rfl, rfl, rfl, rfl, rfl, rfl, rfl, rfl, rfl, rfl, rfl, rfl, rfl, rfl, rfl, rfl, rfl, rfl, rfl, rfl, trivial⟩ (q0 := 0) rfl rfl rfl rfl (Nat.le_of_ble_eq_true rfl) (nw := 51) ⟨rfl, rfl, rfl, rfl, rfl, rfl, rfl, rfl, rfl, rfl, rfl, rfl, rfl, rfl, rfl, rfl, rfl, rfl, rfl, rfl, rfl, rfl, rfl, rfl, rfl, rfl, rfl, rfl, rfl, rfl, rfl, trivial⟩ ⟨⟨_, rfl, rfl⟩, ⟨_, rfl, rfl⟩, ⟨_, rfl, rfl⟩, ⟨_, rfl, rfl⟩, ⟨_, rfl, rfl⟩, ⟨_, rfl, rfl⟩, ⟨_, rfl, rfl⟩, ⟨_, rfl, rfl⟩, ⟨_, rfl, rfl⟩, ⟨_, rfl, rfl⟩, ⟨_, rfl, rfl⟩, ⟨_, rfl, rfl⟩, ⟨_, rfl, rfl⟩, ⟨_, rfl, rfl⟩, ⟨_, rfl, rfl⟩, ⟨_, rfl, rfl⟩, ⟨_, rfl, rfl⟩, ⟨_, rfl, rfl⟩, ⟨_, rfl, rfl⟩, ⟨_, rfl, rfl⟩, trivial⟩ rfl rfl (by decide) (by decide) rfl dL_law_386 (fun H locs hw => ?_) (hcs := ⟨Nat.le_refl _, Nat.le_refl _⟩)
  refine lv_aload_n (pc := 389) E.1 E.2.1 dL_law_389 rfl (lv_at hl 2 rfl) ?_
  refine lv_aload_n (pc := 390) E.1 E.2.1 dL_law_390 rfl (lv_at hl 0 rfl) ?_
  refine lv_iload_n (pc := 391) E.1 E.2.1 dL_law_391 rfl (lv_at hl 3 rfl) ?_
  refine lv_iconst (v := 1) (pc := 392) E.1 E.2.1 dL_law_392 (by decide) ?_
  refine lv_iadd (pc := 393) E.1 E.2.1 dL_law_393 ?_
  obtain ⟨v6, g5, hf⟩ := x_bind hf
  refine x_sld (pc := 394) E hX hbl hw g5 dL_law_394 ?_
  obtain ⟨v7, g8, hf⟩ := x_bind hf
  refine x_callV (pc := 395) (As := [.int v6]) (rest := [.int v3.1]) (st1 := [.int v7.1, .int v3.1]) (ws' := (cells7 G ad v3.2 ++ cells8 G ae v7.2)) E hw hl (c_X8_leave l G ae q v6 g8) xv_L_37 xd_X8_leave rfl rfl ⟨Nat.le_of_ble_eq_true rfl, Nat.le_of_ble_eq_true rfl⟩ [31, 32, 33, 34, 35, 36, 37, 38, 39, 40, 41, 42, 43, 44, 45, 46, 47, 48, 49, 50] [0, 1, 2, 3, 4, 5, 6, 7, 8, 9, 10, 11, 12, 13, 14, 15, 16, 17, 18, 19, 20, 21, 22, 23, 24, 25, 26, 27, 28, 29, 30] (by decide) ⟨rfl, rfl, rfl, rfl, rfl, rfl, rfl, rfl, rfl, rfl, rfl, rfl, rfl, rfl, rfl, rfl, rfl, rfl, rfl, rfl, trivial⟩ (q0 := 31) rfl rfl rfl rfl (Nat.le_of_ble_eq_true rfl) (nw := 51) ⟨rfl, rfl, rfl, rfl, rfl, rfl, rfl, rfl, rfl, rfl, rfl, rfl, rfl, rfl, rfl, rfl, rfl, rfl, rfl, rfl, trivial⟩ ⟨⟨_, rfl, rfl⟩, ⟨_, rfl, rfl⟩, ⟨_, rfl, rfl⟩, ⟨_, rfl, rfl⟩, ⟨_, rfl, rfl⟩, ⟨_, rfl, rfl⟩, ⟨_, rfl, rfl⟩, ⟨_, rfl, rfl⟩, ⟨_, rfl, rfl⟩, ⟨_, rfl, rfl⟩, ⟨_, rfl, rfl⟩, ⟨_, rfl, rfl⟩, ⟨_, rfl, rfl⟩, ⟨_, rfl, rfl⟩, ⟨_, rfl, rfl⟩, ⟨_, rfl, rfl⟩, ⟨_, rfl, rfl⟩, ⟨_, rfl, rfl⟩, ⟨_, rfl, rfl⟩, ⟨_, rfl, rfl⟩, ⟨_, rfl, rfl⟩, ⟨_, rfl, rfl⟩, ⟨_, rfl, rfl⟩, ⟨_, rfl, rfl⟩, ⟨_, rfl, rfl⟩, ⟨_, rfl, rfl⟩, ⟨_, rfl, rfl⟩, ⟨_, rfl, rfl⟩, ⟨_, rfl, rfl⟩, ⟨_, rfl, rfl⟩, ⟨_, rfl, rfl⟩, trivial⟩ rfl rfl (by decide) (by decide) rfl dL_law_395 (fun H locs hw => ?_) (hcs := ⟨Nat.le_refl _, Nat.le_refl _⟩)
  refine lv_icmp_eq (tgt := 1816) (pc := 398) E.1 E.2.1 dL_law_398 (by decide) (fun q9 => ?_) (fun q9 => ?_)
  · have hf := x_pos q9 hf
    exact w_law_p1816 E hX hbl hr hk hk18 v3.2 v7.2 x3 hw (lv_sub hl [0, 1, 2, 3] rfl) hf
  · have hf := x_neg q9 hf
    refine lv_iconst (v := 0) (pc := 401) E.1 E.2.1 dL_law_401 (by decide) ?_
    exact absurd (Option.some.inj hf) (by decide)
set_option maxHeartbeats 4000000 in
set_option maxRecDepth 100000 in
theorem w_law_p347 {p : Program} {l : Launch} {e : Env} {sS : State} {m : MethodId} {below : List Frame} {meth : Method} {c : Code} {G : xG} {ad ae : Nat → Nat} {b L : Nat} {xs : Nat → Int32} {k18 : S7 → S8 → Int32 → Option Int32} (E : xE p sS m #[Value.ref b] c cL_law 4 RL G (fun q => sS.heap.size ≤ q)) (hX : va_X b L xs sS sS.heap) (hbl : b < sS.heap.size) (hr : meth.sig.returnType = ret) (hk : meth.locks = false) (hk18 : ∀ (s' : S7) (q' : S8) (x3' : Int32) {H : Heap} {locs : List Loc} {ls : Array Slot}, xW G (fun q => sS.heap.size ≤ q) sS.heap (cells7 G ad s' ++ cells8 G ae q') H locs → lv_has ls 4 [(0, .ref b), (1, .ref (ad 0)), (2, .ref (ae 0)), (3, .int x3')] → k18  s' q' x3' = some 1 → W p l e room_1 sS m #[Value.ref b] below meth c H locs 51 5492 (lw_Z below #[Value.ref b] sS) (F0 m 18 ls [])) : ∀ (s' : S7) (q' : S8) (x3' : Int32) {H : Heap} {locs : List Loc} {ls : Array Slot}, xW G (fun q => sS.heap.size ≤ q) sS.heap (cells7 G ad s' ++ cells8 G ae q') H locs → lv_has ls 4 [(0, .ref b), (1, .ref (ad 0)), (2, .ref (ae 0)), (3, .int x3')] → f_law_p347 k18 L xs s' q' x3' = some 1 → W p l e room_1 sS m #[Value.ref b] below meth c H locs 51 5492 (lw_Z below #[Value.ref b] sS) (F0 m 347 ls []) := by
  intro s q x3 H locs ls hw hl hf
  unfold f_law_p347 at hf
  refine lv_aload_n (pc := 347) E.1 E.2.1 dL_law_347 rfl (lv_at hl 1 rfl) ?_
  refine lv_aload_n (pc := 348) E.1 E.2.1 dL_law_348 rfl (lv_at hl 0 rfl) ?_
  refine lv_iload_n (pc := 349) E.1 E.2.1 dL_law_349 rfl (lv_at hl 3 rfl) ?_
  refine lv_iconst (v := 1) (pc := 350) E.1 E.2.1 dL_law_350 (by decide) ?_
  refine lv_iadd (pc := 351) E.1 E.2.1 dL_law_351 ?_
  obtain ⟨v2, g1, hf⟩ := x_bind hf
  refine x_sld (pc := 352) E hX hbl hw g1 dL_law_352 ?_
  refine lv_aload_n (pc := 353) E.1 E.2.1 dL_law_353 rfl (lv_at hl 0 rfl) ?_
  refine lv_iload_n (pc := 354) E.1 E.2.1 dL_law_354 rfl (lv_at hl 3 rfl) ?_
  refine lv_iconst (v := 2) (pc := 355) E.1 E.2.1 dL_law_355 (by decide) ?_
  refine lv_iadd (pc := 356) E.1 E.2.1 dL_law_356 ?_
  obtain ⟨v4, g3, hf⟩ := x_bind hf
  refine x_sld (pc := 357) E hX hbl hw g3 dL_law_357 ?_
  obtain ⟨v5, g6, hf⟩ := x_bind hf
  refine x_callV (pc := 358) (As := [.int v2, .int v4]) (rest := []) (st1 := [.int v5.1]) (ws' := (cells7 G ad v5.2 ++ cells8 G ae q)) E hw hl (c_X7_fleet l G ad s v2 v4 g6) xv_L_28 xd_X7_fleet rfl rfl ⟨Nat.le_of_ble_eq_true rfl, Nat.le_of_ble_eq_true rfl⟩ [0, 1, 2, 3, 4, 5, 6, 7, 8, 9, 10, 11, 12, 13, 14, 15, 16, 17, 18, 19, 20, 21, 22, 23, 24, 25, 26, 27, 28, 29, 30] [31, 32, 33, 34, 35, 36, 37, 38, 39, 40, 41, 42, 43, 44, 45, 46, 47, 48, 49, 50] (by decide) ⟨rfl, rfl, rfl, rfl, rfl, rfl, rfl, rfl, rfl, rfl, rfl, rfl, rfl, rfl, rfl, rfl, rfl, rfl, rfl, rfl, rfl, rfl, rfl, rfl, rfl, rfl, rfl, rfl, rfl, rfl, rfl, trivial⟩ (q0 := 0) rfl rfl rfl rfl (Nat.le_of_ble_eq_true rfl) (nw := 51) ⟨rfl, rfl, rfl, rfl, rfl, rfl, rfl, rfl, rfl, rfl, rfl, rfl, rfl, rfl, rfl, rfl, rfl, rfl, rfl, rfl, rfl, rfl, rfl, rfl, rfl, rfl, rfl, rfl, rfl, rfl, rfl, trivial⟩ ⟨⟨_, rfl, rfl⟩, ⟨_, rfl, rfl⟩, ⟨_, rfl, rfl⟩, ⟨_, rfl, rfl⟩, ⟨_, rfl, rfl⟩, ⟨_, rfl, rfl⟩, ⟨_, rfl, rfl⟩, ⟨_, rfl, rfl⟩, ⟨_, rfl, rfl⟩, ⟨_, rfl, rfl⟩, ⟨_, rfl, rfl⟩, ⟨_, rfl, rfl⟩, ⟨_, rfl, rfl⟩, ⟨_, rfl, rfl⟩, ⟨_, rfl, rfl⟩, ⟨_, rfl, rfl⟩, ⟨_, rfl, rfl⟩, ⟨_, rfl, rfl⟩, ⟨_, rfl, rfl⟩, ⟨_, rfl, rfl⟩, trivial⟩ rfl rfl (by decide) (by decide) rfl dL_law_358 (fun H locs hw => ?_) (hcs := ⟨Nat.le_refl _, Nat.le_refl _⟩)
  refine lv_aload_n (pc := 361) E.1 E.2.1 dL_law_361 rfl (lv_at hl 2 rfl) ?_
  refine lv_aload_n (pc := 362) E.1 E.2.1 dL_law_362 rfl (lv_at hl 0 rfl) ?_
  refine lv_iload_n (pc := 363) E.1 E.2.1 dL_law_363 rfl (lv_at hl 3 rfl) ?_
  refine lv_iconst (v := 1) (pc := 364) E.1 E.2.1 dL_law_364 (by decide) ?_
  refine lv_iadd (pc := 365) E.1 E.2.1 dL_law_365 ?_
  obtain ⟨v8, g7, hf⟩ := x_bind hf
  refine x_sld (pc := 366) E hX hbl hw g7 dL_law_366 ?_
  refine lv_aload_n (pc := 367) E.1 E.2.1 dL_law_367 rfl (lv_at hl 0 rfl) ?_
  refine lv_iload_n (pc := 368) E.1 E.2.1 dL_law_368 rfl (lv_at hl 3 rfl) ?_
  refine lv_iconst (v := 2) (pc := 369) E.1 E.2.1 dL_law_369 (by decide) ?_
  refine lv_iadd (pc := 370) E.1 E.2.1 dL_law_370 ?_
  obtain ⟨v10, g9, hf⟩ := x_bind hf
  refine x_sld (pc := 371) E hX hbl hw g9 dL_law_371 ?_
  obtain ⟨v11, g12, hf⟩ := x_bind hf
  refine x_callV (pc := 372) (As := [.int v8, .int v10]) (rest := [.int v5.1]) (st1 := [.int v11.1, .int v5.1]) (ws' := (cells7 G ad v5.2 ++ cells8 G ae v11.2)) E hw hl (c_X8_fleet l G ae q v8 v10 g12) xv_L_32 xd_X8_fleet rfl rfl ⟨Nat.le_of_ble_eq_true rfl, Nat.le_of_ble_eq_true rfl⟩ [31, 32, 33, 34, 35, 36, 37, 38, 39, 40, 41, 42, 43, 44, 45, 46, 47, 48, 49, 50] [0, 1, 2, 3, 4, 5, 6, 7, 8, 9, 10, 11, 12, 13, 14, 15, 16, 17, 18, 19, 20, 21, 22, 23, 24, 25, 26, 27, 28, 29, 30] (by decide) ⟨rfl, rfl, rfl, rfl, rfl, rfl, rfl, rfl, rfl, rfl, rfl, rfl, rfl, rfl, rfl, rfl, rfl, rfl, rfl, rfl, trivial⟩ (q0 := 31) rfl rfl rfl rfl (Nat.le_of_ble_eq_true rfl) (nw := 51) ⟨rfl, rfl, rfl, rfl, rfl, rfl, rfl, rfl, rfl, rfl, rfl, rfl, rfl, rfl, rfl, rfl, rfl, rfl, rfl, rfl, trivial⟩ ⟨⟨_, rfl, rfl⟩, ⟨_, rfl, rfl⟩, ⟨_, rfl, rfl⟩, ⟨_, rfl, rfl⟩, ⟨_, rfl, rfl⟩, ⟨_, rfl, rfl⟩, ⟨_, rfl, rfl⟩, ⟨_, rfl, rfl⟩, ⟨_, rfl, rfl⟩, ⟨_, rfl, rfl⟩, ⟨_, rfl, rfl⟩, ⟨_, rfl, rfl⟩, ⟨_, rfl, rfl⟩, ⟨_, rfl, rfl⟩, ⟨_, rfl, rfl⟩, ⟨_, rfl, rfl⟩, ⟨_, rfl, rfl⟩, ⟨_, rfl, rfl⟩, ⟨_, rfl, rfl⟩, ⟨_, rfl, rfl⟩, ⟨_, rfl, rfl⟩, ⟨_, rfl, rfl⟩, ⟨_, rfl, rfl⟩, ⟨_, rfl, rfl⟩, ⟨_, rfl, rfl⟩, ⟨_, rfl, rfl⟩, ⟨_, rfl, rfl⟩, ⟨_, rfl, rfl⟩, ⟨_, rfl, rfl⟩, ⟨_, rfl, rfl⟩, ⟨_, rfl, rfl⟩, trivial⟩ rfl rfl (by decide) (by decide) rfl dL_law_372 (fun H locs hw => ?_) (hcs := ⟨Nat.le_refl _, Nat.le_refl _⟩)
  refine lv_icmp_eq (tgt := 1816) (pc := 375) E.1 E.2.1 dL_law_375 (by decide) (fun q13 => ?_) (fun q13 => ?_)
  · have hf := x_pos q13 hf
    exact w_law_p1816 E hX hbl hr hk hk18 v5.2 v11.2 x3 hw (lv_sub hl [0, 1, 2, 3] rfl) hf
  · have hf := x_neg q13 hf
    refine lv_iconst (v := 0) (pc := 378) E.1 E.2.1 dL_law_378 (by decide) ?_
    exact absurd (Option.some.inj hf) (by decide)
set_option maxHeartbeats 4000000 in
set_option maxRecDepth 100000 in
theorem w_law_p334 {p : Program} {l : Launch} {e : Env} {sS : State} {m : MethodId} {below : List Frame} {meth : Method} {c : Code} {G : xG} {ad ae : Nat → Nat} {b L : Nat} {xs : Nat → Int32} {k18 : S7 → S8 → Int32 → Option Int32} (E : xE p sS m #[Value.ref b] c cL_law 4 RL G (fun q => sS.heap.size ≤ q)) (hX : va_X b L xs sS sS.heap) (hbl : b < sS.heap.size) (hr : meth.sig.returnType = ret) (hk : meth.locks = false) (hk18 : ∀ (s' : S7) (q' : S8) (x3' : Int32) {H : Heap} {locs : List Loc} {ls : Array Slot}, xW G (fun q => sS.heap.size ≤ q) sS.heap (cells7 G ad s' ++ cells8 G ae q') H locs → lv_has ls 4 [(0, .ref b), (1, .ref (ad 0)), (2, .ref (ae 0)), (3, .int x3')] → k18  s' q' x3' = some 1 → W p l e room_1 sS m #[Value.ref b] below meth c H locs 51 5492 (lw_Z below #[Value.ref b] sS) (F0 m 18 ls [])) : ∀ (s' : S7) (q' : S8) (x3' : Int32) {H : Heap} {locs : List Loc} {ls : Array Slot}, xW G (fun q => sS.heap.size ≤ q) sS.heap (cells7 G ad s' ++ cells8 G ae q') H locs → lv_has ls 4 [(0, .ref b), (1, .ref (ad 0)), (2, .ref (ae 0)), (3, .int x3')] → f_law_p334 k18 L xs s' q' x3' = some 1 → W p l e room_1 sS m #[Value.ref b] below meth c H locs 51 5492 (lw_Z below #[Value.ref b] sS) (F0 m 334 ls []) := by
  intro s q x3 H locs ls hw hl hf
  unfold f_law_p334 at hf
  refine lv_aload_n (pc := 334) E.1 E.2.1 dL_law_334 rfl (lv_at hl 1 rfl) ?_
  obtain ⟨v1, g2, hf⟩ := x_bind hf
  refine x_callV (pc := 335) (As := []) (rest := []) (st1 := [.int v1.1]) (ws' := (cells7 G ad v1.2 ++ cells8 G ae q)) E hw hl (c_X7_text l G ad s g2) xv_L_23 xd_X7_text rfl rfl ⟨Nat.le_of_ble_eq_true rfl, Nat.le_of_ble_eq_true rfl⟩ [0, 1, 2, 3, 4, 5, 6, 7, 8, 9, 10, 11, 12, 13, 14, 15, 16, 17, 18, 19, 20, 21, 22, 23, 24, 25, 26, 27, 28, 29, 30] [31, 32, 33, 34, 35, 36, 37, 38, 39, 40, 41, 42, 43, 44, 45, 46, 47, 48, 49, 50] (by decide) ⟨rfl, rfl, rfl, rfl, rfl, rfl, rfl, rfl, rfl, rfl, rfl, rfl, rfl, rfl, rfl, rfl, rfl, rfl, rfl, rfl, rfl, rfl, rfl, rfl, rfl, rfl, rfl, rfl, rfl, rfl, rfl, trivial⟩ (q0 := 0) rfl rfl rfl rfl (Nat.le_of_ble_eq_true rfl) (nw := 51) ⟨rfl, rfl, rfl, rfl, rfl, rfl, rfl, rfl, rfl, rfl, rfl, rfl, rfl, rfl, rfl, rfl, rfl, rfl, rfl, rfl, rfl, rfl, rfl, rfl, rfl, rfl, rfl, rfl, rfl, rfl, rfl, trivial⟩ ⟨⟨_, rfl, rfl⟩, ⟨_, rfl, rfl⟩, ⟨_, rfl, rfl⟩, ⟨_, rfl, rfl⟩, ⟨_, rfl, rfl⟩, ⟨_, rfl, rfl⟩, ⟨_, rfl, rfl⟩, ⟨_, rfl, rfl⟩, ⟨_, rfl, rfl⟩, ⟨_, rfl, rfl⟩, ⟨_, rfl, rfl⟩, ⟨_, rfl, rfl⟩, ⟨_, rfl, rfl⟩, ⟨_, rfl, rfl⟩, ⟨_, rfl, rfl⟩, ⟨_, rfl, rfl⟩, ⟨_, rfl, rfl⟩, ⟨_, rfl, rfl⟩, ⟨_, rfl, rfl⟩, ⟨_, rfl, rfl⟩, trivial⟩ rfl rfl (by decide) (by decide) rfl dL_law_335 (fun H locs hw => ?_) (hcs := ⟨Nat.le_refl _, Nat.le_refl _⟩)
  refine lv_aload_n (pc := 338) E.1 E.2.1 dL_law_338 rfl (lv_at hl 2 rfl) ?_
  obtain ⟨v3, g4, hf⟩ := x_bind hf
  refine x_callV (pc := 339) (As := []) (rest := [.int v1.1]) (st1 := [.int v3.1, .int v1.1]) (ws' := (cells7 G ad v1.2 ++ cells8 G ae v3.2)) E hw hl (c_X8_text l G ae q g4) xv_L_27 xd_X8_text rfl rfl ⟨Nat.le_of_ble_eq_true rfl, Nat.le_of_ble_eq_true rfl⟩ [31, 32, 33, 34, 35, 36, 37, 38, 39, 40, 41, 42, 43, 44, 45, 46, 47, 48, 49, 50] [0, 1, 2, 3, 4, 5, 6, 7, 8, 9, 10, 11, 12, 13, 14, 15, 16, 17, 18, 19, 20, 21, 22, 23, 24, 25, 26, 27, 28, 29, 30] (by decide) ⟨rfl, rfl, rfl, rfl, rfl, rfl, rfl, rfl, rfl, rfl, rfl, rfl, rfl, rfl, rfl, rfl, rfl, rfl, rfl, rfl, trivial⟩ (q0 := 31) rfl rfl rfl rfl (Nat.le_of_ble_eq_true rfl) (nw := 51) ⟨rfl, rfl, rfl, rfl, rfl, rfl, rfl, rfl, rfl, rfl, rfl, rfl, rfl, rfl, rfl, rfl, rfl, rfl, rfl, rfl, trivial⟩ ⟨⟨_, rfl, rfl⟩, ⟨_, rfl, rfl⟩, ⟨_, rfl, rfl⟩, ⟨_, rfl, rfl⟩, ⟨_, rfl, rfl⟩, ⟨_, rfl, rfl⟩, ⟨_, rfl, rfl⟩, ⟨_, rfl, rfl⟩, ⟨_, rfl, rfl⟩, ⟨_, rfl, rfl⟩, ⟨_, rfl, rfl⟩, ⟨_, rfl, rfl⟩, ⟨_, rfl, rfl⟩, ⟨_, rfl, rfl⟩, ⟨_, rfl, rfl⟩, ⟨_, rfl, rfl⟩, ⟨_, rfl, rfl⟩, ⟨_, rfl, rfl⟩, ⟨_, rfl, rfl⟩, ⟨_, rfl, rfl⟩, ⟨_, rfl, rfl⟩, ⟨_, rfl, rfl⟩, ⟨_, rfl, rfl⟩, ⟨_, rfl, rfl⟩, ⟨_, rfl, rfl⟩, ⟨_, rfl, rfl⟩, ⟨_, rfl, rfl⟩, ⟨_, rfl, rfl⟩, ⟨_, rfl, rfl⟩, ⟨_, rfl, rfl⟩, ⟨_, rfl, rfl⟩, trivial⟩ rfl rfl (by decide) (by decide) rfl dL_law_339 (fun H locs hw => ?_) (hcs := ⟨Nat.le_refl _, Nat.le_refl _⟩)
  refine lv_icmp_eq (tgt := 1816) (pc := 342) E.1 E.2.1 dL_law_342 (by decide) (fun q5 => ?_) (fun q5 => ?_)
  · have hf := x_pos q5 hf
    exact w_law_p1816 E hX hbl hr hk hk18 v1.2 v3.2 x3 hw (lv_sub hl [0, 1, 2, 3] rfl) hf
  · have hf := x_neg q5 hf
    refine lv_iconst (v := 0) (pc := 345) E.1 E.2.1 dL_law_345 (by decide) ?_
    exact absurd (Option.some.inj hf) (by decide)
set_option maxHeartbeats 4000000 in
set_option maxRecDepth 100000 in
theorem w_law_p311 {p : Program} {l : Launch} {e : Env} {sS : State} {m : MethodId} {below : List Frame} {meth : Method} {c : Code} {G : xG} {ad ae : Nat → Nat} {b L : Nat} {xs : Nat → Int32} {k18 : S7 → S8 → Int32 → Option Int32} (E : xE p sS m #[Value.ref b] c cL_law 4 RL G (fun q => sS.heap.size ≤ q)) (hX : va_X b L xs sS sS.heap) (hbl : b < sS.heap.size) (hr : meth.sig.returnType = ret) (hk : meth.locks = false) (hk18 : ∀ (s' : S7) (q' : S8) (x3' : Int32) {H : Heap} {locs : List Loc} {ls : Array Slot}, xW G (fun q => sS.heap.size ≤ q) sS.heap (cells7 G ad s' ++ cells8 G ae q') H locs → lv_has ls 4 [(0, .ref b), (1, .ref (ad 0)), (2, .ref (ae 0)), (3, .int x3')] → k18  s' q' x3' = some 1 → W p l e room_1 sS m #[Value.ref b] below meth c H locs 51 5492 (lw_Z below #[Value.ref b] sS) (F0 m 18 ls [])) : ∀ (s' : S7) (q' : S8) (x3' : Int32) {H : Heap} {locs : List Loc} {ls : Array Slot}, xW G (fun q => sS.heap.size ≤ q) sS.heap (cells7 G ad s' ++ cells8 G ae q') H locs → lv_has ls 4 [(0, .ref b), (1, .ref (ad 0)), (2, .ref (ae 0)), (3, .int x3')] → f_law_p311 k18 L xs s' q' x3' = some 1 → W p l e room_1 sS m #[Value.ref b] below meth c H locs 51 5492 (lw_Z below #[Value.ref b] sS) (F0 m 311 ls []) := by
  intro s q x3 H locs ls hw hl hf
  unfold f_law_p311 at hf
  refine lv_aload_n (pc := 311) E.1 E.2.1 dL_law_311 rfl (lv_at hl 1 rfl) ?_
  refine lv_aload_n (pc := 312) E.1 E.2.1 dL_law_312 rfl (lv_at hl 0 rfl) ?_
  refine lv_iload_n (pc := 313) E.1 E.2.1 dL_law_313 rfl (lv_at hl 3 rfl) ?_
  refine lv_iconst (v := 1) (pc := 314) E.1 E.2.1 dL_law_314 (by decide) ?_
  refine lv_iadd (pc := 315) E.1 E.2.1 dL_law_315 ?_
  obtain ⟨v2, g1, hf⟩ := x_bind hf
  refine x_sld (pc := 316) E hX hbl hw g1 dL_law_316 ?_
  obtain ⟨v3, g4, hf⟩ := x_bind hf
  refine x_callV (pc := 317) (As := [.int v2]) (rest := []) (st1 := [.int v3.1]) (ws' := (cells7 G ad v3.2 ++ cells8 G ae q)) E hw hl (c_X7_back l G ad s v2 g4) xv_L_18 xd_X7_back rfl rfl ⟨Nat.le_of_ble_eq_true rfl, Nat.le_of_ble_eq_true rfl⟩ [0, 1, 2, 3, 4, 5, 6, 7, 8, 9, 10, 11, 12, 13, 14, 15, 16, 17, 18, 19, 20, 21, 22, 23, 24, 25, 26, 27, 28, 29, 30] [31, 32, 33, 34, 35, 36, 37, 38, 39, 40, 41, 42, 43, 44, 45, 46, 47, 48, 49, 50] (by decide) ⟨rfl, rfl, rfl, rfl, rfl, rfl, rfl, rfl, rfl, rfl, rfl, rfl, rfl, rfl, rfl, rfl, rfl, rfl, rfl, rfl, rfl, rfl, rfl, rfl, rfl, rfl, rfl, rfl, rfl, rfl, rfl, trivial⟩ (q0 := 0) rfl rfl rfl rfl (Nat.le_of_ble_eq_true rfl) (nw := 51) ⟨rfl, rfl, rfl, rfl, rfl, rfl, rfl, rfl, rfl, rfl, rfl, rfl, rfl, rfl, rfl, rfl, rfl, rfl, rfl, rfl, rfl, rfl, rfl, rfl, rfl, rfl, rfl, rfl, rfl, rfl, rfl, trivial⟩ ⟨⟨_, rfl, rfl⟩, ⟨_, rfl, rfl⟩, ⟨_, rfl, rfl⟩, ⟨_, rfl, rfl⟩, ⟨_, rfl, rfl⟩, ⟨_, rfl, rfl⟩, ⟨_, rfl, rfl⟩, ⟨_, rfl, rfl⟩, ⟨_, rfl, rfl⟩, ⟨_, rfl, rfl⟩, ⟨_, rfl, rfl⟩, ⟨_, rfl, rfl⟩, ⟨_, rfl, rfl⟩, ⟨_, rfl, rfl⟩, ⟨_, rfl, rfl⟩, ⟨_, rfl, rfl⟩, ⟨_, rfl, rfl⟩, ⟨_, rfl, rfl⟩, ⟨_, rfl, rfl⟩, ⟨_, rfl, rfl⟩, trivial⟩ rfl rfl (by decide) (by decide) rfl dL_law_317 (fun H locs hw => ?_) (hcs := ⟨Nat.le_refl _, Nat.le_refl _⟩)
  refine lv_aload_n (pc := 320) E.1 E.2.1 dL_law_320 rfl (lv_at hl 2 rfl) ?_
  refine lv_aload_n (pc := 321) E.1 E.2.1 dL_law_321 rfl (lv_at hl 0 rfl) ?_
  refine lv_iload_n (pc := 322) E.1 E.2.1 dL_law_322 rfl (lv_at hl 3 rfl) ?_
  refine lv_iconst (v := 1) (pc := 323) E.1 E.2.1 dL_law_323 (by decide) ?_
  refine lv_iadd (pc := 324) E.1 E.2.1 dL_law_324 ?_
  obtain ⟨v6, g5, hf⟩ := x_bind hf
  refine x_sld (pc := 325) E hX hbl hw g5 dL_law_325 ?_
  obtain ⟨v7, g8, hf⟩ := x_bind hf
  refine x_callV (pc := 326) (As := [.int v6]) (rest := [.int v3.1]) (st1 := [.int v7.1, .int v3.1]) (ws' := (cells7 G ad v3.2 ++ cells8 G ae v7.2)) E hw hl (c_X8_back l G ae q v6 g8) xv_L_22 xd_X8_back rfl rfl ⟨Nat.le_of_ble_eq_true rfl, Nat.le_of_ble_eq_true rfl⟩ [31, 32, 33, 34, 35, 36, 37, 38, 39, 40, 41, 42, 43, 44, 45, 46, 47, 48, 49, 50] [0, 1, 2, 3, 4, 5, 6, 7, 8, 9, 10, 11, 12, 13, 14, 15, 16, 17, 18, 19, 20, 21, 22, 23, 24, 25, 26, 27, 28, 29, 30] (by decide) ⟨rfl, rfl, rfl, rfl, rfl, rfl, rfl, rfl, rfl, rfl, rfl, rfl, rfl, rfl, rfl, rfl, rfl, rfl, rfl, rfl, trivial⟩ (q0 := 31) rfl rfl rfl rfl (Nat.le_of_ble_eq_true rfl) (nw := 51) ⟨rfl, rfl, rfl, rfl, rfl, rfl, rfl, rfl, rfl, rfl, rfl, rfl, rfl, rfl, rfl, rfl, rfl, rfl, rfl, rfl, trivial⟩ ⟨⟨_, rfl, rfl⟩, ⟨_, rfl, rfl⟩, ⟨_, rfl, rfl⟩, ⟨_, rfl, rfl⟩, ⟨_, rfl, rfl⟩, ⟨_, rfl, rfl⟩, ⟨_, rfl, rfl⟩, ⟨_, rfl, rfl⟩, ⟨_, rfl, rfl⟩, ⟨_, rfl, rfl⟩, ⟨_, rfl, rfl⟩, ⟨_, rfl, rfl⟩, ⟨_, rfl, rfl⟩, ⟨_, rfl, rfl⟩, ⟨_, rfl, rfl⟩, ⟨_, rfl, rfl⟩, ⟨_, rfl, rfl⟩, ⟨_, rfl, rfl⟩, ⟨_, rfl, rfl⟩, ⟨_, rfl, rfl⟩, ⟨_, rfl, rfl⟩, ⟨_, rfl, rfl⟩, ⟨_, rfl, rfl⟩, ⟨_, rfl, rfl⟩, ⟨_, rfl, rfl⟩, ⟨_, rfl, rfl⟩, ⟨_, rfl, rfl⟩, ⟨_, rfl, rfl⟩, ⟨_, rfl, rfl⟩, ⟨_, rfl, rfl⟩, ⟨_, rfl, rfl⟩, trivial⟩ rfl rfl (by decide) (by decide) rfl dL_law_326 (fun H locs hw => ?_) (hcs := ⟨Nat.le_refl _, Nat.le_refl _⟩)
  refine lv_icmp_eq (tgt := 1816) (pc := 329) E.1 E.2.1 dL_law_329 (by decide) (fun q9 => ?_) (fun q9 => ?_)
  · have hf := x_pos q9 hf
    exact w_law_p1816 E hX hbl hr hk hk18 v3.2 v7.2 x3 hw (lv_sub hl [0, 1, 2, 3] rfl) hf
  · have hf := x_neg q9 hf
    refine lv_iconst (v := 0) (pc := 332) E.1 E.2.1 dL_law_332 (by decide) ?_
    exact absurd (Option.some.inj hf) (by decide)
set_option maxHeartbeats 4000000 in
set_option maxRecDepth 100000 in
theorem w_law_p248 {p : Program} {l : Launch} {e : Env} {sS : State} {m : MethodId} {below : List Frame} {meth : Method} {c : Code} {G : xG} {ad ae : Nat → Nat} {b L : Nat} {xs : Nat → Int32} {k18 : S7 → S8 → Int32 → Option Int32} (E : xE p sS m #[Value.ref b] c cL_law 4 RL G (fun q => sS.heap.size ≤ q)) (hX : va_X b L xs sS sS.heap) (hbl : b < sS.heap.size) (hr : meth.sig.returnType = ret) (hk : meth.locks = false) (hk18 : ∀ (s' : S7) (q' : S8) (x3' : Int32) {H : Heap} {locs : List Loc} {ls : Array Slot}, xW G (fun q => sS.heap.size ≤ q) sS.heap (cells7 G ad s' ++ cells8 G ae q') H locs → lv_has ls 4 [(0, .ref b), (1, .ref (ad 0)), (2, .ref (ae 0)), (3, .int x3')] → k18  s' q' x3' = some 1 → W p l e room_1 sS m #[Value.ref b] below meth c H locs 51 5492 (lw_Z below #[Value.ref b] sS) (F0 m 18 ls [])) : ∀ (s' : S7) (q' : S8) (x3' : Int32) {H : Heap} {locs : List Loc} {ls : Array Slot}, xW G (fun q => sS.heap.size ≤ q) sS.heap (cells7 G ad s' ++ cells8 G ae q') H locs → lv_has ls 4 [(0, .ref b), (1, .ref (ad 0)), (2, .ref (ae 0)), (3, .int x3')] → f_law_p248 k18 L xs s' q' x3' = some 1 → W p l e room_1 sS m #[Value.ref b] below meth c H locs 51 5492 (lw_Z below #[Value.ref b] sS) (F0 m 248 ls []) := by
  intro s q x3 H locs ls hw hl hf
  unfold f_law_p248 at hf
  refine lv_aload_n (pc := 248) E.1 E.2.1 dL_law_248 rfl (lv_at hl 1 rfl) ?_
  refine lv_aload_n (pc := 249) E.1 E.2.1 dL_law_249 rfl (lv_at hl 0 rfl) ?_
  refine lv_iload_n (pc := 250) E.1 E.2.1 dL_law_250 rfl (lv_at hl 3 rfl) ?_
  refine lv_iconst (v := 1) (pc := 251) E.1 E.2.1 dL_law_251 (by decide) ?_
  refine lv_iadd (pc := 252) E.1 E.2.1 dL_law_252 ?_
  obtain ⟨v2, g1, hf⟩ := x_bind hf
  refine x_sld (pc := 253) E hX hbl hw g1 dL_law_253 ?_
  refine lv_aload_n (pc := 254) E.1 E.2.1 dL_law_254 rfl (lv_at hl 0 rfl) ?_
  refine lv_iload_n (pc := 255) E.1 E.2.1 dL_law_255 rfl (lv_at hl 3 rfl) ?_
  refine lv_iconst (v := 2) (pc := 256) E.1 E.2.1 dL_law_256 (by decide) ?_
  refine lv_iadd (pc := 257) E.1 E.2.1 dL_law_257 ?_
  obtain ⟨v4, g3, hf⟩ := x_bind hf
  refine x_sld (pc := 258) E hX hbl hw g3 dL_law_258 ?_
  refine lv_aload_n (pc := 259) E.1 E.2.1 dL_law_259 rfl (lv_at hl 0 rfl) ?_
  refine lv_iload_n (pc := 260) E.1 E.2.1 dL_law_260 rfl (lv_at hl 3 rfl) ?_
  refine lv_iconst (v := 3) (pc := 261) E.1 E.2.1 dL_law_261 (by decide) ?_
  refine lv_iadd (pc := 262) E.1 E.2.1 dL_law_262 ?_
  obtain ⟨v6, g5, hf⟩ := x_bind hf
  refine x_sld (pc := 263) E hX hbl hw g5 dL_law_263 ?_
  refine lv_aload_n (pc := 264) E.1 E.2.1 dL_law_264 rfl (lv_at hl 0 rfl) ?_
  refine lv_iload_n (pc := 265) E.1 E.2.1 dL_law_265 rfl (lv_at hl 3 rfl) ?_
  refine lv_iconst (v := 4) (pc := 266) E.1 E.2.1 dL_law_266 (by decide) ?_
  refine lv_iadd (pc := 267) E.1 E.2.1 dL_law_267 ?_
  obtain ⟨v8, g7, hf⟩ := x_bind hf
  refine x_sld (pc := 268) E hX hbl hw g7 dL_law_268 ?_
  refine lv_aload_n (pc := 269) E.1 E.2.1 dL_law_269 rfl (lv_at hl 0 rfl) ?_
  refine lv_iload_n (pc := 270) E.1 E.2.1 dL_law_270 rfl (lv_at hl 3 rfl) ?_
  refine lv_iconst (v := 5) (pc := 271) E.1 E.2.1 dL_law_271 (by decide) ?_
  refine lv_iadd (pc := 272) E.1 E.2.1 dL_law_272 ?_
  obtain ⟨v10, g9, hf⟩ := x_bind hf
  refine x_sld (pc := 273) E hX hbl hw g9 dL_law_273 ?_
  obtain ⟨v11, g12, hf⟩ := x_bind hf
  refine x_callV (pc := 274) (As := [.int v2, .int v4, .int v6, .int v8, .int v10]) (rest := []) (st1 := [.int v11.1]) (ws' := (cells7 G ad v11.2 ++ cells8 G ae q)) E hw hl (c_X7_feed l G ad s v2 v4 v6 v8 v10 g12) xv_L_13 xd_X7_feed rfl rfl ⟨Nat.le_of_ble_eq_true rfl, Nat.le_of_ble_eq_true rfl⟩ [0, 1, 2, 3, 4, 5, 6, 7, 8, 9, 10, 11, 12, 13, 14, 15, 16, 17, 18, 19, 20, 21, 22, 23, 24, 25, 26, 27, 28, 29, 30] [31, 32, 33, 34, 35, 36, 37, 38, 39, 40, 41, 42, 43, 44, 45, 46, 47, 48, 49, 50] (by decide) ⟨rfl, rfl, rfl, rfl, rfl, rfl, rfl, rfl, rfl, rfl, rfl, rfl, rfl, rfl, rfl, rfl, rfl, rfl, rfl, rfl, rfl, rfl, rfl, rfl, rfl, rfl, rfl, rfl, rfl, rfl, rfl, trivial⟩ (q0 := 0) rfl rfl rfl rfl (Nat.le_of_ble_eq_true rfl) (nw := 51) ⟨rfl, rfl, rfl, rfl, rfl, rfl, rfl, rfl, rfl, rfl, rfl, rfl, rfl, rfl, rfl, rfl, rfl, rfl, rfl, rfl, rfl, rfl, rfl, rfl, rfl, rfl, rfl, rfl, rfl, rfl, rfl, trivial⟩ ⟨⟨_, rfl, rfl⟩, ⟨_, rfl, rfl⟩, ⟨_, rfl, rfl⟩, ⟨_, rfl, rfl⟩, ⟨_, rfl, rfl⟩, ⟨_, rfl, rfl⟩, ⟨_, rfl, rfl⟩, ⟨_, rfl, rfl⟩, ⟨_, rfl, rfl⟩, ⟨_, rfl, rfl⟩, ⟨_, rfl, rfl⟩, ⟨_, rfl, rfl⟩, ⟨_, rfl, rfl⟩, ⟨_, rfl, rfl⟩, ⟨_, rfl, rfl⟩, ⟨_, rfl, rfl⟩, ⟨_, rfl, rfl⟩, ⟨_, rfl, rfl⟩, ⟨_, rfl, rfl⟩, ⟨_, rfl, rfl⟩, trivial⟩ rfl rfl (by decide) (by decide) rfl dL_law_274 (fun H locs hw => ?_) (hcs := ⟨Nat.le_refl _, Nat.le_refl _⟩)
  refine lv_aload_n (pc := 277) E.1 E.2.1 dL_law_277 rfl (lv_at hl 2 rfl) ?_
  refine lv_aload_n (pc := 278) E.1 E.2.1 dL_law_278 rfl (lv_at hl 0 rfl) ?_
  refine lv_iload_n (pc := 279) E.1 E.2.1 dL_law_279 rfl (lv_at hl 3 rfl) ?_
  refine lv_iconst (v := 1) (pc := 280) E.1 E.2.1 dL_law_280 (by decide) ?_
  refine lv_iadd (pc := 281) E.1 E.2.1 dL_law_281 ?_
  obtain ⟨v14, g13, hf⟩ := x_bind hf
  refine x_sld (pc := 282) E hX hbl hw g13 dL_law_282 ?_
  refine lv_aload_n (pc := 283) E.1 E.2.1 dL_law_283 rfl (lv_at hl 0 rfl) ?_
  refine lv_iload_n (pc := 284) E.1 E.2.1 dL_law_284 rfl (lv_at hl 3 rfl) ?_
  refine lv_iconst (v := 2) (pc := 285) E.1 E.2.1 dL_law_285 (by decide) ?_
  refine lv_iadd (pc := 286) E.1 E.2.1 dL_law_286 ?_
  obtain ⟨v16, g15, hf⟩ := x_bind hf
  refine x_sld (pc := 287) E hX hbl hw g15 dL_law_287 ?_
  refine lv_aload_n (pc := 288) E.1 E.2.1 dL_law_288 rfl (lv_at hl 0 rfl) ?_
  refine lv_iload_n (pc := 289) E.1 E.2.1 dL_law_289 rfl (lv_at hl 3 rfl) ?_
  refine lv_iconst (v := 3) (pc := 290) E.1 E.2.1 dL_law_290 (by decide) ?_
  refine lv_iadd (pc := 291) E.1 E.2.1 dL_law_291 ?_
  obtain ⟨v18, g17, hf⟩ := x_bind hf
  refine x_sld (pc := 292) E hX hbl hw g17 dL_law_292 ?_
  refine lv_aload_n (pc := 293) E.1 E.2.1 dL_law_293 rfl (lv_at hl 0 rfl) ?_
  refine lv_iload_n (pc := 294) E.1 E.2.1 dL_law_294 rfl (lv_at hl 3 rfl) ?_
  refine lv_iconst (v := 4) (pc := 295) E.1 E.2.1 dL_law_295 (by decide) ?_
  refine lv_iadd (pc := 296) E.1 E.2.1 dL_law_296 ?_
  obtain ⟨v20, g19, hf⟩ := x_bind hf
  refine x_sld (pc := 297) E hX hbl hw g19 dL_law_297 ?_
  refine lv_aload_n (pc := 298) E.1 E.2.1 dL_law_298 rfl (lv_at hl 0 rfl) ?_
  refine lv_iload_n (pc := 299) E.1 E.2.1 dL_law_299 rfl (lv_at hl 3 rfl) ?_
  refine lv_iconst (v := 5) (pc := 300) E.1 E.2.1 dL_law_300 (by decide) ?_
  refine lv_iadd (pc := 301) E.1 E.2.1 dL_law_301 ?_
  obtain ⟨v22, g21, hf⟩ := x_bind hf
  refine x_sld (pc := 302) E hX hbl hw g21 dL_law_302 ?_
  obtain ⟨v23, g24, hf⟩ := x_bind hf
  refine x_callV (pc := 303) (As := [.int v14, .int v16, .int v18, .int v20, .int v22]) (rest := [.int v11.1]) (st1 := [.int v23.1, .int v11.1]) (ws' := (cells7 G ad v11.2 ++ cells8 G ae v23.2)) E hw hl (c_X8_feed l G ae q v14 v16 v18 v20 v22 g24) xv_L_17 xd_X8_feed rfl rfl ⟨Nat.le_of_ble_eq_true rfl, Nat.le_of_ble_eq_true rfl⟩ [31, 32, 33, 34, 35, 36, 37, 38, 39, 40, 41, 42, 43, 44, 45, 46, 47, 48, 49, 50] [0, 1, 2, 3, 4, 5, 6, 7, 8, 9, 10, 11, 12, 13, 14, 15, 16, 17, 18, 19, 20, 21, 22, 23, 24, 25, 26, 27, 28, 29, 30] (by decide) ⟨rfl, rfl, rfl, rfl, rfl, rfl, rfl, rfl, rfl, rfl, rfl, rfl, rfl, rfl, rfl, rfl, rfl, rfl, rfl, rfl, trivial⟩ (q0 := 31) rfl rfl rfl rfl (Nat.le_of_ble_eq_true rfl) (nw := 51) ⟨rfl, rfl, rfl, rfl, rfl, rfl, rfl, rfl, rfl, rfl, rfl, rfl, rfl, rfl, rfl, rfl, rfl, rfl, rfl, rfl, trivial⟩ ⟨⟨_, rfl, rfl⟩, ⟨_, rfl, rfl⟩, ⟨_, rfl, rfl⟩, ⟨_, rfl, rfl⟩, ⟨_, rfl, rfl⟩, ⟨_, rfl, rfl⟩, ⟨_, rfl, rfl⟩, ⟨_, rfl, rfl⟩, ⟨_, rfl, rfl⟩, ⟨_, rfl, rfl⟩, ⟨_, rfl, rfl⟩, ⟨_, rfl, rfl⟩, ⟨_, rfl, rfl⟩, ⟨_, rfl, rfl⟩, ⟨_, rfl, rfl⟩, ⟨_, rfl, rfl⟩, ⟨_, rfl, rfl⟩, ⟨_, rfl, rfl⟩, ⟨_, rfl, rfl⟩, ⟨_, rfl, rfl⟩, ⟨_, rfl, rfl⟩, ⟨_, rfl, rfl⟩, ⟨_, rfl, rfl⟩, ⟨_, rfl, rfl⟩, ⟨_, rfl, rfl⟩, ⟨_, rfl, rfl⟩, ⟨_, rfl, rfl⟩, ⟨_, rfl, rfl⟩, ⟨_, rfl, rfl⟩, ⟨_, rfl, rfl⟩, ⟨_, rfl, rfl⟩, trivial⟩ rfl rfl (by decide) (by decide) rfl dL_law_303 (fun H locs hw => ?_) (hcs := ⟨Nat.le_refl _, Nat.le_refl _⟩)
  refine lv_icmp_eq (tgt := 1816) (pc := 306) E.1 E.2.1 dL_law_306 (by decide) (fun q25 => ?_) (fun q25 => ?_)
  · have hf := x_pos q25 hf
    exact w_law_p1816 E hX hbl hr hk hk18 v11.2 v23.2 x3 hw (lv_sub hl [0, 1, 2, 3] rfl) hf
  · have hf := x_neg q25 hf
    refine lv_iconst (v := 0) (pc := 309) E.1 E.2.1 dL_law_309 (by decide) ?_
    exact absurd (Option.some.inj hf) (by decide)
set_option maxHeartbeats 4000000 in
set_option maxRecDepth 100000 in
theorem w_law_p18 {p : Program} {l : Launch} {e : Env} {sS : State} {m : MethodId} {below : List Frame} {meth : Method} {c : Code} {G : xG} {ad ae : Nat → Nat} {b L : Nat} {xs : Nat → Int32} {k18 : S7 → S8 → Int32 → Option Int32} (E : xE p sS m #[Value.ref b] c cL_law 4 RL G (fun q => sS.heap.size ≤ q)) (hX : va_X b L xs sS sS.heap) (hbl : b < sS.heap.size) (hr : meth.sig.returnType = ret) (hk : meth.locks = false) (hk18 : ∀ (s' : S7) (q' : S8) (x3' : Int32) {H : Heap} {locs : List Loc} {ls : Array Slot}, xW G (fun q => sS.heap.size ≤ q) sS.heap (cells7 G ad s' ++ cells8 G ae q') H locs → lv_has ls 4 [(0, .ref b), (1, .ref (ad 0)), (2, .ref (ae 0)), (3, .int x3')] → k18  s' q' x3' = some 1 → W p l e room_1 sS m #[Value.ref b] below meth c H locs 51 5492 (lw_Z below #[Value.ref b] sS) (F0 m 18 ls [])) : ∀ (s' : S7) (q' : S8) (x3' : Int32) {H : Heap} {locs : List Loc} {ls : Array Slot}, xW G (fun q => sS.heap.size ≤ q) sS.heap (cells7 G ad s' ++ cells8 G ae q') H locs → lv_has ls 4 [(0, .ref b), (1, .ref (ad 0)), (2, .ref (ae 0)), (3, .int x3')] → f_law_p18 k18 L xs s' q' x3' = some 1 → W p l e room_1 sS m #[Value.ref b] below meth c H locs 51 5492 (lw_Z below #[Value.ref b] sS) (F0 m 18 ls []) := by
  intro s q x3 H locs ls hw hl hf
  unfold f_law_p18 at hf
  refine lv_iload_n (pc := 18) E.1 E.2.1 dL_law_18 rfl (lv_at hl 3 rfl) ?_
  refine lv_aload_n (pc := 19) E.1 E.2.1 dL_law_19 rfl (lv_at hl 0 rfl) ?_
  refine x_slen0 (pc := 20) E hX hbl hw dL_law_20 ?_
  refine lv_bipush (v := 6) (pc := 21) E.1 E.2.1 dL_law_21 (by decide) ?_
  refine lv_isub (pc := 23) E.1 E.2.1 dL_law_23 ?_
  refine lv_icmp_gt (tgt := 1822) (pc := 24) E.1 E.2.1 dL_law_24 (by decide) (fun q1 => ?_) (fun q1 => ?_)
  · have hf := x_pos q1 hf
    refine lv_iconst (v := 1) (pc := 1822) E.1 E.2.1 dL_law_1822 (by decide) ?_
    exact x_lawend (pc := 1823) E hr hk hw dL_law_1823
  · have hf := x_neg q1 hf
    refine lv_aload_n (pc := 27) E.1 E.2.1 dL_law_27 rfl (lv_at hl 0 rfl) ?_
    refine lv_iload_n (pc := 28) E.1 E.2.1 dL_law_28 rfl (lv_at hl 3 rfl) ?_
    obtain ⟨v3, g2, hf⟩ := x_bind hf
    refine x_sld (pc := 29) E hX hbl hw g2 dL_law_29 ?_
    refine lv_bipush (v := 63) (pc := 30) E.1 E.2.1 dL_law_30 (by decide) ?_
    refine lv_iand (pc := 32) E.1 E.2.1 dL_law_32 ?_
    by_cases q4 : (v3 &&& (63 : Int32)) = 0
    · have hf := x_pos q4 hf
      refine x_swi (pc := 33) (v := 0) (tgt := 248) E q4 dL_law_33 (by decide) (by decide) rfl (by decide) ?_
      exact w_law_p248 E hX hbl hr hk hk18 s q x3 hw (lv_sub hl [0, 1, 2, 3] rfl) hf
    · have hf := x_neg q4 hf
      by_cases q5 : (v3 &&& (63 : Int32)) = 1
      · have hf := x_pos q5 hf
        refine x_swi (pc := 33) (v := 1) (tgt := 311) E q5 dL_law_33 (by decide) (by decide) rfl (by decide) ?_
        exact w_law_p311 E hX hbl hr hk hk18 s q x3 hw (lv_sub hl [0, 1, 2, 3] rfl) hf
      · have hf := x_neg q5 hf
        by_cases q6 : (v3 &&& (63 : Int32)) = 2
        · have hf := x_pos q6 hf
          refine x_swi (pc := 33) (v := 2) (tgt := 334) E q6 dL_law_33 (by decide) (by decide) rfl (by decide) ?_
          exact w_law_p334 E hX hbl hr hk hk18 s q x3 hw (lv_sub hl [0, 1, 2, 3] rfl) hf
        · have hf := x_neg q6 hf
          by_cases q7 : (v3 &&& (63 : Int32)) = 3
          · have hf := x_pos q7 hf
            refine x_swi (pc := 33) (v := 3) (tgt := 347) E q7 dL_law_33 (by decide) (by decide) rfl (by decide) ?_
            exact w_law_p347 E hX hbl hr hk hk18 s q x3 hw (lv_sub hl [0, 1, 2, 3] rfl) hf
          · have hf := x_neg q7 hf
            by_cases q8 : (v3 &&& (63 : Int32)) = 4
            · have hf := x_pos q8 hf
              refine x_swi (pc := 33) (v := 4) (tgt := 380) E q8 dL_law_33 (by decide) (by decide) rfl (by decide) ?_
              exact w_law_p380 E hX hbl hr hk hk18 s q x3 hw (lv_sub hl [0, 1, 2, 3] rfl) hf
            · have hf := x_neg q8 hf
              by_cases q9 : (v3 &&& (63 : Int32)) = 5
              · have hf := x_pos q9 hf
                refine x_swi (pc := 33) (v := 5) (tgt := 403) E q9 dL_law_33 (by decide) (by decide) rfl (by decide) ?_
                exact w_law_p403 E hX hbl hr hk hk18 s q x3 hw (lv_sub hl [0, 1, 2, 3] rfl) hf
              · have hf := x_neg q9 hf
                by_cases q10 : (v3 &&& (63 : Int32)) = 6
                · have hf := x_pos q10 hf
                  refine x_swi (pc := 33) (v := 6) (tgt := 436) E q10 dL_law_33 (by decide) (by decide) rfl (by decide) ?_
                  exact w_law_p436 E hX hbl hr hk hk18 s q x3 hw (lv_sub hl [0, 1, 2, 3] rfl) hf
                · have hf := x_neg q10 hf
                  by_cases q11 : (v3 &&& (63 : Int32)) = 7
                  · have hf := x_pos q11 hf
                    refine x_swi (pc := 33) (v := 7) (tgt := 469) E q11 dL_law_33 (by decide) (by decide) rfl (by decide) ?_
                    exact w_law_p469 E hX hbl hr hk hk18 s q x3 hw (lv_sub hl [0, 1, 2, 3] rfl) hf
                  · have hf := x_neg q11 hf
                    by_cases q12 : (v3 &&& (63 : Int32)) = 8
                    · have hf := x_pos q12 hf
                      refine x_swi (pc := 33) (v := 8) (tgt := 502) E q12 dL_law_33 (by decide) (by decide) rfl (by decide) ?_
                      exact w_law_p502 E hX hbl hr hk hk18 s q x3 hw (lv_sub hl [0, 1, 2, 3] rfl) hf
                    · have hf := x_neg q12 hf
                      by_cases q13 : (v3 &&& (63 : Int32)) = 9
                      · have hf := x_pos q13 hf
                        refine x_swi (pc := 33) (v := 9) (tgt := 525) E q13 dL_law_33 (by decide) (by decide) rfl (by decide) ?_
                        exact w_law_p525 E hX hbl hr hk hk18 s q x3 hw (lv_sub hl [0, 1, 2, 3] rfl) hf
                      · have hf := x_neg q13 hf
                        by_cases q14 : (v3 &&& (63 : Int32)) = 10
                        · have hf := x_pos q14 hf
                          refine x_swi (pc := 33) (v := 10) (tgt := 568) E q14 dL_law_33 (by decide) (by decide) rfl (by decide) ?_
                          exact w_law_p568 E hX hbl hr hk hk18 s q x3 hw (lv_sub hl [0, 1, 2, 3] rfl) hf
                        · have hf := x_neg q14 hf
                          by_cases q15 : (v3 &&& (63 : Int32)) = 11
                          · have hf := x_pos q15 hf
                            refine x_swi (pc := 33) (v := 11) (tgt := 591) E q15 dL_law_33 (by decide) (by decide) rfl (by decide) ?_
                            exact w_law_p591 E hX hbl hr hk hk18 s q x3 hw (lv_sub hl [0, 1, 2, 3] rfl) hf
                          · have hf := x_neg q15 hf
                            by_cases q16 : (v3 &&& (63 : Int32)) = 12
                            · have hf := x_pos q16 hf
                              refine x_swi (pc := 33) (v := 12) (tgt := 624) E q16 dL_law_33 (by decide) (by decide) rfl (by decide) ?_
                              exact w_law_p624 E hX hbl hr hk hk18 s q x3 hw (lv_sub hl [0, 1, 2, 3] rfl) hf
                            · have hf := x_neg q16 hf
                              by_cases q17 : (v3 &&& (63 : Int32)) = 13
                              · have hf := x_pos q17 hf
                                refine x_swi (pc := 33) (v := 13) (tgt := 657) E q17 dL_law_33 (by decide) (by decide) rfl (by decide) ?_
                                exact w_law_p657 E hX hbl hr hk hk18 s q x3 hw (lv_sub hl [0, 1, 2, 3] rfl) hf
                              · have hf := x_neg q17 hf
                                by_cases q18 : (v3 &&& (63 : Int32)) = 14
                                · have hf := x_pos q18 hf
                                  refine x_swi (pc := 33) (v := 14) (tgt := 690) E q18 dL_law_33 (by decide) (by decide) rfl (by decide) ?_
                                  exact w_law_p690 E hX hbl hr hk hk18 s q x3 hw (lv_sub hl [0, 1, 2, 3] rfl) hf
                                · have hf := x_neg q18 hf
                                  by_cases q19 : (v3 &&& (63 : Int32)) = 15
                                  · have hf := x_pos q19 hf
                                    refine x_swi (pc := 33) (v := 15) (tgt := 723) E q19 dL_law_33 (by decide) (by decide) rfl (by decide) ?_
                                    exact w_law_p723 E hX hbl hr hk hk18 s q x3 hw (lv_sub hl [0, 1, 2, 3] rfl) hf
                                  · have hf := x_neg q19 hf
                                    by_cases q20 : (v3 &&& (63 : Int32)) = 16
                                    · have hf := x_pos q20 hf
                                      refine x_swi (pc := 33) (v := 16) (tgt := 756) E q20 dL_law_33 (by decide) (by decide) rfl (by decide) ?_
                                      exact w_law_p756 E hX hbl hr hk hk18 s q x3 hw (lv_sub hl [0, 1, 2, 3] rfl) hf
                                    · have hf := x_neg q20 hf
                                      by_cases q21 : (v3 &&& (63 : Int32)) = 17
                                      · have hf := x_pos q21 hf
                                        refine x_swi (pc := 33) (v := 17) (tgt := 789) E q21 dL_law_33 (by decide) (by decide) rfl (by decide) ?_
                                        exact w_law_p789 E hX hbl hr hk hk18 s q x3 hw (lv_sub hl [0, 1, 2, 3] rfl) hf
                                      · have hf := x_neg q21 hf
                                        by_cases q22 : (v3 &&& (63 : Int32)) = 18
                                        · have hf := x_pos q22 hf
                                          refine x_swi (pc := 33) (v := 18) (tgt := 812) E q22 dL_law_33 (by decide) (by decide) rfl (by decide) ?_
                                          exact w_law_p812 E hX hbl hr hk hk18 s q x3 hw (lv_sub hl [0, 1, 2, 3] rfl) hf
                                        · have hf := x_neg q22 hf
                                          by_cases q23 : (v3 &&& (63 : Int32)) = 19
                                          · have hf := x_pos q23 hf
                                            refine x_swi (pc := 33) (v := 19) (tgt := 835) E q23 dL_law_33 (by decide) (by decide) rfl (by decide) ?_
                                            exact w_law_p835 E hX hbl hr hk hk18 s q x3 hw (lv_sub hl [0, 1, 2, 3] rfl) hf
                                          · have hf := x_neg q23 hf
                                            by_cases q24 : (v3 &&& (63 : Int32)) = 20
                                            · have hf := x_pos q24 hf
                                              refine x_swi (pc := 33) (v := 20) (tgt := 848) E q24 dL_law_33 (by decide) (by decide) rfl (by decide) ?_
                                              exact w_law_p848 E hX hbl hr hk hk18 s q x3 hw (lv_sub hl [0, 1, 2, 3] rfl) hf
                                            · have hf := x_neg q24 hf
                                              by_cases q25 : (v3 &&& (63 : Int32)) = 21
                                              · have hf := x_pos q25 hf
                                                refine x_swi (pc := 33) (v := 21) (tgt := 881) E q25 dL_law_33 (by decide) (by decide) rfl (by decide) ?_
                                                exact w_law_p881 E hX hbl hr hk hk18 s q x3 hw (lv_sub hl [0, 1, 2, 3] rfl) hf
                                              · have hf := x_neg q25 hf
                                                by_cases q26 : (v3 &&& (63 : Int32)) = 22
                                                · have hf := x_pos q26 hf
                                                  refine x_swi (pc := 33) (v := 22) (tgt := 914) E q26 dL_law_33 (by decide) (by decide) rfl (by decide) ?_
                                                  exact w_law_p914 E hX hbl hr hk hk18 s q x3 hw (lv_sub hl [0, 1, 2, 3] rfl) hf
                                                · have hf := x_neg q26 hf
                                                  by_cases q27 : (v3 &&& (63 : Int32)) = 23
                                                  · have hf := x_pos q27 hf
                                                    refine x_swi (pc := 33) (v := 23) (tgt := 947) E q27 dL_law_33 (by decide) (by decide) rfl (by decide) ?_
                                                    exact w_law_p947 E hX hbl hr hk hk18 s q x3 hw (lv_sub hl [0, 1, 2, 3] rfl) hf
                                                  · have hf := x_neg q27 hf
                                                    by_cases q28 : (v3 &&& (63 : Int32)) = 24
                                                    · have hf := x_pos q28 hf
                                                      refine x_swi (pc := 33) (v := 24) (tgt := 980) E q28 dL_law_33 (by decide) (by decide) rfl (by decide) ?_
                                                      exact w_law_p980 E hX hbl hr hk hk18 s q x3 hw (lv_sub hl [0, 1, 2, 3] rfl) hf
                                                    · have hf := x_neg q28 hf
                                                      by_cases q29 : (v3 &&& (63 : Int32)) = 25
                                                      · have hf := x_pos q29 hf
                                                        refine x_swi (pc := 33) (v := 25) (tgt := 1040) E q29 dL_law_33 (by decide) (by decide) rfl (by decide) ?_
                                                        exact w_law_p1040 E hX hbl hr hk hk18 s q x3 hw (lv_sub hl [0, 1, 2, 3] rfl) hf
                                                      · have hf := x_neg q29 hf
                                                        by_cases q30 : (v3 &&& (63 : Int32)) = 26
                                                        · have hf := x_pos q30 hf
                                                          refine x_swi (pc := 33) (v := 26) (tgt := 1080) E q30 dL_law_33 (by decide) (by decide) rfl (by decide) ?_
                                                          exact w_law_p1080 E hX hbl hr hk hk18 s q x3 hw (lv_sub hl [0, 1, 2, 3] rfl) hf
                                                        · have hf := x_neg q30 hf
                                                          by_cases q31 : (v3 &&& (63 : Int32)) = 27
                                                          · have hf := x_pos q31 hf
                                                            refine x_swi (pc := 33) (v := 27) (tgt := 1130) E q31 dL_law_33 (by decide) (by decide) rfl (by decide) ?_
                                                            exact w_law_p1130 E hX hbl hr hk hk18 s q x3 hw (lv_sub hl [0, 1, 2, 3] rfl) hf
                                                          · have hf := x_neg q31 hf
                                                            by_cases q32 : (v3 &&& (63 : Int32)) = 28
                                                            · have hf := x_pos q32 hf
                                                              refine x_swi (pc := 33) (v := 28) (tgt := 1153) E q32 dL_law_33 (by decide) (by decide) rfl (by decide) ?_
                                                              exact w_law_p1153 E hX hbl hr hk hk18 s q x3 hw (lv_sub hl [0, 1, 2, 3] rfl) hf
                                                            · have hf := x_neg q32 hf
                                                              by_cases q33 : (v3 &&& (63 : Int32)) = 29
                                                              · have hf := x_pos q33 hf
                                                                refine x_swi (pc := 33) (v := 29) (tgt := 1176) E q33 dL_law_33 (by decide) (by decide) rfl (by decide) ?_
                                                                exact w_law_p1176 E hX hbl hr hk hk18 s q x3 hw (lv_sub hl [0, 1, 2, 3] rfl) hf
                                                              · have hf := x_neg q33 hf
                                                                by_cases q34 : (v3 &&& (63 : Int32)) = 30
                                                                · have hf := x_pos q34 hf
                                                                  refine x_swi (pc := 33) (v := 30) (tgt := 1209) E q34 dL_law_33 (by decide) (by decide) rfl (by decide) ?_
                                                                  exact w_law_p1209 E hX hbl hr hk hk18 s q x3 hw (lv_sub hl [0, 1, 2, 3] rfl) hf
                                                                · have hf := x_neg q34 hf
                                                                  by_cases q35 : (v3 &&& (63 : Int32)) = 31
                                                                  · have hf := x_pos q35 hf
                                                                    refine x_swi (pc := 33) (v := 31) (tgt := 1232) E q35 dL_law_33 (by decide) (by decide) rfl (by decide) ?_
                                                                    exact w_law_p1232 E hX hbl hr hk hk18 s q x3 hw (lv_sub hl [0, 1, 2, 3] rfl) hf
                                                                  · have hf := x_neg q35 hf
                                                                    by_cases q36 : (v3 &&& (63 : Int32)) = 32
                                                                    · have hf := x_pos q36 hf
                                                                      refine x_swi (pc := 33) (v := 32) (tgt := 1255) E q36 dL_law_33 (by decide) (by decide) rfl (by decide) ?_
                                                                      exact w_law_p1255 E hX hbl hr hk hk18 s q x3 hw (lv_sub hl [0, 1, 2, 3] rfl) hf
                                                                    · have hf := x_neg q36 hf
                                                                      by_cases q37 : (v3 &&& (63 : Int32)) = 33
                                                                      · have hf := x_pos q37 hf
                                                                        refine x_swi (pc := 33) (v := 33) (tgt := 1278) E q37 dL_law_33 (by decide) (by decide) rfl (by decide) ?_
                                                                        exact w_law_p1278 E hX hbl hr hk hk18 s q x3 hw (lv_sub hl [0, 1, 2, 3] rfl) hf
                                                                      · have hf := x_neg q37 hf
                                                                        by_cases q38 : (v3 &&& (63 : Int32)) = 34
                                                                        · have hf := x_pos q38 hf
                                                                          refine x_swi (pc := 33) (v := 34) (tgt := 1311) E q38 dL_law_33 (by decide) (by decide) rfl (by decide) ?_
                                                                          exact w_law_p1311 E hX hbl hr hk hk18 s q x3 hw (lv_sub hl [0, 1, 2, 3] rfl) hf
                                                                        · have hf := x_neg q38 hf
                                                                          by_cases q39 : (v3 &&& (63 : Int32)) = 35
                                                                          · have hf := x_pos q39 hf
                                                                            refine x_swi (pc := 33) (v := 35) (tgt := 1344) E q39 dL_law_33 (by decide) (by decide) rfl (by decide) ?_
                                                                            exact w_law_p1344 E hX hbl hr hk hk18 s q x3 hw (lv_sub hl [0, 1, 2, 3] rfl) hf
                                                                          · have hf := x_neg q39 hf
                                                                            by_cases q40 : (v3 &&& (63 : Int32)) = 36
                                                                            · have hf := x_pos q40 hf
                                                                              refine x_swi (pc := 33) (v := 36) (tgt := 1377) E q40 dL_law_33 (by decide) (by decide) rfl (by decide) ?_
                                                                              exact w_law_p1377 E hX hbl hr hk hk18 s q x3 hw (lv_sub hl [0, 1, 2, 3] rfl) hf
                                                                            · have hf := x_neg q40 hf
                                                                              by_cases q41 : (v3 &&& (63 : Int32)) = 37
                                                                              · have hf := x_pos q41 hf
                                                                                refine x_swi (pc := 33) (v := 37) (tgt := 1410) E q41 dL_law_33 (by decide) (by decide) rfl (by decide) ?_
                                                                                exact w_law_p1410 E hX hbl hr hk hk18 s q x3 hw (lv_sub hl [0, 1, 2, 3] rfl) hf
                                                                              · have hf := x_neg q41 hf
                                                                                by_cases q42 : (v3 &&& (63 : Int32)) = 38
                                                                                · have hf := x_pos q42 hf
                                                                                  refine x_swi (pc := 33) (v := 38) (tgt := 1443) E q42 dL_law_33 (by decide) (by decide) rfl (by decide) ?_
                                                                                  exact w_law_p1443 E hX hbl hr hk hk18 s q x3 hw (lv_sub hl [0, 1, 2, 3] rfl) hf
                                                                                · have hf := x_neg q42 hf
                                                                                  by_cases q43 : (v3 &&& (63 : Int32)) = 39
                                                                                  · have hf := x_pos q43 hf
                                                                                    refine x_swi (pc := 33) (v := 39) (tgt := 1466) E q43 dL_law_33 (by decide) (by decide) rfl (by decide) ?_
                                                                                    exact w_law_p1466 E hX hbl hr hk hk18 s q x3 hw (lv_sub hl [0, 1, 2, 3] rfl) hf
                                                                                  · have hf := x_neg q43 hf
                                                                                    by_cases q44 : (v3 &&& (63 : Int32)) = 40
                                                                                    · have hf := x_pos q44 hf
                                                                                      refine x_swi (pc := 33) (v := 40) (tgt := 1499) E q44 dL_law_33 (by decide) (by decide) rfl (by decide) ?_
                                                                                      exact w_law_p1499 E hX hbl hr hk hk18 s q x3 hw (lv_sub hl [0, 1, 2, 3] rfl) hf
                                                                                    · have hf := x_neg q44 hf
                                                                                      by_cases q45 : (v3 &&& (63 : Int32)) = 41
                                                                                      · have hf := x_pos q45 hf
                                                                                        refine x_swi (pc := 33) (v := 41) (tgt := 1522) E q45 dL_law_33 (by decide) (by decide) rfl (by decide) ?_
                                                                                        exact w_law_p1522 E hX hbl hr hk hk18 s q x3 hw (lv_sub hl [0, 1, 2, 3] rfl) hf
                                                                                      · have hf := x_neg q45 hf
                                                                                        by_cases q46 : (v3 &&& (63 : Int32)) = 42
                                                                                        · have hf := x_pos q46 hf
                                                                                          refine x_swi (pc := 33) (v := 42) (tgt := 1555) E q46 dL_law_33 (by decide) (by decide) rfl (by decide) ?_
                                                                                          exact w_law_p1555 E hX hbl hr hk hk18 s q x3 hw (lv_sub hl [0, 1, 2, 3] rfl) hf
                                                                                        · have hf := x_neg q46 hf
                                                                                          by_cases q47 : (v3 &&& (63 : Int32)) = 43
                                                                                          · have hf := x_pos q47 hf
                                                                                            refine x_swi (pc := 33) (v := 43) (tgt := 1588) E q47 dL_law_33 (by decide) (by decide) rfl (by decide) ?_
                                                                                            exact w_law_p1588 E hX hbl hr hk hk18 s q x3 hw (lv_sub hl [0, 1, 2, 3] rfl) hf
                                                                                          · have hf := x_neg q47 hf
                                                                                            by_cases q48 : (v3 &&& (63 : Int32)) = 44
                                                                                            · have hf := x_pos q48 hf
                                                                                              refine x_swi (pc := 33) (v := 44) (tgt := 1621) E q48 dL_law_33 (by decide) (by decide) rfl (by decide) ?_
                                                                                              exact w_law_p1621 E hX hbl hr hk hk18 s q x3 hw (lv_sub hl [0, 1, 2, 3] rfl) hf
                                                                                            · have hf := x_neg q48 hf
                                                                                              by_cases q49 : (v3 &&& (63 : Int32)) = 45
                                                                                              · have hf := x_pos q49 hf
                                                                                                refine x_swi (pc := 33) (v := 45) (tgt := 1691) E q49 dL_law_33 (by decide) (by decide) rfl (by decide) ?_
                                                                                                exact w_law_p1691 E hX hbl hr hk hk18 s q x3 hw (lv_sub hl [0, 1, 2, 3] rfl) hf
                                                                                              · have hf := x_neg q49 hf
                                                                                                by_cases q50 : (v3 &&& (63 : Int32)) = 46
                                                                                                · have hf := x_pos q50 hf
                                                                                                  refine x_swi (pc := 33) (v := 46) (tgt := 1724) E q50 dL_law_33 (by decide) (by decide) rfl (by decide) ?_
                                                                                                  exact w_law_p1724 E hX hbl hr hk hk18 s q x3 hw (lv_sub hl [0, 1, 2, 3] rfl) hf
                                                                                                · have hf := x_neg q50 hf
                                                                                                  by_cases q51 : (v3 &&& (63 : Int32)) = 47
                                                                                                  · have hf := x_pos q51 hf
                                                                                                    refine x_swi (pc := 33) (v := 47) (tgt := 1737) E q51 dL_law_33 (by decide) (by decide) rfl (by decide) ?_
                                                                                                    exact w_law_p1737 E hX hbl hr hk hk18 s q x3 hw (lv_sub hl [0, 1, 2, 3] rfl) hf
                                                                                                  · have hf := x_neg q51 hf
                                                                                                    by_cases q52 : (v3 &&& (63 : Int32)) = 48
                                                                                                    · have hf := x_pos q52 hf
                                                                                                      refine x_swi (pc := 33) (v := 48) (tgt := 1770) E q52 dL_law_33 (by decide) (by decide) rfl (by decide) ?_
                                                                                                      exact w_law_p1770 E hX hbl hr hk hk18 s q x3 hw (lv_sub hl [0, 1, 2, 3] rfl) hf
                                                                                                    · have hf := x_neg q52 hf
                                                                                                      by_cases q53 : (v3 &&& (63 : Int32)) = 49
                                                                                                      · have hf := x_pos q53 hf
                                                                                                        refine x_swi (pc := 33) (v := 49) (tgt := 1793) E q53 dL_law_33 (by decide) (by decide) rfl (by decide) ?_
                                                                                                        exact w_law_p1793 E hX hbl hr hk hk18 s q x3 hw (lv_sub hl [0, 1, 2, 3] rfl) hf
                                                                                                      · have hf := x_neg q53 hf
                                                                                                        refine x_swo (pc := 33) (n := 50) (tgt := 1816) E (lt_s (lt_s (lt_s (lt_s (lt_s (lt_s (lt_s (lt_s (lt_s (lt_s (lt_s (lt_s (lt_s (lt_s (lt_s (lt_s (lt_s (lt_s (lt_s (lt_s (lt_s (lt_s (lt_s (lt_s (lt_s (lt_s (lt_s (lt_s (lt_s (lt_s (lt_s (lt_s (lt_s (lt_s (lt_s (lt_s (lt_s (lt_s (lt_s (lt_s (lt_s (lt_s (lt_s (lt_s (lt_s (lt_s (lt_s (lt_s (lt_s (lt_s lt_0 q4) q5) q6) q7) q8) q9) q10) q11) q12) q13) q14) q15) q16) q17) q18) q19) q20) q21) q22) q23) q24) q25) q26) q27) q28) q29) q30) q31) q32) q33) q34) q35) q36) q37) q38) q39) q40) q41) q42) q43) q44) q45) q46) q47) q48) q49) q50) q51) q52) q53) (by decide) dL_law_33 (by decide) ?_
                                                                                                        exact w_law_p1816 E hX hbl hr hk hk18 s q x3 hw (lv_sub hl [0, 1, 2, 3] rfl) hf
set_option maxHeartbeats 4000000 in
set_option maxRecDepth 100000 in
theorem wl_law_p18 {p : Program} {l : Launch} {e : Env} {sS : State} {m : MethodId} {below : List Frame} {meth : Method} {c : Code} {G : xG} {ad ae : Nat → Nat} {b L : Nat} {xs : Nat → Int32} (E : xE p sS m #[Value.ref b] c cL_law 4 RL G (fun q => sS.heap.size ≤ q)) (hX : va_X b L xs sS sS.heap) (hbl : b < sS.heap.size) (hr : meth.sig.returnType = ret) (hk : meth.locks = false) : ∀ (s' : S7) (q' : S8) (x3' : Int32) {H : Heap} {locs : List Loc} {ls : Array Slot}, xW G (fun q => sS.heap.size ≤ q) sS.heap (cells7 G ad s' ++ cells8 G ae q') H locs → lv_has ls 4 [(0, .ref b), (1, .ref (ad 0)), (2, .ref (ae 0)), (3, .int x3')] → lp_law_p18  L xs s' q' x3' = some 1 → W p l e room_1 sS m #[Value.ref b] below meth c H locs 51 5492 (lw_Z below #[Value.ref b] sS) (F0 m 18 ls []) := by
  intro s q x3 H locs ls hw hl hf
  exact x_loop_W (P := fun (q : S7 × S8 × Int32) (z : Int32) => z = 1 → ∀ {H : Heap} {locs : List Loc} {ls : Array Slot}, xW G (fun q => sS.heap.size ≤ q) sS.heap (cells7 G ad q.1 ++ cells8 G ae q.2.1) H locs → lv_has ls 4 [(0, .ref b), (1, .ref (ad 0)), (2, .ref (ae 0)), (3, .int q.2.2)] → W p l e room_1 sS m #[Value.ref b] below meth c H locs 51 5492 (lw_Z below #[Value.ref b] sS) (F0 m 18 ls [])) (fun k hkk q z hf e1 H locs ls hw hl => w_law_p18 E hX hbl hr hk (fun s q x3 H locs ls hw hl hf => hkk (s, q, x3) 1 hf rfl hw hl) q.1 q.2.1 q.2.2 hw hl (by rw [← e1]; exact hf)) FU (s, q, x3) 1 hf rfl hw hl
