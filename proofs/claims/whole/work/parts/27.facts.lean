def x_tm0 : Nat → Term := fun i => match i with
  | 0 => .string "FleetShares$Tape" 73
  | 1 => .string "FleetShares" 304
  | 2 => .string "FleetShares" 306
  | 3 => .string "FleetShares" 308
  | 4 => .string "FleetShares" 310
  | 5 => .string "FleetShares$Tape" 67
  | 6 => .string "FleetShares$Tape" 72
  | _ => .string "FleetShares$Tape" 78
abbrev x_fl : List Cond := flatC (Jvm.Cond.and given_1 narrow_1)
theorem x_f1 : ∀ i : Nat, i < 8 → Cond.exactly (x_tm0 i) "java/lang/String" ∈ x_fl := by decide +kernel
theorem x_f2 : ∀ i : Nat, i < 8 → Cond.eq (.field (x_tm0 i) "java/lang/String" "coder" "B") (.int 0) ∈ x_fl := by decide +kernel
theorem x_f3 : ∀ i : Nat, i < 8 → Cond.arrayOf (.field (x_tm0 i) "java/lang/String" "value" "[B") .byte ∈ x_fl := by decide +kernel
theorem x_f4 : ∀ i : Nat, i < 8 → Cond.eq (.length (.field (x_tm0 i) "java/lang/String" "value" "[B")) (.int (Int32.ofNat (x_len.getD i 0))) ∈ x_fl := by decide +kernel
theorem x_f5 : ∀ i : Nat, i < 8 → ∀ j : Nat, j < x_len.getD i 0 → Cond.eq (.elem (.field (x_tm0 i) "java/lang/String" "value" "[B") (.int (Int32.ofNat j))) (.int ((x_byt.getD i []).getD j 0)) ∈ x_fl := by decide +kernel
theorem x_f6 : ∀ i : Nat, i < 8 → ∀ j : Nat, j < 8 → i ≠ j → Cond.not (Cond.eq (x_tm0 i) (x_tm0 j)) ∈ x_fl ∨ Cond.not (Cond.eq (x_tm0 j) (x_tm0 i)) ∈ x_fl := by decide +kernel
theorem x_f7 : Cond.eq (.static "java/lang/String" "COMPACT_STRINGS" "Z") (.int 1) ∈ x_fl := by decide +kernel
theorem x_f8 : Cond.isRef (.static "jdk/internal/util/Preconditions" "SIOOBE_FORMATTER" "Ljava/util/function/BiFunction;") ∈ x_fl := by decide +kernel
theorem x_g0 : Cond.eq (.string "FleetShares$Tape" 73) (.string "FleetShares" 298) ∈ x_fl := by decide +kernel
theorem x_g1 : Cond.eq (.string "FleetShares$Tape" 67) (.string "FleetShares" 321) ∈ x_fl := by decide +kernel
theorem x_g2 : Cond.eq (.string "FleetShares$Tape" 72) (.string "FleetShares" 322) ∈ x_fl := by decide +kernel
theorem x_g3 : Cond.eq (.string "FleetShares$Tape" 78) (.string "FleetShares" 345) ∈ x_fl := by decide +kernel
theorem x_h1 : Cond.stringRef RX7 298 "fleet" ∈ lw_tbl := List.mem_of_getElem? (i := 1111) (by decide +kernel)
theorem x_h2 : Cond.stringRef RX7 304 " class" ∈ lw_tbl := List.mem_of_getElem? (i := 1127) (by decide +kernel)
theorem x_h3 : Cond.stringRef RX7 306 " years" ∈ lw_tbl := List.mem_of_getElem? (i := 1128) (by decide +kernel)
theorem x_h4 : Cond.stringRef RX7 308 " share" ∈ lw_tbl := List.mem_of_getElem? (i := 1129) (by decide +kernel)
theorem x_h5 : Cond.stringRef RX7 310 " rate" ∈ lw_tbl := List.mem_of_getElem? (i := 1130) (by decide +kernel)
theorem x_h6 : Cond.stringRef RX7 321 "cap" ∈ lw_tbl := List.mem_of_getElem? (i := 1143) (by decide +kernel)
theorem x_h7 : Cond.stringRef RX7 322 "steady" ∈ lw_tbl := List.mem_of_getElem? (i := 1144) (by decide +kernel)
theorem x_h8 : Cond.stringRef RX7 345 "claim" ∈ lw_tbl := List.mem_of_getElem? (i := 1154) (by decide +kernel)
theorem x_h9 : Cond.stringRef RX6 67 "cap" ∈ lw_tbl := List.mem_of_getElem? (i := 423) (by decide +kernel)
theorem x_h10 : Cond.stringRef RX6 72 "steady" ∈ lw_tbl := List.mem_of_getElem? (i := 476) (by decide +kernel)
theorem x_h11 : Cond.stringRef RX6 73 "fleet" ∈ lw_tbl := List.mem_of_getElem? (i := 477) (by decide +kernel)
theorem x_h12 : Cond.stringRef RX6 78 "claim" ∈ lw_tbl := List.mem_of_getElem? (i := 478) (by decide +kernel)
theorem x_h13 : Cond.laysStatic "java/lang/String" "COMPACT_STRINGS" "Z" ∈ lw_tbl := List.mem_of_getElem? (i := 437) (by decide +kernel)
theorem x_h14 : Cond.laysStatic "jdk/internal/util/Preconditions" "SIOOBE_FORMATTER" "Ljava/util/function/BiFunction;" ∈ lw_tbl := List.mem_of_getElem? (i := 453) (by decide +kernel)
theorem x_h15 : Cond.initialized "java/lang/String" ∈ lw_tbl := List.mem_of_getElem? (i := 104) (by decide +kernel)
theorem x_h16 : Cond.initialized "jdk/internal/util/Preconditions" ∈ lw_tbl := List.mem_of_getElem? (i := 106) (by decide +kernel)
theorem x_h17 : Cond.methodLinkNest RX0 44 yX7_isYear "FleetShares" ∈ lw_tbl := List.mem_of_getElem? (i := 529) (by decide +kernel)
theorem x_h18 : Cond.methodLinkNest RX1 152 yX7_isYear "FleetShares" ∈ lw_tbl := List.mem_of_getElem? (i := 808) (by decide +kernel)
theorem x_h19 : Cond.methodLinkNest RX4 11 yX5_init "FleetShares" ∈ lw_tbl := List.mem_of_getElem? (i := 213) (by decide +kernel)
theorem x_h20 : Cond.methodLinkNest RX1 45 yX5_init "FleetShares" ∈ lw_tbl := List.mem_of_getElem? (i := 280) (by decide +kernel)
theorem x_h21 : Cond.methodLinkNest RX7 42 yX3_init "FleetShares" ∈ lw_tbl := List.mem_of_getElem? (i := 326) (by decide +kernel)
theorem x_h22 : Cond.methodLinkNest RX7 49 yX5_init "FleetShares" ∈ lw_tbl := List.mem_of_getElem? (i := 341) (by decide +kernel)
