theorem wq_12 : Cond.selects RX0 yX0_isOf yX0_isOf ∈ x_tbl := x_tm (i := 12) (by decide +kernel) (by decide +kernel)
theorem wq_13 : Cond.selects RX0 yX0_putClaim yX0_putClaim ∈ x_tbl := x_tm (i := 13) (by decide +kernel) (by decide +kernel)
theorem wq_15 : Cond.selects RX0 yX0_dropClaimsOf yX0_dropClaimsOf ∈ x_tbl := x_tm (i := 15) (by decide +kernel) (by decide +kernel)
theorem wq_16 : Cond.selects RX0 yX0_closeGapAt yX0_closeGapAt ∈ x_tbl := x_tm (i := 16) (by decide +kernel) (by decide +kernel)
theorem wq_17 : Cond.selects RX0 yX0_putFleet yX0_putFleet ∈ x_tbl := x_tm (i := 17) (by decide +kernel) (by decide +kernel)
theorem wq_18 : Cond.selects RX0 yX0_handOver yX0_handOver ∈ x_tbl := x_tm (i := 18) (by decide +kernel) (by decide +kernel)
theorem wq_95 : Cond.initialized RX7 ∈ x_tbl := x_tm (i := 95) (by decide +kernel) (by decide +kernel)
theorem wq_97 : Cond.initialized RX0 ∈ x_tbl := x_tm (i := 97) (by decide +kernel) (by decide +kernel)
theorem wq_108 : Cond.initialized RJ9 ∈ x_tbl := x_tm (i := 108) (by decide +kernel) (by decide +kernel)
theorem wq_109 : Cond.initialized RJ10 ∈ x_tbl := x_tm (i := 109) (by decide +kernel) (by decide +kernel)
theorem wq_149 : Cond.fieldLink RX0 28 "FleetShares$Book" "fleets" "I" ∈ x_tbl := x_tm (i := 149) (by decide +kernel) (by decide +kernel)
theorem wq_153 : Cond.fieldLink RX0 31 "FleetShares$Book" "claims" "I" ∈ x_tbl := x_tm (i := 153) (by decide +kernel) (by decide +kernel)
theorem wq_157 : Cond.fieldLink RX0 9 "FleetShares$Book" "cap" "I" ∈ x_tbl := x_tm (i := 157) (by decide +kernel) (by decide +kernel)
theorem wq_160 : Cond.fieldLink RX0 15 "FleetShares$Book" "steady" "I" ∈ x_tbl := x_tm (i := 160) (by decide +kernel) (by decide +kernel)
theorem wq_164 : Cond.fieldLink RX0 18 "FleetShares$Book" "classes" "[I" ∈ x_tbl := x_tm (i := 164) (by decide +kernel) (by decide +kernel)
theorem wq_165 : Cond.fieldLink RX0 22 "FleetShares$Book" "years" "[I" ∈ x_tbl := x_tm (i := 165) (by decide +kernel) (by decide +kernel)
theorem wq_166 : Cond.fieldLink RX0 25 "FleetShares$Book" "slips" "[I" ∈ x_tbl := x_tm (i := 166) (by decide +kernel) (by decide +kernel)
theorem wq_491 : Cond.static Lib.Math.min.name ∈ x_tbl := x_tm (i := 491) (by decide +kernel) (by decide +kernel)
theorem wq_492 : Cond.code Lib.Math.min.name Lib.Math.min.code 2 (some .int) ∈ x_tbl := x_tm (i := 492) (by decide +kernel) (by decide +kernel)
theorem wq_502 : Cond.instanceMethod yX0_addFleet ∈ x_tbl := x_tm (i := 502) (by decide +kernel) (by decide +kernel)
theorem wq_503 : Cond.selects RX0 yX0_addFleet yX0_addFleet ∈ x_tbl := x_tm (i := 503) (by decide +kernel) (by decide +kernel)
theorem wq_504 : Cond.code yX0_addFleet cX0_addFleet 3 (some .int) ∈ x_tbl := x_tm (i := 504) (by decide +kernel) (by decide +kernel)
theorem wq_505 : Cond.methodLink RX0 47 yX0_putClass ∈ x_tbl := x_tm (i := 505) (by decide +kernel) (by decide +kernel)
theorem wq_506 : Cond.instanceMethod yX0_putClass ∈ x_tbl := x_tm (i := 506) (by decide +kernel) (by decide +kernel)
theorem wq_507 : Cond.selects RX0 yX0_putClass yX0_putClass ∈ x_tbl := x_tm (i := 507) (by decide +kernel) (by decide +kernel)
theorem wq_508 : Cond.code yX0_putClass cX0_putClass 3 none ∈ x_tbl := x_tm (i := 508) (by decide +kernel) (by decide +kernel)
theorem wq_509 : Cond.methodLink RX0 40 yX0_hasFleet ∈ x_tbl := x_tm (i := 509) (by decide +kernel) (by decide +kernel)
theorem wq_510 : Cond.instanceMethod yX0_hasFleet ∈ x_tbl := x_tm (i := 510) (by decide +kernel) (by decide +kernel)
theorem wq_511 : Cond.selects RX0 yX0_hasFleet yX0_hasFleet ∈ x_tbl := x_tm (i := 511) (by decide +kernel) (by decide +kernel)
theorem wq_512 : Cond.code yX0_hasFleet cX0_hasFleet 2 (some .boolean) ∈ x_tbl := x_tm (i := 512) (by decide +kernel) (by decide +kernel)
theorem wq_513 : Cond.methodLink RX0 51 yX0_putYears ∈ x_tbl := x_tm (i := 513) (by decide +kernel) (by decide +kernel)
theorem wq_514 : Cond.instanceMethod yX0_putYears ∈ x_tbl := x_tm (i := 514) (by decide +kernel) (by decide +kernel)
theorem wq_515 : Cond.selects RX0 yX0_putYears yX0_putYears ∈ x_tbl := x_tm (i := 515) (by decide +kernel) (by decide +kernel)
theorem wq_516 : Cond.code yX0_putYears cX0_putYears 3 none ∈ x_tbl := x_tm (i := 516) (by decide +kernel) (by decide +kernel)
theorem wq_525 : Cond.methodLink RX0 85 yX0_isInsured ∈ x_tbl := x_tm (i := 525) (by decide +kernel) (by decide +kernel)
theorem wq_526 : Cond.instanceMethod yX0_isInsured ∈ x_tbl := x_tm (i := 526) (by decide +kernel) (by decide +kernel)
theorem wq_527 : Cond.selects RX0 yX0_isInsured yX0_isInsured ∈ x_tbl := x_tm (i := 527) (by decide +kernel) (by decide +kernel)
theorem wq_528 : Cond.code yX0_isInsured cX0_isInsured 3 (some .boolean) ∈ x_tbl := x_tm (i := 528) (by decide +kernel) (by decide +kernel)
theorem wq_530 : Cond.static yX7_isYear ∈ x_tbl := x_tm (i := 530) (by decide +kernel) (by decide +kernel)
theorem wq_531 : Cond.code yX7_isYear cX7_isYear 1 (some .boolean) ∈ x_tbl := x_tm (i := 531) (by decide +kernel) (by decide +kernel)
theorem wq_532 : Cond.methodLink RX0 107 yX0_isOf ∈ x_tbl := x_tm (i := 532) (by decide +kernel) (by decide +kernel)
theorem wq_534 : Cond.instanceMethod yX0_isOf ∈ x_tbl := x_tm (i := 534) (by decide +kernel) (by decide +kernel)
theorem wq_535 : Cond.code yX0_isOf cX0_isOf 4 (some .boolean) ∈ x_tbl := x_tm (i := 535) (by decide +kernel) (by decide +kernel)
theorem wq_536 : Cond.methodLink RX0 89 yX0_hasClaim ∈ x_tbl := x_tm (i := 536) (by decide +kernel) (by decide +kernel)
theorem wq_537 : Cond.instanceMethod yX0_hasClaim ∈ x_tbl := x_tm (i := 537) (by decide +kernel) (by decide +kernel)
theorem wq_538 : Cond.selects RX0 yX0_hasClaim yX0_hasClaim ∈ x_tbl := x_tm (i := 538) (by decide +kernel) (by decide +kernel)
theorem wq_539 : Cond.code yX0_hasClaim cX0_hasClaim 2 (some .boolean) ∈ x_tbl := x_tm (i := 539) (by decide +kernel) (by decide +kernel)
theorem wq_544 : Cond.methodLink RX0 100 yX0_putClaim ∈ x_tbl := x_tm (i := 544) (by decide +kernel) (by decide +kernel)
theorem wq_546 : Cond.instanceMethod yX0_putClaim ∈ x_tbl := x_tm (i := 546) (by decide +kernel) (by decide +kernel)
theorem wq_547 : Cond.code yX0_putClaim cX0_putClaim 5 none ∈ x_tbl := x_tm (i := 547) (by decide +kernel) (by decide +kernel)
theorem wq_556 : Cond.methodLink RX0 34 arraycopyName ∈ x_tbl := x_tm (i := 556) (by decide +kernel) (by decide +kernel)
theorem wq_557 : Cond.static arraycopyName ∈ x_tbl := x_tm (i := 557) (by decide +kernel) (by decide +kernel)
theorem wq_558 : Cond.native arraycopyName ∈ x_tbl := x_tm (i := 558) (by decide +kernel) (by decide +kernel)
theorem wq_589 : Cond.methodLink RX0 54 yX0_dropClaimsOf ∈ x_tbl := x_tm (i := 589) (by decide +kernel) (by decide +kernel)
theorem wq_591 : Cond.instanceMethod yX0_dropClaimsOf ∈ x_tbl := x_tm (i := 591) (by decide +kernel) (by decide +kernel)
theorem wq_592 : Cond.code yX0_dropClaimsOf cX0_dropClaimsOf 6 (some .int) ∈ x_tbl := x_tm (i := 592) (by decide +kernel) (by decide +kernel)
theorem wq_593 : Cond.methodLink RX0 69 yX0_fleetOf ∈ x_tbl := x_tm (i := 593) (by decide +kernel) (by decide +kernel)
theorem wq_594 : Cond.instanceMethod yX0_fleetOf ∈ x_tbl := x_tm (i := 594) (by decide +kernel) (by decide +kernel)
theorem wq_595 : Cond.selects RX0 yX0_fleetOf yX0_fleetOf ∈ x_tbl := x_tm (i := 595) (by decide +kernel) (by decide +kernel)
theorem wq_596 : Cond.code yX0_fleetOf cX0_fleetOf 2 (some .int) ∈ x_tbl := x_tm (i := 596) (by decide +kernel) (by decide +kernel)
theorem wq_597 : Cond.methodLink RX0 97 yX0_yearOf ∈ x_tbl := x_tm (i := 597) (by decide +kernel) (by decide +kernel)
theorem wq_598 : Cond.instanceMethod yX0_yearOf ∈ x_tbl := x_tm (i := 598) (by decide +kernel) (by decide +kernel)
theorem wq_599 : Cond.selects RX0 yX0_yearOf yX0_yearOf ∈ x_tbl := x_tm (i := 599) (by decide +kernel) (by decide +kernel)
theorem wq_600 : Cond.code yX0_yearOf cX0_yearOf 2 (some .int) ∈ x_tbl := x_tm (i := 600) (by decide +kernel) (by decide +kernel)
theorem wq_601 : Cond.methodLink RX0 104 yX0_amountOf ∈ x_tbl := x_tm (i := 601) (by decide +kernel) (by decide +kernel)
theorem wq_602 : Cond.instanceMethod yX0_amountOf ∈ x_tbl := x_tm (i := 602) (by decide +kernel) (by decide +kernel)
theorem wq_603 : Cond.selects RX0 yX0_amountOf yX0_amountOf ∈ x_tbl := x_tm (i := 603) (by decide +kernel) (by decide +kernel)
theorem wq_604 : Cond.code yX0_amountOf cX0_amountOf 2 (some .int) ∈ x_tbl := x_tm (i := 604) (by decide +kernel) (by decide +kernel)
theorem wq_605 : Cond.methodLink RX0 58 yX0_closeGapAt ∈ x_tbl := x_tm (i := 605) (by decide +kernel) (by decide +kernel)
theorem wq_607 : Cond.instanceMethod yX0_closeGapAt ∈ x_tbl := x_tm (i := 607) (by decide +kernel) (by decide +kernel)
theorem wq_608 : Cond.code yX0_closeGapAt cX0_closeGapAt 3 none ∈ x_tbl := x_tm (i := 608) (by decide +kernel) (by decide +kernel)
theorem wq_609 : Cond.methodLink RX0 62 yX0_classOf ∈ x_tbl := x_tm (i := 609) (by decide +kernel) (by decide +kernel)
theorem wq_610 : Cond.instanceMethod yX0_classOf ∈ x_tbl := x_tm (i := 610) (by decide +kernel) (by decide +kernel)
theorem wq_611 : Cond.selects RX0 yX0_classOf yX0_classOf ∈ x_tbl := x_tm (i := 611) (by decide +kernel) (by decide +kernel)
theorem wq_612 : Cond.code yX0_classOf cX0_classOf 2 (some .int) ∈ x_tbl := x_tm (i := 612) (by decide +kernel) (by decide +kernel)
theorem wq_613 : Cond.methodLink RX0 66 yX0_yearsOf ∈ x_tbl := x_tm (i := 613) (by decide +kernel) (by decide +kernel)
theorem wq_614 : Cond.instanceMethod yX0_yearsOf ∈ x_tbl := x_tm (i := 614) (by decide +kernel) (by decide +kernel)
theorem wq_615 : Cond.selects RX0 yX0_yearsOf yX0_yearsOf ∈ x_tbl := x_tm (i := 615) (by decide +kernel) (by decide +kernel)
theorem wq_616 : Cond.code yX0_yearsOf cX0_yearsOf 2 (some .int) ∈ x_tbl := x_tm (i := 616) (by decide +kernel) (by decide +kernel)
theorem wq_617 : Cond.methodLink RX0 72 yX0_putFleet ∈ x_tbl := x_tm (i := 617) (by decide +kernel) (by decide +kernel)
theorem wq_619 : Cond.instanceMethod yX0_putFleet ∈ x_tbl := x_tm (i := 619) (by decide +kernel) (by decide +kernel)
theorem wq_620 : Cond.code yX0_putFleet cX0_putFleet 3 none ∈ x_tbl := x_tm (i := 620) (by decide +kernel) (by decide +kernel)
theorem wq_646 : Cond.instanceMethod yX0_endYears ∈ x_tbl := x_tm (i := 646) (by decide +kernel) (by decide +kernel)
theorem wq_647 : Cond.selects RX0 yX0_endYears yX0_endYears ∈ x_tbl := x_tm (i := 647) (by decide +kernel) (by decide +kernel)
theorem wq_648 : Cond.code yX0_endYears cX0_endYears 3 (some .int) ∈ x_tbl := x_tm (i := 648) (by decide +kernel) (by decide +kernel)
theorem wq_661 : Cond.methodLink RX0 75 yX0_endYears ∈ x_tbl := x_tm (i := 661) (by decide +kernel) (by decide +kernel)
theorem wq_686 : Cond.instanceMethod yX0_putAmount ∈ x_tbl := x_tm (i := 686) (by decide +kernel) (by decide +kernel)
theorem wq_687 : Cond.selects RX0 yX0_putAmount yX0_putAmount ∈ x_tbl := x_tm (i := 687) (by decide +kernel) (by decide +kernel)
theorem wq_688 : Cond.code yX0_putAmount cX0_putAmount 3 none ∈ x_tbl := x_tm (i := 688) (by decide +kernel) (by decide +kernel)
theorem wq_717 : Cond.methodLink RX0 92 Lib.Math.min.name ∈ x_tbl := x_tm (i := 717) (by decide +kernel) (by decide +kernel)
theorem wq_718 : Cond.methodLink RX0 111 Lib.Math.max.name ∈ x_tbl := x_tm (i := 718) (by decide +kernel) (by decide +kernel)
theorem wq_719 : Cond.static Lib.Math.max.name ∈ x_tbl := x_tm (i := 719) (by decide +kernel) (by decide +kernel)
theorem wq_720 : Cond.code Lib.Math.max.name Lib.Math.max.code 2 (some .int) ∈ x_tbl := x_tm (i := 720) (by decide +kernel) (by decide +kernel)
theorem wq_721 : Cond.methodLink RX0 114 yX0_putAmount ∈ x_tbl := x_tm (i := 721) (by decide +kernel) (by decide +kernel)
theorem wq_730 : Cond.methodLink RX0 78 yX0_addFleet ∈ x_tbl := x_tm (i := 730) (by decide +kernel) (by decide +kernel)
theorem wq_731 : Cond.methodLink RX0 81 yX0_handOver ∈ x_tbl := x_tm (i := 731) (by decide +kernel) (by decide +kernel)
theorem wq_733 : Cond.instanceMethod yX0_handOver ∈ x_tbl := x_tm (i := 733) (by decide +kernel) (by decide +kernel)
theorem wq_734 : Cond.code yX0_handOver cX0_handOver 5 none ∈ x_tbl := x_tm (i := 734) (by decide +kernel) (by decide +kernel)
theorem wq_884 : Cond.instanceMethod yX0_claimsAboveCap ∈ x_tbl := x_tm (i := 884) (by decide +kernel) (by decide +kernel)
theorem wq_885 : Cond.selects RX0 yX0_claimsAboveCap yX0_claimsAboveCap ∈ x_tbl := x_tm (i := 885) (by decide +kernel) (by decide +kernel)
theorem wq_886 : Cond.code yX0_claimsAboveCap cX0_claimsAboveCap 4 (some .int) ∈ x_tbl := x_tm (i := 886) (by decide +kernel) (by decide +kernel)
theorem wq_1163 : Cond.methodLink RX0 117 yX0_claimsAboveCap ∈ x_tbl := x_tm (i := 1163) (by decide +kernel) (by decide +kernel)
theorem inX0 : ∀ w ∈ wsX00, w ∈ x_tbl := fun w h => List.mem_filter.mpr ((by decide +kernel : ∀ w ∈ wsX00, w ∈ lw_tbl ∧ goodWord w = true) w h)
theorem inX1 : ∀ w ∈ wsX10, w ∈ x_tbl := fun w h => List.mem_filter.mpr ((by decide +kernel : ∀ w ∈ wsX10, w ∈ lw_tbl ∧ goodWord w = true) w h)
theorem inX2 : ∀ w ∈ wsX20, w ∈ x_tbl := fun w h => List.mem_filter.mpr ((by decide +kernel : ∀ w ∈ wsX20, w ∈ lw_tbl ∧ goodWord w = true) w h)
theorem inX3 : ∀ w ∈ wsX30, w ∈ x_tbl := fun w h => List.mem_filter.mpr ((by decide +kernel : ∀ w ∈ wsX30, w ∈ lw_tbl ∧ goodWord w = true) w h)
theorem inX4 : ∀ w ∈ wsX40, w ∈ x_tbl := fun w h => List.mem_filter.mpr ((by decide +kernel : ∀ w ∈ wsX40, w ∈ lw_tbl ∧ goodWord w = true) w h)
theorem inX5 : ∀ w ∈ wsX50, w ∈ x_tbl := fun w h => List.mem_filter.mpr ((by decide +kernel : ∀ w ∈ wsX50, w ∈ lw_tbl ∧ goodWord w = true) w h)
theorem inX6 : ∀ w ∈ wsX60, w ∈ x_tbl := fun w h => List.mem_filter.mpr ((by decide +kernel : ∀ w ∈ wsX60, w ∈ lw_tbl ∧ goodWord w = true) w h)
theorem inX7 : ∀ w ∈ wsX70, w ∈ x_tbl := fun w h => List.mem_filter.mpr ((by decide +kernel : ∀ w ∈ wsX70, w ∈ lw_tbl ∧ goodWord w = true) w h)
theorem inX8 : ∀ w ∈ wsX80, w ∈ x_tbl := fun w h => List.mem_filter.mpr ((by decide +kernel : ∀ w ∈ wsX80, w ∈ lw_tbl ∧ goodWord w = true) w h)
theorem xd_X0_hasFleet : yX0_hasFleet.cls = RX0 ∧ yX0_hasFleet.cls ≠ "java/lang/invoke/MethodHandle" ∧ yX0_hasFleet.cls ≠ "java/lang/invoke/VarHandle" ∧ (parseMethodDescriptor yX0_hasFleet.desc).map (fun d => d.parameters.length) = some 1 := by decide +kernel
theorem xe_X7_isYear : yX7_isYear.cls ≠ "java/lang/invoke/MethodHandle" ∧ yX7_isYear.cls ≠ "java/lang/invoke/VarHandle" ∧ (parseMethodDescriptor yX7_isYear.desc).map (fun d => d.parameters.length) = some 1 := by decide +kernel
theorem xd_X0_putClass : yX0_putClass.cls = RX0 ∧ yX0_putClass.cls ≠ "java/lang/invoke/MethodHandle" ∧ yX0_putClass.cls ≠ "java/lang/invoke/VarHandle" ∧ (parseMethodDescriptor yX0_putClass.desc).map (fun d => d.parameters.length) = some 2 := by decide +kernel
theorem xd_X0_putYears : yX0_putYears.cls = RX0 ∧ yX0_putYears.cls ≠ "java/lang/invoke/MethodHandle" ∧ yX0_putYears.cls ≠ "java/lang/invoke/VarHandle" ∧ (parseMethodDescriptor yX0_putYears.desc).map (fun d => d.parameters.length) = some 2 := by decide +kernel
theorem xd_X0_hasClaim : yX0_hasClaim.cls = RX0 ∧ yX0_hasClaim.cls ≠ "java/lang/invoke/MethodHandle" ∧ yX0_hasClaim.cls ≠ "java/lang/invoke/VarHandle" ∧ (parseMethodDescriptor yX0_hasClaim.desc).map (fun d => d.parameters.length) = some 1 := by decide +kernel
theorem xd_X0_isOf : yX0_isOf.cls = RX0 ∧ yX0_isOf.cls ≠ "java/lang/invoke/MethodHandle" ∧ yX0_isOf.cls ≠ "java/lang/invoke/VarHandle" ∧ (parseMethodDescriptor yX0_isOf.desc).map (fun d => d.parameters.length) = some 3 := by decide +kernel
theorem xd_X0_fleetOf : yX0_fleetOf.cls = RX0 ∧ yX0_fleetOf.cls ≠ "java/lang/invoke/MethodHandle" ∧ yX0_fleetOf.cls ≠ "java/lang/invoke/VarHandle" ∧ (parseMethodDescriptor yX0_fleetOf.desc).map (fun d => d.parameters.length) = some 1 := by decide +kernel
theorem xd_X0_yearOf : yX0_yearOf.cls = RX0 ∧ yX0_yearOf.cls ≠ "java/lang/invoke/MethodHandle" ∧ yX0_yearOf.cls ≠ "java/lang/invoke/VarHandle" ∧ (parseMethodDescriptor yX0_yearOf.desc).map (fun d => d.parameters.length) = some 1 := by decide +kernel
theorem xd_X0_amountOf : yX0_amountOf.cls = RX0 ∧ yX0_amountOf.cls ≠ "java/lang/invoke/MethodHandle" ∧ yX0_amountOf.cls ≠ "java/lang/invoke/VarHandle" ∧ (parseMethodDescriptor yX0_amountOf.desc).map (fun d => d.parameters.length) = some 1 := by decide +kernel
theorem xd_X0_putClaim : yX0_putClaim.cls = RX0 ∧ yX0_putClaim.cls ≠ "java/lang/invoke/MethodHandle" ∧ yX0_putClaim.cls ≠ "java/lang/invoke/VarHandle" ∧ (parseMethodDescriptor yX0_putClaim.desc).map (fun d => d.parameters.length) = some 4 := by decide +kernel
theorem xd_X0_dropClaimsOf : yX0_dropClaimsOf.cls = RX0 ∧ yX0_dropClaimsOf.cls ≠ "java/lang/invoke/MethodHandle" ∧ yX0_dropClaimsOf.cls ≠ "java/lang/invoke/VarHandle" ∧ (parseMethodDescriptor yX0_dropClaimsOf.desc).map (fun d => d.parameters.length) = some 2 := by decide +kernel
theorem xd_X0_classOf : yX0_classOf.cls = RX0 ∧ yX0_classOf.cls ≠ "java/lang/invoke/MethodHandle" ∧ yX0_classOf.cls ≠ "java/lang/invoke/VarHandle" ∧ (parseMethodDescriptor yX0_classOf.desc).map (fun d => d.parameters.length) = some 1 := by decide +kernel
theorem xd_X0_yearsOf : yX0_yearsOf.cls = RX0 ∧ yX0_yearsOf.cls ≠ "java/lang/invoke/MethodHandle" ∧ yX0_yearsOf.cls ≠ "java/lang/invoke/VarHandle" ∧ (parseMethodDescriptor yX0_yearsOf.desc).map (fun d => d.parameters.length) = some 1 := by decide +kernel
theorem xd_X0_putFleet : yX0_putFleet.cls = RX0 ∧ yX0_putFleet.cls ≠ "java/lang/invoke/MethodHandle" ∧ yX0_putFleet.cls ≠ "java/lang/invoke/VarHandle" ∧ (parseMethodDescriptor yX0_putFleet.desc).map (fun d => d.parameters.length) = some 2 := by decide +kernel
theorem xd_X0_closeGapAt : yX0_closeGapAt.cls = RX0 ∧ yX0_closeGapAt.cls ≠ "java/lang/invoke/MethodHandle" ∧ yX0_closeGapAt.cls ≠ "java/lang/invoke/VarHandle" ∧ (parseMethodDescriptor yX0_closeGapAt.desc).map (fun d => d.parameters.length) = some 1 := by decide +kernel
theorem xd_X0_endYears : yX0_endYears.cls = RX0 ∧ yX0_endYears.cls ≠ "java/lang/invoke/MethodHandle" ∧ yX0_endYears.cls ≠ "java/lang/invoke/VarHandle" ∧ (parseMethodDescriptor yX0_endYears.desc).map (fun d => d.parameters.length) = some 2 := by decide +kernel
theorem xd_X0_addFleet : yX0_addFleet.cls = RX0 ∧ yX0_addFleet.cls ≠ "java/lang/invoke/MethodHandle" ∧ yX0_addFleet.cls ≠ "java/lang/invoke/VarHandle" ∧ (parseMethodDescriptor yX0_addFleet.desc).map (fun d => d.parameters.length) = some 2 := by decide +kernel
theorem xd_X0_handOver : yX0_handOver.cls = RX0 ∧ yX0_handOver.cls ≠ "java/lang/invoke/MethodHandle" ∧ yX0_handOver.cls ≠ "java/lang/invoke/VarHandle" ∧ (parseMethodDescriptor yX0_handOver.desc).map (fun d => d.parameters.length) = some 3 := by decide +kernel
theorem xd_X0_isInsured : yX0_isInsured.cls = RX0 ∧ yX0_isInsured.cls ≠ "java/lang/invoke/MethodHandle" ∧ yX0_isInsured.cls ≠ "java/lang/invoke/VarHandle" ∧ (parseMethodDescriptor yX0_isInsured.desc).map (fun d => d.parameters.length) = some 2 := by decide +kernel
theorem xd_X0_putAmount : yX0_putAmount.cls = RX0 ∧ yX0_putAmount.cls ≠ "java/lang/invoke/MethodHandle" ∧ yX0_putAmount.cls ≠ "java/lang/invoke/VarHandle" ∧ (parseMethodDescriptor yX0_putAmount.desc).map (fun d => d.parameters.length) = some 2 := by decide +kernel
theorem xd_X0_claimsAboveCap : yX0_claimsAboveCap.cls = RX0 ∧ yX0_claimsAboveCap.cls ≠ "java/lang/invoke/MethodHandle" ∧ yX0_claimsAboveCap.cls ≠ "java/lang/invoke/VarHandle" ∧ (parseMethodDescriptor yX0_claimsAboveCap.desc).map (fun d => d.parameters.length) = some 1 := by decide +kernel
theorem xv_X0_40 : GoodIn x_tbl (wsV RX0 40 RX0 yX0_hasFleet (.code yX0_hasFleet cX0_hasFleet 2 (some .boolean) :: x_tbl)) := x_goodV wq_512 wq_509 wq_510 wq_511 wq_97
theorem xv_X0_47 : GoodIn x_tbl (wsV RX0 47 RX0 yX0_putClass (.code yX0_putClass cX0_putClass 3 none :: x_tbl)) := x_goodV wq_508 wq_505 wq_506 wq_507 wq_97
theorem xv_X0_51 : GoodIn x_tbl (wsV RX0 51 RX0 yX0_putYears (.code yX0_putYears cX0_putYears 3 none :: x_tbl)) := x_goodV wq_516 wq_513 wq_514 wq_515 wq_97
theorem xv_X0_89 : GoodIn x_tbl (wsV RX0 89 RX0 yX0_hasClaim (.code yX0_hasClaim cX0_hasClaim 2 (some .boolean) :: x_tbl)) := x_goodV wq_539 wq_536 wq_537 wq_538 wq_97
theorem xv_X0_107 : GoodIn x_tbl (wsV RX0 107 RX0 yX0_isOf (.code yX0_isOf cX0_isOf 4 (some .boolean) :: x_tbl)) := x_goodV wq_535 wq_532 wq_534 wq_12 wq_97
theorem xv_X0_69 : GoodIn x_tbl (wsV RX0 69 RX0 yX0_fleetOf (.code yX0_fleetOf cX0_fleetOf 2 (some .int) :: x_tbl)) := x_goodV wq_596 wq_593 wq_594 wq_595 wq_97
theorem xv_X0_97 : GoodIn x_tbl (wsV RX0 97 RX0 yX0_yearOf (.code yX0_yearOf cX0_yearOf 2 (some .int) :: x_tbl)) := x_goodV wq_600 wq_597 wq_598 wq_599 wq_97
theorem xv_X0_104 : GoodIn x_tbl (wsV RX0 104 RX0 yX0_amountOf (.code yX0_amountOf cX0_amountOf 2 (some .int) :: x_tbl)) := x_goodV wq_604 wq_601 wq_602 wq_603 wq_97
theorem xv_X0_100 : GoodIn x_tbl (wsV RX0 100 RX0 yX0_putClaim (.code yX0_putClaim cX0_putClaim 5 none :: x_tbl)) := x_goodV wq_547 wq_544 wq_546 wq_13 wq_97
theorem xv_X0_54 : GoodIn x_tbl (wsV RX0 54 RX0 yX0_dropClaimsOf (.code yX0_dropClaimsOf cX0_dropClaimsOf 6 (some .int) :: x_tbl)) := x_goodV wq_592 wq_589 wq_591 wq_15 wq_97
theorem xv_X0_62 : GoodIn x_tbl (wsV RX0 62 RX0 yX0_classOf (.code yX0_classOf cX0_classOf 2 (some .int) :: x_tbl)) := x_goodV wq_612 wq_609 wq_610 wq_611 wq_97
theorem xv_X0_66 : GoodIn x_tbl (wsV RX0 66 RX0 yX0_yearsOf (.code yX0_yearsOf cX0_yearsOf 2 (some .int) :: x_tbl)) := x_goodV wq_616 wq_613 wq_614 wq_615 wq_97
theorem xv_X0_72 : GoodIn x_tbl (wsV RX0 72 RX0 yX0_putFleet (.code yX0_putFleet cX0_putFleet 3 none :: x_tbl)) := x_goodV wq_620 wq_617 wq_619 wq_17 wq_97
theorem xv_X0_58 : GoodIn x_tbl (wsV RX0 58 RX0 yX0_closeGapAt (.code yX0_closeGapAt cX0_closeGapAt 3 none :: x_tbl)) := x_goodV wq_608 wq_605 wq_607 wq_16 wq_97
theorem xv_X0_75 : GoodIn x_tbl (wsV RX0 75 RX0 yX0_endYears (.code yX0_endYears cX0_endYears 3 (some .int) :: x_tbl)) := x_goodV wq_648 wq_661 wq_646 wq_647 wq_97
theorem xv_X0_78 : GoodIn x_tbl (wsV RX0 78 RX0 yX0_addFleet (.code yX0_addFleet cX0_addFleet 3 (some .int) :: x_tbl)) := x_goodV wq_504 wq_730 wq_502 wq_503 wq_97
theorem xv_X0_81 : GoodIn x_tbl (wsV RX0 81 RX0 yX0_handOver (.code yX0_handOver cX0_handOver 5 none :: x_tbl)) := x_goodV wq_734 wq_731 wq_733 wq_18 wq_97
theorem xv_X0_85 : GoodIn x_tbl (wsV RX0 85 RX0 yX0_isInsured (.code yX0_isInsured cX0_isInsured 3 (some .boolean) :: x_tbl)) := x_goodV wq_528 wq_525 wq_526 wq_527 wq_97
theorem xv_X0_114 : GoodIn x_tbl (wsV RX0 114 RX0 yX0_putAmount (.code yX0_putAmount cX0_putAmount 3 none :: x_tbl)) := x_goodV wq_688 wq_721 wq_686 wq_687 wq_97
theorem xv_X0_117 : GoodIn x_tbl (wsV RX0 117 RX0 yX0_claimsAboveCap (.code yX0_claimsAboveCap cX0_claimsAboveCap 4 (some .int) :: x_tbl)) := x_goodV wq_886 wq_1163 wq_884 wq_885 wq_97
section FR
variable {p : Program} {l : Launch} {e : Env} {R : Room} {s : State} {m : MethodId} {args : Array Value} {below : List Frame} {meth : Method} {c : Code} {H : Heap} {locs : List Loc} {Q : State → Prop} {G : xG} {A : Nat → Prop} {ws ws' : va_W} {cc : ByteArray} {nL pc : Nat} {ls : Array Slot} {rest : List Value} {a : Nat}
theorem xp_X0_28 (E : xE p s m args c cc nL RX0 G A) (hw : xW G A s.heap ws H locs) (q0 : Nat) {fs : List Value} {v : Value} (he : ws[q0]? = some (a, .inr (0, fs))) (hn : narrow .int v = v) (hfit : fits .int v = true) (hlen : 0 < fs.length) (hnew : ws.set q0 (a, .inr (0, fs.set 0 v)) = ws') (hdg : decode cc pc = .ok (.putfield 28, 3)) (kk : ∀ (H1 : Heap) (locs1 : List Loc), xW G A s.heap ws' H1 locs1 → W p l e R s m args below meth c H1 locs1 0 0 Q (F0 m (pc + 3) ls rest)) : W p l e R s m args below meth c H locs 0 0 Q (F0 m pc ls (v :: .ref a :: rest)) := by
  subst hnew
  exact va_put (C := RX0) (T := TX0) (N := 7) E.1 E.2.1 E.2.2.2.2.1 inX0 tyX0 tyX0_ok nmX0 E.2.2.2.1 E.2.2.2.2.2.1 hw.1 hw.2.1 hw.2.2 q0 he rfl 0 (by decide) (E.2.2.2.2.1 _ wq_149) (fun _ h => h) rfl (by decide +kernel) hn hfit hlen hdg (fun H1 l1 a1 a2 a3 => kk H1 l1 ⟨a1, a2, a3⟩)
theorem xp_X0_31 (E : xE p s m args c cc nL RX0 G A) (hw : xW G A s.heap ws H locs) (q0 : Nat) {fs : List Value} {v : Value} (he : ws[q0]? = some (a, .inr (0, fs))) (hn : narrow .int v = v) (hfit : fits .int v = true) (hlen : 1 < fs.length) (hnew : ws.set q0 (a, .inr (0, fs.set 1 v)) = ws') (hdg : decode cc pc = .ok (.putfield 31, 3)) (kk : ∀ (H1 : Heap) (locs1 : List Loc), xW G A s.heap ws' H1 locs1 → W p l e R s m args below meth c H1 locs1 0 0 Q (F0 m (pc + 3) ls rest)) : W p l e R s m args below meth c H locs 0 0 Q (F0 m pc ls (v :: .ref a :: rest)) := by
  subst hnew
  exact va_put (C := RX0) (T := TX0) (N := 7) E.1 E.2.1 E.2.2.2.2.1 inX0 tyX0 tyX0_ok nmX0 E.2.2.2.1 E.2.2.2.2.2.1 hw.1 hw.2.1 hw.2.2 q0 he rfl 1 (by decide) (E.2.2.2.2.1 _ wq_153) (fun _ h => h) rfl (by decide +kernel) hn hfit hlen hdg (fun H1 l1 a1 a2 a3 => kk H1 l1 ⟨a1, a2, a3⟩)
theorem xp_X0_9 (E : xE p s m args c cc nL RX0 G A) (hw : xW G A s.heap ws H locs) (q0 : Nat) {fs : List Value} {v : Value} (he : ws[q0]? = some (a, .inr (0, fs))) (hn : narrow .int v = v) (hfit : fits .int v = true) (hlen : 2 < fs.length) (hnew : ws.set q0 (a, .inr (0, fs.set 2 v)) = ws') (hdg : decode cc pc = .ok (.putfield 9, 3)) (kk : ∀ (H1 : Heap) (locs1 : List Loc), xW G A s.heap ws' H1 locs1 → W p l e R s m args below meth c H1 locs1 0 0 Q (F0 m (pc + 3) ls rest)) : W p l e R s m args below meth c H locs 0 0 Q (F0 m pc ls (v :: .ref a :: rest)) := by
  subst hnew
  exact va_put (C := RX0) (T := TX0) (N := 7) E.1 E.2.1 E.2.2.2.2.1 inX0 tyX0 tyX0_ok nmX0 E.2.2.2.1 E.2.2.2.2.2.1 hw.1 hw.2.1 hw.2.2 q0 he rfl 2 (by decide) (E.2.2.2.2.1 _ wq_157) (fun _ h => h) rfl (by decide +kernel) hn hfit hlen hdg (fun H1 l1 a1 a2 a3 => kk H1 l1 ⟨a1, a2, a3⟩)
theorem xp_X0_15 (E : xE p s m args c cc nL RX0 G A) (hw : xW G A s.heap ws H locs) (q0 : Nat) {fs : List Value} {v : Value} (he : ws[q0]? = some (a, .inr (0, fs))) (hn : narrow .int v = v) (hfit : fits .int v = true) (hlen : 3 < fs.length) (hnew : ws.set q0 (a, .inr (0, fs.set 3 v)) = ws') (hdg : decode cc pc = .ok (.putfield 15, 3)) (kk : ∀ (H1 : Heap) (locs1 : List Loc), xW G A s.heap ws' H1 locs1 → W p l e R s m args below meth c H1 locs1 0 0 Q (F0 m (pc + 3) ls rest)) : W p l e R s m args below meth c H locs 0 0 Q (F0 m pc ls (v :: .ref a :: rest)) := by
  subst hnew
  exact va_put (C := RX0) (T := TX0) (N := 7) E.1 E.2.1 E.2.2.2.2.1 inX0 tyX0 tyX0_ok nmX0 E.2.2.2.1 E.2.2.2.2.2.1 hw.1 hw.2.1 hw.2.2 q0 he rfl 3 (by decide) (E.2.2.2.2.1 _ wq_160) (fun _ h => h) rfl (by decide +kernel) hn hfit hlen hdg (fun H1 l1 a1 a2 a3 => kk H1 l1 ⟨a1, a2, a3⟩)
theorem xg_X0_28 (E : xE p s m args c cc nL RX0 G A) (hw : xW G A s.heap ws H locs) (q0 : Nat) {fs : List Value} {v : Value} (he : ws[q0]? = some (a, .inr (0, fs))) (hv : fs[0]? = some v) (hdg : decode cc pc = .ok (.getfield 28, 3)) (kk : W p l e R s m args below meth c H locs 0 0 Q (F0 m (pc + 3) ls (v :: rest))) : W p l e R s m args below meth c H locs 0 0 Q (F0 m pc ls (.ref a :: rest)) := va_get (C := RX0) (T := TX0) (N := 7) E.1 E.2.1 E.2.2.2.2.1 inX0 E.2.2.2.1 E.2.2.2.2.2.1 hw.1 q0 he rfl 0 (by decide) (E.2.2.2.2.1 _ wq_149) (fun _ h => h) hv hdg kk
theorem xg_X0_31 (E : xE p s m args c cc nL RX0 G A) (hw : xW G A s.heap ws H locs) (q0 : Nat) {fs : List Value} {v : Value} (he : ws[q0]? = some (a, .inr (0, fs))) (hv : fs[1]? = some v) (hdg : decode cc pc = .ok (.getfield 31, 3)) (kk : W p l e R s m args below meth c H locs 0 0 Q (F0 m (pc + 3) ls (v :: rest))) : W p l e R s m args below meth c H locs 0 0 Q (F0 m pc ls (.ref a :: rest)) := va_get (C := RX0) (T := TX0) (N := 7) E.1 E.2.1 E.2.2.2.2.1 inX0 E.2.2.2.1 E.2.2.2.2.2.1 hw.1 q0 he rfl 1 (by decide) (E.2.2.2.2.1 _ wq_153) (fun _ h => h) hv hdg kk
theorem xg_X0_9 (E : xE p s m args c cc nL RX0 G A) (hw : xW G A s.heap ws H locs) (q0 : Nat) {fs : List Value} {v : Value} (he : ws[q0]? = some (a, .inr (0, fs))) (hv : fs[2]? = some v) (hdg : decode cc pc = .ok (.getfield 9, 3)) (kk : W p l e R s m args below meth c H locs 0 0 Q (F0 m (pc + 3) ls (v :: rest))) : W p l e R s m args below meth c H locs 0 0 Q (F0 m pc ls (.ref a :: rest)) := va_get (C := RX0) (T := TX0) (N := 7) E.1 E.2.1 E.2.2.2.2.1 inX0 E.2.2.2.1 E.2.2.2.2.2.1 hw.1 q0 he rfl 2 (by decide) (E.2.2.2.2.1 _ wq_157) (fun _ h => h) hv hdg kk
theorem xg_X0_15 (E : xE p s m args c cc nL RX0 G A) (hw : xW G A s.heap ws H locs) (q0 : Nat) {fs : List Value} {v : Value} (he : ws[q0]? = some (a, .inr (0, fs))) (hv : fs[3]? = some v) (hdg : decode cc pc = .ok (.getfield 15, 3)) (kk : W p l e R s m args below meth c H locs 0 0 Q (F0 m (pc + 3) ls (v :: rest))) : W p l e R s m args below meth c H locs 0 0 Q (F0 m pc ls (.ref a :: rest)) := va_get (C := RX0) (T := TX0) (N := 7) E.1 E.2.1 E.2.2.2.2.1 inX0 E.2.2.2.1 E.2.2.2.2.2.1 hw.1 q0 he rfl 3 (by decide) (E.2.2.2.2.1 _ wq_160) (fun _ h => h) hv hdg kk
theorem xg_X0_18 (E : xE p s m args c cc nL RX0 G A) (hw : xW G A s.heap ws H locs) (q0 : Nat) {fs : List Value} {v : Value} (he : ws[q0]? = some (a, .inr (0, fs))) (hv : fs[4]? = some v) (hdg : decode cc pc = .ok (.getfield 18, 3)) (kk : W p l e R s m args below meth c H locs 0 0 Q (F0 m (pc + 3) ls (v :: rest))) : W p l e R s m args below meth c H locs 0 0 Q (F0 m pc ls (.ref a :: rest)) := va_get (C := RX0) (T := TX0) (N := 7) E.1 E.2.1 E.2.2.2.2.1 inX0 E.2.2.2.1 E.2.2.2.2.2.1 hw.1 q0 he rfl 4 (by decide) (E.2.2.2.2.1 _ wq_164) (fun _ h => h) hv hdg kk
theorem xg_X0_22 (E : xE p s m args c cc nL RX0 G A) (hw : xW G A s.heap ws H locs) (q0 : Nat) {fs : List Value} {v : Value} (he : ws[q0]? = some (a, .inr (0, fs))) (hv : fs[5]? = some v) (hdg : decode cc pc = .ok (.getfield 22, 3)) (kk : W p l e R s m args below meth c H locs 0 0 Q (F0 m (pc + 3) ls (v :: rest))) : W p l e R s m args below meth c H locs 0 0 Q (F0 m pc ls (.ref a :: rest)) := va_get (C := RX0) (T := TX0) (N := 7) E.1 E.2.1 E.2.2.2.2.1 inX0 E.2.2.2.1 E.2.2.2.2.2.1 hw.1 q0 he rfl 5 (by decide) (E.2.2.2.2.1 _ wq_165) (fun _ h => h) hv hdg kk
theorem xg_X0_25 (E : xE p s m args c cc nL RX0 G A) (hw : xW G A s.heap ws H locs) (q0 : Nat) {fs : List Value} {v : Value} (he : ws[q0]? = some (a, .inr (0, fs))) (hv : fs[6]? = some v) (hdg : decode cc pc = .ok (.getfield 25, 3)) (kk : W p l e R s m args below meth c H locs 0 0 Q (F0 m (pc + 3) ls (v :: rest))) : W p l e R s m args below meth c H locs 0 0 Q (F0 m pc ls (.ref a :: rest)) := va_get (C := RX0) (T := TX0) (N := 7) E.1 E.2.1 E.2.2.2.2.1 inX0 E.2.2.2.1 E.2.2.2.2.2.1 hw.1 q0 he rfl 6 (by decide) (E.2.2.2.2.1 _ wq_166) (fun _ h => h) hv hdg kk
end FR
