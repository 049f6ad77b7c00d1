abbrev rm_X0_clear : Room := { frames := 0, cells := 0, slots := 0, locals := 0 }
noncomputable def f_X0_clear  (s : S0) : Option (S0) :=
  some (u0_steady (u0_cap (u0_claims (u0_fleets s 0) 0) 99) 5)
abbrev rm_X0_copyFrom : Room := { frames := 1, cells := 0, slots := 0, locals := 18 }
noncomputable def f_X0_copyFrom  (s : S0) (q : S0) : Option (S0) :=
  Option.bind (x_cp 8 8 (g0_classes q) (g0_classes (u0_steady (u0_cap (u0_claims (u0_fleets s (g0_fleets q)) (g0_claims q)) (g0_cap q)) (g0_steady q))) 0 0 8) (fun w2 => Option.bind (x_cp 8 8 (g0_years q) (g0_years (u0_classes (u0_steady (u0_cap (u0_claims (u0_fleets s (g0_fleets q)) (g0_claims q)) (g0_cap q)) (g0_steady q)) w2)) 0 0 8) (fun w4 => Option.bind (x_cp 40 40 (g0_slips q) (g0_slips (u0_years (u0_classes (u0_steady (u0_cap (u0_claims (u0_fleets s (g0_fleets q)) (g0_claims q)) (g0_cap q)) (g0_steady q)) w2) w4)) 0 0 40) (fun w6 => some (u0_slips (u0_years (u0_classes (u0_steady (u0_cap (u0_claims (u0_fleets s (g0_fleets q)) (g0_claims q)) (g0_cap q)) (g0_steady q)) w2) w4) w6))))
abbrev rm_X0_hasFleet : Room := { frames := 0, cells := 0, slots := 0, locals := 0 }
noncomputable def f_X0_hasFleet  (s : S0) (x1 : Int32) : Option (Int32) :=
  (if x1 < 0 then some 0 else (if (g0_fleets s) ≤ x1 then some 0 else (if 8 ≤ x1 then some 0 else some 1)))
abbrev rm_X0_classOf : Room := { frames := 1, cells := 0, slots := 0, locals := 21 }
noncomputable def f_X0_classOf  (s : S0) (x1 : Int32) : Option (Int32) :=
  Option.bind (f_X0_hasFleet s x1) (fun v1 => (if v1 = 0 then some (-1) else Option.bind (x_rd 8 (g0_classes s) x1) (fun v5 => some v5)))
abbrev rm_X0_yearsOf : Room := { frames := 1, cells := 0, slots := 0, locals := 21 }
noncomputable def f_X0_yearsOf  (s : S0) (x1 : Int32) : Option (Int32) :=
  Option.bind (f_X0_hasFleet s x1) (fun v1 => (if v1 = 0 then some 0 else Option.bind (x_rd 8 (g0_years s) x1) (fun v5 => some v5)))
abbrev rm_X7_isYear : Room := { frames := 0, cells := 0, slots := 0, locals := 0 }
noncomputable def f_X7_isYear  (x0 : Int32) : Option (Int32) :=
  (if x0 < 0 then some 0 else (if 5 ≤ x0 then some 0 else some 1))
abbrev rm_X0_isInsured : Room := { frames := 1, cells := 0, slots := 0, locals := 21 }
noncomputable def f_X0_isInsured  (s : S0) (x1 : Int32) (x2 : Int32) : Option (Int32) :=
  Option.bind (f_X0_hasFleet s x1) (fun v1 => (if v1 = 0 then some 0 else Option.bind (f_X7_isYear x2) (fun v4 => (if v4 = 0 then some 0 else Option.bind (x_rd 8 (g0_years s) x1) (fun v8 => (if ((v8 >>> (x2 &&& 31)) &&& 1) = 1 then some 1 else some 0))))))
abbrev rm_X0_putClass : Room := { frames := 1, cells := 0, slots := 0, locals := 21 }
noncomputable def f_X0_putClass  (s : S0) (x1 : Int32) (x2 : Int32) : Option (S0) :=
  Option.bind (f_X0_hasFleet s x1) (fun v1 => (if v1 = 0 then some s else Option.bind (x_wr 8 (g0_classes s) x1 x2) (fun w5 => some (u0_classes s w5))))
abbrev rm_X0_putYears : Room := { frames := 1, cells := 0, slots := 0, locals := 21 }
noncomputable def f_X0_putYears  (s : S0) (x1 : Int32) (x2 : Int32) : Option (S0) :=
  Option.bind (f_X0_hasFleet s x1) (fun v1 => (if v1 = 0 then some s else Option.bind (x_wr 8 (g0_years s) x1 x2) (fun w5 => some (u0_years s w5))))
abbrev rm_X0_addFleet : Room := { frames := 2, cells := 0, slots := 0, locals := 43 }
noncomputable def f_X0_addFleet  (s : S0) (x1 : Int32) (x2 : Int32) : Option (Int32 × S0) :=
  (if (g0_fleets s) < 8 then Option.bind (f_X0_putClass (u0_fleets s ((g0_fleets s) + 1)) ((g0_fleets (u0_fleets s ((g0_fleets s) + 1))) - 1) x1) (fun v2 => Option.bind (f_X0_putYears v2 ((g0_fleets v2) - 1) x2) (fun v4 => some (((g0_fleets v4) - 1), v4))) else some ((-1), s))
abbrev rm_X0_hasClaim : Room := { frames := 0, cells := 0, slots := 0, locals := 0 }
noncomputable def f_X0_hasClaim  (s : S0) (x1 : Int32) : Option (Int32) :=
  (if x1 < 0 then some 0 else (if (g0_claims s) ≤ x1 then some 0 else (if 40 ≤ x1 then some 0 else some 1)))
abbrev rm_X0_isOf : Room := { frames := 1, cells := 0, slots := 0, locals := 21 }
noncomputable def f_X0_isOf  (s : S0) (x1 : Int32) (x2 : Int32) (x3 : Int32) : Option (Int32) :=
  Option.bind (f_X0_hasClaim s x1) (fun v1 => (if v1 = 0 then some 0 else Option.bind (x_rd 40 (g0_slips s) x1) (fun v5 => (if (v5 >>> (10 &&& 31)) = x2 then Option.bind (x_rd 40 (g0_slips s) x1) (fun v8 => (if ((x3 >>> (((v8 >>> (7 &&& 31)) &&& 7) &&& 31)) &&& 1) = 1 then some 1 else some 0)) else some 0))))
abbrev rm_X0_fleetOf : Room := { frames := 1, cells := 0, slots := 0, locals := 21 }
noncomputable def f_X0_fleetOf  (s : S0) (x1 : Int32) : Option (Int32) :=
  Option.bind (f_X0_hasClaim s x1) (fun v1 => (if v1 = 0 then some (-1) else Option.bind (x_rd 40 (g0_slips s) x1) (fun v5 => some (v5 >>> (10 &&& 31)))))
abbrev rm_X0_yearOf : Room := { frames := 1, cells := 0, slots := 0, locals := 21 }
noncomputable def f_X0_yearOf  (s : S0) (x1 : Int32) : Option (Int32) :=
  Option.bind (f_X0_hasClaim s x1) (fun v1 => (if v1 = 0 then some (-1) else Option.bind (x_rd 40 (g0_slips s) x1) (fun v5 => some ((v5 >>> (7 &&& 31)) &&& 7))))
abbrev rm_X0_amountOf : Room := { frames := 1, cells := 0, slots := 0, locals := 21 }
noncomputable def f_X0_amountOf  (s : S0) (x1 : Int32) : Option (Int32) :=
  Option.bind (f_X0_hasClaim s x1) (fun v1 => (if v1 = 0 then some 0 else Option.bind (x_rd 40 (g0_slips s) x1) (fun v5 => some (v5 &&& 127))))
abbrev rm_X0_putClaim : Room := { frames := 1, cells := 0, slots := 0, locals := 21 }
noncomputable def f_X0_putClaim  (s : S0) (x1 : Int32) (x2 : Int32) (x3 : Int32) (x4 : Int32) : Option (S0) :=
  Option.bind (f_X0_hasClaim s x1) (fun v1 => (if v1 = 0 then some s else Option.bind (x_wr 40 (g0_slips s) x1 (((x2 <<< (10 &&& 31)) ||| (x3 <<< (7 &&& 31))) ||| x4)) (fun w5 => some (u0_slips s w5))))
abbrev rm_X0_dropClaimsOf : Room := { frames := 2, cells := 0, slots := 0, locals := 45 }
noncomputable def f_X0_dropClaimsOf_p11 (k11 : S0 → Int32 → Int32 → Int32 → Int32 → Int32 → Option (Int32 × S0)) (s : S0) (x1 : Int32) (x2 : Int32) (x3 : Int32) (x4 : Int32) (x5 : Int32) : Option (Int32 × S0) :=
  (if x3 ≤ x5 then some ((x3 - x4), (u0_claims s x4)) else Option.bind (f_X0_isOf s x5 x1 x2) (fun v2 => (if v2 = 0 then Option.bind (f_X0_fleetOf s x5) (fun v5 => Option.bind (f_X0_yearOf s x5) (fun v7 => Option.bind (f_X0_amountOf s x5) (fun v9 => Option.bind (f_X0_putClaim s x4 v5 v7 v9) (fun v11 => k11 v11 x1 x2 x3 (x4 + 1) (x5 + 1))))) else k11 s x1 x2 x3 x4 (x5 + 1))))
noncomputable def lp_X0_dropClaimsOf_p11  (s : S0) (x1 : Int32) (x2 : Int32) (x3 : Int32) (x4 : Int32) (x5 : Int32) : Option (Int32 × S0) :=
  x_loop (fun (k : S0 × Int32 × Int32 × Int32 × Int32 × Int32 → Option (Int32 × S0)) (z : S0 × Int32 × Int32 × Int32 × Int32 × Int32) => f_X0_dropClaimsOf_p11  (fun s x1 x2 x3 x4 x5 => k (s, x1, x2, x3, x4, x5)) z.1 z.2.1 z.2.2.1 z.2.2.2.1 z.2.2.2.2.1 z.2.2.2.2.2) FU (s, x1, x2, x3, x4, x5)
noncomputable def f_X0_dropClaimsOf  (s : S0) (x1 : Int32) (x2 : Int32) : Option (Int32 × S0) :=
  lp_X0_dropClaimsOf_p11  s x1 x2 (g0_claims s) 0 0
abbrev rm_X0_putFleet : Room := { frames := 2, cells := 0, slots := 0, locals := 45 }
noncomputable def f_X0_putFleet  (s : S0) (x1 : Int32) (x2 : Int32) : Option (S0) :=
  Option.bind (f_X0_yearOf s x1) (fun v1 => Option.bind (f_X0_amountOf s x1) (fun v3 => Option.bind (f_X0_putClaim s x1 x2 v1 v3) (fun v5 => some v5)))
abbrev rm_X0_closeGapAt : Room := { frames := 3, cells := 0, slots := 0, locals := 67 }
noncomputable def f_X0_closeGapAt_p54 (k54 : S0 → Int32 → Int32 → Option (S0)) (s : S0) (x1 : Int32) (x2 : Int32) : Option (S0) :=
  (if (g0_claims s) ≤ x2 then some s else Option.bind (f_X0_fleetOf s x2) (fun v2 => (if v2 ≤ x1 then k54 s x1 (x2 + 1) else Option.bind (f_X0_fleetOf s x2) (fun v5 => Option.bind (f_X0_putFleet s x2 (v5 - 1)) (fun v7 => k54 v7 x1 (x2 + 1))))))
noncomputable def lp_X0_closeGapAt_p54  (s : S0) (x1 : Int32) (x2 : Int32) : Option (S0) :=
  x_loop (fun (k : S0 × Int32 × Int32 → Option (S0)) (z : S0 × Int32 × Int32) => f_X0_closeGapAt_p54  (fun s x1 x2 => k (s, x1, x2)) z.1 z.2.1 z.2.2) FU (s, x1, x2)
noncomputable def f_X0_closeGapAt_p4 (k4 : S0 → Int32 → Int32 → Option (S0)) (s : S0) (x1 : Int32) (x2 : Int32) : Option (S0) :=
  (if (g0_fleets s) ≤ x2 then lp_X0_closeGapAt_p54  (u0_fleets s ((g0_fleets s) - 1)) x1 0 else Option.bind (f_X0_classOf s x2) (fun v2 => Option.bind (f_X0_putClass s (x2 - 1) v2) (fun v4 => Option.bind (f_X0_yearsOf v4 x2) (fun v6 => Option.bind (f_X0_putYears v4 (x2 - 1) v6) (fun v8 => k4 v8 x1 (x2 + 1))))))
noncomputable def lp_X0_closeGapAt_p4  (s : S0) (x1 : Int32) (x2 : Int32) : Option (S0) :=
  x_loop (fun (k : S0 × Int32 × Int32 → Option (S0)) (z : S0 × Int32 × Int32) => f_X0_closeGapAt_p4  (fun s x1 x2 => k (s, x1, x2)) z.1 z.2.1 z.2.2) FU (s, x1, x2)
noncomputable def f_X0_closeGapAt  (s : S0) (x1 : Int32) : Option (S0) :=
  lp_X0_closeGapAt_p4  s x1 (x1 + 1)
abbrev rm_X0_dropFleet : Room := { frames := 4, cells := 0, slots := 0, locals := 89 }
noncomputable def f_X0_dropFleet  (s : S0) (x1 : Int32) : Option (S0) :=
  Option.bind (f_X0_hasFleet s x1) (fun v1 => (if v1 = 0 then some s else Option.bind (f_X0_dropClaimsOf s x1 31) (fun v4 => Option.bind (f_X0_closeGapAt v4.2 x1) (fun v6 => some v6))))
abbrev rm_X0_endYears : Room := { frames := 3, cells := 0, slots := 0, locals := 70 }
noncomputable def f_X0_endYears  (s : S0) (x1 : Int32) (x2 : Int32) : Option (Int32 × S0) :=
  Option.bind (f_X0_yearsOf s x1) (fun v1 => Option.bind (f_X0_putYears s x1 (v1 &&& (x2 ^^^ (-1)))) (fun v3 => Option.bind (f_X0_dropClaimsOf v3 x1 x2) (fun v5 => some (v5.1, v5.2))))
abbrev rm_X0_endYearsOfAll : Room := { frames := 4, cells := 0, slots := 0, locals := 92 }
noncomputable def f_X0_endYearsOfAll_p2 (k2 : S0 → Int32 → Int32 → Option (S0)) (s : S0) (x1 : Int32) (x2 : Int32) : Option (S0) :=
  (if (g0_fleets s) ≤ x2 then some s else Option.bind (f_X0_endYears s x2 x1) (fun v2 => k2 v2.2 x1 (x2 + 1)))
noncomputable def lp_X0_endYearsOfAll_p2  (s : S0) (x1 : Int32) (x2 : Int32) : Option (S0) :=
  x_loop (fun (k : S0 × Int32 × Int32 → Option (S0)) (z : S0 × Int32 × Int32) => f_X0_endYearsOfAll_p2  (fun s x1 x2 => k (s, x1, x2)) z.1 z.2.1 z.2.2) FU (s, x1, x2)
noncomputable def f_X0_endYearsOfAll  (s : S0) (x1 : Int32) : Option (S0) :=
  lp_X0_endYearsOfAll_p2  s x1 0
abbrev rm_X0_moveAll : Room := { frames := 2, cells := 0, slots := 0, locals := 43 }
noncomputable def f_X0_moveAll_p5 (k5 : S0 → Int32 → Int32 → Int32 → Int32 → Option (Int32 × S0)) (s : S0) (x1 : Int32) (x2 : Int32) (x3 : Int32) (x4 : Int32) : Option (Int32 × S0) :=
  (if (g0_fleets s) ≤ x4 then some (x3, s) else Option.bind (f_X0_classOf s x4) (fun v2 => (if v2 = x1 then Option.bind (f_X0_putClass s x4 x2) (fun v5 => k5 v5 x1 x2 (x3 + 1) (x4 + 1)) else k5 s x1 x2 x3 (x4 + 1))))
noncomputable def lp_X0_moveAll_p5  (s : S0) (x1 : Int32) (x2 : Int32) (x3 : Int32) (x4 : Int32) : Option (Int32 × S0) :=
  x_loop (fun (k : S0 × Int32 × Int32 × Int32 × Int32 → Option (Int32 × S0)) (z : S0 × Int32 × Int32 × Int32 × Int32) => f_X0_moveAll_p5  (fun s x1 x2 x3 x4 => k (s, x1, x2, x3, x4)) z.1 z.2.1 z.2.2.1 z.2.2.2.1 z.2.2.2.2) FU (s, x1, x2, x3, x4)
noncomputable def f_X0_moveAll  (s : S0) (x1 : Int32) (x2 : Int32) : Option (Int32 × S0) :=
  lp_X0_moveAll_p5  s x1 x2 0 0
abbrev rm_X0_exchange : Room := { frames := 3, cells := 0, slots := 0, locals := 67 }
noncomputable def f_X0_exchange_p49 (k49 : S0 → Int32 → Int32 → Int32 → Option (S0)) (s : S0) (x1 : Int32) (x2 : Int32) (x5 : Int32) : Option (S0) :=
  (if (g0_claims s) ≤ x5 then some s else Option.bind (f_X0_fleetOf s x5) (fun v2 => (if v2 = x1 then Option.bind (f_X0_putFleet s x5 x2) (fun v10 => k49 v10 x1 x2 (x5 + 1)) else Option.bind (f_X0_fleetOf s x5) (fun v5 => (if v5 = x2 then Option.bind (f_X0_putFleet s x5 x1) (fun v8 => k49 v8 x1 x2 (x5 + 1)) else k49 s x1 x2 (x5 + 1))))))
noncomputable def lp_X0_exchange_p49  (s : S0) (x1 : Int32) (x2 : Int32) (x5 : Int32) : Option (S0) :=
  x_loop (fun (k : S0 × Int32 × Int32 × Int32 → Option (S0)) (z : S0 × Int32 × Int32 × Int32) => f_X0_exchange_p49  (fun s x1 x2 x5 => k (s, x1, x2, x5)) z.1 z.2.1 z.2.2.1 z.2.2.2) FU (s, x1, x2, x5)
noncomputable def f_X0_exchange  (s : S0) (x1 : Int32) (x2 : Int32) : Option (S0) :=
  Option.bind (f_X0_classOf s x1) (fun v1 => Option.bind (f_X0_yearsOf s x1) (fun v3 => Option.bind (f_X0_classOf s x2) (fun v5 => Option.bind (f_X0_putClass s x1 v5) (fun v7 => Option.bind (f_X0_yearsOf v7 x2) (fun v9 => Option.bind (f_X0_putYears v7 x1 v9) (fun v11 => Option.bind (f_X0_putClass v11 x2 v1) (fun v13 => Option.bind (f_X0_putYears v13 x2 v3) (fun v15 => lp_X0_exchange_p49  v15 x1 x2 0))))))))
abbrev rm_X0_handOver : Room := { frames := 3, cells := 0, slots := 0, locals := 67 }
noncomputable def f_X0_handOver_p3 (k3 : S0 → Int32 → Int32 → Int32 → Int32 → Option (S0)) (s : S0) (x1 : Int32) (x2 : Int32) (x3 : Int32) (x4 : Int32) : Option (S0) :=
  (if (g0_claims s) ≤ x4 then some s else Option.bind (f_X0_isOf s x4 x1 x2) (fun v2 => (if v2 = 0 then k3 s x1 x2 x3 (x4 + 1) else Option.bind (f_X0_putFleet s x4 x3) (fun v5 => k3 v5 x1 x2 x3 (x4 + 1)))))
noncomputable def lp_X0_handOver_p3  (s : S0) (x1 : Int32) (x2 : Int32) (x3 : Int32) (x4 : Int32) : Option (S0) :=
  x_loop (fun (k : S0 × Int32 × Int32 × Int32 × Int32 → Option (S0)) (z : S0 × Int32 × Int32 × Int32 × Int32) => f_X0_handOver_p3  (fun s x1 x2 x3 x4 => k (s, x1, x2, x3, x4)) z.1 z.2.1 z.2.2.1 z.2.2.2.1 z.2.2.2.2) FU (s, x1, x2, x3, x4)
noncomputable def f_X0_handOver  (s : S0) (x1 : Int32) (x2 : Int32) (x3 : Int32) : Option (S0) :=
  lp_X0_handOver_p3  s x1 x2 x3 0
abbrev rm_X0_splitOff : Room := { frames := 4, cells := 0, slots := 0, locals := 91 }
noncomputable def f_X0_splitOff  (s : S0) (x1 : Int32) (x2 : Int32) : Option (Int32 × S0) :=
  Option.bind (f_X0_classOf s x1) (fun v1 => Option.bind (f_X0_addFleet s v1 x2) (fun v3 => (if v3.1 = (-1) then some ((-1), v3.2) else Option.bind (f_X0_yearsOf v3.2 x1) (fun v6 => Option.bind (f_X0_putYears v3.2 x1 (v6 &&& (x2 ^^^ (-1)))) (fun v8 => Option.bind (f_X0_handOver v8 x1 x2 v3.1) (fun v10 => some (v3.1, v10)))))))
abbrev rm_X0_mergeInto : Room := { frames := 4, cells := 0, slots := 0, locals := 91 }
noncomputable def f_X0_mergeInto  (s : S0) (x1 : Int32) (x2 : Int32) : Option (Int32 × S0) :=
  Option.bind (f_X0_yearsOf s x2) (fun v1 => Option.bind (f_X0_yearsOf s x1) (fun v3 => Option.bind (f_X0_putYears s x2 (v1 ||| v3)) (fun v5 => Option.bind (f_X0_handOver v5 x1 31 x2) (fun v7 => Option.bind (f_X0_closeGapAt v7 x1) (fun v9 => (if x2 ≤ x1 then some (x2, v9) else some ((x2 - 1), v9)))))))
abbrev rm_X0_countInsured : Room := { frames := 2, cells := 0, slots := 0, locals := 43 }
noncomputable def f_X0_countInsured_p4 (k4 : S0 → Int32 → Int32 → Int32 → Option (Int32)) (s : S0) (x1 : Int32) (x2 : Int32) (x3 : Int32) : Option (Int32) :=
  (if (g0_fleets s) ≤ x3 then some x2 else Option.bind (f_X0_isInsured s x3 x1) (fun v2 => (if v2 = 0 then k4 s x1 x2 (x3 + 1) else k4 s x1 (x2 + 1) (x3 + 1))))
noncomputable def lp_X0_countInsured_p4  (s : S0) (x1 : Int32) (x2 : Int32) (x3 : Int32) : Option (Int32) :=
  x_loop (fun (k : S0 × Int32 × Int32 × Int32 → Option (Int32)) (z : S0 × Int32 × Int32 × Int32) => f_X0_countInsured_p4  (fun s x1 x2 x3 => k (s, x1, x2, x3)) z.1 z.2.1 z.2.2.1 z.2.2.2) FU (s, x1, x2, x3)
noncomputable def f_X0_countInsured  (s : S0) (x1 : Int32) : Option (Int32) :=
  lp_X0_countInsured_p4  s x1 0 0
abbrev rm_X0_fleetsIn : Room := { frames := 2, cells := 0, slots := 0, locals := 42 }
noncomputable def f_X0_fleetsIn_p4 (k4 : S0 → Int32 → Int32 → Int32 → Option (Int32)) (s : S0) (x1 : Int32) (x2 : Int32) (x3 : Int32) : Option (Int32) :=
  (if (g0_fleets s) ≤ x3 then some x2 else Option.bind (f_X0_classOf s x3) (fun v2 => (if v2 = x1 then k4 s x1 (x2 ||| (1 <<< (x3 &&& 31))) (x3 + 1) else k4 s x1 x2 (x3 + 1))))
noncomputable def lp_X0_fleetsIn_p4  (s : S0) (x1 : Int32) (x2 : Int32) (x3 : Int32) : Option (Int32) :=
  x_loop (fun (k : S0 × Int32 × Int32 × Int32 → Option (Int32)) (z : S0 × Int32 × Int32 × Int32) => f_X0_fleetsIn_p4  (fun s x1 x2 x3 => k (s, x1, x2, x3)) z.1 z.2.1 z.2.2.1 z.2.2.2) FU (s, x1, x2, x3)
noncomputable def f_X0_fleetsIn  (s : S0) (x1 : Int32) : Option (Int32) :=
  lp_X0_fleetsIn_p4  s x1 0 0
abbrev rm_X0_fleetsWithoutYears : Room := { frames := 2, cells := 0, slots := 0, locals := 42 }
noncomputable def f_X0_fleetsWithoutYears_p4 (k4 : S0 → Int32 → Int32 → Option (Int32)) (s : S0) (x1 : Int32) (x2 : Int32) : Option (Int32) :=
  (if (g0_fleets s) ≤ x2 then some x1 else Option.bind (f_X0_yearsOf s x2) (fun v2 => (if v2 = 0 then k4 s (x1 + 1) (x2 + 1) else k4 s x1 (x2 + 1))))
noncomputable def lp_X0_fleetsWithoutYears_p4  (s : S0) (x1 : Int32) (x2 : Int32) : Option (Int32) :=
  x_loop (fun (k : S0 × Int32 × Int32 → Option (Int32)) (z : S0 × Int32 × Int32) => f_X0_fleetsWithoutYears_p4  (fun s x1 x2 => k (s, x1, x2)) z.1 z.2.1 z.2.2) FU (s, x1, x2)
noncomputable def f_X0_fleetsWithoutYears  (s : S0) : Option (Int32) :=
  lp_X0_fleetsWithoutYears_p4  s 0 0
abbrev rm_X0_yearsOfAll : Room := { frames := 2, cells := 0, slots := 0, locals := 42 }
noncomputable def f_X0_yearsOfAll_p4 (k4 : S0 → Int32 → Int32 → Option (Int32)) (s : S0) (x1 : Int32) (x2 : Int32) : Option (Int32) :=
  (if (g0_fleets s) ≤ x2 then some x1 else Option.bind (f_X0_yearsOf s x2) (fun v2 => k4 s (x1 ||| v2) (x2 + 1)))
noncomputable def lp_X0_yearsOfAll_p4  (s : S0) (x1 : Int32) (x2 : Int32) : Option (Int32) :=
  x_loop (fun (k : S0 × Int32 × Int32 → Option (Int32)) (z : S0 × Int32 × Int32) => f_X0_yearsOfAll_p4  (fun s x1 x2 => k (s, x1, x2)) z.1 z.2.1 z.2.2) FU (s, x1, x2)
noncomputable def f_X0_yearsOfAll  (s : S0) : Option (Int32) :=
  lp_X0_yearsOfAll_p4  s 0 0
abbrev rm_X0_countedOf : Room := { frames := 1, cells := 0, slots := 0, locals := 21 }
noncomputable def f_X0_countedOf  (s : S0) (x1 : Int32) : Option (Int32) :=
  Option.bind (f_X0_hasClaim s x1) (fun v1 => (if v1 = 0 then some 0 else Option.bind (x_rd 40 (g0_slips s) x1) (fun v5 => some (if (g0_cap s) < (v5 &&& 127) then (g0_cap s) else (v5 &&& 127)))))
abbrev rm_X0_putAmount : Room := { frames := 2, cells := 0, slots := 0, locals := 45 }
noncomputable def f_X0_putAmount  (s : S0) (x1 : Int32) (x2 : Int32) : Option (S0) :=
  Option.bind (f_X0_fleetOf s x1) (fun v1 => Option.bind (f_X0_yearOf s x1) (fun v3 => Option.bind (f_X0_putClaim s x1 v1 v3 x2) (fun v5 => some v5)))
abbrev rm_X0_canClaim : Room := { frames := 2, cells := 0, slots := 0, locals := 44 }
noncomputable def f_X0_canClaim_p25 (k25 : S0 → Int32 → Int32 → Int32 → Int32 → Option (Int32)) (s : S0) (x1 : Int32) (x2 : Int32) (x3 : Int32) (x4 : Int32) : Option (Int32) :=
  (if (g0_claims s) ≤ x4 then (if 4 ≤ x3 then some 0 else some 1) else Option.bind (f_X0_isOf s x4 x1 (1 <<< (x2 &&& 31))) (fun v3 => (if v3 = 0 then k25 s x1 x2 (x3 + 0) (x4 + 1) else k25 s x1 x2 (x3 + 1) (x4 + 1))))
noncomputable def lp_X0_canClaim_p25  (s : S0) (x1 : Int32) (x2 : Int32) (x3 : Int32) (x4 : Int32) : Option (Int32) :=
  x_loop (fun (k : S0 × Int32 × Int32 × Int32 × Int32 → Option (Int32)) (z : S0 × Int32 × Int32 × Int32 × Int32) => f_X0_canClaim_p25  (fun s x1 x2 x3 x4 => k (s, x1, x2, x3, x4)) z.1 z.2.1 z.2.2.1 z.2.2.2.1 z.2.2.2.2) FU (s, x1, x2, x3, x4)
noncomputable def f_X0_canClaim  (s : S0) (x1 : Int32) (x2 : Int32) : Option (Int32) :=
  (if 40 ≤ (g0_claims s) then some 0 else Option.bind (f_X0_isInsured s x1 x2) (fun v2 => (if v2 = 0 then some 0 else lp_X0_canClaim_p25  s x1 x2 0 0)))
abbrev rm_X0_addClaim : Room := { frames := 2, cells := 0, slots := 0, locals := 45 }
noncomputable def f_X0_addClaim  (s : S0) (x1 : Int32) (x2 : Int32) (x3 : Int32) : Option (Int32 × S0) :=
  (if (g0_claims s) < 40 then Option.bind (f_X0_putClaim (u0_claims s ((g0_claims s) + 1)) ((g0_claims (u0_claims s ((g0_claims s) + 1))) - 1) x1 x2 x3) (fun v2 => some (((g0_claims v2) - 1), v2)) else some ((-1), s))
abbrev rm_X0_dropClaim : Room := { frames := 1, cells := 0, slots := 0, locals := 21 }
noncomputable def f_X0_dropClaim  (s : S0) (x1 : Int32) : Option (S0) :=
  Option.bind (f_X0_hasClaim s x1) (fun v1 => (if v1 = 0 then some s else Option.bind (x_cp 40 40 (g0_slips s) (g0_slips s) (x1 + 1) x1 (((g0_claims s) - x1) - 1)) (fun w5 => some (u0_claims (u0_slips s w5) ((g0_claims (u0_slips s w5)) - 1)))))
abbrev rm_X0_scaleAmounts : Room := { frames := 3, cells := 0, slots := 0, locals := 67 }
noncomputable def f_X0_scaleAmounts_p5 (k5 : S0 → Int32 → Int32 → Int32 → Int32 → Option (Int32 × S0)) (s : S0) (x1 : Int32) (x2 : Int32) (x3 : Int32) (x4 : Int32) : Option (Int32 × S0) :=
  (if (g0_claims s) ≤ x4 then some (x3, s) else Option.bind (f_X0_fleetOf s x4) (fun v2 => (if v2 = x1 then Option.bind (f_X0_amountOf s x4) (fun v5 => Option.bind (f_X0_putAmount s x4 (if 1 < (if ((v5 * x2) / 100) < 99 then ((v5 * x2) / 100) else 99) then (if ((v5 * x2) / 100) < 99 then ((v5 * x2) / 100) else 99) else 1)) (fun v7 => Option.bind (f_X0_amountOf v7 x4) (fun v9 => (if v9 = v5 then k5 v7 x1 x2 (x3 + 0) (x4 + 1) else k5 v7 x1 x2 (x3 + 1) (x4 + 1))))) else k5 s x1 x2 x3 (x4 + 1))))
noncomputable def lp_X0_scaleAmounts_p5  (s : S0) (x1 : Int32) (x2 : Int32) (x3 : Int32) (x4 : Int32) : Option (Int32 × S0) :=
  x_loop (fun (k : S0 × Int32 × Int32 × Int32 × Int32 → Option (Int32 × S0)) (z : S0 × Int32 × Int32 × Int32 × Int32) => f_X0_scaleAmounts_p5  (fun s x1 x2 x3 x4 => k (s, x1, x2, x3, x4)) z.1 z.2.1 z.2.2.1 z.2.2.2.1 z.2.2.2.2) FU (s, x1, x2, x3, x4)
noncomputable def f_X0_scaleAmounts  (s : S0) (x1 : Int32) (x2 : Int32) : Option (Int32 × S0) :=
  lp_X0_scaleAmounts_p5  s x1 x2 0 0
abbrev rm_X0_claimsWith : Room := { frames := 2, cells := 0, slots := 0, locals := 42 }
noncomputable def f_X0_claimsWith_p4 (k4 : S0 → Int32 → Int32 → Int32 → Option (Int32)) (s : S0) (x1 : Int32) (x2 : Int32) (x3 : Int32) : Option (Int32) :=
  (if (g0_claims s) ≤ x3 then some x2 else Option.bind (f_X0_fleetOf s x3) (fun v2 => (if v2 = x1 then k4 s x1 (x2 + 1) (x3 + 1) else k4 s x1 (x2 + 0) (x3 + 1))))
noncomputable def lp_X0_claimsWith_p4  (s : S0) (x1 : Int32) (x2 : Int32) (x3 : Int32) : Option (Int32) :=
  x_loop (fun (k : S0 × Int32 × Int32 × Int32 → Option (Int32)) (z : S0 × Int32 × Int32 × Int32) => f_X0_claimsWith_p4  (fun s x1 x2 x3 => k (s, x1, x2, x3)) z.1 z.2.1 z.2.2.1 z.2.2.2) FU (s, x1, x2, x3)
noncomputable def f_X0_claimsWith  (s : S0) (x1 : Int32) : Option (Int32) :=
  lp_X0_claimsWith_p4  s x1 0 0
abbrev rm_X0_claimsOfYear : Room := { frames := 2, cells := 0, slots := 0, locals := 42 }
noncomputable def f_X0_claimsOfYear_p4 (k4 : S0 → Int32 → Int32 → Int32 → Option (Int32)) (s : S0) (x1 : Int32) (x2 : Int32) (x3 : Int32) : Option (Int32) :=
  (if (g0_claims s) ≤ x3 then some x2 else Option.bind (f_X0_yearOf s x3) (fun v2 => (if v2 = x1 then k4 s x1 (x2 + 1) (x3 + 1) else k4 s x1 (x2 + 0) (x3 + 1))))
noncomputable def lp_X0_claimsOfYear_p4  (s : S0) (x1 : Int32) (x2 : Int32) (x3 : Int32) : Option (Int32) :=
  x_loop (fun (k : S0 × Int32 × Int32 × Int32 → Option (Int32)) (z : S0 × Int32 × Int32 × Int32) => f_X0_claimsOfYear_p4  (fun s x1 x2 x3 => k (s, x1, x2, x3)) z.1 z.2.1 z.2.2.1 z.2.2.2) FU (s, x1, x2, x3)
noncomputable def f_X0_claimsOfYear  (s : S0) (x1 : Int32) : Option (Int32) :=
  lp_X0_claimsOfYear_p4  s x1 0 0
abbrev rm_X0_claimsAboveCap : Room := { frames := 2, cells := 0, slots := 0, locals := 42 }
noncomputable def f_X0_claimsAboveCap_p4 (k4 : S0 → Int32 → Int32 → Int32 → Option (Int32)) (s : S0) (x1 : Int32) (x2 : Int32) (x3 : Int32) : Option (Int32) :=
  (if (g0_claims s) ≤ x3 then some x2 else Option.bind (f_X0_fleetOf s x3) (fun v2 => (if v2 = x1 then Option.bind (f_X0_amountOf s x3) (fun v5 => (if v5 ≤ (g0_cap s) then k4 s x1 (x2 + 0) (x3 + 1) else k4 s x1 (x2 + 1) (x3 + 1))) else k4 s x1 (x2 + 0) (x3 + 1))))
noncomputable def lp_X0_claimsAboveCap_p4  (s : S0) (x1 : Int32) (x2 : Int32) (x3 : Int32) : Option (Int32) :=
  x_loop (fun (k : S0 × Int32 × Int32 × Int32 → Option (Int32)) (z : S0 × Int32 × Int32 × Int32) => f_X0_claimsAboveCap_p4  (fun s x1 x2 x3 => k (s, x1, x2, x3)) z.1 z.2.1 z.2.2.1 z.2.2.2) FU (s, x1, x2, x3)
noncomputable def f_X0_claimsAboveCap  (s : S0) (x1 : Int32) : Option (Int32) :=
  lp_X0_claimsAboveCap_p4  s x1 0 0
abbrev rm_X0_allClaimsAboveCap : Room := { frames := 3, cells := 0, slots := 0, locals := 65 }
noncomputable def f_X0_allClaimsAboveCap_p4 (k4 : S0 → Int32 → Int32 → Option (Int32)) (s : S0) (x1 : Int32) (x2 : Int32) : Option (Int32) :=
  (if (g0_fleets s) ≤ x2 then some x1 else Option.bind (f_X0_claimsAboveCap s x2) (fun v2 => k4 s (x1 + v2) (x2 + 1)))
noncomputable def lp_X0_allClaimsAboveCap_p4  (s : S0) (x1 : Int32) (x2 : Int32) : Option (Int32) :=
  x_loop (fun (k : S0 × Int32 × Int32 → Option (Int32)) (z : S0 × Int32 × Int32) => f_X0_allClaimsAboveCap_p4  (fun s x1 x2 => k (s, x1, x2)) z.1 z.2.1 z.2.2) FU (s, x1, x2)
noncomputable def f_X0_allClaimsAboveCap  (s : S0) : Option (Int32) :=
  lp_X0_allClaimsAboveCap_p4  s 0 0
abbrev rm_X0_placeOf : Room := { frames := 2, cells := 0, slots := 0, locals := 42 }
noncomputable def f_X0_placeOf_p4 (k4 : S0 → Int32 → Int32 → Int32 → Option (Int32)) (s : S0) (x1 : Int32) (x2 : Int32) (x3 : Int32) : Option (Int32) :=
  (if (g0_claims s) ≤ x3 then some x2 else Option.bind (f_X0_fleetOf s x3) (fun v2 => Option.bind (f_X0_fleetOf s x1) (fun v4 => (if v2 = v4 then Option.bind (f_X0_amountOf s x3) (fun v7 => Option.bind (f_X0_amountOf s x1) (fun v9 => (if v9 < v7 then k4 s x1 (x2 + 1) (x3 + 1) else Option.bind (f_X0_amountOf s x3) (fun v12 => Option.bind (f_X0_amountOf s x1) (fun v14 => (if v12 = v14 then (if x1 ≤ x3 then k4 s x1 x2 (x3 + 1) else k4 s x1 (x2 + 1) (x3 + 1)) else k4 s x1 x2 (x3 + 1))))))) else k4 s x1 x2 (x3 + 1)))))
noncomputable def lp_X0_placeOf_p4  (s : S0) (x1 : Int32) (x2 : Int32) (x3 : Int32) : Option (Int32) :=
  x_loop (fun (k : S0 × Int32 × Int32 × Int32 → Option (Int32)) (z : S0 × Int32 × Int32 × Int32) => f_X0_placeOf_p4  (fun s x1 x2 x3 => k (s, x1, x2, x3)) z.1 z.2.1 z.2.2.1 z.2.2.2) FU (s, x1, x2, x3)
noncomputable def f_X0_placeOf  (s : S0) (x1 : Int32) : Option (Int32) :=
  lp_X0_placeOf_p4  s x1 0 0
