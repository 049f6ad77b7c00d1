abbrev rm_X6_size : Room := { frames := 0, cells := 0, slots := 0, locals := 0 }
noncomputable def f_X6_size  (s : S6) : Option (Int32) :=
  some (g6_size s)
abbrev rm_X6_addByte : Room := { frames := 0, cells := 0, slots := 0, locals := 0 }
noncomputable def f_X6_addByte  (s : S6) (x1 : Int32) : Option (S6) :=
  (if 700 ≤ (g6_size s) then some s else Option.bind (x_wrb 700 (g6_bytes s) (g6_size s) (Int8.toInt32 (Int32.toInt8 x1))) (fun w3 => some (u6_size (u6_bytes s w3) ((g6_size s) + (1 : Int32)))))
abbrev rm_X6_addFour : Room := { frames := 1, cells := 0, slots := 0, locals := 21 }
noncomputable def f_X6_addFour  (s : S6) (x1 : Int32) : Option (S6) :=
  Option.bind (f_X6_addByte s (((Int32.toUInt32 x1) >>> ((Int32.toUInt32 24) &&& Int32.toUInt32 31)).toInt32)) (fun v1 => Option.bind (f_X6_addByte v1 (((Int32.toUInt32 x1) >>> ((Int32.toUInt32 16) &&& Int32.toUInt32 31)).toInt32)) (fun v3 => Option.bind (f_X6_addByte v3 (((Int32.toUInt32 x1) >>> ((Int32.toUInt32 8) &&& Int32.toUInt32 31)).toInt32)) (fun v5 => Option.bind (f_X6_addByte v5 x1) (fun v7 => some v7))))
abbrev rm_X7_feed : Room := { frames := 2, cells := 0, slots := 0, locals := 42 }
noncomputable def f_X7_feed  (s : S7) (x1 : Int32) (x2 : Int32) (x3 : Int32) (x4 : Int32) (x5 : Int32) : Option (Int32 × S7) :=
  Option.bind (f_X6_size (g7_tape s)) (fun v1 => (if (v1 + (20 : Int32)) ≤ 700 then Option.bind (f_X6_addFour (g7_tape s) x1) (fun v4 => Option.bind (f_X6_addFour v4 x2) (fun v6 => Option.bind (f_X6_addFour v6 x3) (fun v8 => Option.bind (f_X6_addFour v8 x4) (fun v10 => Option.bind (f_X6_addFour v10 x5) (fun v12 => Option.bind (f_X6_size v12) (fun v14 => some (v14, (u7_tape s v12)))))))) else some ((-1), s)))
abbrev rm_X6_dropLast : Room := { frames := 0, cells := 0, slots := 0, locals := 0 }
noncomputable def f_X6_dropLast  (s : S6) (x1 : Int32) : Option (S6) :=
  (if x1 < 0 then some s else (if (g6_size s) < x1 then some s else some (u6_size s ((g6_size s) - x1))))
abbrev rm_X7_back : Room := { frames := 1, cells := 0, slots := 0, locals := 21 }
noncomputable def f_X7_back  (s : S7) (x1 : Int32) : Option (Int32 × S7) :=
  (if x1 < 0 then some ((-1), s) else Option.bind (f_X6_size (g7_tape s)) (fun v2 => (if x1 ≤ v2 then Option.bind (f_X6_dropLast (g7_tape s) x1) (fun v5 => Option.bind (f_X6_size v5) (fun v7 => some (v7, (u7_tape s v5)))) else some ((-1), s))))
abbrev rm_X0_clear : Room := { frames := 0, cells := 0, slots := 0, locals := 0 }
noncomputable def f_X0_clear  (s : S0) : Option (S0) :=
  some (u0_steady (u0_cap (u0_claims (u0_fleets s 0) 0) 99) 5)
abbrev rm_X6_byteAt : Room := { frames := 0, cells := 0, slots := 0, locals := 0 }
noncomputable def f_X6_byteAt  (s : S6) (x1 : Int32) : Option (Int32) :=
  (if x1 < 0 then some (-1) else (if (g6_size s) ≤ x1 then some (-1) else Option.bind (x_rd 700 (g6_bytes s) x1) (fun v4 => some (v4 &&& (255 : Int32)))))
abbrev rm_X6_skipGaps : Room := { frames := 1, cells := 0, slots := 0, locals := 21 }
noncomputable def f_X6_skipGaps_p5 (k5 : S6 → Int32 → Option (S6)) (s : S6) (x1 : Int32) : Option (S6) :=
  (if (g6_size s) ≤ x1 then some s else Option.bind (f_X6_byteAt s x1) (fun v2 => (if v2 = 32 then k5 (u6_at s (x1 + (1 : Int32))) (x1 + 1) else Option.bind (f_X6_byteAt s x1) (fun v5 => (if v5 = 10 then k5 (u6_at s (x1 + (1 : Int32))) (x1 + 1) else some s)))))
noncomputable def lp_X6_skipGaps_p5  (s : S6) (x1 : Int32) : Option (S6) :=
  x_loop (fun (k : S6 × Int32 → Option (S6)) (z : S6 × Int32) => f_X6_skipGaps_p5  (fun s x1 => k (s, x1)) z.1 z.2) FU (s, x1)
noncomputable def f_X6_skipGaps  (s : S6) : Option (S6) :=
  lp_X6_skipGaps_p5  s (g6_at s)
abbrev rm_X6_skipLetters : Room := { frames := 1, cells := 0, slots := 0, locals := 21 }
noncomputable def f_X6_skipLetters_p5 (k5 : S6 → Int32 → Option (S6)) (s : S6) (x1 : Int32) : Option (S6) :=
  (if (g6_size s) ≤ x1 then some s else Option.bind (f_X6_byteAt s x1) (fun v2 => (if v2 < 97 then some s else Option.bind (f_X6_byteAt s x1) (fun v5 => (if 122 < v5 then some s else k5 (u6_at s (x1 + (1 : Int32))) (x1 + 1))))))
noncomputable def lp_X6_skipLetters_p5  (s : S6) (x1 : Int32) : Option (S6) :=
  x_loop (fun (k : S6 × Int32 → Option (S6)) (z : S6 × Int32) => f_X6_skipLetters_p5  (fun s x1 => k (s, x1)) z.1 z.2) FU (s, x1)
noncomputable def f_X6_skipLetters  (s : S6) : Option (S6) :=
  lp_X6_skipLetters_p5  s (g6_at s)
abbrev rm_X6_isWord : Room := { frames := 4, cells := 0, slots := 0, locals := 101 }
noncomputable def f_X6_isWord_p17 (k17 : S6 → Nat → Int32 → Int32 → Option (Int32)) (s : S6) (n2 : Nat) (x1 : Int32) (x3 : Int32) : Option (Int32) :=
  Option.bind (x_slen n2) (fun v1 => (if v1 ≤ x3 then some 1 else Option.bind (f_X6_byteAt s (x1 + x3)) (fun v4 => Option.bind (x_schr n2 x3) (fun v6 => (if v4 = v6 then k17 s n2 x1 (x3 + 1) else some 0)))))
noncomputable def lp_X6_isWord_p17  (s : S6) (n2 : Nat) (x1 : Int32) (x3 : Int32) : Option (Int32) :=
  x_loop (fun (k : S6 × Int32 × Int32 → Option (Int32)) (z : S6 × Int32 × Int32) => f_X6_isWord_p17  (fun s n2 x1 x3 => k (s, x1, x3)) z.1 n2 z.2.1 z.2.2) FU (s, x1, x3)
noncomputable def f_X6_isWord  (s : S6) (n2 : Nat) (x1 : Int32) : Option (Int32) :=
  Option.bind (x_slen n2) (fun v1 => (if ((g6_at s) - x1) = v1 then lp_X6_isWord_p17  s n2 x1 0 else some 0))
abbrev rm_X6_isDigit : Room := { frames := 0, cells := 0, slots := 0, locals := 0 }
noncomputable def f_X6_isDigit  (x0 : Int32) : Option (Int32) :=
  (if x0 < 48 then some 0 else (if 57 < x0 then some 0 else some 1))
abbrev rm_X6_failAt : Room := { frames := 0, cells := 0, slots := 0, locals := 0 }
noncomputable def f_X6_failAt  (s : S6) (x1 : Int32) : Option (S6) :=
  (if (g6_fault s) = (-1) then some (u6_fault s x1) else some s)
abbrev rm_X6_readWord : Room := { frames := 5, cells := 0, slots := 0, locals := 124 }
noncomputable def f_X6_readWord_p86  (s : S6) (q : S0) (x2 : Int32) (x3 : Int32) : Option (Int32 × S6) :=
  (if x3 = (-1) then Option.bind (f_X6_failAt s x2) (fun v9 => some (x3, v9)) else Option.bind (f_X6_byteAt s (g6_at s)) (fun v2 => Option.bind (f_X6_isDigit v2) (fun v4 => (if v4 = 0 then some (x3, s) else Option.bind (f_X6_failAt s (g6_at s)) (fun v7 => some (x3, v7))))))
noncomputable def f_X6_readWord_p65  (s : S6) (q : S0) (x2 : Int32) (x3 : Int32) : Option (Int32 × S6) :=
  Option.bind (f_X6_isWord s 7 x2) (fun v1 => (if v1 = 0 then f_X6_readWord_p86  s q x2 x3 else (if 40 ≤ (g0_claims q) then f_X6_readWord_p86  s q x2 x3 else f_X6_readWord_p86  s q x2 3)))
noncomputable def f_X6_readWord  (s : S6) (q : S0) : Option (Int32 × S6) :=
  Option.bind (f_X6_skipLetters s) (fun v1 => Option.bind (f_X6_isWord v1 5 (g6_at s)) (fun v3 => (if v3 = 0 then Option.bind (f_X6_isWord v1 6 (g6_at s)) (fun v6 => (if v6 = 0 then Option.bind (f_X6_isWord v1 0 (g6_at s)) (fun v9 => (if v9 = 0 then f_X6_readWord_p65  v1 q (g6_at s) (-1) else (if 8 ≤ (g0_fleets q) then f_X6_readWord_p65  v1 q (g6_at s) (-1) else f_X6_readWord_p86  v1 q (g6_at s) 2))) else f_X6_readWord_p86  v1 q (g6_at s) 1)) else f_X6_readWord_p86  v1 q (g6_at s) 0)))
abbrev rm_X6_readNumber : Room := { frames := 2, cells := 0, slots := 0, locals := 42 }
noncomputable def f_X6_readNumber_p109  (s : S6) (x1 : Int32) : Option (Int32 × S6) :=
  Option.bind (f_X6_failAt s (g6_begin s)) (fun v1 => some (x1, v1))
noncomputable def f_X6_readNumber_p76  (s : S6) (x1 : Int32) (x2 : Int32) (x3 : Int32) : Option (Int32 × S6) :=
  (if ((g6_at s) - (g6_begin s)) < 1 then f_X6_readNumber_p109  s x1 else (if 2 < ((g6_at s) - (g6_begin s)) then f_X6_readNumber_p109  s x1 else (if x3 < x1 then f_X6_readNumber_p109  s x1 else (if x3 ≤ x2 then some (x3, s) else f_X6_readNumber_p109  s x1))))
noncomputable def f_X6_readNumber_p20 (k20 : S6 → Int32 → Int32 → Int32 → Int32 → Option (Int32 × S6)) (s : S6) (x1 : Int32) (x2 : Int32) (x3 : Int32) (x4 : Int32) : Option (Int32 × S6) :=
  (if (g6_size s) ≤ x4 then f_X6_readNumber_p76  s x1 x2 x3 else Option.bind (f_X6_byteAt s x4) (fun v2 => Option.bind (f_X6_isDigit v2) (fun v4 => (if v4 = 0 then f_X6_readNumber_p76  s x1 x2 x3 else Option.bind (f_X6_byteAt s x4) (fun v7 => k20 (u6_at s (x4 + (1 : Int32))) x1 x2 (if 1000 < (((x3 * (10 : Int32)) + v7) - (48 : Int32)) then 1000 else (((x3 * (10 : Int32)) + v7) - (48 : Int32))) (x4 + 1))))))
noncomputable def lp_X6_readNumber_p20  (s : S6) (x1 : Int32) (x2 : Int32) (x3 : Int32) (x4 : Int32) : Option (Int32 × S6) :=
  x_loop (fun (k : S6 × Int32 × Int32 × Int32 × Int32 → Option (Int32 × S6)) (z : S6 × Int32 × Int32 × Int32 × Int32) => f_X6_readNumber_p20  (fun s x1 x2 x3 x4 => k (s, x1, x2, x3, x4)) z.1 z.2.1 z.2.2.1 z.2.2.2.1 z.2.2.2.2) FU (s, x1, x2, x3, x4)
noncomputable def f_X6_readNumber  (s : S6) (x1 : Int32) (x2 : Int32) : Option (Int32 × S6) :=
  Option.bind (f_X6_skipGaps s) (fun v1 => lp_X6_readNumber_p20  (u6_begin v1 (g6_at v1)) x1 x2 0 (g6_at v1))
abbrev rm_X6_isEndNext : Room := { frames := 2, cells := 0, slots := 0, locals := 42 }
noncomputable def f_X6_isEndNext  (s : S6) : Option (Int32 × S6) :=
  Option.bind (f_X6_skipGaps s) (fun v1 => Option.bind (f_X6_byteAt v1 (g6_at v1)) (fun v3 => (if v3 = 59 then some (1, v1) else some (0, v1))))
abbrev rm_X0_hasFleet : Room := { frames := 0, cells := 0, slots := 0, locals := 0 }
noncomputable def f_X0_hasFleet  (s : S0) (x1 : Int32) : Option (Int32) :=
  (if x1 < 0 then some 0 else (if (g0_fleets s) ≤ x1 then some 0 else (if 8 ≤ x1 then some 0 else some 1)))
abbrev rm_X0_putClass : Room := { frames := 1, cells := 0, slots := 0, locals := 21 }
noncomputable def f_X0_putClass  (s : S0) (x1 : Int32) (x2 : Int32) : Option (S0) :=
  Option.bind (f_X0_hasFleet s x1) (fun v1 => (if v1 = 0 then some s else Option.bind (x_wr 8 (g0_classes s) x1 x2) (fun w5 => some (u0_classes s w5))))
abbrev rm_X0_putYears : Room := { frames := 1, cells := 0, slots := 0, locals := 21 }
noncomputable def f_X0_putYears  (s : S0) (x1 : Int32) (x2 : Int32) : Option (S0) :=
  Option.bind (f_X0_hasFleet s x1) (fun v1 => (if v1 = 0 then some s else Option.bind (x_wr 8 (g0_years s) x1 x2) (fun w5 => some (u0_years s w5))))
abbrev rm_X0_addFleet : Room := { frames := 2, cells := 0, slots := 0, locals := 43 }
noncomputable def f_X0_addFleet  (s : S0) (x1 : Int32) (x2 : Int32) : Option (Int32 × S0) :=
  (if (g0_fleets s) < 8 then Option.bind (f_X0_putClass (u0_fleets s ((g0_fleets s) + (1 : Int32))) (((g0_fleets s) + (1 : Int32)) - (1 : Int32)) x1) (fun v2 => Option.bind (f_X0_putYears v2 ((g0_fleets v2) - (1 : Int32)) x2) (fun v4 => some (((g0_fleets v4) - (1 : Int32)), v4))) else some ((-1), s))
abbrev rm_X6_readFleet : Room := { frames := 3, cells := 0, slots := 0, locals := 66 }
noncomputable def f_X6_readFleet_p53  (s : S6) (q : S0) (x2 : Int32) (x3 : Int32) : Option (S6 × S0) :=
  Option.bind (f_X0_addFleet q x2 x3) (fun v1 => some (s, v1.2))
noncomputable def f_X6_readFleet_p12 (k12 : S6 → S0 → Int32 → Int32 → Int32 → Option (S6 × S0)) (s : S6) (q : S0) (x2 : Int32) (x3 : Int32) (x4 : Int32) : Option (S6 × S0) :=
  (if (g6_size s) ≤ x4 then f_X6_readFleet_p53  s q x2 x3 else (if (g6_fault s) = (-1) then Option.bind (f_X6_isEndNext s) (fun v3 => (if v3.1 = 0 then Option.bind (f_X6_readNumber v3.2 0 4) (fun v6 => k12 v6.2 q x2 (x3 ||| ((1 : Int32) <<< (v6.1 &&& 31))) (x4 + 1)) else f_X6_readFleet_p53  v3.2 q x2 x3)) else f_X6_readFleet_p53  s q x2 x3))
noncomputable def lp_X6_readFleet_p12  (s : S6) (q : S0) (x2 : Int32) (x3 : Int32) (x4 : Int32) : Option (S6 × S0) :=
  x_loop (fun (k : S6 × S0 × Int32 × Int32 × Int32 → Option (S6 × S0)) (z : S6 × S0 × Int32 × Int32 × Int32) => f_X6_readFleet_p12  (fun s q x2 x3 x4 => k (s, q, x2, x3, x4)) z.1 z.2.1 z.2.2.1 z.2.2.2.1 z.2.2.2.2) FU (s, q, x2, x3, x4)
noncomputable def f_X6_readFleet  (s : S6) (q : S0) : Option (S6 × S0) :=
  Option.bind (f_X6_readNumber s 0 2) (fun v1 => lp_X6_readFleet_p12  v1.2 q v1.1 0 0)
abbrev rm_X7_isYear : Room := { frames := 0, cells := 0, slots := 0, locals := 0 }
noncomputable def f_X7_isYear  (x0 : Int32) : Option (Int32) :=
  (if x0 < 0 then some 0 else (if 5 ≤ x0 then some 0 else some 1))
abbrev rm_X0_isInsured : Room := { frames := 1, cells := 0, slots := 0, locals := 21 }
noncomputable def f_X0_isInsured  (s : S0) (x1 : Int32) (x2 : Int32) : Option (Int32) :=
  Option.bind (f_X0_hasFleet s x1) (fun v1 => (if v1 = 0 then some 0 else Option.bind (f_X7_isYear x2) (fun v4 => (if v4 = 0 then some 0 else Option.bind (x_rd 8 (g0_years s) x1) (fun v8 => (if ((v8 >>> (x2 &&& 31)) &&& (1 : Int32)) = 1 then some 1 else some 0))))))
abbrev rm_X0_hasClaim : Room := { frames := 0, cells := 0, slots := 0, locals := 0 }
noncomputable def f_X0_hasClaim  (s : S0) (x1 : Int32) : Option (Int32) :=
  (if x1 < 0 then some 0 else (if (g0_claims s) ≤ x1 then some 0 else (if 40 ≤ x1 then some 0 else some 1)))
abbrev rm_X0_isOf : Room := { frames := 1, cells := 0, slots := 0, locals := 21 }
noncomputable def f_X0_isOf  (s : S0) (x1 : Int32) (x2 : Int32) (x3 : Int32) : Option (Int32) :=
  Option.bind (f_X0_hasClaim s x1) (fun v1 => (if v1 = 0 then some 0 else Option.bind (x_rd 40 (g0_slips s) x1) (fun v5 => (if (v5 >>> ((10 : Int32) &&& 31)) = x2 then Option.bind (x_rd 40 (g0_slips s) x1) (fun v8 => (if ((x3 >>> (((v8 >>> ((7 : Int32) &&& 31)) &&& (7 : Int32)) &&& 31)) &&& (1 : Int32)) = 1 then some 1 else some 0)) else some 0))))
abbrev rm_X0_canClaim : Room := { frames := 2, cells := 0, slots := 0, locals := 44 }
noncomputable def f_X0_canClaim_p25 (k25 : S0 → Int32 → Int32 → Int32 → Int32 → Option (Int32)) (s : S0) (x1 : Int32) (x2 : Int32) (x3 : Int32) (x4 : Int32) : Option (Int32) :=
  (if (g0_claims s) ≤ x4 then (if 4 ≤ x3 then some 0 else some 1) else Option.bind (f_X0_isOf s x4 x1 ((1 : Int32) <<< (x2 &&& 31))) (fun v3 => (if v3 = 0 then k25 s x1 x2 (x3 + (0 : Int32)) (x4 + 1) else k25 s x1 x2 (x3 + (1 : Int32)) (x4 + 1))))
noncomputable def lp_X0_canClaim_p25  (s : S0) (x1 : Int32) (x2 : Int32) (x3 : Int32) (x4 : Int32) : Option (Int32) :=
  x_loop (fun (k : S0 × Int32 × Int32 × Int32 × Int32 → Option (Int32)) (z : S0 × Int32 × Int32 × Int32 × Int32) => f_X0_canClaim_p25  (fun s x1 x2 x3 x4 => k (s, x1, x2, x3, x4)) z.1 z.2.1 z.2.2.1 z.2.2.2.1 z.2.2.2.2) FU (s, x1, x2, x3, x4)
noncomputable def f_X0_canClaim  (s : S0) (x1 : Int32) (x2 : Int32) : Option (Int32) :=
  (if 40 ≤ (g0_claims s) then some 0 else Option.bind (f_X0_isInsured s x1 x2) (fun v2 => (if v2 = 0 then some 0 else lp_X0_canClaim_p25  s x1 x2 0 0)))
abbrev rm_X0_putClaim : Room := { frames := 1, cells := 0, slots := 0, locals := 21 }
noncomputable def f_X0_putClaim  (s : S0) (x1 : Int32) (x2 : Int32) (x3 : Int32) (x4 : Int32) : Option (S0) :=
  Option.bind (f_X0_hasClaim s x1) (fun v1 => (if v1 = 0 then some s else Option.bind (x_wr 40 (g0_slips s) x1 (((x2 <<< ((10 : Int32) &&& 31)) ||| (x3 <<< ((7 : Int32) &&& 31))) ||| x4)) (fun w5 => some (u0_slips s w5))))
abbrev rm_X0_addClaim : Room := { frames := 2, cells := 0, slots := 0, locals := 45 }
noncomputable def f_X0_addClaim  (s : S0) (x1 : Int32) (x2 : Int32) (x3 : Int32) : Option (Int32 × S0) :=
  (if (g0_claims s) < 40 then Option.bind (f_X0_putClaim (u0_claims s ((g0_claims s) + (1 : Int32))) (((g0_claims s) + (1 : Int32)) - (1 : Int32)) x1 x2 x3) (fun v2 => some (((g0_claims v2) - (1 : Int32)), v2)) else some ((-1), s))
abbrev rm_X6_readClaim : Room := { frames := 3, cells := 0, slots := 0, locals := 68 }
noncomputable def f_X6_readClaim_p36  (s : S6) (q : S0) (x2 : Int32) (x3 : Int32) : Option (S6 × S0) :=
  Option.bind (f_X6_readNumber s 1 99) (fun v1 => Option.bind (f_X0_addClaim q x2 x3 v1.1) (fun v3 => some (v1.2, v3.2)))
noncomputable def f_X6_readClaim  (s : S6) (q : S0) : Option (S6 × S0) :=
  Option.bind (f_X6_readNumber s 0 ((g0_fleets q) - (1 : Int32))) (fun v1 => Option.bind (f_X6_readNumber v1.2 0 4) (fun v3 => Option.bind (f_X0_canClaim q v1.1 v3.1) (fun v5 => (if v5 = 0 then Option.bind (f_X6_failAt v3.2 (g6_begin v3.2)) (fun v8 => f_X6_readClaim_p36  v8 q v1.1 v3.1) else f_X6_readClaim_p36  v3.2 q v1.1 v3.1))))
abbrev rm_X6_readEnd : Room := { frames := 3, cells := 0, slots := 0, locals := 62 }
noncomputable def f_X6_readEnd  (s : S6) : Option (S6) :=
  Option.bind (f_X6_isEndNext s) (fun v1 => (if v1.1 = 0 then Option.bind (f_X6_failAt v1.2 (g6_at v1.2)) (fun v4 => some v4) else some (u6_at v1.2 ((g6_at v1.2) + (1 : Int32)))))
abbrev rm_X6_readSentence : Room := { frames := 6, cells := 0, slots := 0, locals := 147 }
noncomputable def f_X6_readSentence_p80  (s : S6) (q : S0) : Option (S6 × S0) :=
  Option.bind (f_X6_readEnd s) (fun v1 => some (v1, q))
noncomputable def f_X6_readSentence  (s : S6) (q : S0) : Option (S6 × S0) :=
  Option.bind (f_X6_readWord s q) (fun v1 => (if v1.1 = 0 then Option.bind (f_X6_readNumber v1.2 1 99) (fun v4 => f_X6_readSentence_p80  v4.2 (u0_cap q v4.1)) else (if v1.1 = 1 then Option.bind (f_X6_readNumber v1.2 0 50) (fun v7 => f_X6_readSentence_p80  v7.2 (u0_steady q v7.1)) else (if v1.1 = 2 then Option.bind (f_X6_readFleet v1.2 q) (fun v10 => f_X6_readSentence_p80  v10.1 v10.2) else (if v1.1 = 3 then Option.bind (f_X6_readClaim v1.2 q) (fun v13 => f_X6_readSentence_p80  v13.1 v13.2) else f_X6_readSentence_p80  v1.2 q)))))
abbrev rm_X6_readInto : Room := { frames := 7, cells := 0, slots := 0, locals := 168 }
noncomputable def f_X6_readInto_p20 (k20 : S6 → S0 → Int32 → Option (Int32 × S6 × S0)) (s : S6) (q : S0) (x2 : Int32) : Option (Int32 × S6 × S0) :=
  (if (g6_size s) ≤ x2 then some ((g6_fault s), s, q) else (if (g6_size s) ≤ (g6_at s) then some ((g6_fault s), s, q) else (if (g6_fault s) = (-1) then Option.bind (f_X6_readSentence s q) (fun v4 => Option.bind (f_X6_skipGaps v4.1) (fun v6 => k20 v6 v4.2 (x2 + 1))) else some ((g6_fault s), s, q))))
noncomputable def lp_X6_readInto_p20  (s : S6) (q : S0) (x2 : Int32) : Option (Int32 × S6 × S0) :=
  x_loop (fun (k : S6 × S0 × Int32 → Option (Int32 × S6 × S0)) (z : S6 × S0 × Int32) => f_X6_readInto_p20  (fun s q x2 => k (s, q, x2)) z.1 z.2.1 z.2.2) FU (s, q, x2)
noncomputable def f_X6_readInto  (s : S6) (q : S0) : Option (Int32 × S6 × S0) :=
  Option.bind (f_X0_clear q) (fun v1 => Option.bind (f_X6_skipGaps (u6_fault (u6_at s 0) (-1))) (fun v3 => lp_X6_readInto_p20  v3 v1 0))
abbrev rm_X0_copyFrom : Room := { frames := 1, cells := 0, slots := 0, locals := 18 }
noncomputable def f_X0_copyFrom  (s : S0) (q : S0) : Option (S0) :=
  Option.bind (x_cp 8 8 (g0_classes q) (g0_classes s) 0 0 8) (fun w2 => Option.bind (x_cp 8 8 (g0_years q) (g0_years s) 0 0 8) (fun w4 => Option.bind (x_cp 40 40 (g0_slips q) (g0_slips s) 0 0 40) (fun w6 => some (u0_slips (u0_years (u0_classes (u0_steady (u0_cap (u0_claims (u0_fleets s (g0_fleets q)) (g0_claims q)) (g0_cap q)) (g0_steady q)) w2) w4) w6))))
abbrev rm_X2_empty : Room := { frames := 0, cells := 0, slots := 0, locals := 0 }
noncomputable def f_X2_empty  (s : S2) : Option (S2) :=
  some (u2_kept s 0)
abbrev rm_X7_text : Room := { frames := 8, cells := 0, slots := 0, locals := 190 }
noncomputable def f_X7_text  (s : S7) : Option (Int32 × S7) :=
  Option.bind (f_X6_readInto (g7_tape s) (g7_trial s)) (fun v1 => Option.bind (f_X6_size v1.2.1) (fun v3 => Option.bind (f_X6_dropLast v1.2.1 v3) (fun v5 => (if v1.1 = (-1) then Option.bind (f_X0_copyFrom (g7_book s) v1.2.2) (fun v8 => Option.bind (f_X2_empty (g7_past s)) (fun v10 => some ((g0_fleets v8), (u7_past (u7_book (u7_tape (u7_trial s v1.2.2) v5) v8) v10)))) else some (((-4 : Int32) - v1.1), (u7_tape (u7_trial s v1.2.2) v5))))))
abbrev rm_X7_isClass : Room := { frames := 0, cells := 0, slots := 0, locals := 0 }
noncomputable def f_X7_isClass  (x0 : Int32) : Option (Int32) :=
  (if x0 < 0 then some 0 else (if 3 ≤ x0 then some 0 else some 1))
abbrev rm_X0_saveTo : Room := { frames := 1, cells := 0, slots := 0, locals := 18 }
noncomputable def f_X0_saveTo  (s : S0) (q : (Nat → Int32)) (x2 : Int32) : Option ((Nat → Int32)) :=
  (if x2 < 0 then some q else (if x2 ≤ ((720 : Int32) - (60 : Int32)) then Option.bind (x_wr 720 q x2 (g0_fleets s)) (fun w4 => Option.bind (x_wr 720 w4 (x2 + (1 : Int32)) (g0_claims s)) (fun w6 => Option.bind (x_wr 720 w6 (x2 + (2 : Int32)) (g0_cap s)) (fun w8 => Option.bind (x_wr 720 w8 (x2 + (3 : Int32)) (g0_steady s)) (fun w10 => Option.bind (x_cp 8 720 (g0_classes s) w10 0 (x2 + (4 : Int32)) 8) (fun w12 => Option.bind (x_cp 8 720 (g0_years s) w12 0 ((x2 + (4 : Int32)) + (8 : Int32)) 8) (fun w14 => Option.bind (x_cp 40 720 (g0_slips s) w14 0 ((x2 + (4 : Int32)) + (16 : Int32)) 40) (fun w16 => some w16))))))) else some q))
abbrev rm_X2_keep : Room := { frames := 2, cells := 0, slots := 0, locals := 40 }
noncomputable def f_X2_keep  (s : S2) (q : S0) : Option (S2) :=
  Option.bind (f_X0_saveTo q (g2_rows s) ((g2_next s) * (60 : Int32))) (fun v1 => some (u2_kept (u2_next (u2_rows s v1) (((g2_next s) + (1 : Int32)) - ((g2_next s) + (1 : Int32)) / 12 * 12)) (if 12 < ((g2_kept s) + (1 : Int32)) then 12 else ((g2_kept s) + (1 : Int32)))))
abbrev rm_X7_fleet : Room := { frames := 3, cells := 0, slots := 0, locals := 65 }
noncomputable def f_X7_fleet  (s : S7) (x1 : Int32) (x2 : Int32) : Option (Int32 × S7) :=
  Option.bind (f_X7_isClass x1) (fun v1 => (if v1 = 0 then some ((-1), s) else (if x2 < 0 then some ((-1), s) else (if 31 < x2 then some ((-1), s) else (if (g0_fleets (g7_book s)) < 8 then Option.bind (f_X2_keep (g7_past s) (g7_book s)) (fun v7 => Option.bind (f_X0_addFleet (g7_book s) x1 x2) (fun v9 => some (v9.1, (u7_book (u7_past s v7) v9.2)))) else some ((-1), s))))))
abbrev rm_X0_fleetOf : Room := { frames := 1, cells := 0, slots := 0, locals := 21 }
noncomputable def f_X0_fleetOf  (s : S0) (x1 : Int32) : Option (Int32) :=
  Option.bind (f_X0_hasClaim s x1) (fun v1 => (if v1 = 0 then some (-1) else Option.bind (x_rd 40 (g0_slips s) x1) (fun v5 => some (v5 >>> ((10 : Int32) &&& 31)))))
abbrev rm_X0_yearOf : Room := { frames := 1, cells := 0, slots := 0, locals := 21 }
noncomputable def f_X0_yearOf  (s : S0) (x1 : Int32) : Option (Int32) :=
  Option.bind (f_X0_hasClaim s x1) (fun v1 => (if v1 = 0 then some (-1) else Option.bind (x_rd 40 (g0_slips s) x1) (fun v5 => some ((v5 >>> ((7 : Int32) &&& 31)) &&& (7 : Int32)))))
abbrev rm_X0_amountOf : Room := { frames := 1, cells := 0, slots := 0, locals := 21 }
noncomputable def f_X0_amountOf  (s : S0) (x1 : Int32) : Option (Int32) :=
  Option.bind (f_X0_hasClaim s x1) (fun v1 => (if v1 = 0 then some 0 else Option.bind (x_rd 40 (g0_slips s) x1) (fun v5 => some (v5 &&& (127 : Int32)))))
abbrev rm_X0_dropClaimsOf : Room := { frames := 2, cells := 0, slots := 0, locals := 45 }
noncomputable def f_X0_dropClaimsOf_p11 (k11 : S0 → Int32 → Int32 → Int32 → Int32 → Int32 → Option (Int32 × S0)) (s : S0) (x1 : Int32) (x2 : Int32) (x3 : Int32) (x4 : Int32) (x5 : Int32) : Option (Int32 × S0) :=
  (if x3 ≤ x5 then some ((x3 - x4), (u0_claims s x4)) else Option.bind (f_X0_isOf s x5 x1 x2) (fun v2 => (if v2 = 0 then Option.bind (f_X0_fleetOf s x5) (fun v5 => Option.bind (f_X0_yearOf s x5) (fun v7 => Option.bind (f_X0_amountOf s x5) (fun v9 => Option.bind (f_X0_putClaim s x4 v5 v7 v9) (fun v11 => k11 v11 x1 x2 x3 (x4 + 1) (x5 + 1))))) else k11 s x1 x2 x3 x4 (x5 + 1))))
noncomputable def lp_X0_dropClaimsOf_p11  (s : S0) (x1 : Int32) (x2 : Int32) (x3 : Int32) (x4 : Int32) (x5 : Int32) : Option (Int32 × S0) :=
  x_loop (fun (k : S0 × Int32 × Int32 × Int32 × Int32 × Int32 → Option (Int32 × S0)) (z : S0 × Int32 × Int32 × Int32 × Int32 × Int32) => f_X0_dropClaimsOf_p11  (fun s x1 x2 x3 x4 x5 => k (s, x1, x2, x3, x4, x5)) z.1 z.2.1 z.2.2.1 z.2.2.2.1 z.2.2.2.2.1 z.2.2.2.2.2) FU (s, x1, x2, x3, x4, x5)
noncomputable def f_X0_dropClaimsOf  (s : S0) (x1 : Int32) (x2 : Int32) : Option (Int32 × S0) :=
  lp_X0_dropClaimsOf_p11  s x1 x2 (g0_claims s) 0 0
abbrev rm_X0_classOf : Room := { frames := 1, cells := 0, slots := 0, locals := 21 }
noncomputable def f_X0_classOf  (s : S0) (x1 : Int32) : Option (Int32) :=
  Option.bind (f_X0_hasFleet s x1) (fun v1 => (if v1 = 0 then some (-1) else Option.bind (x_rd 8 (g0_classes s) x1) (fun v5 => some v5)))
abbrev rm_X0_yearsOf : Room := { frames := 1, cells := 0, slots := 0, locals := 21 }
noncomputable def f_X0_yearsOf  (s : S0) (x1 : Int32) : Option (Int32) :=
  Option.bind (f_X0_hasFleet s x1) (fun v1 => (if v1 = 0 then some 0 else Option.bind (x_rd 8 (g0_years s) x1) (fun v5 => some v5)))
abbrev rm_X0_putFleet : Room := { frames := 2, cells := 0, slots := 0, locals := 45 }
noncomputable def f_X0_putFleet  (s : S0) (x1 : Int32) (x2 : Int32) : Option (S0) :=
  Option.bind (f_X0_yearOf s x1) (fun v1 => Option.bind (f_X0_amountOf s x1) (fun v3 => Option.bind (f_X0_putClaim s x1 x2 v1 v3) (fun v5 => some v5)))
abbrev rm_X0_closeGapAt : Room := { frames := 3, cells := 0, slots := 0, locals := 67 }
noncomputable def f_X0_closeGapAt_p54 (k54 : S0 → Int32 → Int32 → Option (S0)) (s : S0) (x1 : Int32) (x2 : Int32) : Option (S0) :=
  (if (g0_claims s) ≤ x2 then some s else Option.bind (f_X0_fleetOf s x2) (fun v2 => (if v2 ≤ x1 then k54 s x1 (x2 + 1) else Option.bind (f_X0_fleetOf s x2) (fun v5 => Option.bind (f_X0_putFleet s x2 (v5 - (1 : Int32))) (fun v7 => k54 v7 x1 (x2 + 1))))))
noncomputable def lp_X0_closeGapAt_p54  (s : S0) (x1 : Int32) (x2 : Int32) : Option (S0) :=
  x_loop (fun (k : S0 × Int32 × Int32 → Option (S0)) (z : S0 × Int32 × Int32) => f_X0_closeGapAt_p54  (fun s x1 x2 => k (s, x1, x2)) z.1 z.2.1 z.2.2) FU (s, x1, x2)
noncomputable def f_X0_closeGapAt_p4 (k4 : S0 → Int32 → Int32 → Option (S0)) (s : S0) (x1 : Int32) (x2 : Int32) : Option (S0) :=
  (if (g0_fleets s) ≤ x2 then lp_X0_closeGapAt_p54  (u0_fleets s ((g0_fleets s) - (1 : Int32))) x1 0 else Option.bind (f_X0_classOf s x2) (fun v2 => Option.bind (f_X0_putClass s (x2 - (1 : Int32)) v2) (fun v4 => Option.bind (f_X0_yearsOf v4 x2) (fun v6 => Option.bind (f_X0_putYears v4 (x2 - (1 : Int32)) v6) (fun v8 => k4 v8 x1 (x2 + 1))))))
noncomputable def lp_X0_closeGapAt_p4  (s : S0) (x1 : Int32) (x2 : Int32) : Option (S0) :=
  x_loop (fun (k : S0 × Int32 × Int32 → Option (S0)) (z : S0 × Int32 × Int32) => f_X0_closeGapAt_p4  (fun s x1 x2 => k (s, x1, x2)) z.1 z.2.1 z.2.2) FU (s, x1, x2)
noncomputable def f_X0_closeGapAt  (s : S0) (x1 : Int32) : Option (S0) :=
  lp_X0_closeGapAt_p4  s x1 (x1 + (1 : Int32))
abbrev rm_X0_dropFleet : Room := { frames := 4, cells := 0, slots := 0, locals := 89 }
noncomputable def f_X0_dropFleet  (s : S0) (x1 : Int32) : Option (S0) :=
  Option.bind (f_X0_hasFleet s x1) (fun v1 => (if v1 = 0 then some s else Option.bind (f_X0_dropClaimsOf s x1 31) (fun v4 => Option.bind (f_X0_closeGapAt v4.2 x1) (fun v6 => some v6))))
abbrev rm_X7_leave : Room := { frames := 5, cells := 0, slots := 0, locals := 110 }
noncomputable def f_X7_leave  (s : S7) (x1 : Int32) : Option (Int32 × S7) :=
  Option.bind (f_X0_hasFleet (g7_book s) x1) (fun v1 => (if v1 = 0 then some (0, s) else Option.bind (f_X2_keep (g7_past s) (g7_book s)) (fun v4 => Option.bind (f_X0_dropFleet (g7_book s) x1) (fun v6 => some (1, (u7_book (u7_past s v4) v6))))))
abbrev rm_X7_move : Room := { frames := 3, cells := 0, slots := 0, locals := 61 }
noncomputable def f_X7_move  (s : S7) (x1 : Int32) (x2 : Int32) : Option (Int32 × S7) :=
  Option.bind (f_X0_hasFleet (g7_book s) x1) (fun v1 => (if v1 = 0 then some ((-1), s) else Option.bind (f_X7_isClass x2) (fun v4 => (if v4 = 0 then some ((-1), s) else Option.bind (f_X0_classOf (g7_book s) x1) (fun v7 => (if v7 = x2 then some ((-1), s) else Option.bind (f_X2_keep (g7_past s) (g7_book s)) (fun v10 => Option.bind (f_X0_classOf (g7_book s) x1) (fun v12 => Option.bind (f_X0_putClass (g7_book s) x1 x2) (fun v14 => some (v12, (u7_book (u7_past s v10) v14)))))))))))
abbrev rm_J6_bitCount_0f7a4 : Room := { frames := 0, cells := 0, slots := 0, locals := 0 }
noncomputable def f_J6_bitCount_0f7a4  (x0 : Int32) : Option (Int32) :=
  some ((((((((x0 - ((((Int32.toUInt32 x0) >>> ((Int32.toUInt32 1) &&& Int32.toUInt32 31)).toInt32) &&& (1431655765 : Int32))) &&& (858993459 : Int32)) + ((((Int32.toUInt32 (x0 - ((((Int32.toUInt32 x0) >>> ((Int32.toUInt32 1) &&& Int32.toUInt32 31)).toInt32) &&& (1431655765 : Int32)))) >>> ((Int32.toUInt32 2) &&& Int32.toUInt32 31)).toInt32) &&& (858993459 : Int32))) + (((Int32.toUInt32 (((x0 - ((((Int32.toUInt32 x0) >>> ((Int32.toUInt32 1) &&& Int32.toUInt32 31)).toInt32) &&& (1431655765 : Int32))) &&& (858993459 : Int32)) + ((((Int32.toUInt32 (x0 - ((((Int32.toUInt32 x0) >>> ((Int32.toUInt32 1) &&& Int32.toUInt32 31)).toInt32) &&& (1431655765 : Int32)))) >>> ((Int32.toUInt32 2) &&& Int32.toUInt32 31)).toInt32) &&& (858993459 : Int32)))) >>> ((Int32.toUInt32 4) &&& Int32.toUInt32 31)).toInt32)) &&& (252645135 : Int32)) + (((Int32.toUInt32 (((((x0 - ((((Int32.toUInt32 x0) >>> ((Int32.toUInt32 1) &&& Int32.toUInt32 31)).toInt32) &&& (1431655765 : Int32))) &&& (858993459 : Int32)) + ((((Int32.toUInt32 (x0 - ((((Int32.toUInt32 x0) >>> ((Int32.toUInt32 1) &&& Int32.toUInt32 31)).toInt32) &&& (1431655765 : Int32)))) >>> ((Int32.toUInt32 2) &&& Int32.toUInt32 31)).toInt32) &&& (858993459 : Int32))) + (((Int32.toUInt32 (((x0 - ((((Int32.toUInt32 x0) >>> ((Int32.toUInt32 1) &&& Int32.toUInt32 31)).toInt32) &&& (1431655765 : Int32))) &&& (858993459 : Int32)) + ((((Int32.toUInt32 (x0 - ((((Int32.toUInt32 x0) >>> ((Int32.toUInt32 1) &&& Int32.toUInt32 31)).toInt32) &&& (1431655765 : Int32)))) >>> ((Int32.toUInt32 2) &&& Int32.toUInt32 31)).toInt32) &&& (858993459 : Int32)))) >>> ((Int32.toUInt32 4) &&& Int32.toUInt32 31)).toInt32)) &&& (252645135 : Int32))) >>> ((Int32.toUInt32 8) &&& Int32.toUInt32 31)).toInt32)) + (((Int32.toUInt32 ((((((x0 - ((((Int32.toUInt32 x0) >>> ((Int32.toUInt32 1) &&& Int32.toUInt32 31)).toInt32) &&& (1431655765 : Int32))) &&& (858993459 : Int32)) + ((((Int32.toUInt32 (x0 - ((((Int32.toUInt32 x0) >>> ((Int32.toUInt32 1) &&& Int32.toUInt32 31)).toInt32) &&& (1431655765 : Int32)))) >>> ((Int32.toUInt32 2) &&& Int32.toUInt32 31)).toInt32) &&& (858993459 : Int32))) + (((Int32.toUInt32 (((x0 - ((((Int32.toUInt32 x0) >>> ((Int32.toUInt32 1) &&& Int32.toUInt32 31)).toInt32) &&& (1431655765 : Int32))) &&& (858993459 : Int32)) + ((((Int32.toUInt32 (x0 - ((((Int32.toUInt32 x0) >>> ((Int32.toUInt32 1) &&& Int32.toUInt32 31)).toInt32) &&& (1431655765 : Int32)))) >>> ((Int32.toUInt32 2) &&& Int32.toUInt32 31)).toInt32) &&& (858993459 : Int32)))) >>> ((Int32.toUInt32 4) &&& Int32.toUInt32 31)).toInt32)) &&& (252645135 : Int32)) + (((Int32.toUInt32 (((((x0 - ((((Int32.toUInt32 x0) >>> ((Int32.toUInt32 1) &&& Int32.toUInt32 31)).toInt32) &&& (1431655765 : Int32))) &&& (858993459 : Int32)) + ((((Int32.toUInt32 (x0 - ((((Int32.toUInt32 x0) >>> ((Int32.toUInt32 1) &&& Int32.toUInt32 31)).toInt32) &&& (1431655765 : Int32)))) >>> ((Int32.toUInt32 2) &&& Int32.toUInt32 31)).toInt32) &&& (858993459 : Int32))) + (((Int32.toUInt32 (((x0 - ((((Int32.toUInt32 x0) >>> ((Int32.toUInt32 1) &&& Int32.toUInt32 31)).toInt32) &&& (1431655765 : Int32))) &&& (858993459 : Int32)) + ((((Int32.toUInt32 (x0 - ((((Int32.toUInt32 x0) >>> ((Int32.toUInt32 1) &&& Int32.toUInt32 31)).toInt32) &&& (1431655765 : Int32)))) >>> ((Int32.toUInt32 2) &&& Int32.toUInt32 31)).toInt32) &&& (858993459 : Int32)))) >>> ((Int32.toUInt32 4) &&& Int32.toUInt32 31)).toInt32)) &&& (252645135 : Int32))) >>> ((Int32.toUInt32 8) &&& Int32.toUInt32 31)).toInt32))) >>> ((Int32.toUInt32 16) &&& Int32.toUInt32 31)).toInt32)) &&& (63 : Int32))
abbrev rm_X7_insure : Room := { frames := 3, cells := 0, slots := 0, locals := 61 }
noncomputable def f_X7_insure  (s : S7) (x1 : Int32) (x2 : Int32) : Option (Int32 × S7) :=
  Option.bind (f_X0_hasFleet (g7_book s) x1) (fun v1 => (if v1 = 0 then some ((-1), s) else Option.bind (f_X7_isYear x2) (fun v4 => (if v4 = 0 then some ((-1), s) else Option.bind (f_X0_isInsured (g7_book s) x1 x2) (fun v7 => (if v7 = 0 then Option.bind (f_X2_keep (g7_past s) (g7_book s)) (fun v10 => Option.bind (f_X0_yearsOf (g7_book s) x1) (fun v12 => Option.bind (f_X0_putYears (g7_book s) x1 (v12 ||| ((1 : Int32) <<< (x2 &&& 31)))) (fun v14 => Option.bind (f_X0_yearsOf v14 x1) (fun v16 => Option.bind (f_J6_bitCount_0f7a4 v16) (fun v18 => some (v18, (u7_book (u7_past s v10) v14))))))) else some ((-1), s)))))))
abbrev rm_X0_endYears : Room := { frames := 3, cells := 0, slots := 0, locals := 70 }
noncomputable def f_X0_endYears  (s : S0) (x1 : Int32) (x2 : Int32) : Option (Int32 × S0) :=
  Option.bind (f_X0_yearsOf s x1) (fun v1 => Option.bind (f_X0_putYears s x1 (v1 &&& (x2 ^^^ (-1 : Int32)))) (fun v3 => Option.bind (f_X0_dropClaimsOf v3 x1 x2) (fun v5 => some (v5.1, v5.2))))
abbrev rm_X7_lapse : Room := { frames := 4, cells := 0, slots := 0, locals := 92 }
noncomputable def f_X7_lapse  (s : S7) (x1 : Int32) (x2 : Int32) : Option (Int32 × S7) :=
  Option.bind (f_X0_hasFleet (g7_book s) x1) (fun v1 => (if v1 = 0 then some ((-1), s) else Option.bind (f_X7_isYear x2) (fun v4 => (if v4 = 0 then some ((-1), s) else Option.bind (f_X0_isInsured (g7_book s) x1 x2) (fun v7 => (if v7 = 0 then some ((-1), s) else Option.bind (f_X2_keep (g7_past s) (g7_book s)) (fun v10 => Option.bind (f_X0_endYears (g7_book s) x1 ((1 : Int32) <<< (x2 &&& 31))) (fun v12 => some (v12.1, (u7_book (u7_past s v10) v12.2))))))))))
abbrev rm_X0_countInsured : Room := { frames := 2, cells := 0, slots := 0, locals := 43 }
noncomputable def f_X0_countInsured_p4 (k4 : S0 → Int32 → Int32 → Int32 → Option (Int32)) (s : S0) (x1 : Int32) (x2 : Int32) (x3 : Int32) : Option (Int32) :=
  (if (g0_fleets s) ≤ x3 then some x2 else Option.bind (f_X0_isInsured s x3 x1) (fun v2 => (if v2 = 0 then k4 s x1 x2 (x3 + 1) else k4 s x1 (x2 + 1) (x3 + 1))))
noncomputable def lp_X0_countInsured_p4  (s : S0) (x1 : Int32) (x2 : Int32) (x3 : Int32) : Option (Int32) :=
  x_loop (fun (k : S0 × Int32 × Int32 × Int32 → Option (Int32)) (z : S0 × Int32 × Int32 × Int32) => f_X0_countInsured_p4  (fun s x1 x2 x3 => k (s, x1, x2, x3)) z.1 z.2.1 z.2.2.1 z.2.2.2) FU (s, x1, x2, x3)
noncomputable def f_X0_countInsured  (s : S0) (x1 : Int32) : Option (Int32) :=
  lp_X0_countInsured_p4  s x1 0 0
abbrev rm_X0_endYearsOfAll : Room := { frames := 4, cells := 0, slots := 0, locals := 92 }
noncomputable def f_X0_endYearsOfAll_p2 (k2 : S0 → Int32 → Int32 → Option (S0)) (s : S0) (x1 : Int32) (x2 : Int32) : Option (S0) :=
  (if (g0_fleets s) ≤ x2 then some s else Option.bind (f_X0_endYears s x2 x1) (fun v2 => k2 v2.2 x1 (x2 + 1)))
noncomputable def lp_X0_endYearsOfAll_p2  (s : S0) (x1 : Int32) (x2 : Int32) : Option (S0) :=
  x_loop (fun (k : S0 × Int32 × Int32 → Option (S0)) (z : S0 × Int32 × Int32) => f_X0_endYearsOfAll_p2  (fun s x1 x2 => k (s, x1, x2)) z.1 z.2.1 z.2.2) FU (s, x1, x2)
noncomputable def f_X0_endYearsOfAll  (s : S0) (x1 : Int32) : Option (S0) :=
  lp_X0_endYearsOfAll_p2  s x1 0
abbrev rm_X7_forget : Room := { frames := 5, cells := 0, slots := 0, locals := 114 }
noncomputable def f_X7_forget  (s : S7) (x1 : Int32) : Option (Int32 × S7) :=
  Option.bind (f_X7_isYear x1) (fun v1 => (if v1 = 0 then some ((-1), s) else Option.bind (f_X0_countInsured (g7_book s) x1) (fun v4 => (if v4 = 0 then some ((-1), s) else Option.bind (f_X2_keep (g7_past s) (g7_book s)) (fun v7 => Option.bind (f_X0_countInsured (g7_book s) x1) (fun v9 => Option.bind (f_X0_endYearsOfAll (g7_book s) ((1 : Int32) <<< (x1 &&& 31))) (fun v11 => some (v9, (u7_book (u7_past s v7) v11)))))))))
abbrev rm_X7_isAmount : Room := { frames := 0, cells := 0, slots := 0, locals := 0 }
noncomputable def f_X7_isAmount  (x0 : Int32) : Option (Int32) :=
  (if x0 < 1 then some 0 else (if 99 < x0 then some 0 else some 1))
abbrev rm_X7_claim : Room := { frames := 3, cells := 0, slots := 0, locals := 68 }
noncomputable def f_X7_claim  (s : S7) (x1 : Int32) (x2 : Int32) (x3 : Int32) : Option (Int32 × S7) :=
  Option.bind (f_X0_hasFleet (g7_book s) x1) (fun v1 => (if v1 = 0 then some ((-1), s) else Option.bind (f_X7_isYear x2) (fun v4 => (if v4 = 0 then some ((-1), s) else Option.bind (f_X7_isAmount x3) (fun v7 => (if v7 = 0 then some ((-1), s) else Option.bind (f_X0_canClaim (g7_book s) x1 x2) (fun v10 => (if v10 = 0 then some ((-1), s) else Option.bind (f_X2_keep (g7_past s) (g7_book s)) (fun v13 => Option.bind (f_X0_addClaim (g7_book s) x1 x2 x3) (fun v15 => some (v15.1, (u7_book (u7_past s v13) v15.2))))))))))))
abbrev rm_X0_dropClaim : Room := { frames := 1, cells := 0, slots := 0, locals := 21 }
noncomputable def f_X0_dropClaim  (s : S0) (x1 : Int32) : Option (S0) :=
  Option.bind (f_X0_hasClaim s x1) (fun v1 => (if v1 = 0 then some s else Option.bind (x_cp 40 40 (g0_slips s) (g0_slips s) (x1 + (1 : Int32)) x1 (((g0_claims s) - x1) - (1 : Int32))) (fun w5 => some (u0_claims (u0_slips s w5) ((g0_claims s) - (1 : Int32))))))
abbrev rm_X7_waive : Room := { frames := 3, cells := 0, slots := 0, locals := 61 }
noncomputable def f_X7_waive  (s : S7) (x1 : Int32) : Option (Int32 × S7) :=
  Option.bind (f_X0_hasClaim (g7_book s) x1) (fun v1 => (if v1 = 0 then some (0, s) else Option.bind (f_X2_keep (g7_past s) (g7_book s)) (fun v4 => Option.bind (f_X0_dropClaim (g7_book s) x1) (fun v6 => some (1, (u7_book (u7_past s v4) v6))))))
abbrev rm_X0_putAmount : Room := { frames := 2, cells := 0, slots := 0, locals := 45 }
noncomputable def f_X0_putAmount  (s : S0) (x1 : Int32) (x2 : Int32) : Option (S0) :=
  Option.bind (f_X0_fleetOf s x1) (fun v1 => Option.bind (f_X0_yearOf s x1) (fun v3 => Option.bind (f_X0_putClaim s x1 v1 v3 x2) (fun v5 => some v5)))
abbrev rm_X7_amend : Room := { frames := 3, cells := 0, slots := 0, locals := 67 }
noncomputable def f_X7_amend  (s : S7) (x1 : Int32) (x2 : Int32) : Option (Int32 × S7) :=
  Option.bind (f_X0_hasClaim (g7_book s) x1) (fun v1 => (if v1 = 0 then some ((-1), s) else Option.bind (f_X7_isAmount x2) (fun v4 => (if v4 = 0 then some ((-1), s) else Option.bind (f_X0_amountOf (g7_book s) x1) (fun v7 => (if v7 = x2 then some ((-1), s) else Option.bind (f_X2_keep (g7_past s) (g7_book s)) (fun v10 => Option.bind (f_X0_amountOf (g7_book s) x1) (fun v12 => Option.bind (f_X0_putAmount (g7_book s) x1 x2) (fun v14 => some (v12, (u7_book (u7_past s v10) v14)))))))))))
abbrev rm_X0_fleetsIn : Room := { frames := 2, cells := 0, slots := 0, locals := 42 }
noncomputable def f_X0_fleetsIn_p4 (k4 : S0 → Int32 → Int32 → Int32 → Option (Int32)) (s : S0) (x1 : Int32) (x2 : Int32) (x3 : Int32) : Option (Int32) :=
  (if (g0_fleets s) ≤ x3 then some x2 else Option.bind (f_X0_classOf s x3) (fun v2 => (if v2 = x1 then k4 s x1 (x2 ||| ((1 : Int32) <<< (x3 &&& 31))) (x3 + 1) else k4 s x1 x2 (x3 + 1))))
noncomputable def lp_X0_fleetsIn_p4  (s : S0) (x1 : Int32) (x2 : Int32) (x3 : Int32) : Option (Int32) :=
  x_loop (fun (k : S0 × Int32 × Int32 × Int32 → Option (Int32)) (z : S0 × Int32 × Int32 × Int32) => f_X0_fleetsIn_p4  (fun s x1 x2 x3 => k (s, x1, x2, x3)) z.1 z.2.1 z.2.2.1 z.2.2.2) FU (s, x1, x2, x3)
noncomputable def f_X0_fleetsIn  (s : S0) (x1 : Int32) : Option (Int32) :=
  lp_X0_fleetsIn_p4  s x1 0 0
abbrev rm_X0_moveAll : Room := { frames := 2, cells := 0, slots := 0, locals := 43 }
noncomputable def f_X0_moveAll_p5 (k5 : S0 → Int32 → Int32 → Int32 → Int32 → Option (Int32 × S0)) (s : S0) (x1 : Int32) (x2 : Int32) (x3 : Int32) (x4 : Int32) : Option (Int32 × S0) :=
  (if (g0_fleets s) ≤ x4 then some (x3, s) else Option.bind (f_X0_classOf s x4) (fun v2 => (if v2 = x1 then Option.bind (f_X0_putClass s x4 x2) (fun v5 => k5 v5 x1 x2 (x3 + 1) (x4 + 1)) else k5 s x1 x2 x3 (x4 + 1))))
noncomputable def lp_X0_moveAll_p5  (s : S0) (x1 : Int32) (x2 : Int32) (x3 : Int32) (x4 : Int32) : Option (Int32 × S0) :=
  x_loop (fun (k : S0 × Int32 × Int32 × Int32 × Int32 → Option (Int32 × S0)) (z : S0 × Int32 × Int32 × Int32 × Int32) => f_X0_moveAll_p5  (fun s x1 x2 x3 x4 => k (s, x1, x2, x3, x4)) z.1 z.2.1 z.2.2.1 z.2.2.2.1 z.2.2.2.2) FU (s, x1, x2, x3, x4)
noncomputable def f_X0_moveAll  (s : S0) (x1 : Int32) (x2 : Int32) : Option (Int32 × S0) :=
  lp_X0_moveAll_p5  s x1 x2 0 0
abbrev rm_X7_join : Room := { frames := 3, cells := 0, slots := 0, locals := 67 }
noncomputable def f_X7_join  (s : S7) (x1 : Int32) (x2 : Int32) : Option (Int32 × S7) :=
  Option.bind (f_X7_isClass x1) (fun v1 => (if v1 = 0 then some ((-1), s) else Option.bind (f_X7_isClass x2) (fun v4 => (if v4 = 0 then some ((-1), s) else (if x1 = x2 then some ((-1), s) else Option.bind (f_X0_fleetsIn (g7_book s) x1) (fun v8 => (if v8 = 0 then some ((-1), s) else Option.bind (f_X2_keep (g7_past s) (g7_book s)) (fun v11 => Option.bind (f_X0_moveAll (g7_book s) x1 x2) (fun v13 => some (v13.1, (u7_book (u7_past s v11) v13.2)))))))))))
abbrev rm_X0_exchange : Room := { frames := 3, cells := 0, slots := 0, locals := 67 }
noncomputable def f_X0_exchange_p49 (k49 : S0 → Int32 → Int32 → Int32 → Option (S0)) (s : S0) (x1 : Int32) (x2 : Int32) (x5 : Int32) : Option (S0) :=
  (if (g0_claims s) ≤ x5 then some s else Option.bind (f_X0_fleetOf s x5) (fun v2 => (if v2 = x1 then Option.bind (f_X0_putFleet s x5 x2) (fun v10 => k49 v10 x1 x2 (x5 + 1)) else Option.bind (f_X0_fleetOf s x5) (fun v5 => (if v5 = x2 then Option.bind (f_X0_putFleet s x5 x1) (fun v8 => k49 v8 x1 x2 (x5 + 1)) else k49 s x1 x2 (x5 + 1))))))
noncomputable def lp_X0_exchange_p49  (s : S0) (x1 : Int32) (x2 : Int32) (x5 : Int32) : Option (S0) :=
  x_loop (fun (k : S0 × Int32 × Int32 × Int32 → Option (S0)) (z : S0 × Int32 × Int32 × Int32) => f_X0_exchange_p49  (fun s x1 x2 x5 => k (s, x1, x2, x5)) z.1 z.2.1 z.2.2.1 z.2.2.2) FU (s, x1, x2, x5)
noncomputable def f_X0_exchange  (s : S0) (x1 : Int32) (x2 : Int32) : Option (S0) :=
  Option.bind (f_X0_classOf s x1) (fun v1 => Option.bind (f_X0_yearsOf s x1) (fun v3 => Option.bind (f_X0_classOf s x2) (fun v5 => Option.bind (f_X0_putClass s x1 v5) (fun v7 => Option.bind (f_X0_yearsOf v7 x2) (fun v9 => Option.bind (f_X0_putYears v7 x1 v9) (fun v11 => Option.bind (f_X0_putClass v11 x2 v1) (fun v13 => Option.bind (f_X0_putYears v13 x2 v3) (fun v15 => lp_X0_exchange_p49  v15 x1 x2 0))))))))
abbrev rm_X7_swap : Room := { frames := 4, cells := 0, slots := 0, locals := 92 }
noncomputable def f_X7_swap  (s : S7) (x1 : Int32) (x2 : Int32) : Option (Int32 × S7) :=
  Option.bind (f_X0_hasFleet (g7_book s) x1) (fun v1 => (if v1 = 0 then some (0, s) else Option.bind (f_X0_hasFleet (g7_book s) x2) (fun v4 => (if v4 = 0 then some (0, s) else (if x1 = x2 then some (0, s) else Option.bind (f_X2_keep (g7_past s) (g7_book s)) (fun v8 => Option.bind (f_X0_exchange (g7_book s) x1 x2) (fun v10 => some (1, (u7_book (u7_past s v8) v10)))))))))
abbrev rm_X0_scaleAmounts : Room := { frames := 3, cells := 0, slots := 0, locals := 67 }
noncomputable def f_X0_scaleAmounts_p5 (k5 : S0 → Int32 → Int32 → Int32 → Int32 → Option (Int32 × S0)) (s : S0) (x1 : Int32) (x2 : Int32) (x3 : Int32) (x4 : Int32) : Option (Int32 × S0) :=
  (if (g0_claims s) ≤ x4 then some (x3, s) else Option.bind (f_X0_fleetOf s x4) (fun v2 => (if v2 = x1 then Option.bind (f_X0_amountOf s x4) (fun v5 => Option.bind (f_X0_putAmount s x4 (if 1 < (if ((v5 * x2) / 100) < 99 then ((v5 * x2) / 100) else 99) then (if ((v5 * x2) / 100) < 99 then ((v5 * x2) / 100) else 99) else 1)) (fun v7 => Option.bind (f_X0_amountOf v7 x4) (fun v9 => (if v9 = v5 then k5 v7 x1 x2 (x3 + (0 : Int32)) (x4 + 1) else k5 v7 x1 x2 (x3 + (1 : Int32)) (x4 + 1))))) else k5 s x1 x2 x3 (x4 + 1))))
noncomputable def lp_X0_scaleAmounts_p5  (s : S0) (x1 : Int32) (x2 : Int32) (x3 : Int32) (x4 : Int32) : Option (Int32 × S0) :=
  x_loop (fun (k : S0 × Int32 × Int32 × Int32 × Int32 → Option (Int32 × S0)) (z : S0 × Int32 × Int32 × Int32 × Int32) => f_X0_scaleAmounts_p5  (fun s x1 x2 x3 x4 => k (s, x1, x2, x3, x4)) z.1 z.2.1 z.2.2.1 z.2.2.2.1 z.2.2.2.2) FU (s, x1, x2, x3, x4)
noncomputable def f_X0_scaleAmounts  (s : S0) (x1 : Int32) (x2 : Int32) : Option (Int32 × S0) :=
  lp_X0_scaleAmounts_p5  s x1 x2 0 0
abbrev rm_X7_scale : Room := { frames := 4, cells := 0, slots := 0, locals := 92 }
noncomputable def f_X7_scale  (s : S7) (x1 : Int32) (x2 : Int32) : Option (Int32 × S7) :=
  Option.bind (f_X0_hasFleet (g7_book s) x1) (fun v1 => (if v1 = 0 then some ((-1), s) else (if x2 < 1 then some ((-1), s) else (if x2 ≤ 900 then Option.bind (f_X0_copyFrom (g7_trial s) (g7_book s)) (fun v6 => Option.bind (f_X0_scaleAmounts v6 x1 x2) (fun v8 => (if v8.1 = 0 then some ((-1), (u7_trial s v8.2)) else Option.bind (f_X2_keep (g7_past s) (g7_book s)) (fun v11 => Option.bind (f_X0_copyFrom (g7_book s) v8.2) (fun v13 => some (v8.1, (u7_book (u7_past (u7_trial s v8.2) v11) v13))))))) else some ((-1), s)))))
abbrev rm_X0_handOver : Room := { frames := 3, cells := 0, slots := 0, locals := 67 }
noncomputable def f_X0_handOver_p3 (k3 : S0 → Int32 → Int32 → Int32 → Int32 → Option (S0)) (s : S0) (x1 : Int32) (x2 : Int32) (x3 : Int32) (x4 : Int32) : Option (S0) :=
  (if (g0_claims s) ≤ x4 then some s else Option.bind (f_X0_isOf s x4 x1 x2) (fun v2 => (if v2 = 0 then k3 s x1 x2 x3 (x4 + 1) else Option.bind (f_X0_putFleet s x4 x3) (fun v5 => k3 v5 x1 x2 x3 (x4 + 1)))))
noncomputable def lp_X0_handOver_p3  (s : S0) (x1 : Int32) (x2 : Int32) (x3 : Int32) (x4 : Int32) : Option (S0) :=
  x_loop (fun (k : S0 × Int32 × Int32 × Int32 × Int32 → Option (S0)) (z : S0 × Int32 × Int32 × Int32 × Int32) => f_X0_handOver_p3  (fun s x1 x2 x3 x4 => k (s, x1, x2, x3, x4)) z.1 z.2.1 z.2.2.1 z.2.2.2.1 z.2.2.2.2) FU (s, x1, x2, x3, x4)
noncomputable def f_X0_handOver  (s : S0) (x1 : Int32) (x2 : Int32) (x3 : Int32) : Option (S0) :=
  lp_X0_handOver_p3  s x1 x2 x3 0
abbrev rm_X0_splitOff : Room := { frames := 4, cells := 0, slots := 0, locals := 91 }
noncomputable def f_X0_splitOff  (s : S0) (x1 : Int32) (x2 : Int32) : Option (Int32 × S0) :=
  Option.bind (f_X0_classOf s x1) (fun v1 => Option.bind (f_X0_addFleet s v1 x2) (fun v3 => (if v3.1 = (-1) then some ((-1), v3.2) else Option.bind (f_X0_yearsOf v3.2 x1) (fun v6 => Option.bind (f_X0_putYears v3.2 x1 (v6 &&& (x2 ^^^ (-1 : Int32)))) (fun v8 => Option.bind (f_X0_handOver v8 x1 x2 v3.1) (fun v10 => some (v3.1, v10)))))))
abbrev rm_X7_split : Room := { frames := 5, cells := 0, slots := 0, locals := 114 }
noncomputable def f_X7_split  (s : S7) (x1 : Int32) (x2 : Int32) : Option (Int32 × S7) :=
  Option.bind (f_X0_hasFleet (g7_book s) x1) (fun v1 => (if v1 = 0 then some ((-1), s) else (if (g0_fleets (g7_book s)) < 8 then Option.bind (f_X0_yearsOf (g7_book s) x1) (fun v5 => (if x2 = 0 then some ((-1), s) else (if x2 = v5 then some ((-1), s) else (if (x2 &&& (v5 ^^^ (-1 : Int32))) = 0 then Option.bind (f_X2_keep (g7_past s) (g7_book s)) (fun v10 => Option.bind (f_X0_splitOff (g7_book s) x1 x2) (fun v12 => some (v12.1, (u7_book (u7_past s v10) v12.2)))) else some ((-1), s))))) else some ((-1), s))))
abbrev rm_X0_mergeInto : Room := { frames := 4, cells := 0, slots := 0, locals := 91 }
noncomputable def f_X0_mergeInto  (s : S0) (x1 : Int32) (x2 : Int32) : Option (Int32 × S0) :=
  Option.bind (f_X0_yearsOf s x2) (fun v1 => Option.bind (f_X0_yearsOf s x1) (fun v3 => Option.bind (f_X0_putYears s x2 (v1 ||| v3)) (fun v5 => Option.bind (f_X0_handOver v5 x1 31 x2) (fun v7 => Option.bind (f_X0_closeGapAt v7 x1) (fun v9 => (if x2 ≤ x1 then some (x2, v9) else some ((x2 - (1 : Int32)), v9)))))))
abbrev rm_X7_merge : Room := { frames := 5, cells := 0, slots := 0, locals := 113 }
noncomputable def f_X7_merge  (s : S7) (x1 : Int32) (x2 : Int32) : Option (Int32 × S7) :=
  Option.bind (f_X0_hasFleet (g7_book s) x1) (fun v1 => (if v1 = 0 then some ((-1), s) else Option.bind (f_X0_hasFleet (g7_book s) x2) (fun v4 => (if v4 = 0 then some ((-1), s) else (if x1 = x2 then some ((-1), s) else Option.bind (f_X0_yearsOf (g7_book s) x1) (fun v8 => Option.bind (f_X0_yearsOf (g7_book s) x2) (fun v10 => (if (v8 &&& v10) = 0 then Option.bind (f_X2_keep (g7_past s) (g7_book s)) (fun v13 => Option.bind (f_X0_mergeInto (g7_book s) x1 x2) (fun v15 => some (v15.1, (u7_book (u7_past s v13) v15.2)))) else some ((-1), s)))))))))
abbrev rm_X7_cap : Room := { frames := 3, cells := 0, slots := 0, locals := 61 }
noncomputable def f_X7_cap  (s : S7) (x1 : Int32) : Option (Int32 × S7) :=
  Option.bind (f_X7_isAmount x1) (fun v1 => (if v1 = 0 then some ((-1), s) else (if x1 = (g0_cap (g7_book s)) then some ((-1), s) else Option.bind (f_X2_keep (g7_past s) (g7_book s)) (fun v5 => some ((g0_cap (g7_book s)), (u7_book (u7_past s v5) (u0_cap (g7_book s) x1)))))))
abbrev rm_X7_steady : Room := { frames := 3, cells := 0, slots := 0, locals := 61 }
noncomputable def f_X7_steady  (s : S7) (x1 : Int32) : Option (Int32 × S7) :=
  (if x1 < 0 then some ((-1), s) else (if 50 < x1 then some ((-1), s) else (if x1 = (g0_steady (g7_book s)) then some ((-1), s) else Option.bind (f_X2_keep (g7_past s) (g7_book s)) (fun v4 => some ((g0_steady (g7_book s)), (u7_book (u7_past s v4) (u0_steady (g7_book s) x1)))))))
abbrev rm_X2_size : Room := { frames := 0, cells := 0, slots := 0, locals := 0 }
noncomputable def f_X2_size  (s : S2) : Option (Int32) :=
  some (g2_kept s)
abbrev rm_X0_loadFrom : Room := { frames := 1, cells := 0, slots := 0, locals := 18 }
noncomputable def f_X0_loadFrom  (s : S0) (q : (Nat → Int32)) (x2 : Int32) : Option (S0) :=
  (if x2 < 0 then some s else (if x2 ≤ ((720 : Int32) - (60 : Int32)) then Option.bind (x_rd 720 q x2) (fun v4 => Option.bind (x_rd 720 q (x2 + (1 : Int32))) (fun v6 => Option.bind (x_rd 720 q (x2 + (2 : Int32))) (fun v8 => Option.bind (x_rd 720 q (x2 + (3 : Int32))) (fun v10 => Option.bind (x_cp 720 8 q (g0_classes s) (x2 + (4 : Int32)) 0 8) (fun w12 => Option.bind (x_cp 720 8 q (g0_years s) ((x2 + (4 : Int32)) + (8 : Int32)) 0 8) (fun w14 => Option.bind (x_cp 720 40 q (g0_slips s) ((x2 + (4 : Int32)) + (16 : Int32)) 0 40) (fun w16 => some (u0_slips (u0_years (u0_classes (u0_steady (u0_cap (u0_claims (u0_fleets s v4) v6) v8) v10) w12) w14) w16)))))))) else some s))
abbrev rm_X2_takeBack : Room := { frames := 2, cells := 0, slots := 0, locals := 40 }
noncomputable def f_X2_takeBack  (s : S2) (q : S0) : Option (S2 × S0) :=
  (if (g2_kept s) ≤ 0 then some (s, q) else Option.bind (f_X0_loadFrom q (g2_rows s) (((((g2_next s) + (12 : Int32)) - (1 : Int32)) - (((g2_next s) + (12 : Int32)) - (1 : Int32)) / 12 * 12) * (60 : Int32))) (fun v2 => some ((u2_kept (u2_next s ((((g2_next s) + (12 : Int32)) - (1 : Int32)) - (((g2_next s) + (12 : Int32)) - (1 : Int32)) / 12 * 12)) ((g2_kept s) - (1 : Int32))), v2)))
abbrev rm_X7_undo : Room := { frames := 3, cells := 0, slots := 0, locals := 61 }
noncomputable def f_X7_undo  (s : S7) : Option (Int32 × S7) :=
  Option.bind (f_X2_size (g7_past s)) (fun v1 => (if v1 = 0 then some ((-1), s) else Option.bind (f_X2_takeBack (g7_past s) (g7_book s)) (fun v4 => Option.bind (f_X2_size v4.1) (fun v6 => some (v6, (u7_book (u7_past s v4.1) v4.2))))))
abbrev rm_J7_fill_53178 : Room := { frames := 0, cells := 0, slots := 0, locals := 0 }
noncomputable def f_J7_fill_53178_p5 (k5 : (Nat → Int32) → Int32 → Int32 → Int32 → Option ((Nat → Int32))) (s : (Nat → Int32)) (x1 : Int32) (x2 : Int32) (x3 : Int32) : Option ((Nat → Int32)) :=
  (if x3 ≤ x2 then some s else Option.bind (x_wr 40 s x2 x1) (fun w3 => k5 w3 x1 (x2 + 1) x3))
noncomputable def lp_J7_fill_53178_p5  (s : (Nat → Int32)) (x1 : Int32) (x2 : Int32) (x3 : Int32) : Option ((Nat → Int32)) :=
  x_loop (fun (k : (Nat → Int32) × Int32 × Int32 × Int32 → Option ((Nat → Int32))) (z : (Nat → Int32) × Int32 × Int32 × Int32) => f_J7_fill_53178_p5  (fun s x1 x2 x3 => k (s, x1, x2, x3)) z.1 z.2.1 z.2.2.1 z.2.2.2) FU (s, x1, x2, x3)
noncomputable def f_J7_fill_53178  (s : (Nat → Int32)) (x1 : Int32) : Option ((Nat → Int32)) :=
  lp_J7_fill_53178_p5  s x1 0 40
abbrev rm_X0_countedOf : Room := { frames := 1, cells := 0, slots := 0, locals := 21 }
noncomputable def f_X0_countedOf  (s : S0) (x1 : Int32) : Option (Int32) :=
  Option.bind (f_X0_hasClaim s x1) (fun v1 => (if v1 = 0 then some 0 else Option.bind (x_rd 40 (g0_slips s) x1) (fun v5 => some (if (g0_cap s) < (v5 &&& (127 : Int32)) then (g0_cap s) else (v5 &&& (127 : Int32))))))
abbrev rm_X1_sumLosses : Room := { frames := 2, cells := 0, slots := 0, locals := 42 }
noncomputable def f_X1_sumLosses_p10 (k10 : S1 → S0 → Int32 → Option (S1)) (s : S1) (q : S0) (x2 : Int32) : Option (S1) :=
  (if (g0_claims q) ≤ x2 then some s else Option.bind (f_X0_fleetOf q x2) (fun v2 => Option.bind (f_X0_yearOf q x2) (fun v4 => (if ((v2 * (5 : Int32)) + v4) < 0 then k10 s q (x2 + 1) else (if 40 ≤ ((v2 * (5 : Int32)) + v4) then k10 s q (x2 + 1) else Option.bind (x_rd 40 (g1_losses s) ((v2 * (5 : Int32)) + v4)) (fun v9 => Option.bind (f_X0_countedOf q x2) (fun v10 => Option.bind (x_wr 40 (g1_losses s) ((v2 * (5 : Int32)) + v4) (v9 + v10)) (fun w13 => k10 (u1_losses s w13) q (x2 + 1)))))))))
noncomputable def lp_X1_sumLosses_p10  (s : S1) (q : S0) (x2 : Int32) : Option (S1) :=
  x_loop (fun (k : S1 × S0 × Int32 → Option (S1)) (z : S1 × S0 × Int32) => f_X1_sumLosses_p10  (fun s q x2 => k (s, q, x2)) z.1 z.2.1 z.2.2) FU (s, q, x2)
noncomputable def f_X1_sumLosses  (s : S1) (q : S0) : Option (S1) :=
  Option.bind (f_J7_fill_53178 (g1_losses s) 0) (fun v1 => lp_X1_sumLosses_p10  (u1_losses s v1) q 0)
abbrev rm_X4_clear : Room := { frames := 0, cells := 0, slots := 0, locals := 0 }
noncomputable def f_X4_clear  (s : S4) : Option (S4) :=
  some (u4_restSpans (u4_ownLosses (u4_weightedMeans (u4_meanSquares (u4_lossSquares (u4_spanSquares (u4_shares (u4_sum (u4_span (u4_fleets s 0) 0) 0) 0) 0) 0) 0) 0) 0) 0)
abbrev rm_X4_hasBetween : Room := { frames := 0, cells := 0, slots := 0, locals := 0 }
noncomputable def f_X4_hasBetween  (s : S4) : Option (Int32) :=
  (if (g4_fleets s) < 2 then some 0 else (if (lg_cmp (g4_freedom s) 0) ≤ 0 then some 0 else some 1))
abbrev rm_X4_settle : Room := { frames := 1, cells := 0, slots := 0, locals := 20 }
noncomputable def f_X4_settle  (s : S4) : Option (S4) :=
  Option.bind (f_X4_hasBetween (u4_between (u4_within (u4_unlikeSpans (u4_freedom s (Int32.toInt64 ((g4_span s) - (g4_fleets s)))) (((Int32.toInt64 (g4_span s)) * (Int32.toInt64 (g4_span s))) - (g4_spanSquares s))) ((g4_lossSquares s) - (g4_meanSquares s))) 0)) (fun v1 => (if v1 = 0 then some (u4_between (u4_within (u4_unlikeSpans (u4_freedom s (Int32.toInt64 ((g4_span s) - (g4_fleets s)))) (((Int32.toInt64 (g4_span s)) * (Int32.toInt64 (g4_span s))) - (g4_spanSquares s))) ((g4_lossSquares s) - (g4_meanSquares s))) 0) else some (u4_between (u4_within (u4_unlikeSpans (u4_freedom s (Int32.toInt64 ((g4_span s) - (g4_fleets s)))) (((Int32.toInt64 (g4_span s)) * (Int32.toInt64 (g4_span s))) - (g4_spanSquares s))) ((g4_lossSquares s) - (g4_meanSquares s))) (if (((((g4_meanSquares s) * (Int32.toInt64 (g4_span s))) * (Int32.toInt64 ((g4_span s) - (g4_fleets s)))) - ((((60 : Int64) * (Int32.toInt64 (g4_sum s))) * (Int32.toInt64 (g4_sum s))) * (Int32.toInt64 ((g4_span s) - (g4_fleets s))))) - (((Int32.toInt64 ((g4_fleets s) - (1 : Int32))) * ((g4_lossSquares s) - (g4_meanSquares s))) * (Int32.toInt64 (g4_span s)))) < 0 then 0 else (((((g4_meanSquares s) * (Int32.toInt64 (g4_span s))) * (Int32.toInt64 ((g4_span s) - (g4_fleets s)))) - ((((60 : Int64) * (Int32.toInt64 (g4_sum s))) * (Int32.toInt64 (g4_sum s))) * (Int32.toInt64 ((g4_span s) - (g4_fleets s))))) - (((Int32.toInt64 ((g4_fleets s) - (1 : Int32))) * ((g4_lossSquares s) - (g4_meanSquares s))) * (Int32.toInt64 (g4_span s))))))))
abbrev rm_X1_hasRow : Room := { frames := 0, cells := 0, slots := 0, locals := 0 }
noncomputable def f_X1_hasRow  (s : S1) (x1 : Int32) : Option (Int32) :=
  (if x1 < 0 then some 0 else (if (g1_fleets s) ≤ x1 then some 0 else some 1))
abbrev rm_X1_poolOf : Room := { frames := 0, cells := 0, slots := 0, locals := 0 }
noncomputable def f_X1_poolOf  (s : S1) (x1 : Int32) : Option (Nat) :=
  (if x1 = 0 then some 7 else (if x1 = 1 then some 9 else some 11))
abbrev rm_X4_addFleet : Room := { frames := 0, cells := 0, slots := 0, locals := 0 }
noncomputable def f_X4_addFleet  (s : S4) (x1 : Int32) (x2 : Int32) (x3 : Int32) : Option (S4) :=
  (if x1 ≤ 0 then some s else Option.bind (x_nz x1) (fun u3 => some (u4_meanSquares (u4_lossSquares (u4_spanSquares (u4_sum (u4_span (u4_fleets s ((g4_fleets s) + (1 : Int32))) ((g4_span s) + x1)) ((g4_sum s) + x2)) ((g4_spanSquares s) + (Int32.toInt64 (x1 * x1)))) ((g4_lossSquares s) + ((60 : Int64) * (Int32.toInt64 x3)))) ((g4_meanSquares s) + (((Int32.toInt64 x2) * (Int32.toInt64 x2)) * (Int32.toInt64 (60 / x1)))))))
abbrev rm_X1_lossOf : Room := { frames := 1, cells := 0, slots := 0, locals := 21 }
noncomputable def f_X1_lossOf  (s : S1) (x1 : Int32) (x2 : Int32) : Option (Int32) :=
  Option.bind (f_X1_hasRow s x1) (fun v1 => (if v1 = 0 then some 0 else Option.bind (f_X7_isYear x2) (fun v4 => (if v4 = 0 then some 0 else Option.bind (x_rd 40 (g1_losses s) ((x1 * (5 : Int32)) + x2)) (fun v8 => some v8)))))
abbrev rm_X1_reckonFleet : Room := { frames := 2, cells := 0, slots := 0, locals := 43 }
noncomputable def f_X1_reckonFleet_p50 (k50 : S1 → S0 → Int32 → Int32 → Option (S1)) (s : S1) (q : S0) (x2 : Int32) (x3 : Int32) : Option (S1) :=
  (if 5 ≤ x3 then Option.bind (x_rd 8 (g1_spans s) x2) (fun v3 => (if v3 ≤ 0 then some s else Option.bind (x_rd 8 (g1_classes s) x2) (fun v6 => Option.bind (f_X1_poolOf s v6) (fun v7 => (if v7 = 7 then Option.bind (x_rd 8 (g1_spans s) x2) (fun v11 => Option.bind (x_rd 8 (g1_sums s) x2) (fun v13 => Option.bind (x_rd 8 (g1_squares s) x2) (fun v15 => Option.bind (f_X4_addFleet (g1_poolA s) v11 v13 v15) (fun v16 => Option.bind (x_rd 8 (g1_sums s) x2) (fun v19 => Option.bind (x_rd 8 (g1_spans s) x2) (fun v21 => some (u1_allSpan (u1_allSum (u1_poolA s v16) ((g1_allSum s) + v19)) ((g1_allSpan s) + v21)))))))) else (if v7 = 9 then Option.bind (x_rd 8 (g1_spans s) x2) (fun v24 => Option.bind (x_rd 8 (g1_sums s) x2) (fun v26 => Option.bind (x_rd 8 (g1_squares s) x2) (fun v28 => Option.bind (f_X4_addFleet (g1_poolB s) v24 v26 v28) (fun v29 => Option.bind (x_rd 8 (g1_sums s) x2) (fun v32 => Option.bind (x_rd 8 (g1_spans s) x2) (fun v34 => some (u1_allSpan (u1_allSum (u1_poolB s v29) ((g1_allSum s) + v32)) ((g1_allSpan s) + v34)))))))) else (if v7 = 11 then Option.bind (x_rd 8 (g1_spans s) x2) (fun v37 => Option.bind (x_rd 8 (g1_sums s) x2) (fun v39 => Option.bind (x_rd 8 (g1_squares s) x2) (fun v41 => Option.bind (f_X4_addFleet (g1_poolC s) v37 v39 v41) (fun v42 => Option.bind (x_rd 8 (g1_sums s) x2) (fun v45 => Option.bind (x_rd 8 (g1_spans s) x2) (fun v47 => some (u1_allSpan (u1_allSum (u1_poolC s v42) ((g1_allSum s) + v45)) ((g1_allSpan s) + v47)))))))) else none))))))) else Option.bind (f_X1_lossOf s x2 x3) (fun v48 => Option.bind (x_rd 8 (g1_sums s) x2) (fun v51 => Option.bind (x_wr 8 (g1_sums s) x2 (v51 + v48)) (fun w53 => Option.bind (x_rd 8 (g1_squares s) x2) (fun v55 => Option.bind (x_wr 8 (g1_squares s) x2 (v55 + (v48 * v48))) (fun w57 => k50 (u1_squares (u1_sums s w53) w57) q x2 (x3 + 1)))))))
noncomputable def lp_X1_reckonFleet_p50  (s : S1) (q : S0) (x2 : Int32) (x3 : Int32) : Option (S1) :=
  x_loop (fun (k : S1 × S0 × Int32 × Int32 → Option (S1)) (z : S1 × S0 × Int32 × Int32) => f_X1_reckonFleet_p50  (fun s q x2 x3 => k (s, q, x2, x3)) z.1 z.2.1 z.2.2.1 z.2.2.2) FU (s, q, x2, x3)
noncomputable def f_X1_reckonFleet  (s : S1) (q : S0) (x2 : Int32) : Option (S1) :=
  Option.bind (f_X1_hasRow s x2) (fun v1 => (if v1 = 0 then some s else Option.bind (f_X0_classOf q x2) (fun v4 => Option.bind (x_wr 8 (g1_classes s) x2 v4) (fun w7 => Option.bind (f_X0_yearsOf q x2) (fun v8 => Option.bind (f_J6_bitCount_0f7a4 v8) (fun v10 => Option.bind (x_wr 8 (g1_spans s) x2 v10) (fun w13 => Option.bind (x_wr 8 (g1_sums s) x2 0) (fun w15 => Option.bind (x_wr 8 (g1_squares s) x2 0) (fun w17 => lp_X1_reckonFleet_p50  (u1_squares (u1_sums (u1_spans (u1_classes s w7) w13) w15) w17) q x2 0)))))))))
abbrev rm_X5_put : Room := { frames := 0, cells := 0, slots := 0, locals := 0 }
noncomputable def f_X5_put  (s : S5) (x1 : Int64) (x3 : Int64) : Option (S5) :=
  some (u5_lower (u5_upper s x1) x3)
abbrev rm_X1_putWhole_i13 : Room := { frames := 1, cells := 0, slots := 0, locals := 24 }
noncomputable def f_X1_putWhole_i13  (s : S1) : Option (S1) :=
  Option.bind (f_X5_put (g1_first s) (Int32.toInt64 (g1_allSum s)) (Int32.toInt64 (g1_allSpan s))) (fun v1 => some (u1_first s v1))
abbrev rm_X4_putCentre_i1 : Room := { frames := 1, cells := 0, slots := 0, locals := 24 }
noncomputable def f_X4_putCentre_i1  (s : S4) : Option (S4) :=
  (if (g4_shares s) = 0 then Option.bind (f_X5_put (g4_base s) (Int32.toInt64 (g4_sum s)) (Int32.toInt64 (g4_span s))) (fun v4 => some (u4_base s v4)) else Option.bind (f_X5_put (g4_base s) (g4_weightedMeans s) ((60 : Int64) * (Int32.toInt64 (g4_shares s)))) (fun v2 => some (u4_base s v2)))
abbrev rm_X5_isNone : Room := { frames := 0, cells := 0, slots := 0, locals := 0 }
noncomputable def f_X5_isNone  (s : S5) : Option (Int32) :=
  (if 0 < (lg_cmp (g5_lower s) 0) then some 0 else some 1)
abbrev rm_X4_steadiness : Room := { frames := 0, cells := 0, slots := 0, locals := 0 }
noncomputable def f_X4_steadiness  (s : S4) (x1 : Int32) : Option (Int32) :=
  (if ((g4_span s) + x1) ≤ 0 then some 0 else Option.bind (x_nz ((g4_span s) + x1)) (fun u3 => some (((1000 : Int32) * (g4_span s)) / ((g4_span s) + x1))))
abbrev rm_X4_reckonBase : Room := { frames := 2, cells := 0, slots := 0, locals := 45 }
noncomputable def f_X4_reckonBase  (s : S4) (q : S5) (x1 : Int32) : Option (S4) :=
  Option.bind (f_X4_putCentre_i1 s) (fun v1 => Option.bind (f_X5_isNone (g4_base v1)) (fun v3 => (if v3 = 0 then Option.bind (f_X5_isNone q) (fun v6 => (if v6 = 0 then Option.bind (f_X4_steadiness v1 x1) (fun v9 => Option.bind (f_X5_put (g4_base v1) ((((Int32.toInt64 v9) * (g5_upper (g4_base v1))) * (g5_lower q)) + ((((1000 : Int64) - (Int32.toInt64 v9)) * (g5_upper q)) * (g5_lower (g4_base v1)))) (((1000 : Int64) * (g5_lower (g4_base v1))) * (g5_lower q))) (fun v11 => some (u4_base v1 v11))) else some v1)) else some v1)))
abbrev rm_X4_shareBySpan : Room := { frames := 0, cells := 0, slots := 0, locals := 0 }
noncomputable def f_X4_shareBySpan  (s : S4) (x1 : Int32) : Option (Int32) :=
  (if (lg_cmp ((Int32.toInt64 x1) * (g4_between s)) 0) ≤ 0 then some 0 else (if (lg_cmp (((Int32.toInt64 x1) * (g4_between s)) + ((g4_within s) * (g4_unlikeSpans s))) 0) ≤ 0 then some 0 else Option.bind (x_nzl (((Int32.toInt64 x1) * (g4_between s)) + ((g4_within s) * (g4_unlikeSpans s)))) (fun u4 => some (Int64.toInt32 (((1000 : Int64) * ((Int32.toInt64 x1) * (g4_between s))) / (((Int32.toInt64 x1) * (g4_between s)) + ((g4_within s) * (g4_unlikeSpans s))))))))
abbrev rm_X4_addShare : Room := { frames := 0, cells := 0, slots := 0, locals := 0 }
noncomputable def f_X4_addShare  (s : S4) (x1 : Int32) (x2 : Int32) (x3 : Int32) : Option (S4) :=
  (if x1 ≤ 0 then some s else Option.bind (x_nz x1) (fun u3 => some (u4_restSpans (u4_ownLosses (u4_weightedMeans (u4_shares s ((g4_shares s) + x3)) ((g4_weightedMeans s) + (((Int32.toInt64 x2) * (Int32.toInt64 x3)) * (Int32.toInt64 (60 / x1))))) ((g4_ownLosses s) + ((Int32.toInt64 x2) * (Int32.toInt64 x3)))) ((g4_restSpans s) + ((Int32.toInt64 x1) * (Int32.toInt64 ((1000 : Int32) - x3)))))))
abbrev rm_X1_reckonShare : Room := { frames := 1, cells := 0, slots := 0, locals := 25 }
noncomputable def f_X1_reckonShare  (s : S1) (x1 : Int32) : Option (S1) :=
  Option.bind (f_X1_hasRow s x1) (fun v1 => (if v1 = 0 then some s else Option.bind (x_wr 8 (g1_shares s) x1 (-2)) (fun w5 => Option.bind (x_rd 8 (g1_spans s) x1) (fun v7 => (if v7 ≤ 0 then some (u1_shares s w5) else Option.bind (x_rd 8 (g1_classes s) x1) (fun v10 => Option.bind (f_X1_poolOf (u1_shares s w5) v10) (fun v11 => (if v11 = 7 then Option.bind (x_rd 8 (g1_spans s) x1) (fun v15 => Option.bind (f_X4_shareBySpan (g1_poolA s) v15) (fun v16 => Option.bind (x_wr 8 w5 x1 v16) (fun w19 => Option.bind (x_rd 8 (g1_spans s) x1) (fun v21 => Option.bind (x_rd 8 (g1_sums s) x1) (fun v23 => Option.bind (x_rd 8 w19 x1) (fun v25 => Option.bind (f_X4_addShare (g1_poolA s) v21 v23 v25) (fun v26 => some (u1_poolA (u1_shares s w19) v26)))))))) else (if v11 = 9 then Option.bind (x_rd 8 (g1_spans s) x1) (fun v30 => Option.bind (f_X4_shareBySpan (g1_poolB s) v30) (fun v31 => Option.bind (x_wr 8 w5 x1 v31) (fun w34 => Option.bind (x_rd 8 (g1_spans s) x1) (fun v36 => Option.bind (x_rd 8 (g1_sums s) x1) (fun v38 => Option.bind (x_rd 8 w34 x1) (fun v40 => Option.bind (f_X4_addShare (g1_poolB s) v36 v38 v40) (fun v41 => some (u1_poolB (u1_shares s w34) v41)))))))) else (if v11 = 11 then Option.bind (x_rd 8 (g1_spans s) x1) (fun v45 => Option.bind (f_X4_shareBySpan (g1_poolC s) v45) (fun v46 => Option.bind (x_wr 8 w5 x1 v46) (fun w49 => Option.bind (x_rd 8 (g1_spans s) x1) (fun v51 => Option.bind (x_rd 8 (g1_sums s) x1) (fun v53 => Option.bind (x_rd 8 w49 x1) (fun v55 => Option.bind (f_X4_addShare (g1_poolC s) v51 v53 v55) (fun v56 => some (u1_poolC (u1_shares s w49) v56)))))))) else none))))))))))
abbrev rm_X1_reckon : Room := { frames := 3, cells := 0, slots := 0, locals := 69 }
noncomputable def f_X1_reckon_p94 (k94 : S1 → S0 → Int32 → Option (S1)) (s : S1) (q : S0) (x2 : Int32) : Option (S1) :=
  (if (g1_fleets s) ≤ x2 then Option.bind (f_X1_putWhole_i13 s) (fun v2 => Option.bind (f_X4_reckonBase (g1_poolA v2) (g1_first v2) (g0_steady q)) (fun v4 => Option.bind (f_X4_reckonBase (g1_poolB v2) (g1_first v2) (g0_steady q)) (fun v6 => Option.bind (f_X4_reckonBase (g1_poolC v2) (g1_first v2) (g0_steady q)) (fun v8 => some (u1_poolC (u1_poolB (u1_poolA v2 v4) v6) v8))))) else Option.bind (f_X1_reckonShare s x2) (fun v10 => k94 v10 q (x2 + 1)))
noncomputable def lp_X1_reckon_p94  (s : S1) (q : S0) (x2 : Int32) : Option (S1) :=
  x_loop (fun (k : S1 × S0 × Int32 → Option (S1)) (z : S1 × S0 × Int32) => f_X1_reckon_p94  (fun s q x2 => k (s, q, x2)) z.1 z.2.1 z.2.2) FU (s, q, x2)
noncomputable def f_X1_reckon_p51 (k51 : S1 → S0 → Int32 → Option (S1)) (s : S1) (q : S0) (x2 : Int32) : Option (S1) :=
  (if (g1_fleets s) ≤ x2 then Option.bind (f_X4_settle (g1_poolA s)) (fun v2 => Option.bind (f_X4_settle (g1_poolB s)) (fun v4 => Option.bind (f_X4_settle (g1_poolC s)) (fun v6 => lp_X1_reckon_p94  (u1_poolC (u1_poolB (u1_poolA s v2) v4) v6) q 0))) else Option.bind (f_X1_reckonFleet s q x2) (fun v8 => k51 v8 q (x2 + 1)))
noncomputable def lp_X1_reckon_p51  (s : S1) (q : S0) (x2 : Int32) : Option (S1) :=
  x_loop (fun (k : S1 × S0 × Int32 → Option (S1)) (z : S1 × S0 × Int32) => f_X1_reckon_p51  (fun s q x2 => k (s, q, x2)) z.1 z.2.1 z.2.2) FU (s, q, x2)
noncomputable def f_X1_reckon  (s : S1) (q : S0) : Option (S1) :=
  Option.bind (f_X1_sumLosses (u1_fleets s (if 8 < (g0_fleets q) then 8 else (g0_fleets q))) q) (fun v1 => Option.bind (f_X4_clear (g1_poolA v1)) (fun v3 => Option.bind (f_X4_clear (g1_poolB v1)) (fun v5 => Option.bind (f_X4_clear (g1_poolC v1)) (fun v7 => lp_X1_reckon_p51  (u1_allSpan (u1_allSum (u1_poolC (u1_poolB (u1_poolA v1 v3) v5) v7) 0) 0) q 0))))
abbrev rm_X1_spanOf : Room := { frames := 1, cells := 0, slots := 0, locals := 21 }
noncomputable def f_X1_spanOf  (s : S1) (x1 : Int32) : Option (Int32) :=
  Option.bind (f_X1_hasRow s x1) (fun v1 => (if v1 = 0 then some 0 else Option.bind (x_rd 8 (g1_spans s) x1) (fun v5 => some v5)))
abbrev rm_X1_sumOf : Room := { frames := 1, cells := 0, slots := 0, locals := 21 }
noncomputable def f_X1_sumOf  (s : S1) (x1 : Int32) : Option (Int32) :=
  Option.bind (f_X1_hasRow s x1) (fun v1 => (if v1 = 0 then some 0 else Option.bind (x_rd 8 (g1_sums s) x1) (fun v5 => some v5)))
abbrev rm_X1_squaresOf : Room := { frames := 1, cells := 0, slots := 0, locals := 21 }
noncomputable def f_X1_squaresOf  (s : S1) (x1 : Int32) : Option (Int32) :=
  Option.bind (f_X1_hasRow s x1) (fun v1 => (if v1 = 0 then some 0 else Option.bind (x_rd 8 (g1_squares s) x1) (fun v5 => some v5)))
abbrev rm_X0_claimsWith : Room := { frames := 2, cells := 0, slots := 0, locals := 42 }
noncomputable def f_X0_claimsWith_p4 (k4 : S0 → Int32 → Int32 → Int32 → Option (Int32)) (s : S0) (x1 : Int32) (x2 : Int32) (x3 : Int32) : Option (Int32) :=
  (if (g0_claims s) ≤ x3 then some x2 else Option.bind (f_X0_fleetOf s x3) (fun v2 => (if v2 = x1 then k4 s x1 (x2 + (1 : Int32)) (x3 + 1) else k4 s x1 (x2 + (0 : Int32)) (x3 + 1))))
noncomputable def lp_X0_claimsWith_p4  (s : S0) (x1 : Int32) (x2 : Int32) (x3 : Int32) : Option (Int32) :=
  x_loop (fun (k : S0 × Int32 × Int32 × Int32 → Option (Int32)) (z : S0 × Int32 × Int32 × Int32) => f_X0_claimsWith_p4  (fun s x1 x2 x3 => k (s, x1, x2, x3)) z.1 z.2.1 z.2.2.1 z.2.2.2) FU (s, x1, x2, x3)
noncomputable def f_X0_claimsWith  (s : S0) (x1 : Int32) : Option (Int32) :=
  lp_X0_claimsWith_p4  s x1 0 0
abbrev rm_X0_claimsAboveCap : Room := { frames := 2, cells := 0, slots := 0, locals := 42 }
noncomputable def f_X0_claimsAboveCap_p4 (k4 : S0 → Int32 → Int32 → Int32 → Option (Int32)) (s : S0) (x1 : Int32) (x2 : Int32) (x3 : Int32) : Option (Int32) :=
  (if (g0_claims s) ≤ x3 then some x2 else Option.bind (f_X0_fleetOf s x3) (fun v2 => (if v2 = x1 then Option.bind (f_X0_amountOf s x3) (fun v5 => (if v5 ≤ (g0_cap s) then k4 s x1 (x2 + (0 : Int32)) (x3 + 1) else k4 s x1 (x2 + (1 : Int32)) (x3 + 1))) else k4 s x1 (x2 + (0 : Int32)) (x3 + 1))))
noncomputable def lp_X0_claimsAboveCap_p4  (s : S0) (x1 : Int32) (x2 : Int32) (x3 : Int32) : Option (Int32) :=
  x_loop (fun (k : S0 × Int32 × Int32 × Int32 → Option (Int32)) (z : S0 × Int32 × Int32 × Int32) => f_X0_claimsAboveCap_p4  (fun s x1 x2 x3 => k (s, x1, x2, x3)) z.1 z.2.1 z.2.2.1 z.2.2.2) FU (s, x1, x2, x3)
noncomputable def f_X0_claimsAboveCap  (s : S0) (x1 : Int32) : Option (Int32) :=
  lp_X0_claimsAboveCap_p4  s x1 0 0
abbrev rm_X1_shareOf : Room := { frames := 1, cells := 0, slots := 0, locals := 21 }
noncomputable def f_X1_shareOf  (s : S1) (x1 : Int32) : Option (Int32) :=
  Option.bind (f_X1_hasRow s x1) (fun v1 => (if v1 = 0 then some (-2) else Option.bind (x_rd 8 (g1_shares s) x1) (fun v5 => some v5)))
abbrev rm_X7_of : Room := { frames := 4, cells := 0, slots := 0, locals := 91 }
noncomputable def f_X7_of  (s : S7) (x1 : Int32) (x2 : Int32) : Option (Int32 × S7) :=
  Option.bind (f_X0_hasFleet (g7_book s) x1) (fun v1 => (if v1 = 0 then some ((-1), s) else Option.bind (f_X1_reckon (g7_ledger s) (g7_book s)) (fun v4 => (if x2 = 0 then Option.bind (f_X0_classOf (g7_book s) x1) (fun v7 => some (v7, (u7_ledger s v4))) else (if x2 = 1 then Option.bind (f_X0_yearsOf (g7_book s) x1) (fun v10 => some (v10, (u7_ledger s v4))) else (if x2 = 2 then Option.bind (f_X1_spanOf v4 x1) (fun v13 => some (v13, (u7_ledger s v4))) else (if x2 = 3 then Option.bind (f_X1_sumOf v4 x1) (fun v16 => some (v16, (u7_ledger s v4))) else (if x2 = 4 then Option.bind (f_X1_squaresOf v4 x1) (fun v19 => some (v19, (u7_ledger s v4))) else (if x2 = 5 then Option.bind (f_X0_claimsWith (g7_book s) x1) (fun v22 => some (v22, (u7_ledger s v4))) else (if x2 = 6 then Option.bind (f_X0_claimsAboveCap (g7_book s) x1) (fun v25 => some (v25, (u7_ledger s v4))) else (if x2 = 7 then Option.bind (f_X1_shareOf v4 x1) (fun v28 => some (v28, (u7_ledger s v4))) else some ((-1), (u7_ledger s v4)))))))))))))
abbrev rm_X7_loss : Room := { frames := 4, cells := 0, slots := 0, locals := 91 }
noncomputable def f_X7_loss  (s : S7) (x1 : Int32) (x2 : Int32) : Option (Int32 × S7) :=
  Option.bind (f_X0_hasFleet (g7_book s) x1) (fun v1 => (if v1 = 0 then some ((-1), s) else Option.bind (f_X7_isYear x2) (fun v4 => (if v4 = 0 then some ((-1), s) else Option.bind (f_X0_isInsured (g7_book s) x1 x2) (fun v7 => (if v7 = 0 then some ((-2), s) else Option.bind (f_X1_reckon (g7_ledger s) (g7_book s)) (fun v10 => Option.bind (f_X1_lossOf v10 x1 x2) (fun v12 => some (v12, (u7_ledger s v10))))))))))
abbrev rm_X7_claimOf : Room := { frames := 2, cells := 0, slots := 0, locals := 42 }
noncomputable def f_X7_claimOf  (s : S7) (x1 : Int32) (x2 : Int32) : Option (Int32) :=
  Option.bind (f_X0_hasClaim (g7_book s) x1) (fun v1 => (if v1 = 0 then some (-1) else (if x2 = 0 then Option.bind (f_X0_fleetOf (g7_book s) x1) (fun v5 => some v5) else (if x2 = 1 then Option.bind (f_X0_yearOf (g7_book s) x1) (fun v8 => some v8) else (if x2 = 2 then Option.bind (f_X0_amountOf (g7_book s) x1) (fun v11 => some v11) else (if x2 = 3 then Option.bind (f_X0_countedOf (g7_book s) x1) (fun v14 => some v14) else some (-1)))))))
abbrev rm_X7_group : Room := { frames := 4, cells := 0, slots := 0, locals := 91 }
noncomputable def f_X7_group  (s : S7) (x1 : Int32) (x2 : Int32) : Option (Int32 × S7) :=
  Option.bind (f_X7_isClass x1) (fun v1 => (if v1 = 0 then some ((-1), s) else Option.bind (f_X1_reckon (g7_ledger s) (g7_book s)) (fun v4 => Option.bind (f_X1_poolOf v4 x1) (fun v6 => (if v6 = 7 then (if x2 = 0 then some ((g4_fleets (g1_poolA v4)), (u7_ledger s v4)) else (if x2 = 1 then some ((g4_span (g1_poolA v4)), (u7_ledger s v4)) else (if x2 = 2 then some ((g4_sum (g1_poolA v4)), (u7_ledger s v4)) else (if x2 = 3 then (if (g4_span (g1_poolA v4)) = 0 then some ((-2), (u7_ledger s v4)) else Option.bind (f_X4_steadiness (g1_poolA v4) (g0_steady (g7_book s))) (fun v14 => some (v14, (u7_ledger s v4)))) else (if x2 = 4 then Option.bind (f_X0_fleetsIn (g7_book s) x1) (fun v17 => some (v17, (u7_ledger s v4))) else (if x2 = 5 then some ((g4_shares (g1_poolA v4)), (u7_ledger s v4)) else some ((-1), (u7_ledger s v4)))))))) else (if v6 = 9 then (if x2 = 0 then some ((g4_fleets (g1_poolB v4)), (u7_ledger s v4)) else (if x2 = 1 then some ((g4_span (g1_poolB v4)), (u7_ledger s v4)) else (if x2 = 2 then some ((g4_sum (g1_poolB v4)), (u7_ledger s v4)) else (if x2 = 3 then (if (g4_span (g1_poolB v4)) = 0 then some ((-2), (u7_ledger s v4)) else Option.bind (f_X4_steadiness (g1_poolB v4) (g0_steady (g7_book s))) (fun v26 => some (v26, (u7_ledger s v4)))) else (if x2 = 4 then Option.bind (f_X0_fleetsIn (g7_book s) x1) (fun v29 => some (v29, (u7_ledger s v4))) else (if x2 = 5 then some ((g4_shares (g1_poolB v4)), (u7_ledger s v4)) else some ((-1), (u7_ledger s v4)))))))) else (if v6 = 11 then (if x2 = 0 then some ((g4_fleets (g1_poolC v4)), (u7_ledger s v4)) else (if x2 = 1 then some ((g4_span (g1_poolC v4)), (u7_ledger s v4)) else (if x2 = 2 then some ((g4_sum (g1_poolC v4)), (u7_ledger s v4)) else (if x2 = 3 then (if (g4_span (g1_poolC v4)) = 0 then some ((-2), (u7_ledger s v4)) else Option.bind (f_X4_steadiness (g1_poolC v4) (g0_steady (g7_book s))) (fun v38 => some (v38, (u7_ledger s v4)))) else (if x2 = 4 then Option.bind (f_X0_fleetsIn (g7_book s) x1) (fun v41 => some (v41, (u7_ledger s v4))) else (if x2 = 5 then some ((g4_shares (g1_poolC v4)), (u7_ledger s v4)) else some ((-1), (u7_ledger s v4)))))))) else none)))))))
abbrev rm_X4_putWithin : Room := { frames := 1, cells := 0, slots := 0, locals := 24 }
noncomputable def f_X4_putWithin  (s : S4) (q : S5) : Option (S5) :=
  Option.bind (f_X5_put q (g4_within s) ((60 : Int64) * (g4_freedom s))) (fun v1 => some v1)
abbrev rm_X5_putNone : Room := { frames := 0, cells := 0, slots := 0, locals := 0 }
noncomputable def f_X5_putNone  (s : S5) : Option (S5) :=
  some (u5_lower (u5_upper s 0) 0)
abbrev rm_X4_putBetween : Room := { frames := 1, cells := 0, slots := 0, locals := 24 }
noncomputable def f_X4_putBetween  (s : S4) (q : S5) : Option (S5) :=
  Option.bind (f_X5_putNone q) (fun v1 => Option.bind (f_X4_hasBetween s) (fun v3 => (if v3 = 0 then some v1 else Option.bind (f_X5_put v1 (g4_between s) (((60 : Int64) * (g4_freedom s)) * (g4_unlikeSpans s))) (fun v6 => some v6))))
abbrev rm_X4_putCentre : Room := { frames := 1, cells := 0, slots := 0, locals := 24 }
noncomputable def f_X4_putCentre  (s : S4) (q : S5) : Option (S5) :=
  (if (g4_shares s) = 0 then Option.bind (f_X5_put q (Int32.toInt64 (g4_sum s)) (Int32.toInt64 (g4_span s))) (fun v4 => some v4) else Option.bind (f_X5_put q (g4_weightedMeans s) ((60 : Int64) * (Int32.toInt64 (g4_shares s)))) (fun v2 => some v2))
abbrev rm_X4_putOff : Room := { frames := 1, cells := 0, slots := 0, locals := 24 }
noncomputable def f_X4_putOff  (s : S4) (q : S5) : Option (S5) :=
  Option.bind (f_X5_putNone q) (fun v1 => Option.bind (f_X5_isNone (g4_base s)) (fun v3 => (if v3 = 0 then Option.bind (f_X5_put v1 ((((g4_ownLosses s) - ((1000 : Int64) * (Int32.toInt64 (g4_sum s)))) * (g5_lower (g4_base s))) + ((g4_restSpans s) * (g5_upper (g4_base s)))) ((1000 : Int64) * (g5_lower (g4_base s)))) (fun v6 => some v6) else some v1)))
abbrev rm_X1_putSpread : Room := { frames := 2, cells := 0, slots := 0, locals := 45 }
noncomputable def f_X1_putSpread  (s : S1) (q : S5) (x1 : Int32) (x2 : Int32) : Option (S5) :=
  Option.bind (f_X1_poolOf s x1) (fun v1 => (if v1 = 7 then (if x2 = 0 then Option.bind (f_X4_putWithin (g1_poolA s) q) (fun v5 => some v5) else (if x2 = 1 then Option.bind (f_X4_putBetween (g1_poolA s) q) (fun v8 => some v8) else (if x2 = 2 then Option.bind (f_X4_putCentre (g1_poolA s) q) (fun v11 => some v11) else (if x2 = 3 then Option.bind (f_X5_put q (g5_upper (g4_base (g1_poolA s))) (g5_lower (g4_base (g1_poolA s)))) (fun v14 => some v14) else (if x2 = 4 then Option.bind (f_X4_putOff (g1_poolA s) q) (fun v17 => some v17) else Option.bind (f_X5_putNone q) (fun v19 => some v19)))))) else (if v1 = 9 then (if x2 = 0 then Option.bind (f_X4_putWithin (g1_poolB s) q) (fun v23 => some v23) else (if x2 = 1 then Option.bind (f_X4_putBetween (g1_poolB s) q) (fun v26 => some v26) else (if x2 = 2 then Option.bind (f_X4_putCentre (g1_poolB s) q) (fun v29 => some v29) else (if x2 = 3 then Option.bind (f_X5_put q (g5_upper (g4_base (g1_poolB s))) (g5_lower (g4_base (g1_poolB s)))) (fun v32 => some v32) else (if x2 = 4 then Option.bind (f_X4_putOff (g1_poolB s) q) (fun v35 => some v35) else Option.bind (f_X5_putNone q) (fun v37 => some v37)))))) else (if v1 = 11 then (if x2 = 0 then Option.bind (f_X4_putWithin (g1_poolC s) q) (fun v41 => some v41) else (if x2 = 1 then Option.bind (f_X4_putBetween (g1_poolC s) q) (fun v44 => some v44) else (if x2 = 2 then Option.bind (f_X4_putCentre (g1_poolC s) q) (fun v47 => some v47) else (if x2 = 3 then Option.bind (f_X5_put q (g5_upper (g4_base (g1_poolC s))) (g5_lower (g4_base (g1_poolC s)))) (fun v50 => some v50) else (if x2 = 4 then Option.bind (f_X4_putOff (g1_poolC s) q) (fun v53 => some v53) else Option.bind (f_X5_putNone q) (fun v55 => some v55)))))) else none))))
abbrev rm_X5_commonDivisor : Room := { frames := 1, cells := 0, slots := 0, locals := 13 }
noncomputable def f_X5_commonDivisor_p16 (k16 : S5 → Int64 → Int64 → Int32 → Option (Int64)) (s : S5) (x1 : Int64) (x3 : Int64) (x5 : Int32) : Option (Int64) :=
  (if 200 ≤ x5 then some x1 else (if (lg_cmp x3 0) ≤ 0 then some x1 else Option.bind (x_nzl x3) (fun u4 => k16 s x3 (x1 - x1 / x3 * x3) (x5 + 1))))
noncomputable def lp_X5_commonDivisor_p16  (s : S5) (x1 : Int64) (x3 : Int64) (x5 : Int32) : Option (Int64) :=
  x_loop (fun (k : S5 × Int64 × Int64 × Int32 → Option (Int64)) (z : S5 × Int64 × Int64 × Int32) => f_X5_commonDivisor_p16  (fun s x1 x3 x5 => k (s, x1, x3, x5)) z.1 z.2.1 z.2.2.1 z.2.2.2) FU (s, x1, x3, x5)
noncomputable def f_X5_commonDivisor  (s : S5) : Option (Int64) :=
  lp_X5_commonDivisor_p16  s (g5_lower s) (if 0 < (g5_upper s) then (g5_upper s) else -(g5_upper s)) 0
abbrev rm_X5_part : Room := { frames := 2, cells := 0, slots := 0, locals := 40 }
noncomputable def f_X5_part_p31  (s : S5) (x2 : Int64) (y0 : Int64) : Option (Int64) :=
  (if (lg_cmp x2 0) ≤ 0 then some y0 else Option.bind (x_nzl x2) (fun u3 => some (y0 / x2)))
noncomputable def f_X5_part  (s : S5) (x1 : Int32) : Option (Int64) :=
  Option.bind (f_X5_isNone s) (fun v1 => (if v1 = 0 then Option.bind (f_X5_commonDivisor s) (fun v4 => (if x1 = 0 then f_X5_part_p31  s v4 (g5_upper s) else f_X5_part_p31  s v4 (g5_lower s))) else some (-1000000000)))
abbrev rm_X7_spreadIn_i3 : Room := { frames := 4, cells := 0, slots := 0, locals := 91 }
noncomputable def f_X7_spreadIn_i3  (s : S7) (x2 : Int32) (x3 : Int32) (x4 : Int32) : Option (Int64 × S7) :=
  Option.bind (f_X1_reckon (g7_ledger s) (g7_book s)) (fun v1 => Option.bind (f_X1_putSpread v1 (g7_told s) x2 x3) (fun v3 => Option.bind (f_X5_part v3 x4) (fun v5 => some (v5, (u7_told (u7_ledger s v1) v3)))))
abbrev rm_X7_spread : Room := { frames := 5, cells := 0, slots := 0, locals := 115 }
noncomputable def f_X7_spread  (s : S7) (x1 : Int32) (x2 : Int32) (x3 : Int32) : Option (Int64 × S7) :=
  Option.bind (f_X7_isClass x1) (fun v1 => (if v1 = 0 then some ((-1000000000), s) else Option.bind (f_X7_spreadIn_i3 s x1 x2 x3) (fun v4 => some (v4.1, v4.2))))
abbrev rm_X1_putWhole : Room := { frames := 1, cells := 0, slots := 0, locals := 24 }
noncomputable def f_X1_putWhole  (s : S1) (q : S5) : Option (S5) :=
  Option.bind (f_X5_put q (Int32.toInt64 (g1_allSum s)) (Int32.toInt64 (g1_allSpan s))) (fun v1 => some v1)
abbrev rm_X7_whole : Room := { frames := 4, cells := 0, slots := 0, locals := 91 }
noncomputable def f_X7_whole  (s : S7) (x1 : Int32) : Option (Int64 × S7) :=
  Option.bind (f_X1_reckon (g7_ledger s) (g7_book s)) (fun v1 => Option.bind (f_X1_putWhole v1 (g7_told s)) (fun v3 => Option.bind (f_X5_part v3 x1) (fun v5 => some (v5, (u7_told (u7_ledger s v1) v3)))))
abbrev rm_X1_isRated : Room := { frames := 1, cells := 0, slots := 0, locals := 21 }
noncomputable def f_X1_isRated  (s : S1) (x1 : Int32) : Option (Int32) :=
  Option.bind (f_X1_hasRow s x1) (fun v1 => (if v1 = 0 then some 0 else Option.bind (x_rd 8 (g1_spans s) x1) (fun v5 => (if v5 ≤ 0 then some 0 else some 1))))
abbrev rm_X1_putRate : Room := { frames := 2, cells := 0, slots := 0, locals := 42 }
noncomputable def f_X1_putRate  (s : S1) (q : S5) (x1 : Int32) : Option (S5) :=
  Option.bind (f_X5_putNone q) (fun v1 => Option.bind (f_X1_isRated s x1) (fun v3 => (if v3 = 0 then some v1 else Option.bind (x_rd 8 (g1_classes s) x1) (fun v7 => Option.bind (f_X1_poolOf s v7) (fun v8 => (if v8 = 7 then Option.bind (x_rd 8 (g1_shares s) x1) (fun v12 => Option.bind (x_rd 8 (g1_spans s) x1) (fun v14 => Option.bind (x_rd 8 (g1_sums s) x1) (fun v16 => Option.bind (f_X5_put v1 ((((Int32.toInt64 v12) * (Int32.toInt64 v16)) * (g5_lower (g4_base (g1_poolA s)))) + ((((1000 : Int64) - (Int32.toInt64 v12)) * (g5_upper (g4_base (g1_poolA s)))) * (Int32.toInt64 v14))) (((1000 : Int64) * (Int32.toInt64 v14)) * (g5_lower (g4_base (g1_poolA s))))) (fun v17 => some v17)))) else (if v8 = 9 then Option.bind (x_rd 8 (g1_shares s) x1) (fun v21 => Option.bind (x_rd 8 (g1_spans s) x1) (fun v23 => Option.bind (x_rd 8 (g1_sums s) x1) (fun v25 => Option.bind (f_X5_put v1 ((((Int32.toInt64 v21) * (Int32.toInt64 v25)) * (g5_lower (g4_base (g1_poolB s)))) + ((((1000 : Int64) - (Int32.toInt64 v21)) * (g5_upper (g4_base (g1_poolB s)))) * (Int32.toInt64 v23))) (((1000 : Int64) * (Int32.toInt64 v23)) * (g5_lower (g4_base (g1_poolB s))))) (fun v26 => some v26)))) else (if v8 = 11 then Option.bind (x_rd 8 (g1_shares s) x1) (fun v30 => Option.bind (x_rd 8 (g1_spans s) x1) (fun v32 => Option.bind (x_rd 8 (g1_sums s) x1) (fun v34 => Option.bind (f_X5_put v1 ((((Int32.toInt64 v30) * (Int32.toInt64 v34)) * (g5_lower (g4_base (g1_poolC s)))) + ((((1000 : Int64) - (Int32.toInt64 v30)) * (g5_upper (g4_base (g1_poolC s)))) * (Int32.toInt64 v32))) (((1000 : Int64) * (Int32.toInt64 v32)) * (g5_lower (g4_base (g1_poolC s))))) (fun v35 => some v35)))) else none))))))))
abbrev rm_X7_rate : Room := { frames := 4, cells := 0, slots := 0, locals := 91 }
noncomputable def f_X7_rate  (s : S7) (x1 : Int32) (x2 : Int32) : Option (Int64 × S7) :=
  Option.bind (f_X1_reckon (g7_ledger s) (g7_book s)) (fun v1 => Option.bind (f_X1_putRate v1 (g7_told s) x1) (fun v3 => Option.bind (f_X5_part v3 x2) (fun v5 => some (v5, (u7_told (u7_ledger s v1) v3)))))
abbrev rm_X1_putRate_i13 : Room := { frames := 2, cells := 0, slots := 0, locals := 42 }
noncomputable def f_X1_putRate_i13  (s : S1) (x1 : Int32) : Option (S1) :=
  Option.bind (f_X5_putNone (g1_first s)) (fun v1 => Option.bind (f_X1_isRated (u1_first s v1) x1) (fun v3 => (if v3 = 0 then some (u1_first s v1) else Option.bind (x_rd 8 (g1_classes s) x1) (fun v7 => Option.bind (f_X1_poolOf (u1_first s v1) v7) (fun v8 => (if v8 = 7 then Option.bind (x_rd 8 (g1_shares s) x1) (fun v12 => Option.bind (x_rd 8 (g1_spans s) x1) (fun v14 => Option.bind (x_rd 8 (g1_sums s) x1) (fun v16 => Option.bind (f_X5_put v1 ((((Int32.toInt64 v12) * (Int32.toInt64 v16)) * (g5_lower (g4_base (g1_poolA s)))) + ((((1000 : Int64) - (Int32.toInt64 v12)) * (g5_upper (g4_base (g1_poolA s)))) * (Int32.toInt64 v14))) (((1000 : Int64) * (Int32.toInt64 v14)) * (g5_lower (g4_base (g1_poolA s))))) (fun v17 => some (u1_first s v17))))) else (if v8 = 9 then Option.bind (x_rd 8 (g1_shares s) x1) (fun v21 => Option.bind (x_rd 8 (g1_spans s) x1) (fun v23 => Option.bind (x_rd 8 (g1_sums s) x1) (fun v25 => Option.bind (f_X5_put v1 ((((Int32.toInt64 v21) * (Int32.toInt64 v25)) * (g5_lower (g4_base (g1_poolB s)))) + ((((1000 : Int64) - (Int32.toInt64 v21)) * (g5_upper (g4_base (g1_poolB s)))) * (Int32.toInt64 v23))) (((1000 : Int64) * (Int32.toInt64 v23)) * (g5_lower (g4_base (g1_poolB s))))) (fun v26 => some (u1_first s v26))))) else (if v8 = 11 then Option.bind (x_rd 8 (g1_shares s) x1) (fun v30 => Option.bind (x_rd 8 (g1_spans s) x1) (fun v32 => Option.bind (x_rd 8 (g1_sums s) x1) (fun v34 => Option.bind (f_X5_put v1 ((((Int32.toInt64 v30) * (Int32.toInt64 v34)) * (g5_lower (g4_base (g1_poolC s)))) + ((((1000 : Int64) - (Int32.toInt64 v30)) * (g5_upper (g4_base (g1_poolC s)))) * (Int32.toInt64 v32))) (((1000 : Int64) * (Int32.toInt64 v32)) * (g5_lower (g4_base (g1_poolC s))))) (fun v35 => some (u1_first s v35))))) else none))))))))
abbrev rm_X5_inThousandths : Room := { frames := 1, cells := 0, slots := 0, locals := 20 }
noncomputable def f_X5_inThousandths  (s : S5) : Option (Int32) :=
  Option.bind (f_X5_isNone s) (fun v1 => (if v1 = 0 then Option.bind (x_nzl (g5_lower s)) (fun u5 => Option.bind (x_nzl (g5_lower s)) (fun u7 => Option.bind (x_nzl (g5_lower s)) (fun u9 => some (Int64.toInt32 ((((g5_upper s) / (g5_lower s)) * (1000 : Int64)) + ((((g5_upper s) - (g5_upper s) / (g5_lower s) * (g5_lower s)) * (1000 : Int64)) / (g5_lower s))))))) else some (-2)))
abbrev rm_X1_rateCut : Room := { frames := 3, cells := 0, slots := 0, locals := 69 }
noncomputable def f_X1_rateCut  (s : S1) (x1 : Int32) : Option (Int32 × S1) :=
  Option.bind (f_X1_putRate_i13 s x1) (fun v1 => Option.bind (f_X5_inThousandths (g1_first v1)) (fun v3 => some (v3, v1)))
abbrev rm_X7_rateIn_i3 : Room := { frames := 4, cells := 0, slots := 0, locals := 91 }
noncomputable def f_X7_rateIn_i3  (s : S7) (x2 : Int32) : Option (Int32 × S7) :=
  Option.bind (f_X0_hasFleet (g7_book s) x2) (fun v1 => (if v1 = 0 then some ((-1), s) else Option.bind (f_X1_reckon (g7_ledger s) (g7_book s)) (fun v4 => Option.bind (f_X1_rateCut v4 x2) (fun v6 => some (v6.1, (u7_ledger s v6.2))))))
abbrev rm_X7_thousandths : Room := { frames := 5, cells := 0, slots := 0, locals := 113 }
noncomputable def f_X7_thousandths  (s : S7) (x1 : Int32) : Option (Int32 × S7) :=
  Option.bind (f_X7_rateIn_i3 s x1) (fun v1 => some (v1.1, v1.2))
abbrev rm_X1_putRate_i14 : Room := { frames := 2, cells := 0, slots := 0, locals := 42 }
noncomputable def f_X1_putRate_i14  (s : S1) (x1 : Int32) : Option (S1) :=
  Option.bind (f_X5_putNone (g1_second s)) (fun v1 => Option.bind (f_X1_isRated (u1_second s v1) x1) (fun v3 => (if v3 = 0 then some (u1_second s v1) else Option.bind (x_rd 8 (g1_classes s) x1) (fun v7 => Option.bind (f_X1_poolOf (u1_second s v1) v7) (fun v8 => (if v8 = 7 then Option.bind (x_rd 8 (g1_shares s) x1) (fun v12 => Option.bind (x_rd 8 (g1_spans s) x1) (fun v14 => Option.bind (x_rd 8 (g1_sums s) x1) (fun v16 => Option.bind (f_X5_put v1 ((((Int32.toInt64 v12) * (Int32.toInt64 v16)) * (g5_lower (g4_base (g1_poolA s)))) + ((((1000 : Int64) - (Int32.toInt64 v12)) * (g5_upper (g4_base (g1_poolA s)))) * (Int32.toInt64 v14))) (((1000 : Int64) * (Int32.toInt64 v14)) * (g5_lower (g4_base (g1_poolA s))))) (fun v17 => some (u1_second s v17))))) else (if v8 = 9 then Option.bind (x_rd 8 (g1_shares s) x1) (fun v21 => Option.bind (x_rd 8 (g1_spans s) x1) (fun v23 => Option.bind (x_rd 8 (g1_sums s) x1) (fun v25 => Option.bind (f_X5_put v1 ((((Int32.toInt64 v21) * (Int32.toInt64 v25)) * (g5_lower (g4_base (g1_poolB s)))) + ((((1000 : Int64) - (Int32.toInt64 v21)) * (g5_upper (g4_base (g1_poolB s)))) * (Int32.toInt64 v23))) (((1000 : Int64) * (Int32.toInt64 v23)) * (g5_lower (g4_base (g1_poolB s))))) (fun v26 => some (u1_second s v26))))) else (if v8 = 11 then Option.bind (x_rd 8 (g1_shares s) x1) (fun v30 => Option.bind (x_rd 8 (g1_spans s) x1) (fun v32 => Option.bind (x_rd 8 (g1_sums s) x1) (fun v34 => Option.bind (f_X5_put v1 ((((Int32.toInt64 v30) * (Int32.toInt64 v34)) * (g5_lower (g4_base (g1_poolC s)))) + ((((1000 : Int64) - (Int32.toInt64 v30)) * (g5_upper (g4_base (g1_poolC s)))) * (Int32.toInt64 v32))) (((1000 : Int64) * (Int32.toInt64 v32)) * (g5_lower (g4_base (g1_poolC s))))) (fun v35 => some (u1_second s v35))))) else none))))))))
abbrev rm_X5_compareWith : Room := { frames := 1, cells := 0, slots := 0, locals := 20 }
noncomputable def f_X5_compareWith_p160  (s : S5) (q : S5) (x4 : Int64) (x10 : Int32) : Option (Int32) :=
  (if (lg_cmp x4 0) = 0 then some x10 else some (-x10))
noncomputable def f_X5_compareWith_p144  (s : S5) (q : S5) (x4 : Int64) (x8 : Int64) (x10 : Int32) : Option (Int32) :=
  (if (lg_cmp x4 0) = 0 then (if (lg_cmp x8 0) = 0 then some 0 else f_X5_compareWith_p160  s q x4 x10) else f_X5_compareWith_p160  s q x4 x10)
noncomputable def f_X5_compareWith_p45 (k45 : S5 → S5 → Int64 → Int64 → Int64 → Int64 → Int32 → Int32 → Option (Int32)) (s : S5) (q : S5) (x2 : Int64) (x4 : Int64) (x6 : Int64) (x8 : Int64) (x10 : Int32) (x11 : Int32) : Option (Int32) :=
  (if 200 ≤ x11 then f_X5_compareWith_p144  s q x4 x8 x10 else (if (lg_cmp x4 0) ≤ 0 then f_X5_compareWith_p144  s q x4 x8 x10 else (if (lg_cmp x8 0) ≤ 0 then f_X5_compareWith_p144  s q x4 x8 x10 else Option.bind (x_nzl x4) (fun u5 => Option.bind (x_nzl x8) (fun u7 => (if (lg_cmp (x2 / x4) (x6 / x8)) = 0 then Option.bind (x_nzl x4) (fun u10 => Option.bind (x_nzl x8) (fun u12 => k45 s q x4 (x2 - x2 / x4 * x4) x8 (x6 - x6 / x8 * x8) (-x10) (x11 + 1))) else (if (lg_cmp (x2 / x4) (x6 / x8)) ≤ 0 then some (-x10) else some x10)))))))
noncomputable def lp_X5_compareWith_p45  (s : S5) (q : S5) (x2 : Int64) (x4 : Int64) (x6 : Int64) (x8 : Int64) (x10 : Int32) (x11 : Int32) : Option (Int32) :=
  x_loop (fun (k : S5 × S5 × Int64 × Int64 × Int64 × Int64 × Int32 × Int32 → Option (Int32)) (z : S5 × S5 × Int64 × Int64 × Int64 × Int64 × Int32 × Int32) => f_X5_compareWith_p45  (fun s q x2 x4 x6 x8 x10 x11 => k (s, q, x2, x4, x6, x8, x10, x11)) z.1 z.2.1 z.2.2.1 z.2.2.2.1 z.2.2.2.2.1 z.2.2.2.2.2.1 z.2.2.2.2.2.2.1 z.2.2.2.2.2.2.2) FU (s, q, x2, x4, x6, x8, x10, x11)
noncomputable def f_X5_compareWith  (s : S5) (q : S5) : Option (Int32) :=
  Option.bind (f_X5_isNone s) (fun v1 => (if v1 = 0 then Option.bind (f_X5_isNone q) (fun v4 => (if v4 = 0 then lp_X5_compareWith_p45  s q (g5_upper s) (g5_lower s) (g5_upper q) (g5_lower q) 1 0 else some 0)) else some 0))
abbrev rm_X1_compareRates : Room := { frames := 3, cells := 0, slots := 0, locals := 69 }
noncomputable def f_X1_compareRates  (s : S1) (x1 : Int32) (x2 : Int32) : Option (Int32 × S1) :=
  Option.bind (f_X1_putRate_i13 s x1) (fun v1 => Option.bind (f_X1_putRate_i14 v1 x2) (fun v3 => Option.bind (f_X5_compareWith (g1_first v3) (g1_second v3)) (fun v5 => some (v5, v3))))
abbrev rm_X1_placeOf : Room := { frames := 4, cells := 0, slots := 0, locals := 91 }
noncomputable def f_X1_placeOf_p4 (k4 : S1 → Int32 → Int32 → Int32 → Option (Int32 × S1)) (s : S1) (x1 : Int32) (x2 : Int32) (x3 : Int32) : Option (Int32 × S1) :=
  (if (g1_fleets s) ≤ x3 then some (x2, s) else (if x3 = x1 then k4 s x1 x2 (x3 + 1) else Option.bind (f_X1_isRated s x3) (fun v3 => (if v3 = 0 then k4 s x1 x2 (x3 + 1) else Option.bind (f_X1_compareRates s x3 x1) (fun v6 => (if 0 < v6.1 then k4 v6.2 x1 (x2 + (1 : Int32)) (x3 + 1) else (if v6.1 = 0 then (if x1 ≤ x3 then k4 v6.2 x1 (x2 + (0 : Int32)) (x3 + 1) else k4 v6.2 x1 (x2 + (1 : Int32)) (x3 + 1)) else k4 v6.2 x1 (x2 + (0 : Int32)) (x3 + 1))))))))
noncomputable def lp_X1_placeOf_p4  (s : S1) (x1 : Int32) (x2 : Int32) (x3 : Int32) : Option (Int32 × S1) :=
  x_loop (fun (k : S1 × Int32 × Int32 × Int32 → Option (Int32 × S1)) (z : S1 × Int32 × Int32 × Int32) => f_X1_placeOf_p4  (fun s x1 x2 x3 => k (s, x1, x2, x3)) z.1 z.2.1 z.2.2.1 z.2.2.2) FU (s, x1, x2, x3)
noncomputable def f_X1_placeOf  (s : S1) (x1 : Int32) : Option (Int32 × S1) :=
  lp_X1_placeOf_p4  s x1 0 0
abbrev rm_X7_ranked : Room := { frames := 5, cells := 0, slots := 0, locals := 115 }
noncomputable def f_X7_ranked_p13 (k13 : S7 → Int32 → Int32 → Option (Int32 × S7)) (s : S7) (x1 : Int32) (x2 : Int32) : Option (Int32 × S7) :=
  (if (g0_fleets (g7_book s)) ≤ x2 then some ((-1), s) else Option.bind (f_X1_isRated (g7_ledger s) x2) (fun v2 => (if v2 = 0 then k13 s x1 (x2 + 1) else Option.bind (f_X1_placeOf (g7_ledger s) x2) (fun v5 => (if v5.1 = x1 then some (x2, (u7_ledger s v5.2)) else k13 (u7_ledger s v5.2) x1 (x2 + 1))))))
noncomputable def lp_X7_ranked_p13  (s : S7) (x1 : Int32) (x2 : Int32) : Option (Int32 × S7) :=
  x_loop (fun (k : S7 × Int32 × Int32 → Option (Int32 × S7)) (z : S7 × Int32 × Int32) => f_X7_ranked_p13  (fun s x1 x2 => k (s, x1, x2)) z.1 z.2.1 z.2.2) FU (s, x1, x2)
noncomputable def f_X7_ranked  (s : S7) (x1 : Int32) : Option (Int32 × S7) :=
  Option.bind (f_X1_reckon (g7_ledger s) (g7_book s)) (fun v1 => lp_X7_ranked_p13  (u7_ledger s v1) x1 0)
abbrev rm_X0_placeOf : Room := { frames := 2, cells := 0, slots := 0, locals := 42 }
noncomputable def f_X0_placeOf_p4 (k4 : S0 → Int32 → Int32 → Int32 → Option (Int32)) (s : S0) (x1 : Int32) (x2 : Int32) (x3 : Int32) : Option (Int32) :=
  (if (g0_claims s) ≤ x3 then some x2 else Option.bind (f_X0_fleetOf s x3) (fun v2 => Option.bind (f_X0_fleetOf s x1) (fun v4 => (if v2 = v4 then Option.bind (f_X0_amountOf s x3) (fun v7 => Option.bind (f_X0_amountOf s x1) (fun v9 => (if v9 < v7 then k4 s x1 (x2 + 1) (x3 + 1) else Option.bind (f_X0_amountOf s x3) (fun v12 => Option.bind (f_X0_amountOf s x1) (fun v14 => (if v12 = v14 then (if x1 ≤ x3 then k4 s x1 x2 (x3 + 1) else k4 s x1 (x2 + 1) (x3 + 1)) else k4 s x1 x2 (x3 + 1))))))) else k4 s x1 x2 (x3 + 1)))))
noncomputable def lp_X0_placeOf_p4  (s : S0) (x1 : Int32) (x2 : Int32) (x3 : Int32) : Option (Int32) :=
  x_loop (fun (k : S0 × Int32 × Int32 × Int32 → Option (Int32)) (z : S0 × Int32 × Int32 × Int32) => f_X0_placeOf_p4  (fun s x1 x2 x3 => k (s, x1, x2, x3)) z.1 z.2.1 z.2.2.1 z.2.2.2) FU (s, x1, x2, x3)
noncomputable def f_X0_placeOf  (s : S0) (x1 : Int32) : Option (Int32) :=
  lp_X0_placeOf_p4  s x1 0 0
abbrev rm_X7_greatest : Room := { frames := 3, cells := 0, slots := 0, locals := 65 }
noncomputable def f_X7_greatest_p2 (k2 : S7 → Int32 → Int32 → Int32 → Option (Int32)) (s : S7) (x1 : Int32) (x2 : Int32) (x3 : Int32) : Option (Int32) :=
  (if (g0_claims (g7_book s)) ≤ x3 then some (-1) else Option.bind (f_X0_fleetOf (g7_book s) x3) (fun v2 => (if v2 = x1 then Option.bind (f_X0_placeOf (g7_book s) x3) (fun v5 => (if v5 = x2 then some x3 else k2 s x1 x2 (x3 + 1))) else k2 s x1 x2 (x3 + 1))))
noncomputable def lp_X7_greatest_p2  (s : S7) (x1 : Int32) (x2 : Int32) (x3 : Int32) : Option (Int32) :=
  x_loop (fun (k : S7 × Int32 × Int32 × Int32 → Option (Int32)) (z : S7 × Int32 × Int32 × Int32) => f_X7_greatest_p2  (fun s x1 x2 x3 => k (s, x1, x2, x3)) z.1 z.2.1 z.2.2.1 z.2.2.2) FU (s, x1, x2, x3)
noncomputable def f_X7_greatest  (s : S7) (x1 : Int32) (x2 : Int32) : Option (Int32) :=
  lp_X7_greatest_p2  s x1 x2 0
abbrev rm_X7_worst : Room := { frames := 4, cells := 0, slots := 0, locals := 91 }
noncomputable def f_X7_worst_p25 (k25 : S7 → Int32 → Int32 → Int32 → Option (Int32 × S7)) (s : S7) (x1 : Int32) (x2 : Int32) (x3 : Int32) : Option (Int32 × S7) :=
  (if (g0_fleets (g7_book s)) ≤ x3 then some (x2, s) else Option.bind (f_X0_isInsured (g7_book s) x3 x1) (fun v2 => (if v2 = 0 then k25 s x1 x2 (x3 + 1) else (if x2 = (-2) then k25 s x1 x3 (x3 + 1) else Option.bind (f_X1_lossOf (g7_ledger s) x3 x1) (fun v6 => Option.bind (f_X1_lossOf (g7_ledger s) x2 x1) (fun v8 => (if v6 ≤ v8 then k25 s x1 x2 (x3 + 1) else k25 s x1 x3 (x3 + 1))))))))
noncomputable def lp_X7_worst_p25  (s : S7) (x1 : Int32) (x2 : Int32) (x3 : Int32) : Option (Int32 × S7) :=
  x_loop (fun (k : S7 × Int32 × Int32 × Int32 → Option (Int32 × S7)) (z : S7 × Int32 × Int32 × Int32) => f_X7_worst_p25  (fun s x1 x2 x3 => k (s, x1, x2, x3)) z.1 z.2.1 z.2.2.1 z.2.2.2) FU (s, x1, x2, x3)
noncomputable def f_X7_worst  (s : S7) (x1 : Int32) : Option (Int32 × S7) :=
  Option.bind (f_X7_isYear x1) (fun v1 => (if v1 = 0 then some ((-1), s) else Option.bind (f_X1_reckon (g7_ledger s) (g7_book s)) (fun v4 => lp_X7_worst_p25  (u7_ledger s v4) x1 (-2) 0)))
abbrev rm_X7_dearestOf : Room := { frames := 4, cells := 0, slots := 0, locals := 91 }
noncomputable def f_X7_dearestOf_p25 (k25 : S7 → Int32 → Int32 → Int32 → Option (Int32 × S7)) (s : S7) (x1 : Int32) (x2 : Int32) (x3 : Int32) : Option (Int32 × S7) :=
  (if (g0_fleets (g7_book s)) ≤ x3 then some (x2, s) else Option.bind (f_X0_classOf (g7_book s) x3) (fun v2 => (if v2 = x1 then Option.bind (f_X1_isRated (g7_ledger s) x3) (fun v5 => (if v5 = 0 then k25 s x1 x2 (x3 + 1) else (if x2 = (-2) then k25 s x1 x3 (x3 + 1) else Option.bind (f_X1_compareRates (g7_ledger s) x3 x2) (fun v9 => (if v9.1 ≤ 0 then k25 (u7_ledger s v9.2) x1 x2 (x3 + 1) else k25 (u7_ledger s v9.2) x1 x3 (x3 + 1)))))) else k25 s x1 x2 (x3 + 1))))
noncomputable def lp_X7_dearestOf_p25  (s : S7) (x1 : Int32) (x2 : Int32) (x3 : Int32) : Option (Int32 × S7) :=
  x_loop (fun (k : S7 × Int32 × Int32 × Int32 → Option (Int32 × S7)) (z : S7 × Int32 × Int32 × Int32) => f_X7_dearestOf_p25  (fun s x1 x2 x3 => k (s, x1, x2, x3)) z.1 z.2.1 z.2.2.1 z.2.2.2) FU (s, x1, x2, x3)
noncomputable def f_X7_dearestOf  (s : S7) (x1 : Int32) : Option (Int32 × S7) :=
  Option.bind (f_X7_isClass x1) (fun v1 => (if v1 = 0 then some ((-1), s) else Option.bind (f_X1_reckon (g7_ledger s) (g7_book s)) (fun v4 => lp_X7_dearestOf_p25  (u7_ledger s v4) x1 (-2) 0)))
abbrev rm_X0_claimsOfYear : Room := { frames := 2, cells := 0, slots := 0, locals := 42 }
noncomputable def f_X0_claimsOfYear_p4 (k4 : S0 → Int32 → Int32 → Int32 → Option (Int32)) (s : S0) (x1 : Int32) (x2 : Int32) (x3 : Int32) : Option (Int32) :=
  (if (g0_claims s) ≤ x3 then some x2 else Option.bind (f_X0_yearOf s x3) (fun v2 => (if v2 = x1 then k4 s x1 (x2 + (1 : Int32)) (x3 + 1) else k4 s x1 (x2 + (0 : Int32)) (x3 + 1))))
noncomputable def lp_X0_claimsOfYear_p4  (s : S0) (x1 : Int32) (x2 : Int32) (x3 : Int32) : Option (Int32) :=
  x_loop (fun (k : S0 × Int32 × Int32 × Int32 → Option (Int32)) (z : S0 × Int32 × Int32 × Int32) => f_X0_claimsOfYear_p4  (fun s x1 x2 x3 => k (s, x1, x2, x3)) z.1 z.2.1 z.2.2.1 z.2.2.2) FU (s, x1, x2, x3)
noncomputable def f_X0_claimsOfYear  (s : S0) (x1 : Int32) : Option (Int32) :=
  lp_X0_claimsOfYear_p4  s x1 0 0
abbrev rm_X7_claimsIn : Room := { frames := 3, cells := 0, slots := 0, locals := 65 }
noncomputable def f_X7_claimsIn  (s : S7) (x1 : Int32) : Option (Int32) :=
  Option.bind (f_X7_isYear x1) (fun v1 => (if v1 = 0 then some (-1) else Option.bind (f_X0_claimsOfYear (g7_book s) x1) (fun v4 => some v4)))
abbrev rm_X7_gap : Room := { frames := 5, cells := 0, slots := 0, locals := 113 }
noncomputable def f_X7_gap  (s : S7) (x1 : Int32) (x2 : Int32) : Option (Int32 × S7) :=
  Option.bind (f_X7_rateIn_i3 s x1) (fun v1 => Option.bind (f_X7_rateIn_i3 v1.2 x2) (fun v3 => (if v1.1 < 0 then some ((-1000000), v3.2) else (if 0 ≤ v3.1 then some ((v1.1 - v3.1), v3.2) else some ((-1000000), v3.2)))))
abbrev rm_X7_premium : Room := { frames := 5, cells := 0, slots := 0, locals := 113 }
noncomputable def f_X7_premium  (s : S7) (x1 : Int32) (x2 : Int32) : Option (Int32 × S7) :=
  (if x2 < 1 then some ((-1), s) else (if x2 ≤ 60 then Option.bind (f_X7_rateIn_i3 s x1) (fun v3 => (if 0 ≤ v3.1 then some (((v3.1 * x2) / 12), v3.2) else some (v3.1, v3.2))) else some ((-1), s)))
abbrev rm_X1_shareBySpan : Room := { frames := 1, cells := 0, slots := 0, locals := 25 }
noncomputable def f_X1_shareBySpan  (s : S1) (x1 : Int32) (x2 : Int32) : Option (Int32) :=
  Option.bind (f_X1_hasRow s x1) (fun v1 => (if v1 = 0 then some 0 else Option.bind (x_rd 8 (g1_classes s) x1) (fun v5 => Option.bind (f_X1_poolOf s v5) (fun v6 => (if v6 = 7 then Option.bind (f_X4_shareBySpan (g1_poolA s) x2) (fun v9 => some v9) else (if v6 = 9 then Option.bind (f_X4_shareBySpan (g1_poolB s) x2) (fun v12 => some v12) else (if v6 = 11 then Option.bind (f_X4_shareBySpan (g1_poolC s) x2) (fun v15 => some v15) else none)))))))
abbrev rm_X7_shareBy : Room := { frames := 4, cells := 0, slots := 0, locals := 91 }
noncomputable def f_X7_shareBy  (s : S7) (x1 : Int32) (x2 : Int32) : Option (Int32 × S7) :=
  Option.bind (f_X0_hasFleet (g7_book s) x1) (fun v1 => (if v1 = 0 then some ((-1), s) else (if x2 < 1 then some ((-1), s) else (if x2 ≤ 99 then Option.bind (f_X1_reckon (g7_ledger s) (g7_book s)) (fun v6 => Option.bind (f_X1_isRated v6 x1) (fun v8 => (if v8 = 0 then some ((-2), (u7_ledger s v6)) else Option.bind (f_X1_shareBySpan v6 x1 x2) (fun v11 => some (v11, (u7_ledger s v6)))))) else some ((-1), s)))))
abbrev rm_X7_yearsFor : Room := { frames := 4, cells := 0, slots := 0, locals := 91 }
noncomputable def f_X7_yearsFor_p52 (k52 : S7 → Int32 → Int32 → Int32 → Option (Int32 × S7)) (s : S7) (x1 : Int32) (x2 : Int32) (x3 : Int32) : Option (Int32 × S7) :=
  (if 99 < x3 then some ((-2), s) else Option.bind (f_X1_shareBySpan (g7_ledger s) x1 x3) (fun v2 => (if v2 < x2 then k52 s x1 x2 (x3 + 1) else some (x3, s))))
noncomputable def lp_X7_yearsFor_p52  (s : S7) (x1 : Int32) (x2 : Int32) (x3 : Int32) : Option (Int32 × S7) :=
  x_loop (fun (k : S7 × Int32 × Int32 × Int32 → Option (Int32 × S7)) (z : S7 × Int32 × Int32 × Int32) => f_X7_yearsFor_p52  (fun s x1 x2 x3 => k (s, x1, x2, x3)) z.1 z.2.1 z.2.2.1 z.2.2.2) FU (s, x1, x2, x3)
noncomputable def f_X7_yearsFor  (s : S7) (x1 : Int32) (x2 : Int32) : Option (Int32 × S7) :=
  Option.bind (f_X0_hasFleet (g7_book s) x1) (fun v1 => (if v1 = 0 then some ((-1), s) else (if x2 < 1 then some ((-1), s) else (if x2 ≤ 1000 then Option.bind (f_X1_reckon (g7_ledger s) (g7_book s)) (fun v6 => Option.bind (f_X1_isRated v6 x1) (fun v8 => (if v8 = 0 then some ((-2), (u7_ledger s v6)) else lp_X7_yearsFor_p52  (u7_ledger s v6) x1 x2 1))) else some ((-1), s)))))
abbrev rm_X7_rateIn_i7 : Room := { frames := 4, cells := 0, slots := 0, locals := 91 }
noncomputable def f_X7_rateIn_i7  (s : S7) (x2 : Int32) : Option (Int32 × S7) :=
  Option.bind (f_X0_hasFleet (g7_trial s) x2) (fun v1 => (if v1 = 0 then some ((-1), s) else Option.bind (f_X1_reckon (g7_ledger s) (g7_trial s)) (fun v4 => Option.bind (f_X1_rateCut v4 x2) (fun v6 => some (v6.1, (u7_ledger s v6.2))))))
abbrev rm_X7_inClass : Room := { frames := 5, cells := 0, slots := 0, locals := 113 }
noncomputable def f_X7_inClass  (s : S7) (x1 : Int32) (x2 : Int32) : Option (Int32 × S7) :=
  Option.bind (f_X0_hasFleet (g7_book s) x1) (fun v1 => (if v1 = 0 then some ((-1), s) else Option.bind (f_X7_isClass x2) (fun v4 => (if v4 = 0 then some ((-1), s) else Option.bind (f_X0_copyFrom (g7_trial s) (g7_book s)) (fun v7 => Option.bind (f_X0_putClass v7 x1 x2) (fun v9 => Option.bind (f_X7_rateIn_i7 (u7_trial s v9) x1) (fun v11 => some (v11.1, v11.2))))))))
abbrev rm_X7_bestClass : Room := { frames := 6, cells := 0, slots := 0, locals := 135 }
noncomputable def f_X7_bestClass_p18 (k18 : S7 → Int32 → Int32 → Int32 → Int32 → Option (Int32 × S7)) (s : S7) (x1 : Int32) (x2 : Int32) (x3 : Int32) (x4 : Int32) : Option (Int32 × S7) :=
  (if 3 ≤ x4 then some (x3, s) else Option.bind (f_X7_inClass s x1 x4) (fun v2 => (if x2 ≤ v2.1 then k18 v2.2 x1 x2 x3 (x4 + 1) else k18 v2.2 x1 v2.1 x4 (x4 + 1))))
noncomputable def lp_X7_bestClass_p18  (s : S7) (x1 : Int32) (x2 : Int32) (x3 : Int32) (x4 : Int32) : Option (Int32 × S7) :=
  x_loop (fun (k : S7 × Int32 × Int32 × Int32 × Int32 → Option (Int32 × S7)) (z : S7 × Int32 × Int32 × Int32 × Int32) => f_X7_bestClass_p18  (fun s x1 x2 x3 x4 => k (s, x1, x2, x3, x4)) z.1 z.2.1 z.2.2.1 z.2.2.2.1 z.2.2.2.2) FU (s, x1, x2, x3, x4)
noncomputable def f_X7_bestClass  (s : S7) (x1 : Int32) : Option (Int32 × S7) :=
  Option.bind (f_X7_inClass s x1 0) (fun v1 => (if 0 ≤ v1.1 then lp_X7_bestClass_p18  v1.2 x1 v1.1 0 1 else some (v1.1, v1.2)))
abbrev rm_X7_byCap : Room := { frames := 5, cells := 0, slots := 0, locals := 113 }
noncomputable def f_X7_byCap  (s : S7) (x1 : Int32) (x2 : Int32) : Option (Int32 × S7) :=
  Option.bind (f_X0_hasFleet (g7_book s) x1) (fun v1 => (if v1 = 0 then some ((-1), s) else Option.bind (f_X7_isAmount x2) (fun v4 => (if v4 = 0 then some ((-1), s) else Option.bind (f_X0_copyFrom (g7_trial s) (g7_book s)) (fun v7 => Option.bind (f_X7_rateIn_i7 (u7_trial s (u0_cap v7 x2)) x1) (fun v9 => some (v9.1, v9.2)))))))
abbrev rm_X7_capFor : Room := { frames := 6, cells := 0, slots := 0, locals := 135 }
noncomputable def f_X7_capFor_p16 (k16 : S7 → Int32 → Int32 → Int32 → Option (Int32 × S7)) (s : S7) (x1 : Int32) (x2 : Int32) (x3 : Int32) : Option (Int32 × S7) :=
  (if 99 ≤ x3 then some (99, s) else Option.bind (f_X7_byCap s x1 x3) (fun v2 => (if v2.1 = x2 then some (x3, v2.2) else k16 v2.2 x1 x2 (x3 + 1))))
noncomputable def lp_X7_capFor_p16  (s : S7) (x1 : Int32) (x2 : Int32) (x3 : Int32) : Option (Int32 × S7) :=
  x_loop (fun (k : S7 × Int32 × Int32 × Int32 → Option (Int32 × S7)) (z : S7 × Int32 × Int32 × Int32) => f_X7_capFor_p16  (fun s x1 x2 x3 => k (s, x1, x2, x3)) z.1 z.2.1 z.2.2.1 z.2.2.2) FU (s, x1, x2, x3)
noncomputable def f_X7_capFor  (s : S7) (x1 : Int32) : Option (Int32 × S7) :=
  Option.bind (f_X7_byCap s x1 99) (fun v1 => (if 0 ≤ v1.1 then lp_X7_capFor_p16  v1.2 x1 v1.1 1 else some (v1.1, v1.2)))
abbrev rm_X7_tryEarly : Room := { frames := 5, cells := 0, slots := 0, locals := 114 }
noncomputable def f_X7_tryEarly  (s : S7) (x1 : Int32) : Option (S7) :=
  Option.bind (f_X0_copyFrom (g7_trial s) (g7_book s)) (fun v1 => Option.bind (f_X0_endYearsOfAll v1 ((31 : Int32) &&& ((-1 : Int32) <<< (x1 &&& 31)))) (fun v3 => some (u7_trial s v3)))
abbrev rm_X7_early : Room := { frames := 6, cells := 0, slots := 0, locals := 135 }
noncomputable def f_X7_early  (s : S7) (x1 : Int32) (x2 : Int32) : Option (Int32 × S7) :=
  Option.bind (f_X0_hasFleet (g7_book s) x1) (fun v1 => (if v1 = 0 then some ((-1), s) else (if x2 < 1 then some ((-1), s) else (if x2 ≤ 5 then Option.bind (f_X7_tryEarly s x2) (fun v6 => Option.bind (f_X7_rateIn_i7 v6 x1) (fun v8 => some (v8.1, v8.2))) else some ((-1), s)))))
abbrev rm_X7_earlyShare : Room := { frames := 6, cells := 0, slots := 0, locals := 135 }
noncomputable def f_X7_earlyShare  (s : S7) (x1 : Int32) (x2 : Int32) : Option (Int32 × S7) :=
  Option.bind (f_X0_hasFleet (g7_book s) x1) (fun v1 => (if v1 = 0 then some ((-1), s) else (if x2 < 1 then some ((-1), s) else (if x2 ≤ 5 then Option.bind (f_X7_tryEarly s x2) (fun v6 => Option.bind (f_X1_reckon (g7_ledger v6) (g7_trial v6)) (fun v8 => Option.bind (f_X1_shareOf v8 x1) (fun v10 => some (v10, (u7_ledger v6 v8))))) else some ((-1), s)))))
abbrev rm_X7_withoutFleet : Room := { frames := 5, cells := 0, slots := 0, locals := 113 }
noncomputable def f_X7_withoutFleet_p65  (s : S7) (y2 : Int32) : Option (Int32 × S7) :=
  Option.bind (f_X7_rateIn_i7 s y2) (fun v1 => some (v1.1, v1.2))
noncomputable def f_X7_withoutFleet  (s : S7) (x1 : Int32) (x2 : Int32) : Option (Int32 × S7) :=
  Option.bind (f_X0_hasFleet (g7_book s) x1) (fun v1 => (if v1 = 0 then some ((-1), s) else Option.bind (f_X0_hasFleet (g7_book s) x2) (fun v4 => (if v4 = 0 then some ((-1), s) else (if x1 = x2 then some ((-1), s) else Option.bind (f_X0_copyFrom (g7_trial s) (g7_book s)) (fun v8 => Option.bind (f_X0_dropFleet v8 x2) (fun v10 => (if x1 ≤ x2 then f_X7_withoutFleet_p65  (u7_trial s v10) x1 else f_X7_withoutFleet_p65  (u7_trial s v10) (x1 - (1 : Int32))))))))))
abbrev rm_X7_spreadIn_i7 : Room := { frames := 4, cells := 0, slots := 0, locals := 91 }
noncomputable def f_X7_spreadIn_i7  (s : S7) (x2 : Int32) (x3 : Int32) (x4 : Int32) : Option (Int64 × S7) :=
  Option.bind (f_X1_reckon (g7_ledger s) (g7_trial s)) (fun v1 => Option.bind (f_X1_putSpread v1 (g7_told s) x2 x3) (fun v3 => Option.bind (f_X5_part v3 x4) (fun v5 => some (v5, (u7_told (u7_ledger s v1) v3)))))
abbrev rm_X7_joined : Room := { frames := 5, cells := 0, slots := 0, locals := 115 }
noncomputable def f_X7_joined  (s : S7) (x1 : Int32) (x2 : Int32) (x3 : Int32) (x4 : Int32) : Option (Int64 × S7) :=
  Option.bind (f_X7_isClass x1) (fun v1 => (if v1 = 0 then some ((-1000000000), s) else Option.bind (f_X7_isClass x2) (fun v4 => (if v4 = 0 then some ((-1000000000), s) else (if x1 = x2 then some ((-1000000000), s) else Option.bind (f_X0_copyFrom (g7_trial s) (g7_book s)) (fun v8 => Option.bind (f_X0_moveAll v8 x1 x2) (fun v10 => Option.bind (f_X7_spreadIn_i7 (u7_trial s v10.2) x2 x3 x4) (fun v12 => some (v12.1, v12.2)))))))))
abbrev rm_X7_withoutClaim : Room := { frames := 5, cells := 0, slots := 0, locals := 113 }
noncomputable def f_X7_withoutClaim  (s : S7) (x1 : Int32) (x2 : Int32) : Option (Int32 × S7) :=
  Option.bind (f_X0_hasFleet (g7_book s) x1) (fun v1 => (if v1 = 0 then some ((-1), s) else Option.bind (f_X0_hasClaim (g7_book s) x2) (fun v4 => (if v4 = 0 then some ((-1), s) else Option.bind (f_X0_copyFrom (g7_trial s) (g7_book s)) (fun v7 => Option.bind (f_X0_dropClaim v7 x2) (fun v9 => Option.bind (f_X7_rateIn_i7 (u7_trial s v9) x1) (fun v11 => some (v11.1, v11.2))))))))
abbrev rm_X7_keepRatesNow : Room := { frames := 4, cells := 0, slots := 0, locals := 91 }
noncomputable def f_X7_keepRatesNow_p13 (k13 : S7 → Int32 → Option (S7)) (s : S7) (x1 : Int32) : Option (S7) :=
  (if 8 ≤ x1 then some s else Option.bind (f_X1_rateCut (g7_ledger s) x1) (fun v2 => Option.bind (x_wr 8 (g7_ratesNow s) x1 v2.1) (fun w5 => k13 (u7_ratesNow (u7_ledger s v2.2) w5) (x1 + 1))))
noncomputable def lp_X7_keepRatesNow_p13  (s : S7) (x1 : Int32) : Option (S7) :=
  x_loop (fun (k : S7 × Int32 → Option (S7)) (z : S7 × Int32) => f_X7_keepRatesNow_p13  (fun s x1 => k (s, x1)) z.1 z.2) FU (s, x1)
noncomputable def f_X7_keepRatesNow  (s : S7) : Option (S7) :=
  Option.bind (f_X1_reckon (g7_ledger s) (g7_book s)) (fun v1 => lp_X7_keepRatesNow_p13  (u7_ledger s v1) 0)
abbrev rm_X7_dearest : Room := { frames := 6, cells := 0, slots := 0, locals := 135 }
noncomputable def f_X7_dearest_p11 (k11 : S7 → Int32 → Int32 → Int32 → Option (Int32 × S7)) (s : S7) (x1 : Int32) (x2 : Int32) (x3 : Int32) : Option (Int32 × S7) :=
  (if (g0_claims (g7_book s)) ≤ x3 then some (x1, s) else Option.bind (f_X0_fleetOf (g7_book s) x3) (fun v2 => Option.bind (f_X0_hasFleet (g7_book s) v2) (fun v4 => (if v4 = 0 then k11 s x1 x2 (x3 + 1) else Option.bind (x_rd 8 (g7_ratesNow s) v2) (fun v8 => Option.bind (f_X7_withoutClaim s v2 x3) (fun v9 => (if x1 = (-2) then k11 v9.2 x3 (v8 - v9.1) (x3 + 1) else (if (v8 - v9.1) ≤ x2 then k11 v9.2 x1 x2 (x3 + 1) else k11 v9.2 x3 (v8 - v9.1) (x3 + 1)))))))))
noncomputable def lp_X7_dearest_p11  (s : S7) (x1 : Int32) (x2 : Int32) (x3 : Int32) : Option (Int32 × S7) :=
  x_loop (fun (k : S7 × Int32 × Int32 × Int32 → Option (Int32 × S7)) (z : S7 × Int32 × Int32 × Int32) => f_X7_dearest_p11  (fun s x1 x2 x3 => k (s, x1, x2, x3)) z.1 z.2.1 z.2.2.1 z.2.2.2) FU (s, x1, x2, x3)
noncomputable def f_X7_dearest  (s : S7) : Option (Int32 × S7) :=
  Option.bind (f_X7_keepRatesNow s) (fun v1 => lp_X7_dearest_p11  v1 (-2) 0 0)
abbrev rm_X3_begin : Room := { frames := 0, cells := 0, slots := 0, locals := 0 }
noncomputable def f_X3_begin  (s : S3) (x1 : Int32) : Option (S3) :=
  some (u3_found (u3_written (u3_wanted s x1) 0) (-2))
abbrev rm_X3_writeByte : Room := { frames := 0, cells := 0, slots := 0, locals := 0 }
noncomputable def f_X3_writeByte  (s : S3) (x1 : Int32) : Option (S3) :=
  (if (g3_written s) = (g3_wanted s) then some (u3_written (u3_found s x1) ((g3_written s) + (1 : Int32))) else some (u3_written s ((g3_written s) + (1 : Int32))))
abbrev rm_X3_writeBehind : Room := { frames := 1, cells := 0, slots := 0, locals := 21 }
noncomputable def f_X3_writeBehind_p42 (k11 : S3 → Int32 → Int32 → Int32 → Option (S3)) (s : S3) (x1 : Int32) (x3 : Int32) (x4 : Int32) (y0 : Int32) : Option (S3) :=
  (if y0 = 0 then k11 s x1 y0 (x3 / 10) else Option.bind (f_X3_writeByte s ((48 : Int32) + x4)) (fun v2 => k11 v2 x1 y0 (x3 / 10)))
noncomputable def f_X3_writeBehind_p37 (k11 : S3 → Int32 → Int32 → Int32 → Option (S3)) (s : S3) (x1 : Int32) (x3 : Int32) (x4 : Int32) : Option (S3) :=
  f_X3_writeBehind_p42 k11 s x1 x3 x4 1
noncomputable def f_X3_writeBehind_p11 (k11 : S3 → Int32 → Int32 → Int32 → Option (S3)) (s : S3) (x1 : Int32) (x2 : Int32) (x3 : Int32) : Option (S3) :=
  (if x3 ≤ 0 then some s else Option.bind (x_nz x3) (fun u3 => (if x2 = 0 then (if 0 < ((x1 / x3) - (x1 / x3) / 10 * 10) then f_X3_writeBehind_p37 k11 s x1 x3 ((x1 / x3) - (x1 / x3) / 10 * 10) else (if x3 = 1 then f_X3_writeBehind_p37 k11 s x1 x3 ((x1 / x3) - (x1 / x3) / 10 * 10) else f_X3_writeBehind_p42 k11 s x1 x3 ((x1 / x3) - (x1 / x3) / 10 * 10) 0)) else f_X3_writeBehind_p37 k11 s x1 x3 ((x1 / x3) - (x1 / x3) / 10 * 10))))
noncomputable def lp_X3_writeBehind_p11  (s : S3) (x1 : Int32) (x2 : Int32) (x3 : Int32) : Option (S3) :=
  x_loop (fun (k : S3 × Int32 × Int32 × Int32 → Option (S3)) (z : S3 × Int32 × Int32 × Int32) => f_X3_writeBehind_p11  (fun s x1 x2 x3 => k (s, x1, x2, x3)) z.1 z.2.1 z.2.2.1 z.2.2.2) FU (s, x1, x2, x3)
noncomputable def f_X3_writeBehind  (s : S3) (x1 : Int32) : Option (S3) :=
  Option.bind (f_X3_writeByte s 32) (fun v1 => lp_X3_writeBehind_p11  v1 x1 0 1000000000)
abbrev rm_X3_writeNamed : Room := { frames := 4, cells := 0, slots := 0, locals := 101 }
noncomputable def f_X3_writeNamed_p2 (k2 : S3 → Nat → Int32 → Int32 → Option (S3)) (s : S3) (n1 : Nat) (x2 : Int32) (x3 : Int32) : Option (S3) :=
  Option.bind (x_slen n1) (fun v1 => (if v1 ≤ x3 then Option.bind (f_X3_writeBehind s x2) (fun v4 => some v4) else Option.bind (x_schr n1 x3) (fun v6 => Option.bind (f_X3_writeByte s v6) (fun v8 => k2 v8 n1 x2 (x3 + 1)))))
noncomputable def lp_X3_writeNamed_p2  (s : S3) (n1 : Nat) (x2 : Int32) (x3 : Int32) : Option (S3) :=
  x_loop (fun (k : S3 × Int32 × Int32 → Option (S3)) (z : S3 × Int32 × Int32) => f_X3_writeNamed_p2  (fun s n1 x2 x3 => k (s, x2, x3)) z.1 n1 z.2.1 z.2.2) FU (s, x2, x3)
noncomputable def f_X3_writeNamed  (s : S3) (n1 : Nat) (x2 : Int32) : Option (S3) :=
  lp_X3_writeNamed_p2  s n1 x2 0
abbrev rm_X3_writeEnd : Room := { frames := 1, cells := 0, slots := 0, locals := 21 }
noncomputable def f_X3_writeEnd  (s : S3) : Option (S3) :=
  Option.bind (f_X3_writeByte s 59) (fun v1 => some v1)
abbrev rm_X3_answer : Room := { frames := 0, cells := 0, slots := 0, locals := 0 }
noncomputable def f_X3_answer  (s : S3) : Option (Int32) :=
  (if (g3_wanted s) = (-1) then some (g3_written s) else some (g3_found s))
abbrev rm_X7_report : Room := { frames := 5, cells := 0, slots := 0, locals := 124 }
noncomputable def f_X7_report_p131  (s : S7) : Option (Int32 × S7) :=
  Option.bind (f_X3_writeEnd (g7_pen s)) (fun v1 => Option.bind (f_X3_answer v1) (fun v3 => some (v3, (u7_pen s v1))))
noncomputable def f_X7_report  (s : S7) (x1 : Int32) (x2 : Int32) : Option (Int32 × S7) :=
  Option.bind (f_X0_hasFleet (g7_book s) x1) (fun v1 => (if v1 = 0 then some ((-1), s) else (if (-1) ≤ x2 then Option.bind (f_X1_reckon (g7_ledger s) (g7_book s)) (fun v5 => Option.bind (f_X3_begin (g7_pen s) x2) (fun v7 => Option.bind (f_X3_writeNamed v7 0 x1) (fun v9 => Option.bind (f_X0_classOf (g7_book s) x1) (fun v11 => Option.bind (f_X3_writeNamed v9 1 v11) (fun v13 => Option.bind (f_X1_spanOf v5 x1) (fun v15 => Option.bind (f_X3_writeNamed v13 2 v15) (fun v17 => Option.bind (f_X1_isRated v5 x1) (fun v19 => (if v19 = 0 then f_X7_report_p131  (u7_pen (u7_ledger s v5) v17) else Option.bind (f_X1_shareOf v5 x1) (fun v22 => Option.bind (f_X3_writeNamed v17 3 v22) (fun v24 => Option.bind (f_X1_rateCut v5 x1) (fun v26 => Option.bind (f_X3_writeNamed v24 4 v26.1) (fun v28 => f_X7_report_p131  (u7_pen (u7_ledger s v26.2) v28)))))))))))))) else some ((-1), s))))
abbrev rm_X7_spellFleet : Room := { frames := 5, cells := 0, slots := 0, locals := 124 }
noncomputable def f_X7_spellFleet_p20 (k20 : S7 → Int32 → Int32 → Option (S7)) (s : S7) (x1 : Int32) (x2 : Int32) : Option (S7) :=
  (if 5 ≤ x2 then Option.bind (f_X3_writeEnd (g7_pen s)) (fun v2 => some (u7_pen s v2)) else Option.bind (f_X0_isInsured (g7_book s) x1 x2) (fun v4 => (if v4 = 0 then k20 s x1 (x2 + 1) else Option.bind (f_X3_writeBehind (g7_pen s) x2) (fun v7 => k20 (u7_pen s v7) x1 (x2 + 1)))))
noncomputable def lp_X7_spellFleet_p20  (s : S7) (x1 : Int32) (x2 : Int32) : Option (S7) :=
  x_loop (fun (k : S7 × Int32 × Int32 → Option (S7)) (z : S7 × Int32 × Int32) => f_X7_spellFleet_p20  (fun s x1 x2 => k (s, x1, x2)) z.1 z.2.1 z.2.2) FU (s, x1, x2)
noncomputable def f_X7_spellFleet  (s : S7) (x1 : Int32) : Option (S7) :=
  Option.bind (f_X0_classOf (g7_book s) x1) (fun v1 => Option.bind (f_X3_writeNamed (g7_pen s) 0 v1) (fun v3 => lp_X7_spellFleet_p20  (u7_pen s v3) x1 0))
abbrev rm_X7_spellClaim : Room := { frames := 5, cells := 0, slots := 0, locals := 124 }
noncomputable def f_X7_spellClaim  (s : S7) (x1 : Int32) : Option (S7) :=
  Option.bind (f_X0_fleetOf (g7_book s) x1) (fun v1 => Option.bind (f_X3_writeNamed (g7_pen s) 7 v1) (fun v3 => Option.bind (f_X0_yearOf (g7_book s) x1) (fun v5 => Option.bind (f_X3_writeBehind v3 v5) (fun v7 => Option.bind (f_X0_amountOf (g7_book s) x1) (fun v9 => Option.bind (f_X3_writeBehind v7 v9) (fun v11 => Option.bind (f_X3_writeEnd v11) (fun v13 => some (u7_pen s v13))))))))
abbrev rm_X7_spell : Room := { frames := 6, cells := 0, slots := 0, locals := 146 }
noncomputable def f_X7_spell_p89 (k89 : S7 → Int32 → Option (Int32 × S7)) (s : S7) (x2 : Int32) : Option (Int32 × S7) :=
  (if (g0_claims (g7_book s)) ≤ x2 then Option.bind (f_X3_answer (g7_pen s)) (fun v2 => some (v2, s)) else Option.bind (f_X7_spellClaim s x2) (fun v4 => k89 v4 (x2 + 1)))
noncomputable def lp_X7_spell_p89  (s : S7) (x2 : Int32) : Option (Int32 × S7) :=
  x_loop (fun (k : S7 × Int32 → Option (Int32 × S7)) (z : S7 × Int32) => f_X7_spell_p89  (fun s x2 => k (s, x2)) z.1 z.2) FU (s, x2)
noncomputable def f_X7_spell_p65 (k65 : S7 → Int32 → Option (Int32 × S7)) (s : S7) (x2 : Int32) : Option (Int32 × S7) :=
  (if (g0_fleets (g7_book s)) ≤ x2 then lp_X7_spell_p89  s 0 else Option.bind (f_X7_spellFleet s x2) (fun v2 => k65 v2 (x2 + 1)))
noncomputable def lp_X7_spell_p65  (s : S7) (x2 : Int32) : Option (Int32 × S7) :=
  x_loop (fun (k : S7 × Int32 → Option (Int32 × S7)) (z : S7 × Int32) => f_X7_spell_p65  (fun s x2 => k (s, x2)) z.1 z.2) FU (s, x2)
noncomputable def f_X7_spell  (s : S7) (x1 : Int32) : Option (Int32 × S7) :=
  (if (-1) ≤ x1 then Option.bind (f_X3_begin (g7_pen s) x1) (fun v2 => Option.bind (f_X3_writeNamed v2 5 (g0_cap (g7_book s))) (fun v4 => Option.bind (f_X3_writeEnd v4) (fun v6 => Option.bind (f_X3_writeNamed v6 6 (g0_steady (g7_book s))) (fun v8 => Option.bind (f_X3_writeEnd v8) (fun v10 => lp_X7_spell_p65  (u7_pen s v10) 0))))) else some ((-1), s))
abbrev rm_X0_allClaimsAboveCap : Room := { frames := 3, cells := 0, slots := 0, locals := 65 }
noncomputable def f_X0_allClaimsAboveCap_p4 (k4 : S0 → Int32 → Int32 → Option (Int32)) (s : S0) (x1 : Int32) (x2 : Int32) : Option (Int32) :=
  (if (g0_fleets s) ≤ x2 then some x1 else Option.bind (f_X0_claimsAboveCap s x2) (fun v2 => k4 s (x1 + v2) (x2 + 1)))
noncomputable def lp_X0_allClaimsAboveCap_p4  (s : S0) (x1 : Int32) (x2 : Int32) : Option (Int32) :=
  x_loop (fun (k : S0 × Int32 × Int32 → Option (Int32)) (z : S0 × Int32 × Int32) => f_X0_allClaimsAboveCap_p4  (fun s x1 x2 => k (s, x1, x2)) z.1 z.2.1 z.2.2) FU (s, x1, x2)
noncomputable def f_X0_allClaimsAboveCap  (s : S0) : Option (Int32) :=
  lp_X0_allClaimsAboveCap_p4  s 0 0
abbrev rm_X0_fleetsWithoutYears : Room := { frames := 2, cells := 0, slots := 0, locals := 42 }
noncomputable def f_X0_fleetsWithoutYears_p4 (k4 : S0 → Int32 → Int32 → Option (Int32)) (s : S0) (x1 : Int32) (x2 : Int32) : Option (Int32) :=
  (if (g0_fleets s) ≤ x2 then some x1 else Option.bind (f_X0_yearsOf s x2) (fun v2 => (if v2 = 0 then k4 s (x1 + 1) (x2 + 1) else k4 s x1 (x2 + 1))))
noncomputable def lp_X0_fleetsWithoutYears_p4  (s : S0) (x1 : Int32) (x2 : Int32) : Option (Int32) :=
  x_loop (fun (k : S0 × Int32 × Int32 → Option (Int32)) (z : S0 × Int32 × Int32) => f_X0_fleetsWithoutYears_p4  (fun s x1 x2 => k (s, x1, x2)) z.1 z.2.1 z.2.2) FU (s, x1, x2)
noncomputable def f_X0_fleetsWithoutYears  (s : S0) : Option (Int32) :=
  lp_X0_fleetsWithoutYears_p4  s 0 0
abbrev rm_X0_yearsOfAll : Room := { frames := 2, cells := 0, slots := 0, locals := 42 }
noncomputable def f_X0_yearsOfAll_p4 (k4 : S0 → Int32 → Int32 → Option (Int32)) (s : S0) (x1 : Int32) (x2 : Int32) : Option (Int32) :=
  (if (g0_fleets s) ≤ x2 then some x1 else Option.bind (f_X0_yearsOf s x2) (fun v2 => k4 s (x1 ||| v2) (x2 + 1)))
noncomputable def lp_X0_yearsOfAll_p4  (s : S0) (x1 : Int32) (x2 : Int32) : Option (Int32) :=
  x_loop (fun (k : S0 × Int32 × Int32 → Option (Int32)) (z : S0 × Int32 × Int32) => f_X0_yearsOfAll_p4  (fun s x1 x2 => k (s, x1, x2)) z.1 z.2.1 z.2.2) FU (s, x1, x2)
noncomputable def f_X0_yearsOfAll  (s : S0) : Option (Int32) :=
  lp_X0_yearsOfAll_p4  s 0 0
abbrev rm_X7_count : Room := { frames := 4, cells := 0, slots := 0, locals := 87 }
noncomputable def f_X7_count  (s : S7) (x1 : Int32) : Option (Int32) :=
  (if x1 = 0 then some (g0_fleets (g7_book s)) else (if x1 = 1 then some (g0_claims (g7_book s)) else (if x1 = 2 then some (g0_cap (g7_book s)) else (if x1 = 3 then some (g0_steady (g7_book s)) else (if x1 = 4 then Option.bind (f_X2_size (g7_past s)) (fun v6 => some v6) else (if x1 = 5 then Option.bind (f_X6_size (g7_tape s)) (fun v9 => some v9) else (if x1 = 6 then Option.bind (f_X0_allClaimsAboveCap (g7_book s)) (fun v12 => some v12) else (if x1 = 7 then Option.bind (f_X0_fleetsWithoutYears (g7_book s)) (fun v15 => some v15) else (if x1 = 8 then Option.bind (f_X0_yearsOfAll (g7_book s)) (fun v18 => some v18) else some (-1))))))))))
abbrev rm_X8_in : Room := { frames := 0, cells := 0, slots := 0, locals := 0 }
noncomputable def f_X8_in  (x0 : Int32) (x1 : Int32) (x2 : Int32) : Option (Int32) :=
  (if x0 < x1 then some 0 else (if x2 < x0 then some 0 else some 1))
abbrev rm_X8_keeps : Room := { frames := 0, cells := 0, slots := 0, locals := 0 }
noncomputable def f_X8_keeps_p54 (k54 : S8 → Int32 → Option (S8)) (s : S8) (x1 : Int32) : Option (S8) :=
  (if 140 ≤ x1 then some (u8_acts s ((g8_acts s) + (1 : Int32))) else Option.bind (x_rd 140 (g8_now s) x1) (fun v3 => Option.bind (x_wr 1680 (g8_before s) (((140 : Int32) * (g8_acts s)) + x1) v3) (fun w5 => k54 (u8_before s w5) (x1 + 1))))
noncomputable def lp_X8_keeps_p54  (s : S8) (x1 : Int32) : Option (S8) :=
  x_loop (fun (k : S8 × Int32 → Option (S8)) (z : S8 × Int32) => f_X8_keeps_p54  (fun s x1 => k (s, x1)) z.1 z.2) FU (s, x1)
noncomputable def f_X8_keeps_p13 (k13 : S8 → Int32 → Option (S8)) (s : S8) (x1 : Int32) : Option (S8) :=
  (if 1680 ≤ x1 then lp_X8_keeps_p54  (u8_acts s ((g8_acts s) - (1 : Int32))) 0 else Option.bind (x_rd 1680 (g8_before s) x1) (fun v3 => Option.bind (x_wr 1680 (g8_before s) (x1 - (140 : Int32)) v3) (fun w5 => k13 (u8_before s w5) (x1 + 1))))
noncomputable def lp_X8_keeps_p13  (s : S8) (x1 : Int32) : Option (S8) :=
  x_loop (fun (k : S8 × Int32 → Option (S8)) (z : S8 × Int32) => f_X8_keeps_p13  (fun s x1 => k (s, x1)) z.1 z.2) FU (s, x1)
noncomputable def f_X8_keeps  (s : S8) : Option (S8) :=
  (if (g8_acts s) = 12 then lp_X8_keeps_p13  s 140 else lp_X8_keeps_p54  s 0)
abbrev rm_X8_putsAside : Room := { frames := 0, cells := 0, slots := 0, locals := 0 }
noncomputable def f_X8_putsAside_p2 (k2 : S8 → Int32 → Option (S8)) (s : S8) (x1 : Int32) : Option (S8) :=
  (if 140 ≤ x1 then some s else Option.bind (x_rd 140 (g8_now s) x1) (fun v3 => Option.bind (x_wr 140 (g8_aside s) x1 v3) (fun w5 => k2 (u8_aside s w5) (x1 + 1))))
noncomputable def lp_X8_putsAside_p2  (s : S8) (x1 : Int32) : Option (S8) :=
  x_loop (fun (k : S8 × Int32 → Option (S8)) (z : S8 × Int32) => f_X8_putsAside_p2  (fun s x1 => k (s, x1)) z.1 z.2) FU (s, x1)
noncomputable def f_X8_putsAside  (s : S8) : Option (S8) :=
  lp_X8_putsAside_p2  s 0
abbrev rm_X8_takesBack : Room := { frames := 0, cells := 0, slots := 0, locals := 0 }
noncomputable def f_X8_takesBack_p2 (k2 : S8 → Int32 → Option (S8)) (s : S8) (x1 : Int32) : Option (S8) :=
  (if 140 ≤ x1 then some s else Option.bind (x_rd 140 (g8_aside s) x1) (fun v3 => Option.bind (x_wr 140 (g8_now s) x1 v3) (fun w5 => k2 (u8_now s w5) (x1 + 1))))
noncomputable def lp_X8_takesBack_p2  (s : S8) (x1 : Int32) : Option (S8) :=
  x_loop (fun (k : S8 × Int32 → Option (S8)) (z : S8 × Int32) => f_X8_takesBack_p2  (fun s x1 => k (s, x1)) z.1 z.2) FU (s, x1)
noncomputable def f_X8_takesBack  (s : S8) : Option (S8) :=
  lp_X8_takesBack_p2  s 0
abbrev rm_X8_many : Room := { frames := 0, cells := 0, slots := 0, locals := 0 }
noncomputable def f_X8_many  (s : S8) : Option (Int32) :=
  Option.bind (x_rd 140 (g8_now s) 2) (fun v2 => some v2)
abbrev rm_X8_claims : Room := { frames := 0, cells := 0, slots := 0, locals := 0 }
noncomputable def f_X8_claims  (s : S8) : Option (Int32) :=
  Option.bind (x_rd 140 (g8_now s) 3) (fun v2 => some v2)
abbrev rm_X8_isFleet : Room := { frames := 1, cells := 0, slots := 0, locals := 22 }
noncomputable def f_X8_isFleet  (s : S8) (x1 : Int32) : Option (Int32) :=
  Option.bind (f_X8_many s) (fun v1 => Option.bind (f_X8_in x1 0 (v1 - (1 : Int32))) (fun v3 => Option.bind (x_zb v3) (fun v6 => some v6)))
abbrev rm_X8_isClaim : Room := { frames := 1, cells := 0, slots := 0, locals := 22 }
noncomputable def f_X8_isClaim  (s : S8) (x1 : Int32) : Option (Int32) :=
  Option.bind (f_X8_claims s) (fun v1 => Option.bind (f_X8_in x1 0 (v1 - (1 : Int32))) (fun v3 => Option.bind (x_zb v3) (fun v6 => some v6)))
abbrev rm_X8_isClass : Room := { frames := 1, cells := 0, slots := 0, locals := 22 }
noncomputable def f_X8_isClass  (x0 : Int32) : Option (Int32) :=
  Option.bind (f_X8_in x0 0 2) (fun v1 => Option.bind (x_zb v1) (fun v4 => some v4))
abbrev rm_X8_isYear : Room := { frames := 1, cells := 0, slots := 0, locals := 22 }
noncomputable def f_X8_isYear  (x0 : Int32) : Option (Int32) :=
  Option.bind (f_X8_in x0 0 4) (fun v1 => Option.bind (x_zb v1) (fun v4 => some v4))
abbrev rm_X8_isAmount : Room := { frames := 1, cells := 0, slots := 0, locals := 22 }
noncomputable def f_X8_isAmount  (x0 : Int32) : Option (Int32) :=
  Option.bind (f_X8_in x0 1 99) (fun v1 => Option.bind (x_zb v1) (fun v4 => some v4))
abbrev rm_X8_classOf : Room := { frames := 0, cells := 0, slots := 0, locals := 0 }
noncomputable def f_X8_classOf  (s : S8) (x1 : Int32) : Option (Int32) :=
  Option.bind (x_rd 140 (g8_now s) ((4 : Int32) + ((2 : Int32) * x1))) (fun v2 => some v2)
abbrev rm_X8_yearsOf : Room := { frames := 0, cells := 0, slots := 0, locals := 0 }
noncomputable def f_X8_yearsOf  (s : S8) (x1 : Int32) : Option (Int32) :=
  Option.bind (x_rd 140 (g8_now s) (((4 : Int32) + ((2 : Int32) * x1)) + (1 : Int32))) (fun v2 => some v2)
abbrev rm_X8_isInsured : Room := { frames := 1, cells := 0, slots := 0, locals := 21 }
noncomputable def f_X8_isInsured  (s : S8) (x1 : Int32) (x2 : Int32) : Option (Int32) :=
  Option.bind (f_X8_yearsOf s x1) (fun v1 => (if ((v1 >>> (x2 &&& 31)) &&& (1 : Int32)) = 1 then some 1 else some 0))
abbrev rm_X8_fleetOf : Room := { frames := 0, cells := 0, slots := 0, locals := 0 }
noncomputable def f_X8_fleetOf  (s : S8) (x1 : Int32) : Option (Int32) :=
  Option.bind (x_rd 140 (g8_now s) ((20 : Int32) + ((3 : Int32) * x1))) (fun v2 => some v2)
abbrev rm_X8_yearOf : Room := { frames := 0, cells := 0, slots := 0, locals := 0 }
noncomputable def f_X8_yearOf  (s : S8) (x1 : Int32) : Option (Int32) :=
  Option.bind (x_rd 140 (g8_now s) (((20 : Int32) + ((3 : Int32) * x1)) + (1 : Int32))) (fun v2 => some v2)
abbrev rm_X8_amountOf : Room := { frames := 0, cells := 0, slots := 0, locals := 0 }
noncomputable def f_X8_amountOf  (s : S8) (x1 : Int32) : Option (Int32) :=
  Option.bind (x_rd 140 (g8_now s) (((20 : Int32) + ((3 : Int32) * x1)) + (2 : Int32))) (fun v2 => some v2)
abbrev rm_X8_counted : Room := { frames := 1, cells := 0, slots := 0, locals := 21 }
noncomputable def f_X8_counted  (s : S8) (x1 : Int32) : Option (Int32) :=
  Option.bind (f_X8_amountOf s x1) (fun v1 => Option.bind (x_rd 140 (g8_now s) 0) (fun v4 => (if v4 ≤ v1 then Option.bind (x_rd 140 (g8_now s) 0) (fun v7 => some v7) else Option.bind (f_X8_amountOf s x1) (fun v8 => some v8))))
abbrev rm_X8_drops : Room := { frames := 1, cells := 0, slots := 0, locals := 20 }
noncomputable def f_X8_drops_p7 (k7 : S8 → Int32 → Option (S8)) (s : S8) (x2 : Int32) : Option (S8) :=
  Option.bind (f_X8_claims s) (fun v1 => (if (((20 : Int32) + ((3 : Int32) * v1)) - (3 : Int32)) ≤ x2 then Option.bind (x_rd 140 (g8_now s) 3) (fun v5 => Option.bind (x_wr 140 (g8_now s) 3 (v5 - (1 : Int32))) (fun w7 => some (u8_now s w7))) else Option.bind (x_rd 140 (g8_now s) (x2 + (3 : Int32))) (fun v9 => Option.bind (x_wr 140 (g8_now s) x2 v9) (fun w11 => k7 (u8_now s w11) (x2 + 1)))))
noncomputable def lp_X8_drops_p7  (s : S8) (x2 : Int32) : Option (S8) :=
  x_loop (fun (k : S8 × Int32 → Option (S8)) (z : S8 × Int32) => f_X8_drops_p7  (fun s x2 => k (s, x2)) z.1 z.2) FU (s, x2)
noncomputable def f_X8_drops  (s : S8) (x1 : Int32) : Option (S8) :=
  lp_X8_drops_p7  s ((20 : Int32) + ((3 : Int32) * x1))
abbrev rm_X8_dropsAll : Room := { frames := 2, cells := 0, slots := 0, locals := 42 }
noncomputable def f_X8_dropsAll_p48 (k10 : S8 → Int32 → Int32 → Int32 → Int32 → Option (Int32 × S8)) (s : S8) (x1 : Int32) (x2 : Int32) (x3 : Int32) (x4 : Int32) : Option (Int32 × S8) :=
  Option.bind (f_X8_drops s x4) (fun v1 => k10 v1 x1 x2 (x3 + 1) (x4 + (-1)))
noncomputable def f_X8_dropsAll_p30 (k10 : S8 → Int32 → Int32 → Int32 → Int32 → Option (Int32 × S8)) (s : S8) (x1 : Int32) (x2 : Int32) (x3 : Int32) (x4 : Int32) : Option (Int32 × S8) :=
  (if x2 = (-1) then f_X8_dropsAll_p48 k10 s x1 x2 x3 x4 else Option.bind (f_X8_yearOf s x4) (fun v2 => (if v2 = x2 then f_X8_dropsAll_p48 k10 s x1 x2 x3 x4 else k10 s x1 x2 x3 (x4 + (-1)))))
noncomputable def f_X8_dropsAll_p10 (k10 : S8 → Int32 → Int32 → Int32 → Int32 → Option (Int32 × S8)) (s : S8) (x1 : Int32) (x2 : Int32) (x3 : Int32) (x4 : Int32) : Option (Int32 × S8) :=
  (if x4 < 0 then some (x3, s) else (if x1 = (-1) then f_X8_dropsAll_p30 k10 s x1 x2 x3 x4 else Option.bind (f_X8_fleetOf s x4) (fun v3 => (if v3 = x1 then f_X8_dropsAll_p30 k10 s x1 x2 x3 x4 else k10 s x1 x2 x3 (x4 + (-1))))))
noncomputable def lp_X8_dropsAll_p10  (s : S8) (x1 : Int32) (x2 : Int32) (x3 : Int32) (x4 : Int32) : Option (Int32 × S8) :=
  x_loop (fun (k : S8 × Int32 × Int32 × Int32 × Int32 → Option (Int32 × S8)) (z : S8 × Int32 × Int32 × Int32 × Int32) => f_X8_dropsAll_p10  (fun s x1 x2 x3 x4 => k (s, x1, x2, x3, x4)) z.1 z.2.1 z.2.2.1 z.2.2.2.1 z.2.2.2.2) FU (s, x1, x2, x3, x4)
noncomputable def f_X8_dropsAll  (s : S8) (x1 : Int32) (x2 : Int32) : Option (Int32 × S8) :=
  Option.bind (f_X8_claims s) (fun v1 => lp_X8_dropsAll_p10  s x1 x2 0 (v1 - (1 : Int32)))
abbrev rm_X8_fleet : Room := { frames := 2, cells := 0, slots := 0, locals := 42 }
noncomputable def f_X8_fleet  (s : S8) (x1 : Int32) (x2 : Int32) : Option (Int32 × S8) :=
  Option.bind (f_X8_isClass x1) (fun v1 => (if v1 = 0 then some ((-1), s) else Option.bind (f_X8_in x2 0 31) (fun v4 => (if v4 = 0 then some ((-1), s) else Option.bind (f_X8_many s) (fun v7 => (if v7 = 8 then some ((-1), s) else Option.bind (f_X8_keeps s) (fun v10 => Option.bind (f_X8_many v10) (fun v12 => Option.bind (x_wr 140 (g8_now v10) ((4 : Int32) + ((2 : Int32) * v12)) x1) (fun w15 => Option.bind (f_X8_many (u8_now v10 w15)) (fun v16 => Option.bind (x_wr 140 w15 (((4 : Int32) + ((2 : Int32) * v16)) + (1 : Int32)) x2) (fun w19 => Option.bind (x_rd 140 w19 2) (fun v21 => Option.bind (x_wr 140 w19 2 (v21 + (1 : Int32))) (fun w23 => Option.bind (f_X8_many (u8_now v10 w23)) (fun v24 => some ((v24 - (1 : Int32)), (u8_now v10 w23))))))))))))))))
abbrev rm_X8_goes : Room := { frames := 1, cells := 0, slots := 0, locals := 21 }
noncomputable def f_X8_goes_p46 (k46 : S8 → Int32 → Option (S8)) (s : S8) (x2 : Int32) : Option (S8) :=
  Option.bind (f_X8_many s) (fun v1 => (if (((4 : Int32) + ((2 : Int32) * v1)) - (2 : Int32)) ≤ x2 then Option.bind (x_rd 140 (g8_now s) 2) (fun v5 => Option.bind (x_wr 140 (g8_now s) 2 (v5 - (1 : Int32))) (fun w7 => some (u8_now s w7))) else Option.bind (x_rd 140 (g8_now s) (x2 + (2 : Int32))) (fun v9 => Option.bind (x_wr 140 (g8_now s) x2 v9) (fun w11 => k46 (u8_now s w11) (x2 + 1)))))
noncomputable def lp_X8_goes_p46  (s : S8) (x2 : Int32) : Option (S8) :=
  x_loop (fun (k : S8 × Int32 → Option (S8)) (z : S8 × Int32) => f_X8_goes_p46  (fun s x2 => k (s, x2)) z.1 z.2) FU (s, x2)
noncomputable def f_X8_goes_p2 (k2 : S8 → Int32 → Int32 → Option (S8)) (s : S8) (x1 : Int32) (x2 : Int32) : Option (S8) :=
  Option.bind (f_X8_claims s) (fun v1 => (if v1 ≤ x2 then lp_X8_goes_p46  s ((4 : Int32) + ((2 : Int32) * x1)) else Option.bind (f_X8_fleetOf s x2) (fun v4 => (if v4 ≤ x1 then k2 s x1 (x2 + 1) else Option.bind (x_rd 140 (g8_now s) ((20 : Int32) + ((3 : Int32) * x2))) (fun v8 => Option.bind (x_wr 140 (g8_now s) ((20 : Int32) + ((3 : Int32) * x2)) (v8 - (1 : Int32))) (fun w10 => k2 (u8_now s w10) x1 (x2 + 1)))))))
noncomputable def lp_X8_goes_p2  (s : S8) (x1 : Int32) (x2 : Int32) : Option (S8) :=
  x_loop (fun (k : S8 × Int32 × Int32 → Option (S8)) (z : S8 × Int32 × Int32) => f_X8_goes_p2  (fun s x1 x2 => k (s, x1, x2)) z.1 z.2.1 z.2.2) FU (s, x1, x2)
noncomputable def f_X8_goes  (s : S8) (x1 : Int32) : Option (S8) :=
  lp_X8_goes_p2  s x1 0
abbrev rm_X8_leave : Room := { frames := 3, cells := 0, slots := 0, locals := 66 }
noncomputable def f_X8_leave  (s : S8) (x1 : Int32) : Option (Int32 × S8) :=
  Option.bind (f_X8_isFleet s x1) (fun v1 => (if v1 = 0 then some (0, s) else Option.bind (f_X8_keeps s) (fun v4 => Option.bind (f_X8_dropsAll v4 x1 (-1)) (fun v6 => Option.bind (f_X8_goes v6.2 x1) (fun v8 => some (1, v8))))))
abbrev rm_X8_becomes : Room := { frames := 1, cells := 0, slots := 0, locals := 21 }
noncomputable def f_X8_becomes  (s : S8) (x1 : Int32) (x2 : Int32) : Option (Int32 × S8) :=
  Option.bind (f_X8_keeps s) (fun v1 => Option.bind (x_rd 140 (g8_now v1) x1) (fun v4 => Option.bind (x_wr 140 (g8_now v1) x1 x2) (fun w6 => some (v4, (u8_now v1 w6)))))
abbrev rm_X8_move : Room := { frames := 2, cells := 0, slots := 0, locals := 44 }
noncomputable def f_X8_move  (s : S8) (x1 : Int32) (x2 : Int32) : Option (Int32 × S8) :=
  Option.bind (f_X8_isFleet s x1) (fun v1 => (if v1 = 0 then some ((-1), s) else Option.bind (f_X8_isClass x2) (fun v4 => (if v4 = 0 then some ((-1), s) else Option.bind (f_X8_classOf s x1) (fun v7 => (if v7 = x2 then some ((-1), s) else Option.bind (f_X8_becomes s ((4 : Int32) + ((2 : Int32) * x1)) x2) (fun v10 => some (v10.1, v10.2))))))))
abbrev rm_X8_ones : Room := { frames := 0, cells := 0, slots := 0, locals := 0 }
noncomputable def f_X8_ones_p4 (k4 : Int32 → Int32 → Int32 → Option (Int32)) (x0 : Int32) (x1 : Int32) (x2 : Int32) : Option (Int32) :=
  (if 5 ≤ x2 then some x1 else k4 x0 (x1 + ((x0 >>> (x2 &&& 31)) &&& (1 : Int32))) (x2 + 1))
noncomputable def lp_X8_ones_p4  (x0 : Int32) (x1 : Int32) (x2 : Int32) : Option (Int32) :=
  x_loop (fun (k : Int32 × Int32 × Int32 → Option (Int32)) (z : Int32 × Int32 × Int32) => f_X8_ones_p4  (fun x0 x1 x2 => k (x0, x1, x2)) z.1 z.2.1 z.2.2) FU (x0, x1, x2)
noncomputable def f_X8_ones  (x0 : Int32) : Option (Int32) :=
  lp_X8_ones_p4  x0 0 0
abbrev rm_X8_insure : Room := { frames := 2, cells := 0, slots := 0, locals := 43 }
noncomputable def f_X8_insure  (s : S8) (x1 : Int32) (x2 : Int32) : Option (Int32 × S8) :=
  Option.bind (f_X8_isFleet s x1) (fun v1 => (if v1 = 0 then some ((-1), s) else Option.bind (f_X8_isYear x2) (fun v4 => (if v4 = 0 then some ((-1), s) else Option.bind (f_X8_isInsured s x1 x2) (fun v7 => (if v7 = 0 then Option.bind (f_X8_keeps s) (fun v10 => Option.bind (x_rd 140 (g8_now v10) (((4 : Int32) + ((2 : Int32) * x1)) + (1 : Int32))) (fun v13 => Option.bind (x_wr 140 (g8_now v10) (((4 : Int32) + ((2 : Int32) * x1)) + (1 : Int32)) (v13 ||| ((1 : Int32) <<< (x2 &&& 31)))) (fun w15 => Option.bind (f_X8_yearsOf (u8_now v10 w15) x1) (fun v16 => Option.bind (f_X8_ones v16) (fun v18 => some (v18, (u8_now v10 w15))))))) else some ((-1), s)))))))
abbrev rm_X8_lapse : Room := { frames := 3, cells := 0, slots := 0, locals := 66 }
noncomputable def f_X8_lapse  (s : S8) (x1 : Int32) (x2 : Int32) : Option (Int32 × S8) :=
  Option.bind (f_X8_isFleet s x1) (fun v1 => (if v1 = 0 then some ((-1), s) else Option.bind (f_X8_isYear x2) (fun v4 => (if v4 = 0 then some ((-1), s) else Option.bind (f_X8_isInsured s x1 x2) (fun v7 => (if v7 = 0 then some ((-1), s) else Option.bind (f_X8_keeps s) (fun v10 => Option.bind (x_rd 140 (g8_now v10) (((4 : Int32) + ((2 : Int32) * x1)) + (1 : Int32))) (fun v13 => Option.bind (x_wr 140 (g8_now v10) (((4 : Int32) + ((2 : Int32) * x1)) + (1 : Int32)) (v13 &&& (((1 : Int32) <<< (x2 &&& 31)) ^^^ (-1 : Int32)))) (fun w15 => Option.bind (f_X8_dropsAll (u8_now v10 w15) x1 x2) (fun v16 => some (v16.1, v16.2)))))))))))
abbrev rm_X8_forget : Room := { frames := 3, cells := 0, slots := 0, locals := 66 }
noncomputable def f_X8_forget_p51 (k51 : S8 → Int32 → Int32 → Int32 → Option (Int32 × S8)) (s : S8) (x1 : Int32) (x2 : Int32) (x3 : Int32) : Option (Int32 × S8) :=
  Option.bind (f_X8_many s) (fun v1 => (if v1 ≤ x3 then Option.bind (f_X8_dropsAll s (-1) x1) (fun v4 => some (x2, v4.2)) else Option.bind (x_rd 140 (g8_now s) (((4 : Int32) + ((2 : Int32) * x3)) + (1 : Int32))) (fun v7 => Option.bind (x_wr 140 (g8_now s) (((4 : Int32) + ((2 : Int32) * x3)) + (1 : Int32)) (v7 &&& (((1 : Int32) <<< (x1 &&& 31)) ^^^ (-1 : Int32)))) (fun w9 => k51 (u8_now s w9) x1 x2 (x3 + 1)))))
noncomputable def lp_X8_forget_p51  (s : S8) (x1 : Int32) (x2 : Int32) (x3 : Int32) : Option (Int32 × S8) :=
  x_loop (fun (k : S8 × Int32 × Int32 × Int32 → Option (Int32 × S8)) (z : S8 × Int32 × Int32 × Int32) => f_X8_forget_p51  (fun s x1 x2 x3 => k (s, x1, x2, x3)) z.1 z.2.1 z.2.2.1 z.2.2.2) FU (s, x1, x2, x3)
noncomputable def f_X8_forget_p13 (k13 : S8 → Int32 → Int32 → Int32 → Option (Int32 × S8)) (s : S8) (x1 : Int32) (x2 : Int32) (x3 : Int32) : Option (Int32 × S8) :=
  Option.bind (f_X8_many s) (fun v1 => (if v1 ≤ x3 then (if x2 = 0 then some ((-1), s) else Option.bind (f_X8_keeps s) (fun v5 => lp_X8_forget_p51  v5 x1 x2 0)) else Option.bind (f_X8_isInsured s x3 x1) (fun v7 => (if v7 = 0 then k13 s x1 x2 (x3 + 1) else k13 s x1 (x2 + 1) (x3 + 1)))))
noncomputable def lp_X8_forget_p13  (s : S8) (x1 : Int32) (x2 : Int32) (x3 : Int32) : Option (Int32 × S8) :=
  x_loop (fun (k : S8 × Int32 × Int32 × Int32 → Option (Int32 × S8)) (z : S8 × Int32 × Int32 × Int32) => f_X8_forget_p13  (fun s x1 x2 x3 => k (s, x1, x2, x3)) z.1 z.2.1 z.2.2.1 z.2.2.2) FU (s, x1, x2, x3)
noncomputable def f_X8_forget  (s : S8) (x1 : Int32) : Option (Int32 × S8) :=
  Option.bind (f_X8_isYear x1) (fun v1 => (if v1 = 0 then some ((-1), s) else lp_X8_forget_p13  s x1 0 0))
abbrev rm_X8_claimsOf : Room := { frames := 1, cells := 0, slots := 0, locals := 21 }
noncomputable def f_X8_claimsOf_p5 (k5 : S8 → Int32 → Int32 → Int32 → Int32 → Option (Int32)) (s : S8) (x1 : Int32) (x2 : Int32) (x3 : Int32) (x4 : Int32) : Option (Int32) :=
  Option.bind (f_X8_claims s) (fun v1 => (if v1 ≤ x4 then some x3 else Option.bind (f_X8_fleetOf s x4) (fun v4 => (if v4 = x1 then (if x2 = (-1) then k5 s x1 x2 (x3 + 1) (x4 + 1) else Option.bind (f_X8_yearOf s x4) (fun v8 => (if v8 = x2 then k5 s x1 x2 (x3 + 1) (x4 + 1) else k5 s x1 x2 x3 (x4 + 1)))) else k5 s x1 x2 x3 (x4 + 1)))))
noncomputable def lp_X8_claimsOf_p5  (s : S8) (x1 : Int32) (x2 : Int32) (x3 : Int32) (x4 : Int32) : Option (Int32) :=
  x_loop (fun (k : S8 × Int32 × Int32 × Int32 × Int32 → Option (Int32)) (z : S8 × Int32 × Int32 × Int32 × Int32) => f_X8_claimsOf_p5  (fun s x1 x2 x3 x4 => k (s, x1, x2, x3, x4)) z.1 z.2.1 z.2.2.1 z.2.2.2.1 z.2.2.2.2) FU (s, x1, x2, x3, x4)
noncomputable def f_X8_claimsOf  (s : S8) (x1 : Int32) (x2 : Int32) : Option (Int32) :=
  lp_X8_claimsOf_p5  s x1 x2 0 0
abbrev rm_X8_claim : Room := { frames := 2, cells := 0, slots := 0, locals := 45 }
noncomputable def f_X8_claim  (s : S8) (x1 : Int32) (x2 : Int32) (x3 : Int32) : Option (Int32 × S8) :=
  Option.bind (f_X8_isFleet s x1) (fun v1 => (if v1 = 0 then some ((-1), s) else Option.bind (f_X8_isYear x2) (fun v4 => (if v4 = 0 then some ((-1), s) else Option.bind (f_X8_isInsured s x1 x2) (fun v7 => (if v7 = 0 then some ((-1), s) else Option.bind (f_X8_isAmount x3) (fun v10 => (if v10 = 0 then some ((-1), s) else Option.bind (f_X8_claims s) (fun v13 => (if v13 = 40 then some ((-1), s) else Option.bind (f_X8_claimsOf s x1 x2) (fun v16 => (if v16 = 4 then some ((-1), s) else Option.bind (f_X8_keeps s) (fun v19 => Option.bind (f_X8_claims v19) (fun v21 => Option.bind (x_wr 140 (g8_now v19) ((20 : Int32) + ((3 : Int32) * v21)) x1) (fun w24 => Option.bind (x_wr 140 w24 (((20 : Int32) + ((3 : Int32) * v21)) + (1 : Int32)) x2) (fun w26 => Option.bind (x_wr 140 w26 (((20 : Int32) + ((3 : Int32) * v21)) + (2 : Int32)) x3) (fun w28 => Option.bind (x_rd 140 w28 3) (fun v30 => Option.bind (x_wr 140 w28 3 (v30 + (1 : Int32))) (fun w32 => Option.bind (f_X8_claims (u8_now v19 w32)) (fun v33 => some ((v33 - (1 : Int32)), (u8_now v19 w32))))))))))))))))))))))
abbrev rm_X8_waive : Room := { frames := 2, cells := 0, slots := 0, locals := 43 }
noncomputable def f_X8_waive  (s : S8) (x1 : Int32) : Option (Int32 × S8) :=
  Option.bind (f_X8_isClaim s x1) (fun v1 => (if v1 = 0 then some (0, s) else Option.bind (f_X8_keeps s) (fun v4 => Option.bind (f_X8_drops v4 x1) (fun v6 => some (1, v6)))))
abbrev rm_X8_amend : Room := { frames := 2, cells := 0, slots := 0, locals := 44 }
noncomputable def f_X8_amend  (s : S8) (x1 : Int32) (x2 : Int32) : Option (Int32 × S8) :=
  Option.bind (f_X8_isClaim s x1) (fun v1 => (if v1 = 0 then some ((-1), s) else Option.bind (f_X8_isAmount x2) (fun v4 => (if v4 = 0 then some ((-1), s) else Option.bind (f_X8_amountOf s x1) (fun v7 => (if v7 = x2 then some ((-1), s) else Option.bind (f_X8_becomes s (((20 : Int32) + ((3 : Int32) * x1)) + (2 : Int32)) x2) (fun v10 => some (v10.1, v10.2))))))))
abbrev rm_X8_joins : Room := { frames := 1, cells := 0, slots := 0, locals := 21 }
noncomputable def f_X8_joins_p2 (k2 : S8 → Int32 → Int32 → Int32 → Option (S8)) (s : S8) (x1 : Int32) (x2 : Int32) (x3 : Int32) : Option (S8) :=
  Option.bind (f_X8_many s) (fun v1 => (if v1 ≤ x3 then some s else Option.bind (f_X8_classOf s x3) (fun v4 => (if v4 = x1 then Option.bind (x_wr 140 (g8_now s) ((4 : Int32) + ((2 : Int32) * x3)) x2) (fun w8 => k2 (u8_now s w8) x1 x2 (x3 + 1)) else k2 s x1 x2 (x3 + 1)))))
noncomputable def lp_X8_joins_p2  (s : S8) (x1 : Int32) (x2 : Int32) (x3 : Int32) : Option (S8) :=
  x_loop (fun (k : S8 × Int32 × Int32 × Int32 → Option (S8)) (z : S8 × Int32 × Int32 × Int32) => f_X8_joins_p2  (fun s x1 x2 x3 => k (s, x1, x2, x3)) z.1 z.2.1 z.2.2.1 z.2.2.2) FU (s, x1, x2, x3)
noncomputable def f_X8_joins  (s : S8) (x1 : Int32) (x2 : Int32) : Option (S8) :=
  lp_X8_joins_p2  s x1 x2 0
abbrev rm_X8_join : Room := { frames := 2, cells := 0, slots := 0, locals := 44 }
noncomputable def f_X8_join_p26 (k26 : S8 → Int32 → Int32 → Int32 → Int32 → Option (Int32 × S8)) (s : S8) (x1 : Int32) (x2 : Int32) (x3 : Int32) (x4 : Int32) : Option (Int32 × S8) :=
  Option.bind (f_X8_many s) (fun v1 => (if v1 ≤ x4 then (if x3 = 0 then some ((-1), s) else Option.bind (f_X8_keeps s) (fun v5 => Option.bind (f_X8_joins v5 x1 x2) (fun v7 => some (x3, v7)))) else Option.bind (f_X8_classOf s x4) (fun v9 => (if v9 = x1 then k26 s x1 x2 (x3 + 1) (x4 + 1) else k26 s x1 x2 x3 (x4 + 1)))))
noncomputable def lp_X8_join_p26  (s : S8) (x1 : Int32) (x2 : Int32) (x3 : Int32) (x4 : Int32) : Option (Int32 × S8) :=
  x_loop (fun (k : S8 × Int32 × Int32 × Int32 × Int32 → Option (Int32 × S8)) (z : S8 × Int32 × Int32 × Int32 × Int32) => f_X8_join_p26  (fun s x1 x2 x3 x4 => k (s, x1, x2, x3, x4)) z.1 z.2.1 z.2.2.1 z.2.2.2.1 z.2.2.2.2) FU (s, x1, x2, x3, x4)
noncomputable def f_X8_join  (s : S8) (x1 : Int32) (x2 : Int32) : Option (Int32 × S8) :=
  Option.bind (f_X8_isClass x1) (fun v1 => (if v1 = 0 then some ((-1), s) else Option.bind (f_X8_isClass x2) (fun v4 => (if v4 = 0 then some ((-1), s) else (if x1 = x2 then some ((-1), s) else lp_X8_join_p26  s x1 x2 0 0)))))
abbrev rm_X8_swap : Room := { frames := 2, cells := 0, slots := 0, locals := 43 }
noncomputable def f_X8_swap_p94 (k94 : S8 → Int32 → Int32 → Int32 → Option (Int32 × S8)) (s : S8) (x1 : Int32) (x2 : Int32) (x3 : Int32) : Option (Int32 × S8) :=
  Option.bind (f_X8_claims s) (fun v1 => (if v1 ≤ x3 then some (1, s) else Option.bind (f_X8_fleetOf s x3) (fun v4 => (if v4 = x1 then Option.bind (x_wr 140 (g8_now s) ((20 : Int32) + ((3 : Int32) * x3)) x2) (fun w13 => k94 (u8_now s w13) x1 x2 (x3 + 1)) else Option.bind (f_X8_fleetOf s x3) (fun v7 => (if v7 = x2 then Option.bind (x_wr 140 (g8_now s) ((20 : Int32) + ((3 : Int32) * x3)) x1) (fun w11 => k94 (u8_now s w11) x1 x2 (x3 + 1)) else k94 s x1 x2 (x3 + 1)))))))
noncomputable def lp_X8_swap_p94  (s : S8) (x1 : Int32) (x2 : Int32) (x3 : Int32) : Option (Int32 × S8) :=
  x_loop (fun (k : S8 × Int32 × Int32 × Int32 → Option (Int32 × S8)) (z : S8 × Int32 × Int32 × Int32) => f_X8_swap_p94  (fun s x1 x2 x3 => k (s, x1, x2, x3)) z.1 z.2.1 z.2.2.1 z.2.2.2) FU (s, x1, x2, x3)
noncomputable def f_X8_swap_p29 (k29 : S8 → Int32 → Int32 → Int32 → Option (Int32 × S8)) (s : S8) (x1 : Int32) (x2 : Int32) (x3 : Int32) : Option (Int32 × S8) :=
  (if 2 ≤ x3 then lp_X8_swap_p94  s x1 x2 0 else Option.bind (x_rd 140 (g8_now s) (((4 : Int32) + ((2 : Int32) * x1)) + x3)) (fun v3 => Option.bind (x_rd 140 (g8_now s) (((4 : Int32) + ((2 : Int32) * x2)) + x3)) (fun v5 => Option.bind (x_wr 140 (g8_now s) (((4 : Int32) + ((2 : Int32) * x1)) + x3) v5) (fun w7 => Option.bind (x_wr 140 w7 (((4 : Int32) + ((2 : Int32) * x2)) + x3) v3) (fun w9 => k29 (u8_now s w9) x1 x2 (x3 + 1))))))
noncomputable def lp_X8_swap_p29  (s : S8) (x1 : Int32) (x2 : Int32) (x3 : Int32) : Option (Int32 × S8) :=
  x_loop (fun (k : S8 × Int32 × Int32 × Int32 → Option (Int32 × S8)) (z : S8 × Int32 × Int32 × Int32) => f_X8_swap_p29  (fun s x1 x2 x3 => k (s, x1, x2, x3)) z.1 z.2.1 z.2.2.1 z.2.2.2) FU (s, x1, x2, x3)
noncomputable def f_X8_swap  (s : S8) (x1 : Int32) (x2 : Int32) : Option (Int32 × S8) :=
  Option.bind (f_X8_isFleet s x1) (fun v1 => (if v1 = 0 then some (0, s) else Option.bind (f_X8_isFleet s x2) (fun v4 => (if v4 = 0 then some (0, s) else (if x1 = x2 then some (0, s) else Option.bind (f_X8_keeps s) (fun v8 => lp_X8_swap_p29  v8 x1 x2 0))))))
abbrev rm_X8_scaled : Room := { frames := 0, cells := 0, slots := 0, locals := 0 }
noncomputable def f_X8_scaled  (x0 : Int32) (x1 : Int32) : Option (Int32) :=
  (if 1 ≤ ((x0 * x1) / 100) then (if ((x0 * x1) / 100) ≤ 99 then some ((x0 * x1) / 100) else some 99) else some 1)
abbrev rm_X8_scale : Room := { frames := 2, cells := 0, slots := 0, locals := 43 }
noncomputable def f_X8_scale_p86 (k86 : S8 → Int32 → Int32 → Int32 → Int32 → Option (Int32 × S8)) (s : S8) (x1 : Int32) (x2 : Int32) (x3 : Int32) (x4 : Int32) : Option (Int32 × S8) :=
  Option.bind (f_X8_claims s) (fun v1 => (if v1 ≤ x4 then some (x3, s) else Option.bind (f_X8_fleetOf s x4) (fun v4 => (if v4 = x1 then Option.bind (f_X8_amountOf s x4) (fun v7 => Option.bind (f_X8_scaled v7 x2) (fun v9 => Option.bind (x_wr 140 (g8_now s) (((20 : Int32) + ((3 : Int32) * x4)) + (2 : Int32)) v9) (fun w12 => k86 (u8_now s w12) x1 x2 x3 (x4 + 1)))) else k86 s x1 x2 x3 (x4 + 1)))))
noncomputable def lp_X8_scale_p86  (s : S8) (x1 : Int32) (x2 : Int32) (x3 : Int32) (x4 : Int32) : Option (Int32 × S8) :=
  x_loop (fun (k : S8 × Int32 × Int32 × Int32 × Int32 → Option (Int32 × S8)) (z : S8 × Int32 × Int32 × Int32 × Int32) => f_X8_scale_p86  (fun s x1 x2 x3 x4 => k (s, x1, x2, x3, x4)) z.1 z.2.1 z.2.2.1 z.2.2.2.1 z.2.2.2.2) FU (s, x1, x2, x3, x4)
noncomputable def f_X8_scale_p26 (k26 : S8 → Int32 → Int32 → Int32 → Int32 → Option (Int32 × S8)) (s : S8) (x1 : Int32) (x2 : Int32) (x3 : Int32) (x4 : Int32) : Option (Int32 × S8) :=
  Option.bind (f_X8_claims s) (fun v1 => (if v1 ≤ x4 then (if x3 = 0 then some ((-1), s) else Option.bind (f_X8_keeps s) (fun v5 => lp_X8_scale_p86  v5 x1 x2 x3 0)) else Option.bind (f_X8_fleetOf s x4) (fun v7 => (if v7 = x1 then Option.bind (f_X8_amountOf s x4) (fun v10 => Option.bind (f_X8_scaled v10 x2) (fun v12 => Option.bind (f_X8_amountOf s x4) (fun v14 => (if v12 = v14 then k26 s x1 x2 x3 (x4 + 1) else k26 s x1 x2 (x3 + 1) (x4 + 1))))) else k26 s x1 x2 x3 (x4 + 1)))))
noncomputable def lp_X8_scale_p26  (s : S8) (x1 : Int32) (x2 : Int32) (x3 : Int32) (x4 : Int32) : Option (Int32 × S8) :=
  x_loop (fun (k : S8 × Int32 × Int32 × Int32 × Int32 → Option (Int32 × S8)) (z : S8 × Int32 × Int32 × Int32 × Int32) => f_X8_scale_p26  (fun s x1 x2 x3 x4 => k (s, x1, x2, x3, x4)) z.1 z.2.1 z.2.2.1 z.2.2.2.1 z.2.2.2.2) FU (s, x1, x2, x3, x4)
noncomputable def f_X8_scale  (s : S8) (x1 : Int32) (x2 : Int32) : Option (Int32 × S8) :=
  Option.bind (f_X8_isFleet s x1) (fun v1 => (if v1 = 0 then some ((-1), s) else Option.bind (f_X8_in x2 1 900) (fun v4 => (if v4 = 0 then some ((-1), s) else lp_X8_scale_p26  s x1 x2 0 0))))
abbrev rm_X8_split : Room := { frames := 2, cells := 0, slots := 0, locals := 43 }
noncomputable def f_X8_split_p112 (k112 : S8 → Int32 → Int32 → Int32 → Int32 → Option (Int32 × S8)) (s : S8) (x1 : Int32) (x2 : Int32) (x3 : Int32) (x4 : Int32) : Option (Int32 × S8) :=
  Option.bind (f_X8_claims s) (fun v1 => (if v1 ≤ x4 then some (x3, s) else Option.bind (f_X8_fleetOf s x4) (fun v4 => (if v4 = x1 then Option.bind (f_X8_yearOf s x4) (fun v7 => (if ((x2 >>> (v7 &&& 31)) &&& (1 : Int32)) = 1 then Option.bind (x_wr 140 (g8_now s) ((20 : Int32) + ((3 : Int32) * x4)) x3) (fun w11 => k112 (u8_now s w11) x1 x2 x3 (x4 + 1)) else k112 s x1 x2 x3 (x4 + 1))) else k112 s x1 x2 x3 (x4 + 1)))))
noncomputable def lp_X8_split_p112  (s : S8) (x1 : Int32) (x2 : Int32) (x3 : Int32) (x4 : Int32) : Option (Int32 × S8) :=
  x_loop (fun (k : S8 × Int32 × Int32 × Int32 × Int32 → Option (Int32 × S8)) (z : S8 × Int32 × Int32 × Int32 × Int32) => f_X8_split_p112  (fun s x1 x2 x3 x4 => k (s, x1, x2, x3, x4)) z.1 z.2.1 z.2.2.1 z.2.2.2.1 z.2.2.2.2) FU (s, x1, x2, x3, x4)
noncomputable def f_X8_split  (s : S8) (x1 : Int32) (x2 : Int32) : Option (Int32 × S8) :=
  Option.bind (f_X8_isFleet s x1) (fun v1 => (if v1 = 0 then some ((-1), s) else Option.bind (f_X8_many s) (fun v4 => (if v4 = 8 then some ((-1), s) else (if x2 ≤ 0 then some ((-1), s) else Option.bind (f_X8_yearsOf s x1) (fun v8 => (if (x2 &&& (v8 ^^^ (-1 : Int32))) = 0 then Option.bind (f_X8_yearsOf s x1) (fun v11 => (if x2 = v11 then some ((-1), s) else Option.bind (f_X8_keeps s) (fun v14 => Option.bind (f_X8_many v14) (fun v16 => Option.bind (f_X8_classOf v14 x1) (fun v18 => Option.bind (x_wr 140 (g8_now v14) ((4 : Int32) + ((2 : Int32) * v16)) v18) (fun w21 => Option.bind (x_wr 140 w21 (((4 : Int32) + ((2 : Int32) * v16)) + (1 : Int32)) x2) (fun w23 => Option.bind (x_rd 140 w23 (((4 : Int32) + ((2 : Int32) * x1)) + (1 : Int32))) (fun v25 => Option.bind (x_wr 140 w23 (((4 : Int32) + ((2 : Int32) * x1)) + (1 : Int32)) (v25 &&& (x2 ^^^ (-1 : Int32)))) (fun w27 => Option.bind (x_rd 140 w27 2) (fun v29 => Option.bind (x_wr 140 w27 2 (v29 + (1 : Int32))) (fun w31 => lp_X8_split_p112  (u8_now v14 w31) x1 x2 v16 0))))))))))) else some ((-1), s))))))))
abbrev rm_X8_merge : Room := { frames := 2, cells := 0, slots := 0, locals := 43 }
noncomputable def f_X8_merge_p63 (k63 : S8 → Int32 → Int32 → Int32 → Option (Int32 × S8)) (s : S8) (x1 : Int32) (x2 : Int32) (x3 : Int32) : Option (Int32 × S8) :=
  Option.bind (f_X8_claims s) (fun v1 => (if v1 ≤ x3 then Option.bind (f_X8_goes s x1) (fun v4 => (if x2 ≤ x1 then some (x2, v4) else some ((x2 - (1 : Int32)), v4))) else Option.bind (f_X8_fleetOf s x3) (fun v7 => (if v7 = x1 then Option.bind (x_wr 140 (g8_now s) ((20 : Int32) + ((3 : Int32) * x3)) x2) (fun w11 => k63 (u8_now s w11) x1 x2 (x3 + 1)) else k63 s x1 x2 (x3 + 1)))))
noncomputable def lp_X8_merge_p63  (s : S8) (x1 : Int32) (x2 : Int32) (x3 : Int32) : Option (Int32 × S8) :=
  x_loop (fun (k : S8 × Int32 × Int32 × Int32 → Option (Int32 × S8)) (z : S8 × Int32 × Int32 × Int32) => f_X8_merge_p63  (fun s x1 x2 x3 => k (s, x1, x2, x3)) z.1 z.2.1 z.2.2.1 z.2.2.2) FU (s, x1, x2, x3)
noncomputable def f_X8_merge  (s : S8) (x1 : Int32) (x2 : Int32) : Option (Int32 × S8) :=
  Option.bind (f_X8_isFleet s x1) (fun v1 => (if v1 = 0 then some ((-1), s) else Option.bind (f_X8_isFleet s x2) (fun v4 => (if v4 = 0 then some ((-1), s) else (if x1 = x2 then some ((-1), s) else Option.bind (f_X8_yearsOf s x1) (fun v8 => Option.bind (f_X8_yearsOf s x2) (fun v10 => (if (v8 &&& v10) = 0 then Option.bind (f_X8_keeps s) (fun v13 => Option.bind (x_rd 140 (g8_now v13) (((4 : Int32) + ((2 : Int32) * x2)) + (1 : Int32))) (fun v16 => Option.bind (f_X8_yearsOf v13 x1) (fun v17 => Option.bind (x_wr 140 (g8_now v13) (((4 : Int32) + ((2 : Int32) * x2)) + (1 : Int32)) (v16 ||| v17)) (fun w20 => lp_X8_merge_p63  (u8_now v13 w20) x1 x2 0)))) else some ((-1), s)))))))))
abbrev rm_X8_cap : Room := { frames := 2, cells := 0, slots := 0, locals := 44 }
noncomputable def f_X8_cap  (s : S8) (x1 : Int32) : Option (Int32 × S8) :=
  Option.bind (f_X8_isAmount x1) (fun v1 => (if v1 = 0 then some ((-1), s) else Option.bind (x_rd 140 (g8_now s) 0) (fun v5 => (if x1 = v5 then some ((-1), s) else Option.bind (f_X8_becomes s 0 x1) (fun v7 => some (v7.1, v7.2))))))
abbrev rm_X8_steady : Room := { frames := 2, cells := 0, slots := 0, locals := 44 }
noncomputable def f_X8_steady  (s : S8) (x1 : Int32) : Option (Int32 × S8) :=
  Option.bind (f_X8_in x1 0 50) (fun v1 => (if v1 = 0 then some ((-1), s) else Option.bind (x_rd 140 (g8_now s) 1) (fun v5 => (if x1 = v5 then some ((-1), s) else Option.bind (f_X8_becomes s 1 x1) (fun v7 => some (v7.1, v7.2))))))
abbrev rm_X8_undo : Room := { frames := 0, cells := 0, slots := 0, locals := 0 }
noncomputable def f_X8_undo_p21 (k21 : S8 → Int32 → Option (Int32 × S8)) (s : S8) (x1 : Int32) : Option (Int32 × S8) :=
  (if 140 ≤ x1 then some ((g8_acts s), s) else Option.bind (x_rd 1680 (g8_before s) (((140 : Int32) * (g8_acts s)) + x1)) (fun v3 => Option.bind (x_wr 140 (g8_now s) x1 v3) (fun w5 => k21 (u8_now s w5) (x1 + 1))))
noncomputable def lp_X8_undo_p21  (s : S8) (x1 : Int32) : Option (Int32 × S8) :=
  x_loop (fun (k : S8 × Int32 → Option (Int32 × S8)) (z : S8 × Int32) => f_X8_undo_p21  (fun s x1 => k (s, x1)) z.1 z.2) FU (s, x1)
noncomputable def f_X8_undo  (s : S8) : Option (Int32 × S8) :=
  (if (g8_acts s) = 0 then some ((-1), s) else lp_X8_undo_p21  (u8_acts s ((g8_acts s) - (1 : Int32))) 0)
abbrev rm_X8_common : Room := { frames := 0, cells := 0, slots := 0, locals := 0 }
noncomputable def f_X8_common_p17 (k17 : Int64 → Int64 → Option (Int64)) (x4 : Int64) (x6 : Int64) : Option (Int64) :=
  (if (lg_cmp x6 0) = 0 then some x4 else Option.bind (x_nzl x6) (fun u3 => k17 x6 (x4 - x4 / x6 * x6)))
noncomputable def lp_X8_common_p17  (x4 : Int64) (x6 : Int64) : Option (Int64) :=
  x_loop (fun (k : Int64 × Int64 → Option (Int64)) (z : Int64 × Int64) => f_X8_common_p17  (fun x4 x6 => k (x4, x6)) z.1 z.2) FU (x4, x6)
noncomputable def f_X8_common  (x0 : Int64) (x2 : Int64) : Option (Int64) :=
  (if 0 ≤ (lg_cmp x0 0) then lp_X8_common_p17  x0 x2 else lp_X8_common_p17  (-x0) x2)
abbrev rm_X8_is : Room := { frames := 1, cells := 0, slots := 0, locals := 29 }
noncomputable def f_X8_is  (s : S8) (x1 : Int64) (x3 : Int64) : Option (S8) :=
  Option.bind (f_X8_common x1 x3) (fun v1 => Option.bind (x_nzl v1) (fun u4 => Option.bind (x_nzl v1) (fun u6 => some (u8_lower (u8_upper s (x1 / v1)) (x3 / v1)))))
abbrev rm_X8_adds : Room := { frames := 2, cells := 0, slots := 0, locals := 55 }
noncomputable def f_X8_adds  (s : S8) (x1 : Int64) (x3 : Int64) (x5 : Int64) (x7 : Int64) : Option (S8) :=
  Option.bind (f_X8_common x3 x7) (fun v1 => Option.bind (x_nzl v1) (fun u4 => Option.bind (x_nzl v1) (fun u6 => Option.bind (x_nzl v1) (fun u8 => Option.bind (f_X8_is s ((x1 * (x7 / v1)) + (x5 * (x3 / v1))) ((x3 / v1) * x7)) (fun v9 => some v9)))))
abbrev rm_X8_multiplies : Room := { frames := 2, cells := 0, slots := 0, locals := 55 }
noncomputable def f_X8_multiplies  (s : S8) (x1 : Int64) (x3 : Int64) (x5 : Int64) (x7 : Int64) : Option (S8) :=
  Option.bind (f_X8_common x1 x7) (fun v1 => Option.bind (f_X8_common x5 x3) (fun v3 => Option.bind (x_nzl v1) (fun u6 => Option.bind (x_nzl v3) (fun u8 => Option.bind (x_nzl v3) (fun u10 => Option.bind (x_nzl v1) (fun u12 => Option.bind (f_X8_is s ((x1 / v1) * (x5 / v3)) ((x3 / v3) * (x7 / v1))) (fun v13 => some v13)))))))
abbrev rm_X8_isLess : Room := { frames := 0, cells := 0, slots := 0, locals := 0 }
noncomputable def f_X8_isLess_p109  (x16 : Int32) (y0 : Int32) : Option (Int32) :=
  (if y0 = x16 then some 0 else some 1)
noncomputable def f_X8_isLess_p89  (x16 : Int32) (x17 : Int64) (x19 : Int64) : Option (Int32) :=
  (if (lg_cmp x17 x19) = 0 then some 0 else (if (lg_cmp x17 0) = 0 then f_X8_isLess_p109  x16 1 else f_X8_isLess_p109  x16 0))
noncomputable def f_X8_isLess_p50  (x16 : Int32) (y0 : Int32) : Option (Int32) :=
  (if y0 = x16 then some 0 else some 1)
noncomputable def f_X8_isLess_p17 (k17 : Int64 → Int64 → Int64 → Int64 → Int32 → Option (Int32)) (x8 : Int64) (x10 : Int64) (x12 : Int64) (x14 : Int64) (x16 : Int32) : Option (Int32) :=
  Option.bind (x_nzl x10) (fun u2 => Option.bind (x_nzl x14) (fun u4 => (if (lg_cmp (x8 / x10) (x12 / x14)) = 0 then Option.bind (x_nzl x10) (fun u7 => Option.bind (x_nzl x14) (fun u9 => (if (lg_cmp (x8 - x8 / x10 * x10) 0) = 0 then f_X8_isLess_p89  x16 (x8 - x8 / x10 * x10) (x12 - x12 / x14 * x14) else (if (lg_cmp (x12 - x12 / x14 * x14) 0) = 0 then f_X8_isLess_p89  x16 (x8 - x8 / x10 * x10) (x12 - x12 / x14 * x14) else (if x16 = 0 then k17 x10 (x8 - x8 / x10 * x10) x14 (x12 - x12 / x14 * x14) 1 else k17 x10 (x8 - x8 / x10 * x10) x14 (x12 - x12 / x14 * x14) 0))))) else Option.bind (x_nzl x10) (fun u14 => Option.bind (x_nzl x14) (fun u16 => (if 0 ≤ (lg_cmp (x8 / x10) (x12 / x14)) then f_X8_isLess_p50  x16 0 else f_X8_isLess_p50  x16 1))))))
noncomputable def lp_X8_isLess_p17  (x8 : Int64) (x10 : Int64) (x12 : Int64) (x14 : Int64) (x16 : Int32) : Option (Int32) :=
  x_loop (fun (k : Int64 × Int64 × Int64 × Int64 × Int32 → Option (Int32)) (z : Int64 × Int64 × Int64 × Int64 × Int32) => f_X8_isLess_p17  (fun x8 x10 x12 x14 x16 => k (x8, x10, x12, x14, x16)) z.1 z.2.1 z.2.2.1 z.2.2.2.1 z.2.2.2.2) FU (x8, x10, x12, x14, x16)
noncomputable def f_X8_isLess  (x0 : Int64) (x2 : Int64) (x4 : Int64) (x6 : Int64) : Option (Int32) :=
  lp_X8_isLess_p17  x0 x2 x4 x6 0
abbrev rm_X8_lossIn : Room := { frames := 2, cells := 0, slots := 0, locals := 42 }
noncomputable def f_X8_lossIn_p5 (k5 : S8 → Int32 → Int32 → Int32 → Int32 → Option (Int32)) (s : S8) (x1 : Int32) (x2 : Int32) (x3 : Int32) (x4 : Int32) : Option (Int32) :=
  Option.bind (f_X8_claims s) (fun v1 => (if v1 ≤ x4 then some x3 else Option.bind (f_X8_fleetOf s x4) (fun v4 => (if v4 = x1 then Option.bind (f_X8_yearOf s x4) (fun v7 => (if v7 = x2 then Option.bind (f_X8_counted s x4) (fun v10 => k5 s x1 x2 (x3 + v10) (x4 + 1)) else k5 s x1 x2 x3 (x4 + 1))) else k5 s x1 x2 x3 (x4 + 1)))))
noncomputable def lp_X8_lossIn_p5  (s : S8) (x1 : Int32) (x2 : Int32) (x3 : Int32) (x4 : Int32) : Option (Int32) :=
  x_loop (fun (k : S8 × Int32 × Int32 × Int32 × Int32 → Option (Int32)) (z : S8 × Int32 × Int32 × Int32 × Int32) => f_X8_lossIn_p5  (fun s x1 x2 x3 x4 => k (s, x1, x2, x3, x4)) z.1 z.2.1 z.2.2.1 z.2.2.2.1 z.2.2.2.2) FU (s, x1, x2, x3, x4)
noncomputable def f_X8_lossIn  (s : S8) (x1 : Int32) (x2 : Int32) : Option (Int32) :=
  lp_X8_lossIn_p5  s x1 x2 0 0
abbrev rm_X8_sums : Room := { frames := 3, cells := 0, slots := 0, locals := 66 }
noncomputable def f_X8_sums_p79 (k40 : S8 → Int32 → Int32 → Int32 → Option (S8)) (k79 : S8 → Int32 → Int32 → Int32 → Int32 → Option (S8)) (s : S8) (x1 : Int32) (x2 : Int32) (x3 : Int32) (x4 : Int32) : Option (S8) :=
  (if 5 ≤ x4 then Option.bind (x_rd 8 (g8_n s) x3) (fun v3 => (if v3 = 0 then k40 s x1 x2 (x3 + 1) else Option.bind (f_X8_classOf s x3) (fun v5 => Option.bind (x_rd 3 (g8_have s) v5) (fun v8 => Option.bind (x_wr 3 (g8_have s) v5 (v8 + (1 : Int32))) (fun w10 => Option.bind (f_X8_classOf (u8_have s w10) x3) (fun v11 => Option.bind (x_rd 3 (g8_spans s) v11) (fun v14 => Option.bind (x_rd 8 (g8_n s) x3) (fun v16 => Option.bind (x_wr 3 (g8_spans s) v11 (v14 + v16)) (fun w18 => Option.bind (f_X8_classOf (u8_spans (u8_have s w10) w18) x3) (fun v19 => Option.bind (x_rd 3 (g8_totals s) v19) (fun v22 => Option.bind (x_rd 8 (g8_losses s) x3) (fun v24 => Option.bind (x_wr 3 (g8_totals s) v19 (v22 + v24)) (fun w26 => Option.bind (x_rd 8 (g8_n s) x3) (fun v28 => Option.bind (x_rd 8 (g8_losses s) x3) (fun v30 => k40 (u8_totals (u8_spans (u8_have s w10) w18) w26) (x1 + v30) (x2 + v28) (x3 + 1)))))))))))))))) else Option.bind (f_X8_lossIn s x3 x4) (fun v31 => Option.bind (x_rd 8 (g8_losses s) x3) (fun v34 => Option.bind (x_wr 8 (g8_losses s) x3 (v34 + v31)) (fun w36 => Option.bind (x_rd 8 (g8_squares s) x3) (fun v38 => Option.bind (x_wr 8 (g8_squares s) x3 (v38 + (v31 * v31))) (fun w40 => k79 (u8_squares (u8_losses s w36) w40) x1 x2 x3 (x4 + 1)))))))
noncomputable def lp_X8_sums_p79 (k40 : S8 → Int32 → Int32 → Int32 → Option (S8)) (s : S8) (x1 : Int32) (x2 : Int32) (x3 : Int32) (x4 : Int32) : Option (S8) :=
  x_loop (fun (k : S8 × Int32 × Int32 × Int32 × Int32 → Option (S8)) (z : S8 × Int32 × Int32 × Int32 × Int32) => f_X8_sums_p79 k40 (fun s x1 x2 x3 x4 => k (s, x1, x2, x3, x4)) z.1 z.2.1 z.2.2.1 z.2.2.2.1 z.2.2.2.2) FU (s, x1, x2, x3, x4)
noncomputable def f_X8_sums_p40 (k40 : S8 → Int32 → Int32 → Int32 → Option (S8)) (s : S8) (x1 : Int32) (x2 : Int32) (x3 : Int32) : Option (S8) :=
  Option.bind (f_X8_many s) (fun v1 => (if v1 ≤ x3 then (if x2 ≤ 0 then some (u8_wholeUp (u8_wholeLow s 0) 0) else Option.bind (f_X8_is (u8_wholeUp (u8_wholeLow s 0) 0) (Int32.toInt64 x1) (Int32.toInt64 x2)) (fun v5 => some (u8_wholeLow (u8_wholeUp v5 (g8_upper v5)) (g8_lower v5)))) else Option.bind (f_X8_yearsOf s x3) (fun v7 => Option.bind (f_X8_ones v7) (fun v9 => Option.bind (x_wr 8 (g8_n s) x3 v9) (fun w12 => Option.bind (x_wr 8 (g8_losses s) x3 0) (fun w14 => Option.bind (x_wr 8 (g8_squares s) x3 0) (fun w16 => lp_X8_sums_p79 k40 (u8_squares (u8_losses (u8_n s w12) w14) w16) x1 x2 x3 0)))))))
noncomputable def lp_X8_sums_p40  (s : S8) (x1 : Int32) (x2 : Int32) (x3 : Int32) : Option (S8) :=
  x_loop (fun (k : S8 × Int32 × Int32 × Int32 → Option (S8)) (z : S8 × Int32 × Int32 × Int32) => f_X8_sums_p40  (fun s x1 x2 x3 => k (s, x1, x2, x3)) z.1 z.2.1 z.2.2.1 z.2.2.2) FU (s, x1, x2, x3)
noncomputable def f_X8_sums_p6 (k6 : S8 → Int32 → Int32 → Int32 → Option (S8)) (s : S8) (x1 : Int32) (x2 : Int32) (x3 : Int32) : Option (S8) :=
  (if 3 ≤ x3 then lp_X8_sums_p40  s x1 x2 0 else Option.bind (x_wr 3 (g8_have s) x3 0) (fun w3 => Option.bind (x_wr 3 (g8_spans s) x3 0) (fun w5 => Option.bind (x_wr 3 (g8_totals s) x3 0) (fun w7 => k6 (u8_totals (u8_spans (u8_have s w3) w5) w7) x1 x2 (x3 + 1)))))
noncomputable def lp_X8_sums_p6  (s : S8) (x1 : Int32) (x2 : Int32) (x3 : Int32) : Option (S8) :=
  x_loop (fun (k : S8 × Int32 × Int32 × Int32 → Option (S8)) (z : S8 × Int32 × Int32 × Int32) => f_X8_sums_p6  (fun s x1 x2 x3 => k (s, x1, x2, x3)) z.1 z.2.1 z.2.2.1 z.2.2.2) FU (s, x1, x2, x3)
noncomputable def f_X8_sums  (s : S8) : Option (S8) :=
  lp_X8_sums_p6  s 0 0 0
abbrev rm_X8_isIn : Room := { frames := 1, cells := 0, slots := 0, locals := 21 }
noncomputable def f_X8_isIn  (s : S8) (x1 : Int32) (x2 : Int32) : Option (Int32) :=
  Option.bind (f_X8_classOf s x1) (fun v1 => (if v1 = x2 then Option.bind (x_rd 8 (g8_n s) x1) (fun v5 => (if v5 ≤ 0 then some 0 else some 1)) else some 0))
abbrev rm_X8_puts : Room := { frames := 0, cells := 0, slots := 0, locals := 0 }
noncomputable def f_X8_puts  (s : S8) (x1 : Int32) (x2 : Int32) : Option (S8) :=
  Option.bind (x_wrl 15 (g8_up s) (((5 : Int32) * x1) + x2) (g8_upper s)) (fun w2 => Option.bind (x_wrl 15 (g8_low s) (((5 : Int32) * x1) + x2) (g8_lower s)) (fun w4 => some (u8_low (u8_up s w2) w4)))
abbrev rm_X8_spreads : Room := { frames := 3, cells := 0, slots := 0, locals := 87 }
noncomputable def f_X8_spreads_p330  (s : S8) (x1 : Int32) (x8 : Int32) : Option (S8) :=
  Option.bind (x_rd 3 (g8_spans s) x1) (fun v2 => Option.bind (x_rd 3 (g8_spans s) x1) (fun v4 => Option.bind (x_rd 3 (g8_spans s) x1) (fun v6 => Option.bind (f_X8_multiplies s (g8_upper s) (g8_lower s) (Int32.toInt64 v2) (((Int32.toInt64 v4) * (Int32.toInt64 v6)) - (Int32.toInt64 x8))) (fun v7 => Option.bind (f_X8_puts v7 x1 1) (fun v9 => some v9)))))
noncomputable def f_X8_spreads_p49 (k49 : S8 → Int32 → Int32 → Int64 → Int64 → Int32 → Int32 → Int32 → Option (S8)) (s : S8) (x1 : Int32) (x2 : Int32) (x3 : Int64) (x5 : Int64) (x7 : Int32) (x8 : Int32) (x9 : Int32) : Option (S8) :=
  Option.bind (f_X8_many s) (fun v1 => (if v1 ≤ x9 then Option.bind (x_rd 3 (g8_spans s) x1) (fun v5 => Option.bind (x_rd 3 (g8_have s) x1) (fun v7 => (if (v5 - v7) = 0 then some s else Option.bind (f_X8_adds s (Int32.toInt64 x7) 1 (-x3) x5) (fun v9 => Option.bind (f_X8_multiplies v9 (g8_upper v9) (g8_lower v9) 1 (Int32.toInt64 (v5 - v7))) (fun v11 => Option.bind (f_X8_puts v11 x1 0) (fun v13 => Option.bind (x_rd 3 (g8_have v13) x1) (fun v16 => (if 2 ≤ v16 then Option.bind (x_rd 15 (g8_up v13) x2) (fun v19 => Option.bind (x_rd 15 (g8_low v13) x2) (fun v21 => Option.bind (x_rd 3 (g8_have v13) x1) (fun v23 => Option.bind (f_X8_multiplies v13 v19 v21 ((Int32.toInt64 v23) - (1 : Int64)) 1) (fun v24 => Option.bind (f_X8_adds v24 x3 x5 (-(g8_upper v24)) (g8_lower v24)) (fun v26 => Option.bind (x_rd 3 (g8_totals v26) x1) (fun v29 => Option.bind (x_rd 3 (g8_totals v26) x1) (fun v31 => Option.bind (x_rd 3 (g8_spans v26) x1) (fun v33 => Option.bind (f_X8_is v26 ((Int32.toInt64 v29) * (Int32.toInt64 v31)) (Int32.toInt64 v33)) (fun v34 => Option.bind (f_X8_adds v34 (g8_upper v26) (g8_lower v26) (-(g8_upper v34)) (g8_lower v34)) (fun v36 => (if 0 < (lg_cmp (g8_upper v36) 0) then f_X8_spreads_p330  v36 x1 x8 else Option.bind (f_X8_is v36 0 1) (fun v39 => f_X8_spreads_p330  v39 x1 x8)))))))))))) else some v13)))))))) else Option.bind (f_X8_isIn s x9 x1) (fun v41 => (if v41 = 0 then k49 s x1 x2 x3 x5 x7 x8 (x9 + 1) else Option.bind (x_rd 8 (g8_losses s) x9) (fun v45 => Option.bind (x_rd 8 (g8_losses s) x9) (fun v47 => Option.bind (x_rd 8 (g8_n s) x9) (fun v49 => Option.bind (f_X8_adds s x3 x5 ((Int32.toInt64 v45) * (Int32.toInt64 v47)) (Int32.toInt64 v49)) (fun v50 => Option.bind (x_rd 8 (g8_squares v50) x9) (fun v53 => Option.bind (x_rd 8 (g8_n v50) x9) (fun v55 => Option.bind (x_rd 8 (g8_n v50) x9) (fun v57 => k49 v50 x1 x2 (g8_upper v50) (g8_lower v50) (x7 + v53) (x8 + (v55 * v57)) (x9 + 1))))))))))))
noncomputable def lp_X8_spreads_p49  (s : S8) (x1 : Int32) (x2 : Int32) (x3 : Int64) (x5 : Int64) (x7 : Int32) (x8 : Int32) (x9 : Int32) : Option (S8) :=
  x_loop (fun (k : S8 × Int32 × Int32 × Int64 × Int64 × Int32 × Int32 × Int32 → Option (S8)) (z : S8 × Int32 × Int32 × Int64 × Int64 × Int32 × Int32 × Int32) => f_X8_spreads_p49  (fun s x1 x2 x3 x5 x7 x8 x9 => k (s, x1, x2, x3, x5, x7, x8, x9)) z.1 z.2.1 z.2.2.1 z.2.2.2.1 z.2.2.2.2.1 z.2.2.2.2.2.1 z.2.2.2.2.2.2.1 z.2.2.2.2.2.2.2) FU (s, x1, x2, x3, x5, x7, x8, x9)
noncomputable def f_X8_spreads_p6 (k6 : S8 → Int32 → Int32 → Int32 → Option (S8)) (s : S8) (x1 : Int32) (x2 : Int32) (x3 : Int32) : Option (S8) :=
  (if 5 ≤ x3 then lp_X8_spreads_p49  s x1 x2 0 1 0 0 0 else Option.bind (x_wrl 15 (g8_up s) (x2 + x3) 0) (fun w3 => Option.bind (x_wrl 15 (g8_low s) (x2 + x3) 0) (fun w5 => k6 (u8_low (u8_up s w3) w5) x1 x2 (x3 + 1))))
noncomputable def lp_X8_spreads_p6  (s : S8) (x1 : Int32) (x2 : Int32) (x3 : Int32) : Option (S8) :=
  x_loop (fun (k : S8 × Int32 × Int32 × Int32 → Option (S8)) (z : S8 × Int32 × Int32 × Int32) => f_X8_spreads_p6  (fun s x1 x2 x3 => k (s, x1, x2, x3)) z.1 z.2.1 z.2.2.1 z.2.2.2) FU (s, x1, x2, x3)
noncomputable def f_X8_spreads  (s : S8) (x1 : Int32) : Option (S8) :=
  lp_X8_spreads_p6  s x1 ((5 : Int32) * x1) 0
abbrev rm_X8_shareOf : Room := { frames := 3, cells := 0, slots := 0, locals := 87 }
noncomputable def f_X8_shareOf  (s : S8) (x1 : Int32) (x2 : Int32) : Option (Int32 × S8) :=
  Option.bind (x_rd 15 (g8_low s) (((5 : Int32) * x1) + (1 : Int32))) (fun v2 => (if (lg_cmp v2 0) = 0 then some (0, s) else Option.bind (x_rd 15 (g8_up s) (((5 : Int32) * x1) + (1 : Int32))) (fun v5 => (if (lg_cmp v5 0) = 0 then some (0, s) else Option.bind (x_rd 15 (g8_up s) (((5 : Int32) * x1) + (1 : Int32))) (fun v8 => Option.bind (x_rd 15 (g8_low s) (((5 : Int32) * x1) + (1 : Int32))) (fun v10 => Option.bind (f_X8_multiplies s v8 v10 (Int32.toInt64 x2) 1) (fun v11 => Option.bind (x_rd 15 (g8_up v11) ((5 : Int32) * x1)) (fun v14 => Option.bind (x_rd 15 (g8_low v11) ((5 : Int32) * x1)) (fun v16 => Option.bind (f_X8_adds v11 (g8_upper v11) (g8_lower v11) v14 v16) (fun v17 => Option.bind (f_X8_multiplies v17 (g8_upper v11) (g8_lower v11) (g8_lower v17) (g8_upper v17)) (fun v19 => Option.bind (x_nzl (g8_lower v19)) (fun u22 => some ((Int64.toInt32 (((g8_upper v19) * (1000 : Int64)) / (g8_lower v19))), v19)))))))))))))
abbrev rm_X8_shares : Room := { frames := 2, cells := 0, slots := 0, locals := 43 }
noncomputable def f_X8_shares_p4 (k4 : S8 → Int32 → Int32 → Int32 → Option (Int32)) (s : S8) (x1 : Int32) (x2 : Int32) (x3 : Int32) : Option (Int32) :=
  Option.bind (f_X8_many s) (fun v1 => (if v1 ≤ x3 then some x2 else Option.bind (f_X8_isIn s x3 x1) (fun v4 => (if v4 = 0 then k4 s x1 x2 (x3 + 1) else Option.bind (x_rd 8 (g8_share s) x3) (fun v8 => k4 s x1 (x2 + v8) (x3 + 1))))))
noncomputable def lp_X8_shares_p4  (s : S8) (x1 : Int32) (x2 : Int32) (x3 : Int32) : Option (Int32) :=
  x_loop (fun (k : S8 × Int32 × Int32 × Int32 → Option (Int32)) (z : S8 × Int32 × Int32 × Int32) => f_X8_shares_p4  (fun s x1 x2 x3 => k (s, x1, x2, x3)) z.1 z.2.1 z.2.2.1 z.2.2.2) FU (s, x1, x2, x3)
noncomputable def f_X8_shares  (s : S8) (x1 : Int32) : Option (Int32) :=
  lp_X8_shares_p4  s x1 0 0
abbrev rm_X8_mixes : Room := { frames := 3, cells := 0, slots := 0, locals := 87 }
noncomputable def f_X8_mixes  (s : S8) (x1 : Int32) (x2 : Int64) (x4 : Int64) (x6 : Int64) (x8 : Int64) : Option (S8) :=
  Option.bind (f_X8_multiplies s x2 x4 (Int32.toInt64 x1) 1000) (fun v1 => Option.bind (f_X8_multiplies v1 x6 x8 (Int32.toInt64 ((1000 : Int32) - x1)) 1000) (fun v3 => Option.bind (f_X8_adds v3 (g8_upper v1) (g8_lower v1) (g8_upper v3) (g8_lower v3)) (fun v5 => some v5)))
abbrev rm_X8_centres : Room := { frames := 4, cells := 0, slots := 0, locals := 120 }
noncomputable def f_X8_centres_p120  (s : S8) (x1 : Int32) : Option (S8) :=
  Option.bind (f_X8_puts s x1 2) (fun v1 => Option.bind (x_rd 3 (g8_spans v1) x1) (fun v4 => Option.bind (x_rd 3 (g8_spans v1) x1) (fun v6 => Option.bind (x_rd 140 (g8_now v1) 1) (fun v8 => Option.bind (x_nz (v6 + v8)) (fun u10 => Option.bind (x_wr 3 (g8_steadied v1) x1 (((1000 : Int32) * v4) / (v6 + v8))) (fun w12 => Option.bind (x_rd 3 w12 x1) (fun v14 => Option.bind (f_X8_mixes (u8_steadied v1 w12) v14 (g8_upper v1) (g8_lower v1) (g8_wholeUp v1) (g8_wholeLow v1)) (fun v15 => Option.bind (f_X8_puts v15 x1 3) (fun v17 => some v17)))))))))
noncomputable def f_X8_centres_p39 (k39 : S8 → Int32 → Int32 → Int64 → Int64 → Int32 → Option (S8)) (s : S8) (x1 : Int32) (x2 : Int32) (x3 : Int64) (x5 : Int64) (x7 : Int32) : Option (S8) :=
  Option.bind (f_X8_many s) (fun v1 => (if v1 ≤ x7 then Option.bind (f_X8_multiplies s x3 x5 1 (Int32.toInt64 x2)) (fun v4 => f_X8_centres_p120  v4 x1) else Option.bind (f_X8_isIn s x7 x1) (fun v6 => (if v6 = 0 then k39 s x1 x2 x3 x5 (x7 + 1) else Option.bind (x_rd 8 (g8_losses s) x7) (fun v10 => Option.bind (x_rd 8 (g8_share s) x7) (fun v12 => Option.bind (x_rd 8 (g8_n s) x7) (fun v14 => Option.bind (f_X8_adds s x3 x5 ((Int32.toInt64 v10) * (Int32.toInt64 v12)) (Int32.toInt64 v14)) (fun v15 => k39 v15 x1 x2 (g8_upper v15) (g8_lower v15) (x7 + 1)))))))))
noncomputable def lp_X8_centres_p39  (s : S8) (x1 : Int32) (x2 : Int32) (x3 : Int64) (x5 : Int64) (x7 : Int32) : Option (S8) :=
  x_loop (fun (k : S8 × Int32 × Int32 × Int64 × Int64 × Int32 → Option (S8)) (z : S8 × Int32 × Int32 × Int64 × Int64 × Int32) => f_X8_centres_p39  (fun s x1 x2 x3 x5 x7 => k (s, x1, x2, x3, x5, x7)) z.1 z.2.1 z.2.2.1 z.2.2.2.1 z.2.2.2.2.1 z.2.2.2.2.2) FU (s, x1, x2, x3, x5, x7)
noncomputable def f_X8_centres  (s : S8) (x1 : Int32) : Option (S8) :=
  Option.bind (f_X8_shares s x1) (fun v1 => (if v1 = 0 then Option.bind (x_rd 3 (g8_totals s) x1) (fun v5 => Option.bind (x_rd 3 (g8_spans s) x1) (fun v7 => Option.bind (f_X8_is s (Int32.toInt64 v5) (Int32.toInt64 v7)) (fun v8 => f_X8_centres_p120  v8 x1))) else lp_X8_centres_p39  s x1 v1 0 1 0))
abbrev rm_X8_rates : Room := { frames := 4, cells := 0, slots := 0, locals := 120 }
noncomputable def f_X8_rates_p15 (k15 : S8 → Int32 → Int64 → Int64 → Int32 → Option (S8)) (s : S8) (x1 : Int32) (x2 : Int64) (x4 : Int64) (x6 : Int32) : Option (S8) :=
  Option.bind (f_X8_many s) (fun v1 => (if v1 ≤ x6 then Option.bind (f_X8_is s x2 x4) (fun v4 => Option.bind (f_X8_puts v4 x1 4) (fun v6 => some v6)) else Option.bind (f_X8_isIn s x6 x1) (fun v8 => (if v8 = 0 then k15 s x1 x2 x4 (x6 + 1) else Option.bind (x_rd 8 (g8_share s) x6) (fun v12 => Option.bind (x_rd 8 (g8_losses s) x6) (fun v14 => Option.bind (x_rd 8 (g8_n s) x6) (fun v16 => Option.bind (x_rd 15 (g8_up s) (((5 : Int32) * x1) + (3 : Int32))) (fun v18 => Option.bind (x_rd 15 (g8_low s) (((5 : Int32) * x1) + (3 : Int32))) (fun v20 => Option.bind (f_X8_mixes s v12 (Int32.toInt64 v14) (Int32.toInt64 v16) v18 v20) (fun v21 => Option.bind (x_wrl 8 (g8_rateUp v21) x6 (g8_upper v21)) (fun w24 => Option.bind (x_wrl 8 (g8_rateLow v21) x6 (g8_lower v21)) (fun w26 => Option.bind (x_rd 8 (g8_n v21) x6) (fun v28 => Option.bind (f_X8_multiplies (u8_rateLow (u8_rateUp v21 w24) w26) (g8_upper v21) (g8_lower v21) (Int32.toInt64 v28) 1) (fun v29 => Option.bind (f_X8_adds v29 x2 x4 (g8_upper v29) (g8_lower v29)) (fun v31 => k15 v31 x1 (g8_upper v31) (g8_lower v31) (x6 + 1))))))))))))))))
noncomputable def lp_X8_rates_p15  (s : S8) (x1 : Int32) (x2 : Int64) (x4 : Int64) (x6 : Int32) : Option (S8) :=
  x_loop (fun (k : S8 × Int32 × Int64 × Int64 × Int32 → Option (S8)) (z : S8 × Int32 × Int64 × Int64 × Int32) => f_X8_rates_p15  (fun s x1 x2 x4 x6 => k (s, x1, x2, x4, x6)) z.1 z.2.1 z.2.2.1 z.2.2.2.1 z.2.2.2.2) FU (s, x1, x2, x4, x6)
noncomputable def f_X8_rates  (s : S8) (x1 : Int32) : Option (S8) :=
  Option.bind (x_rd 3 (g8_totals s) x1) (fun v2 => lp_X8_rates_p15  s x1 (Int32.toInt64 (-v2)) 1 0)
abbrev rm_X8_works : Room := { frames := 5, cells := 0, slots := 0, locals := 147 }
noncomputable def f_X8_works_p38 (k6 : S8 → Int32 → Option (S8)) (k38 : S8 → Int32 → Int32 → Option (S8)) (s : S8) (x1 : Int32) (x2 : Int32) : Option (S8) :=
  Option.bind (f_X8_many s) (fun v1 => (if v1 ≤ x2 then Option.bind (f_X8_centres s x1) (fun v4 => Option.bind (f_X8_rates v4 x1) (fun v6 => k6 v6 (x1 + 1))) else Option.bind (f_X8_isIn s x2 x1) (fun v8 => (if v8 = 0 then k38 s x1 (x2 + 1) else Option.bind (x_rd 8 (g8_n s) x2) (fun v12 => Option.bind (f_X8_shareOf s x1 v12) (fun v13 => Option.bind (x_wr 8 (g8_share v13.2) x2 v13.1) (fun w16 => k38 (u8_share v13.2 w16) x1 (x2 + 1))))))))
noncomputable def lp_X8_works_p38 (k6 : S8 → Int32 → Option (S8)) (s : S8) (x1 : Int32) (x2 : Int32) : Option (S8) :=
  x_loop (fun (k : S8 × Int32 × Int32 → Option (S8)) (z : S8 × Int32 × Int32) => f_X8_works_p38 k6 (fun s x1 x2 => k (s, x1, x2)) z.1 z.2.1 z.2.2) FU (s, x1, x2)
noncomputable def f_X8_works_p6 (k6 : S8 → Int32 → Option (S8)) (s : S8) (x1 : Int32) : Option (S8) :=
  (if 3 ≤ x1 then some s else Option.bind (f_X8_spreads s x1) (fun v2 => Option.bind (x_wr 3 (g8_steadied v2) x1 (-2)) (fun w5 => Option.bind (x_rd 3 (g8_have v2) x1) (fun v7 => (if v7 = 0 then k6 (u8_steadied v2 w5) (x1 + 1) else lp_X8_works_p38 k6 (u8_steadied v2 w5) x1 0)))))
noncomputable def lp_X8_works_p6  (s : S8) (x1 : Int32) : Option (S8) :=
  x_loop (fun (k : S8 × Int32 → Option (S8)) (z : S8 × Int32) => f_X8_works_p6  (fun s x1 => k (s, x1)) z.1 z.2) FU (s, x1)
noncomputable def f_X8_works  (s : S8) : Option (S8) :=
  Option.bind (f_X8_sums s) (fun v1 => lp_X8_works_p6  v1 0)
abbrev rm_X8_inThousandths : Room := { frames := 0, cells := 0, slots := 0, locals := 0 }
noncomputable def f_X8_inThousandths  (s : S8) (x1 : Int32) : Option (Int32) :=
  Option.bind (x_rd 8 (g8_rateUp s) x1) (fun v2 => Option.bind (x_rd 8 (g8_rateLow s) x1) (fun v4 => Option.bind (x_nzl v4) (fun u6 => Option.bind (x_rd 8 (g8_rateUp s) x1) (fun v8 => Option.bind (x_rd 8 (g8_rateLow s) x1) (fun v10 => Option.bind (x_nzl v10) (fun u12 => Option.bind (x_rd 8 (g8_rateLow s) x1) (fun v14 => Option.bind (x_nzl v14) (fun u16 => some (Int64.toInt32 (((v2 / v4) * (1000 : Int64)) + (((v8 - v8 / v10 * v10) * (1000 : Int64)) / v14)))))))))))
abbrev rm_X8_isRated : Room := { frames := 1, cells := 0, slots := 0, locals := 21 }
noncomputable def f_X8_isRated  (s : S8) (x1 : Int32) : Option (Int32) :=
  Option.bind (f_X8_yearsOf s x1) (fun v1 => (if v1 = 0 then some 0 else some 1))
abbrev rm_X8_ratedNow : Room := { frames := 6, cells := 0, slots := 0, locals := 169 }
noncomputable def f_X8_ratedNow  (s : S8) (x1 : Int32) : Option (Int32 × S8) :=
  Option.bind (f_X8_works s) (fun v1 => Option.bind (f_X8_inThousandths v1 x1) (fun v3 => some (v3, v1)))
abbrev rm_X8_aboveCap : Room := { frames := 1, cells := 0, slots := 0, locals := 21 }
noncomputable def f_X8_aboveCap_p26 (k4 : S8 → Int32 → Int32 → Int32 → Option (Int32)) (s : S8) (x1 : Int32) (x2 : Int32) (x3 : Int32) : Option (Int32) :=
  Option.bind (f_X8_amountOf s x3) (fun v1 => Option.bind (x_rd 140 (g8_now s) 0) (fun v4 => (if v1 ≤ v4 then k4 s x1 x2 (x3 + 1) else k4 s x1 (x2 + 1) (x3 + 1))))
noncomputable def f_X8_aboveCap_p4 (k4 : S8 → Int32 → Int32 → Int32 → Option (Int32)) (s : S8) (x1 : Int32) (x2 : Int32) (x3 : Int32) : Option (Int32) :=
  Option.bind (f_X8_claims s) (fun v1 => (if v1 ≤ x3 then some x2 else (if x1 = (-1) then f_X8_aboveCap_p26 k4 s x1 x2 x3 else Option.bind (f_X8_fleetOf s x3) (fun v5 => (if v5 = x1 then f_X8_aboveCap_p26 k4 s x1 x2 x3 else k4 s x1 x2 (x3 + 1))))))
noncomputable def lp_X8_aboveCap_p4  (s : S8) (x1 : Int32) (x2 : Int32) (x3 : Int32) : Option (Int32) :=
  x_loop (fun (k : S8 × Int32 × Int32 × Int32 → Option (Int32)) (z : S8 × Int32 × Int32 × Int32) => f_X8_aboveCap_p4  (fun s x1 x2 x3 => k (s, x1, x2, x3)) z.1 z.2.1 z.2.2.1 z.2.2.2) FU (s, x1, x2, x3)
noncomputable def f_X8_aboveCap  (s : S8) (x1 : Int32) : Option (Int32) :=
  lp_X8_aboveCap_p4  s x1 0 0
abbrev rm_X8_of : Room := { frames := 6, cells := 0, slots := 0, locals := 169 }
noncomputable def f_X8_of  (s : S8) (x1 : Int32) (x2 : Int32) : Option (Int32 × S8) :=
  Option.bind (f_X8_isFleet s x1) (fun v1 => (if v1 = 0 then some ((-1), s) else Option.bind (f_X8_in x2 0 7) (fun v4 => (if v4 = 0 then some ((-1), s) else Option.bind (f_X8_works s) (fun v7 => (if x2 = 0 then Option.bind (f_X8_classOf v7 x1) (fun v10 => some (v10, v7)) else (if x2 = 1 then Option.bind (f_X8_yearsOf v7 x1) (fun v13 => some (v13, v7)) else (if x2 = 2 then Option.bind (x_rd 8 (g8_n v7) x1) (fun v17 => some (v17, v7)) else (if x2 = 3 then Option.bind (x_rd 8 (g8_losses v7) x1) (fun v20 => some (v20, v7)) else (if x2 = 4 then Option.bind (x_rd 8 (g8_squares v7) x1) (fun v23 => some (v23, v7)) else (if x2 = 5 then Option.bind (f_X8_claimsOf v7 x1 (-1)) (fun v25 => some (v25, v7)) else (if x2 = 6 then Option.bind (f_X8_aboveCap v7 x1) (fun v28 => some (v28, v7)) else Option.bind (x_rd 8 (g8_n v7) x1) (fun v31 => (if v31 = 0 then some ((-2), v7) else Option.bind (x_rd 8 (g8_share v7) x1) (fun v34 => some (v34, v7))))))))))))))))
abbrev rm_X8_loss : Room := { frames := 3, cells := 0, slots := 0, locals := 66 }
noncomputable def f_X8_loss  (s : S8) (x1 : Int32) (x2 : Int32) : Option (Int32) :=
  Option.bind (f_X8_isFleet s x1) (fun v1 => (if v1 = 0 then some (-1) else Option.bind (f_X8_isYear x2) (fun v4 => (if v4 = 0 then some (-1) else Option.bind (f_X8_isInsured s x1 x2) (fun v7 => (if v7 = 0 then some (-2) else Option.bind (f_X8_lossIn s x1 x2) (fun v10 => some v10)))))))
abbrev rm_X8_claimOf : Room := { frames := 2, cells := 0, slots := 0, locals := 43 }
noncomputable def f_X8_claimOf  (s : S8) (x1 : Int32) (x2 : Int32) : Option (Int32) :=
  Option.bind (f_X8_isClaim s x1) (fun v1 => (if v1 = 0 then some (-1) else Option.bind (f_X8_in x2 0 3) (fun v4 => (if v4 = 0 then some (-1) else (if 3 ≤ x2 then Option.bind (f_X8_counted s x1) (fun v8 => some v8) else Option.bind (x_rd 140 (g8_now s) (((20 : Int32) + ((3 : Int32) * x1)) + x2)) (fun v11 => some v11))))))
abbrev rm_X8_group : Room := { frames := 6, cells := 0, slots := 0, locals := 169 }
noncomputable def f_X8_group_p89 (k89 : S8 → Int32 → Int32 → Int32 → Option (Int32 × S8)) (s : S8) (x1 : Int32) (x3 : Int32) (x4 : Int32) : Option (Int32 × S8) :=
  Option.bind (f_X8_many s) (fun v1 => (if v1 ≤ x4 then some (x3, s) else Option.bind (f_X8_classOf s x4) (fun v4 => (if v4 = x1 then k89 s x1 (x3 ||| ((1 : Int32) <<< (x4 &&& 31))) (x4 + 1) else k89 s x1 x3 (x4 + 1)))))
noncomputable def lp_X8_group_p89  (s : S8) (x1 : Int32) (x3 : Int32) (x4 : Int32) : Option (Int32 × S8) :=
  x_loop (fun (k : S8 × Int32 × Int32 × Int32 → Option (Int32 × S8)) (z : S8 × Int32 × Int32 × Int32) => f_X8_group_p89  (fun s x1 x3 x4 => k (s, x1, x3, x4)) z.1 z.2.1 z.2.2.1 z.2.2.2) FU (s, x1, x3, x4)
noncomputable def f_X8_group  (s : S8) (x1 : Int32) (x2 : Int32) : Option (Int32 × S8) :=
  Option.bind (f_X8_isClass x1) (fun v1 => (if v1 = 0 then some ((-1), s) else Option.bind (f_X8_in x2 0 5) (fun v4 => (if v4 = 0 then some ((-1), s) else Option.bind (f_X8_works s) (fun v7 => (if x2 = 0 then Option.bind (x_rd 3 (g8_have v7) x1) (fun v11 => some (v11, v7)) else (if x2 = 1 then Option.bind (x_rd 3 (g8_spans v7) x1) (fun v14 => some (v14, v7)) else (if x2 = 2 then Option.bind (x_rd 3 (g8_totals v7) x1) (fun v17 => some (v17, v7)) else (if x2 = 3 then Option.bind (x_rd 3 (g8_steadied v7) x1) (fun v20 => some (v20, v7)) else (if x2 = 4 then lp_X8_group_p89  v7 x1 0 0 else Option.bind (f_X8_shares v7 x1) (fun v22 => some (v22, v7))))))))))))
abbrev rm_X8_spreadNow : Room := { frames := 6, cells := 0, slots := 0, locals := 169 }
noncomputable def f_X8_spreadNow  (s : S8) (x1 : Int32) (x2 : Int32) (x3 : Int32) : Option (Int64 × S8) :=
  Option.bind (f_X8_works s) (fun v1 => Option.bind (x_rd 15 (g8_low v1) (((5 : Int32) * x1) + x2)) (fun v4 => (if (lg_cmp v4 0) = 0 then some ((-1000000000), v1) else (if x3 = 0 then Option.bind (x_rd 15 (g8_up v1) (((5 : Int32) * x1) + x2)) (fun v8 => some (v8, v1)) else Option.bind (x_rd 15 (g8_low v1) (((5 : Int32) * x1) + x2)) (fun v10 => some (v10, v1))))))
abbrev rm_X8_spread : Room := { frames := 7, cells := 0, slots := 0, locals := 193 }
noncomputable def f_X8_spread  (s : S8) (x1 : Int32) (x2 : Int32) (x3 : Int32) : Option (Int64 × S8) :=
  Option.bind (f_X8_isClass x1) (fun v1 => (if v1 = 0 then some ((-1000000000), s) else Option.bind (f_X8_in x2 0 4) (fun v4 => (if v4 = 0 then some ((-1000000000), s) else Option.bind (f_X8_spreadNow s x1 x2 x3) (fun v7 => some (v7.1, v7.2))))))
abbrev rm_X8_whole : Room := { frames := 4, cells := 0, slots := 0, locals := 91 }
noncomputable def f_X8_whole  (s : S8) (x1 : Int32) : Option (Int64 × S8) :=
  Option.bind (f_X8_sums s) (fun v1 => (if (lg_cmp (g8_wholeLow v1) 0) = 0 then some ((-1000000000), v1) else (if x1 = 0 then some ((g8_wholeUp v1), v1) else some ((g8_wholeLow v1), v1))))
abbrev rm_X8_rate : Room := { frames := 6, cells := 0, slots := 0, locals := 169 }
noncomputable def f_X8_rate  (s : S8) (x1 : Int32) (x2 : Int32) : Option (Int64 × S8) :=
  Option.bind (f_X8_isFleet s x1) (fun v1 => (if v1 = 0 then some ((-1000000000), s) else Option.bind (f_X8_isRated s x1) (fun v4 => (if v4 = 0 then some ((-1000000000), s) else Option.bind (f_X8_works s) (fun v7 => (if x2 = 0 then Option.bind (x_rd 8 (g8_rateUp v7) x1) (fun v11 => some (v11, v7)) else Option.bind (x_rd 8 (g8_rateLow v7) x1) (fun v13 => some (v13, v7))))))))
abbrev rm_X8_thousandths : Room := { frames := 7, cells := 0, slots := 0, locals := 190 }
noncomputable def f_X8_thousandths  (s : S8) (x1 : Int32) : Option (Int32 × S8) :=
  Option.bind (f_X8_isFleet s x1) (fun v1 => (if v1 = 0 then some ((-1), s) else Option.bind (f_X8_isRated s x1) (fun v4 => (if v4 = 0 then some ((-2), s) else Option.bind (f_X8_ratedNow s x1) (fun v7 => some (v7.1, v7.2))))))
abbrev rm_X8_isAhead : Room := { frames := 1, cells := 0, slots := 0, locals := 40 }
noncomputable def f_X8_isAhead  (s : S8) (x1 : Int32) (x2 : Int32) : Option (Int32) :=
  Option.bind (x_rd 8 (g8_rateUp s) x2) (fun v2 => Option.bind (x_rd 8 (g8_rateLow s) x2) (fun v4 => Option.bind (x_rd 8 (g8_rateUp s) x1) (fun v6 => Option.bind (x_rd 8 (g8_rateLow s) x1) (fun v8 => Option.bind (f_X8_isLess v2 v4 v6 v8) (fun v9 => (if v9 = 0 then (if x2 ≤ x1 then some 0 else Option.bind (x_rd 8 (g8_rateUp s) x1) (fun v14 => Option.bind (x_rd 8 (g8_rateLow s) x1) (fun v16 => Option.bind (x_rd 8 (g8_rateUp s) x2) (fun v18 => Option.bind (x_rd 8 (g8_rateLow s) x2) (fun v20 => Option.bind (f_X8_isLess v14 v16 v18 v20) (fun v21 => (if v21 = 0 then some 1 else some 0))))))) else some 1))))))
abbrev rm_X8_ranked : Room := { frames := 6, cells := 0, slots := 0, locals := 169 }
noncomputable def f_X8_ranked_p31 (k6 : S8 → Int32 → Int32 → Option (Int32 × S8)) (k31 : S8 → Int32 → Int32 → Int32 → Int32 → Option (Int32 × S8)) (s : S8) (x1 : Int32) (x2 : Int32) (x3 : Int32) (x4 : Int32) : Option (Int32 × S8) :=
  Option.bind (f_X8_many s) (fun v1 => (if v1 ≤ x4 then (if x3 = x1 then some (x2, s) else k6 s x1 (x2 + 1)) else (if x4 = x2 then k31 s x1 x2 x3 (x4 + 1) else Option.bind (x_rd 8 (g8_n s) x4) (fun v7 => (if v7 ≤ 0 then k31 s x1 x2 x3 (x4 + 1) else Option.bind (f_X8_isAhead s x4 x2) (fun v9 => (if v9 = 0 then k31 s x1 x2 x3 (x4 + 1) else k31 s x1 x2 (x3 + 1) (x4 + 1))))))))
noncomputable def lp_X8_ranked_p31 (k6 : S8 → Int32 → Int32 → Option (Int32 × S8)) (s : S8) (x1 : Int32) (x2 : Int32) (x3 : Int32) (x4 : Int32) : Option (Int32 × S8) :=
  x_loop (fun (k : S8 × Int32 × Int32 × Int32 × Int32 → Option (Int32 × S8)) (z : S8 × Int32 × Int32 × Int32 × Int32) => f_X8_ranked_p31 k6 (fun s x1 x2 x3 x4 => k (s, x1, x2, x3, x4)) z.1 z.2.1 z.2.2.1 z.2.2.2.1 z.2.2.2.2) FU (s, x1, x2, x3, x4)
noncomputable def f_X8_ranked_p6 (k6 : S8 → Int32 → Int32 → Option (Int32 × S8)) (s : S8) (x1 : Int32) (x2 : Int32) : Option (Int32 × S8) :=
  Option.bind (f_X8_many s) (fun v1 => (if v1 ≤ x2 then some ((-1), s) else Option.bind (x_rd 8 (g8_n s) x2) (fun v5 => (if v5 = 0 then k6 s x1 (x2 + 1) else lp_X8_ranked_p31 k6 s x1 x2 0 0))))
noncomputable def lp_X8_ranked_p6  (s : S8) (x1 : Int32) (x2 : Int32) : Option (Int32 × S8) :=
  x_loop (fun (k : S8 × Int32 × Int32 → Option (Int32 × S8)) (z : S8 × Int32 × Int32) => f_X8_ranked_p6  (fun s x1 x2 => k (s, x1, x2)) z.1 z.2.1 z.2.2) FU (s, x1, x2)
noncomputable def f_X8_ranked  (s : S8) (x1 : Int32) : Option (Int32 × S8) :=
  Option.bind (f_X8_works s) (fun v1 => lp_X8_ranked_p6  v1 x1 0)
abbrev rm_X8_isGreater : Room := { frames := 1, cells := 0, slots := 0, locals := 21 }
noncomputable def f_X8_isGreater  (s : S8) (x1 : Int32) (x2 : Int32) : Option (Int32) :=
  Option.bind (f_X8_amountOf s x1) (fun v1 => Option.bind (f_X8_amountOf s x2) (fun v3 => (if v3 < v1 then some 1 else Option.bind (f_X8_amountOf s x1) (fun v6 => Option.bind (f_X8_amountOf s x2) (fun v8 => (if v6 = v8 then (if x2 ≤ x1 then some 0 else some 1) else some 0))))))
abbrev rm_X8_greatest : Room := { frames := 2, cells := 0, slots := 0, locals := 43 }
noncomputable def f_X8_greatest_p38 (k12 : S8 → Int32 → Int32 → Int32 → Option (Int32)) (k38 : S8 → Int32 → Int32 → Int32 → Int32 → Int32 → Option (Int32)) (s : S8) (x1 : Int32) (x2 : Int32) (x3 : Int32) (x4 : Int32) (x5 : Int32) : Option (Int32) :=
  Option.bind (f_X8_claims s) (fun v1 => (if v1 ≤ x5 then (if x4 = x2 then some x3 else k12 s x1 x2 (x3 + 1)) else Option.bind (f_X8_fleetOf s x5) (fun v5 => (if v5 = x1 then Option.bind (f_X8_isGreater s x5 x3) (fun v8 => (if v8 = 0 then k38 s x1 x2 x3 x4 (x5 + 1) else k38 s x1 x2 x3 (x4 + 1) (x5 + 1))) else k38 s x1 x2 x3 x4 (x5 + 1)))))
noncomputable def lp_X8_greatest_p38 (k12 : S8 → Int32 → Int32 → Int32 → Option (Int32)) (s : S8) (x1 : Int32) (x2 : Int32) (x3 : Int32) (x4 : Int32) (x5 : Int32) : Option (Int32) :=
  x_loop (fun (k : S8 × Int32 × Int32 × Int32 × Int32 × Int32 → Option (Int32)) (z : S8 × Int32 × Int32 × Int32 × Int32 × Int32) => f_X8_greatest_p38 k12 (fun s x1 x2 x3 x4 x5 => k (s, x1, x2, x3, x4, x5)) z.1 z.2.1 z.2.2.1 z.2.2.2.1 z.2.2.2.2.1 z.2.2.2.2.2) FU (s, x1, x2, x3, x4, x5)
noncomputable def f_X8_greatest_p12 (k12 : S8 → Int32 → Int32 → Int32 → Option (Int32)) (s : S8) (x1 : Int32) (x2 : Int32) (x3 : Int32) : Option (Int32) :=
  Option.bind (f_X8_claims s) (fun v1 => (if v1 ≤ x3 then some (-1) else Option.bind (f_X8_fleetOf s x3) (fun v4 => (if v4 = x1 then lp_X8_greatest_p38 k12 s x1 x2 x3 0 0 else k12 s x1 x2 (x3 + 1)))))
noncomputable def lp_X8_greatest_p12  (s : S8) (x1 : Int32) (x2 : Int32) (x3 : Int32) : Option (Int32) :=
  x_loop (fun (k : S8 × Int32 × Int32 × Int32 → Option (Int32)) (z : S8 × Int32 × Int32 × Int32) => f_X8_greatest_p12  (fun s x1 x2 x3 => k (s, x1, x2, x3)) z.1 z.2.1 z.2.2.1 z.2.2.2) FU (s, x1, x2, x3)
noncomputable def f_X8_greatest  (s : S8) (x1 : Int32) (x2 : Int32) : Option (Int32) :=
  Option.bind (f_X8_isFleet s x1) (fun v1 => (if v1 = 0 then some (-1) else lp_X8_greatest_p12  s x1 x2 0))
abbrev rm_X8_worst : Room := { frames := 3, cells := 0, slots := 0, locals := 66 }
noncomputable def f_X8_worst_p14 (k14 : S8 → Int32 → Int32 → Int32 → Option (Int32)) (s : S8) (x1 : Int32) (x2 : Int32) (x3 : Int32) : Option (Int32) :=
  Option.bind (f_X8_many s) (fun v1 => (if v1 ≤ x3 then some x2 else Option.bind (f_X8_isInsured s x3 x1) (fun v4 => (if v4 = 0 then k14 s x1 x2 (x3 + 1) else (if x2 < 0 then k14 s x1 x3 (x3 + 1) else Option.bind (f_X8_lossIn s x3 x1) (fun v8 => Option.bind (f_X8_lossIn s x2 x1) (fun v10 => (if v8 ≤ v10 then k14 s x1 x2 (x3 + 1) else k14 s x1 x3 (x3 + 1)))))))))
noncomputable def lp_X8_worst_p14  (s : S8) (x1 : Int32) (x2 : Int32) (x3 : Int32) : Option (Int32) :=
  x_loop (fun (k : S8 × Int32 × Int32 × Int32 → Option (Int32)) (z : S8 × Int32 × Int32 × Int32) => f_X8_worst_p14  (fun s x1 x2 x3 => k (s, x1, x2, x3)) z.1 z.2.1 z.2.2.1 z.2.2.2) FU (s, x1, x2, x3)
noncomputable def f_X8_worst  (s : S8) (x1 : Int32) : Option (Int32) :=
  Option.bind (f_X8_isYear x1) (fun v1 => (if v1 = 0 then some (-1) else lp_X8_worst_p14  s x1 (-2) 0))
abbrev rm_X8_dearestOf : Room := { frames := 6, cells := 0, slots := 0, locals := 169 }
noncomputable def f_X8_dearestOf_p18 (k18 : S8 → Int32 → Int32 → Int32 → Option (Int32 × S8)) (s : S8) (x1 : Int32) (x2 : Int32) (x3 : Int32) : Option (Int32 × S8) :=
  Option.bind (f_X8_many s) (fun v1 => (if v1 ≤ x3 then some (x2, s) else Option.bind (f_X8_isIn s x3 x1) (fun v4 => (if v4 = 0 then k18 s x1 x2 (x3 + 1) else (if x2 < 0 then k18 s x1 x3 (x3 + 1) else Option.bind (f_X8_isAhead s x3 x2) (fun v8 => (if v8 = 0 then k18 s x1 x2 (x3 + 1) else k18 s x1 x3 (x3 + 1))))))))
noncomputable def lp_X8_dearestOf_p18  (s : S8) (x1 : Int32) (x2 : Int32) (x3 : Int32) : Option (Int32 × S8) :=
  x_loop (fun (k : S8 × Int32 × Int32 × Int32 → Option (Int32 × S8)) (z : S8 × Int32 × Int32 × Int32) => f_X8_dearestOf_p18  (fun s x1 x2 x3 => k (s, x1, x2, x3)) z.1 z.2.1 z.2.2.1 z.2.2.2) FU (s, x1, x2, x3)
noncomputable def f_X8_dearestOf  (s : S8) (x1 : Int32) : Option (Int32 × S8) :=
  Option.bind (f_X8_isClass x1) (fun v1 => (if v1 = 0 then some ((-1), s) else Option.bind (f_X8_works s) (fun v4 => lp_X8_dearestOf_p18  v4 x1 (-2) 0)))
abbrev rm_X8_claimsIn : Room := { frames := 2, cells := 0, slots := 0, locals := 42 }
noncomputable def f_X8_claimsIn_p13 (k13 : S8 → Int32 → Int32 → Int32 → Option (Int32)) (s : S8) (x1 : Int32) (x2 : Int32) (x3 : Int32) : Option (Int32) :=
  Option.bind (f_X8_claims s) (fun v1 => (if v1 ≤ x3 then some x2 else Option.bind (f_X8_yearOf s x3) (fun v4 => (if v4 = x1 then k13 s x1 (x2 + 1) (x3 + 1) else k13 s x1 x2 (x3 + 1)))))
noncomputable def lp_X8_claimsIn_p13  (s : S8) (x1 : Int32) (x2 : Int32) (x3 : Int32) : Option (Int32) :=
  x_loop (fun (k : S8 × Int32 × Int32 × Int32 → Option (Int32)) (z : S8 × Int32 × Int32 × Int32) => f_X8_claimsIn_p13  (fun s x1 x2 x3 => k (s, x1, x2, x3)) z.1 z.2.1 z.2.2.1 z.2.2.2) FU (s, x1, x2, x3)
noncomputable def f_X8_claimsIn  (s : S8) (x1 : Int32) : Option (Int32) :=
  Option.bind (f_X8_isYear x1) (fun v1 => (if v1 = 0 then some (-1) else lp_X8_claimsIn_p13  s x1 0 0))
abbrev rm_X8_gap : Room := { frames := 6, cells := 0, slots := 0, locals := 169 }
noncomputable def f_X8_gap  (s : S8) (x1 : Int32) (x2 : Int32) : Option (Int32 × S8) :=
  Option.bind (f_X8_isFleet s x1) (fun v1 => (if v1 = 0 then some ((-1000000), s) else Option.bind (f_X8_isFleet s x2) (fun v4 => (if v4 = 0 then some ((-1000000), s) else Option.bind (f_X8_isRated s x1) (fun v7 => (if v7 = 0 then some ((-1000000), s) else Option.bind (f_X8_isRated s x2) (fun v10 => (if v10 = 0 then some ((-1000000), s) else Option.bind (f_X8_works s) (fun v13 => Option.bind (f_X8_inThousandths v13 x1) (fun v15 => Option.bind (f_X8_inThousandths v13 x2) (fun v17 => some ((v15 - v17), v13))))))))))))
abbrev rm_X8_premium : Room := { frames := 7, cells := 0, slots := 0, locals := 190 }
noncomputable def f_X8_premium  (s : S8) (x1 : Int32) (x2 : Int32) : Option (Int32 × S8) :=
  Option.bind (f_X8_isFleet s x1) (fun v1 => (if v1 = 0 then some ((-1), s) else Option.bind (f_X8_in x2 1 60) (fun v4 => (if v4 = 0 then some ((-1), s) else Option.bind (f_X8_isRated s x1) (fun v7 => (if v7 = 0 then some ((-2), s) else Option.bind (f_X8_ratedNow s x1) (fun v10 => some (((v10.1 * x2) / 12), v10.2))))))))
abbrev rm_X8_sharedBy : Room := { frames := 4, cells := 0, slots := 0, locals := 114 }
noncomputable def f_X8_sharedBy  (s : S8) (x1 : Int32) (x2 : Int32) : Option (Int32 × S8) :=
  Option.bind (f_X8_classOf s x1) (fun v1 => Option.bind (f_X8_shareOf s v1 x2) (fun v3 => some (v3.1, v3.2)))
abbrev rm_X8_shareBy : Room := { frames := 6, cells := 0, slots := 0, locals := 169 }
noncomputable def f_X8_shareBy  (s : S8) (x1 : Int32) (x2 : Int32) : Option (Int32 × S8) :=
  Option.bind (f_X8_isFleet s x1) (fun v1 => (if v1 = 0 then some ((-1), s) else Option.bind (f_X8_isAmount x2) (fun v4 => (if v4 = 0 then some ((-1), s) else Option.bind (f_X8_isRated s x1) (fun v7 => (if v7 = 0 then some ((-2), s) else Option.bind (f_X8_works s) (fun v10 => Option.bind (f_X8_sharedBy v10 x1 x2) (fun v12 => some (v12.1, v12.2)))))))))
abbrev rm_X8_yearsFor : Room := { frames := 6, cells := 0, slots := 0, locals := 169 }
noncomputable def f_X8_yearsFor_p38 (k38 : S8 → Int32 → Int32 → Int32 → Option (Int32 × S8)) (s : S8) (x1 : Int32) (x2 : Int32) (x3 : Int32) : Option (Int32 × S8) :=
  (if 99 < x3 then some ((-2), s) else Option.bind (f_X8_sharedBy s x1 x3) (fun v2 => (if v2.1 < x2 then k38 v2.2 x1 x2 (x3 + 1) else some (x3, v2.2))))
noncomputable def lp_X8_yearsFor_p38  (s : S8) (x1 : Int32) (x2 : Int32) (x3 : Int32) : Option (Int32 × S8) :=
  x_loop (fun (k : S8 × Int32 × Int32 × Int32 → Option (Int32 × S8)) (z : S8 × Int32 × Int32 × Int32) => f_X8_yearsFor_p38  (fun s x1 x2 x3 => k (s, x1, x2, x3)) z.1 z.2.1 z.2.2.1 z.2.2.2) FU (s, x1, x2, x3)
noncomputable def f_X8_yearsFor  (s : S8) (x1 : Int32) (x2 : Int32) : Option (Int32 × S8) :=
  Option.bind (f_X8_isFleet s x1) (fun v1 => (if v1 = 0 then some ((-1), s) else Option.bind (f_X8_in x2 1 1000) (fun v4 => (if v4 = 0 then some ((-1), s) else Option.bind (f_X8_isRated s x1) (fun v7 => (if v7 = 0 then some ((-2), s) else Option.bind (f_X8_works s) (fun v10 => lp_X8_yearsFor_p38  v10 x1 x2 1)))))))
abbrev rm_X8_ratedBy : Room := { frames := 7, cells := 0, slots := 0, locals := 190 }
noncomputable def f_X8_ratedBy  (s : S8) (x1 : Int32) (x2 : Int32) (x3 : Int32) : Option (Int32 × S8) :=
  Option.bind (x_rd 140 (g8_now s) x2) (fun v2 => Option.bind (x_wr 140 (g8_now s) x2 x3) (fun w4 => Option.bind (f_X8_ratedNow (u8_now s w4) x1) (fun v5 => Option.bind (x_wr 140 (g8_now v5.2) x2 v2) (fun w8 => some (v5.1, (u8_now v5.2 w8))))))
abbrev rm_X8_inClass : Room := { frames := 8, cells := 0, slots := 0, locals := 215 }
noncomputable def f_X8_inClass  (s : S8) (x1 : Int32) (x2 : Int32) : Option (Int32 × S8) :=
  Option.bind (f_X8_isFleet s x1) (fun v1 => (if v1 = 0 then some ((-1), s) else Option.bind (f_X8_isClass x2) (fun v4 => (if v4 = 0 then some ((-1), s) else Option.bind (f_X8_isRated s x1) (fun v7 => (if v7 = 0 then some ((-2), s) else Option.bind (f_X8_ratedBy s x1 ((4 : Int32) + ((2 : Int32) * x1)) x2) (fun v10 => some (v10.1, v10.2))))))))
abbrev rm_X8_bestClass : Room := { frames := 8, cells := 0, slots := 0, locals := 215 }
noncomputable def f_X8_bestClass_p38 (k38 : S8 → Int32 → Int32 → Int32 → Int32 → Option (Int32 × S8)) (s : S8) (x1 : Int32) (x2 : Int32) (x3 : Int32) (x4 : Int32) : Option (Int32 × S8) :=
  (if 3 ≤ x4 then some (x2, s) else Option.bind (f_X8_ratedBy s x1 ((4 : Int32) + ((2 : Int32) * x1)) x4) (fun v2 => (if v2.1 < x3 then k38 v2.2 x1 x4 v2.1 (x4 + 1) else k38 v2.2 x1 x2 x3 (x4 + 1))))
noncomputable def lp_X8_bestClass_p38  (s : S8) (x1 : Int32) (x2 : Int32) (x3 : Int32) (x4 : Int32) : Option (Int32 × S8) :=
  x_loop (fun (k : S8 × Int32 × Int32 × Int32 × Int32 → Option (Int32 × S8)) (z : S8 × Int32 × Int32 × Int32 × Int32) => f_X8_bestClass_p38  (fun s x1 x2 x3 x4 => k (s, x1, x2, x3, x4)) z.1 z.2.1 z.2.2.1 z.2.2.2.1 z.2.2.2.2) FU (s, x1, x2, x3, x4)
noncomputable def f_X8_bestClass  (s : S8) (x1 : Int32) : Option (Int32 × S8) :=
  Option.bind (f_X8_isFleet s x1) (fun v1 => (if v1 = 0 then some ((-1), s) else Option.bind (f_X8_isRated s x1) (fun v4 => (if v4 = 0 then some ((-2), s) else Option.bind (f_X8_ratedBy s x1 ((4 : Int32) + ((2 : Int32) * x1)) 0) (fun v7 => lp_X8_bestClass_p38  v7.2 x1 0 v7.1 1)))))
abbrev rm_X8_byCap : Room := { frames := 8, cells := 0, slots := 0, locals := 215 }
noncomputable def f_X8_byCap  (s : S8) (x1 : Int32) (x2 : Int32) : Option (Int32 × S8) :=
  Option.bind (f_X8_isFleet s x1) (fun v1 => (if v1 = 0 then some ((-1), s) else Option.bind (f_X8_isAmount x2) (fun v4 => (if v4 = 0 then some ((-1), s) else Option.bind (f_X8_isRated s x1) (fun v7 => (if v7 = 0 then some ((-2), s) else Option.bind (f_X8_ratedBy s x1 0 x2) (fun v10 => some (v10.1, v10.2))))))))
abbrev rm_X8_capFor : Room := { frames := 8, cells := 0, slots := 0, locals := 215 }
noncomputable def f_X8_capFor_p32 (k32 : S8 → Int32 → Int32 → Int32 → Option (Int32 × S8)) (s : S8) (x1 : Int32) (x2 : Int32) (x3 : Int32) : Option (Int32 × S8) :=
  Option.bind (f_X8_ratedBy s x1 0 x3) (fun v1 => (if v1.1 = x2 then some (x3, v1.2) else k32 v1.2 x1 x2 (x3 + 1)))
noncomputable def lp_X8_capFor_p32  (s : S8) (x1 : Int32) (x2 : Int32) (x3 : Int32) : Option (Int32 × S8) :=
  x_loop (fun (k : S8 × Int32 × Int32 × Int32 → Option (Int32 × S8)) (z : S8 × Int32 × Int32 × Int32) => f_X8_capFor_p32  (fun s x1 x2 x3 => k (s, x1, x2, x3)) z.1 z.2.1 z.2.2.1 z.2.2.2) FU (s, x1, x2, x3)
noncomputable def f_X8_capFor  (s : S8) (x1 : Int32) : Option (Int32 × S8) :=
  Option.bind (f_X8_isFleet s x1) (fun v1 => (if v1 = 0 then some ((-1), s) else Option.bind (f_X8_isRated s x1) (fun v4 => (if v4 = 0 then some ((-2), s) else Option.bind (f_X8_ratedBy s x1 0 99) (fun v7 => lp_X8_capFor_p32  v7.2 x1 v7.1 1)))))
abbrev rm_X8_ends : Room := { frames := 3, cells := 0, slots := 0, locals := 66 }
noncomputable def f_X8_ends_p9 (k2 : S8 → Int32 → Option (S8)) (k9 : S8 → Int32 → Int32 → Option (S8)) (s : S8) (x2 : Int32) (x3 : Int32) : Option (S8) :=
  Option.bind (f_X8_many s) (fun v1 => (if v1 ≤ x3 then Option.bind (f_X8_dropsAll s (-1) x2) (fun v4 => k2 v4.2 (x2 + 1)) else Option.bind (x_rd 140 (g8_now s) (((4 : Int32) + ((2 : Int32) * x3)) + (1 : Int32))) (fun v7 => Option.bind (x_wr 140 (g8_now s) (((4 : Int32) + ((2 : Int32) * x3)) + (1 : Int32)) (v7 &&& (((1 : Int32) <<< (x2 &&& 31)) ^^^ (-1 : Int32)))) (fun w9 => k9 (u8_now s w9) x2 (x3 + 1)))))
noncomputable def lp_X8_ends_p9 (k2 : S8 → Int32 → Option (S8)) (s : S8) (x2 : Int32) (x3 : Int32) : Option (S8) :=
  x_loop (fun (k : S8 × Int32 × Int32 → Option (S8)) (z : S8 × Int32 × Int32) => f_X8_ends_p9 k2 (fun s x2 x3 => k (s, x2, x3)) z.1 z.2.1 z.2.2) FU (s, x2, x3)
noncomputable def f_X8_ends_p2 (k2 : S8 → Int32 → Option (S8)) (s : S8) (x2 : Int32) : Option (S8) :=
  (if 5 ≤ x2 then some s else lp_X8_ends_p9 k2 s x2 0)
noncomputable def lp_X8_ends_p2  (s : S8) (x2 : Int32) : Option (S8) :=
  x_loop (fun (k : S8 × Int32 → Option (S8)) (z : S8 × Int32) => f_X8_ends_p2  (fun s x2 => k (s, x2)) z.1 z.2) FU (s, x2)
noncomputable def f_X8_ends  (s : S8) (x1 : Int32) : Option (S8) :=
  lp_X8_ends_p2  s x1
abbrev rm_X8_sharedNow : Room := { frames := 6, cells := 0, slots := 0, locals := 169 }
noncomputable def f_X8_sharedNow  (s : S8) (x1 : Int32) : Option (Int32 × S8) :=
  Option.bind (f_X8_works s) (fun v1 => Option.bind (x_rd 8 (g8_share v1) x1) (fun v4 => some (v4, v1)))
abbrev rm_X8_earlier : Room := { frames := 7, cells := 0, slots := 0, locals := 190 }
noncomputable def f_X8_earlier_p58  (s : S8) (y0 : Int32) : Option (Int32 × S8) :=
  Option.bind (f_X8_takesBack s) (fun v1 => some (y0, v1))
noncomputable def f_X8_earlier  (s : S8) (x1 : Int32) (x2 : Int32) (x3 : Int32) : Option (Int32 × S8) :=
  Option.bind (f_X8_isFleet s x1) (fun v1 => (if v1 = 0 then some ((-1), s) else Option.bind (f_X8_in x2 1 5) (fun v4 => (if v4 = 0 then some ((-1), s) else Option.bind (f_X8_putsAside s) (fun v7 => Option.bind (f_X8_ends v7 x2) (fun v9 => Option.bind (f_X8_isRated v9 x1) (fun v11 => (if v11 = 0 then f_X8_earlier_p58  v9 (-2) else (if x3 = 0 then Option.bind (f_X8_ratedNow v9 x1) (fun v15 => f_X8_earlier_p58  v15.2 v15.1) else Option.bind (f_X8_sharedNow v9 x1) (fun v17 => f_X8_earlier_p58  v17.2 v17.1))))))))))
abbrev rm_X8_early : Room := { frames := 8, cells := 0, slots := 0, locals := 214 }
noncomputable def f_X8_early  (s : S8) (x1 : Int32) (x2 : Int32) : Option (Int32 × S8) :=
  Option.bind (f_X8_earlier s x1 x2 0) (fun v1 => some (v1.1, v1.2))
abbrev rm_X8_earlyShare : Room := { frames := 8, cells := 0, slots := 0, locals := 214 }
noncomputable def f_X8_earlyShare  (s : S8) (x1 : Int32) (x2 : Int32) : Option (Int32 × S8) :=
  Option.bind (f_X8_earlier s x1 x2 1) (fun v1 => some (v1.1, v1.2))
abbrev rm_X8_withoutFleet : Room := { frames := 7, cells := 0, slots := 0, locals := 190 }
noncomputable def f_X8_withoutFleet_p63  (s : S8) (y1 : Int32) : Option (Int32 × S8) :=
  Option.bind (f_X8_ratedNow s y1) (fun v1 => Option.bind (f_X8_takesBack v1.2) (fun v3 => some (v1.1, v3)))
noncomputable def f_X8_withoutFleet  (s : S8) (x1 : Int32) (x2 : Int32) : Option (Int32 × S8) :=
  Option.bind (f_X8_isFleet s x1) (fun v1 => (if v1 = 0 then some ((-1), s) else Option.bind (f_X8_isFleet s x2) (fun v4 => (if v4 = 0 then some ((-1), s) else (if x1 = x2 then some ((-1), s) else Option.bind (f_X8_isRated s x1) (fun v8 => (if v8 = 0 then some ((-2), s) else Option.bind (f_X8_putsAside s) (fun v11 => Option.bind (f_X8_dropsAll v11 x2 (-1)) (fun v13 => Option.bind (f_X8_goes v13.2 x2) (fun v15 => (if x1 ≤ x2 then f_X8_withoutFleet_p63  v15 x1 else f_X8_withoutFleet_p63  v15 (x1 - (1 : Int32)))))))))))))
abbrev rm_X8_joined : Room := { frames := 7, cells := 0, slots := 0, locals := 193 }
noncomputable def f_X8_joined  (s : S8) (x1 : Int32) (x2 : Int32) (x3 : Int32) (x4 : Int32) : Option (Int64 × S8) :=
  Option.bind (f_X8_isClass x1) (fun v1 => (if v1 = 0 then some ((-1000000000), s) else Option.bind (f_X8_isClass x2) (fun v4 => (if v4 = 0 then some ((-1000000000), s) else (if x1 = x2 then some ((-1000000000), s) else Option.bind (f_X8_in x3 0 4) (fun v8 => (if v8 = 0 then some ((-1000000000), s) else Option.bind (f_X8_putsAside s) (fun v11 => Option.bind (f_X8_joins v11 x1 x2) (fun v13 => Option.bind (f_X8_spreadNow v13 x2 x3 x4) (fun v15 => Option.bind (f_X8_takesBack v15.2) (fun v17 => some (v15.1, v17))))))))))))
abbrev rm_X8_ratedWithout : Room := { frames := 7, cells := 0, slots := 0, locals := 190 }
noncomputable def f_X8_ratedWithout  (s : S8) (x1 : Int32) (x2 : Int32) : Option (Int32 × S8) :=
  Option.bind (f_X8_putsAside s) (fun v1 => Option.bind (f_X8_drops v1 x2) (fun v3 => Option.bind (f_X8_ratedNow v3 x1) (fun v5 => Option.bind (f_X8_takesBack v5.2) (fun v7 => some (v5.1, v7)))))
abbrev rm_X8_withoutClaim : Room := { frames := 8, cells := 0, slots := 0, locals := 213 }
noncomputable def f_X8_withoutClaim  (s : S8) (x1 : Int32) (x2 : Int32) : Option (Int32 × S8) :=
  Option.bind (f_X8_isFleet s x1) (fun v1 => (if v1 = 0 then some ((-1), s) else Option.bind (f_X8_isClaim s x2) (fun v4 => (if v4 = 0 then some ((-1), s) else Option.bind (f_X8_isRated s x1) (fun v7 => (if v7 = 0 then some ((-2), s) else Option.bind (f_X8_ratedWithout s x1 x2) (fun v10 => some (v10.1, v10.2))))))))
abbrev rm_X8_dearest : Room := { frames := 8, cells := 0, slots := 0, locals := 213 }
noncomputable def f_X8_dearest_p7 (k7 : S8 → Int32 → Int32 → Int32 → Option (Int32 × S8)) (s : S8) (x1 : Int32) (x2 : Int32) (x3 : Int32) : Option (Int32 × S8) :=
  Option.bind (f_X8_claims s) (fun v1 => (if v1 ≤ x3 then some (x1, s) else Option.bind (f_X8_fleetOf s x3) (fun v4 => Option.bind (f_X8_ratedNow s v4) (fun v6 => Option.bind (f_X8_fleetOf v6.2 x3) (fun v8 => Option.bind (f_X8_ratedWithout v6.2 v8 x3) (fun v10 => (if x1 < 0 then k7 v10.2 x3 (v6.1 - v10.1) (x3 + 1) else (if x2 < (v6.1 - v10.1) then k7 v10.2 x3 (v6.1 - v10.1) (x3 + 1) else k7 v10.2 x1 x2 (x3 + 1)))))))))
noncomputable def lp_X8_dearest_p7  (s : S8) (x1 : Int32) (x2 : Int32) (x3 : Int32) : Option (Int32 × S8) :=
  x_loop (fun (k : S8 × Int32 × Int32 × Int32 → Option (Int32 × S8)) (z : S8 × Int32 × Int32 × Int32) => f_X8_dearest_p7  (fun s x1 x2 x3 => k (s, x1, x2, x3)) z.1 z.2.1 z.2.2.1 z.2.2.2) FU (s, x1, x2, x3)
noncomputable def f_X8_dearest  (s : S8) : Option (Int32 × S8) :=
  lp_X8_dearest_p7  s (-2) 0 0
abbrev rm_X8_writes : Room := { frames := 0, cells := 0, slots := 0, locals := 0 }
noncomputable def f_X8_writes  (s : S8) (x1 : Int32) : Option (S8) :=
  Option.bind (x_wr 800 (g8_text s) (g8_textMany s) x1) (fun w2 => some (u8_textMany (u8_text s w2) ((g8_textMany s) + (1 : Int32))))
abbrev rm_X8_wordFrom : Room := { frames := 0, cells := 0, slots := 0, locals := 0 }
noncomputable def f_X8_wordFrom_p4 (k4 : S8 → Int32 → Int32 → Option (Int32)) (s : S8) (x2 : Int32) (x3 : Int32) : Option (Int32) :=
  (if x3 ≤ 0 then some x2 else Option.bind (x_rd 46 (g8_words s) x2) (fun v3 => (if v3 = 0 then k4 s (x2 + 1) (x3 + (-1)) else k4 s (x2 + 1) x3)))
noncomputable def lp_X8_wordFrom_p4  (s : S8) (x2 : Int32) (x3 : Int32) : Option (Int32) :=
  x_loop (fun (k : S8 × Int32 × Int32 → Option (Int32)) (z : S8 × Int32 × Int32) => f_X8_wordFrom_p4  (fun s x2 x3 => k (s, x2, x3)) z.1 z.2.1 z.2.2) FU (s, x2, x3)
noncomputable def f_X8_wordFrom  (s : S8) (x1 : Int32) : Option (Int32) :=
  lp_X8_wordFrom_p4  s 0 x1
abbrev rm_X8_writesWord : Room := { frames := 1, cells := 0, slots := 0, locals := 23 }
noncomputable def f_X8_writesWord_p6 (k6 : S8 → Int32 → Option (S8)) (s : S8) (x2 : Int32) : Option (S8) :=
  Option.bind (x_rd 46 (g8_words s) x2) (fun v2 => (if v2 = 0 then some s else Option.bind (x_rd 46 (g8_words s) x2) (fun v5 => Option.bind (f_X8_writes s v5) (fun v6 => k6 v6 (x2 + 1)))))
noncomputable def lp_X8_writesWord_p6  (s : S8) (x2 : Int32) : Option (S8) :=
  x_loop (fun (k : S8 × Int32 → Option (S8)) (z : S8 × Int32) => f_X8_writesWord_p6  (fun s x2 => k (s, x2)) z.1 z.2) FU (s, x2)
noncomputable def f_X8_writesWord  (s : S8) (x1 : Int32) : Option (S8) :=
  Option.bind (f_X8_wordFrom s x1) (fun v1 => lp_X8_writesWord_p6  s v1)
abbrev rm_X8_writesNumber : Room := { frames := 1, cells := 0, slots := 0, locals := 21 }
noncomputable def f_X8_writesNumber_p24 (k24 : S8 → Int32 → Int32 → Option (S8)) (s : S8) (x1 : Int32) (x2 : Int32) : Option (S8) :=
  (if x2 ≤ 0 then some s else Option.bind (x_nz x2) (fun u3 => Option.bind (f_X8_writes s ((48 : Int32) + ((x1 / x2) - (x1 / x2) / 10 * 10))) (fun v4 => k24 v4 x1 (x2 / 10))))
noncomputable def lp_X8_writesNumber_p24  (s : S8) (x1 : Int32) (x2 : Int32) : Option (S8) :=
  x_loop (fun (k : S8 × Int32 × Int32 → Option (S8)) (z : S8 × Int32 × Int32) => f_X8_writesNumber_p24  (fun s x1 x2 => k (s, x1, x2)) z.1 z.2.1 z.2.2) FU (s, x1, x2)
noncomputable def f_X8_writesNumber_p8 (k8 : S8 → Int32 → Int32 → Option (S8)) (s : S8) (x1 : Int32) (x2 : Int32) : Option (S8) :=
  Option.bind (x_nz x2) (fun u2 => (if (x1 / x2) ≤ 9 then lp_X8_writesNumber_p24  s x1 x2 else k8 s x1 (x2 * (10 : Int32))))
noncomputable def lp_X8_writesNumber_p8  (s : S8) (x1 : Int32) (x2 : Int32) : Option (S8) :=
  x_loop (fun (k : S8 × Int32 × Int32 → Option (S8)) (z : S8 × Int32 × Int32) => f_X8_writesNumber_p8  (fun s x1 x2 => k (s, x1, x2)) z.1 z.2.1 z.2.2) FU (s, x1, x2)
noncomputable def f_X8_writesNumber  (s : S8) (x1 : Int32) : Option (S8) :=
  Option.bind (f_X8_writes s 32) (fun v1 => lp_X8_writesNumber_p8  v1 x1 1)
abbrev rm_X8_writesOne : Room := { frames := 2, cells := 0, slots := 0, locals := 45 }
noncomputable def f_X8_writesOne  (s : S8) (x1 : Int32) (x2 : Int32) : Option (S8) :=
  Option.bind (f_X8_writesWord s x1) (fun v1 => Option.bind (f_X8_writesNumber v1 x2) (fun v3 => some v3))
abbrev rm_X8_toldText : Room := { frames := 0, cells := 0, slots := 0, locals := 0 }
noncomputable def f_X8_toldText  (s : S8) (x1 : Int32) : Option (Int32) :=
  (if x1 = (-1) then some (g8_textMany s) else (if (g8_textMany s) ≤ x1 then some (-2) else Option.bind (x_rd 800 (g8_text s) x1) (fun v4 => some v4)))
abbrev rm_X8_report : Room := { frames := 6, cells := 0, slots := 0, locals := 169 }
noncomputable def f_X8_report_p107  (s : S8) (x2 : Int32) : Option (Int32 × S8) :=
  Option.bind (f_X8_writes s 59) (fun v1 => Option.bind (f_X8_toldText v1 x2) (fun v3 => some (v3, v1)))
noncomputable def f_X8_report  (s : S8) (x1 : Int32) (x2 : Int32) : Option (Int32 × S8) :=
  Option.bind (f_X8_isFleet s x1) (fun v1 => (if v1 = 0 then some ((-1), s) else (if (-1) ≤ x2 then Option.bind (f_X8_works s) (fun v5 => Option.bind (f_X8_writesOne (u8_textMany v5 0) 2 x1) (fun v7 => Option.bind (f_X8_writes v7 32) (fun v9 => Option.bind (f_X8_classOf v9 x1) (fun v11 => Option.bind (f_X8_writesOne v9 4 v11) (fun v13 => Option.bind (f_X8_writes v13 32) (fun v15 => Option.bind (x_rd 8 (g8_n v15) x1) (fun v18 => Option.bind (f_X8_writesOne v15 5 v18) (fun v19 => Option.bind (x_rd 8 (g8_n v19) x1) (fun v22 => (if v22 ≤ 0 then f_X8_report_p107  v19 x2 else Option.bind (f_X8_writes v19 32) (fun v24 => Option.bind (x_rd 8 (g8_share v24) x1) (fun v27 => Option.bind (f_X8_writesOne v24 6 v27) (fun v28 => Option.bind (f_X8_writes v28 32) (fun v30 => Option.bind (f_X8_inThousandths v30 x1) (fun v32 => Option.bind (f_X8_writesOne v30 7 v32) (fun v34 => f_X8_report_p107  v34 x2)))))))))))))))) else some ((-1), s))))
abbrev rm_X8_spell : Room := { frames := 3, cells := 0, slots := 0, locals := 67 }
noncomputable def f_X8_spell_p122 (k107 : S8 → Int32 → Int32 → Option (Int32 × S8)) (k122 : S8 → Int32 → Int32 → Int32 → Option (Int32 × S8)) (s : S8) (x1 : Int32) (x2 : Int32) (x3 : Int32) : Option (Int32 × S8) :=
  (if 3 ≤ x3 then Option.bind (f_X8_writes s 59) (fun v2 => k107 v2 x1 (x2 + 1)) else Option.bind (x_rd 140 (g8_now s) (((20 : Int32) + ((3 : Int32) * x2)) + x3)) (fun v5 => Option.bind (f_X8_writesNumber s v5) (fun v6 => k122 v6 x1 x2 (x3 + 1))))
noncomputable def lp_X8_spell_p122 (k107 : S8 → Int32 → Int32 → Option (Int32 × S8)) (s : S8) (x1 : Int32) (x2 : Int32) (x3 : Int32) : Option (Int32 × S8) :=
  x_loop (fun (k : S8 × Int32 × Int32 × Int32 → Option (Int32 × S8)) (z : S8 × Int32 × Int32 × Int32) => f_X8_spell_p122 k107 (fun s x1 x2 x3 => k (s, x1, x2, x3)) z.1 z.2.1 z.2.2.1 z.2.2.2) FU (s, x1, x2, x3)
noncomputable def f_X8_spell_p107 (k107 : S8 → Int32 → Int32 → Option (Int32 × S8)) (s : S8) (x1 : Int32) (x2 : Int32) : Option (Int32 × S8) :=
  Option.bind (f_X8_claims s) (fun v1 => (if v1 ≤ x2 then Option.bind (f_X8_toldText s x1) (fun v4 => some (v4, s)) else Option.bind (f_X8_writesWord s 3) (fun v6 => lp_X8_spell_p122 k107 v6 x1 x2 0)))
noncomputable def lp_X8_spell_p107  (s : S8) (x1 : Int32) (x2 : Int32) : Option (Int32 × S8) :=
  x_loop (fun (k : S8 × Int32 × Int32 → Option (Int32 × S8)) (z : S8 × Int32 × Int32) => f_X8_spell_p107  (fun s x1 x2 => k (s, x1, x2)) z.1 z.2.1 z.2.2) FU (s, x1, x2)
noncomputable def f_X8_spell_p68 (k48 : S8 → Int32 → Int32 → Option (Int32 × S8)) (k68 : S8 → Int32 → Int32 → Int32 → Option (Int32 × S8)) (s : S8) (x1 : Int32) (x2 : Int32) (x3 : Int32) : Option (Int32 × S8) :=
  (if 5 ≤ x3 then Option.bind (f_X8_writes s 59) (fun v2 => k48 v2 x1 (x2 + 1)) else Option.bind (f_X8_isInsured s x2 x3) (fun v4 => (if v4 = 0 then k68 s x1 x2 (x3 + 1) else Option.bind (f_X8_writesNumber s x3) (fun v7 => k68 v7 x1 x2 (x3 + 1)))))
noncomputable def lp_X8_spell_p68 (k48 : S8 → Int32 → Int32 → Option (Int32 × S8)) (s : S8) (x1 : Int32) (x2 : Int32) (x3 : Int32) : Option (Int32 × S8) :=
  x_loop (fun (k : S8 × Int32 × Int32 × Int32 → Option (Int32 × S8)) (z : S8 × Int32 × Int32 × Int32) => f_X8_spell_p68 k48 (fun s x1 x2 x3 => k (s, x1, x2, x3)) z.1 z.2.1 z.2.2.1 z.2.2.2) FU (s, x1, x2, x3)
noncomputable def f_X8_spell_p48 (k48 : S8 → Int32 → Int32 → Option (Int32 × S8)) (s : S8) (x1 : Int32) (x2 : Int32) : Option (Int32 × S8) :=
  Option.bind (f_X8_many s) (fun v1 => (if v1 ≤ x2 then lp_X8_spell_p107  s x1 0 else Option.bind (f_X8_classOf s x2) (fun v4 => Option.bind (f_X8_writesOne s 2 v4) (fun v6 => lp_X8_spell_p68 k48 v6 x1 x2 0))))
noncomputable def lp_X8_spell_p48  (s : S8) (x1 : Int32) (x2 : Int32) : Option (Int32 × S8) :=
  x_loop (fun (k : S8 × Int32 × Int32 → Option (Int32 × S8)) (z : S8 × Int32 × Int32) => f_X8_spell_p48  (fun s x1 x2 => k (s, x1, x2)) z.1 z.2.1 z.2.2) FU (s, x1, x2)
noncomputable def f_X8_spell  (s : S8) (x1 : Int32) : Option (Int32 × S8) :=
  (if (-1) ≤ x1 then Option.bind (x_rd 140 (g8_now s) 0) (fun v3 => Option.bind (f_X8_writesOne (u8_textMany s 0) 0 v3) (fun v4 => Option.bind (f_X8_writes v4 59) (fun v6 => Option.bind (x_rd 140 (g8_now v6) 1) (fun v9 => Option.bind (f_X8_writesOne v6 1 v9) (fun v10 => Option.bind (f_X8_writes v10 59) (fun v12 => lp_X8_spell_p48  v12 x1 0)))))) else some ((-1), s))
abbrev rm_X8_count : Room := { frames := 2, cells := 0, slots := 0, locals := 44 }
noncomputable def f_X8_count_p123 (k123 : S8 → Int32 → Int32 → Option (Int32)) (s : S8) (x2 : Int32) (x3 : Int32) : Option (Int32) :=
  Option.bind (f_X8_many s) (fun v1 => (if v1 ≤ x3 then some x2 else Option.bind (f_X8_yearsOf s x3) (fun v4 => k123 s (x2 ||| v4) (x3 + 1))))
noncomputable def lp_X8_count_p123  (s : S8) (x2 : Int32) (x3 : Int32) : Option (Int32) :=
  x_loop (fun (k : S8 × Int32 × Int32 → Option (Int32)) (z : S8 × Int32 × Int32) => f_X8_count_p123  (fun s x2 x3 => k (s, x2, x3)) z.1 z.2.1 z.2.2) FU (s, x2, x3)
noncomputable def f_X8_count_p94 (k94 : S8 → Int32 → Int32 → Option (Int32)) (s : S8) (x2 : Int32) (x3 : Int32) : Option (Int32) :=
  Option.bind (f_X8_many s) (fun v1 => (if v1 ≤ x3 then some x2 else Option.bind (f_X8_isRated s x3) (fun v4 => (if v4 = 0 then k94 s (x2 + 1) (x3 + 1) else k94 s x2 (x3 + 1)))))
noncomputable def lp_X8_count_p94  (s : S8) (x2 : Int32) (x3 : Int32) : Option (Int32) :=
  x_loop (fun (k : S8 × Int32 × Int32 → Option (Int32)) (z : S8 × Int32 × Int32) => f_X8_count_p94  (fun s x2 x3 => k (s, x2, x3)) z.1 z.2.1 z.2.2) FU (s, x2, x3)
noncomputable def f_X8_count  (s : S8) (x1 : Int32) : Option (Int32) :=
  (if x1 = 0 then Option.bind (f_X8_many s) (fun v2 => some v2) else (if x1 = 1 then Option.bind (f_X8_claims s) (fun v5 => some v5) else (if x1 = 2 then Option.bind (x_rd 140 (g8_now s) 0) (fun v9 => some v9) else (if x1 = 3 then Option.bind (x_rd 140 (g8_now s) 1) (fun v12 => some v12) else (if x1 = 4 then some (g8_acts s) else (if x1 = 5 then some (g8_taped s) else (if x1 = 6 then Option.bind (f_X8_aboveCap s (-1)) (fun v16 => some v16) else (if x1 = 7 then lp_X8_count_p94  s 0 0 else (if x1 = 8 then lp_X8_count_p123  s 0 0 else some (-1))))))))))
abbrev rm_X8_feed : Room := { frames := 0, cells := 0, slots := 0, locals := 0 }
noncomputable def f_X8_feed_p71 (k18 : S8 → Int32 → Int32 → Int32 → Int32 → Int32 → Int32 → Option (Int32 × S8)) (s : S8) (x1 : Int32) (x2 : Int32) (x3 : Int32) (x4 : Int32) (x5 : Int32) (x6 : Int32) (y0 : Int32) : Option (Int32 × S8) :=
  Option.bind (x_wr 700 (g8_tape s) (g8_taped s) ((y0 >>> (((24 : Int32) - ((8 : Int32) * (x6 - x6 / 4 * 4))) &&& 31)) &&& (255 : Int32))) (fun w2 => k18 (u8_taped (u8_tape s w2) ((g8_taped s) + (1 : Int32))) x1 x2 x3 x4 x5 (x6 + 1))
noncomputable def f_X8_feed_p18 (k18 : S8 → Int32 → Int32 → Int32 → Int32 → Int32 → Int32 → Option (Int32 × S8)) (s : S8) (x1 : Int32) (x2 : Int32) (x3 : Int32) (x4 : Int32) (x5 : Int32) (x6 : Int32) : Option (Int32 × S8) :=
  (if 20 ≤ x6 then some ((g8_taped s), s) else (if 4 ≤ x6 then (if 8 ≤ x6 then (if 12 ≤ x6 then (if 16 ≤ x6 then f_X8_feed_p71 k18 s x1 x2 x3 x4 x5 x6 x5 else f_X8_feed_p71 k18 s x1 x2 x3 x4 x5 x6 x4) else f_X8_feed_p71 k18 s x1 x2 x3 x4 x5 x6 x3) else f_X8_feed_p71 k18 s x1 x2 x3 x4 x5 x6 x2) else f_X8_feed_p71 k18 s x1 x2 x3 x4 x5 x6 x1))
noncomputable def lp_X8_feed_p18  (s : S8) (x1 : Int32) (x2 : Int32) (x3 : Int32) (x4 : Int32) (x5 : Int32) (x6 : Int32) : Option (Int32 × S8) :=
  x_loop (fun (k : S8 × Int32 × Int32 × Int32 × Int32 × Int32 × Int32 → Option (Int32 × S8)) (z : S8 × Int32 × Int32 × Int32 × Int32 × Int32 × Int32) => f_X8_feed_p18  (fun s x1 x2 x3 x4 x5 x6 => k (s, x1, x2, x3, x4, x5, x6)) z.1 z.2.1 z.2.2.1 z.2.2.2.1 z.2.2.2.2.1 z.2.2.2.2.2.1 z.2.2.2.2.2.2) FU (s, x1, x2, x3, x4, x5, x6)
noncomputable def f_X8_feed  (s : S8) (x1 : Int32) (x2 : Int32) (x3 : Int32) (x4 : Int32) (x5 : Int32) : Option (Int32 × S8) :=
  (if ((g8_taped s) + (20 : Int32)) ≤ 700 then lp_X8_feed_p18  s x1 x2 x3 x4 x5 0 else some ((-1), s))
abbrev rm_X8_back : Room := { frames := 1, cells := 0, slots := 0, locals := 22 }
noncomputable def f_X8_back  (s : S8) (x1 : Int32) : Option (Int32 × S8) :=
  Option.bind (f_X8_in x1 0 (g8_taped s)) (fun v1 => (if v1 = 0 then some ((-1), s) else some (((g8_taped s) - x1), (u8_taped s ((g8_taped s) - x1)))))
abbrev rm_X8_here : Room := { frames := 0, cells := 0, slots := 0, locals := 0 }
noncomputable def f_X8_here  (s : S8) : Option (Int32) :=
  (if (g8_taped s) ≤ (g8_spot s) then some (-1) else Option.bind (x_rd 700 (g8_tape s) (g8_spot s)) (fun v3 => some v3))
abbrev rm_X8_goesOn : Room := { frames := 1, cells := 0, slots := 0, locals := 22 }
noncomputable def f_X8_goesOn_p165 (k165 : S8 → Int32 → Option (S8)) (s : S8) (x3 : Int32) : Option (S8) :=
  Option.bind (f_X8_here s) (fun v1 => Option.bind (f_X8_in v1 48 57) (fun v3 => (if v3 = 0 then (if x3 = 0 then (if ((g8_spot s) - (g8_begun s)) ≤ 2 then some (u8_token s 2) else some (u8_token s 4)) else some (u8_token s 4)) else (if 2 ≤ ((g8_spot s) - (g8_begun s)) then k165 (u8_spot s ((g8_spot s) + (1 : Int32))) x3 else Option.bind (f_X8_here s) (fun v9 => k165 (u8_spot (u8_number s ((((10 : Int32) * (g8_number s)) + v9) - (48 : Int32))) ((g8_spot s) + (1 : Int32))) x3)))))
noncomputable def lp_X8_goesOn_p165  (s : S8) (x3 : Int32) : Option (S8) :=
  x_loop (fun (k : S8 × Int32 → Option (S8)) (z : S8 × Int32) => f_X8_goesOn_p165  (fun s x3 => k (s, x3)) z.1 z.2) FU (s, x3)
noncomputable def f_X8_goesOn_p105 (k105 : S8 → Int32 → Option (S8)) (s : S8) (x3 : Int32) : Option (S8) :=
  Option.bind (f_X8_here s) (fun v1 => Option.bind (f_X8_in v1 97 122) (fun v3 => (if v3 = 0 then (if x3 = 0 then some (u8_token s 1) else some (u8_token s 4)) else k105 (u8_spot s ((g8_spot s) + (1 : Int32))) x3)))
noncomputable def lp_X8_goesOn_p105  (s : S8) (x3 : Int32) : Option (S8) :=
  x_loop (fun (k : S8 × Int32 → Option (S8)) (z : S8 × Int32) => f_X8_goesOn_p105  (fun s x3 => k (s, x3)) z.1 z.2) FU (s, x3)
noncomputable def f_X8_goesOn_p72  (s : S8) (y0 : Int32) : Option (S8) :=
  Option.bind (f_X8_here s) (fun v1 => (if v1 = (-1) then some (u8_token s 0) else Option.bind (f_X8_in v1 97 122) (fun v4 => (if v4 = 0 then Option.bind (f_X8_in v1 48 57) (fun v7 => (if v7 = 0 then (if v1 = 59 then some (u8_token (u8_spot s ((g8_spot s) + (1 : Int32))) 3) else some (u8_token (u8_spot s ((g8_spot s) + (1 : Int32))) 4)) else lp_X8_goesOn_p165  (u8_number s 0) y0)) else lp_X8_goesOn_p105  s y0))))
noncomputable def f_X8_goesOn_p71  (s : S8) : Option (S8) :=
  f_X8_goesOn_p72  s 0
noncomputable def f_X8_goesOn_p67  (s : S8) : Option (S8) :=
  f_X8_goesOn_p72  s 1
noncomputable def f_X8_goesOn_p10 (k10 : S8 → Int32 → Int32 → Option (S8)) (s : S8) (x1 : Int32) (x2 : Int32) : Option (S8) :=
  Option.bind (f_X8_here s) (fun v1 => (if v1 = 32 then k10 (u8_spot s ((g8_spot s) + (1 : Int32))) x1 x2 else Option.bind (f_X8_here s) (fun v4 => (if v4 = 10 then k10 (u8_spot s ((g8_spot s) + (1 : Int32))) x1 x2 else (if (g8_spot s) = x2 then (if x1 = 1 then f_X8_goesOn_p67  (u8_begun s (g8_spot s)) else (if x1 = 2 then f_X8_goesOn_p67  (u8_begun s (g8_spot s)) else f_X8_goesOn_p71  (u8_begun s (g8_spot s)))) else f_X8_goesOn_p71  (u8_begun s (g8_spot s)))))))
noncomputable def lp_X8_goesOn_p10  (s : S8) (x1 : Int32) (x2 : Int32) : Option (S8) :=
  x_loop (fun (k : S8 × Int32 × Int32 → Option (S8)) (z : S8 × Int32 × Int32) => f_X8_goesOn_p10  (fun s x1 x2 => k (s, x1, x2)) z.1 z.2.1 z.2.2) FU (s, x1, x2)
noncomputable def f_X8_goesOn  (s : S8) : Option (S8) :=
  lp_X8_goesOn_p10  s (g8_token s) (g8_spot s)
abbrev rm_X8_takesWord : Room := { frames := 2, cells := 0, slots := 0, locals := 46 }
noncomputable def f_X8_takesWord_p66  (s : S8) (x2 : Int32) (x3 : Int32) : Option (Int32 × S8) :=
  (if ((g8_begun s) + x3) = (g8_spot s) then Option.bind (x_rd 46 (g8_words s) (x2 + x3)) (fun v3 => (if v3 = 0 then Option.bind (f_X8_goesOn s) (fun v5 => some (1, v5)) else some (0, s))) else some (0, s))
noncomputable def f_X8_takesWord_p25 (k25 : S8 → Int32 → Int32 → Option (Int32 × S8)) (s : S8) (x2 : Int32) (x3 : Int32) : Option (Int32 × S8) :=
  (if (g8_spot s) ≤ ((g8_begun s) + x3) then f_X8_takesWord_p66  s x2 x3 else Option.bind (x_rd 46 (g8_words s) (x2 + x3)) (fun v3 => Option.bind (x_rd 700 (g8_tape s) ((g8_begun s) + x3)) (fun v5 => (if v3 = v5 then k25 s x2 (x3 + 1) else f_X8_takesWord_p66  s x2 x3))))
noncomputable def lp_X8_takesWord_p25  (s : S8) (x2 : Int32) (x3 : Int32) : Option (Int32 × S8) :=
  x_loop (fun (k : S8 × Int32 × Int32 → Option (Int32 × S8)) (z : S8 × Int32 × Int32) => f_X8_takesWord_p25  (fun s x2 x3 => k (s, x2, x3)) z.1 z.2.1 z.2.2) FU (s, x2, x3)
noncomputable def f_X8_takesWord  (s : S8) (x1 : Int32) : Option (Int32 × S8) :=
  (if (g8_wrong s) = 0 then (if (g8_token s) = 1 then Option.bind (f_X8_wordFrom s x1) (fun v3 => lp_X8_takesWord_p25  s v3 0) else some (0, s)) else some (0, s))
abbrev rm_X8_needsNumber : Room := { frames := 2, cells := 0, slots := 0, locals := 46 }
noncomputable def f_X8_needsNumber  (s : S8) (x1 : Int32) (x2 : Int32) : Option (Int32 × S8) :=
  (if (g8_wrong s) = 0 then (if (g8_token s) = 2 then Option.bind (f_X8_in (g8_number s) x1 x2) (fun v3 => (if v3 = 0 then some (0, (u8_wrong s 1)) else Option.bind (f_X8_goesOn s) (fun v6 => some ((g8_number s), v6)))) else some (0, (u8_wrong s 1))) else some (0, (u8_wrong s 1)))
abbrev rm_X8_isRoom : Room := { frames := 0, cells := 0, slots := 0, locals := 0 }
noncomputable def f_X8_isRoom  (s : S8) (x1 : Int32) (x2 : Int32) (x3 : Int32) : Option (Int32 × S8) :=
  Option.bind (x_rd 140 (g8_read s) x1) (fun v2 => (if x2 ≤ v2 then some (0, (u8_wrong (u8_begun s x3) 1)) else some (1, s)))
abbrev rm_X8_readsFleet : Room := { frames := 3, cells := 0, slots := 0, locals := 69 }
noncomputable def f_X8_readsFleet_p66  (s : S8) (x2 : Int32) (x3 : Int32) : Option (S8) :=
  Option.bind (x_wr 140 (g8_read s) (x2 + (1 : Int32)) x3) (fun w2 => Option.bind (x_rd 140 w2 2) (fun v4 => Option.bind (x_wr 140 w2 2 (v4 + (1 : Int32))) (fun w6 => some (u8_read s w6))))
noncomputable def f_X8_readsFleet_p37 (k37 : S8 → Int32 → Int32 → Option (S8)) (s : S8) (x2 : Int32) (x3 : Int32) : Option (S8) :=
  (if (g8_wrong s) = 0 then (if (g8_token s) = 2 then Option.bind (f_X8_needsNumber s 0 4) (fun v3 => k37 v3.2 x2 (x3 ||| ((1 : Int32) <<< (v3.1 &&& 31)))) else f_X8_readsFleet_p66  s x2 x3) else f_X8_readsFleet_p66  s x2 x3)
noncomputable def lp_X8_readsFleet_p37  (s : S8) (x2 : Int32) (x3 : Int32) : Option (S8) :=
  x_loop (fun (k : S8 × Int32 × Int32 → Option (S8)) (z : S8 × Int32 × Int32) => f_X8_readsFleet_p37  (fun s x2 x3 => k (s, x2, x3)) z.1 z.2.1 z.2.2) FU (s, x2, x3)
noncomputable def f_X8_readsFleet  (s : S8) (x1 : Int32) : Option (S8) :=
  Option.bind (f_X8_isRoom s 2 8 x1) (fun v1 => (if v1.1 = 0 then some v1.2 else Option.bind (x_rd 140 (g8_read v1.2) 2) (fun v5 => Option.bind (f_X8_needsNumber v1.2 0 2) (fun v6 => Option.bind (x_wr 140 (g8_read v6.2) ((4 : Int32) + ((2 : Int32) * v5)) v6.1) (fun w9 => lp_X8_readsFleet_p37  (u8_read v6.2 w9) ((4 : Int32) + ((2 : Int32) * v5)) 0)))))
abbrev rm_X8_mayBeIn : Room := { frames := 2, cells := 0, slots := 0, locals := 42 }
noncomputable def f_X8_mayBeIn_p33 (k33 : S8 → Int32 → Int32 → Int32 → Int32 → Option (Int32)) (s : S8) (x1 : Int32) (x2 : Int32) (x3 : Int32) (x4 : Int32) : Option (Int32) :=
  Option.bind (x_rd 140 (g8_read s) 3) (fun v2 => (if v2 ≤ x4 then (if 4 ≤ x3 then some 0 else some 1) else Option.bind (x_rd 140 (g8_read s) ((20 : Int32) + ((3 : Int32) * x4))) (fun v6 => (if v6 = x1 then Option.bind (x_rd 140 (g8_read s) (((20 : Int32) + ((3 : Int32) * x4)) + (1 : Int32))) (fun v9 => (if v9 = x2 then k33 s x1 x2 (x3 + 1) (x4 + 1) else k33 s x1 x2 x3 (x4 + 1))) else k33 s x1 x2 x3 (x4 + 1)))))
noncomputable def lp_X8_mayBeIn_p33  (s : S8) (x1 : Int32) (x2 : Int32) (x3 : Int32) (x4 : Int32) : Option (Int32) :=
  x_loop (fun (k : S8 × Int32 × Int32 × Int32 × Int32 → Option (Int32)) (z : S8 × Int32 × Int32 × Int32 × Int32) => f_X8_mayBeIn_p33  (fun s x1 x2 x3 x4 => k (s, x1, x2, x3, x4)) z.1 z.2.1 z.2.2.1 z.2.2.2.1 z.2.2.2.2) FU (s, x1, x2, x3, x4)
noncomputable def f_X8_mayBeIn  (s : S8) (x1 : Int32) (x2 : Int32) : Option (Int32) :=
  Option.bind (f_X8_isYear x2) (fun v1 => (if v1 = 0 then some 0 else Option.bind (x_rd 140 (g8_read s) (((4 : Int32) + ((2 : Int32) * x1)) + (1 : Int32))) (fun v5 => (if ((v5 >>> (x2 &&& 31)) &&& (1 : Int32)) = 0 then some 0 else lp_X8_mayBeIn_p33  s x1 x2 0 0))))
abbrev rm_X8_readsClaim : Room := { frames := 3, cells := 0, slots := 0, locals := 69 }
noncomputable def f_X8_readsClaim  (s : S8) (x1 : Int32) : Option (S8) :=
  Option.bind (f_X8_isRoom s 3 40 x1) (fun v1 => (if v1.1 = 0 then some v1.2 else Option.bind (x_rd 140 (g8_read v1.2) 3) (fun v5 => Option.bind (x_rd 140 (g8_read v1.2) 2) (fun v7 => Option.bind (f_X8_needsNumber v1.2 0 (v7 - (1 : Int32))) (fun v8 => Option.bind (x_wr 140 (g8_read v8.2) ((20 : Int32) + ((3 : Int32) * v5)) v8.1) (fun w11 => (if (g8_wrong v8.2) = 0 then (if (g8_token v8.2) = 2 then Option.bind (x_rd 140 w11 ((20 : Int32) + ((3 : Int32) * v5))) (fun v15 => Option.bind (f_X8_mayBeIn (u8_read v8.2 w11) v15 (g8_number v8.2)) (fun v16 => (if v16 = 0 then some (u8_wrong (u8_read v8.2 w11) 1) else Option.bind (f_X8_needsNumber (u8_read v8.2 w11) 0 4) (fun v19 => Option.bind (x_wr 140 (g8_read v19.2) (((20 : Int32) + ((3 : Int32) * v5)) + (1 : Int32)) v19.1) (fun w22 => Option.bind (f_X8_needsNumber (u8_read v19.2 w22) 1 99) (fun v23 => Option.bind (x_wr 140 (g8_read v23.2) (((20 : Int32) + ((3 : Int32) * v5)) + (2 : Int32)) v23.1) (fun w26 => Option.bind (x_rd 140 w26 3) (fun v28 => Option.bind (x_wr 140 w26 3 (v28 + (1 : Int32))) (fun w30 => some (u8_read v23.2 w30)))))))))) else some (u8_wrong (u8_read v8.2 w11) 1)) else some (u8_wrong (u8_read v8.2 w11) 1))))))))
abbrev rm_X8_readsOne : Room := { frames := 4, cells := 0, slots := 0, locals := 92 }
noncomputable def f_X8_readsOne_p90  (s : S8) : Option (S8) :=
  (if (g8_wrong s) = 0 then (if (g8_token s) = 3 then Option.bind (f_X8_goesOn s) (fun v3 => some v3) else some (u8_wrong s 1)) else some s)
noncomputable def f_X8_readsOne  (s : S8) : Option (S8) :=
  Option.bind (f_X8_takesWord s 0) (fun v1 => (if v1.1 = 0 then Option.bind (f_X8_takesWord v1.2 1) (fun v4 => (if v4.1 = 0 then Option.bind (f_X8_takesWord v4.2 2) (fun v7 => (if v7.1 = 0 then Option.bind (f_X8_takesWord v7.2 3) (fun v10 => (if v10.1 = 0 then f_X8_readsOne_p90  (u8_wrong v10.2 1) else Option.bind (f_X8_readsClaim v10.2 (g8_begun s)) (fun v13 => f_X8_readsOne_p90  v13))) else Option.bind (f_X8_readsFleet v7.2 (g8_begun s)) (fun v15 => f_X8_readsOne_p90  v15))) else Option.bind (f_X8_needsNumber v4.2 0 50) (fun v17 => Option.bind (x_wr 140 (g8_read v17.2) 1 v17.1) (fun w20 => f_X8_readsOne_p90  (u8_read v17.2 w20))))) else Option.bind (f_X8_needsNumber v1.2 1 99) (fun v21 => Option.bind (x_wr 140 (g8_read v21.2) 0 v21.1) (fun w24 => f_X8_readsOne_p90  (u8_read v21.2 w24)))))
abbrev rm_X8_starts : Room := { frames := 0, cells := 0, slots := 0, locals := 0 }
noncomputable def f_X8_starts_p2 (k2 : (Nat → Int32) → Int32 → Option ((Nat → Int32))) (s : (Nat → Int32)) (x1 : Int32) : Option ((Nat → Int32)) :=
  (if 140 ≤ x1 then Option.bind (x_wr 140 s 0 99) (fun w3 => Option.bind (x_wr 140 w3 1 5) (fun w5 => some w5)) else Option.bind (x_wr 140 s x1 0) (fun w7 => k2 w7 (x1 + 1)))
noncomputable def lp_X8_starts_p2  (s : (Nat → Int32)) (x1 : Int32) : Option ((Nat → Int32)) :=
  x_loop (fun (k : (Nat → Int32) × Int32 → Option ((Nat → Int32))) (z : (Nat → Int32) × Int32) => f_X8_starts_p2  (fun s x1 => k (s, x1)) z.1 z.2) FU (s, x1)
noncomputable def f_X8_starts  (s : (Nat → Int32)) : Option ((Nat → Int32)) :=
  lp_X8_starts_p2  s 0
abbrev rm_X8_text : Room := { frames := 5, cells := 0, slots := 0, locals := 113 }
noncomputable def f_X8_text_p69 (k69 : S8 → Int32 → Option (Int32 × S8)) (s : S8) (x1 : Int32) : Option (Int32 × S8) :=
  (if 140 ≤ x1 then Option.bind (f_X8_many (u8_acts s 0)) (fun v2 => some (v2, (u8_acts s 0))) else Option.bind (x_rd 140 (g8_read s) x1) (fun v5 => Option.bind (x_wr 140 (g8_now s) x1 v5) (fun w7 => k69 (u8_now s w7) (x1 + 1))))
noncomputable def lp_X8_text_p69  (s : S8) (x1 : Int32) : Option (Int32 × S8) :=
  x_loop (fun (k : S8 × Int32 → Option (Int32 × S8)) (z : S8 × Int32) => f_X8_text_p69  (fun s x1 => k (s, x1)) z.1 z.2) FU (s, x1)
noncomputable def f_X8_text_p47  (s : S8) : Option (Int32 × S8) :=
  (if (g8_wrong s) = 0 then lp_X8_text_p69  (u8_taped s 0) 0 else some (((-4 : Int32) - (g8_begun s)), (u8_taped s 0)))
noncomputable def f_X8_text_p26 (k26 : S8 → Option (Int32 × S8)) (s : S8) : Option (Int32 × S8) :=
  (if (g8_wrong s) = 0 then (if (g8_token s) = 0 then f_X8_text_p47  s else Option.bind (f_X8_readsOne s) (fun v3 => k26 v3)) else f_X8_text_p47  s)
noncomputable def lp_X8_text_p26  (s : S8) : Option (Int32 × S8) :=
  x_loop (fun (k : S8 → Option (Int32 × S8)) (z : S8) => f_X8_text_p26  (fun s => k s) z) FU s
noncomputable def f_X8_text  (s : S8) : Option (Int32 × S8) :=
  Option.bind (f_X8_starts (g8_read s)) (fun v1 => Option.bind (f_X8_goesOn (u8_wrong (u8_token (u8_spot (u8_read s v1) 0) 3) 0)) (fun v3 => lp_X8_text_p26  v3))
