theorem x_t1 {w : Cond} {i : Nat} (h0 : tables_1_1[i]? = some w) (hg : goodWord w = true) : w ∈ x_tbl := by
  have h := List.mem_of_getElem? h0
  have h1 : w ∈ tables_1 := List.mem_append_left _ h
  exact List.mem_filter.mpr ⟨List.mem_append_right _ h1, hg⟩
theorem x_t2 {w : Cond} {i : Nat} (h0 : tables_1_2[i]? = some w) (hg : goodWord w = true) : w ∈ x_tbl := by
  have h := List.mem_of_getElem? h0
  have h1 : w ∈ tables_1 := List.mem_append_right _ (List.mem_append_left _ h)
  exact List.mem_filter.mpr ⟨List.mem_append_right _ h1, hg⟩
theorem x_t3 {w : Cond} {i : Nat} (h0 : tables_1_3[i]? = some w) (hg : goodWord w = true) : w ∈ x_tbl := by
  have h := List.mem_of_getElem? h0
  have h1 : w ∈ tables_1 := List.mem_append_right _ (List.mem_append_right _ (List.mem_append_left _ h))
  exact List.mem_filter.mpr ⟨List.mem_append_right _ h1, hg⟩
theorem x_t4 {w : Cond} {i : Nat} (h0 : tables_1_4[i]? = some w) (hg : goodWord w = true) : w ∈ x_tbl := by
  have h := List.mem_of_getElem? h0
  have h1 : w ∈ tables_1 := List.mem_append_right _ (List.mem_append_right _ (List.mem_append_right _ (List.mem_append_left _ h)))
  exact List.mem_filter.mpr ⟨List.mem_append_right _ h1, hg⟩
theorem x_t5 {w : Cond} {i : Nat} (h0 : tables_1_5[i]? = some w) (hg : goodWord w = true) : w ∈ x_tbl := by
  have h := List.mem_of_getElem? h0
  have h1 : w ∈ tables_1 := List.mem_append_right _ (List.mem_append_right _ (List.mem_append_right _ (List.mem_append_right _ (List.mem_append_left _ h))))
  exact List.mem_filter.mpr ⟨List.mem_append_right _ h1, hg⟩
theorem x_t6 {w : Cond} {i : Nat} (h0 : tables_1_6[i]? = some w) (hg : goodWord w = true) : w ∈ x_tbl := by
  have h := List.mem_of_getElem? h0
  have h1 : w ∈ tables_1 := List.mem_append_right _ (List.mem_append_right _ (List.mem_append_right _ (List.mem_append_right _ (List.mem_append_right _ (List.mem_append_left _ h)))))
  exact List.mem_filter.mpr ⟨List.mem_append_right _ h1, hg⟩
theorem x_t7 {w : Cond} {i : Nat} (h0 : tables_1_7[i]? = some w) (hg : goodWord w = true) : w ∈ x_tbl := by
  have h := List.mem_of_getElem? h0
  have h1 : w ∈ tables_1 := List.mem_append_right _ (List.mem_append_right _ (List.mem_append_right _ (List.mem_append_right _ (List.mem_append_right _ (List.mem_append_right _ (h))))))
  exact List.mem_filter.mpr ⟨List.mem_append_right _ h1, hg⟩
theorem wq_0 : Cond.selects RX6 yX6_addByte yX6_addByte ∈ x_tbl := x_tm (i := 0) (by decide +kernel) (by decide +kernel)
theorem wq_1 : Cond.selects RX6 yX6_skipGaps yX6_skipGaps ∈ x_tbl := x_tm (i := 1) (by decide +kernel) (by decide +kernel)
theorem wq_2 : Cond.selects RX6 yX6_byteAt yX6_byteAt ∈ x_tbl := x_tm (i := 2) (by decide +kernel) (by decide +kernel)
theorem wq_3 : Cond.selects RX6 yX6_readSentence yX6_readSentence ∈ x_tbl := x_tm (i := 3) (by decide +kernel) (by decide +kernel)
theorem wq_4 : Cond.selects RX6 yX6_readWord yX6_readWord ∈ x_tbl := x_tm (i := 4) (by decide +kernel) (by decide +kernel)
theorem wq_5 : Cond.selects RX6 yX6_skipLetters yX6_skipLetters ∈ x_tbl := x_tm (i := 5) (by decide +kernel) (by decide +kernel)
theorem wq_6 : Cond.selects RX6 yX6_isWord yX6_isWord ∈ x_tbl := x_tm (i := 6) (by decide +kernel) (by decide +kernel)
theorem wq_7 : Cond.selects RX6 yX6_failAt yX6_failAt ∈ x_tbl := x_tm (i := 7) (by decide +kernel) (by decide +kernel)
theorem wq_8 : Cond.selects RX6 yX6_readNumber yX6_readNumber ∈ x_tbl := x_tm (i := 8) (by decide +kernel) (by decide +kernel)
theorem wq_9 : Cond.selects RX6 yX6_readFleet yX6_readFleet ∈ x_tbl := x_tm (i := 9) (by decide +kernel) (by decide +kernel)
theorem wq_10 : Cond.selects RX6 yX6_isEndNext yX6_isEndNext ∈ x_tbl := x_tm (i := 10) (by decide +kernel) (by decide +kernel)
theorem wq_11 : Cond.selects RX6 yX6_readClaim yX6_readClaim ∈ x_tbl := x_tm (i := 11) (by decide +kernel) (by decide +kernel)
theorem wq_12 : Cond.selects RX0 yX0_isOf yX0_isOf ∈ x_tbl := x_tm (i := 12) (by decide +kernel) (by decide +kernel)
theorem wq_13 : Cond.selects RX0 yX0_putClaim yX0_putClaim ∈ x_tbl := x_tm (i := 13) (by decide +kernel) (by decide +kernel)
theorem wq_14 : Cond.selects RX6 yX6_readEnd yX6_readEnd ∈ x_tbl := x_tm (i := 14) (by decide +kernel) (by decide +kernel)
theorem wq_15 : Cond.selects RX0 yX0_dropClaimsOf yX0_dropClaimsOf ∈ x_tbl := x_tm (i := 15) (by decide +kernel) (by decide +kernel)
theorem wq_16 : Cond.selects RX0 yX0_closeGapAt yX0_closeGapAt ∈ x_tbl := x_tm (i := 16) (by decide +kernel) (by decide +kernel)
theorem wq_17 : Cond.selects RX0 yX0_putFleet yX0_putFleet ∈ x_tbl := x_tm (i := 17) (by decide +kernel) (by decide +kernel)
theorem wq_18 : Cond.selects RX0 yX0_handOver yX0_handOver ∈ x_tbl := x_tm (i := 18) (by decide +kernel) (by decide +kernel)
theorem wq_19 : Cond.selects RX1 yX1_sumLosses yX1_sumLosses ∈ x_tbl := x_tm (i := 19) (by decide +kernel) (by decide +kernel)
theorem wq_20 : Cond.selects RX1 yX1_reckonFleet yX1_reckonFleet ∈ x_tbl := x_tm (i := 20) (by decide +kernel) (by decide +kernel)
theorem wq_21 : Cond.selects RX1 yX1_hasRow yX1_hasRow ∈ x_tbl := x_tm (i := 21) (by decide +kernel) (by decide +kernel)
theorem wq_22 : Cond.selects RX4 yX4_hasBetween yX4_hasBetween ∈ x_tbl := x_tm (i := 22) (by decide +kernel) (by decide +kernel)
theorem wq_23 : Cond.selects RX1 yX1_reckonShare yX1_reckonShare ∈ x_tbl := x_tm (i := 23) (by decide +kernel) (by decide +kernel)
theorem wq_24 : Cond.selects RX7 yX7_spreadIn yX7_spreadIn ∈ x_tbl := x_tm (i := 24) (by decide +kernel) (by decide +kernel)
theorem wq_25 : Cond.selects RX5 yX5_commonDivisor yX5_commonDivisor ∈ x_tbl := x_tm (i := 25) (by decide +kernel) (by decide +kernel)
theorem wq_26 : Cond.selects RX7 yX7_rateIn yX7_rateIn ∈ x_tbl := x_tm (i := 26) (by decide +kernel) (by decide +kernel)
theorem wq_27 : Cond.selects RX7 yX7_tryEarly yX7_tryEarly ∈ x_tbl := x_tm (i := 27) (by decide +kernel) (by decide +kernel)
theorem wq_28 : Cond.selects RX7 yX7_keepRatesNow yX7_keepRatesNow ∈ x_tbl := x_tm (i := 28) (by decide +kernel) (by decide +kernel)
theorem wq_29 : Cond.selects RX3 yX3_writeByte yX3_writeByte ∈ x_tbl := x_tm (i := 29) (by decide +kernel) (by decide +kernel)
theorem wq_30 : Cond.selects RX7 yX7_spellFleet yX7_spellFleet ∈ x_tbl := x_tm (i := 30) (by decide +kernel) (by decide +kernel)
theorem wq_31 : Cond.selects RX7 yX7_spellClaim yX7_spellClaim ∈ x_tbl := x_tm (i := 31) (by decide +kernel) (by decide +kernel)
theorem wq_32 : Cond.selects RX8 yX8_many yX8_many ∈ x_tbl := x_tm (i := 32) (by decide +kernel) (by decide +kernel)
theorem wq_33 : Cond.selects RX8 yX8_keeps yX8_keeps ∈ x_tbl := x_tm (i := 33) (by decide +kernel) (by decide +kernel)
theorem wq_34 : Cond.selects RX8 yX8_isFleet yX8_isFleet ∈ x_tbl := x_tm (i := 34) (by decide +kernel) (by decide +kernel)
theorem wq_35 : Cond.selects RX8 yX8_dropsAll yX8_dropsAll ∈ x_tbl := x_tm (i := 35) (by decide +kernel) (by decide +kernel)
theorem wq_36 : Cond.selects RX8 yX8_claims yX8_claims ∈ x_tbl := x_tm (i := 36) (by decide +kernel) (by decide +kernel)
theorem wq_37 : Cond.selects RX8 yX8_fleetOf yX8_fleetOf ∈ x_tbl := x_tm (i := 37) (by decide +kernel) (by decide +kernel)
theorem wq_38 : Cond.selects RX8 yX8_yearOf yX8_yearOf ∈ x_tbl := x_tm (i := 38) (by decide +kernel) (by decide +kernel)
theorem wq_39 : Cond.selects RX8 yX8_drops yX8_drops ∈ x_tbl := x_tm (i := 39) (by decide +kernel) (by decide +kernel)
theorem wq_40 : Cond.selects RX8 yX8_goes yX8_goes ∈ x_tbl := x_tm (i := 40) (by decide +kernel) (by decide +kernel)
theorem wq_41 : Cond.selects RX8 yX8_classOf yX8_classOf ∈ x_tbl := x_tm (i := 41) (by decide +kernel) (by decide +kernel)
theorem wq_42 : Cond.selects RX8 yX8_becomes yX8_becomes ∈ x_tbl := x_tm (i := 42) (by decide +kernel) (by decide +kernel)
theorem wq_43 : Cond.selects RX8 yX8_isInsured yX8_isInsured ∈ x_tbl := x_tm (i := 43) (by decide +kernel) (by decide +kernel)
theorem wq_44 : Cond.selects RX8 yX8_yearsOf yX8_yearsOf ∈ x_tbl := x_tm (i := 44) (by decide +kernel) (by decide +kernel)
theorem wq_45 : Cond.selects RX8 yX8_claimsOf yX8_claimsOf ∈ x_tbl := x_tm (i := 45) (by decide +kernel) (by decide +kernel)
theorem wq_46 : Cond.selects RX8 yX8_isClaim yX8_isClaim ∈ x_tbl := x_tm (i := 46) (by decide +kernel) (by decide +kernel)
theorem wq_47 : Cond.selects RX8 yX8_amountOf yX8_amountOf ∈ x_tbl := x_tm (i := 47) (by decide +kernel) (by decide +kernel)
theorem wq_48 : Cond.selects RX8 yX8_joins yX8_joins ∈ x_tbl := x_tm (i := 48) (by decide +kernel) (by decide +kernel)
theorem wq_49 : Cond.selects RX8 yX8_works yX8_works ∈ x_tbl := x_tm (i := 49) (by decide +kernel) (by decide +kernel)
theorem wq_50 : Cond.selects RX8 yX8_sums yX8_sums ∈ x_tbl := x_tm (i := 50) (by decide +kernel) (by decide +kernel)
theorem wq_51 : Cond.selects RX8 yX8_lossIn yX8_lossIn ∈ x_tbl := x_tm (i := 51) (by decide +kernel) (by decide +kernel)
theorem wq_52 : Cond.selects RX8 yX8_counted yX8_counted ∈ x_tbl := x_tm (i := 52) (by decide +kernel) (by decide +kernel)
theorem wq_53 : Cond.selects RX8 yX8_is yX8_is ∈ x_tbl := x_tm (i := 53) (by decide +kernel) (by decide +kernel)
theorem wq_54 : Cond.selects RX8 yX8_spreads yX8_spreads ∈ x_tbl := x_tm (i := 54) (by decide +kernel) (by decide +kernel)
theorem wq_55 : Cond.selects RX8 yX8_isIn yX8_isIn ∈ x_tbl := x_tm (i := 55) (by decide +kernel) (by decide +kernel)
theorem wq_56 : Cond.selects RX8 yX8_adds yX8_adds ∈ x_tbl := x_tm (i := 56) (by decide +kernel) (by decide +kernel)
theorem wq_57 : Cond.selects RX8 yX8_multiplies yX8_multiplies ∈ x_tbl := x_tm (i := 57) (by decide +kernel) (by decide +kernel)
theorem wq_58 : Cond.selects RX8 yX8_puts yX8_puts ∈ x_tbl := x_tm (i := 58) (by decide +kernel) (by decide +kernel)
theorem wq_59 : Cond.selects RX8 yX8_shareOf yX8_shareOf ∈ x_tbl := x_tm (i := 59) (by decide +kernel) (by decide +kernel)
theorem wq_60 : Cond.selects RX8 yX8_centres yX8_centres ∈ x_tbl := x_tm (i := 60) (by decide +kernel) (by decide +kernel)
theorem wq_61 : Cond.selects RX8 yX8_shares yX8_shares ∈ x_tbl := x_tm (i := 61) (by decide +kernel) (by decide +kernel)
theorem wq_62 : Cond.selects RX8 yX8_mixes yX8_mixes ∈ x_tbl := x_tm (i := 62) (by decide +kernel) (by decide +kernel)
theorem wq_63 : Cond.selects RX8 yX8_rates yX8_rates ∈ x_tbl := x_tm (i := 63) (by decide +kernel) (by decide +kernel)
theorem wq_64 : Cond.selects RX8 yX8_aboveCap yX8_aboveCap ∈ x_tbl := x_tm (i := 64) (by decide +kernel) (by decide +kernel)
theorem wq_65 : Cond.selects RX8 yX8_spreadNow yX8_spreadNow ∈ x_tbl := x_tm (i := 65) (by decide +kernel) (by decide +kernel)
theorem wq_66 : Cond.selects RX8 yX8_isRated yX8_isRated ∈ x_tbl := x_tm (i := 66) (by decide +kernel) (by decide +kernel)
theorem wq_67 : Cond.selects RX8 yX8_ratedNow yX8_ratedNow ∈ x_tbl := x_tm (i := 67) (by decide +kernel) (by decide +kernel)
theorem wq_68 : Cond.selects RX8 yX8_inThousandths yX8_inThousandths ∈ x_tbl := x_tm (i := 68) (by decide +kernel) (by decide +kernel)
theorem wq_69 : Cond.selects RX8 yX8_isAhead yX8_isAhead ∈ x_tbl := x_tm (i := 69) (by decide +kernel) (by decide +kernel)
theorem wq_70 : Cond.selects RX8 yX8_isGreater yX8_isGreater ∈ x_tbl := x_tm (i := 70) (by decide +kernel) (by decide +kernel)
theorem wq_71 : Cond.selects RX8 yX8_sharedBy yX8_sharedBy ∈ x_tbl := x_tm (i := 71) (by decide +kernel) (by decide +kernel)
theorem wq_72 : Cond.selects RX8 yX8_ratedBy yX8_ratedBy ∈ x_tbl := x_tm (i := 72) (by decide +kernel) (by decide +kernel)
theorem wq_73 : Cond.selects RX8 yX8_earlier yX8_earlier ∈ x_tbl := x_tm (i := 73) (by decide +kernel) (by decide +kernel)
theorem wq_74 : Cond.selects RX8 yX8_putsAside yX8_putsAside ∈ x_tbl := x_tm (i := 74) (by decide +kernel) (by decide +kernel)
theorem wq_75 : Cond.selects RX8 yX8_ends yX8_ends ∈ x_tbl := x_tm (i := 75) (by decide +kernel) (by decide +kernel)
theorem wq_76 : Cond.selects RX8 yX8_sharedNow yX8_sharedNow ∈ x_tbl := x_tm (i := 76) (by decide +kernel) (by decide +kernel)
theorem wq_77 : Cond.selects RX8 yX8_takesBack yX8_takesBack ∈ x_tbl := x_tm (i := 77) (by decide +kernel) (by decide +kernel)
theorem wq_78 : Cond.selects RX8 yX8_ratedWithout yX8_ratedWithout ∈ x_tbl := x_tm (i := 78) (by decide +kernel) (by decide +kernel)
theorem wq_79 : Cond.selects RX8 yX8_writesOne yX8_writesOne ∈ x_tbl := x_tm (i := 79) (by decide +kernel) (by decide +kernel)
theorem wq_80 : Cond.selects RX8 yX8_writesWord yX8_writesWord ∈ x_tbl := x_tm (i := 80) (by decide +kernel) (by decide +kernel)
theorem wq_81 : Cond.selects RX8 yX8_wordFrom yX8_wordFrom ∈ x_tbl := x_tm (i := 81) (by decide +kernel) (by decide +kernel)
theorem wq_82 : Cond.selects RX8 yX8_writes yX8_writes ∈ x_tbl := x_tm (i := 82) (by decide +kernel) (by decide +kernel)
theorem wq_83 : Cond.selects RX8 yX8_writesNumber yX8_writesNumber ∈ x_tbl := x_tm (i := 83) (by decide +kernel) (by decide +kernel)
theorem wq_84 : Cond.selects RX8 yX8_toldText yX8_toldText ∈ x_tbl := x_tm (i := 84) (by decide +kernel) (by decide +kernel)
theorem wq_85 : Cond.selects RX8 yX8_goesOn yX8_goesOn ∈ x_tbl := x_tm (i := 85) (by decide +kernel) (by decide +kernel)
theorem wq_86 : Cond.selects RX8 yX8_here yX8_here ∈ x_tbl := x_tm (i := 86) (by decide +kernel) (by decide +kernel)
theorem wq_87 : Cond.selects RX8 yX8_readsOne yX8_readsOne ∈ x_tbl := x_tm (i := 87) (by decide +kernel) (by decide +kernel)
theorem wq_88 : Cond.selects RX8 yX8_takesWord yX8_takesWord ∈ x_tbl := x_tm (i := 88) (by decide +kernel) (by decide +kernel)
theorem wq_89 : Cond.selects RX8 yX8_needsNumber yX8_needsNumber ∈ x_tbl := x_tm (i := 89) (by decide +kernel) (by decide +kernel)
theorem wq_90 : Cond.selects RX8 yX8_readsFleet yX8_readsFleet ∈ x_tbl := x_tm (i := 90) (by decide +kernel) (by decide +kernel)
theorem wq_91 : Cond.selects RX8 yX8_isRoom yX8_isRoom ∈ x_tbl := x_tm (i := 91) (by decide +kernel) (by decide +kernel)
theorem wq_92 : Cond.selects RX8 yX8_readsClaim yX8_readsClaim ∈ x_tbl := x_tm (i := 92) (by decide +kernel) (by decide +kernel)
theorem wq_93 : Cond.selects RX8 yX8_mayBeIn yX8_mayBeIn ∈ x_tbl := x_tm (i := 93) (by decide +kernel) (by decide +kernel)
theorem wq_95 : Cond.initialized RX7 ∈ x_tbl := x_t1 (i := 1) (by decide +kernel) (by decide +kernel)
theorem wq_96 : Cond.initialized RX6 ∈ x_tbl := x_t1 (i := 2) (by decide +kernel) (by decide +kernel)
theorem wq_97 : Cond.initialized RX0 ∈ x_tbl := x_t1 (i := 3) (by decide +kernel) (by decide +kernel)
theorem wq_98 : Cond.initialized RX2 ∈ x_tbl := x_t1 (i := 4) (by decide +kernel) (by decide +kernel)
theorem wq_99 : Cond.initialized RX1 ∈ x_tbl := x_t1 (i := 5) (by decide +kernel) (by decide +kernel)
theorem wq_100 : Cond.initialized RX4 ∈ x_tbl := x_t1 (i := 6) (by decide +kernel) (by decide +kernel)
theorem wq_101 : Cond.initialized RX5 ∈ x_tbl := x_t1 (i := 7) (by decide +kernel) (by decide +kernel)
theorem wq_102 : Cond.initialized RX3 ∈ x_tbl := x_t1 (i := 8) (by decide +kernel) (by decide +kernel)
theorem wq_103 : Cond.initialized RX8 ∈ x_tbl := x_t1 (i := 9) (by decide +kernel) (by decide +kernel)
theorem wq_104 : Cond.initialized RJ0 ∈ x_tbl := x_t1 (i := 10) (by decide +kernel) (by decide +kernel)
theorem wq_105 : Cond.initialized RJ1 ∈ x_tbl := x_t1 (i := 11) (by decide +kernel) (by decide +kernel)
theorem wq_106 : Cond.initialized RJ3 ∈ x_tbl := x_t1 (i := 12) (by decide +kernel) (by decide +kernel)
theorem wq_108 : Cond.initialized RJ9 ∈ x_tbl := x_t1 (i := 14) (by decide +kernel) (by decide +kernel)
theorem wq_109 : Cond.initialized RJ10 ∈ x_tbl := x_t1 (i := 15) (by decide +kernel) (by decide +kernel)
theorem wq_110 : Cond.initialized RJ6 ∈ x_tbl := x_t1 (i := 16) (by decide +kernel) (by decide +kernel)
theorem wq_111 : Cond.initialized RJ7 ∈ x_tbl := x_t1 (i := 17) (by decide +kernel) (by decide +kernel)
theorem wq_112 : Cond.classLink RL 7 RX7 ∈ x_tbl := x_t1 (i := 18) (by decide +kernel) (by decide +kernel)
theorem wq_113 : Cond.instantiable RX7 8 ∈ x_tbl := x_t1 (i := 19) (by decide +kernel) (by decide +kernel)
theorem wq_114 : Cond.methodLink RL 9 yX7_init ∈ x_tbl := x_t1 (i := 20) (by decide +kernel) (by decide +kernel)
theorem wq_115 : Cond.instanceMethod yX7_init ∈ x_tbl := x_t1 (i := 21) (by decide +kernel) (by decide +kernel)
theorem wq_116 : Cond.code yX7_init cX7_init 1 none ∈ x_tbl := x_t1 (i := 22) (by decide +kernel) (by decide +kernel)
theorem wq_117 : Cond.methodLink RX7 1 objectInit ∈ x_tbl := x_t1 (i := 23) (by decide +kernel) (by decide +kernel)
theorem wq_118 : Cond.instanceMethod objectInit ∈ x_tbl := x_t1 (i := 24) (by decide +kernel) (by decide +kernel)
theorem wq_119 : Cond.code objectInit ⟨#[0xb1]⟩ 1 none ∈ x_tbl := x_t1 (i := 25) (by decide +kernel) (by decide +kernel)
theorem wq_120 : Cond.classLink RX7 7 RX6 ∈ x_tbl := x_t1 (i := 26) (by decide +kernel) (by decide +kernel)
theorem wq_121 : Cond.instantiable RX6 5 ∈ x_tbl := x_t1 (i := 27) (by decide +kernel) (by decide +kernel)
theorem wq_122 : Cond.methodLink RX7 9 yX6_init ∈ x_tbl := x_t1 (i := 28) (by decide +kernel) (by decide +kernel)
theorem wq_123 : Cond.instanceMethod yX6_init ∈ x_tbl := x_t1 (i := 29) (by decide +kernel) (by decide +kernel)
theorem wq_124 : Cond.code yX6_init cX6_init 1 none ∈ x_tbl := x_t1 (i := 30) (by decide +kernel) (by decide +kernel)
theorem wq_125 : Cond.methodLink RX6 3 objectInit ∈ x_tbl := x_t1 (i := 31) (by decide +kernel) (by decide +kernel)
theorem wq_126 : Cond.fieldLink RX6 9 "FleetShares$Tape" "bytes" "[B" ∈ x_tbl := x_t1 (i := 32) (by decide +kernel) (by decide +kernel)
theorem wq_127 : Cond.fieldLink RX6 15 "FleetShares$Tape" "size" "I" ∈ x_tbl := x_t1 (i := 33) (by decide +kernel) (by decide +kernel)
theorem wq_128 : Cond.fieldLink RX6 28 "FleetShares$Tape" "at" "I" ∈ x_tbl := x_t1 (i := 34) (by decide +kernel) (by decide +kernel)
theorem wq_129 : Cond.fieldLink RX6 31 "FleetShares$Tape" "fault" "I" ∈ x_tbl := x_t1 (i := 35) (by decide +kernel) (by decide +kernel)
theorem wq_130 : Cond.fieldLink RX6 105 "FleetShares$Tape" "begin" "I" ∈ x_tbl := x_t1 (i := 36) (by decide +kernel) (by decide +kernel)
theorem wq_142 : Cond.arrayClass .byte ∈ x_tbl := x_t1 (i := 48) (by decide +kernel) (by decide +kernel)
theorem wq_143 : Cond.classLink RX7 16 RX0 ∈ x_tbl := x_t1 (i := 49) (by decide +kernel) (by decide +kernel)
theorem wq_144 : Cond.instantiable RX0 7 ∈ x_tbl := x_t1 (i := 50) (by decide +kernel) (by decide +kernel)
theorem wq_145 : Cond.methodLink RX7 18 yX0_init ∈ x_tbl := x_t1 (i := 51) (by decide +kernel) (by decide +kernel)
theorem wq_146 : Cond.instanceMethod yX0_init ∈ x_tbl := x_t1 (i := 52) (by decide +kernel) (by decide +kernel)
theorem wq_147 : Cond.code yX0_init cX0_init 1 none ∈ x_tbl := x_t1 (i := 53) (by decide +kernel) (by decide +kernel)
theorem wq_148 : Cond.methodLink RX0 3 objectInit ∈ x_tbl := x_t1 (i := 54) (by decide +kernel) (by decide +kernel)
theorem wq_149 : Cond.fieldLink RX0 28 "FleetShares$Book" "fleets" "I" ∈ x_tbl := x_t1 (i := 55) (by decide +kernel) (by decide +kernel)
theorem wq_150 : Cond.fieldLink RX1 53 "FleetShares$Book" "fleets" "I" ∈ x_tbl := x_t1 (i := 56) (by decide +kernel) (by decide +kernel)
theorem wq_151 : Cond.fieldLink RX7 80 "FleetShares$Book" "fleets" "I" ∈ x_tbl := x_t1 (i := 57) (by decide +kernel) (by decide +kernel)
theorem wq_152 : Cond.fieldLink RX6 75 "FleetShares$Book" "fleets" "I" ∈ x_tbl := x_t1 (i := 58) (by decide +kernel) (by decide +kernel)
theorem wq_153 : Cond.fieldLink RX0 31 "FleetShares$Book" "claims" "I" ∈ x_tbl := x_t1 (i := 59) (by decide +kernel) (by decide +kernel)
theorem wq_154 : Cond.fieldLink RX1 107 "FleetShares$Book" "claims" "I" ∈ x_tbl := x_t1 (i := 60) (by decide +kernel) (by decide +kernel)
theorem wq_155 : Cond.fieldLink RX6 80 "FleetShares$Book" "claims" "I" ∈ x_tbl := x_t1 (i := 61) (by decide +kernel) (by decide +kernel)
theorem wq_156 : Cond.fieldLink RX7 266 "FleetShares$Book" "claims" "I" ∈ x_tbl := x_t1 (i := 62) (by decide +kernel) (by decide +kernel)
theorem wq_157 : Cond.fieldLink RX0 9 "FleetShares$Book" "cap" "I" ∈ x_tbl := x_t1 (i := 63) (by decide +kernel) (by decide +kernel)
theorem wq_158 : Cond.fieldLink RX6 49 "FleetShares$Book" "cap" "I" ∈ x_tbl := x_t1 (i := 64) (by decide +kernel) (by decide +kernel)
theorem wq_159 : Cond.fieldLink RX7 176 "FleetShares$Book" "cap" "I" ∈ x_tbl := x_t1 (i := 65) (by decide +kernel) (by decide +kernel)
theorem wq_160 : Cond.fieldLink RX0 15 "FleetShares$Book" "steady" "I" ∈ x_tbl := x_t1 (i := 66) (by decide +kernel) (by decide +kernel)
theorem wq_161 : Cond.fieldLink RX1 94 "FleetShares$Book" "steady" "I" ∈ x_tbl := x_t1 (i := 67) (by decide +kernel) (by decide +kernel)
theorem wq_162 : Cond.fieldLink RX6 52 "FleetShares$Book" "steady" "I" ∈ x_tbl := x_t1 (i := 68) (by decide +kernel) (by decide +kernel)
theorem wq_163 : Cond.fieldLink RX7 179 "FleetShares$Book" "steady" "I" ∈ x_tbl := x_t1 (i := 69) (by decide +kernel) (by decide +kernel)
theorem wq_164 : Cond.fieldLink RX0 18 "FleetShares$Book" "classes" "[I" ∈ x_tbl := x_t1 (i := 70) (by decide +kernel) (by decide +kernel)
theorem wq_165 : Cond.fieldLink RX0 22 "FleetShares$Book" "years" "[I" ∈ x_tbl := x_t1 (i := 71) (by decide +kernel) (by decide +kernel)
theorem wq_166 : Cond.fieldLink RX0 25 "FleetShares$Book" "slips" "[I" ∈ x_tbl := x_t1 (i := 72) (by decide +kernel) (by decide +kernel)
theorem wq_182 : Cond.arrayClass .int ∈ x_tbl := x_t1 (i := 88) (by decide +kernel) (by decide +kernel)
theorem wq_183 : Cond.classLink RX7 26 RX2 ∈ x_tbl := x_t1 (i := 89) (by decide +kernel) (by decide +kernel)
theorem wq_184 : Cond.instantiable RX2 3 ∈ x_tbl := x_t1 (i := 90) (by decide +kernel) (by decide +kernel)
theorem wq_185 : Cond.methodLink RX7 28 yX2_init ∈ x_tbl := x_t1 (i := 91) (by decide +kernel) (by decide +kernel)
theorem wq_186 : Cond.instanceMethod yX2_init ∈ x_tbl := x_t1 (i := 92) (by decide +kernel) (by decide +kernel)
theorem wq_187 : Cond.code yX2_init cX2_init 1 none ∈ x_tbl := x_t1 (i := 93) (by decide +kernel) (by decide +kernel)
theorem wq_188 : Cond.methodLink RX2 3 objectInit ∈ x_tbl := x_t1 (i := 94) (by decide +kernel) (by decide +kernel)
theorem wq_189 : Cond.fieldLink RX2 11 "FleetShares$Past" "rows" "[I" ∈ x_tbl := x_t1 (i := 95) (by decide +kernel) (by decide +kernel)
theorem wq_190 : Cond.fieldLink RX2 17 "FleetShares$Past" "kept" "I" ∈ x_tbl := x_t1 (i := 96) (by decide +kernel) (by decide +kernel)
theorem wq_191 : Cond.fieldLink RX2 21 "FleetShares$Past" "next" "I" ∈ x_tbl := x_t1 (i := 97) (by decide +kernel) (by decide +kernel)
theorem wq_199 : Cond.classLink RX7 33 RX1 ∈ x_tbl := x_t1 (i := 105) (by decide +kernel) (by decide +kernel)
theorem wq_200 : Cond.instantiable RX1 14 ∈ x_tbl := x_t1 (i := 106) (by decide +kernel) (by decide +kernel)
theorem wq_201 : Cond.methodLink RX7 35 yX1_init ∈ x_tbl := x_t1 (i := 107) (by decide +kernel) (by decide +kernel)
theorem wq_202 : Cond.instanceMethod yX1_init ∈ x_tbl := x_t1 (i := 108) (by decide +kernel) (by decide +kernel)
theorem wq_203 : Cond.code yX1_init cX1_init 1 none ∈ x_tbl := x_t1 (i := 109) (by decide +kernel) (by decide +kernel)
theorem wq_204 : Cond.methodLink RX1 3 objectInit ∈ x_tbl := x_t1 (i := 110) (by decide +kernel) (by decide +kernel)
theorem wq_205 : Cond.classLink RX1 30 RX4 ∈ x_tbl := x_t1 (i := 111) (by decide +kernel) (by decide +kernel)
theorem wq_206 : Cond.instantiable RX4 15 ∈ x_tbl := x_t1 (i := 112) (by decide +kernel) (by decide +kernel)
theorem wq_207 : Cond.methodLink RX1 32 yX4_init ∈ x_tbl := x_t1 (i := 113) (by decide +kernel) (by decide +kernel)
theorem wq_208 : Cond.instanceMethod yX4_init ∈ x_tbl := x_t1 (i := 114) (by decide +kernel) (by decide +kernel)
theorem wq_209 : Cond.code yX4_init cX4_init 1 none ∈ x_tbl := x_t1 (i := 115) (by decide +kernel) (by decide +kernel)
theorem wq_210 : Cond.methodLink RX4 3 objectInit ∈ x_tbl := x_t1 (i := 116) (by decide +kernel) (by decide +kernel)
theorem wq_211 : Cond.classLink RX4 9 RX5 ∈ x_tbl := x_t1 (i := 117) (by decide +kernel) (by decide +kernel)
theorem wq_212 : Cond.instantiable RX5 2 ∈ x_tbl := x_t1 (i := 118) (by decide +kernel) (by decide +kernel)
theorem wq_214 : Cond.instanceMethod yX5_init ∈ x_tbl := x_t1 (i := 120) (by decide +kernel) (by decide +kernel)
theorem wq_215 : Cond.code yX5_init cX5_init 1 none ∈ x_tbl := x_t1 (i := 121) (by decide +kernel) (by decide +kernel)
theorem wq_216 : Cond.methodLink RX5 3 objectInit ∈ x_tbl := x_t1 (i := 122) (by decide +kernel) (by decide +kernel)
theorem wq_217 : Cond.fieldLink RX5 9 "FleetShares$Ratio" "upper" "J" ∈ x_tbl := x_t1 (i := 123) (by decide +kernel) (by decide +kernel)
theorem wq_218 : Cond.fieldLink RX4 94 "FleetShares$Ratio" "upper" "J" ∈ x_tbl := x_t1 (i := 124) (by decide +kernel) (by decide +kernel)
theorem wq_219 : Cond.fieldLink RX1 174 "FleetShares$Ratio" "upper" "J" ∈ x_tbl := x_t1 (i := 125) (by decide +kernel) (by decide +kernel)
theorem wq_220 : Cond.fieldLink RX5 15 "FleetShares$Ratio" "lower" "J" ∈ x_tbl := x_t1 (i := 126) (by decide +kernel) (by decide +kernel)
theorem wq_221 : Cond.fieldLink RX4 97 "FleetShares$Ratio" "lower" "J" ∈ x_tbl := x_t1 (i := 127) (by decide +kernel) (by decide +kernel)
theorem wq_222 : Cond.fieldLink RX1 168 "FleetShares$Ratio" "lower" "J" ∈ x_tbl := x_t1 (i := 128) (by decide +kernel) (by decide +kernel)
theorem wq_228 : Cond.fieldLink RX4 18 "FleetShares$Pool" "fleets" "I" ∈ x_tbl := x_t1 (i := 134) (by decide +kernel) (by decide +kernel)
theorem wq_229 : Cond.fieldLink RX7 223 "FleetShares$Pool" "fleets" "I" ∈ x_tbl := x_t1 (i := 135) (by decide +kernel) (by decide +kernel)
theorem wq_230 : Cond.fieldLink RX4 22 "FleetShares$Pool" "span" "I" ∈ x_tbl := x_t1 (i := 136) (by decide +kernel) (by decide +kernel)
theorem wq_231 : Cond.fieldLink RX7 226 "FleetShares$Pool" "span" "I" ∈ x_tbl := x_t1 (i := 137) (by decide +kernel) (by decide +kernel)
theorem wq_232 : Cond.fieldLink RX4 25 "FleetShares$Pool" "sum" "I" ∈ x_tbl := x_t1 (i := 138) (by decide +kernel) (by decide +kernel)
theorem wq_233 : Cond.fieldLink RX7 229 "FleetShares$Pool" "sum" "I" ∈ x_tbl := x_t1 (i := 139) (by decide +kernel) (by decide +kernel)
theorem wq_234 : Cond.fieldLink RX4 28 "FleetShares$Pool" "shares" "I" ∈ x_tbl := x_t1 (i := 140) (by decide +kernel) (by decide +kernel)
theorem wq_235 : Cond.fieldLink RX7 235 "FleetShares$Pool" "shares" "I" ∈ x_tbl := x_t1 (i := 141) (by decide +kernel) (by decide +kernel)
theorem wq_236 : Cond.fieldLink RX4 12 "FleetShares$Pool" "base" "LFleetShares$Ratio;" ∈ x_tbl := x_t1 (i := 142) (by decide +kernel) (by decide +kernel)
theorem wq_237 : Cond.fieldLink RX1 165 "FleetShares$Pool" "base" "LFleetShares$Ratio;" ∈ x_tbl := x_t1 (i := 143) (by decide +kernel) (by decide +kernel)
theorem wq_238 : Cond.fieldLink RX4 31 "FleetShares$Pool" "spanSquares" "J" ∈ x_tbl := x_t1 (i := 144) (by decide +kernel) (by decide +kernel)
theorem wq_239 : Cond.fieldLink RX4 35 "FleetShares$Pool" "lossSquares" "J" ∈ x_tbl := x_t1 (i := 145) (by decide +kernel) (by decide +kernel)
theorem wq_240 : Cond.fieldLink RX4 38 "FleetShares$Pool" "meanSquares" "J" ∈ x_tbl := x_t1 (i := 146) (by decide +kernel) (by decide +kernel)
theorem wq_241 : Cond.fieldLink RX4 52 "FleetShares$Pool" "freedom" "J" ∈ x_tbl := x_t1 (i := 147) (by decide +kernel) (by decide +kernel)
theorem wq_242 : Cond.fieldLink RX4 55 "FleetShares$Pool" "unlikeSpans" "J" ∈ x_tbl := x_t1 (i := 148) (by decide +kernel) (by decide +kernel)
theorem wq_243 : Cond.fieldLink RX4 58 "FleetShares$Pool" "within" "J" ∈ x_tbl := x_t1 (i := 149) (by decide +kernel) (by decide +kernel)
theorem wq_244 : Cond.fieldLink RX4 61 "FleetShares$Pool" "between" "J" ∈ x_tbl := x_t1 (i := 150) (by decide +kernel) (by decide +kernel)
theorem wq_245 : Cond.fieldLink RX4 41 "FleetShares$Pool" "weightedMeans" "J" ∈ x_tbl := x_t1 (i := 151) (by decide +kernel) (by decide +kernel)
theorem wq_246 : Cond.fieldLink RX4 44 "FleetShares$Pool" "ownLosses" "J" ∈ x_tbl := x_t1 (i := 152) (by decide +kernel) (by decide +kernel)
theorem wq_247 : Cond.fieldLink RX4 47 "FleetShares$Pool" "restSpans" "J" ∈ x_tbl := x_t1 (i := 153) (by decide +kernel) (by decide +kernel)
theorem wq_279 : Cond.classLink RX1 43 RX5 ∈ x_tbl := x_t1 (i := 185) (by decide +kernel) (by decide +kernel)
theorem wq_281 : Cond.fieldLink RX1 65 "FleetShares$Ledger" "fleets" "I" ∈ x_tbl := x_t1 (i := 187) (by decide +kernel) (by decide +kernel)
theorem wq_282 : Cond.fieldLink RX1 73 "FleetShares$Ledger" "allSum" "I" ∈ x_tbl := x_t1 (i := 188) (by decide +kernel) (by decide +kernel)
theorem wq_283 : Cond.fieldLink RX1 76 "FleetShares$Ledger" "allSpan" "I" ∈ x_tbl := x_t1 (i := 189) (by decide +kernel) (by decide +kernel)
theorem wq_284 : Cond.fieldLink RX1 9 "FleetShares$Ledger" "classes" "[I" ∈ x_tbl := x_t1 (i := 190) (by decide +kernel) (by decide +kernel)
theorem wq_285 : Cond.fieldLink RX1 15 "FleetShares$Ledger" "losses" "[I" ∈ x_tbl := x_t1 (i := 191) (by decide +kernel) (by decide +kernel)
theorem wq_286 : Cond.fieldLink RX1 18 "FleetShares$Ledger" "spans" "[I" ∈ x_tbl := x_t1 (i := 192) (by decide +kernel) (by decide +kernel)
theorem wq_287 : Cond.fieldLink RX1 21 "FleetShares$Ledger" "sums" "[I" ∈ x_tbl := x_t1 (i := 193) (by decide +kernel) (by decide +kernel)
theorem wq_288 : Cond.fieldLink RX1 24 "FleetShares$Ledger" "squares" "[I" ∈ x_tbl := x_t1 (i := 194) (by decide +kernel) (by decide +kernel)
theorem wq_289 : Cond.fieldLink RX1 27 "FleetShares$Ledger" "shares" "[I" ∈ x_tbl := x_t1 (i := 195) (by decide +kernel) (by decide +kernel)
theorem wq_290 : Cond.fieldLink RX1 33 "FleetShares$Ledger" "poolA" "LFleetShares$Pool;" ∈ x_tbl := x_t1 (i := 196) (by decide +kernel) (by decide +kernel)
theorem wq_291 : Cond.fieldLink RX1 37 "FleetShares$Ledger" "poolB" "LFleetShares$Pool;" ∈ x_tbl := x_t1 (i := 197) (by decide +kernel) (by decide +kernel)
theorem wq_292 : Cond.fieldLink RX1 40 "FleetShares$Ledger" "poolC" "LFleetShares$Pool;" ∈ x_tbl := x_t1 (i := 198) (by decide +kernel) (by decide +kernel)
theorem wq_293 : Cond.fieldLink RX1 46 "FleetShares$Ledger" "first" "LFleetShares$Ratio;" ∈ x_tbl := x_t1 (i := 199) (by decide +kernel) (by decide +kernel)
theorem wq_294 : Cond.fieldLink RX1 50 "FleetShares$Ledger" "second" "LFleetShares$Ratio;" ∈ x_tbl := x_t1 (i := 200) (by decide +kernel) (by decide +kernel)
theorem wq_324 : Cond.classLink RX7 40 RX3 ∈ x_tbl := x_t1 (i := 230) (by decide +kernel) (by decide +kernel)
theorem wq_325 : Cond.instantiable RX3 3 ∈ x_tbl := x_t1 (i := 231) (by decide +kernel) (by decide +kernel)
theorem wq_327 : Cond.instanceMethod yX3_init ∈ x_tbl := x_t1 (i := 233) (by decide +kernel) (by decide +kernel)
theorem wq_328 : Cond.code yX3_init cX3_init 1 none ∈ x_tbl := x_t1 (i := 234) (by decide +kernel) (by decide +kernel)
theorem wq_329 : Cond.methodLink RX3 3 objectInit ∈ x_tbl := x_t1 (i := 235) (by decide +kernel) (by decide +kernel)
theorem wq_330 : Cond.fieldLink RX3 9 "FleetShares$Pen" "wanted" "I" ∈ x_tbl := x_t1 (i := 236) (by decide +kernel) (by decide +kernel)
theorem wq_331 : Cond.fieldLink RX3 15 "FleetShares$Pen" "written" "I" ∈ x_tbl := x_t1 (i := 237) (by decide +kernel) (by decide +kernel)
theorem wq_332 : Cond.fieldLink RX3 18 "FleetShares$Pen" "found" "I" ∈ x_tbl := x_t1 (i := 238) (by decide +kernel) (by decide +kernel)
theorem wq_340 : Cond.classLink RX7 47 RX5 ∈ x_tbl := x_t2 (i := 6) (by decide +kernel) (by decide +kernel)
theorem wq_342 : Cond.fieldLink RX7 10 "FleetShares" "tape" "LFleetShares$Tape;" ∈ x_tbl := x_t2 (i := 8) (by decide +kernel) (by decide +kernel)
theorem wq_343 : Cond.fieldLink RX7 19 "FleetShares" "book" "LFleetShares$Book;" ∈ x_tbl := x_t2 (i := 9) (by decide +kernel) (by decide +kernel)
theorem wq_344 : Cond.fieldLink RX7 23 "FleetShares" "trial" "LFleetShares$Book;" ∈ x_tbl := x_t2 (i := 10) (by decide +kernel) (by decide +kernel)
theorem wq_345 : Cond.fieldLink RX7 29 "FleetShares" "past" "LFleetShares$Past;" ∈ x_tbl := x_t2 (i := 11) (by decide +kernel) (by decide +kernel)
theorem wq_346 : Cond.fieldLink RX7 36 "FleetShares" "ledger" "LFleetShares$Ledger;" ∈ x_tbl := x_t2 (i := 12) (by decide +kernel) (by decide +kernel)
theorem wq_347 : Cond.fieldLink RX7 43 "FleetShares" "pen" "LFleetShares$Pen;" ∈ x_tbl := x_t2 (i := 13) (by decide +kernel) (by decide +kernel)
theorem wq_348 : Cond.fieldLink RX7 50 "FleetShares" "told" "LFleetShares$Ratio;" ∈ x_tbl := x_t2 (i := 14) (by decide +kernel) (by decide +kernel)
theorem wq_349 : Cond.fieldLink RX7 54 "FleetShares" "ratesNow" "[I" ∈ x_tbl := x_t2 (i := 15) (by decide +kernel) (by decide +kernel)
theorem wq_367 : Cond.methodLink RL 13 yX7_feed ∈ x_tbl := x_t2 (i := 33) (by decide +kernel) (by decide +kernel)
theorem wq_368 : Cond.instanceMethod yX7_feed ∈ x_tbl := x_t2 (i := 34) (by decide +kernel) (by decide +kernel)
theorem wq_369 : Cond.selects RX7 yX7_feed yX7_feed ∈ x_tbl := x_t2 (i := 35) (by decide +kernel) (by decide +kernel)
theorem wq_370 : Cond.code yX7_feed cX7_feed 6 (some .int) ∈ x_tbl := x_t2 (i := 36) (by decide +kernel) (by decide +kernel)
theorem wq_371 : Cond.methodLink RX7 58 yX6_size ∈ x_tbl := x_t2 (i := 37) (by decide +kernel) (by decide +kernel)
theorem wq_372 : Cond.instanceMethod yX6_size ∈ x_tbl := x_t2 (i := 38) (by decide +kernel) (by decide +kernel)
theorem wq_373 : Cond.selects RX6 yX6_size yX6_size ∈ x_tbl := x_t2 (i := 39) (by decide +kernel) (by decide +kernel)
theorem wq_374 : Cond.code yX6_size cX6_size 1 (some .int) ∈ x_tbl := x_t2 (i := 40) (by decide +kernel) (by decide +kernel)
theorem wq_375 : Cond.methodLink RX7 62 yX6_addFour ∈ x_tbl := x_t2 (i := 41) (by decide +kernel) (by decide +kernel)
theorem wq_376 : Cond.instanceMethod yX6_addFour ∈ x_tbl := x_t2 (i := 42) (by decide +kernel) (by decide +kernel)
theorem wq_377 : Cond.selects RX6 yX6_addFour yX6_addFour ∈ x_tbl := x_t2 (i := 43) (by decide +kernel) (by decide +kernel)
theorem wq_378 : Cond.code yX6_addFour cX6_addFour 2 none ∈ x_tbl := x_t2 (i := 44) (by decide +kernel) (by decide +kernel)
theorem wq_379 : Cond.methodLink RX6 19 yX6_addByte ∈ x_tbl := x_t2 (i := 45) (by decide +kernel) (by decide +kernel)
theorem wq_381 : Cond.instanceMethod yX6_addByte ∈ x_tbl := x_t2 (i := 47) (by decide +kernel) (by decide +kernel)
theorem wq_382 : Cond.code yX6_addByte cX6_addByte 2 none ∈ x_tbl := x_t2 (i := 48) (by decide +kernel) (by decide +kernel)
theorem wq_383 : Cond.methodLink RL 18 yX7_back ∈ x_tbl := x_t2 (i := 49) (by decide +kernel) (by decide +kernel)
theorem wq_384 : Cond.instanceMethod yX7_back ∈ x_tbl := x_t2 (i := 50) (by decide +kernel) (by decide +kernel)
theorem wq_385 : Cond.selects RX7 yX7_back yX7_back ∈ x_tbl := x_t2 (i := 51) (by decide +kernel) (by decide +kernel)
theorem wq_386 : Cond.code yX7_back cX7_back 2 (some .int) ∈ x_tbl := x_t2 (i := 52) (by decide +kernel) (by decide +kernel)
theorem wq_387 : Cond.methodLink RX7 66 yX6_dropLast ∈ x_tbl := x_t2 (i := 53) (by decide +kernel) (by decide +kernel)
theorem wq_388 : Cond.instanceMethod yX6_dropLast ∈ x_tbl := x_t2 (i := 54) (by decide +kernel) (by decide +kernel)
theorem wq_389 : Cond.selects RX6 yX6_dropLast yX6_dropLast ∈ x_tbl := x_t2 (i := 55) (by decide +kernel) (by decide +kernel)
theorem wq_390 : Cond.code yX6_dropLast cX6_dropLast 2 none ∈ x_tbl := x_t2 (i := 56) (by decide +kernel) (by decide +kernel)
theorem wq_391 : Cond.methodLink RL 23 yX7_text ∈ x_tbl := x_t2 (i := 57) (by decide +kernel) (by decide +kernel)
theorem wq_392 : Cond.instanceMethod yX7_text ∈ x_tbl := x_t2 (i := 58) (by decide +kernel) (by decide +kernel)
theorem wq_393 : Cond.selects RX7 yX7_text yX7_text ∈ x_tbl := x_t2 (i := 59) (by decide +kernel) (by decide +kernel)
theorem wq_394 : Cond.code yX7_text cX7_text 2 (some .int) ∈ x_tbl := x_t2 (i := 60) (by decide +kernel) (by decide +kernel)
theorem wq_395 : Cond.methodLink RX7 69 yX6_readInto ∈ x_tbl := x_t2 (i := 61) (by decide +kernel) (by decide +kernel)
theorem wq_396 : Cond.instanceMethod yX6_readInto ∈ x_tbl := x_t2 (i := 62) (by decide +kernel) (by decide +kernel)
theorem wq_397 : Cond.selects RX6 yX6_readInto yX6_readInto ∈ x_tbl := x_t2 (i := 63) (by decide +kernel) (by decide +kernel)
theorem wq_398 : Cond.code yX6_readInto cX6_readInto 3 (some .int) ∈ x_tbl := x_t2 (i := 64) (by decide +kernel) (by decide +kernel)
theorem wq_399 : Cond.methodLink RX6 23 yX0_clear ∈ x_tbl := x_t2 (i := 65) (by decide +kernel) (by decide +kernel)
theorem wq_400 : Cond.instanceMethod yX0_clear ∈ x_tbl := x_t2 (i := 66) (by decide +kernel) (by decide +kernel)
theorem wq_401 : Cond.selects RX0 yX0_clear yX0_clear ∈ x_tbl := x_t2 (i := 67) (by decide +kernel) (by decide +kernel)
theorem wq_402 : Cond.code yX0_clear cX0_clear 1 none ∈ x_tbl := x_t2 (i := 68) (by decide +kernel) (by decide +kernel)
theorem wq_403 : Cond.methodLink RX6 34 yX6_skipGaps ∈ x_tbl := x_t2 (i := 69) (by decide +kernel) (by decide +kernel)
theorem wq_405 : Cond.instanceMethod yX6_skipGaps ∈ x_tbl := x_t2 (i := 71) (by decide +kernel) (by decide +kernel)
theorem wq_406 : Cond.code yX6_skipGaps cX6_skipGaps 2 none ∈ x_tbl := x_t2 (i := 72) (by decide +kernel) (by decide +kernel)
theorem wq_407 : Cond.methodLink RX6 86 yX6_byteAt ∈ x_tbl := x_t2 (i := 73) (by decide +kernel) (by decide +kernel)
theorem wq_409 : Cond.instanceMethod yX6_byteAt ∈ x_tbl := x_t2 (i := 75) (by decide +kernel) (by decide +kernel)
theorem wq_410 : Cond.code yX6_byteAt cX6_byteAt 2 (some .int) ∈ x_tbl := x_t2 (i := 76) (by decide +kernel) (by decide +kernel)
theorem wq_411 : Cond.methodLink RX6 37 yX6_readSentence ∈ x_tbl := x_t2 (i := 77) (by decide +kernel) (by decide +kernel)
theorem wq_413 : Cond.instanceMethod yX6_readSentence ∈ x_tbl := x_t2 (i := 79) (by decide +kernel) (by decide +kernel)
theorem wq_414 : Cond.code yX6_readSentence cX6_readSentence 2 none ∈ x_tbl := x_t2 (i := 80) (by decide +kernel) (by decide +kernel)
theorem wq_415 : Cond.methodLink RX6 41 yX6_readWord ∈ x_tbl := x_t2 (i := 81) (by decide +kernel) (by decide +kernel)
theorem wq_417 : Cond.instanceMethod yX6_readWord ∈ x_tbl := x_t2 (i := 83) (by decide +kernel) (by decide +kernel)
theorem wq_418 : Cond.code yX6_readWord cX6_readWord 4 (some .int) ∈ x_tbl := x_t2 (i := 84) (by decide +kernel) (by decide +kernel)
theorem wq_419 : Cond.methodLink RX6 64 yX6_skipLetters ∈ x_tbl := x_t2 (i := 85) (by decide +kernel) (by decide +kernel)
theorem wq_421 : Cond.instanceMethod yX6_skipLetters ∈ x_tbl := x_t2 (i := 87) (by decide +kernel) (by decide +kernel)
theorem wq_422 : Cond.code yX6_skipLetters cX6_skipLetters 2 none ∈ x_tbl := x_t2 (i := 88) (by decide +kernel) (by decide +kernel)
theorem wq_424 : Cond.methodLink RX6 68 yX6_isWord ∈ x_tbl := x_t2 (i := 90) (by decide +kernel) (by decide +kernel)
theorem wq_426 : Cond.instanceMethod yX6_isWord ∈ x_tbl := x_t2 (i := 92) (by decide +kernel) (by decide +kernel)
theorem wq_427 : Cond.code yX6_isWord cX6_isWord 4 (some .boolean) ∈ x_tbl := x_t2 (i := 93) (by decide +kernel) (by decide +kernel)
theorem wq_428 : Cond.methodLink RX6 117 yJ0_length_8abf5 ∈ x_tbl := x_t2 (i := 94) (by decide +kernel) (by decide +kernel)
theorem wq_429 : Cond.instanceMethod yJ0_length_8abf5 ∈ x_tbl := x_t2 (i := 95) (by decide +kernel) (by decide +kernel)
theorem wq_430 : Cond.selects RJ0 yJ0_length_8abf5 yJ0_length_8abf5 ∈ x_tbl := x_t2 (i := 96) (by decide +kernel) (by decide +kernel)
theorem wq_431 : Cond.code yJ0_length_8abf5 cJ0_length_8abf5 1 (some .int) ∈ x_tbl := x_t2 (i := 97) (by decide +kernel) (by decide +kernel)
theorem wq_432 : Cond.methodLink RJ0 335 yJ0_coder_7d493 ∈ x_tbl := x_t2 (i := 98) (by decide +kernel) (by decide +kernel)
theorem wq_433 : Cond.instanceMethod yJ0_coder_7d493 ∈ x_tbl := x_t2 (i := 99) (by decide +kernel) (by decide +kernel)
theorem wq_434 : Cond.selects RJ0 yJ0_coder_7d493 yJ0_coder_7d493 ∈ x_tbl := x_t2 (i := 100) (by decide +kernel) (by decide +kernel)
theorem wq_435 : Cond.code yJ0_coder_7d493 cJ0_coder_7d493 1 (some .byte) ∈ x_tbl := x_t2 (i := 101) (by decide +kernel) (by decide +kernel)
theorem wq_436 : Cond.fieldLink RJ0 38 "java/lang/String" "COMPACT_STRINGS" "Z" ∈ x_tbl := x_t2 (i := 102) (by decide +kernel) (by decide +kernel)
theorem wq_438 : Cond.methodLink RX6 123 yJ0_charAt_5068e ∈ x_tbl := x_t2 (i := 104) (by decide +kernel) (by decide +kernel)
theorem wq_439 : Cond.instanceMethod yJ0_charAt_5068e ∈ x_tbl := x_t2 (i := 105) (by decide +kernel) (by decide +kernel)
theorem wq_440 : Cond.selects RJ0 yJ0_charAt_5068e yJ0_charAt_5068e ∈ x_tbl := x_t2 (i := 106) (by decide +kernel) (by decide +kernel)
theorem wq_441 : Cond.code yJ0_charAt_5068e cJ0_charAt_5068e 2 (some .char) ∈ x_tbl := x_t2 (i := 107) (by decide +kernel) (by decide +kernel)
theorem wq_442 : Cond.methodLink RJ0 492 yJ0_isLatin1_aae02 ∈ x_tbl := x_t2 (i := 108) (by decide +kernel) (by decide +kernel)
theorem wq_443 : Cond.instanceMethod yJ0_isLatin1_aae02 ∈ x_tbl := x_t2 (i := 109) (by decide +kernel) (by decide +kernel)
theorem wq_444 : Cond.selects RJ0 yJ0_isLatin1_aae02 yJ0_isLatin1_aae02 ∈ x_tbl := x_t2 (i := 110) (by decide +kernel) (by decide +kernel)
theorem wq_445 : Cond.code yJ0_isLatin1_aae02 cJ0_isLatin1_aae02 1 (some .boolean) ∈ x_tbl := x_t2 (i := 111) (by decide +kernel) (by decide +kernel)
theorem wq_446 : Cond.methodLink RJ0 495 yJ1_charAt_3b067 ∈ x_tbl := x_t2 (i := 112) (by decide +kernel) (by decide +kernel)
theorem wq_447 : Cond.static yJ1_charAt_3b067 ∈ x_tbl := x_t2 (i := 113) (by decide +kernel) (by decide +kernel)
theorem wq_448 : Cond.code yJ1_charAt_3b067 cJ1_charAt_3b067 2 (some .char) ∈ x_tbl := x_t2 (i := 114) (by decide +kernel) (by decide +kernel)
theorem wq_449 : Cond.methodLink RJ1 9 yJ0_checkIndex_df160 ∈ x_tbl := x_t2 (i := 115) (by decide +kernel) (by decide +kernel)
theorem wq_450 : Cond.static yJ0_checkIndex_df160 ∈ x_tbl := x_t2 (i := 116) (by decide +kernel) (by decide +kernel)
theorem wq_451 : Cond.code yJ0_checkIndex_df160 cJ0_checkIndex_df160 2 none ∈ x_tbl := x_t2 (i := 117) (by decide +kernel) (by decide +kernel)
theorem wq_452 : Cond.fieldLink RJ0 1053 "jdk/internal/util/Preconditions" "SIOOBE_FORMATTER" "Ljava/util/function/BiFunction;" ∈ x_tbl := x_t2 (i := 118) (by decide +kernel) (by decide +kernel)
theorem wq_454 : Cond.methodLink RJ0 1059 yJ3_checkIndex_8e157 ∈ x_tbl := x_t2 (i := 120) (by decide +kernel) (by decide +kernel)
theorem wq_455 : Cond.static yJ3_checkIndex_8e157 ∈ x_tbl := x_t2 (i := 121) (by decide +kernel) (by decide +kernel)
theorem wq_456 : Cond.code yJ3_checkIndex_8e157 cJ3_checkIndex_8e157 3 (some .int) ∈ x_tbl := x_t2 (i := 122) (by decide +kernel) (by decide +kernel)
theorem wq_479 : Cond.methodLink RX6 83 yX6_failAt ∈ x_tbl := x_t2 (i := 145) (by decide +kernel) (by decide +kernel)
theorem wq_481 : Cond.instanceMethod yX6_failAt ∈ x_tbl := x_t2 (i := 147) (by decide +kernel) (by decide +kernel)
theorem wq_482 : Cond.code yX6_failAt cX6_failAt 2 none ∈ x_tbl := x_t2 (i := 148) (by decide +kernel) (by decide +kernel)
theorem wq_483 : Cond.methodLink RX6 90 yX6_isDigit ∈ x_tbl := x_t2 (i := 149) (by decide +kernel) (by decide +kernel)
theorem wq_484 : Cond.static yX6_isDigit ∈ x_tbl := x_t2 (i := 150) (by decide +kernel) (by decide +kernel)
theorem wq_485 : Cond.code yX6_isDigit cX6_isDigit 1 (some .boolean) ∈ x_tbl := x_t2 (i := 151) (by decide +kernel) (by decide +kernel)
theorem wq_486 : Cond.methodLink RX6 45 yX6_readNumber ∈ x_tbl := x_t2 (i := 152) (by decide +kernel) (by decide +kernel)
theorem wq_488 : Cond.instanceMethod yX6_readNumber ∈ x_tbl := x_t2 (i := 154) (by decide +kernel) (by decide +kernel)
theorem wq_489 : Cond.code yX6_readNumber cX6_readNumber 5 (some .int) ∈ x_tbl := x_t2 (i := 155) (by decide +kernel) (by decide +kernel)
theorem wq_490 : Cond.methodLink RX6 112 Lib.Math.min.name ∈ x_tbl := x_t2 (i := 156) (by decide +kernel) (by decide +kernel)
theorem wq_491 : Cond.static Lib.Math.min.name ∈ x_tbl := x_t2 (i := 157) (by decide +kernel) (by decide +kernel)
theorem wq_492 : Cond.code Lib.Math.min.name Lib.Math.min.code 2 (some .int) ∈ x_tbl := x_t2 (i := 158) (by decide +kernel) (by decide +kernel)
theorem wq_493 : Cond.methodLink RX6 55 yX6_readFleet ∈ x_tbl := x_t2 (i := 159) (by decide +kernel) (by decide +kernel)
theorem wq_495 : Cond.instanceMethod yX6_readFleet ∈ x_tbl := x_t2 (i := 161) (by decide +kernel) (by decide +kernel)
theorem wq_496 : Cond.code yX6_readFleet cX6_readFleet 5 none ∈ x_tbl := x_t2 (i := 162) (by decide +kernel) (by decide +kernel)
theorem wq_497 : Cond.methodLink RX6 94 yX6_isEndNext ∈ x_tbl := x_t2 (i := 163) (by decide +kernel) (by decide +kernel)
theorem wq_499 : Cond.instanceMethod yX6_isEndNext ∈ x_tbl := x_t2 (i := 165) (by decide +kernel) (by decide +kernel)
theorem wq_500 : Cond.code yX6_isEndNext cX6_isEndNext 1 (some .boolean) ∈ x_tbl := x_t2 (i := 166) (by decide +kernel) (by decide +kernel)
theorem wq_501 : Cond.methodLink RX6 98 yX0_addFleet ∈ x_tbl := x_t2 (i := 167) (by decide +kernel) (by decide +kernel)
theorem wq_502 : Cond.instanceMethod yX0_addFleet ∈ x_tbl := x_t2 (i := 168) (by decide +kernel) (by decide +kernel)
theorem wq_503 : Cond.selects RX0 yX0_addFleet yX0_addFleet ∈ x_tbl := x_t2 (i := 169) (by decide +kernel) (by decide +kernel)
theorem wq_504 : Cond.code yX0_addFleet cX0_addFleet 3 (some .int) ∈ x_tbl := x_t2 (i := 170) (by decide +kernel) (by decide +kernel)
theorem wq_505 : Cond.methodLink RX0 47 yX0_putClass ∈ x_tbl := x_t2 (i := 171) (by decide +kernel) (by decide +kernel)
theorem wq_506 : Cond.instanceMethod yX0_putClass ∈ x_tbl := x_t2 (i := 172) (by decide +kernel) (by decide +kernel)
theorem wq_507 : Cond.selects RX0 yX0_putClass yX0_putClass ∈ x_tbl := x_t2 (i := 173) (by decide +kernel) (by decide +kernel)
theorem wq_508 : Cond.code yX0_putClass cX0_putClass 3 none ∈ x_tbl := x_t2 (i := 174) (by decide +kernel) (by decide +kernel)
theorem wq_509 : Cond.methodLink RX0 40 yX0_hasFleet ∈ x_tbl := x_t2 (i := 175) (by decide +kernel) (by decide +kernel)
theorem wq_510 : Cond.instanceMethod yX0_hasFleet ∈ x_tbl := x_t2 (i := 176) (by decide +kernel) (by decide +kernel)
theorem wq_511 : Cond.selects RX0 yX0_hasFleet yX0_hasFleet ∈ x_tbl := x_t2 (i := 177) (by decide +kernel) (by decide +kernel)
theorem wq_512 : Cond.code yX0_hasFleet cX0_hasFleet 2 (some .boolean) ∈ x_tbl := x_t2 (i := 178) (by decide +kernel) (by decide +kernel)
theorem wq_513 : Cond.methodLink RX0 51 yX0_putYears ∈ x_tbl := x_t2 (i := 179) (by decide +kernel) (by decide +kernel)
theorem wq_514 : Cond.instanceMethod yX0_putYears ∈ x_tbl := x_t2 (i := 180) (by decide +kernel) (by decide +kernel)
theorem wq_515 : Cond.selects RX0 yX0_putYears yX0_putYears ∈ x_tbl := x_t2 (i := 181) (by decide +kernel) (by decide +kernel)
theorem wq_516 : Cond.code yX0_putYears cX0_putYears 3 none ∈ x_tbl := x_t2 (i := 182) (by decide +kernel) (by decide +kernel)
theorem wq_517 : Cond.methodLink RX6 58 yX6_readClaim ∈ x_tbl := x_t2 (i := 183) (by decide +kernel) (by decide +kernel)
theorem wq_519 : Cond.instanceMethod yX6_readClaim ∈ x_tbl := x_t2 (i := 185) (by decide +kernel) (by decide +kernel)
theorem wq_520 : Cond.code yX6_readClaim cX6_readClaim 4 none ∈ x_tbl := x_t2 (i := 186) (by decide +kernel) (by decide +kernel)
theorem wq_521 : Cond.methodLink RX6 101 yX0_canClaim ∈ x_tbl := x_t2 (i := 187) (by decide +kernel) (by decide +kernel)
theorem wq_522 : Cond.instanceMethod yX0_canClaim ∈ x_tbl := x_t2 (i := 188) (by decide +kernel) (by decide +kernel)
theorem wq_523 : Cond.selects RX0 yX0_canClaim yX0_canClaim ∈ x_tbl := x_t2 (i := 189) (by decide +kernel) (by decide +kernel)
theorem wq_524 : Cond.code yX0_canClaim cX0_canClaim 5 (some .boolean) ∈ x_tbl := x_t2 (i := 190) (by decide +kernel) (by decide +kernel)
theorem wq_525 : Cond.methodLink RX0 85 yX0_isInsured ∈ x_tbl := x_t2 (i := 191) (by decide +kernel) (by decide +kernel)
theorem wq_526 : Cond.instanceMethod yX0_isInsured ∈ x_tbl := x_t2 (i := 192) (by decide +kernel) (by decide +kernel)
theorem wq_527 : Cond.selects RX0 yX0_isInsured yX0_isInsured ∈ x_tbl := x_t2 (i := 193) (by decide +kernel) (by decide +kernel)
theorem wq_528 : Cond.code yX0_isInsured cX0_isInsured 3 (some .boolean) ∈ x_tbl := x_t2 (i := 194) (by decide +kernel) (by decide +kernel)
theorem wq_530 : Cond.static yX7_isYear ∈ x_tbl := x_t2 (i := 196) (by decide +kernel) (by decide +kernel)
theorem wq_531 : Cond.code yX7_isYear cX7_isYear 1 (some .boolean) ∈ x_tbl := x_t2 (i := 197) (by decide +kernel) (by decide +kernel)
theorem wq_532 : Cond.methodLink RX0 107 yX0_isOf ∈ x_tbl := x_t2 (i := 198) (by decide +kernel) (by decide +kernel)
theorem wq_534 : Cond.instanceMethod yX0_isOf ∈ x_tbl := x_t2 (i := 200) (by decide +kernel) (by decide +kernel)
theorem wq_535 : Cond.code yX0_isOf cX0_isOf 4 (some .boolean) ∈ x_tbl := x_t2 (i := 201) (by decide +kernel) (by decide +kernel)
theorem wq_536 : Cond.methodLink RX0 89 yX0_hasClaim ∈ x_tbl := x_t2 (i := 202) (by decide +kernel) (by decide +kernel)
theorem wq_537 : Cond.instanceMethod yX0_hasClaim ∈ x_tbl := x_t2 (i := 203) (by decide +kernel) (by decide +kernel)
theorem wq_538 : Cond.selects RX0 yX0_hasClaim yX0_hasClaim ∈ x_tbl := x_t2 (i := 204) (by decide +kernel) (by decide +kernel)
theorem wq_539 : Cond.code yX0_hasClaim cX0_hasClaim 2 (some .boolean) ∈ x_tbl := x_t2 (i := 205) (by decide +kernel) (by decide +kernel)
theorem wq_540 : Cond.methodLink RX6 108 yX0_addClaim ∈ x_tbl := x_t2 (i := 206) (by decide +kernel) (by decide +kernel)
theorem wq_541 : Cond.instanceMethod yX0_addClaim ∈ x_tbl := x_t2 (i := 207) (by decide +kernel) (by decide +kernel)
theorem wq_542 : Cond.selects RX0 yX0_addClaim yX0_addClaim ∈ x_tbl := x_t2 (i := 208) (by decide +kernel) (by decide +kernel)
theorem wq_543 : Cond.code yX0_addClaim cX0_addClaim 4 (some .int) ∈ x_tbl := x_t2 (i := 209) (by decide +kernel) (by decide +kernel)
theorem wq_544 : Cond.methodLink RX0 100 yX0_putClaim ∈ x_tbl := x_t2 (i := 210) (by decide +kernel) (by decide +kernel)
theorem wq_546 : Cond.instanceMethod yX0_putClaim ∈ x_tbl := x_t2 (i := 212) (by decide +kernel) (by decide +kernel)
theorem wq_547 : Cond.code yX0_putClaim cX0_putClaim 5 none ∈ x_tbl := x_t2 (i := 213) (by decide +kernel) (by decide +kernel)
theorem wq_548 : Cond.methodLink RX6 61 yX6_readEnd ∈ x_tbl := x_t2 (i := 214) (by decide +kernel) (by decide +kernel)
theorem wq_550 : Cond.instanceMethod yX6_readEnd ∈ x_tbl := x_t2 (i := 216) (by decide +kernel) (by decide +kernel)
theorem wq_551 : Cond.code yX6_readEnd cX6_readEnd 1 none ∈ x_tbl := x_t2 (i := 217) (by decide +kernel) (by decide +kernel)
theorem wq_552 : Cond.methodLink RX7 73 yX0_copyFrom ∈ x_tbl := x_t2 (i := 218) (by decide +kernel) (by decide +kernel)
theorem wq_553 : Cond.instanceMethod yX0_copyFrom ∈ x_tbl := x_t2 (i := 219) (by decide +kernel) (by decide +kernel)
theorem wq_554 : Cond.selects RX0 yX0_copyFrom yX0_copyFrom ∈ x_tbl := x_t2 (i := 220) (by decide +kernel) (by decide +kernel)
theorem wq_555 : Cond.code yX0_copyFrom cX0_copyFrom 2 none ∈ x_tbl := x_t2 (i := 221) (by decide +kernel) (by decide +kernel)
theorem wq_556 : Cond.methodLink RX0 34 arraycopyName ∈ x_tbl := x_t2 (i := 222) (by decide +kernel) (by decide +kernel)
theorem wq_557 : Cond.static arraycopyName ∈ x_tbl := x_t2 (i := 223) (by decide +kernel) (by decide +kernel)
theorem wq_558 : Cond.native arraycopyName ∈ x_tbl := x_t2 (i := 224) (by decide +kernel) (by decide +kernel)
theorem wq_559 : Cond.methodLink RX7 77 yX2_empty ∈ x_tbl := x_t2 (i := 225) (by decide +kernel) (by decide +kernel)
theorem wq_560 : Cond.instanceMethod yX2_empty ∈ x_tbl := x_t2 (i := 226) (by decide +kernel) (by decide +kernel)
theorem wq_561 : Cond.selects RX2 yX2_empty yX2_empty ∈ x_tbl := x_t2 (i := 227) (by decide +kernel) (by decide +kernel)
theorem wq_562 : Cond.code yX2_empty cX2_empty 1 none ∈ x_tbl := x_t2 (i := 228) (by decide +kernel) (by decide +kernel)
theorem wq_563 : Cond.methodLink RL 28 yX7_fleet ∈ x_tbl := x_t2 (i := 229) (by decide +kernel) (by decide +kernel)
theorem wq_564 : Cond.instanceMethod yX7_fleet ∈ x_tbl := x_t2 (i := 230) (by decide +kernel) (by decide +kernel)
theorem wq_565 : Cond.selects RX7 yX7_fleet yX7_fleet ∈ x_tbl := x_t2 (i := 231) (by decide +kernel) (by decide +kernel)
theorem wq_566 : Cond.code yX7_fleet cX7_fleet 3 (some .int) ∈ x_tbl := x_t2 (i := 232) (by decide +kernel) (by decide +kernel)
theorem wq_567 : Cond.methodLink RX7 84 yX7_isClass ∈ x_tbl := x_t2 (i := 233) (by decide +kernel) (by decide +kernel)
theorem wq_568 : Cond.static yX7_isClass ∈ x_tbl := x_t2 (i := 234) (by decide +kernel) (by decide +kernel)
theorem wq_569 : Cond.code yX7_isClass cX7_isClass 1 (some .boolean) ∈ x_tbl := x_t2 (i := 235) (by decide +kernel) (by decide +kernel)
theorem wq_570 : Cond.methodLink RX7 88 yX2_keep ∈ x_tbl := x_t2 (i := 236) (by decide +kernel) (by decide +kernel)
theorem wq_571 : Cond.instanceMethod yX2_keep ∈ x_tbl := x_t2 (i := 237) (by decide +kernel) (by decide +kernel)
theorem wq_572 : Cond.selects RX2 yX2_keep yX2_keep ∈ x_tbl := x_t2 (i := 238) (by decide +kernel) (by decide +kernel)
theorem wq_573 : Cond.code yX2_keep cX2_keep 2 none ∈ x_tbl := x_t2 (i := 239) (by decide +kernel) (by decide +kernel)
theorem wq_574 : Cond.methodLink RX2 24 yX0_saveTo ∈ x_tbl := x_t3 (i := 0) (by decide +kernel) (by decide +kernel)
theorem wq_575 : Cond.instanceMethod yX0_saveTo ∈ x_tbl := x_t3 (i := 1) (by decide +kernel) (by decide +kernel)
theorem wq_576 : Cond.selects RX0 yX0_saveTo yX0_saveTo ∈ x_tbl := x_t3 (i := 2) (by decide +kernel) (by decide +kernel)
theorem wq_577 : Cond.code yX0_saveTo cX0_saveTo 3 none ∈ x_tbl := x_t3 (i := 3) (by decide +kernel) (by decide +kernel)
theorem wq_578 : Cond.methodLink RX2 28 Lib.Math.min.name ∈ x_tbl := x_t3 (i := 4) (by decide +kernel) (by decide +kernel)
theorem wq_579 : Cond.methodLink RX7 91 yX0_addFleet ∈ x_tbl := x_t3 (i := 5) (by decide +kernel) (by decide +kernel)
theorem wq_580 : Cond.methodLink RL 33 yX7_leave ∈ x_tbl := x_t3 (i := 6) (by decide +kernel) (by decide +kernel)
theorem wq_581 : Cond.instanceMethod yX7_leave ∈ x_tbl := x_t3 (i := 7) (by decide +kernel) (by decide +kernel)
theorem wq_582 : Cond.selects RX7 yX7_leave yX7_leave ∈ x_tbl := x_t3 (i := 8) (by decide +kernel) (by decide +kernel)
theorem wq_583 : Cond.code yX7_leave cX7_leave 2 (some .boolean) ∈ x_tbl := x_t3 (i := 9) (by decide +kernel) (by decide +kernel)
theorem wq_584 : Cond.methodLink RX7 95 yX0_hasFleet ∈ x_tbl := x_t3 (i := 10) (by decide +kernel) (by decide +kernel)
theorem wq_585 : Cond.methodLink RX7 98 yX0_dropFleet ∈ x_tbl := x_t3 (i := 11) (by decide +kernel) (by decide +kernel)
theorem wq_586 : Cond.instanceMethod yX0_dropFleet ∈ x_tbl := x_t3 (i := 12) (by decide +kernel) (by decide +kernel)
theorem wq_587 : Cond.selects RX0 yX0_dropFleet yX0_dropFleet ∈ x_tbl := x_t3 (i := 13) (by decide +kernel) (by decide +kernel)
theorem wq_588 : Cond.code yX0_dropFleet cX0_dropFleet 2 none ∈ x_tbl := x_t3 (i := 14) (by decide +kernel) (by decide +kernel)
theorem wq_589 : Cond.methodLink RX0 54 yX0_dropClaimsOf ∈ x_tbl := x_t3 (i := 15) (by decide +kernel) (by decide +kernel)
theorem wq_591 : Cond.instanceMethod yX0_dropClaimsOf ∈ x_tbl := x_t3 (i := 17) (by decide +kernel) (by decide +kernel)
theorem wq_592 : Cond.code yX0_dropClaimsOf cX0_dropClaimsOf 6 (some .int) ∈ x_tbl := x_t3 (i := 18) (by decide +kernel) (by decide +kernel)
theorem wq_593 : Cond.methodLink RX0 69 yX0_fleetOf ∈ x_tbl := x_t3 (i := 19) (by decide +kernel) (by decide +kernel)
theorem wq_594 : Cond.instanceMethod yX0_fleetOf ∈ x_tbl := x_t3 (i := 20) (by decide +kernel) (by decide +kernel)
theorem wq_595 : Cond.selects RX0 yX0_fleetOf yX0_fleetOf ∈ x_tbl := x_t3 (i := 21) (by decide +kernel) (by decide +kernel)
theorem wq_596 : Cond.code yX0_fleetOf cX0_fleetOf 2 (some .int) ∈ x_tbl := x_t3 (i := 22) (by decide +kernel) (by decide +kernel)
theorem wq_597 : Cond.methodLink RX0 97 yX0_yearOf ∈ x_tbl := x_t3 (i := 23) (by decide +kernel) (by decide +kernel)
theorem wq_598 : Cond.instanceMethod yX0_yearOf ∈ x_tbl := x_t3 (i := 24) (by decide +kernel) (by decide +kernel)
theorem wq_599 : Cond.selects RX0 yX0_yearOf yX0_yearOf ∈ x_tbl := x_t3 (i := 25) (by decide +kernel) (by decide +kernel)
theorem wq_600 : Cond.code yX0_yearOf cX0_yearOf 2 (some .int) ∈ x_tbl := x_t3 (i := 26) (by decide +kernel) (by decide +kernel)
theorem wq_601 : Cond.methodLink RX0 104 yX0_amountOf ∈ x_tbl := x_t3 (i := 27) (by decide +kernel) (by decide +kernel)
theorem wq_602 : Cond.instanceMethod yX0_amountOf ∈ x_tbl := x_t3 (i := 28) (by decide +kernel) (by decide +kernel)
theorem wq_603 : Cond.selects RX0 yX0_amountOf yX0_amountOf ∈ x_tbl := x_t3 (i := 29) (by decide +kernel) (by decide +kernel)
theorem wq_604 : Cond.code yX0_amountOf cX0_amountOf 2 (some .int) ∈ x_tbl := x_t3 (i := 30) (by decide +kernel) (by decide +kernel)
theorem wq_605 : Cond.methodLink RX0 58 yX0_closeGapAt ∈ x_tbl := x_t3 (i := 31) (by decide +kernel) (by decide +kernel)
theorem wq_607 : Cond.instanceMethod yX0_closeGapAt ∈ x_tbl := x_t3 (i := 33) (by decide +kernel) (by decide +kernel)
theorem wq_608 : Cond.code yX0_closeGapAt cX0_closeGapAt 3 none ∈ x_tbl := x_t3 (i := 34) (by decide +kernel) (by decide +kernel)
theorem wq_609 : Cond.methodLink RX0 62 yX0_classOf ∈ x_tbl := x_t3 (i := 35) (by decide +kernel) (by decide +kernel)
theorem wq_610 : Cond.instanceMethod yX0_classOf ∈ x_tbl := x_t3 (i := 36) (by decide +kernel) (by decide +kernel)
theorem wq_611 : Cond.selects RX0 yX0_classOf yX0_classOf ∈ x_tbl := x_t3 (i := 37) (by decide +kernel) (by decide +kernel)
theorem wq_612 : Cond.code yX0_classOf cX0_classOf 2 (some .int) ∈ x_tbl := x_t3 (i := 38) (by decide +kernel) (by decide +kernel)
theorem wq_613 : Cond.methodLink RX0 66 yX0_yearsOf ∈ x_tbl := x_t3 (i := 39) (by decide +kernel) (by decide +kernel)
theorem wq_614 : Cond.instanceMethod yX0_yearsOf ∈ x_tbl := x_t3 (i := 40) (by decide +kernel) (by decide +kernel)
theorem wq_615 : Cond.selects RX0 yX0_yearsOf yX0_yearsOf ∈ x_tbl := x_t3 (i := 41) (by decide +kernel) (by decide +kernel)
theorem wq_616 : Cond.code yX0_yearsOf cX0_yearsOf 2 (some .int) ∈ x_tbl := x_t3 (i := 42) (by decide +kernel) (by decide +kernel)
theorem wq_617 : Cond.methodLink RX0 72 yX0_putFleet ∈ x_tbl := x_t3 (i := 43) (by decide +kernel) (by decide +kernel)
theorem wq_619 : Cond.instanceMethod yX0_putFleet ∈ x_tbl := x_t3 (i := 45) (by decide +kernel) (by decide +kernel)
theorem wq_620 : Cond.code yX0_putFleet cX0_putFleet 3 none ∈ x_tbl := x_t3 (i := 46) (by decide +kernel) (by decide +kernel)
theorem wq_621 : Cond.methodLink RL 38 yX7_move ∈ x_tbl := x_t3 (i := 47) (by decide +kernel) (by decide +kernel)
theorem wq_622 : Cond.instanceMethod yX7_move ∈ x_tbl := x_t3 (i := 48) (by decide +kernel) (by decide +kernel)
theorem wq_623 : Cond.selects RX7 yX7_move yX7_move ∈ x_tbl := x_t3 (i := 49) (by decide +kernel) (by decide +kernel)
theorem wq_624 : Cond.code yX7_move cX7_move 4 (some .int) ∈ x_tbl := x_t3 (i := 50) (by decide +kernel) (by decide +kernel)
theorem wq_625 : Cond.methodLink RX7 101 yX0_classOf ∈ x_tbl := x_t3 (i := 51) (by decide +kernel) (by decide +kernel)
theorem wq_626 : Cond.methodLink RX7 105 yX0_putClass ∈ x_tbl := x_t3 (i := 52) (by decide +kernel) (by decide +kernel)
theorem wq_627 : Cond.methodLink RL 42 yX7_insure ∈ x_tbl := x_t3 (i := 53) (by decide +kernel) (by decide +kernel)
theorem wq_628 : Cond.instanceMethod yX7_insure ∈ x_tbl := x_t3 (i := 54) (by decide +kernel) (by decide +kernel)
theorem wq_629 : Cond.selects RX7 yX7_insure yX7_insure ∈ x_tbl := x_t3 (i := 55) (by decide +kernel) (by decide +kernel)
theorem wq_630 : Cond.code yX7_insure cX7_insure 3 (some .int) ∈ x_tbl := x_t3 (i := 56) (by decide +kernel) (by decide +kernel)
theorem wq_631 : Cond.methodLink RX7 109 yX7_isYear ∈ x_tbl := x_t3 (i := 57) (by decide +kernel) (by decide +kernel)
theorem wq_632 : Cond.methodLink RX7 112 yX0_isInsured ∈ x_tbl := x_t3 (i := 58) (by decide +kernel) (by decide +kernel)
theorem wq_633 : Cond.methodLink RX7 116 yX0_yearsOf ∈ x_tbl := x_t3 (i := 59) (by decide +kernel) (by decide +kernel)
theorem wq_634 : Cond.methodLink RX7 119 yX0_putYears ∈ x_tbl := x_t3 (i := 60) (by decide +kernel) (by decide +kernel)
theorem wq_635 : Cond.methodLink RX7 122 yJ6_bitCount_0f7a4 ∈ x_tbl := x_t3 (i := 61) (by decide +kernel) (by decide +kernel)
theorem wq_636 : Cond.static yJ6_bitCount_0f7a4 ∈ x_tbl := x_t3 (i := 62) (by decide +kernel) (by decide +kernel)
theorem wq_637 : Cond.code yJ6_bitCount_0f7a4 cJ6_bitCount_0f7a4 1 (some .int) ∈ x_tbl := x_t3 (i := 63) (by decide +kernel) (by decide +kernel)
theorem wq_638 : Cond.constant RJ6 265 1431655765 ∈ x_tbl := x_t3 (i := 64) (by decide +kernel) (by decide +kernel)
theorem wq_639 : Cond.constant RJ6 266 858993459 ∈ x_tbl := x_t3 (i := 65) (by decide +kernel) (by decide +kernel)
theorem wq_640 : Cond.constant RJ6 267 252645135 ∈ x_tbl := x_t3 (i := 66) (by decide +kernel) (by decide +kernel)
theorem wq_641 : Cond.methodLink RL 46 yX7_lapse ∈ x_tbl := x_t3 (i := 67) (by decide +kernel) (by decide +kernel)
theorem wq_642 : Cond.instanceMethod yX7_lapse ∈ x_tbl := x_t3 (i := 68) (by decide +kernel) (by decide +kernel)
theorem wq_643 : Cond.selects RX7 yX7_lapse yX7_lapse ∈ x_tbl := x_t3 (i := 69) (by decide +kernel) (by decide +kernel)
theorem wq_644 : Cond.code yX7_lapse cX7_lapse 3 (some .int) ∈ x_tbl := x_t3 (i := 70) (by decide +kernel) (by decide +kernel)
theorem wq_645 : Cond.methodLink RX7 127 yX0_endYears ∈ x_tbl := x_t3 (i := 71) (by decide +kernel) (by decide +kernel)
theorem wq_646 : Cond.instanceMethod yX0_endYears ∈ x_tbl := x_t3 (i := 72) (by decide +kernel) (by decide +kernel)
theorem wq_647 : Cond.selects RX0 yX0_endYears yX0_endYears ∈ x_tbl := x_t3 (i := 73) (by decide +kernel) (by decide +kernel)
theorem wq_648 : Cond.code yX0_endYears cX0_endYears 3 (some .int) ∈ x_tbl := x_t3 (i := 74) (by decide +kernel) (by decide +kernel)
theorem wq_649 : Cond.methodLink RL 50 yX7_forget ∈ x_tbl := x_t3 (i := 75) (by decide +kernel) (by decide +kernel)
theorem wq_650 : Cond.instanceMethod yX7_forget ∈ x_tbl := x_t3 (i := 76) (by decide +kernel) (by decide +kernel)
theorem wq_651 : Cond.selects RX7 yX7_forget yX7_forget ∈ x_tbl := x_t3 (i := 77) (by decide +kernel) (by decide +kernel)
theorem wq_652 : Cond.code yX7_forget cX7_forget 3 (some .int) ∈ x_tbl := x_t3 (i := 78) (by decide +kernel) (by decide +kernel)
theorem wq_653 : Cond.methodLink RX7 130 yX0_countInsured ∈ x_tbl := x_t3 (i := 79) (by decide +kernel) (by decide +kernel)
theorem wq_654 : Cond.instanceMethod yX0_countInsured ∈ x_tbl := x_t3 (i := 80) (by decide +kernel) (by decide +kernel)
theorem wq_655 : Cond.selects RX0 yX0_countInsured yX0_countInsured ∈ x_tbl := x_t3 (i := 81) (by decide +kernel) (by decide +kernel)
theorem wq_656 : Cond.code yX0_countInsured cX0_countInsured 4 (some .int) ∈ x_tbl := x_t3 (i := 82) (by decide +kernel) (by decide +kernel)
theorem wq_657 : Cond.methodLink RX7 133 yX0_endYearsOfAll ∈ x_tbl := x_t3 (i := 83) (by decide +kernel) (by decide +kernel)
theorem wq_658 : Cond.instanceMethod yX0_endYearsOfAll ∈ x_tbl := x_t3 (i := 84) (by decide +kernel) (by decide +kernel)
theorem wq_659 : Cond.selects RX0 yX0_endYearsOfAll yX0_endYearsOfAll ∈ x_tbl := x_t3 (i := 85) (by decide +kernel) (by decide +kernel)
theorem wq_660 : Cond.code yX0_endYearsOfAll cX0_endYearsOfAll 3 none ∈ x_tbl := x_t3 (i := 86) (by decide +kernel) (by decide +kernel)
theorem wq_661 : Cond.methodLink RX0 75 yX0_endYears ∈ x_tbl := x_t3 (i := 87) (by decide +kernel) (by decide +kernel)
theorem wq_662 : Cond.methodLink RL 54 yX7_claim ∈ x_tbl := x_t3 (i := 88) (by decide +kernel) (by decide +kernel)
theorem wq_663 : Cond.instanceMethod yX7_claim ∈ x_tbl := x_t3 (i := 89) (by decide +kernel) (by decide +kernel)
theorem wq_664 : Cond.selects RX7 yX7_claim yX7_claim ∈ x_tbl := x_t3 (i := 90) (by decide +kernel) (by decide +kernel)
theorem wq_665 : Cond.code yX7_claim cX7_claim 4 (some .int) ∈ x_tbl := x_t3 (i := 91) (by decide +kernel) (by decide +kernel)
theorem wq_666 : Cond.methodLink RX7 136 yX7_isAmount ∈ x_tbl := x_t3 (i := 92) (by decide +kernel) (by decide +kernel)
theorem wq_667 : Cond.static yX7_isAmount ∈ x_tbl := x_t3 (i := 93) (by decide +kernel) (by decide +kernel)
theorem wq_668 : Cond.code yX7_isAmount cX7_isAmount 1 (some .boolean) ∈ x_tbl := x_t3 (i := 94) (by decide +kernel) (by decide +kernel)
theorem wq_669 : Cond.methodLink RX7 139 yX0_canClaim ∈ x_tbl := x_t3 (i := 95) (by decide +kernel) (by decide +kernel)
theorem wq_670 : Cond.methodLink RX7 142 yX0_addClaim ∈ x_tbl := x_t3 (i := 96) (by decide +kernel) (by decide +kernel)
theorem wq_671 : Cond.methodLink RL 59 yX7_waive ∈ x_tbl := x_t3 (i := 97) (by decide +kernel) (by decide +kernel)
theorem wq_672 : Cond.instanceMethod yX7_waive ∈ x_tbl := x_t3 (i := 98) (by decide +kernel) (by decide +kernel)
theorem wq_673 : Cond.selects RX7 yX7_waive yX7_waive ∈ x_tbl := x_t3 (i := 99) (by decide +kernel) (by decide +kernel)
theorem wq_674 : Cond.code yX7_waive cX7_waive 2 (some .boolean) ∈ x_tbl := x_t3 (i := 100) (by decide +kernel) (by decide +kernel)
theorem wq_675 : Cond.methodLink RX7 146 yX0_hasClaim ∈ x_tbl := x_t3 (i := 101) (by decide +kernel) (by decide +kernel)
theorem wq_676 : Cond.methodLink RX7 149 yX0_dropClaim ∈ x_tbl := x_t3 (i := 102) (by decide +kernel) (by decide +kernel)
theorem wq_677 : Cond.instanceMethod yX0_dropClaim ∈ x_tbl := x_t3 (i := 103) (by decide +kernel) (by decide +kernel)
theorem wq_678 : Cond.selects RX0 yX0_dropClaim yX0_dropClaim ∈ x_tbl := x_t3 (i := 104) (by decide +kernel) (by decide +kernel)
theorem wq_679 : Cond.code yX0_dropClaim cX0_dropClaim 2 none ∈ x_tbl := x_t3 (i := 105) (by decide +kernel) (by decide +kernel)
theorem wq_680 : Cond.methodLink RL 63 yX7_amend ∈ x_tbl := x_t3 (i := 106) (by decide +kernel) (by decide +kernel)
theorem wq_681 : Cond.instanceMethod yX7_amend ∈ x_tbl := x_t3 (i := 107) (by decide +kernel) (by decide +kernel)
theorem wq_682 : Cond.selects RX7 yX7_amend yX7_amend ∈ x_tbl := x_t3 (i := 108) (by decide +kernel) (by decide +kernel)
theorem wq_683 : Cond.code yX7_amend cX7_amend 4 (some .int) ∈ x_tbl := x_t3 (i := 109) (by decide +kernel) (by decide +kernel)
theorem wq_684 : Cond.methodLink RX7 152 yX0_amountOf ∈ x_tbl := x_t3 (i := 110) (by decide +kernel) (by decide +kernel)
theorem wq_685 : Cond.methodLink RX7 155 yX0_putAmount ∈ x_tbl := x_t3 (i := 111) (by decide +kernel) (by decide +kernel)
theorem wq_686 : Cond.instanceMethod yX0_putAmount ∈ x_tbl := x_t3 (i := 112) (by decide +kernel) (by decide +kernel)
theorem wq_687 : Cond.selects RX0 yX0_putAmount yX0_putAmount ∈ x_tbl := x_t3 (i := 113) (by decide +kernel) (by decide +kernel)
theorem wq_688 : Cond.code yX0_putAmount cX0_putAmount 3 none ∈ x_tbl := x_t3 (i := 114) (by decide +kernel) (by decide +kernel)
theorem wq_689 : Cond.methodLink RL 67 yX7_join ∈ x_tbl := x_t3 (i := 115) (by decide +kernel) (by decide +kernel)
theorem wq_690 : Cond.instanceMethod yX7_join ∈ x_tbl := x_t3 (i := 116) (by decide +kernel) (by decide +kernel)
theorem wq_691 : Cond.selects RX7 yX7_join yX7_join ∈ x_tbl := x_t3 (i := 117) (by decide +kernel) (by decide +kernel)
theorem wq_692 : Cond.code yX7_join cX7_join 3 (some .int) ∈ x_tbl := x_t3 (i := 118) (by decide +kernel) (by decide +kernel)
theorem wq_693 : Cond.methodLink RX7 158 yX0_fleetsIn ∈ x_tbl := x_t3 (i := 119) (by decide +kernel) (by decide +kernel)
theorem wq_694 : Cond.instanceMethod yX0_fleetsIn ∈ x_tbl := x_t3 (i := 120) (by decide +kernel) (by decide +kernel)
theorem wq_695 : Cond.selects RX0 yX0_fleetsIn yX0_fleetsIn ∈ x_tbl := x_t3 (i := 121) (by decide +kernel) (by decide +kernel)
theorem wq_696 : Cond.code yX0_fleetsIn cX0_fleetsIn 4 (some .int) ∈ x_tbl := x_t3 (i := 122) (by decide +kernel) (by decide +kernel)
theorem wq_697 : Cond.methodLink RX7 161 yX0_moveAll ∈ x_tbl := x_t3 (i := 123) (by decide +kernel) (by decide +kernel)
theorem wq_698 : Cond.instanceMethod yX0_moveAll ∈ x_tbl := x_t3 (i := 124) (by decide +kernel) (by decide +kernel)
theorem wq_699 : Cond.selects RX0 yX0_moveAll yX0_moveAll ∈ x_tbl := x_t3 (i := 125) (by decide +kernel) (by decide +kernel)
theorem wq_700 : Cond.code yX0_moveAll cX0_moveAll 5 (some .int) ∈ x_tbl := x_t3 (i := 126) (by decide +kernel) (by decide +kernel)
theorem wq_701 : Cond.methodLink RL 71 yX7_swap ∈ x_tbl := x_t3 (i := 127) (by decide +kernel) (by decide +kernel)
theorem wq_702 : Cond.instanceMethod yX7_swap ∈ x_tbl := x_t3 (i := 128) (by decide +kernel) (by decide +kernel)
theorem wq_703 : Cond.selects RX7 yX7_swap yX7_swap ∈ x_tbl := x_t3 (i := 129) (by decide +kernel) (by decide +kernel)
theorem wq_704 : Cond.code yX7_swap cX7_swap 3 (some .boolean) ∈ x_tbl := x_t3 (i := 130) (by decide +kernel) (by decide +kernel)
theorem wq_705 : Cond.methodLink RX7 164 yX0_exchange ∈ x_tbl := x_t3 (i := 131) (by decide +kernel) (by decide +kernel)
theorem wq_706 : Cond.instanceMethod yX0_exchange ∈ x_tbl := x_t3 (i := 132) (by decide +kernel) (by decide +kernel)
theorem wq_707 : Cond.selects RX0 yX0_exchange yX0_exchange ∈ x_tbl := x_t3 (i := 133) (by decide +kernel) (by decide +kernel)
theorem wq_708 : Cond.code yX0_exchange cX0_exchange 6 none ∈ x_tbl := x_t3 (i := 134) (by decide +kernel) (by decide +kernel)
theorem wq_709 : Cond.methodLink RL 76 yX7_scale ∈ x_tbl := x_t3 (i := 135) (by decide +kernel) (by decide +kernel)
theorem wq_710 : Cond.instanceMethod yX7_scale ∈ x_tbl := x_t3 (i := 136) (by decide +kernel) (by decide +kernel)
theorem wq_711 : Cond.selects RX7 yX7_scale yX7_scale ∈ x_tbl := x_t3 (i := 137) (by decide +kernel) (by decide +kernel)
theorem wq_712 : Cond.code yX7_scale cX7_scale 4 (some .int) ∈ x_tbl := x_t3 (i := 138) (by decide +kernel) (by decide +kernel)
theorem wq_713 : Cond.methodLink RX7 167 yX0_scaleAmounts ∈ x_tbl := x_t3 (i := 139) (by decide +kernel) (by decide +kernel)
theorem wq_714 : Cond.instanceMethod yX0_scaleAmounts ∈ x_tbl := x_t3 (i := 140) (by decide +kernel) (by decide +kernel)
theorem wq_715 : Cond.selects RX0 yX0_scaleAmounts yX0_scaleAmounts ∈ x_tbl := x_t3 (i := 141) (by decide +kernel) (by decide +kernel)
theorem wq_716 : Cond.code yX0_scaleAmounts cX0_scaleAmounts 6 (some .int) ∈ x_tbl := x_t3 (i := 142) (by decide +kernel) (by decide +kernel)
theorem wq_717 : Cond.methodLink RX0 92 Lib.Math.min.name ∈ x_tbl := x_t3 (i := 143) (by decide +kernel) (by decide +kernel)
theorem wq_718 : Cond.methodLink RX0 111 Lib.Math.max.name ∈ x_tbl := x_t3 (i := 144) (by decide +kernel) (by decide +kernel)
theorem wq_719 : Cond.static Lib.Math.max.name ∈ x_tbl := x_t3 (i := 145) (by decide +kernel) (by decide +kernel)
theorem wq_720 : Cond.code Lib.Math.max.name Lib.Math.max.code 2 (some .int) ∈ x_tbl := x_t3 (i := 146) (by decide +kernel) (by decide +kernel)
theorem wq_721 : Cond.methodLink RX0 114 yX0_putAmount ∈ x_tbl := x_t3 (i := 147) (by decide +kernel) (by decide +kernel)
theorem wq_722 : Cond.methodLink RL 80 yX7_split ∈ x_tbl := x_t3 (i := 148) (by decide +kernel) (by decide +kernel)
theorem wq_723 : Cond.instanceMethod yX7_split ∈ x_tbl := x_t3 (i := 149) (by decide +kernel) (by decide +kernel)
theorem wq_724 : Cond.selects RX7 yX7_split yX7_split ∈ x_tbl := x_t3 (i := 150) (by decide +kernel) (by decide +kernel)
theorem wq_725 : Cond.code yX7_split cX7_split 4 (some .int) ∈ x_tbl := x_t3 (i := 151) (by decide +kernel) (by decide +kernel)
theorem wq_726 : Cond.methodLink RX7 170 yX0_splitOff ∈ x_tbl := x_t3 (i := 152) (by decide +kernel) (by decide +kernel)
theorem wq_727 : Cond.instanceMethod yX0_splitOff ∈ x_tbl := x_t3 (i := 153) (by decide +kernel) (by decide +kernel)
theorem wq_728 : Cond.selects RX0 yX0_splitOff yX0_splitOff ∈ x_tbl := x_t3 (i := 154) (by decide +kernel) (by decide +kernel)
theorem wq_729 : Cond.code yX0_splitOff cX0_splitOff 4 (some .int) ∈ x_tbl := x_t3 (i := 155) (by decide +kernel) (by decide +kernel)
theorem wq_730 : Cond.methodLink RX0 78 yX0_addFleet ∈ x_tbl := x_t3 (i := 156) (by decide +kernel) (by decide +kernel)
theorem wq_731 : Cond.methodLink RX0 81 yX0_handOver ∈ x_tbl := x_t3 (i := 157) (by decide +kernel) (by decide +kernel)
theorem wq_733 : Cond.instanceMethod yX0_handOver ∈ x_tbl := x_t3 (i := 159) (by decide +kernel) (by decide +kernel)
theorem wq_734 : Cond.code yX0_handOver cX0_handOver 5 none ∈ x_tbl := x_t3 (i := 160) (by decide +kernel) (by decide +kernel)
theorem wq_735 : Cond.methodLink RL 84 yX7_merge ∈ x_tbl := x_t3 (i := 161) (by decide +kernel) (by decide +kernel)
theorem wq_736 : Cond.instanceMethod yX7_merge ∈ x_tbl := x_t3 (i := 162) (by decide +kernel) (by decide +kernel)
theorem wq_737 : Cond.selects RX7 yX7_merge yX7_merge ∈ x_tbl := x_t3 (i := 163) (by decide +kernel) (by decide +kernel)
theorem wq_738 : Cond.code yX7_merge cX7_merge 3 (some .int) ∈ x_tbl := x_t3 (i := 164) (by decide +kernel) (by decide +kernel)
theorem wq_739 : Cond.methodLink RX7 173 yX0_mergeInto ∈ x_tbl := x_t3 (i := 165) (by decide +kernel) (by decide +kernel)
theorem wq_740 : Cond.instanceMethod yX0_mergeInto ∈ x_tbl := x_t3 (i := 166) (by decide +kernel) (by decide +kernel)
theorem wq_741 : Cond.selects RX0 yX0_mergeInto yX0_mergeInto ∈ x_tbl := x_t3 (i := 167) (by decide +kernel) (by decide +kernel)
theorem wq_742 : Cond.code yX0_mergeInto cX0_mergeInto 3 (some .int) ∈ x_tbl := x_t3 (i := 168) (by decide +kernel) (by decide +kernel)
theorem wq_743 : Cond.methodLink RL 88 yX7_cap ∈ x_tbl := x_t3 (i := 169) (by decide +kernel) (by decide +kernel)
theorem wq_744 : Cond.instanceMethod yX7_cap ∈ x_tbl := x_t3 (i := 170) (by decide +kernel) (by decide +kernel)
theorem wq_745 : Cond.selects RX7 yX7_cap yX7_cap ∈ x_tbl := x_t3 (i := 171) (by decide +kernel) (by decide +kernel)
theorem wq_746 : Cond.code yX7_cap cX7_cap 3 (some .int) ∈ x_tbl := x_t3 (i := 172) (by decide +kernel) (by decide +kernel)
theorem wq_747 : Cond.methodLink RL 92 yX7_steady ∈ x_tbl := x_t3 (i := 173) (by decide +kernel) (by decide +kernel)
theorem wq_748 : Cond.instanceMethod yX7_steady ∈ x_tbl := x_t3 (i := 174) (by decide +kernel) (by decide +kernel)
theorem wq_749 : Cond.selects RX7 yX7_steady yX7_steady ∈ x_tbl := x_t3 (i := 175) (by decide +kernel) (by decide +kernel)
theorem wq_750 : Cond.code yX7_steady cX7_steady 3 (some .int) ∈ x_tbl := x_t3 (i := 176) (by decide +kernel) (by decide +kernel)
theorem wq_751 : Cond.methodLink RL 96 yX7_undo ∈ x_tbl := x_t3 (i := 177) (by decide +kernel) (by decide +kernel)
theorem wq_752 : Cond.instanceMethod yX7_undo ∈ x_tbl := x_t3 (i := 178) (by decide +kernel) (by decide +kernel)
theorem wq_753 : Cond.selects RX7 yX7_undo yX7_undo ∈ x_tbl := x_t3 (i := 179) (by decide +kernel) (by decide +kernel)
theorem wq_754 : Cond.code yX7_undo cX7_undo 1 (some .int) ∈ x_tbl := x_t3 (i := 180) (by decide +kernel) (by decide +kernel)
theorem wq_755 : Cond.methodLink RX7 182 yX2_size ∈ x_tbl := x_t3 (i := 181) (by decide +kernel) (by decide +kernel)
theorem wq_756 : Cond.instanceMethod yX2_size ∈ x_tbl := x_t3 (i := 182) (by decide +kernel) (by decide +kernel)
theorem wq_757 : Cond.selects RX2 yX2_size yX2_size ∈ x_tbl := x_t3 (i := 183) (by decide +kernel) (by decide +kernel)
theorem wq_758 : Cond.code yX2_size cX2_size 1 (some .int) ∈ x_tbl := x_t3 (i := 184) (by decide +kernel) (by decide +kernel)
theorem wq_759 : Cond.methodLink RX7 183 yX2_takeBack ∈ x_tbl := x_t3 (i := 185) (by decide +kernel) (by decide +kernel)
theorem wq_760 : Cond.instanceMethod yX2_takeBack ∈ x_tbl := x_t3 (i := 186) (by decide +kernel) (by decide +kernel)
theorem wq_761 : Cond.selects RX2 yX2_takeBack yX2_takeBack ∈ x_tbl := x_t3 (i := 187) (by decide +kernel) (by decide +kernel)
theorem wq_762 : Cond.code yX2_takeBack cX2_takeBack 2 none ∈ x_tbl := x_t3 (i := 188) (by decide +kernel) (by decide +kernel)
theorem wq_763 : Cond.methodLink RX2 34 yX0_loadFrom ∈ x_tbl := x_t3 (i := 189) (by decide +kernel) (by decide +kernel)
theorem wq_764 : Cond.instanceMethod yX0_loadFrom ∈ x_tbl := x_t3 (i := 190) (by decide +kernel) (by decide +kernel)
theorem wq_765 : Cond.selects RX0 yX0_loadFrom yX0_loadFrom ∈ x_tbl := x_t3 (i := 191) (by decide +kernel) (by decide +kernel)
theorem wq_766 : Cond.code yX0_loadFrom cX0_loadFrom 3 none ∈ x_tbl := x_t3 (i := 192) (by decide +kernel) (by decide +kernel)
theorem wq_767 : Cond.methodLink RL 100 yX7_of ∈ x_tbl := x_t3 (i := 193) (by decide +kernel) (by decide +kernel)
theorem wq_768 : Cond.instanceMethod yX7_of ∈ x_tbl := x_t3 (i := 194) (by decide +kernel) (by decide +kernel)
theorem wq_769 : Cond.selects RX7 yX7_of yX7_of ∈ x_tbl := x_t3 (i := 195) (by decide +kernel) (by decide +kernel)
theorem wq_770 : Cond.code yX7_of cX7_of 3 (some .int) ∈ x_tbl := x_t3 (i := 196) (by decide +kernel) (by decide +kernel)
theorem wq_771 : Cond.methodLink RX7 186 yX1_reckon ∈ x_tbl := x_t3 (i := 197) (by decide +kernel) (by decide +kernel)
theorem wq_772 : Cond.instanceMethod yX1_reckon ∈ x_tbl := x_t3 (i := 198) (by decide +kernel) (by decide +kernel)
theorem wq_773 : Cond.selects RX1 yX1_reckon yX1_reckon ∈ x_tbl := x_t3 (i := 199) (by decide +kernel) (by decide +kernel)
theorem wq_774 : Cond.code yX1_reckon cX1_reckon 3 none ∈ x_tbl := x_t3 (i := 200) (by decide +kernel) (by decide +kernel)
theorem wq_775 : Cond.methodLink RX1 59 Lib.Math.min.name ∈ x_tbl := x_t3 (i := 201) (by decide +kernel) (by decide +kernel)
theorem wq_776 : Cond.methodLink RX1 66 yX1_sumLosses ∈ x_tbl := x_t3 (i := 202) (by decide +kernel) (by decide +kernel)
theorem wq_778 : Cond.instanceMethod yX1_sumLosses ∈ x_tbl := x_t3 (i := 204) (by decide +kernel) (by decide +kernel)
theorem wq_779 : Cond.code yX1_sumLosses cX1_sumLosses 4 none ∈ x_tbl := x_t3 (i := 205) (by decide +kernel) (by decide +kernel)
theorem wq_780 : Cond.methodLink RX1 101 yJ7_fill_53178 ∈ x_tbl := x_t3 (i := 206) (by decide +kernel) (by decide +kernel)
theorem wq_781 : Cond.static yJ7_fill_53178 ∈ x_tbl := x_t3 (i := 207) (by decide +kernel) (by decide +kernel)
theorem wq_782 : Cond.code yJ7_fill_53178 cJ7_fill_53178 4 none ∈ x_tbl := x_t3 (i := 208) (by decide +kernel) (by decide +kernel)
theorem wq_783 : Cond.methodLink RX1 110 yX0_fleetOf ∈ x_tbl := x_t3 (i := 209) (by decide +kernel) (by decide +kernel)
theorem wq_784 : Cond.methodLink RX1 114 yX0_yearOf ∈ x_tbl := x_t3 (i := 210) (by decide +kernel) (by decide +kernel)
theorem wq_785 : Cond.methodLink RX1 117 yX0_countedOf ∈ x_tbl := x_t3 (i := 211) (by decide +kernel) (by decide +kernel)
theorem wq_786 : Cond.instanceMethod yX0_countedOf ∈ x_tbl := x_t3 (i := 212) (by decide +kernel) (by decide +kernel)
theorem wq_787 : Cond.selects RX0 yX0_countedOf yX0_countedOf ∈ x_tbl := x_t3 (i := 213) (by decide +kernel) (by decide +kernel)
theorem wq_788 : Cond.code yX0_countedOf cX0_countedOf 2 (some .int) ∈ x_tbl := x_t3 (i := 214) (by decide +kernel) (by decide +kernel)
theorem wq_789 : Cond.methodLink RX1 70 yX4_clear ∈ x_tbl := x_t3 (i := 215) (by decide +kernel) (by decide +kernel)
theorem wq_790 : Cond.instanceMethod yX4_clear ∈ x_tbl := x_t3 (i := 216) (by decide +kernel) (by decide +kernel)
theorem wq_791 : Cond.selects RX4 yX4_clear yX4_clear ∈ x_tbl := x_t3 (i := 217) (by decide +kernel) (by decide +kernel)
theorem wq_792 : Cond.code yX4_clear cX4_clear 1 none ∈ x_tbl := x_t3 (i := 218) (by decide +kernel) (by decide +kernel)
theorem wq_793 : Cond.methodLink RX1 79 yX1_reckonFleet ∈ x_tbl := x_t3 (i := 219) (by decide +kernel) (by decide +kernel)
theorem wq_795 : Cond.instanceMethod yX1_reckonFleet ∈ x_tbl := x_t3 (i := 221) (by decide +kernel) (by decide +kernel)
theorem wq_796 : Cond.code yX1_reckonFleet cX1_reckonFleet 5 none ∈ x_tbl := x_t3 (i := 222) (by decide +kernel) (by decide +kernel)
theorem wq_797 : Cond.methodLink RX1 120 yX1_hasRow ∈ x_tbl := x_t3 (i := 223) (by decide +kernel) (by decide +kernel)
theorem wq_799 : Cond.instanceMethod yX1_hasRow ∈ x_tbl := x_t3 (i := 225) (by decide +kernel) (by decide +kernel)
theorem wq_800 : Cond.code yX1_hasRow cX1_hasRow 2 (some .boolean) ∈ x_tbl := x_t3 (i := 226) (by decide +kernel) (by decide +kernel)
theorem wq_801 : Cond.methodLink RX1 124 yX0_classOf ∈ x_tbl := x_t3 (i := 227) (by decide +kernel) (by decide +kernel)
theorem wq_802 : Cond.methodLink RX1 127 yX0_yearsOf ∈ x_tbl := x_t3 (i := 228) (by decide +kernel) (by decide +kernel)
theorem wq_803 : Cond.methodLink RX1 130 yJ6_bitCount_0f7a4 ∈ x_tbl := x_t3 (i := 229) (by decide +kernel) (by decide +kernel)
theorem wq_804 : Cond.methodLink RX1 135 yX1_lossOf ∈ x_tbl := x_t3 (i := 230) (by decide +kernel) (by decide +kernel)
theorem wq_805 : Cond.instanceMethod yX1_lossOf ∈ x_tbl := x_t3 (i := 231) (by decide +kernel) (by decide +kernel)
theorem wq_806 : Cond.selects RX1 yX1_lossOf yX1_lossOf ∈ x_tbl := x_t3 (i := 232) (by decide +kernel) (by decide +kernel)
theorem wq_807 : Cond.code yX1_lossOf cX1_lossOf 3 (some .int) ∈ x_tbl := x_t3 (i := 233) (by decide +kernel) (by decide +kernel)
theorem wq_809 : Cond.methodLink RX1 138 yX1_poolOf ∈ x_tbl := x_t3 (i := 235) (by decide +kernel) (by decide +kernel)
theorem wq_810 : Cond.instanceMethod yX1_poolOf ∈ x_tbl := x_t3 (i := 236) (by decide +kernel) (by decide +kernel)
theorem wq_811 : Cond.selects RX1 yX1_poolOf yX1_poolOf ∈ x_tbl := x_t3 (i := 237) (by decide +kernel) (by decide +kernel)
theorem wq_812 : Cond.code yX1_poolOf cX1_poolOf 2 (some (.object "FleetShares$Pool")) ∈ x_tbl := x_t3 (i := 238) (by decide +kernel) (by decide +kernel)
theorem wq_813 : Cond.methodLink RX1 142 yX4_addFleet ∈ x_tbl := x_t3 (i := 239) (by decide +kernel) (by decide +kernel)
theorem wq_814 : Cond.instanceMethod yX4_addFleet ∈ x_tbl := x_t4 (i := 0) (by decide +kernel) (by decide +kernel)
theorem wq_815 : Cond.selects RX4 yX4_addFleet yX4_addFleet ∈ x_tbl := x_t4 (i := 1) (by decide +kernel) (by decide +kernel)
theorem wq_816 : Cond.code yX4_addFleet cX4_addFleet 4 none ∈ x_tbl := x_t4 (i := 2) (by decide +kernel) (by decide +kernel)
theorem wq_817 : Cond.constantLong RX4 50 60 ∈ x_tbl := x_t4 (i := 3) (by decide +kernel) (by decide +kernel)
theorem wq_818 : Cond.methodLink RX1 83 yX4_settle ∈ x_tbl := x_t4 (i := 4) (by decide +kernel) (by decide +kernel)
theorem wq_819 : Cond.instanceMethod yX4_settle ∈ x_tbl := x_t4 (i := 5) (by decide +kernel) (by decide +kernel)
theorem wq_820 : Cond.selects RX4 yX4_settle yX4_settle ∈ x_tbl := x_t4 (i := 6) (by decide +kernel) (by decide +kernel)
theorem wq_821 : Cond.code yX4_settle cX4_settle 1 none ∈ x_tbl := x_t4 (i := 7) (by decide +kernel) (by decide +kernel)
theorem wq_822 : Cond.methodLink RX4 64 yX4_hasBetween ∈ x_tbl := x_t4 (i := 8) (by decide +kernel) (by decide +kernel)
theorem wq_824 : Cond.instanceMethod yX4_hasBetween ∈ x_tbl := x_t4 (i := 10) (by decide +kernel) (by decide +kernel)
theorem wq_825 : Cond.code yX4_hasBetween cX4_hasBetween 1 (some .boolean) ∈ x_tbl := x_t4 (i := 11) (by decide +kernel) (by decide +kernel)
theorem wq_826 : Cond.methodLink RX4 68 Lib.MathLoose.max_long.x ∈ x_tbl := x_t4 (i := 12) (by decide +kernel) (by decide +kernel)
theorem wq_827 : Cond.static Lib.MathLoose.max_long.x ∈ x_tbl := x_t4 (i := 13) (by decide +kernel) (by decide +kernel)
theorem wq_828 : Cond.code Lib.MathLoose.max_long.x Lib.MathLoose.max_long.code 4 (some .long) ∈ x_tbl := x_t4 (i := 14) (by decide +kernel) (by decide +kernel)
theorem wq_829 : Cond.methodLink RX1 86 yX1_reckonShare ∈ x_tbl := x_t4 (i := 15) (by decide +kernel) (by decide +kernel)
theorem wq_831 : Cond.instanceMethod yX1_reckonShare ∈ x_tbl := x_t4 (i := 17) (by decide +kernel) (by decide +kernel)
theorem wq_832 : Cond.code yX1_reckonShare cX1_reckonShare 3 none ∈ x_tbl := x_t4 (i := 18) (by decide +kernel) (by decide +kernel)
theorem wq_833 : Cond.methodLink RX1 146 yX4_shareBySpan ∈ x_tbl := x_t4 (i := 19) (by decide +kernel) (by decide +kernel)
theorem wq_834 : Cond.instanceMethod yX4_shareBySpan ∈ x_tbl := x_t4 (i := 20) (by decide +kernel) (by decide +kernel)
theorem wq_835 : Cond.selects RX4 yX4_shareBySpan yX4_shareBySpan ∈ x_tbl := x_t4 (i := 21) (by decide +kernel) (by decide +kernel)
theorem wq_836 : Cond.code yX4_shareBySpan cX4_shareBySpan 6 (some .int) ∈ x_tbl := x_t4 (i := 22) (by decide +kernel) (by decide +kernel)
theorem wq_837 : Cond.constantLong RX4 81 1000 ∈ x_tbl := x_t4 (i := 23) (by decide +kernel) (by decide +kernel)
theorem wq_838 : Cond.methodLink RX1 149 yX4_addShare ∈ x_tbl := x_t4 (i := 24) (by decide +kernel) (by decide +kernel)
theorem wq_839 : Cond.instanceMethod yX4_addShare ∈ x_tbl := x_t4 (i := 25) (by decide +kernel) (by decide +kernel)
theorem wq_840 : Cond.selects RX4 yX4_addShare yX4_addShare ∈ x_tbl := x_t4 (i := 26) (by decide +kernel) (by decide +kernel)
theorem wq_841 : Cond.code yX4_addShare cX4_addShare 4 none ∈ x_tbl := x_t4 (i := 27) (by decide +kernel) (by decide +kernel)
theorem wq_842 : Cond.methodLink RX1 90 yX1_putWhole ∈ x_tbl := x_t4 (i := 28) (by decide +kernel) (by decide +kernel)
theorem wq_843 : Cond.instanceMethod yX1_putWhole ∈ x_tbl := x_t4 (i := 29) (by decide +kernel) (by decide +kernel)
theorem wq_844 : Cond.selects RX1 yX1_putWhole yX1_putWhole ∈ x_tbl := x_t4 (i := 30) (by decide +kernel) (by decide +kernel)
theorem wq_845 : Cond.code yX1_putWhole cX1_putWhole 2 none ∈ x_tbl := x_t4 (i := 31) (by decide +kernel) (by decide +kernel)
theorem wq_846 : Cond.methodLink RX1 155 yX5_put ∈ x_tbl := x_t4 (i := 32) (by decide +kernel) (by decide +kernel)
theorem wq_847 : Cond.instanceMethod yX5_put ∈ x_tbl := x_t4 (i := 33) (by decide +kernel) (by decide +kernel)
theorem wq_848 : Cond.selects RX5 yX5_put yX5_put ∈ x_tbl := x_t4 (i := 34) (by decide +kernel) (by decide +kernel)
theorem wq_849 : Cond.code yX5_put cX5_put 5 none ∈ x_tbl := x_t4 (i := 35) (by decide +kernel) (by decide +kernel)
theorem wq_850 : Cond.methodLink RX1 97 yX4_reckonBase ∈ x_tbl := x_t4 (i := 36) (by decide +kernel) (by decide +kernel)
theorem wq_851 : Cond.instanceMethod yX4_reckonBase ∈ x_tbl := x_t4 (i := 37) (by decide +kernel) (by decide +kernel)
theorem wq_852 : Cond.selects RX4 yX4_reckonBase yX4_reckonBase ∈ x_tbl := x_t4 (i := 38) (by decide +kernel) (by decide +kernel)
theorem wq_853 : Cond.code yX4_reckonBase cX4_reckonBase 5 none ∈ x_tbl := x_t4 (i := 39) (by decide +kernel) (by decide +kernel)
theorem wq_854 : Cond.methodLink RX4 83 yX4_putCentre ∈ x_tbl := x_t4 (i := 40) (by decide +kernel) (by decide +kernel)
theorem wq_855 : Cond.instanceMethod yX4_putCentre ∈ x_tbl := x_t4 (i := 41) (by decide +kernel) (by decide +kernel)
theorem wq_856 : Cond.selects RX4 yX4_putCentre yX4_putCentre ∈ x_tbl := x_t4 (i := 42) (by decide +kernel) (by decide +kernel)
theorem wq_857 : Cond.code yX4_putCentre cX4_putCentre 2 none ∈ x_tbl := x_t4 (i := 43) (by decide +kernel) (by decide +kernel)
theorem wq_858 : Cond.methodLink RX4 74 yX5_put ∈ x_tbl := x_t4 (i := 44) (by decide +kernel) (by decide +kernel)
theorem wq_859 : Cond.methodLink RX4 87 yX5_isNone ∈ x_tbl := x_t4 (i := 45) (by decide +kernel) (by decide +kernel)
theorem wq_860 : Cond.instanceMethod yX5_isNone ∈ x_tbl := x_t4 (i := 46) (by decide +kernel) (by decide +kernel)
theorem wq_861 : Cond.selects RX5 yX5_isNone yX5_isNone ∈ x_tbl := x_t4 (i := 47) (by decide +kernel) (by decide +kernel)
theorem wq_862 : Cond.code yX5_isNone cX5_isNone 1 (some .boolean) ∈ x_tbl := x_t4 (i := 48) (by decide +kernel) (by decide +kernel)
theorem wq_863 : Cond.methodLink RX4 90 yX4_steadiness ∈ x_tbl := x_t4 (i := 49) (by decide +kernel) (by decide +kernel)
theorem wq_864 : Cond.instanceMethod yX4_steadiness ∈ x_tbl := x_t4 (i := 50) (by decide +kernel) (by decide +kernel)
theorem wq_865 : Cond.selects RX4 yX4_steadiness yX4_steadiness ∈ x_tbl := x_t4 (i := 51) (by decide +kernel) (by decide +kernel)
theorem wq_866 : Cond.code yX4_steadiness cX4_steadiness 3 (some .int) ∈ x_tbl := x_t4 (i := 52) (by decide +kernel) (by decide +kernel)
theorem wq_867 : Cond.methodLink RX7 189 yX1_spanOf ∈ x_tbl := x_t4 (i := 53) (by decide +kernel) (by decide +kernel)
theorem wq_868 : Cond.instanceMethod yX1_spanOf ∈ x_tbl := x_t4 (i := 54) (by decide +kernel) (by decide +kernel)
theorem wq_869 : Cond.selects RX1 yX1_spanOf yX1_spanOf ∈ x_tbl := x_t4 (i := 55) (by decide +kernel) (by decide +kernel)
theorem wq_870 : Cond.code yX1_spanOf cX1_spanOf 2 (some .int) ∈ x_tbl := x_t4 (i := 56) (by decide +kernel) (by decide +kernel)
theorem wq_871 : Cond.methodLink RX7 192 yX1_sumOf ∈ x_tbl := x_t4 (i := 57) (by decide +kernel) (by decide +kernel)
theorem wq_872 : Cond.instanceMethod yX1_sumOf ∈ x_tbl := x_t4 (i := 58) (by decide +kernel) (by decide +kernel)
theorem wq_873 : Cond.selects RX1 yX1_sumOf yX1_sumOf ∈ x_tbl := x_t4 (i := 59) (by decide +kernel) (by decide +kernel)
theorem wq_874 : Cond.code yX1_sumOf cX1_sumOf 2 (some .int) ∈ x_tbl := x_t4 (i := 60) (by decide +kernel) (by decide +kernel)
theorem wq_875 : Cond.methodLink RX7 195 yX1_squaresOf ∈ x_tbl := x_t4 (i := 61) (by decide +kernel) (by decide +kernel)
theorem wq_876 : Cond.instanceMethod yX1_squaresOf ∈ x_tbl := x_t4 (i := 62) (by decide +kernel) (by decide +kernel)
theorem wq_877 : Cond.selects RX1 yX1_squaresOf yX1_squaresOf ∈ x_tbl := x_t4 (i := 63) (by decide +kernel) (by decide +kernel)
theorem wq_878 : Cond.code yX1_squaresOf cX1_squaresOf 2 (some .int) ∈ x_tbl := x_t4 (i := 64) (by decide +kernel) (by decide +kernel)
theorem wq_879 : Cond.methodLink RX7 198 yX0_claimsWith ∈ x_tbl := x_t4 (i := 65) (by decide +kernel) (by decide +kernel)
theorem wq_880 : Cond.instanceMethod yX0_claimsWith ∈ x_tbl := x_t4 (i := 66) (by decide +kernel) (by decide +kernel)
theorem wq_881 : Cond.selects RX0 yX0_claimsWith yX0_claimsWith ∈ x_tbl := x_t4 (i := 67) (by decide +kernel) (by decide +kernel)
theorem wq_882 : Cond.code yX0_claimsWith cX0_claimsWith 4 (some .int) ∈ x_tbl := x_t4 (i := 68) (by decide +kernel) (by decide +kernel)
theorem wq_883 : Cond.methodLink RX7 201 yX0_claimsAboveCap ∈ x_tbl := x_t4 (i := 69) (by decide +kernel) (by decide +kernel)
theorem wq_884 : Cond.instanceMethod yX0_claimsAboveCap ∈ x_tbl := x_t4 (i := 70) (by decide +kernel) (by decide +kernel)
theorem wq_885 : Cond.selects RX0 yX0_claimsAboveCap yX0_claimsAboveCap ∈ x_tbl := x_t4 (i := 71) (by decide +kernel) (by decide +kernel)
theorem wq_886 : Cond.code yX0_claimsAboveCap cX0_claimsAboveCap 4 (some .int) ∈ x_tbl := x_t4 (i := 72) (by decide +kernel) (by decide +kernel)
theorem wq_887 : Cond.methodLink RX7 204 yX1_shareOf ∈ x_tbl := x_t4 (i := 73) (by decide +kernel) (by decide +kernel)
theorem wq_888 : Cond.instanceMethod yX1_shareOf ∈ x_tbl := x_t4 (i := 74) (by decide +kernel) (by decide +kernel)
theorem wq_889 : Cond.selects RX1 yX1_shareOf yX1_shareOf ∈ x_tbl := x_t4 (i := 75) (by decide +kernel) (by decide +kernel)
theorem wq_890 : Cond.code yX1_shareOf cX1_shareOf 2 (some .int) ∈ x_tbl := x_t4 (i := 76) (by decide +kernel) (by decide +kernel)
theorem wq_891 : Cond.methodLink RL 104 yX7_loss ∈ x_tbl := x_t4 (i := 77) (by decide +kernel) (by decide +kernel)
theorem wq_892 : Cond.instanceMethod yX7_loss ∈ x_tbl := x_t4 (i := 78) (by decide +kernel) (by decide +kernel)
theorem wq_893 : Cond.selects RX7 yX7_loss yX7_loss ∈ x_tbl := x_t4 (i := 79) (by decide +kernel) (by decide +kernel)
theorem wq_894 : Cond.code yX7_loss cX7_loss 3 (some .int) ∈ x_tbl := x_t4 (i := 80) (by decide +kernel) (by decide +kernel)
theorem wq_895 : Cond.methodLink RX7 207 yX1_lossOf ∈ x_tbl := x_t4 (i := 81) (by decide +kernel) (by decide +kernel)
theorem wq_896 : Cond.methodLink RL 108 yX7_claimOf ∈ x_tbl := x_t4 (i := 82) (by decide +kernel) (by decide +kernel)
theorem wq_897 : Cond.instanceMethod yX7_claimOf ∈ x_tbl := x_t4 (i := 83) (by decide +kernel) (by decide +kernel)
theorem wq_898 : Cond.selects RX7 yX7_claimOf yX7_claimOf ∈ x_tbl := x_t4 (i := 84) (by decide +kernel) (by decide +kernel)
theorem wq_899 : Cond.code yX7_claimOf cX7_claimOf 3 (some .int) ∈ x_tbl := x_t4 (i := 85) (by decide +kernel) (by decide +kernel)
theorem wq_900 : Cond.methodLink RX7 210 yX0_fleetOf ∈ x_tbl := x_t4 (i := 86) (by decide +kernel) (by decide +kernel)
theorem wq_901 : Cond.methodLink RX7 213 yX0_yearOf ∈ x_tbl := x_t4 (i := 87) (by decide +kernel) (by decide +kernel)
theorem wq_902 : Cond.methodLink RX7 216 yX0_countedOf ∈ x_tbl := x_t4 (i := 88) (by decide +kernel) (by decide +kernel)
theorem wq_903 : Cond.methodLink RL 112 yX7_group ∈ x_tbl := x_t4 (i := 89) (by decide +kernel) (by decide +kernel)
theorem wq_904 : Cond.instanceMethod yX7_group ∈ x_tbl := x_t4 (i := 90) (by decide +kernel) (by decide +kernel)
theorem wq_905 : Cond.selects RX7 yX7_group yX7_group ∈ x_tbl := x_t4 (i := 91) (by decide +kernel) (by decide +kernel)
theorem wq_906 : Cond.code yX7_group cX7_group 4 (some .int) ∈ x_tbl := x_t4 (i := 92) (by decide +kernel) (by decide +kernel)
theorem wq_907 : Cond.methodLink RX7 219 yX1_poolOf ∈ x_tbl := x_t4 (i := 93) (by decide +kernel) (by decide +kernel)
theorem wq_908 : Cond.methodLink RX7 232 yX4_steadiness ∈ x_tbl := x_t4 (i := 94) (by decide +kernel) (by decide +kernel)
theorem wq_909 : Cond.methodLink RL 116 yX7_spread ∈ x_tbl := x_t4 (i := 95) (by decide +kernel) (by decide +kernel)
theorem wq_910 : Cond.instanceMethod yX7_spread ∈ x_tbl := x_t4 (i := 96) (by decide +kernel) (by decide +kernel)
theorem wq_911 : Cond.selects RX7 yX7_spread yX7_spread ∈ x_tbl := x_t4 (i := 97) (by decide +kernel) (by decide +kernel)
theorem wq_912 : Cond.code yX7_spread cX7_spread 4 (some .long) ∈ x_tbl := x_t4 (i := 98) (by decide +kernel) (by decide +kernel)
theorem wq_913 : Cond.methodLink RX7 238 yX7_spreadIn ∈ x_tbl := x_t4 (i := 99) (by decide +kernel) (by decide +kernel)
theorem wq_915 : Cond.instanceMethod yX7_spreadIn ∈ x_tbl := x_t4 (i := 101) (by decide +kernel) (by decide +kernel)
theorem wq_916 : Cond.code yX7_spreadIn cX7_spreadIn 5 (some .long) ∈ x_tbl := x_t4 (i := 102) (by decide +kernel) (by decide +kernel)
theorem wq_917 : Cond.methodLink RX7 338 yX1_putSpread ∈ x_tbl := x_t4 (i := 103) (by decide +kernel) (by decide +kernel)
theorem wq_918 : Cond.instanceMethod yX1_putSpread ∈ x_tbl := x_t4 (i := 104) (by decide +kernel) (by decide +kernel)
theorem wq_919 : Cond.selects RX1 yX1_putSpread yX1_putSpread ∈ x_tbl := x_t4 (i := 105) (by decide +kernel) (by decide +kernel)
theorem wq_920 : Cond.code yX1_putSpread cX1_putSpread 5 none ∈ x_tbl := x_t4 (i := 106) (by decide +kernel) (by decide +kernel)
theorem wq_921 : Cond.methodLink RX1 184 yX4_putWithin ∈ x_tbl := x_t4 (i := 107) (by decide +kernel) (by decide +kernel)
theorem wq_922 : Cond.instanceMethod yX4_putWithin ∈ x_tbl := x_t4 (i := 108) (by decide +kernel) (by decide +kernel)
theorem wq_923 : Cond.selects RX4 yX4_putWithin yX4_putWithin ∈ x_tbl := x_t4 (i := 109) (by decide +kernel) (by decide +kernel)
theorem wq_924 : Cond.code yX4_putWithin cX4_putWithin 2 none ∈ x_tbl := x_t4 (i := 110) (by decide +kernel) (by decide +kernel)
theorem wq_925 : Cond.methodLink RX1 187 yX4_putBetween ∈ x_tbl := x_t4 (i := 111) (by decide +kernel) (by decide +kernel)
theorem wq_926 : Cond.instanceMethod yX4_putBetween ∈ x_tbl := x_t4 (i := 112) (by decide +kernel) (by decide +kernel)
theorem wq_927 : Cond.selects RX4 yX4_putBetween yX4_putBetween ∈ x_tbl := x_t4 (i := 113) (by decide +kernel) (by decide +kernel)
theorem wq_928 : Cond.code yX4_putBetween cX4_putBetween 2 none ∈ x_tbl := x_t4 (i := 114) (by decide +kernel) (by decide +kernel)
theorem wq_929 : Cond.methodLink RX4 78 yX5_putNone ∈ x_tbl := x_t4 (i := 115) (by decide +kernel) (by decide +kernel)
theorem wq_930 : Cond.instanceMethod yX5_putNone ∈ x_tbl := x_t4 (i := 116) (by decide +kernel) (by decide +kernel)
theorem wq_931 : Cond.selects RX5 yX5_putNone yX5_putNone ∈ x_tbl := x_t4 (i := 117) (by decide +kernel) (by decide +kernel)
theorem wq_932 : Cond.code yX5_putNone cX5_putNone 1 none ∈ x_tbl := x_t4 (i := 118) (by decide +kernel) (by decide +kernel)
theorem wq_933 : Cond.methodLink RX1 190 yX4_putCentre ∈ x_tbl := x_t4 (i := 119) (by decide +kernel) (by decide +kernel)
theorem wq_934 : Cond.methodLink RX1 193 yX4_putOff ∈ x_tbl := x_t4 (i := 120) (by decide +kernel) (by decide +kernel)
theorem wq_935 : Cond.instanceMethod yX4_putOff ∈ x_tbl := x_t4 (i := 121) (by decide +kernel) (by decide +kernel)
theorem wq_936 : Cond.selects RX4 yX4_putOff yX4_putOff ∈ x_tbl := x_t4 (i := 122) (by decide +kernel) (by decide +kernel)
theorem wq_937 : Cond.code yX4_putOff cX4_putOff 2 none ∈ x_tbl := x_t4 (i := 123) (by decide +kernel) (by decide +kernel)
theorem wq_938 : Cond.methodLink RX1 159 yX5_putNone ∈ x_tbl := x_t4 (i := 124) (by decide +kernel) (by decide +kernel)
theorem wq_939 : Cond.methodLink RX7 248 yX5_part ∈ x_tbl := x_t4 (i := 125) (by decide +kernel) (by decide +kernel)
theorem wq_940 : Cond.instanceMethod yX5_part ∈ x_tbl := x_t4 (i := 126) (by decide +kernel) (by decide +kernel)
theorem wq_941 : Cond.selects RX5 yX5_part yX5_part ∈ x_tbl := x_t4 (i := 127) (by decide +kernel) (by decide +kernel)
theorem wq_942 : Cond.code yX5_part cX5_part 6 (some .long) ∈ x_tbl := x_t4 (i := 128) (by decide +kernel) (by decide +kernel)
theorem wq_943 : Cond.methodLink RX5 18 yX5_isNone ∈ x_tbl := x_t4 (i := 129) (by decide +kernel) (by decide +kernel)
theorem wq_944 : Cond.constantLong RX5 22 (-1000000000) ∈ x_tbl := x_t4 (i := 130) (by decide +kernel) (by decide +kernel)
theorem wq_945 : Cond.methodLink RX5 24 yX5_commonDivisor ∈ x_tbl := x_t4 (i := 131) (by decide +kernel) (by decide +kernel)
theorem wq_947 : Cond.instanceMethod yX5_commonDivisor ∈ x_tbl := x_t4 (i := 133) (by decide +kernel) (by decide +kernel)
theorem wq_948 : Cond.code yX5_commonDivisor cX5_commonDivisor 8 (some .long) ∈ x_tbl := x_t4 (i := 134) (by decide +kernel) (by decide +kernel)
theorem wq_949 : Cond.methodLink RX5 28 Lib.MathLoose.abs_long.x ∈ x_tbl := x_t4 (i := 135) (by decide +kernel) (by decide +kernel)
theorem wq_950 : Cond.static Lib.MathLoose.abs_long.x ∈ x_tbl := x_t4 (i := 136) (by decide +kernel) (by decide +kernel)
theorem wq_951 : Cond.code Lib.MathLoose.abs_long.x Lib.MathLoose.abs_long.code 2 (some .long) ∈ x_tbl := x_t4 (i := 137) (by decide +kernel) (by decide +kernel)
theorem wq_952 : Cond.constantLong RX7 242 (-1000000000) ∈ x_tbl := x_t4 (i := 138) (by decide +kernel) (by decide +kernel)
theorem wq_953 : Cond.methodLink RL 121 yX7_whole ∈ x_tbl := x_t4 (i := 139) (by decide +kernel) (by decide +kernel)
theorem wq_954 : Cond.instanceMethod yX7_whole ∈ x_tbl := x_t4 (i := 140) (by decide +kernel) (by decide +kernel)
theorem wq_955 : Cond.selects RX7 yX7_whole yX7_whole ∈ x_tbl := x_t4 (i := 141) (by decide +kernel) (by decide +kernel)
theorem wq_956 : Cond.code yX7_whole cX7_whole 2 (some .long) ∈ x_tbl := x_t4 (i := 142) (by decide +kernel) (by decide +kernel)
theorem wq_957 : Cond.methodLink RX7 244 yX1_putWhole ∈ x_tbl := x_t4 (i := 143) (by decide +kernel) (by decide +kernel)
theorem wq_958 : Cond.methodLink RL 126 yX7_rate ∈ x_tbl := x_t4 (i := 144) (by decide +kernel) (by decide +kernel)
theorem wq_959 : Cond.instanceMethod yX7_rate ∈ x_tbl := x_t4 (i := 145) (by decide +kernel) (by decide +kernel)
theorem wq_960 : Cond.selects RX7 yX7_rate yX7_rate ∈ x_tbl := x_t4 (i := 146) (by decide +kernel) (by decide +kernel)
theorem wq_961 : Cond.code yX7_rate cX7_rate 3 (some .long) ∈ x_tbl := x_t4 (i := 147) (by decide +kernel) (by decide +kernel)
theorem wq_962 : Cond.methodLink RX7 252 yX1_putRate ∈ x_tbl := x_t4 (i := 148) (by decide +kernel) (by decide +kernel)
theorem wq_963 : Cond.instanceMethod yX1_putRate ∈ x_tbl := x_t4 (i := 149) (by decide +kernel) (by decide +kernel)
theorem wq_964 : Cond.selects RX1 yX1_putRate yX1_putRate ∈ x_tbl := x_t4 (i := 150) (by decide +kernel) (by decide +kernel)
theorem wq_965 : Cond.code yX1_putRate cX1_putRate 8 none ∈ x_tbl := x_t4 (i := 151) (by decide +kernel) (by decide +kernel)
theorem wq_966 : Cond.methodLink RX1 162 yX1_isRated ∈ x_tbl := x_t4 (i := 152) (by decide +kernel) (by decide +kernel)
theorem wq_967 : Cond.instanceMethod yX1_isRated ∈ x_tbl := x_t4 (i := 153) (by decide +kernel) (by decide +kernel)
theorem wq_968 : Cond.selects RX1 yX1_isRated yX1_isRated ∈ x_tbl := x_t4 (i := 154) (by decide +kernel) (by decide +kernel)
theorem wq_969 : Cond.code yX1_isRated cX1_isRated 2 (some .boolean) ∈ x_tbl := x_t4 (i := 155) (by decide +kernel) (by decide +kernel)
theorem wq_970 : Cond.constantLong RX1 172 1000 ∈ x_tbl := x_t4 (i := 156) (by decide +kernel) (by decide +kernel)
theorem wq_971 : Cond.methodLink RL 131 yX7_thousandths ∈ x_tbl := x_t4 (i := 157) (by decide +kernel) (by decide +kernel)
theorem wq_972 : Cond.instanceMethod yX7_thousandths ∈ x_tbl := x_t4 (i := 158) (by decide +kernel) (by decide +kernel)
theorem wq_973 : Cond.selects RX7 yX7_thousandths yX7_thousandths ∈ x_tbl := x_t4 (i := 159) (by decide +kernel) (by decide +kernel)
theorem wq_974 : Cond.code yX7_thousandths cX7_thousandths 2 (some .int) ∈ x_tbl := x_t4 (i := 160) (by decide +kernel) (by decide +kernel)
theorem wq_975 : Cond.methodLink RX7 256 yX7_rateIn ∈ x_tbl := x_t4 (i := 161) (by decide +kernel) (by decide +kernel)
theorem wq_977 : Cond.instanceMethod yX7_rateIn ∈ x_tbl := x_t4 (i := 163) (by decide +kernel) (by decide +kernel)
theorem wq_978 : Cond.code yX7_rateIn cX7_rateIn 3 (some .int) ∈ x_tbl := x_t4 (i := 164) (by decide +kernel) (by decide +kernel)
theorem wq_979 : Cond.methodLink RX7 312 yX1_rateCut ∈ x_tbl := x_t4 (i := 165) (by decide +kernel) (by decide +kernel)
theorem wq_980 : Cond.instanceMethod yX1_rateCut ∈ x_tbl := x_t4 (i := 166) (by decide +kernel) (by decide +kernel)
theorem wq_981 : Cond.selects RX1 yX1_rateCut yX1_rateCut ∈ x_tbl := x_t4 (i := 167) (by decide +kernel) (by decide +kernel)
theorem wq_982 : Cond.code yX1_rateCut cX1_rateCut 2 (some .int) ∈ x_tbl := x_t4 (i := 168) (by decide +kernel) (by decide +kernel)
theorem wq_983 : Cond.methodLink RX1 177 yX1_putRate ∈ x_tbl := x_t4 (i := 169) (by decide +kernel) (by decide +kernel)
theorem wq_984 : Cond.methodLink RX1 180 yX5_inThousandths ∈ x_tbl := x_t4 (i := 170) (by decide +kernel) (by decide +kernel)
theorem wq_985 : Cond.instanceMethod yX5_inThousandths ∈ x_tbl := x_t4 (i := 171) (by decide +kernel) (by decide +kernel)
theorem wq_986 : Cond.selects RX5 yX5_inThousandths yX5_inThousandths ∈ x_tbl := x_t4 (i := 172) (by decide +kernel) (by decide +kernel)
theorem wq_987 : Cond.code yX5_inThousandths cX5_inThousandths 1 (some .int) ∈ x_tbl := x_t4 (i := 173) (by decide +kernel) (by decide +kernel)
theorem wq_988 : Cond.constantLong RX5 34 1000 ∈ x_tbl := x_t4 (i := 174) (by decide +kernel) (by decide +kernel)
theorem wq_989 : Cond.methodLink RL 135 yX7_ranked ∈ x_tbl := x_t4 (i := 175) (by decide +kernel) (by decide +kernel)
theorem wq_990 : Cond.instanceMethod yX7_ranked ∈ x_tbl := x_t4 (i := 176) (by decide +kernel) (by decide +kernel)
theorem wq_991 : Cond.selects RX7 yX7_ranked yX7_ranked ∈ x_tbl := x_t4 (i := 177) (by decide +kernel) (by decide +kernel)
theorem wq_992 : Cond.code yX7_ranked cX7_ranked 3 (some .int) ∈ x_tbl := x_t4 (i := 178) (by decide +kernel) (by decide +kernel)
theorem wq_993 : Cond.methodLink RX7 260 yX1_isRated ∈ x_tbl := x_t4 (i := 179) (by decide +kernel) (by decide +kernel)
theorem wq_994 : Cond.methodLink RX7 263 yX1_placeOf ∈ x_tbl := x_t4 (i := 180) (by decide +kernel) (by decide +kernel)
theorem wq_995 : Cond.instanceMethod yX1_placeOf ∈ x_tbl := x_t4 (i := 181) (by decide +kernel) (by decide +kernel)
theorem wq_996 : Cond.selects RX1 yX1_placeOf yX1_placeOf ∈ x_tbl := x_t4 (i := 182) (by decide +kernel) (by decide +kernel)
theorem wq_997 : Cond.code yX1_placeOf cX1_placeOf 5 (some .int) ∈ x_tbl := x_t4 (i := 183) (by decide +kernel) (by decide +kernel)
theorem wq_998 : Cond.methodLink RX1 200 yX1_compareRates ∈ x_tbl := x_t4 (i := 184) (by decide +kernel) (by decide +kernel)
theorem wq_999 : Cond.instanceMethod yX1_compareRates ∈ x_tbl := x_t4 (i := 185) (by decide +kernel) (by decide +kernel)
theorem wq_1000 : Cond.selects RX1 yX1_compareRates yX1_compareRates ∈ x_tbl := x_t4 (i := 186) (by decide +kernel) (by decide +kernel)
theorem wq_1001 : Cond.code yX1_compareRates cX1_compareRates 3 (some .int) ∈ x_tbl := x_t4 (i := 187) (by decide +kernel) (by decide +kernel)
theorem wq_1002 : Cond.methodLink RX1 196 yX5_compareWith ∈ x_tbl := x_t4 (i := 188) (by decide +kernel) (by decide +kernel)
theorem wq_1003 : Cond.instanceMethod yX5_compareWith ∈ x_tbl := x_t4 (i := 189) (by decide +kernel) (by decide +kernel)
theorem wq_1004 : Cond.selects RX5 yX5_compareWith yX5_compareWith ∈ x_tbl := x_t4 (i := 190) (by decide +kernel) (by decide +kernel)
theorem wq_1005 : Cond.code yX5_compareWith cX5_compareWith 20 (some .int) ∈ x_tbl := x_t4 (i := 191) (by decide +kernel) (by decide +kernel)
theorem wq_1006 : Cond.methodLink RL 139 yX7_greatest ∈ x_tbl := x_t4 (i := 192) (by decide +kernel) (by decide +kernel)
theorem wq_1007 : Cond.instanceMethod yX7_greatest ∈ x_tbl := x_t4 (i := 193) (by decide +kernel) (by decide +kernel)
theorem wq_1008 : Cond.selects RX7 yX7_greatest yX7_greatest ∈ x_tbl := x_t4 (i := 194) (by decide +kernel) (by decide +kernel)
theorem wq_1009 : Cond.code yX7_greatest cX7_greatest 4 (some .int) ∈ x_tbl := x_t4 (i := 195) (by decide +kernel) (by decide +kernel)
theorem wq_1010 : Cond.methodLink RX7 269 yX0_placeOf ∈ x_tbl := x_t4 (i := 196) (by decide +kernel) (by decide +kernel)
theorem wq_1011 : Cond.instanceMethod yX0_placeOf ∈ x_tbl := x_t4 (i := 197) (by decide +kernel) (by decide +kernel)
theorem wq_1012 : Cond.selects RX0 yX0_placeOf yX0_placeOf ∈ x_tbl := x_t4 (i := 198) (by decide +kernel) (by decide +kernel)
theorem wq_1013 : Cond.code yX0_placeOf cX0_placeOf 4 (some .int) ∈ x_tbl := x_t4 (i := 199) (by decide +kernel) (by decide +kernel)
theorem wq_1014 : Cond.methodLink RL 143 yX7_worst ∈ x_tbl := x_t4 (i := 200) (by decide +kernel) (by decide +kernel)
theorem wq_1015 : Cond.instanceMethod yX7_worst ∈ x_tbl := x_t4 (i := 201) (by decide +kernel) (by decide +kernel)
theorem wq_1016 : Cond.selects RX7 yX7_worst yX7_worst ∈ x_tbl := x_t4 (i := 202) (by decide +kernel) (by decide +kernel)
theorem wq_1017 : Cond.code yX7_worst cX7_worst 4 (some .int) ∈ x_tbl := x_t4 (i := 203) (by decide +kernel) (by decide +kernel)
theorem wq_1018 : Cond.methodLink RL 147 yX7_dearestOf ∈ x_tbl := x_t4 (i := 204) (by decide +kernel) (by decide +kernel)
theorem wq_1019 : Cond.instanceMethod yX7_dearestOf ∈ x_tbl := x_t4 (i := 205) (by decide +kernel) (by decide +kernel)
theorem wq_1020 : Cond.selects RX7 yX7_dearestOf yX7_dearestOf ∈ x_tbl := x_t4 (i := 206) (by decide +kernel) (by decide +kernel)
theorem wq_1021 : Cond.code yX7_dearestOf cX7_dearestOf 4 (some .int) ∈ x_tbl := x_t4 (i := 207) (by decide +kernel) (by decide +kernel)
theorem wq_1022 : Cond.methodLink RX7 270 yX1_compareRates ∈ x_tbl := x_t4 (i := 208) (by decide +kernel) (by decide +kernel)
theorem wq_1023 : Cond.methodLink RL 151 yX7_claimsIn ∈ x_tbl := x_t4 (i := 209) (by decide +kernel) (by decide +kernel)
theorem wq_1024 : Cond.instanceMethod yX7_claimsIn ∈ x_tbl := x_t4 (i := 210) (by decide +kernel) (by decide +kernel)
theorem wq_1025 : Cond.selects RX7 yX7_claimsIn yX7_claimsIn ∈ x_tbl := x_t4 (i := 211) (by decide +kernel) (by decide +kernel)
theorem wq_1026 : Cond.code yX7_claimsIn cX7_claimsIn 2 (some .int) ∈ x_tbl := x_t4 (i := 212) (by decide +kernel) (by decide +kernel)
theorem wq_1027 : Cond.methodLink RX7 273 yX0_claimsOfYear ∈ x_tbl := x_t4 (i := 213) (by decide +kernel) (by decide +kernel)
theorem wq_1028 : Cond.instanceMethod yX0_claimsOfYear ∈ x_tbl := x_t4 (i := 214) (by decide +kernel) (by decide +kernel)
theorem wq_1029 : Cond.selects RX0 yX0_claimsOfYear yX0_claimsOfYear ∈ x_tbl := x_t4 (i := 215) (by decide +kernel) (by decide +kernel)
theorem wq_1030 : Cond.code yX0_claimsOfYear cX0_claimsOfYear 4 (some .int) ∈ x_tbl := x_t4 (i := 216) (by decide +kernel) (by decide +kernel)
theorem wq_1031 : Cond.methodLink RL 155 yX7_gap ∈ x_tbl := x_t4 (i := 217) (by decide +kernel) (by decide +kernel)
theorem wq_1032 : Cond.instanceMethod yX7_gap ∈ x_tbl := x_t4 (i := 218) (by decide +kernel) (by decide +kernel)
theorem wq_1033 : Cond.selects RX7 yX7_gap yX7_gap ∈ x_tbl := x_t4 (i := 219) (by decide +kernel) (by decide +kernel)
theorem wq_1034 : Cond.code yX7_gap cX7_gap 5 (some .int) ∈ x_tbl := x_t4 (i := 220) (by decide +kernel) (by decide +kernel)
theorem wq_1035 : Cond.constant RX7 276 (-1000000) ∈ x_tbl := x_t4 (i := 221) (by decide +kernel) (by decide +kernel)
theorem wq_1036 : Cond.methodLink RL 159 yX7_premium ∈ x_tbl := x_t4 (i := 222) (by decide +kernel) (by decide +kernel)
theorem wq_1037 : Cond.instanceMethod yX7_premium ∈ x_tbl := x_t4 (i := 223) (by decide +kernel) (by decide +kernel)
theorem wq_1038 : Cond.selects RX7 yX7_premium yX7_premium ∈ x_tbl := x_t4 (i := 224) (by decide +kernel) (by decide +kernel)
theorem wq_1039 : Cond.code yX7_premium cX7_premium 4 (some .int) ∈ x_tbl := x_t4 (i := 225) (by decide +kernel) (by decide +kernel)
theorem wq_1040 : Cond.methodLink RL 163 yX7_shareBy ∈ x_tbl := x_t4 (i := 226) (by decide +kernel) (by decide +kernel)
theorem wq_1041 : Cond.instanceMethod yX7_shareBy ∈ x_tbl := x_t4 (i := 227) (by decide +kernel) (by decide +kernel)
theorem wq_1042 : Cond.selects RX7 yX7_shareBy yX7_shareBy ∈ x_tbl := x_t4 (i := 228) (by decide +kernel) (by decide +kernel)
theorem wq_1043 : Cond.code yX7_shareBy cX7_shareBy 3 (some .int) ∈ x_tbl := x_t4 (i := 229) (by decide +kernel) (by decide +kernel)
theorem wq_1044 : Cond.methodLink RX7 277 yX1_shareBySpan ∈ x_tbl := x_t4 (i := 230) (by decide +kernel) (by decide +kernel)
theorem wq_1045 : Cond.instanceMethod yX1_shareBySpan ∈ x_tbl := x_t4 (i := 231) (by decide +kernel) (by decide +kernel)
theorem wq_1046 : Cond.selects RX1 yX1_shareBySpan yX1_shareBySpan ∈ x_tbl := x_t4 (i := 232) (by decide +kernel) (by decide +kernel)
theorem wq_1047 : Cond.code yX1_shareBySpan cX1_shareBySpan 3 (some .int) ∈ x_tbl := x_t4 (i := 233) (by decide +kernel) (by decide +kernel)
theorem wq_1048 : Cond.methodLink RL 167 yX7_yearsFor ∈ x_tbl := x_t4 (i := 234) (by decide +kernel) (by decide +kernel)
theorem wq_1049 : Cond.instanceMethod yX7_yearsFor ∈ x_tbl := x_t4 (i := 235) (by decide +kernel) (by decide +kernel)
theorem wq_1050 : Cond.selects RX7 yX7_yearsFor yX7_yearsFor ∈ x_tbl := x_t4 (i := 236) (by decide +kernel) (by decide +kernel)
theorem wq_1051 : Cond.code yX7_yearsFor cX7_yearsFor 4 (some .int) ∈ x_tbl := x_t4 (i := 237) (by decide +kernel) (by decide +kernel)
theorem wq_1052 : Cond.methodLink RL 171 yX7_inClass ∈ x_tbl := x_t4 (i := 238) (by decide +kernel) (by decide +kernel)
theorem wq_1053 : Cond.instanceMethod yX7_inClass ∈ x_tbl := x_t4 (i := 239) (by decide +kernel) (by decide +kernel)
theorem wq_1054 : Cond.selects RX7 yX7_inClass yX7_inClass ∈ x_tbl := x_t5 (i := 0) (by decide +kernel) (by decide +kernel)
theorem wq_1055 : Cond.code yX7_inClass cX7_inClass 3 (some .int) ∈ x_tbl := x_t5 (i := 1) (by decide +kernel) (by decide +kernel)
theorem wq_1056 : Cond.methodLink RL 175 yX7_bestClass ∈ x_tbl := x_t5 (i := 2) (by decide +kernel) (by decide +kernel)
theorem wq_1057 : Cond.instanceMethod yX7_bestClass ∈ x_tbl := x_t5 (i := 3) (by decide +kernel) (by decide +kernel)
theorem wq_1058 : Cond.selects RX7 yX7_bestClass yX7_bestClass ∈ x_tbl := x_t5 (i := 4) (by decide +kernel) (by decide +kernel)
theorem wq_1059 : Cond.code yX7_bestClass cX7_bestClass 6 (some .int) ∈ x_tbl := x_t5 (i := 5) (by decide +kernel) (by decide +kernel)
theorem wq_1060 : Cond.methodLink RX7 280 yX7_inClass ∈ x_tbl := x_t5 (i := 6) (by decide +kernel) (by decide +kernel)
theorem wq_1061 : Cond.methodLink RL 179 yX7_byCap ∈ x_tbl := x_t5 (i := 7) (by decide +kernel) (by decide +kernel)
theorem wq_1062 : Cond.instanceMethod yX7_byCap ∈ x_tbl := x_t5 (i := 8) (by decide +kernel) (by decide +kernel)
theorem wq_1063 : Cond.selects RX7 yX7_byCap yX7_byCap ∈ x_tbl := x_t5 (i := 9) (by decide +kernel) (by decide +kernel)
theorem wq_1064 : Cond.code yX7_byCap cX7_byCap 3 (some .int) ∈ x_tbl := x_t5 (i := 10) (by decide +kernel) (by decide +kernel)
theorem wq_1065 : Cond.methodLink RL 183 yX7_capFor ∈ x_tbl := x_t5 (i := 11) (by decide +kernel) (by decide +kernel)
theorem wq_1066 : Cond.instanceMethod yX7_capFor ∈ x_tbl := x_t5 (i := 12) (by decide +kernel) (by decide +kernel)
theorem wq_1067 : Cond.selects RX7 yX7_capFor yX7_capFor ∈ x_tbl := x_t5 (i := 13) (by decide +kernel) (by decide +kernel)
theorem wq_1068 : Cond.code yX7_capFor cX7_capFor 4 (some .int) ∈ x_tbl := x_t5 (i := 14) (by decide +kernel) (by decide +kernel)
theorem wq_1069 : Cond.methodLink RX7 283 yX7_byCap ∈ x_tbl := x_t5 (i := 15) (by decide +kernel) (by decide +kernel)
theorem wq_1070 : Cond.methodLink RL 187 yX7_early ∈ x_tbl := x_t5 (i := 16) (by decide +kernel) (by decide +kernel)
theorem wq_1071 : Cond.instanceMethod yX7_early ∈ x_tbl := x_t5 (i := 17) (by decide +kernel) (by decide +kernel)
theorem wq_1072 : Cond.selects RX7 yX7_early yX7_early ∈ x_tbl := x_t5 (i := 18) (by decide +kernel) (by decide +kernel)
theorem wq_1073 : Cond.code yX7_early cX7_early 3 (some .int) ∈ x_tbl := x_t5 (i := 19) (by decide +kernel) (by decide +kernel)
theorem wq_1074 : Cond.methodLink RX7 286 yX7_tryEarly ∈ x_tbl := x_t5 (i := 20) (by decide +kernel) (by decide +kernel)
theorem wq_1076 : Cond.instanceMethod yX7_tryEarly ∈ x_tbl := x_t5 (i := 22) (by decide +kernel) (by decide +kernel)
theorem wq_1077 : Cond.code yX7_tryEarly cX7_tryEarly 2 none ∈ x_tbl := x_t5 (i := 23) (by decide +kernel) (by decide +kernel)
theorem wq_1078 : Cond.methodLink RL 191 yX7_earlyShare ∈ x_tbl := x_t5 (i := 24) (by decide +kernel) (by decide +kernel)
theorem wq_1079 : Cond.instanceMethod yX7_earlyShare ∈ x_tbl := x_t5 (i := 25) (by decide +kernel) (by decide +kernel)
theorem wq_1080 : Cond.selects RX7 yX7_earlyShare yX7_earlyShare ∈ x_tbl := x_t5 (i := 26) (by decide +kernel) (by decide +kernel)
theorem wq_1081 : Cond.code yX7_earlyShare cX7_earlyShare 3 (some .int) ∈ x_tbl := x_t5 (i := 27) (by decide +kernel) (by decide +kernel)
theorem wq_1082 : Cond.methodLink RL 195 yX7_withoutFleet ∈ x_tbl := x_t5 (i := 28) (by decide +kernel) (by decide +kernel)
theorem wq_1083 : Cond.instanceMethod yX7_withoutFleet ∈ x_tbl := x_t5 (i := 29) (by decide +kernel) (by decide +kernel)
theorem wq_1084 : Cond.selects RX7 yX7_withoutFleet yX7_withoutFleet ∈ x_tbl := x_t5 (i := 30) (by decide +kernel) (by decide +kernel)
theorem wq_1085 : Cond.code yX7_withoutFleet cX7_withoutFleet 3 (some .int) ∈ x_tbl := x_t5 (i := 31) (by decide +kernel) (by decide +kernel)
theorem wq_1086 : Cond.methodLink RL 199 yX7_joined ∈ x_tbl := x_t5 (i := 32) (by decide +kernel) (by decide +kernel)
theorem wq_1087 : Cond.instanceMethod yX7_joined ∈ x_tbl := x_t5 (i := 33) (by decide +kernel) (by decide +kernel)
theorem wq_1088 : Cond.selects RX7 yX7_joined yX7_joined ∈ x_tbl := x_t5 (i := 34) (by decide +kernel) (by decide +kernel)
theorem wq_1089 : Cond.code yX7_joined cX7_joined 5 (some .long) ∈ x_tbl := x_t5 (i := 35) (by decide +kernel) (by decide +kernel)
theorem wq_1090 : Cond.methodLink RL 204 yX7_withoutClaim ∈ x_tbl := x_t5 (i := 36) (by decide +kernel) (by decide +kernel)
theorem wq_1091 : Cond.instanceMethod yX7_withoutClaim ∈ x_tbl := x_t5 (i := 37) (by decide +kernel) (by decide +kernel)
theorem wq_1092 : Cond.selects RX7 yX7_withoutClaim yX7_withoutClaim ∈ x_tbl := x_t5 (i := 38) (by decide +kernel) (by decide +kernel)
theorem wq_1093 : Cond.code yX7_withoutClaim cX7_withoutClaim 3 (some .int) ∈ x_tbl := x_t5 (i := 39) (by decide +kernel) (by decide +kernel)
theorem wq_1094 : Cond.methodLink RL 208 yX7_dearest ∈ x_tbl := x_t5 (i := 40) (by decide +kernel) (by decide +kernel)
theorem wq_1095 : Cond.instanceMethod yX7_dearest ∈ x_tbl := x_t5 (i := 41) (by decide +kernel) (by decide +kernel)
theorem wq_1096 : Cond.selects RX7 yX7_dearest yX7_dearest ∈ x_tbl := x_t5 (i := 42) (by decide +kernel) (by decide +kernel)
theorem wq_1097 : Cond.code yX7_dearest cX7_dearest 6 (some .int) ∈ x_tbl := x_t5 (i := 43) (by decide +kernel) (by decide +kernel)
theorem wq_1098 : Cond.methodLink RX7 289 yX7_keepRatesNow ∈ x_tbl := x_t5 (i := 44) (by decide +kernel) (by decide +kernel)
theorem wq_1100 : Cond.instanceMethod yX7_keepRatesNow ∈ x_tbl := x_t5 (i := 46) (by decide +kernel) (by decide +kernel)
theorem wq_1101 : Cond.code yX7_keepRatesNow cX7_keepRatesNow 2 none ∈ x_tbl := x_t5 (i := 47) (by decide +kernel) (by decide +kernel)
theorem wq_1102 : Cond.methodLink RX7 292 yX7_withoutClaim ∈ x_tbl := x_t5 (i := 48) (by decide +kernel) (by decide +kernel)
theorem wq_1103 : Cond.methodLink RL 212 yX7_report ∈ x_tbl := x_t5 (i := 49) (by decide +kernel) (by decide +kernel)
theorem wq_1104 : Cond.instanceMethod yX7_report ∈ x_tbl := x_t5 (i := 50) (by decide +kernel) (by decide +kernel)
theorem wq_1105 : Cond.selects RX7 yX7_report yX7_report ∈ x_tbl := x_t5 (i := 51) (by decide +kernel) (by decide +kernel)
theorem wq_1106 : Cond.code yX7_report cX7_report 3 (some .int) ∈ x_tbl := x_t5 (i := 52) (by decide +kernel) (by decide +kernel)
theorem wq_1107 : Cond.methodLink RX7 295 yX3_begin ∈ x_tbl := x_t5 (i := 53) (by decide +kernel) (by decide +kernel)
theorem wq_1108 : Cond.instanceMethod yX3_begin ∈ x_tbl := x_t5 (i := 54) (by decide +kernel) (by decide +kernel)
theorem wq_1109 : Cond.selects RX3 yX3_begin yX3_begin ∈ x_tbl := x_t5 (i := 55) (by decide +kernel) (by decide +kernel)
theorem wq_1110 : Cond.code yX3_begin cX3_begin 2 none ∈ x_tbl := x_t5 (i := 56) (by decide +kernel) (by decide +kernel)
theorem wq_1112 : Cond.methodLink RX7 300 yX3_writeNamed ∈ x_tbl := x_t5 (i := 58) (by decide +kernel) (by decide +kernel)
theorem wq_1113 : Cond.instanceMethod yX3_writeNamed ∈ x_tbl := x_t5 (i := 59) (by decide +kernel) (by decide +kernel)
theorem wq_1114 : Cond.selects RX3 yX3_writeNamed yX3_writeNamed ∈ x_tbl := x_t5 (i := 60) (by decide +kernel) (by decide +kernel)
theorem wq_1115 : Cond.code yX3_writeNamed cX3_writeNamed 4 none ∈ x_tbl := x_t5 (i := 61) (by decide +kernel) (by decide +kernel)
theorem wq_1116 : Cond.methodLink RX3 21 yJ0_length_8abf5 ∈ x_tbl := x_t5 (i := 62) (by decide +kernel) (by decide +kernel)
theorem wq_1117 : Cond.methodLink RX3 27 yJ0_charAt_5068e ∈ x_tbl := x_t5 (i := 63) (by decide +kernel) (by decide +kernel)
theorem wq_1118 : Cond.methodLink RX3 31 yX3_writeByte ∈ x_tbl := x_t5 (i := 64) (by decide +kernel) (by decide +kernel)
theorem wq_1120 : Cond.instanceMethod yX3_writeByte ∈ x_tbl := x_t5 (i := 66) (by decide +kernel) (by decide +kernel)
theorem wq_1121 : Cond.code yX3_writeByte cX3_writeByte 2 none ∈ x_tbl := x_t5 (i := 67) (by decide +kernel) (by decide +kernel)
theorem wq_1122 : Cond.methodLink RX3 35 yX3_writeBehind ∈ x_tbl := x_t5 (i := 68) (by decide +kernel) (by decide +kernel)
theorem wq_1123 : Cond.instanceMethod yX3_writeBehind ∈ x_tbl := x_t5 (i := 69) (by decide +kernel) (by decide +kernel)
theorem wq_1124 : Cond.selects RX3 yX3_writeBehind yX3_writeBehind ∈ x_tbl := x_t5 (i := 70) (by decide +kernel) (by decide +kernel)
theorem wq_1125 : Cond.code yX3_writeBehind cX3_writeBehind 5 none ∈ x_tbl := x_t5 (i := 71) (by decide +kernel) (by decide +kernel)
theorem wq_1126 : Cond.constant RX3 38 1000000000 ∈ x_tbl := x_t5 (i := 72) (by decide +kernel) (by decide +kernel)
theorem wq_1131 : Cond.methodLink RX7 315 yX3_writeEnd ∈ x_tbl := x_t5 (i := 77) (by decide +kernel) (by decide +kernel)
theorem wq_1132 : Cond.instanceMethod yX3_writeEnd ∈ x_tbl := x_t5 (i := 78) (by decide +kernel) (by decide +kernel)
theorem wq_1133 : Cond.selects RX3 yX3_writeEnd yX3_writeEnd ∈ x_tbl := x_t5 (i := 79) (by decide +kernel) (by decide +kernel)
theorem wq_1134 : Cond.code yX3_writeEnd cX3_writeEnd 1 none ∈ x_tbl := x_t5 (i := 80) (by decide +kernel) (by decide +kernel)
theorem wq_1135 : Cond.methodLink RX7 318 yX3_answer ∈ x_tbl := x_t5 (i := 81) (by decide +kernel) (by decide +kernel)
theorem wq_1136 : Cond.instanceMethod yX3_answer ∈ x_tbl := x_t5 (i := 82) (by decide +kernel) (by decide +kernel)
theorem wq_1137 : Cond.selects RX3 yX3_answer yX3_answer ∈ x_tbl := x_t5 (i := 83) (by decide +kernel) (by decide +kernel)
theorem wq_1138 : Cond.code yX3_answer cX3_answer 1 (some .int) ∈ x_tbl := x_t5 (i := 84) (by decide +kernel) (by decide +kernel)
theorem wq_1139 : Cond.methodLink RL 216 yX7_spell ∈ x_tbl := x_t5 (i := 85) (by decide +kernel) (by decide +kernel)
theorem wq_1140 : Cond.instanceMethod yX7_spell ∈ x_tbl := x_t5 (i := 86) (by decide +kernel) (by decide +kernel)
theorem wq_1141 : Cond.selects RX7 yX7_spell yX7_spell ∈ x_tbl := x_t5 (i := 87) (by decide +kernel) (by decide +kernel)
theorem wq_1142 : Cond.code yX7_spell cX7_spell 3 (some .int) ∈ x_tbl := x_t5 (i := 88) (by decide +kernel) (by decide +kernel)
theorem wq_1145 : Cond.methodLink RX7 323 yX7_spellFleet ∈ x_tbl := x_t5 (i := 91) (by decide +kernel) (by decide +kernel)
theorem wq_1147 : Cond.instanceMethod yX7_spellFleet ∈ x_tbl := x_t5 (i := 93) (by decide +kernel) (by decide +kernel)
theorem wq_1148 : Cond.code yX7_spellFleet cX7_spellFleet 3 none ∈ x_tbl := x_t5 (i := 94) (by decide +kernel) (by decide +kernel)
theorem wq_1149 : Cond.methodLink RX7 342 yX3_writeBehind ∈ x_tbl := x_t5 (i := 95) (by decide +kernel) (by decide +kernel)
theorem wq_1150 : Cond.methodLink RX7 326 yX7_spellClaim ∈ x_tbl := x_t5 (i := 96) (by decide +kernel) (by decide +kernel)
theorem wq_1152 : Cond.instanceMethod yX7_spellClaim ∈ x_tbl := x_t5 (i := 98) (by decide +kernel) (by decide +kernel)
theorem wq_1153 : Cond.code yX7_spellClaim cX7_spellClaim 2 none ∈ x_tbl := x_t5 (i := 99) (by decide +kernel) (by decide +kernel)
theorem wq_1155 : Cond.methodLink RL 220 yX7_count ∈ x_tbl := x_t5 (i := 101) (by decide +kernel) (by decide +kernel)
theorem wq_1156 : Cond.instanceMethod yX7_count ∈ x_tbl := x_t5 (i := 102) (by decide +kernel) (by decide +kernel)
theorem wq_1157 : Cond.selects RX7 yX7_count yX7_count ∈ x_tbl := x_t5 (i := 103) (by decide +kernel) (by decide +kernel)
theorem wq_1158 : Cond.code yX7_count cX7_count 2 (some .int) ∈ x_tbl := x_t5 (i := 104) (by decide +kernel) (by decide +kernel)
theorem wq_1159 : Cond.methodLink RX7 329 yX0_allClaimsAboveCap ∈ x_tbl := x_t5 (i := 105) (by decide +kernel) (by decide +kernel)
theorem wq_1160 : Cond.instanceMethod yX0_allClaimsAboveCap ∈ x_tbl := x_t5 (i := 106) (by decide +kernel) (by decide +kernel)
theorem wq_1161 : Cond.selects RX0 yX0_allClaimsAboveCap yX0_allClaimsAboveCap ∈ x_tbl := x_t5 (i := 107) (by decide +kernel) (by decide +kernel)
theorem wq_1162 : Cond.code yX0_allClaimsAboveCap cX0_allClaimsAboveCap 3 (some .int) ∈ x_tbl := x_t5 (i := 108) (by decide +kernel) (by decide +kernel)
theorem wq_1163 : Cond.methodLink RX0 117 yX0_claimsAboveCap ∈ x_tbl := x_t5 (i := 109) (by decide +kernel) (by decide +kernel)
theorem wq_1164 : Cond.methodLink RX7 332 yX0_fleetsWithoutYears ∈ x_tbl := x_t5 (i := 110) (by decide +kernel) (by decide +kernel)
theorem wq_1165 : Cond.instanceMethod yX0_fleetsWithoutYears ∈ x_tbl := x_t5 (i := 111) (by decide +kernel) (by decide +kernel)
theorem wq_1166 : Cond.selects RX0 yX0_fleetsWithoutYears yX0_fleetsWithoutYears ∈ x_tbl := x_t5 (i := 112) (by decide +kernel) (by decide +kernel)
theorem wq_1167 : Cond.code yX0_fleetsWithoutYears cX0_fleetsWithoutYears 3 (some .int) ∈ x_tbl := x_t5 (i := 113) (by decide +kernel) (by decide +kernel)
theorem wq_1168 : Cond.methodLink RX7 335 yX0_yearsOfAll ∈ x_tbl := x_t5 (i := 114) (by decide +kernel) (by decide +kernel)
theorem wq_1169 : Cond.instanceMethod yX0_yearsOfAll ∈ x_tbl := x_t5 (i := 115) (by decide +kernel) (by decide +kernel)
theorem wq_1170 : Cond.selects RX0 yX0_yearsOfAll yX0_yearsOfAll ∈ x_tbl := x_t5 (i := 116) (by decide +kernel) (by decide +kernel)
theorem wq_1171 : Cond.code yX0_yearsOfAll cX0_yearsOfAll 3 (some .int) ∈ x_tbl := x_t5 (i := 117) (by decide +kernel) (by decide +kernel)
theorem wq_1172 : Cond.classLink RL 10 RX8 ∈ x_tbl := x_t5 (i := 118) (by decide +kernel) (by decide +kernel)
theorem wq_1173 : Cond.instantiable RX8 32 ∈ x_tbl := x_t5 (i := 119) (by decide +kernel) (by decide +kernel)
theorem wq_1174 : Cond.methodLink RL 12 yX8_init ∈ x_tbl := x_t5 (i := 120) (by decide +kernel) (by decide +kernel)
theorem wq_1175 : Cond.instanceMethod yX8_init ∈ x_tbl := x_t5 (i := 121) (by decide +kernel) (by decide +kernel)
theorem wq_1176 : Cond.code yX8_init cX8_init 1 none ∈ x_tbl := x_t5 (i := 122) (by decide +kernel) (by decide +kernel)
theorem wq_1177 : Cond.methodLink RX8 7 objectInit ∈ x_tbl := x_t5 (i := 123) (by decide +kernel) (by decide +kernel)
theorem wq_1178 : Cond.methodLink RX8 73 yX8_starts ∈ x_tbl := x_t5 (i := 124) (by decide +kernel) (by decide +kernel)
theorem wq_1179 : Cond.static yX8_starts ∈ x_tbl := x_t5 (i := 125) (by decide +kernel) (by decide +kernel)
theorem wq_1180 : Cond.code yX8_starts cX8_starts 2 none ∈ x_tbl := x_t5 (i := 126) (by decide +kernel) (by decide +kernel)
theorem wq_1181 : Cond.fieldLink RX8 13 "FleetSharesModel" "now" "[I" ∈ x_tbl := x_t5 (i := 127) (by decide +kernel) (by decide +kernel)
theorem wq_1182 : Cond.fieldLink RX8 17 "FleetSharesModel" "read" "[I" ∈ x_tbl := x_t5 (i := 128) (by decide +kernel) (by decide +kernel)
theorem wq_1183 : Cond.fieldLink RX8 20 "FleetSharesModel" "aside" "[I" ∈ x_tbl := x_t5 (i := 129) (by decide +kernel) (by decide +kernel)
theorem wq_1184 : Cond.fieldLink RX8 23 "FleetSharesModel" "before" "[I" ∈ x_tbl := x_t5 (i := 130) (by decide +kernel) (by decide +kernel)
theorem wq_1185 : Cond.fieldLink RX8 77 "FleetSharesModel" "acts" "I" ∈ x_tbl := x_t5 (i := 131) (by decide +kernel) (by decide +kernel)
theorem wq_1186 : Cond.fieldLink RX8 161 "FleetSharesModel" "upper" "J" ∈ x_tbl := x_t5 (i := 132) (by decide +kernel) (by decide +kernel)
theorem wq_1187 : Cond.fieldLink RX8 165 "FleetSharesModel" "lower" "J" ∈ x_tbl := x_t5 (i := 133) (by decide +kernel) (by decide +kernel)
theorem wq_1188 : Cond.fieldLink RX8 26 "FleetSharesModel" "n" "[I" ∈ x_tbl := x_t5 (i := 134) (by decide +kernel) (by decide +kernel)
theorem wq_1189 : Cond.fieldLink RX8 29 "FleetSharesModel" "losses" "[I" ∈ x_tbl := x_t5 (i := 135) (by decide +kernel) (by decide +kernel)
theorem wq_1190 : Cond.fieldLink RX8 32 "FleetSharesModel" "squares" "[I" ∈ x_tbl := x_t5 (i := 136) (by decide +kernel) (by decide +kernel)
theorem wq_1191 : Cond.fieldLink RX8 35 "FleetSharesModel" "share" "[I" ∈ x_tbl := x_t5 (i := 137) (by decide +kernel) (by decide +kernel)
theorem wq_1192 : Cond.fieldLink RX8 38 "FleetSharesModel" "rateUp" "[J" ∈ x_tbl := x_t5 (i := 138) (by decide +kernel) (by decide +kernel)
theorem wq_1193 : Cond.fieldLink RX8 42 "FleetSharesModel" "rateLow" "[J" ∈ x_tbl := x_t5 (i := 139) (by decide +kernel) (by decide +kernel)
theorem wq_1194 : Cond.fieldLink RX8 45 "FleetSharesModel" "have" "[I" ∈ x_tbl := x_t5 (i := 140) (by decide +kernel) (by decide +kernel)
theorem wq_1195 : Cond.fieldLink RX8 48 "FleetSharesModel" "spans" "[I" ∈ x_tbl := x_t5 (i := 141) (by decide +kernel) (by decide +kernel)
theorem wq_1196 : Cond.fieldLink RX8 51 "FleetSharesModel" "totals" "[I" ∈ x_tbl := x_t5 (i := 142) (by decide +kernel) (by decide +kernel)
theorem wq_1197 : Cond.fieldLink RX8 54 "FleetSharesModel" "steadied" "[I" ∈ x_tbl := x_t5 (i := 143) (by decide +kernel) (by decide +kernel)
theorem wq_1198 : Cond.fieldLink RX8 57 "FleetSharesModel" "up" "[J" ∈ x_tbl := x_t5 (i := 144) (by decide +kernel) (by decide +kernel)
theorem wq_1199 : Cond.fieldLink RX8 60 "FleetSharesModel" "low" "[J" ∈ x_tbl := x_t5 (i := 145) (by decide +kernel) (by decide +kernel)
theorem wq_1200 : Cond.fieldLink RX8 181 "FleetSharesModel" "wholeUp" "J" ∈ x_tbl := x_t5 (i := 146) (by decide +kernel) (by decide +kernel)
theorem wq_1201 : Cond.fieldLink RX8 178 "FleetSharesModel" "wholeLow" "J" ∈ x_tbl := x_t5 (i := 147) (by decide +kernel) (by decide +kernel)
theorem wq_1202 : Cond.fieldLink RX8 63 "FleetSharesModel" "text" "[I" ∈ x_tbl := x_t5 (i := 148) (by decide +kernel) (by decide +kernel)
theorem wq_1203 : Cond.fieldLink RX8 279 "FleetSharesModel" "textMany" "I" ∈ x_tbl := x_t5 (i := 149) (by decide +kernel) (by decide +kernel)
theorem wq_1204 : Cond.fieldLink RX8 66 "FleetSharesModel" "tape" "[I" ∈ x_tbl := x_t5 (i := 150) (by decide +kernel) (by decide +kernel)
theorem wq_1205 : Cond.fieldLink RX8 300 "FleetSharesModel" "taped" "I" ∈ x_tbl := x_t5 (i := 151) (by decide +kernel) (by decide +kernel)
theorem wq_1206 : Cond.fieldLink RX8 69 "FleetSharesModel" "words" "[B" ∈ x_tbl := x_t5 (i := 152) (by decide +kernel) (by decide +kernel)
theorem wq_1207 : Cond.fieldLink RX8 303 "FleetSharesModel" "spot" "I" ∈ x_tbl := x_t5 (i := 153) (by decide +kernel) (by decide +kernel)
theorem wq_1208 : Cond.fieldLink RX8 306 "FleetSharesModel" "token" "I" ∈ x_tbl := x_t5 (i := 154) (by decide +kernel) (by decide +kernel)
theorem wq_1209 : Cond.fieldLink RX8 312 "FleetSharesModel" "begun" "I" ∈ x_tbl := x_t5 (i := 155) (by decide +kernel) (by decide +kernel)
theorem wq_1210 : Cond.fieldLink RX8 315 "FleetSharesModel" "number" "I" ∈ x_tbl := x_t5 (i := 156) (by decide +kernel) (by decide +kernel)
theorem wq_1211 : Cond.fieldLink RX8 318 "FleetSharesModel" "wrong" "Z" ∈ x_tbl := x_t5 (i := 157) (by decide +kernel) (by decide +kernel)
theorem wq_1277 : Cond.arrayClass .long ∈ x_tbl := x_t5 (i := 223) (by decide +kernel) (by decide +kernel)
theorem wq_1278 : Cond.methodLink RL 32 yX8_fleet ∈ x_tbl := x_t5 (i := 224) (by decide +kernel) (by decide +kernel)
theorem wq_1279 : Cond.instanceMethod yX8_fleet ∈ x_tbl := x_t5 (i := 225) (by decide +kernel) (by decide +kernel)
theorem wq_1280 : Cond.selects RX8 yX8_fleet yX8_fleet ∈ x_tbl := x_t5 (i := 226) (by decide +kernel) (by decide +kernel)
theorem wq_1281 : Cond.code yX8_fleet cX8_fleet 3 (some .int) ∈ x_tbl := x_t5 (i := 227) (by decide +kernel) (by decide +kernel)
theorem wq_1282 : Cond.methodLink RX8 108 yX8_isClass ∈ x_tbl := x_t5 (i := 228) (by decide +kernel) (by decide +kernel)
theorem wq_1283 : Cond.static yX8_isClass ∈ x_tbl := x_t5 (i := 229) (by decide +kernel) (by decide +kernel)
theorem wq_1284 : Cond.code yX8_isClass cX8_isClass 1 (some .boolean) ∈ x_tbl := x_t5 (i := 230) (by decide +kernel) (by decide +kernel)
theorem wq_1285 : Cond.methodLink RX8 84 yX8_in ∈ x_tbl := x_t5 (i := 231) (by decide +kernel) (by decide +kernel)
theorem wq_1286 : Cond.static yX8_in ∈ x_tbl := x_t5 (i := 232) (by decide +kernel) (by decide +kernel)
theorem wq_1287 : Cond.code yX8_in cX8_in 3 (some .boolean) ∈ x_tbl := x_t5 (i := 233) (by decide +kernel) (by decide +kernel)
theorem wq_1288 : Cond.methodLink RX8 80 yX8_many ∈ x_tbl := x_t5 (i := 234) (by decide +kernel) (by decide +kernel)
theorem wq_1290 : Cond.instanceMethod yX8_many ∈ x_tbl := x_t5 (i := 236) (by decide +kernel) (by decide +kernel)
theorem wq_1291 : Cond.code yX8_many cX8_many 1 (some .int) ∈ x_tbl := x_t5 (i := 237) (by decide +kernel) (by decide +kernel)
theorem wq_1292 : Cond.methodLink RX8 112 yX8_keeps ∈ x_tbl := x_t5 (i := 238) (by decide +kernel) (by decide +kernel)
theorem wq_1294 : Cond.instanceMethod yX8_keeps ∈ x_tbl := x_t6 (i := 0) (by decide +kernel) (by decide +kernel)
theorem wq_1295 : Cond.code yX8_keeps cX8_keeps 2 none ∈ x_tbl := x_t6 (i := 1) (by decide +kernel) (by decide +kernel)
theorem wq_1296 : Cond.methodLink RL 37 yX8_leave ∈ x_tbl := x_t6 (i := 2) (by decide +kernel) (by decide +kernel)
theorem wq_1297 : Cond.instanceMethod yX8_leave ∈ x_tbl := x_t6 (i := 3) (by decide +kernel) (by decide +kernel)
theorem wq_1298 : Cond.selects RX8 yX8_leave yX8_leave ∈ x_tbl := x_t6 (i := 4) (by decide +kernel) (by decide +kernel)
theorem wq_1299 : Cond.code yX8_leave cX8_leave 2 (some .boolean) ∈ x_tbl := x_t6 (i := 5) (by decide +kernel) (by decide +kernel)
theorem wq_1300 : Cond.methodLink RX8 115 yX8_isFleet ∈ x_tbl := x_t6 (i := 6) (by decide +kernel) (by decide +kernel)
theorem wq_1302 : Cond.instanceMethod yX8_isFleet ∈ x_tbl := x_t6 (i := 8) (by decide +kernel) (by decide +kernel)
theorem wq_1303 : Cond.code yX8_isFleet cX8_isFleet 2 (some .boolean) ∈ x_tbl := x_t6 (i := 9) (by decide +kernel) (by decide +kernel)
theorem wq_1304 : Cond.methodLink RX8 118 yX8_dropsAll ∈ x_tbl := x_t6 (i := 10) (by decide +kernel) (by decide +kernel)
theorem wq_1306 : Cond.instanceMethod yX8_dropsAll ∈ x_tbl := x_t6 (i := 12) (by decide +kernel) (by decide +kernel)
theorem wq_1307 : Cond.code yX8_dropsAll cX8_dropsAll 5 (some .int) ∈ x_tbl := x_t6 (i := 13) (by decide +kernel) (by decide +kernel)
theorem wq_1308 : Cond.methodLink RX8 88 yX8_claims ∈ x_tbl := x_t6 (i := 14) (by decide +kernel) (by decide +kernel)
theorem wq_1310 : Cond.instanceMethod yX8_claims ∈ x_tbl := x_t6 (i := 16) (by decide +kernel) (by decide +kernel)
theorem wq_1311 : Cond.code yX8_claims cX8_claims 1 (some .int) ∈ x_tbl := x_t6 (i := 17) (by decide +kernel) (by decide +kernel)
theorem wq_1312 : Cond.methodLink RX8 98 yX8_fleetOf ∈ x_tbl := x_t6 (i := 18) (by decide +kernel) (by decide +kernel)
theorem wq_1314 : Cond.instanceMethod yX8_fleetOf ∈ x_tbl := x_t6 (i := 20) (by decide +kernel) (by decide +kernel)
theorem wq_1315 : Cond.code yX8_fleetOf cX8_fleetOf 2 (some .int) ∈ x_tbl := x_t6 (i := 21) (by decide +kernel) (by decide +kernel)
theorem wq_1316 : Cond.methodLink RX8 101 yX8_yearOf ∈ x_tbl := x_t6 (i := 22) (by decide +kernel) (by decide +kernel)
theorem wq_1318 : Cond.instanceMethod yX8_yearOf ∈ x_tbl := x_t6 (i := 24) (by decide +kernel) (by decide +kernel)
theorem wq_1319 : Cond.code yX8_yearOf cX8_yearOf 2 (some .int) ∈ x_tbl := x_t6 (i := 25) (by decide +kernel) (by decide +kernel)
theorem wq_1320 : Cond.methodLink RX8 104 yX8_drops ∈ x_tbl := x_t6 (i := 26) (by decide +kernel) (by decide +kernel)
theorem wq_1322 : Cond.instanceMethod yX8_drops ∈ x_tbl := x_t6 (i := 28) (by decide +kernel) (by decide +kernel)
theorem wq_1323 : Cond.code yX8_drops cX8_drops 3 none ∈ x_tbl := x_t6 (i := 29) (by decide +kernel) (by decide +kernel)
theorem wq_1324 : Cond.methodLink RX8 122 yX8_goes ∈ x_tbl := x_t6 (i := 30) (by decide +kernel) (by decide +kernel)
theorem wq_1326 : Cond.instanceMethod yX8_goes ∈ x_tbl := x_t6 (i := 32) (by decide +kernel) (by decide +kernel)
theorem wq_1327 : Cond.code yX8_goes cX8_goes 3 none ∈ x_tbl := x_t6 (i := 33) (by decide +kernel) (by decide +kernel)
theorem wq_1328 : Cond.methodLink RL 41 yX8_move ∈ x_tbl := x_t6 (i := 34) (by decide +kernel) (by decide +kernel)
theorem wq_1329 : Cond.instanceMethod yX8_move ∈ x_tbl := x_t6 (i := 35) (by decide +kernel) (by decide +kernel)
theorem wq_1330 : Cond.selects RX8 yX8_move yX8_move ∈ x_tbl := x_t6 (i := 36) (by decide +kernel) (by decide +kernel)
theorem wq_1331 : Cond.code yX8_move cX8_move 3 (some .int) ∈ x_tbl := x_t6 (i := 37) (by decide +kernel) (by decide +kernel)
theorem wq_1332 : Cond.methodLink RX8 125 yX8_classOf ∈ x_tbl := x_t6 (i := 38) (by decide +kernel) (by decide +kernel)
theorem wq_1334 : Cond.instanceMethod yX8_classOf ∈ x_tbl := x_t6 (i := 40) (by decide +kernel) (by decide +kernel)
theorem wq_1335 : Cond.code yX8_classOf cX8_classOf 2 (some .int) ∈ x_tbl := x_t6 (i := 41) (by decide +kernel) (by decide +kernel)
theorem wq_1336 : Cond.methodLink RX8 128 yX8_becomes ∈ x_tbl := x_t6 (i := 42) (by decide +kernel) (by decide +kernel)
theorem wq_1338 : Cond.instanceMethod yX8_becomes ∈ x_tbl := x_t6 (i := 44) (by decide +kernel) (by decide +kernel)
theorem wq_1339 : Cond.code yX8_becomes cX8_becomes 4 (some .int) ∈ x_tbl := x_t6 (i := 45) (by decide +kernel) (by decide +kernel)
theorem wq_1340 : Cond.methodLink RL 45 yX8_insure ∈ x_tbl := x_t6 (i := 46) (by decide +kernel) (by decide +kernel)
theorem wq_1341 : Cond.instanceMethod yX8_insure ∈ x_tbl := x_t6 (i := 47) (by decide +kernel) (by decide +kernel)
theorem wq_1342 : Cond.selects RX8 yX8_insure yX8_insure ∈ x_tbl := x_t6 (i := 48) (by decide +kernel) (by decide +kernel)
theorem wq_1343 : Cond.code yX8_insure cX8_insure 3 (some .int) ∈ x_tbl := x_t6 (i := 49) (by decide +kernel) (by decide +kernel)
theorem wq_1344 : Cond.methodLink RX8 131 yX8_isYear ∈ x_tbl := x_t6 (i := 50) (by decide +kernel) (by decide +kernel)
theorem wq_1345 : Cond.static yX8_isYear ∈ x_tbl := x_t6 (i := 51) (by decide +kernel) (by decide +kernel)
theorem wq_1346 : Cond.code yX8_isYear cX8_isYear 1 (some .boolean) ∈ x_tbl := x_t6 (i := 52) (by decide +kernel) (by decide +kernel)
theorem wq_1347 : Cond.methodLink RX8 134 yX8_isInsured ∈ x_tbl := x_t6 (i := 53) (by decide +kernel) (by decide +kernel)
theorem wq_1349 : Cond.instanceMethod yX8_isInsured ∈ x_tbl := x_t6 (i := 55) (by decide +kernel) (by decide +kernel)
theorem wq_1350 : Cond.code yX8_isInsured cX8_isInsured 3 (some .boolean) ∈ x_tbl := x_t6 (i := 56) (by decide +kernel) (by decide +kernel)
theorem wq_1351 : Cond.methodLink RX8 91 yX8_yearsOf ∈ x_tbl := x_t6 (i := 57) (by decide +kernel) (by decide +kernel)
theorem wq_1353 : Cond.instanceMethod yX8_yearsOf ∈ x_tbl := x_t6 (i := 59) (by decide +kernel) (by decide +kernel)
theorem wq_1354 : Cond.code yX8_yearsOf cX8_yearsOf 2 (some .int) ∈ x_tbl := x_t6 (i := 60) (by decide +kernel) (by decide +kernel)
theorem wq_1355 : Cond.methodLink RX8 138 yX8_ones ∈ x_tbl := x_t6 (i := 61) (by decide +kernel) (by decide +kernel)
theorem wq_1356 : Cond.static yX8_ones ∈ x_tbl := x_t6 (i := 62) (by decide +kernel) (by decide +kernel)
theorem wq_1357 : Cond.code yX8_ones cX8_ones 3 (some .int) ∈ x_tbl := x_t6 (i := 63) (by decide +kernel) (by decide +kernel)
theorem wq_1358 : Cond.methodLink RL 49 yX8_lapse ∈ x_tbl := x_t6 (i := 64) (by decide +kernel) (by decide +kernel)
theorem wq_1359 : Cond.instanceMethod yX8_lapse ∈ x_tbl := x_t6 (i := 65) (by decide +kernel) (by decide +kernel)
theorem wq_1360 : Cond.selects RX8 yX8_lapse yX8_lapse ∈ x_tbl := x_t6 (i := 66) (by decide +kernel) (by decide +kernel)
theorem wq_1361 : Cond.code yX8_lapse cX8_lapse 3 (some .int) ∈ x_tbl := x_t6 (i := 67) (by decide +kernel) (by decide +kernel)
theorem wq_1362 : Cond.methodLink RL 53 yX8_forget ∈ x_tbl := x_t6 (i := 68) (by decide +kernel) (by decide +kernel)
theorem wq_1363 : Cond.instanceMethod yX8_forget ∈ x_tbl := x_t6 (i := 69) (by decide +kernel) (by decide +kernel)
theorem wq_1364 : Cond.selects RX8 yX8_forget yX8_forget ∈ x_tbl := x_t6 (i := 70) (by decide +kernel) (by decide +kernel)
theorem wq_1365 : Cond.code yX8_forget cX8_forget 4 (some .int) ∈ x_tbl := x_t6 (i := 71) (by decide +kernel) (by decide +kernel)
theorem wq_1366 : Cond.methodLink RL 58 yX8_claim ∈ x_tbl := x_t6 (i := 72) (by decide +kernel) (by decide +kernel)
theorem wq_1367 : Cond.instanceMethod yX8_claim ∈ x_tbl := x_t6 (i := 73) (by decide +kernel) (by decide +kernel)
theorem wq_1368 : Cond.selects RX8 yX8_claim yX8_claim ∈ x_tbl := x_t6 (i := 74) (by decide +kernel) (by decide +kernel)
theorem wq_1369 : Cond.code yX8_claim cX8_claim 5 (some .int) ∈ x_tbl := x_t6 (i := 75) (by decide +kernel) (by decide +kernel)
theorem wq_1370 : Cond.methodLink RX8 141 yX8_isAmount ∈ x_tbl := x_t6 (i := 76) (by decide +kernel) (by decide +kernel)
theorem wq_1371 : Cond.static yX8_isAmount ∈ x_tbl := x_t6 (i := 77) (by decide +kernel) (by decide +kernel)
theorem wq_1372 : Cond.code yX8_isAmount cX8_isAmount 1 (some .boolean) ∈ x_tbl := x_t6 (i := 78) (by decide +kernel) (by decide +kernel)
theorem wq_1373 : Cond.methodLink RX8 144 yX8_claimsOf ∈ x_tbl := x_t6 (i := 79) (by decide +kernel) (by decide +kernel)
theorem wq_1375 : Cond.instanceMethod yX8_claimsOf ∈ x_tbl := x_t6 (i := 81) (by decide +kernel) (by decide +kernel)
theorem wq_1376 : Cond.code yX8_claimsOf cX8_claimsOf 5 (some .int) ∈ x_tbl := x_t6 (i := 82) (by decide +kernel) (by decide +kernel)
theorem wq_1377 : Cond.methodLink RL 62 yX8_waive ∈ x_tbl := x_t6 (i := 83) (by decide +kernel) (by decide +kernel)
theorem wq_1378 : Cond.instanceMethod yX8_waive ∈ x_tbl := x_t6 (i := 84) (by decide +kernel) (by decide +kernel)
theorem wq_1379 : Cond.selects RX8 yX8_waive yX8_waive ∈ x_tbl := x_t6 (i := 85) (by decide +kernel) (by decide +kernel)
theorem wq_1380 : Cond.code yX8_waive cX8_waive 2 (some .boolean) ∈ x_tbl := x_t6 (i := 86) (by decide +kernel) (by decide +kernel)
theorem wq_1381 : Cond.methodLink RX8 147 yX8_isClaim ∈ x_tbl := x_t6 (i := 87) (by decide +kernel) (by decide +kernel)
theorem wq_1383 : Cond.instanceMethod yX8_isClaim ∈ x_tbl := x_t6 (i := 89) (by decide +kernel) (by decide +kernel)
theorem wq_1384 : Cond.code yX8_isClaim cX8_isClaim 2 (some .boolean) ∈ x_tbl := x_t6 (i := 90) (by decide +kernel) (by decide +kernel)
theorem wq_1385 : Cond.methodLink RL 66 yX8_amend ∈ x_tbl := x_t6 (i := 91) (by decide +kernel) (by decide +kernel)
theorem wq_1386 : Cond.instanceMethod yX8_amend ∈ x_tbl := x_t6 (i := 92) (by decide +kernel) (by decide +kernel)
theorem wq_1387 : Cond.selects RX8 yX8_amend yX8_amend ∈ x_tbl := x_t6 (i := 93) (by decide +kernel) (by decide +kernel)
theorem wq_1388 : Cond.code yX8_amend cX8_amend 3 (some .int) ∈ x_tbl := x_t6 (i := 94) (by decide +kernel) (by decide +kernel)
theorem wq_1389 : Cond.methodLink RX8 95 yX8_amountOf ∈ x_tbl := x_t6 (i := 95) (by decide +kernel) (by decide +kernel)
theorem wq_1391 : Cond.instanceMethod yX8_amountOf ∈ x_tbl := x_t6 (i := 97) (by decide +kernel) (by decide +kernel)
theorem wq_1392 : Cond.code yX8_amountOf cX8_amountOf 2 (some .int) ∈ x_tbl := x_t6 (i := 98) (by decide +kernel) (by decide +kernel)
theorem wq_1393 : Cond.methodLink RL 70 yX8_join ∈ x_tbl := x_t6 (i := 99) (by decide +kernel) (by decide +kernel)
theorem wq_1394 : Cond.instanceMethod yX8_join ∈ x_tbl := x_t6 (i := 100) (by decide +kernel) (by decide +kernel)
theorem wq_1395 : Cond.selects RX8 yX8_join yX8_join ∈ x_tbl := x_t6 (i := 101) (by decide +kernel) (by decide +kernel)
theorem wq_1396 : Cond.code yX8_join cX8_join 5 (some .int) ∈ x_tbl := x_t6 (i := 102) (by decide +kernel) (by decide +kernel)
theorem wq_1397 : Cond.methodLink RX8 150 yX8_joins ∈ x_tbl := x_t6 (i := 103) (by decide +kernel) (by decide +kernel)
theorem wq_1399 : Cond.instanceMethod yX8_joins ∈ x_tbl := x_t6 (i := 105) (by decide +kernel) (by decide +kernel)
theorem wq_1400 : Cond.code yX8_joins cX8_joins 4 none ∈ x_tbl := x_t6 (i := 106) (by decide +kernel) (by decide +kernel)
theorem wq_1401 : Cond.methodLink RL 75 yX8_swap ∈ x_tbl := x_t6 (i := 107) (by decide +kernel) (by decide +kernel)
theorem wq_1402 : Cond.instanceMethod yX8_swap ∈ x_tbl := x_t6 (i := 108) (by decide +kernel) (by decide +kernel)
theorem wq_1403 : Cond.selects RX8 yX8_swap yX8_swap ∈ x_tbl := x_t6 (i := 109) (by decide +kernel) (by decide +kernel)
theorem wq_1404 : Cond.code yX8_swap cX8_swap 5 (some .boolean) ∈ x_tbl := x_t6 (i := 110) (by decide +kernel) (by decide +kernel)
theorem wq_1405 : Cond.methodLink RL 79 yX8_scale ∈ x_tbl := x_t6 (i := 111) (by decide +kernel) (by decide +kernel)
theorem wq_1406 : Cond.instanceMethod yX8_scale ∈ x_tbl := x_t6 (i := 112) (by decide +kernel) (by decide +kernel)
theorem wq_1407 : Cond.selects RX8 yX8_scale yX8_scale ∈ x_tbl := x_t6 (i := 113) (by decide +kernel) (by decide +kernel)
theorem wq_1408 : Cond.code yX8_scale cX8_scale 5 (some .int) ∈ x_tbl := x_t6 (i := 114) (by decide +kernel) (by decide +kernel)
theorem wq_1409 : Cond.methodLink RX8 154 yX8_scaled ∈ x_tbl := x_t6 (i := 115) (by decide +kernel) (by decide +kernel)
theorem wq_1410 : Cond.static yX8_scaled ∈ x_tbl := x_t6 (i := 116) (by decide +kernel) (by decide +kernel)
theorem wq_1411 : Cond.code yX8_scaled cX8_scaled 3 (some .int) ∈ x_tbl := x_t6 (i := 117) (by decide +kernel) (by decide +kernel)
theorem wq_1412 : Cond.methodLink RL 83 yX8_split ∈ x_tbl := x_t6 (i := 118) (by decide +kernel) (by decide +kernel)
theorem wq_1413 : Cond.instanceMethod yX8_split ∈ x_tbl := x_t6 (i := 119) (by decide +kernel) (by decide +kernel)
theorem wq_1414 : Cond.selects RX8 yX8_split yX8_split ∈ x_tbl := x_t6 (i := 120) (by decide +kernel) (by decide +kernel)
theorem wq_1415 : Cond.code yX8_split cX8_split 5 (some .int) ∈ x_tbl := x_t6 (i := 121) (by decide +kernel) (by decide +kernel)
theorem wq_1416 : Cond.methodLink RL 87 yX8_merge ∈ x_tbl := x_t6 (i := 122) (by decide +kernel) (by decide +kernel)
theorem wq_1417 : Cond.instanceMethod yX8_merge ∈ x_tbl := x_t6 (i := 123) (by decide +kernel) (by decide +kernel)
theorem wq_1418 : Cond.selects RX8 yX8_merge yX8_merge ∈ x_tbl := x_t6 (i := 124) (by decide +kernel) (by decide +kernel)
theorem wq_1419 : Cond.code yX8_merge cX8_merge 4 (some .int) ∈ x_tbl := x_t6 (i := 125) (by decide +kernel) (by decide +kernel)
theorem wq_1420 : Cond.methodLink RL 91 yX8_cap ∈ x_tbl := x_t6 (i := 126) (by decide +kernel) (by decide +kernel)
theorem wq_1421 : Cond.instanceMethod yX8_cap ∈ x_tbl := x_t6 (i := 127) (by decide +kernel) (by decide +kernel)
theorem wq_1422 : Cond.selects RX8 yX8_cap yX8_cap ∈ x_tbl := x_t6 (i := 128) (by decide +kernel) (by decide +kernel)
theorem wq_1423 : Cond.code yX8_cap cX8_cap 2 (some .int) ∈ x_tbl := x_t6 (i := 129) (by decide +kernel) (by decide +kernel)
theorem wq_1424 : Cond.methodLink RL 95 yX8_steady ∈ x_tbl := x_t6 (i := 130) (by decide +kernel) (by decide +kernel)
theorem wq_1425 : Cond.instanceMethod yX8_steady ∈ x_tbl := x_t6 (i := 131) (by decide +kernel) (by decide +kernel)
theorem wq_1426 : Cond.selects RX8 yX8_steady yX8_steady ∈ x_tbl := x_t6 (i := 132) (by decide +kernel) (by decide +kernel)
theorem wq_1427 : Cond.code yX8_steady cX8_steady 2 (some .int) ∈ x_tbl := x_t6 (i := 133) (by decide +kernel) (by decide +kernel)
theorem wq_1428 : Cond.methodLink RL 99 yX8_undo ∈ x_tbl := x_t6 (i := 134) (by decide +kernel) (by decide +kernel)
theorem wq_1429 : Cond.instanceMethod yX8_undo ∈ x_tbl := x_t6 (i := 135) (by decide +kernel) (by decide +kernel)
theorem wq_1430 : Cond.selects RX8 yX8_undo yX8_undo ∈ x_tbl := x_t6 (i := 136) (by decide +kernel) (by decide +kernel)
theorem wq_1431 : Cond.code yX8_undo cX8_undo 2 (some .int) ∈ x_tbl := x_t6 (i := 137) (by decide +kernel) (by decide +kernel)
theorem wq_1432 : Cond.methodLink RL 103 yX8_of ∈ x_tbl := x_t6 (i := 138) (by decide +kernel) (by decide +kernel)
theorem wq_1433 : Cond.instanceMethod yX8_of ∈ x_tbl := x_t6 (i := 139) (by decide +kernel) (by decide +kernel)
theorem wq_1434 : Cond.selects RX8 yX8_of yX8_of ∈ x_tbl := x_t6 (i := 140) (by decide +kernel) (by decide +kernel)
theorem wq_1435 : Cond.code yX8_of cX8_of 3 (some .int) ∈ x_tbl := x_t6 (i := 141) (by decide +kernel) (by decide +kernel)
theorem wq_1436 : Cond.methodLink RX8 221 yX8_works ∈ x_tbl := x_t6 (i := 142) (by decide +kernel) (by decide +kernel)
theorem wq_1438 : Cond.instanceMethod yX8_works ∈ x_tbl := x_t6 (i := 144) (by decide +kernel) (by decide +kernel)
theorem wq_1439 : Cond.code yX8_works cX8_works 3 none ∈ x_tbl := x_t6 (i := 145) (by decide +kernel) (by decide +kernel)
theorem wq_1440 : Cond.methodLink RX8 206 yX8_sums ∈ x_tbl := x_t6 (i := 146) (by decide +kernel) (by decide +kernel)
theorem wq_1442 : Cond.instanceMethod yX8_sums ∈ x_tbl := x_t6 (i := 148) (by decide +kernel) (by decide +kernel)
theorem wq_1443 : Cond.code yX8_sums cX8_sums 6 none ∈ x_tbl := x_t6 (i := 149) (by decide +kernel) (by decide +kernel)
theorem wq_1444 : Cond.methodLink RX8 175 yX8_lossIn ∈ x_tbl := x_t6 (i := 150) (by decide +kernel) (by decide +kernel)
theorem wq_1446 : Cond.instanceMethod yX8_lossIn ∈ x_tbl := x_t6 (i := 152) (by decide +kernel) (by decide +kernel)
theorem wq_1447 : Cond.code yX8_lossIn cX8_lossIn 5 (some .int) ∈ x_tbl := x_t6 (i := 153) (by decide +kernel) (by decide +kernel)
theorem wq_1448 : Cond.methodLink RX8 172 yX8_counted ∈ x_tbl := x_t6 (i := 154) (by decide +kernel) (by decide +kernel)
theorem wq_1450 : Cond.instanceMethod yX8_counted ∈ x_tbl := x_t6 (i := 156) (by decide +kernel) (by decide +kernel)
theorem wq_1451 : Cond.code yX8_counted cX8_counted 2 (some .int) ∈ x_tbl := x_t6 (i := 157) (by decide +kernel) (by decide +kernel)
theorem wq_1452 : Cond.methodLink RX8 168 yX8_is ∈ x_tbl := x_t6 (i := 158) (by decide +kernel) (by decide +kernel)
theorem wq_1454 : Cond.instanceMethod yX8_is ∈ x_tbl := x_t6 (i := 160) (by decide +kernel) (by decide +kernel)
theorem wq_1455 : Cond.code yX8_is cX8_is 7 none ∈ x_tbl := x_t6 (i := 161) (by decide +kernel) (by decide +kernel)
theorem wq_1456 : Cond.methodLink RX8 157 yX8_common ∈ x_tbl := x_t6 (i := 162) (by decide +kernel) (by decide +kernel)
theorem wq_1457 : Cond.static yX8_common ∈ x_tbl := x_t6 (i := 163) (by decide +kernel) (by decide +kernel)
theorem wq_1458 : Cond.code yX8_common cX8_common 10 (some .long) ∈ x_tbl := x_t6 (i := 164) (by decide +kernel) (by decide +kernel)
theorem wq_1459 : Cond.methodLink RX8 209 yX8_spreads ∈ x_tbl := x_t6 (i := 165) (by decide +kernel) (by decide +kernel)
theorem wq_1461 : Cond.instanceMethod yX8_spreads ∈ x_tbl := x_t6 (i := 167) (by decide +kernel) (by decide +kernel)
theorem wq_1462 : Cond.code yX8_spreads cX8_spreads 14 none ∈ x_tbl := x_t6 (i := 168) (by decide +kernel) (by decide +kernel)
theorem wq_1463 : Cond.methodLink RX8 184 yX8_isIn ∈ x_tbl := x_t6 (i := 169) (by decide +kernel) (by decide +kernel)
theorem wq_1465 : Cond.instanceMethod yX8_isIn ∈ x_tbl := x_t6 (i := 171) (by decide +kernel) (by decide +kernel)
theorem wq_1466 : Cond.code yX8_isIn cX8_isIn 3 (some .boolean) ∈ x_tbl := x_t6 (i := 172) (by decide +kernel) (by decide +kernel)
theorem wq_1467 : Cond.methodLink RX8 187 yX8_adds ∈ x_tbl := x_t6 (i := 173) (by decide +kernel) (by decide +kernel)
theorem wq_1469 : Cond.instanceMethod yX8_adds ∈ x_tbl := x_t6 (i := 175) (by decide +kernel) (by decide +kernel)
theorem wq_1470 : Cond.code yX8_adds cX8_adds 11 none ∈ x_tbl := x_t6 (i := 176) (by decide +kernel) (by decide +kernel)
theorem wq_1471 : Cond.methodLink RX8 191 yX8_multiplies ∈ x_tbl := x_t6 (i := 177) (by decide +kernel) (by decide +kernel)
theorem wq_1473 : Cond.instanceMethod yX8_multiplies ∈ x_tbl := x_t6 (i := 179) (by decide +kernel) (by decide +kernel)
theorem wq_1474 : Cond.code yX8_multiplies cX8_multiplies 13 none ∈ x_tbl := x_t6 (i := 180) (by decide +kernel) (by decide +kernel)
theorem wq_1475 : Cond.methodLink RX8 194 yX8_puts ∈ x_tbl := x_t6 (i := 181) (by decide +kernel) (by decide +kernel)
theorem wq_1477 : Cond.instanceMethod yX8_puts ∈ x_tbl := x_t6 (i := 183) (by decide +kernel) (by decide +kernel)
theorem wq_1478 : Cond.code yX8_puts cX8_puts 3 none ∈ x_tbl := x_t6 (i := 184) (by decide +kernel) (by decide +kernel)
theorem wq_1479 : Cond.methodLink RX8 212 yX8_shareOf ∈ x_tbl := x_t6 (i := 185) (by decide +kernel) (by decide +kernel)
theorem wq_1481 : Cond.instanceMethod yX8_shareOf ∈ x_tbl := x_t6 (i := 187) (by decide +kernel) (by decide +kernel)
theorem wq_1482 : Cond.code yX8_shareOf cX8_shareOf 8 (some .int) ∈ x_tbl := x_t6 (i := 188) (by decide +kernel) (by decide +kernel)
theorem wq_1483 : Cond.constantLong RX8 197 1000 ∈ x_tbl := x_t6 (i := 189) (by decide +kernel) (by decide +kernel)
theorem wq_1484 : Cond.methodLink RX8 215 yX8_centres ∈ x_tbl := x_t6 (i := 190) (by decide +kernel) (by decide +kernel)
theorem wq_1486 : Cond.instanceMethod yX8_centres ∈ x_tbl := x_t6 (i := 192) (by decide +kernel) (by decide +kernel)
theorem wq_1487 : Cond.code yX8_centres cX8_centres 8 none ∈ x_tbl := x_t6 (i := 193) (by decide +kernel) (by decide +kernel)
theorem wq_1488 : Cond.methodLink RX8 199 yX8_shares ∈ x_tbl := x_t6 (i := 194) (by decide +kernel) (by decide +kernel)
theorem wq_1490 : Cond.instanceMethod yX8_shares ∈ x_tbl := x_t6 (i := 196) (by decide +kernel) (by decide +kernel)
theorem wq_1491 : Cond.code yX8_shares cX8_shares 4 (some .int) ∈ x_tbl := x_t6 (i := 197) (by decide +kernel) (by decide +kernel)
theorem wq_1492 : Cond.methodLink RX8 202 yX8_mixes ∈ x_tbl := x_t6 (i := 198) (by decide +kernel) (by decide +kernel)
theorem wq_1494 : Cond.instanceMethod yX8_mixes ∈ x_tbl := x_t6 (i := 200) (by decide +kernel) (by decide +kernel)
theorem wq_1495 : Cond.code yX8_mixes cX8_mixes 14 none ∈ x_tbl := x_t6 (i := 201) (by decide +kernel) (by decide +kernel)
theorem wq_1496 : Cond.methodLink RX8 218 yX8_rates ∈ x_tbl := x_t6 (i := 202) (by decide +kernel) (by decide +kernel)
theorem wq_1498 : Cond.instanceMethod yX8_rates ∈ x_tbl := x_t6 (i := 204) (by decide +kernel) (by decide +kernel)
theorem wq_1499 : Cond.code yX8_rates cX8_rates 7 none ∈ x_tbl := x_t6 (i := 205) (by decide +kernel) (by decide +kernel)
theorem wq_1500 : Cond.methodLink RX8 227 yX8_aboveCap ∈ x_tbl := x_t6 (i := 206) (by decide +kernel) (by decide +kernel)
theorem wq_1502 : Cond.instanceMethod yX8_aboveCap ∈ x_tbl := x_t6 (i := 208) (by decide +kernel) (by decide +kernel)
theorem wq_1503 : Cond.code yX8_aboveCap cX8_aboveCap 4 (some .int) ∈ x_tbl := x_t6 (i := 209) (by decide +kernel) (by decide +kernel)
theorem wq_1504 : Cond.methodLink RL 107 yX8_loss ∈ x_tbl := x_t6 (i := 210) (by decide +kernel) (by decide +kernel)
theorem wq_1505 : Cond.instanceMethod yX8_loss ∈ x_tbl := x_t6 (i := 211) (by decide +kernel) (by decide +kernel)
theorem wq_1506 : Cond.selects RX8 yX8_loss yX8_loss ∈ x_tbl := x_t6 (i := 212) (by decide +kernel) (by decide +kernel)
theorem wq_1507 : Cond.code yX8_loss cX8_loss 3 (some .int) ∈ x_tbl := x_t6 (i := 213) (by decide +kernel) (by decide +kernel)
theorem wq_1508 : Cond.methodLink RL 111 yX8_claimOf ∈ x_tbl := x_t6 (i := 214) (by decide +kernel) (by decide +kernel)
theorem wq_1509 : Cond.instanceMethod yX8_claimOf ∈ x_tbl := x_t6 (i := 215) (by decide +kernel) (by decide +kernel)
theorem wq_1510 : Cond.selects RX8 yX8_claimOf yX8_claimOf ∈ x_tbl := x_t6 (i := 216) (by decide +kernel) (by decide +kernel)
theorem wq_1511 : Cond.code yX8_claimOf cX8_claimOf 3 (some .int) ∈ x_tbl := x_t6 (i := 217) (by decide +kernel) (by decide +kernel)
theorem wq_1512 : Cond.methodLink RL 115 yX8_group ∈ x_tbl := x_t6 (i := 218) (by decide +kernel) (by decide +kernel)
theorem wq_1513 : Cond.instanceMethod yX8_group ∈ x_tbl := x_t6 (i := 219) (by decide +kernel) (by decide +kernel)
theorem wq_1514 : Cond.selects RX8 yX8_group yX8_group ∈ x_tbl := x_t6 (i := 220) (by decide +kernel) (by decide +kernel)
theorem wq_1515 : Cond.code yX8_group cX8_group 5 (some .int) ∈ x_tbl := x_t6 (i := 221) (by decide +kernel) (by decide +kernel)
theorem wq_1516 : Cond.methodLink RL 120 yX8_spread ∈ x_tbl := x_t6 (i := 222) (by decide +kernel) (by decide +kernel)
theorem wq_1517 : Cond.instanceMethod yX8_spread ∈ x_tbl := x_t6 (i := 223) (by decide +kernel) (by decide +kernel)
theorem wq_1518 : Cond.selects RX8 yX8_spread yX8_spread ∈ x_tbl := x_t6 (i := 224) (by decide +kernel) (by decide +kernel)
theorem wq_1519 : Cond.code yX8_spread cX8_spread 4 (some .long) ∈ x_tbl := x_t6 (i := 225) (by decide +kernel) (by decide +kernel)
theorem wq_1520 : Cond.constantLong RX8 230 (-1000000000) ∈ x_tbl := x_t6 (i := 226) (by decide +kernel) (by decide +kernel)
theorem wq_1521 : Cond.methodLink RX8 232 yX8_spreadNow ∈ x_tbl := x_t6 (i := 227) (by decide +kernel) (by decide +kernel)
theorem wq_1523 : Cond.instanceMethod yX8_spreadNow ∈ x_tbl := x_t6 (i := 229) (by decide +kernel) (by decide +kernel)
theorem wq_1524 : Cond.code yX8_spreadNow cX8_spreadNow 5 (some .long) ∈ x_tbl := x_t6 (i := 230) (by decide +kernel) (by decide +kernel)
theorem wq_1525 : Cond.methodLink RL 125 yX8_whole ∈ x_tbl := x_t6 (i := 231) (by decide +kernel) (by decide +kernel)
theorem wq_1526 : Cond.instanceMethod yX8_whole ∈ x_tbl := x_t6 (i := 232) (by decide +kernel) (by decide +kernel)
theorem wq_1527 : Cond.selects RX8 yX8_whole yX8_whole ∈ x_tbl := x_t6 (i := 233) (by decide +kernel) (by decide +kernel)
theorem wq_1528 : Cond.code yX8_whole cX8_whole 2 (some .long) ∈ x_tbl := x_t6 (i := 234) (by decide +kernel) (by decide +kernel)
theorem wq_1529 : Cond.methodLink RL 130 yX8_rate ∈ x_tbl := x_t6 (i := 235) (by decide +kernel) (by decide +kernel)
theorem wq_1530 : Cond.instanceMethod yX8_rate ∈ x_tbl := x_t6 (i := 236) (by decide +kernel) (by decide +kernel)
theorem wq_1531 : Cond.selects RX8 yX8_rate yX8_rate ∈ x_tbl := x_t6 (i := 237) (by decide +kernel) (by decide +kernel)
theorem wq_1532 : Cond.code yX8_rate cX8_rate 3 (some .long) ∈ x_tbl := x_t6 (i := 238) (by decide +kernel) (by decide +kernel)
theorem wq_1533 : Cond.methodLink RX8 236 yX8_isRated ∈ x_tbl := x_t6 (i := 239) (by decide +kernel) (by decide +kernel)
theorem wq_1535 : Cond.instanceMethod yX8_isRated ∈ x_tbl := x_t7 (i := 1) (by decide +kernel) (by decide +kernel)
theorem wq_1536 : Cond.code yX8_isRated cX8_isRated 2 (some .boolean) ∈ x_tbl := x_t7 (i := 2) (by decide +kernel) (by decide +kernel)
theorem wq_1537 : Cond.methodLink RL 134 yX8_thousandths ∈ x_tbl := x_t7 (i := 3) (by decide +kernel) (by decide +kernel)
theorem wq_1538 : Cond.instanceMethod yX8_thousandths ∈ x_tbl := x_t7 (i := 4) (by decide +kernel) (by decide +kernel)
theorem wq_1539 : Cond.selects RX8 yX8_thousandths yX8_thousandths ∈ x_tbl := x_t7 (i := 5) (by decide +kernel) (by decide +kernel)
theorem wq_1540 : Cond.code yX8_thousandths cX8_thousandths 2 (some .int) ∈ x_tbl := x_t7 (i := 6) (by decide +kernel) (by decide +kernel)
theorem wq_1541 : Cond.methodLink RX8 239 yX8_ratedNow ∈ x_tbl := x_t7 (i := 7) (by decide +kernel) (by decide +kernel)
theorem wq_1543 : Cond.instanceMethod yX8_ratedNow ∈ x_tbl := x_t7 (i := 9) (by decide +kernel) (by decide +kernel)
theorem wq_1544 : Cond.code yX8_ratedNow cX8_ratedNow 2 (some .int) ∈ x_tbl := x_t7 (i := 10) (by decide +kernel) (by decide +kernel)
theorem wq_1545 : Cond.methodLink RX8 224 yX8_inThousandths ∈ x_tbl := x_t7 (i := 11) (by decide +kernel) (by decide +kernel)
theorem wq_1547 : Cond.instanceMethod yX8_inThousandths ∈ x_tbl := x_t7 (i := 13) (by decide +kernel) (by decide +kernel)
theorem wq_1548 : Cond.code yX8_inThousandths cX8_inThousandths 2 (some .int) ∈ x_tbl := x_t7 (i := 14) (by decide +kernel) (by decide +kernel)
theorem wq_1549 : Cond.methodLink RL 138 yX8_ranked ∈ x_tbl := x_t7 (i := 15) (by decide +kernel) (by decide +kernel)
theorem wq_1550 : Cond.instanceMethod yX8_ranked ∈ x_tbl := x_t7 (i := 16) (by decide +kernel) (by decide +kernel)
theorem wq_1551 : Cond.selects RX8 yX8_ranked yX8_ranked ∈ x_tbl := x_t7 (i := 17) (by decide +kernel) (by decide +kernel)
theorem wq_1552 : Cond.code yX8_ranked cX8_ranked 5 (some .int) ∈ x_tbl := x_t7 (i := 18) (by decide +kernel) (by decide +kernel)
theorem wq_1553 : Cond.methodLink RX8 246 yX8_isAhead ∈ x_tbl := x_t7 (i := 19) (by decide +kernel) (by decide +kernel)
theorem wq_1555 : Cond.instanceMethod yX8_isAhead ∈ x_tbl := x_t7 (i := 21) (by decide +kernel) (by decide +kernel)
theorem wq_1556 : Cond.code yX8_isAhead cX8_isAhead 3 (some .boolean) ∈ x_tbl := x_t7 (i := 22) (by decide +kernel) (by decide +kernel)
theorem wq_1557 : Cond.methodLink RX8 242 yX8_isLess ∈ x_tbl := x_t7 (i := 23) (by decide +kernel) (by decide +kernel)
theorem wq_1558 : Cond.static yX8_isLess ∈ x_tbl := x_t7 (i := 24) (by decide +kernel) (by decide +kernel)
theorem wq_1559 : Cond.code yX8_isLess cX8_isLess 21 (some .boolean) ∈ x_tbl := x_t7 (i := 25) (by decide +kernel) (by decide +kernel)
theorem wq_1560 : Cond.methodLink RL 142 yX8_greatest ∈ x_tbl := x_t7 (i := 26) (by decide +kernel) (by decide +kernel)
theorem wq_1561 : Cond.instanceMethod yX8_greatest ∈ x_tbl := x_t7 (i := 27) (by decide +kernel) (by decide +kernel)
theorem wq_1562 : Cond.selects RX8 yX8_greatest yX8_greatest ∈ x_tbl := x_t7 (i := 28) (by decide +kernel) (by decide +kernel)
theorem wq_1563 : Cond.code yX8_greatest cX8_greatest 6 (some .int) ∈ x_tbl := x_t7 (i := 29) (by decide +kernel) (by decide +kernel)
theorem wq_1564 : Cond.methodLink RX8 249 yX8_isGreater ∈ x_tbl := x_t7 (i := 30) (by decide +kernel) (by decide +kernel)
theorem wq_1566 : Cond.instanceMethod yX8_isGreater ∈ x_tbl := x_t7 (i := 32) (by decide +kernel) (by decide +kernel)
theorem wq_1567 : Cond.code yX8_isGreater cX8_isGreater 3 (some .boolean) ∈ x_tbl := x_t7 (i := 33) (by decide +kernel) (by decide +kernel)
theorem wq_1568 : Cond.methodLink RL 146 yX8_worst ∈ x_tbl := x_t7 (i := 34) (by decide +kernel) (by decide +kernel)
theorem wq_1569 : Cond.instanceMethod yX8_worst ∈ x_tbl := x_t7 (i := 35) (by decide +kernel) (by decide +kernel)
theorem wq_1570 : Cond.selects RX8 yX8_worst yX8_worst ∈ x_tbl := x_t7 (i := 36) (by decide +kernel) (by decide +kernel)
theorem wq_1571 : Cond.code yX8_worst cX8_worst 4 (some .int) ∈ x_tbl := x_t7 (i := 37) (by decide +kernel) (by decide +kernel)
theorem wq_1572 : Cond.methodLink RL 150 yX8_dearestOf ∈ x_tbl := x_t7 (i := 38) (by decide +kernel) (by decide +kernel)
theorem wq_1573 : Cond.instanceMethod yX8_dearestOf ∈ x_tbl := x_t7 (i := 39) (by decide +kernel) (by decide +kernel)
theorem wq_1574 : Cond.selects RX8 yX8_dearestOf yX8_dearestOf ∈ x_tbl := x_t7 (i := 40) (by decide +kernel) (by decide +kernel)
theorem wq_1575 : Cond.code yX8_dearestOf cX8_dearestOf 4 (some .int) ∈ x_tbl := x_t7 (i := 41) (by decide +kernel) (by decide +kernel)
theorem wq_1576 : Cond.methodLink RL 154 yX8_claimsIn ∈ x_tbl := x_t7 (i := 42) (by decide +kernel) (by decide +kernel)
theorem wq_1577 : Cond.instanceMethod yX8_claimsIn ∈ x_tbl := x_t7 (i := 43) (by decide +kernel) (by decide +kernel)
theorem wq_1578 : Cond.selects RX8 yX8_claimsIn yX8_claimsIn ∈ x_tbl := x_t7 (i := 44) (by decide +kernel) (by decide +kernel)
theorem wq_1579 : Cond.code yX8_claimsIn cX8_claimsIn 4 (some .int) ∈ x_tbl := x_t7 (i := 45) (by decide +kernel) (by decide +kernel)
theorem wq_1580 : Cond.methodLink RL 158 yX8_gap ∈ x_tbl := x_t7 (i := 46) (by decide +kernel) (by decide +kernel)
theorem wq_1581 : Cond.instanceMethod yX8_gap ∈ x_tbl := x_t7 (i := 47) (by decide +kernel) (by decide +kernel)
theorem wq_1582 : Cond.selects RX8 yX8_gap yX8_gap ∈ x_tbl := x_t7 (i := 48) (by decide +kernel) (by decide +kernel)
theorem wq_1583 : Cond.code yX8_gap cX8_gap 3 (some .int) ∈ x_tbl := x_t7 (i := 49) (by decide +kernel) (by decide +kernel)
theorem wq_1584 : Cond.constant RX8 252 (-1000000) ∈ x_tbl := x_t7 (i := 50) (by decide +kernel) (by decide +kernel)
theorem wq_1585 : Cond.methodLink RL 162 yX8_premium ∈ x_tbl := x_t7 (i := 51) (by decide +kernel) (by decide +kernel)
theorem wq_1586 : Cond.instanceMethod yX8_premium ∈ x_tbl := x_t7 (i := 52) (by decide +kernel) (by decide +kernel)
theorem wq_1587 : Cond.selects RX8 yX8_premium yX8_premium ∈ x_tbl := x_t7 (i := 53) (by decide +kernel) (by decide +kernel)
theorem wq_1588 : Cond.code yX8_premium cX8_premium 3 (some .int) ∈ x_tbl := x_t7 (i := 54) (by decide +kernel) (by decide +kernel)
theorem wq_1589 : Cond.methodLink RL 166 yX8_shareBy ∈ x_tbl := x_t7 (i := 55) (by decide +kernel) (by decide +kernel)
theorem wq_1590 : Cond.instanceMethod yX8_shareBy ∈ x_tbl := x_t7 (i := 56) (by decide +kernel) (by decide +kernel)
theorem wq_1591 : Cond.selects RX8 yX8_shareBy yX8_shareBy ∈ x_tbl := x_t7 (i := 57) (by decide +kernel) (by decide +kernel)
theorem wq_1592 : Cond.code yX8_shareBy cX8_shareBy 3 (some .int) ∈ x_tbl := x_t7 (i := 58) (by decide +kernel) (by decide +kernel)
theorem wq_1593 : Cond.methodLink RX8 253 yX8_sharedBy ∈ x_tbl := x_t7 (i := 59) (by decide +kernel) (by decide +kernel)
theorem wq_1595 : Cond.instanceMethod yX8_sharedBy ∈ x_tbl := x_t7 (i := 61) (by decide +kernel) (by decide +kernel)
theorem wq_1596 : Cond.code yX8_sharedBy cX8_sharedBy 3 (some .int) ∈ x_tbl := x_t7 (i := 62) (by decide +kernel) (by decide +kernel)
theorem wq_1597 : Cond.methodLink RL 170 yX8_yearsFor ∈ x_tbl := x_t7 (i := 63) (by decide +kernel) (by decide +kernel)
theorem wq_1598 : Cond.instanceMethod yX8_yearsFor ∈ x_tbl := x_t7 (i := 64) (by decide +kernel) (by decide +kernel)
theorem wq_1599 : Cond.selects RX8 yX8_yearsFor yX8_yearsFor ∈ x_tbl := x_t7 (i := 65) (by decide +kernel) (by decide +kernel)
theorem wq_1600 : Cond.code yX8_yearsFor cX8_yearsFor 4 (some .int) ∈ x_tbl := x_t7 (i := 66) (by decide +kernel) (by decide +kernel)
theorem wq_1601 : Cond.methodLink RL 174 yX8_inClass ∈ x_tbl := x_t7 (i := 67) (by decide +kernel) (by decide +kernel)
theorem wq_1602 : Cond.instanceMethod yX8_inClass ∈ x_tbl := x_t7 (i := 68) (by decide +kernel) (by decide +kernel)
theorem wq_1603 : Cond.selects RX8 yX8_inClass yX8_inClass ∈ x_tbl := x_t7 (i := 69) (by decide +kernel) (by decide +kernel)
theorem wq_1604 : Cond.code yX8_inClass cX8_inClass 3 (some .int) ∈ x_tbl := x_t7 (i := 70) (by decide +kernel) (by decide +kernel)
theorem wq_1605 : Cond.methodLink RX8 256 yX8_ratedBy ∈ x_tbl := x_t7 (i := 71) (by decide +kernel) (by decide +kernel)
theorem wq_1607 : Cond.instanceMethod yX8_ratedBy ∈ x_tbl := x_t7 (i := 73) (by decide +kernel) (by decide +kernel)
theorem wq_1608 : Cond.code yX8_ratedBy cX8_ratedBy 6 (some .int) ∈ x_tbl := x_t7 (i := 74) (by decide +kernel) (by decide +kernel)
theorem wq_1609 : Cond.methodLink RL 178 yX8_bestClass ∈ x_tbl := x_t7 (i := 75) (by decide +kernel) (by decide +kernel)
theorem wq_1610 : Cond.instanceMethod yX8_bestClass ∈ x_tbl := x_t7 (i := 76) (by decide +kernel) (by decide +kernel)
theorem wq_1611 : Cond.selects RX8 yX8_bestClass yX8_bestClass ∈ x_tbl := x_t7 (i := 77) (by decide +kernel) (by decide +kernel)
theorem wq_1612 : Cond.code yX8_bestClass cX8_bestClass 6 (some .int) ∈ x_tbl := x_t7 (i := 78) (by decide +kernel) (by decide +kernel)
theorem wq_1613 : Cond.methodLink RL 182 yX8_byCap ∈ x_tbl := x_t7 (i := 79) (by decide +kernel) (by decide +kernel)
theorem wq_1614 : Cond.instanceMethod yX8_byCap ∈ x_tbl := x_t7 (i := 80) (by decide +kernel) (by decide +kernel)
theorem wq_1615 : Cond.selects RX8 yX8_byCap yX8_byCap ∈ x_tbl := x_t7 (i := 81) (by decide +kernel) (by decide +kernel)
theorem wq_1616 : Cond.code yX8_byCap cX8_byCap 3 (some .int) ∈ x_tbl := x_t7 (i := 82) (by decide +kernel) (by decide +kernel)
theorem wq_1617 : Cond.methodLink RL 186 yX8_capFor ∈ x_tbl := x_t7 (i := 83) (by decide +kernel) (by decide +kernel)
theorem wq_1618 : Cond.instanceMethod yX8_capFor ∈ x_tbl := x_t7 (i := 84) (by decide +kernel) (by decide +kernel)
theorem wq_1619 : Cond.selects RX8 yX8_capFor yX8_capFor ∈ x_tbl := x_t7 (i := 85) (by decide +kernel) (by decide +kernel)
theorem wq_1620 : Cond.code yX8_capFor cX8_capFor 4 (some .int) ∈ x_tbl := x_t7 (i := 86) (by decide +kernel) (by decide +kernel)
theorem wq_1621 : Cond.methodLink RL 190 yX8_early ∈ x_tbl := x_t7 (i := 87) (by decide +kernel) (by decide +kernel)
theorem wq_1622 : Cond.instanceMethod yX8_early ∈ x_tbl := x_t7 (i := 88) (by decide +kernel) (by decide +kernel)
theorem wq_1623 : Cond.selects RX8 yX8_early yX8_early ∈ x_tbl := x_t7 (i := 89) (by decide +kernel) (by decide +kernel)
theorem wq_1624 : Cond.code yX8_early cX8_early 3 (some .int) ∈ x_tbl := x_t7 (i := 90) (by decide +kernel) (by decide +kernel)
theorem wq_1625 : Cond.methodLink RX8 272 yX8_earlier ∈ x_tbl := x_t7 (i := 91) (by decide +kernel) (by decide +kernel)
theorem wq_1627 : Cond.instanceMethod yX8_earlier ∈ x_tbl := x_t7 (i := 93) (by decide +kernel) (by decide +kernel)
theorem wq_1628 : Cond.code yX8_earlier cX8_earlier 5 (some .int) ∈ x_tbl := x_t7 (i := 94) (by decide +kernel) (by decide +kernel)
theorem wq_1629 : Cond.methodLink RX8 260 yX8_putsAside ∈ x_tbl := x_t7 (i := 95) (by decide +kernel) (by decide +kernel)
theorem wq_1631 : Cond.instanceMethod yX8_putsAside ∈ x_tbl := x_t7 (i := 97) (by decide +kernel) (by decide +kernel)
theorem wq_1632 : Cond.code yX8_putsAside cX8_putsAside 2 none ∈ x_tbl := x_t7 (i := 98) (by decide +kernel) (by decide +kernel)
theorem wq_1633 : Cond.methodLink RX8 263 yX8_ends ∈ x_tbl := x_t7 (i := 99) (by decide +kernel) (by decide +kernel)
theorem wq_1635 : Cond.instanceMethod yX8_ends ∈ x_tbl := x_t7 (i := 101) (by decide +kernel) (by decide +kernel)
theorem wq_1636 : Cond.code yX8_ends cX8_ends 4 none ∈ x_tbl := x_t7 (i := 102) (by decide +kernel) (by decide +kernel)
theorem wq_1637 : Cond.methodLink RX8 266 yX8_sharedNow ∈ x_tbl := x_t7 (i := 103) (by decide +kernel) (by decide +kernel)
theorem wq_1639 : Cond.instanceMethod yX8_sharedNow ∈ x_tbl := x_t7 (i := 105) (by decide +kernel) (by decide +kernel)
theorem wq_1640 : Cond.code yX8_sharedNow cX8_sharedNow 2 (some .int) ∈ x_tbl := x_t7 (i := 106) (by decide +kernel) (by decide +kernel)
theorem wq_1641 : Cond.methodLink RX8 269 yX8_takesBack ∈ x_tbl := x_t7 (i := 107) (by decide +kernel) (by decide +kernel)
theorem wq_1643 : Cond.instanceMethod yX8_takesBack ∈ x_tbl := x_t7 (i := 109) (by decide +kernel) (by decide +kernel)
theorem wq_1644 : Cond.code yX8_takesBack cX8_takesBack 2 none ∈ x_tbl := x_t7 (i := 110) (by decide +kernel) (by decide +kernel)
theorem wq_1645 : Cond.methodLink RL 194 yX8_earlyShare ∈ x_tbl := x_t7 (i := 111) (by decide +kernel) (by decide +kernel)
theorem wq_1646 : Cond.instanceMethod yX8_earlyShare ∈ x_tbl := x_t7 (i := 112) (by decide +kernel) (by decide +kernel)
theorem wq_1647 : Cond.selects RX8 yX8_earlyShare yX8_earlyShare ∈ x_tbl := x_t7 (i := 113) (by decide +kernel) (by decide +kernel)
theorem wq_1648 : Cond.code yX8_earlyShare cX8_earlyShare 3 (some .int) ∈ x_tbl := x_t7 (i := 114) (by decide +kernel) (by decide +kernel)
theorem wq_1649 : Cond.methodLink RL 198 yX8_withoutFleet ∈ x_tbl := x_t7 (i := 115) (by decide +kernel) (by decide +kernel)
theorem wq_1650 : Cond.instanceMethod yX8_withoutFleet ∈ x_tbl := x_t7 (i := 116) (by decide +kernel) (by decide +kernel)
theorem wq_1651 : Cond.selects RX8 yX8_withoutFleet yX8_withoutFleet ∈ x_tbl := x_t7 (i := 117) (by decide +kernel) (by decide +kernel)
theorem wq_1652 : Cond.code yX8_withoutFleet cX8_withoutFleet 4 (some .int) ∈ x_tbl := x_t7 (i := 118) (by decide +kernel) (by decide +kernel)
theorem wq_1653 : Cond.methodLink RL 203 yX8_joined ∈ x_tbl := x_t7 (i := 119) (by decide +kernel) (by decide +kernel)
theorem wq_1654 : Cond.instanceMethod yX8_joined ∈ x_tbl := x_t7 (i := 120) (by decide +kernel) (by decide +kernel)
theorem wq_1655 : Cond.selects RX8 yX8_joined yX8_joined ∈ x_tbl := x_t7 (i := 121) (by decide +kernel) (by decide +kernel)
theorem wq_1656 : Cond.code yX8_joined cX8_joined 7 (some .long) ∈ x_tbl := x_t7 (i := 122) (by decide +kernel) (by decide +kernel)
theorem wq_1657 : Cond.methodLink RL 207 yX8_withoutClaim ∈ x_tbl := x_t7 (i := 123) (by decide +kernel) (by decide +kernel)
theorem wq_1658 : Cond.instanceMethod yX8_withoutClaim ∈ x_tbl := x_t7 (i := 124) (by decide +kernel) (by decide +kernel)
theorem wq_1659 : Cond.selects RX8 yX8_withoutClaim yX8_withoutClaim ∈ x_tbl := x_t7 (i := 125) (by decide +kernel) (by decide +kernel)
theorem wq_1660 : Cond.code yX8_withoutClaim cX8_withoutClaim 3 (some .int) ∈ x_tbl := x_t7 (i := 126) (by decide +kernel) (by decide +kernel)
theorem wq_1661 : Cond.methodLink RX8 276 yX8_ratedWithout ∈ x_tbl := x_t7 (i := 127) (by decide +kernel) (by decide +kernel)
theorem wq_1663 : Cond.instanceMethod yX8_ratedWithout ∈ x_tbl := x_t7 (i := 129) (by decide +kernel) (by decide +kernel)
theorem wq_1664 : Cond.code yX8_ratedWithout cX8_ratedWithout 4 (some .int) ∈ x_tbl := x_t7 (i := 130) (by decide +kernel) (by decide +kernel)
theorem wq_1665 : Cond.methodLink RL 211 yX8_dearest ∈ x_tbl := x_t7 (i := 131) (by decide +kernel) (by decide +kernel)
theorem wq_1666 : Cond.instanceMethod yX8_dearest ∈ x_tbl := x_t7 (i := 132) (by decide +kernel) (by decide +kernel)
theorem wq_1667 : Cond.selects RX8 yX8_dearest yX8_dearest ∈ x_tbl := x_t7 (i := 133) (by decide +kernel) (by decide +kernel)
theorem wq_1668 : Cond.code yX8_dearest cX8_dearest 5 (some .int) ∈ x_tbl := x_t7 (i := 134) (by decide +kernel) (by decide +kernel)
theorem wq_1669 : Cond.methodLink RL 215 yX8_report ∈ x_tbl := x_t7 (i := 135) (by decide +kernel) (by decide +kernel)
theorem wq_1670 : Cond.instanceMethod yX8_report ∈ x_tbl := x_t7 (i := 136) (by decide +kernel) (by decide +kernel)
theorem wq_1671 : Cond.selects RX8 yX8_report yX8_report ∈ x_tbl := x_t7 (i := 137) (by decide +kernel) (by decide +kernel)
theorem wq_1672 : Cond.code yX8_report cX8_report 3 (some .int) ∈ x_tbl := x_t7 (i := 138) (by decide +kernel) (by decide +kernel)
theorem wq_1673 : Cond.methodLink RX8 294 yX8_writesOne ∈ x_tbl := x_t7 (i := 139) (by decide +kernel) (by decide +kernel)
theorem wq_1675 : Cond.instanceMethod yX8_writesOne ∈ x_tbl := x_t7 (i := 141) (by decide +kernel) (by decide +kernel)
theorem wq_1676 : Cond.code yX8_writesOne cX8_writesOne 3 none ∈ x_tbl := x_t7 (i := 142) (by decide +kernel) (by decide +kernel)
theorem wq_1677 : Cond.methodLink RX8 288 yX8_writesWord ∈ x_tbl := x_t7 (i := 143) (by decide +kernel) (by decide +kernel)
theorem wq_1679 : Cond.instanceMethod yX8_writesWord ∈ x_tbl := x_t7 (i := 145) (by decide +kernel) (by decide +kernel)
theorem wq_1680 : Cond.code yX8_writesWord cX8_writesWord 3 none ∈ x_tbl := x_t7 (i := 146) (by decide +kernel) (by decide +kernel)
theorem wq_1681 : Cond.methodLink RX8 282 yX8_wordFrom ∈ x_tbl := x_t7 (i := 147) (by decide +kernel) (by decide +kernel)
theorem wq_1683 : Cond.instanceMethod yX8_wordFrom ∈ x_tbl := x_t7 (i := 149) (by decide +kernel) (by decide +kernel)
theorem wq_1684 : Cond.code yX8_wordFrom cX8_wordFrom 4 (some .int) ∈ x_tbl := x_t7 (i := 150) (by decide +kernel) (by decide +kernel)
theorem wq_1685 : Cond.methodLink RX8 285 yX8_writes ∈ x_tbl := x_t7 (i := 151) (by decide +kernel) (by decide +kernel)
theorem wq_1687 : Cond.instanceMethod yX8_writes ∈ x_tbl := x_t7 (i := 153) (by decide +kernel) (by decide +kernel)
theorem wq_1688 : Cond.code yX8_writes cX8_writes 2 none ∈ x_tbl := x_t7 (i := 154) (by decide +kernel) (by decide +kernel)
theorem wq_1689 : Cond.methodLink RX8 291 yX8_writesNumber ∈ x_tbl := x_t7 (i := 155) (by decide +kernel) (by decide +kernel)
theorem wq_1691 : Cond.instanceMethod yX8_writesNumber ∈ x_tbl := x_t7 (i := 157) (by decide +kernel) (by decide +kernel)
theorem wq_1692 : Cond.code yX8_writesNumber cX8_writesNumber 3 none ∈ x_tbl := x_t7 (i := 158) (by decide +kernel) (by decide +kernel)
theorem wq_1693 : Cond.methodLink RX8 297 yX8_toldText ∈ x_tbl := x_t7 (i := 159) (by decide +kernel) (by decide +kernel)
theorem wq_1695 : Cond.instanceMethod yX8_toldText ∈ x_tbl := x_t7 (i := 161) (by decide +kernel) (by decide +kernel)
theorem wq_1696 : Cond.code yX8_toldText cX8_toldText 2 (some .int) ∈ x_tbl := x_t7 (i := 162) (by decide +kernel) (by decide +kernel)
theorem wq_1697 : Cond.methodLink RL 219 yX8_spell ∈ x_tbl := x_t7 (i := 163) (by decide +kernel) (by decide +kernel)
theorem wq_1698 : Cond.instanceMethod yX8_spell ∈ x_tbl := x_t7 (i := 164) (by decide +kernel) (by decide +kernel)
theorem wq_1699 : Cond.selects RX8 yX8_spell yX8_spell ∈ x_tbl := x_t7 (i := 165) (by decide +kernel) (by decide +kernel)
theorem wq_1700 : Cond.code yX8_spell cX8_spell 4 (some .int) ∈ x_tbl := x_t7 (i := 166) (by decide +kernel) (by decide +kernel)
theorem wq_1701 : Cond.methodLink RL 223 yX8_count ∈ x_tbl := x_t7 (i := 167) (by decide +kernel) (by decide +kernel)
theorem wq_1702 : Cond.instanceMethod yX8_count ∈ x_tbl := x_t7 (i := 168) (by decide +kernel) (by decide +kernel)
theorem wq_1703 : Cond.selects RX8 yX8_count yX8_count ∈ x_tbl := x_t7 (i := 169) (by decide +kernel) (by decide +kernel)
theorem wq_1704 : Cond.code yX8_count cX8_count 4 (some .int) ∈ x_tbl := x_t7 (i := 170) (by decide +kernel) (by decide +kernel)
theorem wq_1705 : Cond.methodLink RL 17 yX8_feed ∈ x_tbl := x_t7 (i := 171) (by decide +kernel) (by decide +kernel)
theorem wq_1706 : Cond.instanceMethod yX8_feed ∈ x_tbl := x_t7 (i := 172) (by decide +kernel) (by decide +kernel)
theorem wq_1707 : Cond.selects RX8 yX8_feed yX8_feed ∈ x_tbl := x_t7 (i := 173) (by decide +kernel) (by decide +kernel)
theorem wq_1708 : Cond.code yX8_feed cX8_feed 8 (some .int) ∈ x_tbl := x_t7 (i := 174) (by decide +kernel) (by decide +kernel)
theorem wq_1709 : Cond.methodLink RL 22 yX8_back ∈ x_tbl := x_t7 (i := 175) (by decide +kernel) (by decide +kernel)
theorem wq_1710 : Cond.instanceMethod yX8_back ∈ x_tbl := x_t7 (i := 176) (by decide +kernel) (by decide +kernel)
theorem wq_1711 : Cond.selects RX8 yX8_back yX8_back ∈ x_tbl := x_t7 (i := 177) (by decide +kernel) (by decide +kernel)
theorem wq_1712 : Cond.code yX8_back cX8_back 2 (some .int) ∈ x_tbl := x_t7 (i := 178) (by decide +kernel) (by decide +kernel)
theorem wq_1713 : Cond.methodLink RL 27 yX8_text ∈ x_tbl := x_t7 (i := 179) (by decide +kernel) (by decide +kernel)
theorem wq_1714 : Cond.instanceMethod yX8_text ∈ x_tbl := x_t7 (i := 180) (by decide +kernel) (by decide +kernel)
theorem wq_1715 : Cond.selects RX8 yX8_text yX8_text ∈ x_tbl := x_t7 (i := 181) (by decide +kernel) (by decide +kernel)
theorem wq_1716 : Cond.code yX8_text cX8_text 2 (some .int) ∈ x_tbl := x_t7 (i := 182) (by decide +kernel) (by decide +kernel)
theorem wq_1717 : Cond.methodLink RX8 322 yX8_goesOn ∈ x_tbl := x_t7 (i := 183) (by decide +kernel) (by decide +kernel)
theorem wq_1719 : Cond.instanceMethod yX8_goesOn ∈ x_tbl := x_t7 (i := 185) (by decide +kernel) (by decide +kernel)
theorem wq_1720 : Cond.code yX8_goesOn cX8_goesOn 5 none ∈ x_tbl := x_t7 (i := 186) (by decide +kernel) (by decide +kernel)
theorem wq_1721 : Cond.methodLink RX8 309 yX8_here ∈ x_tbl := x_t7 (i := 187) (by decide +kernel) (by decide +kernel)
theorem wq_1723 : Cond.instanceMethod yX8_here ∈ x_tbl := x_t7 (i := 189) (by decide +kernel) (by decide +kernel)
theorem wq_1724 : Cond.code yX8_here cX8_here 1 (some .int) ∈ x_tbl := x_t7 (i := 190) (by decide +kernel) (by decide +kernel)
theorem wq_1725 : Cond.methodLink RX8 343 yX8_readsOne ∈ x_tbl := x_t7 (i := 191) (by decide +kernel) (by decide +kernel)
theorem wq_1727 : Cond.instanceMethod yX8_readsOne ∈ x_tbl := x_t7 (i := 193) (by decide +kernel) (by decide +kernel)
theorem wq_1728 : Cond.code yX8_readsOne cX8_readsOne 2 none ∈ x_tbl := x_t7 (i := 194) (by decide +kernel) (by decide +kernel)
theorem wq_1729 : Cond.methodLink RX8 334 yX8_takesWord ∈ x_tbl := x_t7 (i := 195) (by decide +kernel) (by decide +kernel)
theorem wq_1731 : Cond.instanceMethod yX8_takesWord ∈ x_tbl := x_t7 (i := 197) (by decide +kernel) (by decide +kernel)
theorem wq_1732 : Cond.code yX8_takesWord cX8_takesWord 4 (some .boolean) ∈ x_tbl := x_t7 (i := 198) (by decide +kernel) (by decide +kernel)
theorem wq_1733 : Cond.methodLink RX8 328 yX8_needsNumber ∈ x_tbl := x_t7 (i := 199) (by decide +kernel) (by decide +kernel)
theorem wq_1735 : Cond.instanceMethod yX8_needsNumber ∈ x_tbl := x_t7 (i := 201) (by decide +kernel) (by decide +kernel)
theorem wq_1736 : Cond.code yX8_needsNumber cX8_needsNumber 4 (some .int) ∈ x_tbl := x_t7 (i := 202) (by decide +kernel) (by decide +kernel)
theorem wq_1737 : Cond.methodLink RX8 337 yX8_readsFleet ∈ x_tbl := x_t7 (i := 203) (by decide +kernel) (by decide +kernel)
theorem wq_1739 : Cond.instanceMethod yX8_readsFleet ∈ x_tbl := x_t7 (i := 205) (by decide +kernel) (by decide +kernel)
theorem wq_1740 : Cond.code yX8_readsFleet cX8_readsFleet 4 none ∈ x_tbl := x_t7 (i := 206) (by decide +kernel) (by decide +kernel)
theorem wq_1741 : Cond.methodLink RX8 325 yX8_isRoom ∈ x_tbl := x_t7 (i := 207) (by decide +kernel) (by decide +kernel)
theorem wq_1743 : Cond.instanceMethod yX8_isRoom ∈ x_tbl := x_t7 (i := 209) (by decide +kernel) (by decide +kernel)
theorem wq_1744 : Cond.code yX8_isRoom cX8_isRoom 4 (some .boolean) ∈ x_tbl := x_t7 (i := 210) (by decide +kernel) (by decide +kernel)
theorem wq_1745 : Cond.methodLink RX8 340 yX8_readsClaim ∈ x_tbl := x_t7 (i := 211) (by decide +kernel) (by decide +kernel)
theorem wq_1747 : Cond.instanceMethod yX8_readsClaim ∈ x_tbl := x_t7 (i := 213) (by decide +kernel) (by decide +kernel)
theorem wq_1748 : Cond.code yX8_readsClaim cX8_readsClaim 3 none ∈ x_tbl := x_t7 (i := 214) (by decide +kernel) (by decide +kernel)
theorem wq_1749 : Cond.methodLink RX8 331 yX8_mayBeIn ∈ x_tbl := x_t7 (i := 215) (by decide +kernel) (by decide +kernel)
theorem wq_1751 : Cond.instanceMethod yX8_mayBeIn ∈ x_tbl := x_t7 (i := 217) (by decide +kernel) (by decide +kernel)
theorem wq_1752 : Cond.code yX8_mayBeIn cX8_mayBeIn 5 (some .boolean) ∈ x_tbl := x_t7 (i := 218) (by decide +kernel) (by decide +kernel)
theorem wq_1753 : Cond.fieldLink RJ0 9 "java/lang/String" "value" "[B" ∈ x_tbl := x_t7 (i := 219) (by decide +kernel) (by decide +kernel)
theorem wq_1754 : Cond.fieldLink RJ0 15 "java/lang/String" "coder" "B" ∈ x_tbl := x_t7 (i := 220) (by decide +kernel) (by decide +kernel)
theorem inX0 : ∀ w ∈ wsX00, w ∈ x_tbl := fun w h => List.mem_filter.mpr ((by decide +kernel : ∀ w ∈ wsX00, w ∈ lw_tbl ∧ goodWord w = true) w h)
theorem inX1 : ∀ w ∈ wsX10, w ∈ x_tbl := fun w h => List.mem_filter.mpr ((by decide +kernel : ∀ w ∈ wsX10, w ∈ lw_tbl ∧ goodWord w = true) w h)
theorem inX2 : ∀ w ∈ wsX20, w ∈ x_tbl := fun w h => List.mem_filter.mpr ((by decide +kernel : ∀ w ∈ wsX20, w ∈ lw_tbl ∧ goodWord w = true) w h)
theorem inX3 : ∀ w ∈ wsX30, w ∈ x_tbl := fun w h => List.mem_filter.mpr ((by decide +kernel : ∀ w ∈ wsX30, w ∈ lw_tbl ∧ goodWord w = true) w h)
theorem inX4 : ∀ w ∈ wsX40, w ∈ x_tbl := fun w h => List.mem_filter.mpr ((by decide +kernel : ∀ w ∈ wsX40, w ∈ lw_tbl ∧ goodWord w = true) w h)
theorem inX5 : ∀ w ∈ wsX50, w ∈ x_tbl := fun w h => List.mem_filter.mpr ((by decide +kernel : ∀ w ∈ wsX50, w ∈ lw_tbl ∧ goodWord w = true) w h)
theorem inX6 : ∀ w ∈ wsX60, w ∈ x_tbl := fun w h => List.mem_filter.mpr ((by decide +kernel : ∀ w ∈ wsX60, w ∈ lw_tbl ∧ goodWord w = true) w h)
theorem inX7 : ∀ w ∈ wsX70, w ∈ x_tbl := fun w h => List.mem_filter.mpr ((by decide +kernel : ∀ w ∈ wsX70, w ∈ lw_tbl ∧ goodWord w = true) w h)
theorem inX8 : ∀ w ∈ wsX80, w ∈ x_tbl := fun w h => List.mem_filter.mpr ((by decide +kernel : ∀ w ∈ wsX80, w ∈ lw_tbl ∧ goodWord w = true) w h)
theorem xd_J0_coder_7d493 : yJ0_coder_7d493.cls = RJ0 ∧ yJ0_coder_7d493.cls ≠ "java/lang/invoke/MethodHandle" ∧ yJ0_coder_7d493.cls ≠ "java/lang/invoke/VarHandle" ∧ (parseMethodDescriptor yJ0_coder_7d493.desc).map (fun d => d.parameters.length) = some 0 := by decide +kernel
theorem xe_J3_checkIndex_8e157 : yJ3_checkIndex_8e157.cls ≠ "java/lang/invoke/MethodHandle" ∧ yJ3_checkIndex_8e157.cls ≠ "java/lang/invoke/VarHandle" ∧ (parseMethodDescriptor yJ3_checkIndex_8e157.desc).map (fun d => d.parameters.length) = some 3 := by decide +kernel
theorem xe_J0_checkIndex_df160 : yJ0_checkIndex_df160.cls ≠ "java/lang/invoke/MethodHandle" ∧ yJ0_checkIndex_df160.cls ≠ "java/lang/invoke/VarHandle" ∧ (parseMethodDescriptor yJ0_checkIndex_df160.desc).map (fun d => d.parameters.length) = some 2 := by decide +kernel
theorem xd_J0_isLatin1_aae02 : yJ0_isLatin1_aae02.cls = RJ0 ∧ yJ0_isLatin1_aae02.cls ≠ "java/lang/invoke/MethodHandle" ∧ yJ0_isLatin1_aae02.cls ≠ "java/lang/invoke/VarHandle" ∧ (parseMethodDescriptor yJ0_isLatin1_aae02.desc).map (fun d => d.parameters.length) = some 0 := by decide +kernel
theorem xe_J1_charAt_3b067 : yJ1_charAt_3b067.cls ≠ "java/lang/invoke/MethodHandle" ∧ yJ1_charAt_3b067.cls ≠ "java/lang/invoke/VarHandle" ∧ (parseMethodDescriptor yJ1_charAt_3b067.desc).map (fun d => d.parameters.length) = some 2 := by decide +kernel
theorem xd_J0_length_8abf5 : yJ0_length_8abf5.cls = RJ0 ∧ yJ0_length_8abf5.cls ≠ "java/lang/invoke/MethodHandle" ∧ yJ0_length_8abf5.cls ≠ "java/lang/invoke/VarHandle" ∧ (parseMethodDescriptor yJ0_length_8abf5.desc).map (fun d => d.parameters.length) = some 0 := by decide +kernel
theorem xd_J0_charAt_5068e : yJ0_charAt_5068e.cls = RJ0 ∧ yJ0_charAt_5068e.cls ≠ "java/lang/invoke/MethodHandle" ∧ yJ0_charAt_5068e.cls ≠ "java/lang/invoke/VarHandle" ∧ (parseMethodDescriptor yJ0_charAt_5068e.desc).map (fun d => d.parameters.length) = some 1 := by decide +kernel
theorem xd_X6_size : yX6_size.cls = RX6 ∧ yX6_size.cls ≠ "java/lang/invoke/MethodHandle" ∧ yX6_size.cls ≠ "java/lang/invoke/VarHandle" ∧ (parseMethodDescriptor yX6_size.desc).map (fun d => d.parameters.length) = some 0 := by decide +kernel
theorem xd_X6_addByte : yX6_addByte.cls = RX6 ∧ yX6_addByte.cls ≠ "java/lang/invoke/MethodHandle" ∧ yX6_addByte.cls ≠ "java/lang/invoke/VarHandle" ∧ (parseMethodDescriptor yX6_addByte.desc).map (fun d => d.parameters.length) = some 1 := by decide +kernel
theorem xd_X6_addFour : yX6_addFour.cls = RX6 ∧ yX6_addFour.cls ≠ "java/lang/invoke/MethodHandle" ∧ yX6_addFour.cls ≠ "java/lang/invoke/VarHandle" ∧ (parseMethodDescriptor yX6_addFour.desc).map (fun d => d.parameters.length) = some 1 := by decide +kernel
theorem xd_X6_dropLast : yX6_dropLast.cls = RX6 ∧ yX6_dropLast.cls ≠ "java/lang/invoke/MethodHandle" ∧ yX6_dropLast.cls ≠ "java/lang/invoke/VarHandle" ∧ (parseMethodDescriptor yX6_dropLast.desc).map (fun d => d.parameters.length) = some 1 := by decide +kernel
theorem xd_X0_clear : yX0_clear.cls = RX0 ∧ yX0_clear.cls ≠ "java/lang/invoke/MethodHandle" ∧ yX0_clear.cls ≠ "java/lang/invoke/VarHandle" ∧ (parseMethodDescriptor yX0_clear.desc).map (fun d => d.parameters.length) = some 0 := by decide +kernel
theorem xd_X6_byteAt : yX6_byteAt.cls = RX6 ∧ yX6_byteAt.cls ≠ "java/lang/invoke/MethodHandle" ∧ yX6_byteAt.cls ≠ "java/lang/invoke/VarHandle" ∧ (parseMethodDescriptor yX6_byteAt.desc).map (fun d => d.parameters.length) = some 1 := by decide +kernel
theorem xd_X6_skipGaps : yX6_skipGaps.cls = RX6 ∧ yX6_skipGaps.cls ≠ "java/lang/invoke/MethodHandle" ∧ yX6_skipGaps.cls ≠ "java/lang/invoke/VarHandle" ∧ (parseMethodDescriptor yX6_skipGaps.desc).map (fun d => d.parameters.length) = some 0 := by decide +kernel
theorem xd_X6_skipLetters : yX6_skipLetters.cls = RX6 ∧ yX6_skipLetters.cls ≠ "java/lang/invoke/MethodHandle" ∧ yX6_skipLetters.cls ≠ "java/lang/invoke/VarHandle" ∧ (parseMethodDescriptor yX6_skipLetters.desc).map (fun d => d.parameters.length) = some 0 := by decide +kernel
theorem xd_X6_isWord : yX6_isWord.cls = RX6 ∧ yX6_isWord.cls ≠ "java/lang/invoke/MethodHandle" ∧ yX6_isWord.cls ≠ "java/lang/invoke/VarHandle" ∧ (parseMethodDescriptor yX6_isWord.desc).map (fun d => d.parameters.length) = some 2 := by decide +kernel
theorem xd_X6_isDigit : yX6_isDigit.cls = RX6 ∧ yX6_isDigit.cls ≠ "java/lang/invoke/MethodHandle" ∧ yX6_isDigit.cls ≠ "java/lang/invoke/VarHandle" ∧ (parseMethodDescriptor yX6_isDigit.desc).map (fun d => d.parameters.length) = some 1 := by decide +kernel
theorem xd_X6_failAt : yX6_failAt.cls = RX6 ∧ yX6_failAt.cls ≠ "java/lang/invoke/MethodHandle" ∧ yX6_failAt.cls ≠ "java/lang/invoke/VarHandle" ∧ (parseMethodDescriptor yX6_failAt.desc).map (fun d => d.parameters.length) = some 1 := by decide +kernel
theorem xd_X6_readWord : yX6_readWord.cls = RX6 ∧ yX6_readWord.cls ≠ "java/lang/invoke/MethodHandle" ∧ yX6_readWord.cls ≠ "java/lang/invoke/VarHandle" ∧ (parseMethodDescriptor yX6_readWord.desc).map (fun d => d.parameters.length) = some 1 := by decide +kernel
theorem xd_X6_readNumber : yX6_readNumber.cls = RX6 ∧ yX6_readNumber.cls ≠ "java/lang/invoke/MethodHandle" ∧ yX6_readNumber.cls ≠ "java/lang/invoke/VarHandle" ∧ (parseMethodDescriptor yX6_readNumber.desc).map (fun d => d.parameters.length) = some 2 := by decide +kernel
theorem xd_X6_isEndNext : yX6_isEndNext.cls = RX6 ∧ yX6_isEndNext.cls ≠ "java/lang/invoke/MethodHandle" ∧ yX6_isEndNext.cls ≠ "java/lang/invoke/VarHandle" ∧ (parseMethodDescriptor yX6_isEndNext.desc).map (fun d => d.parameters.length) = some 0 := by decide +kernel
theorem xd_X0_hasFleet : yX0_hasFleet.cls = RX0 ∧ yX0_hasFleet.cls ≠ "java/lang/invoke/MethodHandle" ∧ yX0_hasFleet.cls ≠ "java/lang/invoke/VarHandle" ∧ (parseMethodDescriptor yX0_hasFleet.desc).map (fun d => d.parameters.length) = some 1 := by decide +kernel
theorem xd_X0_putClass : yX0_putClass.cls = RX0 ∧ yX0_putClass.cls ≠ "java/lang/invoke/MethodHandle" ∧ yX0_putClass.cls ≠ "java/lang/invoke/VarHandle" ∧ (parseMethodDescriptor yX0_putClass.desc).map (fun d => d.parameters.length) = some 2 := by decide +kernel
theorem xd_X0_putYears : yX0_putYears.cls = RX0 ∧ yX0_putYears.cls ≠ "java/lang/invoke/MethodHandle" ∧ yX0_putYears.cls ≠ "java/lang/invoke/VarHandle" ∧ (parseMethodDescriptor yX0_putYears.desc).map (fun d => d.parameters.length) = some 2 := by decide +kernel
theorem xd_X0_addFleet : yX0_addFleet.cls = RX0 ∧ yX0_addFleet.cls ≠ "java/lang/invoke/MethodHandle" ∧ yX0_addFleet.cls ≠ "java/lang/invoke/VarHandle" ∧ (parseMethodDescriptor yX0_addFleet.desc).map (fun d => d.parameters.length) = some 2 := by decide +kernel
theorem xd_X6_readFleet : yX6_readFleet.cls = RX6 ∧ yX6_readFleet.cls ≠ "java/lang/invoke/MethodHandle" ∧ yX6_readFleet.cls ≠ "java/lang/invoke/VarHandle" ∧ (parseMethodDescriptor yX6_readFleet.desc).map (fun d => d.parameters.length) = some 1 := by decide +kernel
theorem xe_X7_isYear : yX7_isYear.cls ≠ "java/lang/invoke/MethodHandle" ∧ yX7_isYear.cls ≠ "java/lang/invoke/VarHandle" ∧ (parseMethodDescriptor yX7_isYear.desc).map (fun d => d.parameters.length) = some 1 := by decide +kernel
theorem xd_X0_isInsured : yX0_isInsured.cls = RX0 ∧ yX0_isInsured.cls ≠ "java/lang/invoke/MethodHandle" ∧ yX0_isInsured.cls ≠ "java/lang/invoke/VarHandle" ∧ (parseMethodDescriptor yX0_isInsured.desc).map (fun d => d.parameters.length) = some 2 := by decide +kernel
theorem xd_X0_hasClaim : yX0_hasClaim.cls = RX0 ∧ yX0_hasClaim.cls ≠ "java/lang/invoke/MethodHandle" ∧ yX0_hasClaim.cls ≠ "java/lang/invoke/VarHandle" ∧ (parseMethodDescriptor yX0_hasClaim.desc).map (fun d => d.parameters.length) = some 1 := by decide +kernel
theorem xd_X0_isOf : yX0_isOf.cls = RX0 ∧ yX0_isOf.cls ≠ "java/lang/invoke/MethodHandle" ∧ yX0_isOf.cls ≠ "java/lang/invoke/VarHandle" ∧ (parseMethodDescriptor yX0_isOf.desc).map (fun d => d.parameters.length) = some 3 := by decide +kernel
theorem xd_X0_canClaim : yX0_canClaim.cls = RX0 ∧ yX0_canClaim.cls ≠ "java/lang/invoke/MethodHandle" ∧ yX0_canClaim.cls ≠ "java/lang/invoke/VarHandle" ∧ (parseMethodDescriptor yX0_canClaim.desc).map (fun d => d.parameters.length) = some 2 := by decide +kernel
theorem xd_X0_putClaim : yX0_putClaim.cls = RX0 ∧ yX0_putClaim.cls ≠ "java/lang/invoke/MethodHandle" ∧ yX0_putClaim.cls ≠ "java/lang/invoke/VarHandle" ∧ (parseMethodDescriptor yX0_putClaim.desc).map (fun d => d.parameters.length) = some 4 := by decide +kernel
theorem xd_X0_addClaim : yX0_addClaim.cls = RX0 ∧ yX0_addClaim.cls ≠ "java/lang/invoke/MethodHandle" ∧ yX0_addClaim.cls ≠ "java/lang/invoke/VarHandle" ∧ (parseMethodDescriptor yX0_addClaim.desc).map (fun d => d.parameters.length) = some 3 := by decide +kernel
theorem xd_X6_readClaim : yX6_readClaim.cls = RX6 ∧ yX6_readClaim.cls ≠ "java/lang/invoke/MethodHandle" ∧ yX6_readClaim.cls ≠ "java/lang/invoke/VarHandle" ∧ (parseMethodDescriptor yX6_readClaim.desc).map (fun d => d.parameters.length) = some 1 := by decide +kernel
theorem xd_X6_readEnd : yX6_readEnd.cls = RX6 ∧ yX6_readEnd.cls ≠ "java/lang/invoke/MethodHandle" ∧ yX6_readEnd.cls ≠ "java/lang/invoke/VarHandle" ∧ (parseMethodDescriptor yX6_readEnd.desc).map (fun d => d.parameters.length) = some 0 := by decide +kernel
theorem xd_X6_readSentence : yX6_readSentence.cls = RX6 ∧ yX6_readSentence.cls ≠ "java/lang/invoke/MethodHandle" ∧ yX6_readSentence.cls ≠ "java/lang/invoke/VarHandle" ∧ (parseMethodDescriptor yX6_readSentence.desc).map (fun d => d.parameters.length) = some 1 := by decide +kernel
theorem xd_X6_readInto : yX6_readInto.cls = RX6 ∧ yX6_readInto.cls ≠ "java/lang/invoke/MethodHandle" ∧ yX6_readInto.cls ≠ "java/lang/invoke/VarHandle" ∧ (parseMethodDescriptor yX6_readInto.desc).map (fun d => d.parameters.length) = some 1 := by decide +kernel
theorem xd_X0_copyFrom : yX0_copyFrom.cls = RX0 ∧ yX0_copyFrom.cls ≠ "java/lang/invoke/MethodHandle" ∧ yX0_copyFrom.cls ≠ "java/lang/invoke/VarHandle" ∧ (parseMethodDescriptor yX0_copyFrom.desc).map (fun d => d.parameters.length) = some 1 := by decide +kernel
theorem xd_X2_empty : yX2_empty.cls = RX2 ∧ yX2_empty.cls ≠ "java/lang/invoke/MethodHandle" ∧ yX2_empty.cls ≠ "java/lang/invoke/VarHandle" ∧ (parseMethodDescriptor yX2_empty.desc).map (fun d => d.parameters.length) = some 0 := by decide +kernel
theorem xd_X7_isClass : yX7_isClass.cls = RX7 ∧ yX7_isClass.cls ≠ "java/lang/invoke/MethodHandle" ∧ yX7_isClass.cls ≠ "java/lang/invoke/VarHandle" ∧ (parseMethodDescriptor yX7_isClass.desc).map (fun d => d.parameters.length) = some 1 := by decide +kernel
theorem xd_X0_saveTo : yX0_saveTo.cls = RX0 ∧ yX0_saveTo.cls ≠ "java/lang/invoke/MethodHandle" ∧ yX0_saveTo.cls ≠ "java/lang/invoke/VarHandle" ∧ (parseMethodDescriptor yX0_saveTo.desc).map (fun d => d.parameters.length) = some 2 := by decide +kernel
theorem xd_X2_keep : yX2_keep.cls = RX2 ∧ yX2_keep.cls ≠ "java/lang/invoke/MethodHandle" ∧ yX2_keep.cls ≠ "java/lang/invoke/VarHandle" ∧ (parseMethodDescriptor yX2_keep.desc).map (fun d => d.parameters.length) = some 1 := by decide +kernel
theorem xd_X0_fleetOf : yX0_fleetOf.cls = RX0 ∧ yX0_fleetOf.cls ≠ "java/lang/invoke/MethodHandle" ∧ yX0_fleetOf.cls ≠ "java/lang/invoke/VarHandle" ∧ (parseMethodDescriptor yX0_fleetOf.desc).map (fun d => d.parameters.length) = some 1 := by decide +kernel
theorem xd_X0_yearOf : yX0_yearOf.cls = RX0 ∧ yX0_yearOf.cls ≠ "java/lang/invoke/MethodHandle" ∧ yX0_yearOf.cls ≠ "java/lang/invoke/VarHandle" ∧ (parseMethodDescriptor yX0_yearOf.desc).map (fun d => d.parameters.length) = some 1 := by decide +kernel
theorem xd_X0_amountOf : yX0_amountOf.cls = RX0 ∧ yX0_amountOf.cls ≠ "java/lang/invoke/MethodHandle" ∧ yX0_amountOf.cls ≠ "java/lang/invoke/VarHandle" ∧ (parseMethodDescriptor yX0_amountOf.desc).map (fun d => d.parameters.length) = some 1 := by decide +kernel
theorem xd_X0_dropClaimsOf : yX0_dropClaimsOf.cls = RX0 ∧ yX0_dropClaimsOf.cls ≠ "java/lang/invoke/MethodHandle" ∧ yX0_dropClaimsOf.cls ≠ "java/lang/invoke/VarHandle" ∧ (parseMethodDescriptor yX0_dropClaimsOf.desc).map (fun d => d.parameters.length) = some 2 := by decide +kernel
theorem xd_X0_classOf : yX0_classOf.cls = RX0 ∧ yX0_classOf.cls ≠ "java/lang/invoke/MethodHandle" ∧ yX0_classOf.cls ≠ "java/lang/invoke/VarHandle" ∧ (parseMethodDescriptor yX0_classOf.desc).map (fun d => d.parameters.length) = some 1 := by decide +kernel
theorem xd_X0_yearsOf : yX0_yearsOf.cls = RX0 ∧ yX0_yearsOf.cls ≠ "java/lang/invoke/MethodHandle" ∧ yX0_yearsOf.cls ≠ "java/lang/invoke/VarHandle" ∧ (parseMethodDescriptor yX0_yearsOf.desc).map (fun d => d.parameters.length) = some 1 := by decide +kernel
theorem xd_X0_putFleet : yX0_putFleet.cls = RX0 ∧ yX0_putFleet.cls ≠ "java/lang/invoke/MethodHandle" ∧ yX0_putFleet.cls ≠ "java/lang/invoke/VarHandle" ∧ (parseMethodDescriptor yX0_putFleet.desc).map (fun d => d.parameters.length) = some 2 := by decide +kernel
theorem xd_X0_closeGapAt : yX0_closeGapAt.cls = RX0 ∧ yX0_closeGapAt.cls ≠ "java/lang/invoke/MethodHandle" ∧ yX0_closeGapAt.cls ≠ "java/lang/invoke/VarHandle" ∧ (parseMethodDescriptor yX0_closeGapAt.desc).map (fun d => d.parameters.length) = some 1 := by decide +kernel
theorem xd_X0_dropFleet : yX0_dropFleet.cls = RX0 ∧ yX0_dropFleet.cls ≠ "java/lang/invoke/MethodHandle" ∧ yX0_dropFleet.cls ≠ "java/lang/invoke/VarHandle" ∧ (parseMethodDescriptor yX0_dropFleet.desc).map (fun d => d.parameters.length) = some 1 := by decide +kernel
theorem xd_X7_isYear : yX7_isYear.cls = RX7 ∧ yX7_isYear.cls ≠ "java/lang/invoke/MethodHandle" ∧ yX7_isYear.cls ≠ "java/lang/invoke/VarHandle" ∧ (parseMethodDescriptor yX7_isYear.desc).map (fun d => d.parameters.length) = some 1 := by decide +kernel
theorem xe_J6_bitCount_0f7a4 : yJ6_bitCount_0f7a4.cls ≠ "java/lang/invoke/MethodHandle" ∧ yJ6_bitCount_0f7a4.cls ≠ "java/lang/invoke/VarHandle" ∧ (parseMethodDescriptor yJ6_bitCount_0f7a4.desc).map (fun d => d.parameters.length) = some 1 := by decide +kernel
theorem xd_X0_endYears : yX0_endYears.cls = RX0 ∧ yX0_endYears.cls ≠ "java/lang/invoke/MethodHandle" ∧ yX0_endYears.cls ≠ "java/lang/invoke/VarHandle" ∧ (parseMethodDescriptor yX0_endYears.desc).map (fun d => d.parameters.length) = some 2 := by decide +kernel
theorem xd_X0_countInsured : yX0_countInsured.cls = RX0 ∧ yX0_countInsured.cls ≠ "java/lang/invoke/MethodHandle" ∧ yX0_countInsured.cls ≠ "java/lang/invoke/VarHandle" ∧ (parseMethodDescriptor yX0_countInsured.desc).map (fun d => d.parameters.length) = some 1 := by decide +kernel
theorem xd_X0_endYearsOfAll : yX0_endYearsOfAll.cls = RX0 ∧ yX0_endYearsOfAll.cls ≠ "java/lang/invoke/MethodHandle" ∧ yX0_endYearsOfAll.cls ≠ "java/lang/invoke/VarHandle" ∧ (parseMethodDescriptor yX0_endYearsOfAll.desc).map (fun d => d.parameters.length) = some 1 := by decide +kernel
theorem xd_X7_isAmount : yX7_isAmount.cls = RX7 ∧ yX7_isAmount.cls ≠ "java/lang/invoke/MethodHandle" ∧ yX7_isAmount.cls ≠ "java/lang/invoke/VarHandle" ∧ (parseMethodDescriptor yX7_isAmount.desc).map (fun d => d.parameters.length) = some 1 := by decide +kernel
theorem xd_X0_dropClaim : yX0_dropClaim.cls = RX0 ∧ yX0_dropClaim.cls ≠ "java/lang/invoke/MethodHandle" ∧ yX0_dropClaim.cls ≠ "java/lang/invoke/VarHandle" ∧ (parseMethodDescriptor yX0_dropClaim.desc).map (fun d => d.parameters.length) = some 1 := by decide +kernel
theorem xd_X0_putAmount : yX0_putAmount.cls = RX0 ∧ yX0_putAmount.cls ≠ "java/lang/invoke/MethodHandle" ∧ yX0_putAmount.cls ≠ "java/lang/invoke/VarHandle" ∧ (parseMethodDescriptor yX0_putAmount.desc).map (fun d => d.parameters.length) = some 2 := by decide +kernel
theorem xd_X0_fleetsIn : yX0_fleetsIn.cls = RX0 ∧ yX0_fleetsIn.cls ≠ "java/lang/invoke/MethodHandle" ∧ yX0_fleetsIn.cls ≠ "java/lang/invoke/VarHandle" ∧ (parseMethodDescriptor yX0_fleetsIn.desc).map (fun d => d.parameters.length) = some 1 := by decide +kernel
theorem xd_X0_moveAll : yX0_moveAll.cls = RX0 ∧ yX0_moveAll.cls ≠ "java/lang/invoke/MethodHandle" ∧ yX0_moveAll.cls ≠ "java/lang/invoke/VarHandle" ∧ (parseMethodDescriptor yX0_moveAll.desc).map (fun d => d.parameters.length) = some 2 := by decide +kernel
theorem xd_X0_exchange : yX0_exchange.cls = RX0 ∧ yX0_exchange.cls ≠ "java/lang/invoke/MethodHandle" ∧ yX0_exchange.cls ≠ "java/lang/invoke/VarHandle" ∧ (parseMethodDescriptor yX0_exchange.desc).map (fun d => d.parameters.length) = some 2 := by decide +kernel
theorem xd_X0_scaleAmounts : yX0_scaleAmounts.cls = RX0 ∧ yX0_scaleAmounts.cls ≠ "java/lang/invoke/MethodHandle" ∧ yX0_scaleAmounts.cls ≠ "java/lang/invoke/VarHandle" ∧ (parseMethodDescriptor yX0_scaleAmounts.desc).map (fun d => d.parameters.length) = some 2 := by decide +kernel
theorem xd_X0_handOver : yX0_handOver.cls = RX0 ∧ yX0_handOver.cls ≠ "java/lang/invoke/MethodHandle" ∧ yX0_handOver.cls ≠ "java/lang/invoke/VarHandle" ∧ (parseMethodDescriptor yX0_handOver.desc).map (fun d => d.parameters.length) = some 3 := by decide +kernel
theorem xd_X0_splitOff : yX0_splitOff.cls = RX0 ∧ yX0_splitOff.cls ≠ "java/lang/invoke/MethodHandle" ∧ yX0_splitOff.cls ≠ "java/lang/invoke/VarHandle" ∧ (parseMethodDescriptor yX0_splitOff.desc).map (fun d => d.parameters.length) = some 2 := by decide +kernel
theorem xd_X0_mergeInto : yX0_mergeInto.cls = RX0 ∧ yX0_mergeInto.cls ≠ "java/lang/invoke/MethodHandle" ∧ yX0_mergeInto.cls ≠ "java/lang/invoke/VarHandle" ∧ (parseMethodDescriptor yX0_mergeInto.desc).map (fun d => d.parameters.length) = some 2 := by decide +kernel
theorem xd_X2_size : yX2_size.cls = RX2 ∧ yX2_size.cls ≠ "java/lang/invoke/MethodHandle" ∧ yX2_size.cls ≠ "java/lang/invoke/VarHandle" ∧ (parseMethodDescriptor yX2_size.desc).map (fun d => d.parameters.length) = some 0 := by decide +kernel
theorem xd_X0_loadFrom : yX0_loadFrom.cls = RX0 ∧ yX0_loadFrom.cls ≠ "java/lang/invoke/MethodHandle" ∧ yX0_loadFrom.cls ≠ "java/lang/invoke/VarHandle" ∧ (parseMethodDescriptor yX0_loadFrom.desc).map (fun d => d.parameters.length) = some 2 := by decide +kernel
theorem xd_X2_takeBack : yX2_takeBack.cls = RX2 ∧ yX2_takeBack.cls ≠ "java/lang/invoke/MethodHandle" ∧ yX2_takeBack.cls ≠ "java/lang/invoke/VarHandle" ∧ (parseMethodDescriptor yX2_takeBack.desc).map (fun d => d.parameters.length) = some 1 := by decide +kernel
theorem xe_J7_fill_53178 : yJ7_fill_53178.cls ≠ "java/lang/invoke/MethodHandle" ∧ yJ7_fill_53178.cls ≠ "java/lang/invoke/VarHandle" ∧ (parseMethodDescriptor yJ7_fill_53178.desc).map (fun d => d.parameters.length) = some 2 := by decide +kernel
theorem xd_X0_countedOf : yX0_countedOf.cls = RX0 ∧ yX0_countedOf.cls ≠ "java/lang/invoke/MethodHandle" ∧ yX0_countedOf.cls ≠ "java/lang/invoke/VarHandle" ∧ (parseMethodDescriptor yX0_countedOf.desc).map (fun d => d.parameters.length) = some 1 := by decide +kernel
theorem xd_X1_sumLosses : yX1_sumLosses.cls = RX1 ∧ yX1_sumLosses.cls ≠ "java/lang/invoke/MethodHandle" ∧ yX1_sumLosses.cls ≠ "java/lang/invoke/VarHandle" ∧ (parseMethodDescriptor yX1_sumLosses.desc).map (fun d => d.parameters.length) = some 1 := by decide +kernel
theorem xd_X4_clear : yX4_clear.cls = RX4 ∧ yX4_clear.cls ≠ "java/lang/invoke/MethodHandle" ∧ yX4_clear.cls ≠ "java/lang/invoke/VarHandle" ∧ (parseMethodDescriptor yX4_clear.desc).map (fun d => d.parameters.length) = some 0 := by decide +kernel
theorem xd_X4_hasBetween : yX4_hasBetween.cls = RX4 ∧ yX4_hasBetween.cls ≠ "java/lang/invoke/MethodHandle" ∧ yX4_hasBetween.cls ≠ "java/lang/invoke/VarHandle" ∧ (parseMethodDescriptor yX4_hasBetween.desc).map (fun d => d.parameters.length) = some 0 := by decide +kernel
theorem xd_X4_settle : yX4_settle.cls = RX4 ∧ yX4_settle.cls ≠ "java/lang/invoke/MethodHandle" ∧ yX4_settle.cls ≠ "java/lang/invoke/VarHandle" ∧ (parseMethodDescriptor yX4_settle.desc).map (fun d => d.parameters.length) = some 0 := by decide +kernel
theorem xd_X1_hasRow : yX1_hasRow.cls = RX1 ∧ yX1_hasRow.cls ≠ "java/lang/invoke/MethodHandle" ∧ yX1_hasRow.cls ≠ "java/lang/invoke/VarHandle" ∧ (parseMethodDescriptor yX1_hasRow.desc).map (fun d => d.parameters.length) = some 1 := by decide +kernel
theorem xd_X1_poolOf : yX1_poolOf.cls = RX1 ∧ yX1_poolOf.cls ≠ "java/lang/invoke/MethodHandle" ∧ yX1_poolOf.cls ≠ "java/lang/invoke/VarHandle" ∧ (parseMethodDescriptor yX1_poolOf.desc).map (fun d => d.parameters.length) = some 1 := by decide +kernel
theorem xd_X4_addFleet : yX4_addFleet.cls = RX4 ∧ yX4_addFleet.cls ≠ "java/lang/invoke/MethodHandle" ∧ yX4_addFleet.cls ≠ "java/lang/invoke/VarHandle" ∧ (parseMethodDescriptor yX4_addFleet.desc).map (fun d => d.parameters.length) = some 3 := by decide +kernel
theorem xd_X1_lossOf : yX1_lossOf.cls = RX1 ∧ yX1_lossOf.cls ≠ "java/lang/invoke/MethodHandle" ∧ yX1_lossOf.cls ≠ "java/lang/invoke/VarHandle" ∧ (parseMethodDescriptor yX1_lossOf.desc).map (fun d => d.parameters.length) = some 2 := by decide +kernel
theorem xd_X1_reckonFleet : yX1_reckonFleet.cls = RX1 ∧ yX1_reckonFleet.cls ≠ "java/lang/invoke/MethodHandle" ∧ yX1_reckonFleet.cls ≠ "java/lang/invoke/VarHandle" ∧ (parseMethodDescriptor yX1_reckonFleet.desc).map (fun d => d.parameters.length) = some 2 := by decide +kernel
theorem xd_X5_put : yX5_put.cls = RX5 ∧ yX5_put.cls ≠ "java/lang/invoke/MethodHandle" ∧ yX5_put.cls ≠ "java/lang/invoke/VarHandle" ∧ (parseMethodDescriptor yX5_put.desc).map (fun d => d.parameters.length) = some 2 := by decide +kernel
theorem xd_X1_putWhole : yX1_putWhole.cls = RX1 ∧ yX1_putWhole.cls ≠ "java/lang/invoke/MethodHandle" ∧ yX1_putWhole.cls ≠ "java/lang/invoke/VarHandle" ∧ (parseMethodDescriptor yX1_putWhole.desc).map (fun d => d.parameters.length) = some 1 := by decide +kernel
theorem xd_X4_putCentre : yX4_putCentre.cls = RX4 ∧ yX4_putCentre.cls ≠ "java/lang/invoke/MethodHandle" ∧ yX4_putCentre.cls ≠ "java/lang/invoke/VarHandle" ∧ (parseMethodDescriptor yX4_putCentre.desc).map (fun d => d.parameters.length) = some 1 := by decide +kernel
theorem xd_X5_isNone : yX5_isNone.cls = RX5 ∧ yX5_isNone.cls ≠ "java/lang/invoke/MethodHandle" ∧ yX5_isNone.cls ≠ "java/lang/invoke/VarHandle" ∧ (parseMethodDescriptor yX5_isNone.desc).map (fun d => d.parameters.length) = some 0 := by decide +kernel
theorem xd_X4_steadiness : yX4_steadiness.cls = RX4 ∧ yX4_steadiness.cls ≠ "java/lang/invoke/MethodHandle" ∧ yX4_steadiness.cls ≠ "java/lang/invoke/VarHandle" ∧ (parseMethodDescriptor yX4_steadiness.desc).map (fun d => d.parameters.length) = some 1 := by decide +kernel
theorem xd_X4_reckonBase : yX4_reckonBase.cls = RX4 ∧ yX4_reckonBase.cls ≠ "java/lang/invoke/MethodHandle" ∧ yX4_reckonBase.cls ≠ "java/lang/invoke/VarHandle" ∧ (parseMethodDescriptor yX4_reckonBase.desc).map (fun d => d.parameters.length) = some 2 := by decide +kernel
theorem xd_X4_shareBySpan : yX4_shareBySpan.cls = RX4 ∧ yX4_shareBySpan.cls ≠ "java/lang/invoke/MethodHandle" ∧ yX4_shareBySpan.cls ≠ "java/lang/invoke/VarHandle" ∧ (parseMethodDescriptor yX4_shareBySpan.desc).map (fun d => d.parameters.length) = some 1 := by decide +kernel
theorem xd_X4_addShare : yX4_addShare.cls = RX4 ∧ yX4_addShare.cls ≠ "java/lang/invoke/MethodHandle" ∧ yX4_addShare.cls ≠ "java/lang/invoke/VarHandle" ∧ (parseMethodDescriptor yX4_addShare.desc).map (fun d => d.parameters.length) = some 3 := by decide +kernel
theorem xd_X1_reckonShare : yX1_reckonShare.cls = RX1 ∧ yX1_reckonShare.cls ≠ "java/lang/invoke/MethodHandle" ∧ yX1_reckonShare.cls ≠ "java/lang/invoke/VarHandle" ∧ (parseMethodDescriptor yX1_reckonShare.desc).map (fun d => d.parameters.length) = some 1 := by decide +kernel
theorem xd_X1_reckon : yX1_reckon.cls = RX1 ∧ yX1_reckon.cls ≠ "java/lang/invoke/MethodHandle" ∧ yX1_reckon.cls ≠ "java/lang/invoke/VarHandle" ∧ (parseMethodDescriptor yX1_reckon.desc).map (fun d => d.parameters.length) = some 1 := by decide +kernel
theorem xd_X1_spanOf : yX1_spanOf.cls = RX1 ∧ yX1_spanOf.cls ≠ "java/lang/invoke/MethodHandle" ∧ yX1_spanOf.cls ≠ "java/lang/invoke/VarHandle" ∧ (parseMethodDescriptor yX1_spanOf.desc).map (fun d => d.parameters.length) = some 1 := by decide +kernel
theorem xd_X1_sumOf : yX1_sumOf.cls = RX1 ∧ yX1_sumOf.cls ≠ "java/lang/invoke/MethodHandle" ∧ yX1_sumOf.cls ≠ "java/lang/invoke/VarHandle" ∧ (parseMethodDescriptor yX1_sumOf.desc).map (fun d => d.parameters.length) = some 1 := by decide +kernel
theorem xd_X1_squaresOf : yX1_squaresOf.cls = RX1 ∧ yX1_squaresOf.cls ≠ "java/lang/invoke/MethodHandle" ∧ yX1_squaresOf.cls ≠ "java/lang/invoke/VarHandle" ∧ (parseMethodDescriptor yX1_squaresOf.desc).map (fun d => d.parameters.length) = some 1 := by decide +kernel
theorem xd_X0_claimsWith : yX0_claimsWith.cls = RX0 ∧ yX0_claimsWith.cls ≠ "java/lang/invoke/MethodHandle" ∧ yX0_claimsWith.cls ≠ "java/lang/invoke/VarHandle" ∧ (parseMethodDescriptor yX0_claimsWith.desc).map (fun d => d.parameters.length) = some 1 := by decide +kernel
theorem xd_X0_claimsAboveCap : yX0_claimsAboveCap.cls = RX0 ∧ yX0_claimsAboveCap.cls ≠ "java/lang/invoke/MethodHandle" ∧ yX0_claimsAboveCap.cls ≠ "java/lang/invoke/VarHandle" ∧ (parseMethodDescriptor yX0_claimsAboveCap.desc).map (fun d => d.parameters.length) = some 1 := by decide +kernel
theorem xd_X1_shareOf : yX1_shareOf.cls = RX1 ∧ yX1_shareOf.cls ≠ "java/lang/invoke/MethodHandle" ∧ yX1_shareOf.cls ≠ "java/lang/invoke/VarHandle" ∧ (parseMethodDescriptor yX1_shareOf.desc).map (fun d => d.parameters.length) = some 1 := by decide +kernel
theorem xd_X4_putWithin : yX4_putWithin.cls = RX4 ∧ yX4_putWithin.cls ≠ "java/lang/invoke/MethodHandle" ∧ yX4_putWithin.cls ≠ "java/lang/invoke/VarHandle" ∧ (parseMethodDescriptor yX4_putWithin.desc).map (fun d => d.parameters.length) = some 1 := by decide +kernel
theorem xd_X5_putNone : yX5_putNone.cls = RX5 ∧ yX5_putNone.cls ≠ "java/lang/invoke/MethodHandle" ∧ yX5_putNone.cls ≠ "java/lang/invoke/VarHandle" ∧ (parseMethodDescriptor yX5_putNone.desc).map (fun d => d.parameters.length) = some 0 := by decide +kernel
theorem xd_X4_putBetween : yX4_putBetween.cls = RX4 ∧ yX4_putBetween.cls ≠ "java/lang/invoke/MethodHandle" ∧ yX4_putBetween.cls ≠ "java/lang/invoke/VarHandle" ∧ (parseMethodDescriptor yX4_putBetween.desc).map (fun d => d.parameters.length) = some 1 := by decide +kernel
theorem xd_X4_putOff : yX4_putOff.cls = RX4 ∧ yX4_putOff.cls ≠ "java/lang/invoke/MethodHandle" ∧ yX4_putOff.cls ≠ "java/lang/invoke/VarHandle" ∧ (parseMethodDescriptor yX4_putOff.desc).map (fun d => d.parameters.length) = some 1 := by decide +kernel
theorem xd_X1_putSpread : yX1_putSpread.cls = RX1 ∧ yX1_putSpread.cls ≠ "java/lang/invoke/MethodHandle" ∧ yX1_putSpread.cls ≠ "java/lang/invoke/VarHandle" ∧ (parseMethodDescriptor yX1_putSpread.desc).map (fun d => d.parameters.length) = some 3 := by decide +kernel
theorem xd_X5_commonDivisor : yX5_commonDivisor.cls = RX5 ∧ yX5_commonDivisor.cls ≠ "java/lang/invoke/MethodHandle" ∧ yX5_commonDivisor.cls ≠ "java/lang/invoke/VarHandle" ∧ (parseMethodDescriptor yX5_commonDivisor.desc).map (fun d => d.parameters.length) = some 0 := by decide +kernel
theorem xd_X5_part : yX5_part.cls = RX5 ∧ yX5_part.cls ≠ "java/lang/invoke/MethodHandle" ∧ yX5_part.cls ≠ "java/lang/invoke/VarHandle" ∧ (parseMethodDescriptor yX5_part.desc).map (fun d => d.parameters.length) = some 1 := by decide +kernel
theorem xd_X7_spreadIn : yX7_spreadIn.cls = RX7 ∧ yX7_spreadIn.cls ≠ "java/lang/invoke/MethodHandle" ∧ yX7_spreadIn.cls ≠ "java/lang/invoke/VarHandle" ∧ (parseMethodDescriptor yX7_spreadIn.desc).map (fun d => d.parameters.length) = some 4 := by decide +kernel
theorem xd_X1_isRated : yX1_isRated.cls = RX1 ∧ yX1_isRated.cls ≠ "java/lang/invoke/MethodHandle" ∧ yX1_isRated.cls ≠ "java/lang/invoke/VarHandle" ∧ (parseMethodDescriptor yX1_isRated.desc).map (fun d => d.parameters.length) = some 1 := by decide +kernel
theorem xd_X1_putRate : yX1_putRate.cls = RX1 ∧ yX1_putRate.cls ≠ "java/lang/invoke/MethodHandle" ∧ yX1_putRate.cls ≠ "java/lang/invoke/VarHandle" ∧ (parseMethodDescriptor yX1_putRate.desc).map (fun d => d.parameters.length) = some 2 := by decide +kernel
theorem xd_X5_inThousandths : yX5_inThousandths.cls = RX5 ∧ yX5_inThousandths.cls ≠ "java/lang/invoke/MethodHandle" ∧ yX5_inThousandths.cls ≠ "java/lang/invoke/VarHandle" ∧ (parseMethodDescriptor yX5_inThousandths.desc).map (fun d => d.parameters.length) = some 0 := by decide +kernel
theorem xd_X1_rateCut : yX1_rateCut.cls = RX1 ∧ yX1_rateCut.cls ≠ "java/lang/invoke/MethodHandle" ∧ yX1_rateCut.cls ≠ "java/lang/invoke/VarHandle" ∧ (parseMethodDescriptor yX1_rateCut.desc).map (fun d => d.parameters.length) = some 1 := by decide +kernel
theorem xd_X7_rateIn : yX7_rateIn.cls = RX7 ∧ yX7_rateIn.cls ≠ "java/lang/invoke/MethodHandle" ∧ yX7_rateIn.cls ≠ "java/lang/invoke/VarHandle" ∧ (parseMethodDescriptor yX7_rateIn.desc).map (fun d => d.parameters.length) = some 2 := by decide +kernel
theorem xd_X5_compareWith : yX5_compareWith.cls = RX5 ∧ yX5_compareWith.cls ≠ "java/lang/invoke/MethodHandle" ∧ yX5_compareWith.cls ≠ "java/lang/invoke/VarHandle" ∧ (parseMethodDescriptor yX5_compareWith.desc).map (fun d => d.parameters.length) = some 1 := by decide +kernel
theorem xd_X1_compareRates : yX1_compareRates.cls = RX1 ∧ yX1_compareRates.cls ≠ "java/lang/invoke/MethodHandle" ∧ yX1_compareRates.cls ≠ "java/lang/invoke/VarHandle" ∧ (parseMethodDescriptor yX1_compareRates.desc).map (fun d => d.parameters.length) = some 2 := by decide +kernel
theorem xd_X1_placeOf : yX1_placeOf.cls = RX1 ∧ yX1_placeOf.cls ≠ "java/lang/invoke/MethodHandle" ∧ yX1_placeOf.cls ≠ "java/lang/invoke/VarHandle" ∧ (parseMethodDescriptor yX1_placeOf.desc).map (fun d => d.parameters.length) = some 1 := by decide +kernel
theorem xd_X0_placeOf : yX0_placeOf.cls = RX0 ∧ yX0_placeOf.cls ≠ "java/lang/invoke/MethodHandle" ∧ yX0_placeOf.cls ≠ "java/lang/invoke/VarHandle" ∧ (parseMethodDescriptor yX0_placeOf.desc).map (fun d => d.parameters.length) = some 1 := by decide +kernel
theorem xd_X0_claimsOfYear : yX0_claimsOfYear.cls = RX0 ∧ yX0_claimsOfYear.cls ≠ "java/lang/invoke/MethodHandle" ∧ yX0_claimsOfYear.cls ≠ "java/lang/invoke/VarHandle" ∧ (parseMethodDescriptor yX0_claimsOfYear.desc).map (fun d => d.parameters.length) = some 1 := by decide +kernel
theorem xd_X1_shareBySpan : yX1_shareBySpan.cls = RX1 ∧ yX1_shareBySpan.cls ≠ "java/lang/invoke/MethodHandle" ∧ yX1_shareBySpan.cls ≠ "java/lang/invoke/VarHandle" ∧ (parseMethodDescriptor yX1_shareBySpan.desc).map (fun d => d.parameters.length) = some 2 := by decide +kernel
theorem xd_X7_inClass : yX7_inClass.cls = RX7 ∧ yX7_inClass.cls ≠ "java/lang/invoke/MethodHandle" ∧ yX7_inClass.cls ≠ "java/lang/invoke/VarHandle" ∧ (parseMethodDescriptor yX7_inClass.desc).map (fun d => d.parameters.length) = some 2 := by decide +kernel
theorem xd_X7_byCap : yX7_byCap.cls = RX7 ∧ yX7_byCap.cls ≠ "java/lang/invoke/MethodHandle" ∧ yX7_byCap.cls ≠ "java/lang/invoke/VarHandle" ∧ (parseMethodDescriptor yX7_byCap.desc).map (fun d => d.parameters.length) = some 2 := by decide +kernel
theorem xd_X7_tryEarly : yX7_tryEarly.cls = RX7 ∧ yX7_tryEarly.cls ≠ "java/lang/invoke/MethodHandle" ∧ yX7_tryEarly.cls ≠ "java/lang/invoke/VarHandle" ∧ (parseMethodDescriptor yX7_tryEarly.desc).map (fun d => d.parameters.length) = some 1 := by decide +kernel
theorem xd_X7_keepRatesNow : yX7_keepRatesNow.cls = RX7 ∧ yX7_keepRatesNow.cls ≠ "java/lang/invoke/MethodHandle" ∧ yX7_keepRatesNow.cls ≠ "java/lang/invoke/VarHandle" ∧ (parseMethodDescriptor yX7_keepRatesNow.desc).map (fun d => d.parameters.length) = some 0 := by decide +kernel
theorem xd_X7_withoutClaim : yX7_withoutClaim.cls = RX7 ∧ yX7_withoutClaim.cls ≠ "java/lang/invoke/MethodHandle" ∧ yX7_withoutClaim.cls ≠ "java/lang/invoke/VarHandle" ∧ (parseMethodDescriptor yX7_withoutClaim.desc).map (fun d => d.parameters.length) = some 2 := by decide +kernel
theorem xd_X3_begin : yX3_begin.cls = RX3 ∧ yX3_begin.cls ≠ "java/lang/invoke/MethodHandle" ∧ yX3_begin.cls ≠ "java/lang/invoke/VarHandle" ∧ (parseMethodDescriptor yX3_begin.desc).map (fun d => d.parameters.length) = some 1 := by decide +kernel
theorem xd_X3_writeByte : yX3_writeByte.cls = RX3 ∧ yX3_writeByte.cls ≠ "java/lang/invoke/MethodHandle" ∧ yX3_writeByte.cls ≠ "java/lang/invoke/VarHandle" ∧ (parseMethodDescriptor yX3_writeByte.desc).map (fun d => d.parameters.length) = some 1 := by decide +kernel
theorem xd_X3_writeBehind : yX3_writeBehind.cls = RX3 ∧ yX3_writeBehind.cls ≠ "java/lang/invoke/MethodHandle" ∧ yX3_writeBehind.cls ≠ "java/lang/invoke/VarHandle" ∧ (parseMethodDescriptor yX3_writeBehind.desc).map (fun d => d.parameters.length) = some 1 := by decide +kernel
theorem xd_X3_writeNamed : yX3_writeNamed.cls = RX3 ∧ yX3_writeNamed.cls ≠ "java/lang/invoke/MethodHandle" ∧ yX3_writeNamed.cls ≠ "java/lang/invoke/VarHandle" ∧ (parseMethodDescriptor yX3_writeNamed.desc).map (fun d => d.parameters.length) = some 2 := by decide +kernel
theorem xd_X3_writeEnd : yX3_writeEnd.cls = RX3 ∧ yX3_writeEnd.cls ≠ "java/lang/invoke/MethodHandle" ∧ yX3_writeEnd.cls ≠ "java/lang/invoke/VarHandle" ∧ (parseMethodDescriptor yX3_writeEnd.desc).map (fun d => d.parameters.length) = some 0 := by decide +kernel
theorem xd_X3_answer : yX3_answer.cls = RX3 ∧ yX3_answer.cls ≠ "java/lang/invoke/MethodHandle" ∧ yX3_answer.cls ≠ "java/lang/invoke/VarHandle" ∧ (parseMethodDescriptor yX3_answer.desc).map (fun d => d.parameters.length) = some 0 := by decide +kernel
theorem xd_X7_spellFleet : yX7_spellFleet.cls = RX7 ∧ yX7_spellFleet.cls ≠ "java/lang/invoke/MethodHandle" ∧ yX7_spellFleet.cls ≠ "java/lang/invoke/VarHandle" ∧ (parseMethodDescriptor yX7_spellFleet.desc).map (fun d => d.parameters.length) = some 1 := by decide +kernel
theorem xd_X7_spellClaim : yX7_spellClaim.cls = RX7 ∧ yX7_spellClaim.cls ≠ "java/lang/invoke/MethodHandle" ∧ yX7_spellClaim.cls ≠ "java/lang/invoke/VarHandle" ∧ (parseMethodDescriptor yX7_spellClaim.desc).map (fun d => d.parameters.length) = some 1 := by decide +kernel
theorem xd_X0_allClaimsAboveCap : yX0_allClaimsAboveCap.cls = RX0 ∧ yX0_allClaimsAboveCap.cls ≠ "java/lang/invoke/MethodHandle" ∧ yX0_allClaimsAboveCap.cls ≠ "java/lang/invoke/VarHandle" ∧ (parseMethodDescriptor yX0_allClaimsAboveCap.desc).map (fun d => d.parameters.length) = some 0 := by decide +kernel
theorem xd_X0_fleetsWithoutYears : yX0_fleetsWithoutYears.cls = RX0 ∧ yX0_fleetsWithoutYears.cls ≠ "java/lang/invoke/MethodHandle" ∧ yX0_fleetsWithoutYears.cls ≠ "java/lang/invoke/VarHandle" ∧ (parseMethodDescriptor yX0_fleetsWithoutYears.desc).map (fun d => d.parameters.length) = some 0 := by decide +kernel
theorem xd_X0_yearsOfAll : yX0_yearsOfAll.cls = RX0 ∧ yX0_yearsOfAll.cls ≠ "java/lang/invoke/MethodHandle" ∧ yX0_yearsOfAll.cls ≠ "java/lang/invoke/VarHandle" ∧ (parseMethodDescriptor yX0_yearsOfAll.desc).map (fun d => d.parameters.length) = some 0 := by decide +kernel
theorem xd_X8_many : yX8_many.cls = RX8 ∧ yX8_many.cls ≠ "java/lang/invoke/MethodHandle" ∧ yX8_many.cls ≠ "java/lang/invoke/VarHandle" ∧ (parseMethodDescriptor yX8_many.desc).map (fun d => d.parameters.length) = some 0 := by decide +kernel
theorem xd_X8_in : yX8_in.cls = RX8 ∧ yX8_in.cls ≠ "java/lang/invoke/MethodHandle" ∧ yX8_in.cls ≠ "java/lang/invoke/VarHandle" ∧ (parseMethodDescriptor yX8_in.desc).map (fun d => d.parameters.length) = some 3 := by decide +kernel
theorem xd_X8_claims : yX8_claims.cls = RX8 ∧ yX8_claims.cls ≠ "java/lang/invoke/MethodHandle" ∧ yX8_claims.cls ≠ "java/lang/invoke/VarHandle" ∧ (parseMethodDescriptor yX8_claims.desc).map (fun d => d.parameters.length) = some 0 := by decide +kernel
theorem xd_X8_yearsOf : yX8_yearsOf.cls = RX8 ∧ yX8_yearsOf.cls ≠ "java/lang/invoke/MethodHandle" ∧ yX8_yearsOf.cls ≠ "java/lang/invoke/VarHandle" ∧ (parseMethodDescriptor yX8_yearsOf.desc).map (fun d => d.parameters.length) = some 1 := by decide +kernel
theorem xd_X8_amountOf : yX8_amountOf.cls = RX8 ∧ yX8_amountOf.cls ≠ "java/lang/invoke/MethodHandle" ∧ yX8_amountOf.cls ≠ "java/lang/invoke/VarHandle" ∧ (parseMethodDescriptor yX8_amountOf.desc).map (fun d => d.parameters.length) = some 1 := by decide +kernel
theorem xd_X8_fleetOf : yX8_fleetOf.cls = RX8 ∧ yX8_fleetOf.cls ≠ "java/lang/invoke/MethodHandle" ∧ yX8_fleetOf.cls ≠ "java/lang/invoke/VarHandle" ∧ (parseMethodDescriptor yX8_fleetOf.desc).map (fun d => d.parameters.length) = some 1 := by decide +kernel
theorem xd_X8_yearOf : yX8_yearOf.cls = RX8 ∧ yX8_yearOf.cls ≠ "java/lang/invoke/MethodHandle" ∧ yX8_yearOf.cls ≠ "java/lang/invoke/VarHandle" ∧ (parseMethodDescriptor yX8_yearOf.desc).map (fun d => d.parameters.length) = some 1 := by decide +kernel
theorem xd_X8_drops : yX8_drops.cls = RX8 ∧ yX8_drops.cls ≠ "java/lang/invoke/MethodHandle" ∧ yX8_drops.cls ≠ "java/lang/invoke/VarHandle" ∧ (parseMethodDescriptor yX8_drops.desc).map (fun d => d.parameters.length) = some 1 := by decide +kernel
theorem xd_X8_isClass : yX8_isClass.cls = RX8 ∧ yX8_isClass.cls ≠ "java/lang/invoke/MethodHandle" ∧ yX8_isClass.cls ≠ "java/lang/invoke/VarHandle" ∧ (parseMethodDescriptor yX8_isClass.desc).map (fun d => d.parameters.length) = some 1 := by decide +kernel
theorem xd_X8_keeps : yX8_keeps.cls = RX8 ∧ yX8_keeps.cls ≠ "java/lang/invoke/MethodHandle" ∧ yX8_keeps.cls ≠ "java/lang/invoke/VarHandle" ∧ (parseMethodDescriptor yX8_keeps.desc).map (fun d => d.parameters.length) = some 0 := by decide +kernel
theorem xd_X8_isFleet : yX8_isFleet.cls = RX8 ∧ yX8_isFleet.cls ≠ "java/lang/invoke/MethodHandle" ∧ yX8_isFleet.cls ≠ "java/lang/invoke/VarHandle" ∧ (parseMethodDescriptor yX8_isFleet.desc).map (fun d => d.parameters.length) = some 1 := by decide +kernel
theorem xd_X8_dropsAll : yX8_dropsAll.cls = RX8 ∧ yX8_dropsAll.cls ≠ "java/lang/invoke/MethodHandle" ∧ yX8_dropsAll.cls ≠ "java/lang/invoke/VarHandle" ∧ (parseMethodDescriptor yX8_dropsAll.desc).map (fun d => d.parameters.length) = some 2 := by decide +kernel
theorem xd_X8_goes : yX8_goes.cls = RX8 ∧ yX8_goes.cls ≠ "java/lang/invoke/MethodHandle" ∧ yX8_goes.cls ≠ "java/lang/invoke/VarHandle" ∧ (parseMethodDescriptor yX8_goes.desc).map (fun d => d.parameters.length) = some 1 := by decide +kernel
theorem xd_X8_classOf : yX8_classOf.cls = RX8 ∧ yX8_classOf.cls ≠ "java/lang/invoke/MethodHandle" ∧ yX8_classOf.cls ≠ "java/lang/invoke/VarHandle" ∧ (parseMethodDescriptor yX8_classOf.desc).map (fun d => d.parameters.length) = some 1 := by decide +kernel
theorem xd_X8_becomes : yX8_becomes.cls = RX8 ∧ yX8_becomes.cls ≠ "java/lang/invoke/MethodHandle" ∧ yX8_becomes.cls ≠ "java/lang/invoke/VarHandle" ∧ (parseMethodDescriptor yX8_becomes.desc).map (fun d => d.parameters.length) = some 2 := by decide +kernel
theorem xd_X8_isYear : yX8_isYear.cls = RX8 ∧ yX8_isYear.cls ≠ "java/lang/invoke/MethodHandle" ∧ yX8_isYear.cls ≠ "java/lang/invoke/VarHandle" ∧ (parseMethodDescriptor yX8_isYear.desc).map (fun d => d.parameters.length) = some 1 := by decide +kernel
theorem xd_X8_isInsured : yX8_isInsured.cls = RX8 ∧ yX8_isInsured.cls ≠ "java/lang/invoke/MethodHandle" ∧ yX8_isInsured.cls ≠ "java/lang/invoke/VarHandle" ∧ (parseMethodDescriptor yX8_isInsured.desc).map (fun d => d.parameters.length) = some 2 := by decide +kernel
theorem xd_X8_ones : yX8_ones.cls = RX8 ∧ yX8_ones.cls ≠ "java/lang/invoke/MethodHandle" ∧ yX8_ones.cls ≠ "java/lang/invoke/VarHandle" ∧ (parseMethodDescriptor yX8_ones.desc).map (fun d => d.parameters.length) = some 1 := by decide +kernel
theorem xd_X8_isAmount : yX8_isAmount.cls = RX8 ∧ yX8_isAmount.cls ≠ "java/lang/invoke/MethodHandle" ∧ yX8_isAmount.cls ≠ "java/lang/invoke/VarHandle" ∧ (parseMethodDescriptor yX8_isAmount.desc).map (fun d => d.parameters.length) = some 1 := by decide +kernel
theorem xd_X8_claimsOf : yX8_claimsOf.cls = RX8 ∧ yX8_claimsOf.cls ≠ "java/lang/invoke/MethodHandle" ∧ yX8_claimsOf.cls ≠ "java/lang/invoke/VarHandle" ∧ (parseMethodDescriptor yX8_claimsOf.desc).map (fun d => d.parameters.length) = some 2 := by decide +kernel
theorem xd_X8_isClaim : yX8_isClaim.cls = RX8 ∧ yX8_isClaim.cls ≠ "java/lang/invoke/MethodHandle" ∧ yX8_isClaim.cls ≠ "java/lang/invoke/VarHandle" ∧ (parseMethodDescriptor yX8_isClaim.desc).map (fun d => d.parameters.length) = some 1 := by decide +kernel
theorem xd_X8_joins : yX8_joins.cls = RX8 ∧ yX8_joins.cls ≠ "java/lang/invoke/MethodHandle" ∧ yX8_joins.cls ≠ "java/lang/invoke/VarHandle" ∧ (parseMethodDescriptor yX8_joins.desc).map (fun d => d.parameters.length) = some 2 := by decide +kernel
theorem xd_X8_scaled : yX8_scaled.cls = RX8 ∧ yX8_scaled.cls ≠ "java/lang/invoke/MethodHandle" ∧ yX8_scaled.cls ≠ "java/lang/invoke/VarHandle" ∧ (parseMethodDescriptor yX8_scaled.desc).map (fun d => d.parameters.length) = some 2 := by decide +kernel
theorem xd_X8_common : yX8_common.cls = RX8 ∧ yX8_common.cls ≠ "java/lang/invoke/MethodHandle" ∧ yX8_common.cls ≠ "java/lang/invoke/VarHandle" ∧ (parseMethodDescriptor yX8_common.desc).map (fun d => d.parameters.length) = some 2 := by decide +kernel
theorem xd_X8_is : yX8_is.cls = RX8 ∧ yX8_is.cls ≠ "java/lang/invoke/MethodHandle" ∧ yX8_is.cls ≠ "java/lang/invoke/VarHandle" ∧ (parseMethodDescriptor yX8_is.desc).map (fun d => d.parameters.length) = some 2 := by decide +kernel
theorem xd_X8_counted : yX8_counted.cls = RX8 ∧ yX8_counted.cls ≠ "java/lang/invoke/MethodHandle" ∧ yX8_counted.cls ≠ "java/lang/invoke/VarHandle" ∧ (parseMethodDescriptor yX8_counted.desc).map (fun d => d.parameters.length) = some 1 := by decide +kernel
theorem xd_X8_lossIn : yX8_lossIn.cls = RX8 ∧ yX8_lossIn.cls ≠ "java/lang/invoke/MethodHandle" ∧ yX8_lossIn.cls ≠ "java/lang/invoke/VarHandle" ∧ (parseMethodDescriptor yX8_lossIn.desc).map (fun d => d.parameters.length) = some 2 := by decide +kernel
theorem xd_X8_adds : yX8_adds.cls = RX8 ∧ yX8_adds.cls ≠ "java/lang/invoke/MethodHandle" ∧ yX8_adds.cls ≠ "java/lang/invoke/VarHandle" ∧ (parseMethodDescriptor yX8_adds.desc).map (fun d => d.parameters.length) = some 4 := by decide +kernel
theorem xd_X8_multiplies : yX8_multiplies.cls = RX8 ∧ yX8_multiplies.cls ≠ "java/lang/invoke/MethodHandle" ∧ yX8_multiplies.cls ≠ "java/lang/invoke/VarHandle" ∧ (parseMethodDescriptor yX8_multiplies.desc).map (fun d => d.parameters.length) = some 4 := by decide +kernel
theorem xd_X8_puts : yX8_puts.cls = RX8 ∧ yX8_puts.cls ≠ "java/lang/invoke/MethodHandle" ∧ yX8_puts.cls ≠ "java/lang/invoke/VarHandle" ∧ (parseMethodDescriptor yX8_puts.desc).map (fun d => d.parameters.length) = some 2 := by decide +kernel
theorem xd_X8_isIn : yX8_isIn.cls = RX8 ∧ yX8_isIn.cls ≠ "java/lang/invoke/MethodHandle" ∧ yX8_isIn.cls ≠ "java/lang/invoke/VarHandle" ∧ (parseMethodDescriptor yX8_isIn.desc).map (fun d => d.parameters.length) = some 2 := by decide +kernel
theorem xd_X8_shares : yX8_shares.cls = RX8 ∧ yX8_shares.cls ≠ "java/lang/invoke/MethodHandle" ∧ yX8_shares.cls ≠ "java/lang/invoke/VarHandle" ∧ (parseMethodDescriptor yX8_shares.desc).map (fun d => d.parameters.length) = some 1 := by decide +kernel
theorem xd_X8_mixes : yX8_mixes.cls = RX8 ∧ yX8_mixes.cls ≠ "java/lang/invoke/MethodHandle" ∧ yX8_mixes.cls ≠ "java/lang/invoke/VarHandle" ∧ (parseMethodDescriptor yX8_mixes.desc).map (fun d => d.parameters.length) = some 5 := by decide +kernel
theorem xd_X8_sums : yX8_sums.cls = RX8 ∧ yX8_sums.cls ≠ "java/lang/invoke/MethodHandle" ∧ yX8_sums.cls ≠ "java/lang/invoke/VarHandle" ∧ (parseMethodDescriptor yX8_sums.desc).map (fun d => d.parameters.length) = some 0 := by decide +kernel
theorem xd_X8_spreads : yX8_spreads.cls = RX8 ∧ yX8_spreads.cls ≠ "java/lang/invoke/MethodHandle" ∧ yX8_spreads.cls ≠ "java/lang/invoke/VarHandle" ∧ (parseMethodDescriptor yX8_spreads.desc).map (fun d => d.parameters.length) = some 1 := by decide +kernel
theorem xd_X8_centres : yX8_centres.cls = RX8 ∧ yX8_centres.cls ≠ "java/lang/invoke/MethodHandle" ∧ yX8_centres.cls ≠ "java/lang/invoke/VarHandle" ∧ (parseMethodDescriptor yX8_centres.desc).map (fun d => d.parameters.length) = some 1 := by decide +kernel
theorem xd_X8_rates : yX8_rates.cls = RX8 ∧ yX8_rates.cls ≠ "java/lang/invoke/MethodHandle" ∧ yX8_rates.cls ≠ "java/lang/invoke/VarHandle" ∧ (parseMethodDescriptor yX8_rates.desc).map (fun d => d.parameters.length) = some 1 := by decide +kernel
theorem xd_X8_shareOf : yX8_shareOf.cls = RX8 ∧ yX8_shareOf.cls ≠ "java/lang/invoke/MethodHandle" ∧ yX8_shareOf.cls ≠ "java/lang/invoke/VarHandle" ∧ (parseMethodDescriptor yX8_shareOf.desc).map (fun d => d.parameters.length) = some 2 := by decide +kernel
theorem xd_X8_works : yX8_works.cls = RX8 ∧ yX8_works.cls ≠ "java/lang/invoke/MethodHandle" ∧ yX8_works.cls ≠ "java/lang/invoke/VarHandle" ∧ (parseMethodDescriptor yX8_works.desc).map (fun d => d.parameters.length) = some 0 := by decide +kernel
theorem xd_X8_inThousandths : yX8_inThousandths.cls = RX8 ∧ yX8_inThousandths.cls ≠ "java/lang/invoke/MethodHandle" ∧ yX8_inThousandths.cls ≠ "java/lang/invoke/VarHandle" ∧ (parseMethodDescriptor yX8_inThousandths.desc).map (fun d => d.parameters.length) = some 1 := by decide +kernel
theorem xd_X8_aboveCap : yX8_aboveCap.cls = RX8 ∧ yX8_aboveCap.cls ≠ "java/lang/invoke/MethodHandle" ∧ yX8_aboveCap.cls ≠ "java/lang/invoke/VarHandle" ∧ (parseMethodDescriptor yX8_aboveCap.desc).map (fun d => d.parameters.length) = some 1 := by decide +kernel
theorem xd_X8_spreadNow : yX8_spreadNow.cls = RX8 ∧ yX8_spreadNow.cls ≠ "java/lang/invoke/MethodHandle" ∧ yX8_spreadNow.cls ≠ "java/lang/invoke/VarHandle" ∧ (parseMethodDescriptor yX8_spreadNow.desc).map (fun d => d.parameters.length) = some 3 := by decide +kernel
theorem xd_X8_isRated : yX8_isRated.cls = RX8 ∧ yX8_isRated.cls ≠ "java/lang/invoke/MethodHandle" ∧ yX8_isRated.cls ≠ "java/lang/invoke/VarHandle" ∧ (parseMethodDescriptor yX8_isRated.desc).map (fun d => d.parameters.length) = some 1 := by decide +kernel
theorem xd_X8_ratedNow : yX8_ratedNow.cls = RX8 ∧ yX8_ratedNow.cls ≠ "java/lang/invoke/MethodHandle" ∧ yX8_ratedNow.cls ≠ "java/lang/invoke/VarHandle" ∧ (parseMethodDescriptor yX8_ratedNow.desc).map (fun d => d.parameters.length) = some 1 := by decide +kernel
theorem xd_X8_isLess : yX8_isLess.cls = RX8 ∧ yX8_isLess.cls ≠ "java/lang/invoke/MethodHandle" ∧ yX8_isLess.cls ≠ "java/lang/invoke/VarHandle" ∧ (parseMethodDescriptor yX8_isLess.desc).map (fun d => d.parameters.length) = some 4 := by decide +kernel
theorem xd_X8_isAhead : yX8_isAhead.cls = RX8 ∧ yX8_isAhead.cls ≠ "java/lang/invoke/MethodHandle" ∧ yX8_isAhead.cls ≠ "java/lang/invoke/VarHandle" ∧ (parseMethodDescriptor yX8_isAhead.desc).map (fun d => d.parameters.length) = some 2 := by decide +kernel
theorem xd_X8_isGreater : yX8_isGreater.cls = RX8 ∧ yX8_isGreater.cls ≠ "java/lang/invoke/MethodHandle" ∧ yX8_isGreater.cls ≠ "java/lang/invoke/VarHandle" ∧ (parseMethodDescriptor yX8_isGreater.desc).map (fun d => d.parameters.length) = some 2 := by decide +kernel
theorem xd_X8_sharedBy : yX8_sharedBy.cls = RX8 ∧ yX8_sharedBy.cls ≠ "java/lang/invoke/MethodHandle" ∧ yX8_sharedBy.cls ≠ "java/lang/invoke/VarHandle" ∧ (parseMethodDescriptor yX8_sharedBy.desc).map (fun d => d.parameters.length) = some 2 := by decide +kernel
theorem xd_X8_ratedBy : yX8_ratedBy.cls = RX8 ∧ yX8_ratedBy.cls ≠ "java/lang/invoke/MethodHandle" ∧ yX8_ratedBy.cls ≠ "java/lang/invoke/VarHandle" ∧ (parseMethodDescriptor yX8_ratedBy.desc).map (fun d => d.parameters.length) = some 3 := by decide +kernel
theorem xd_X8_putsAside : yX8_putsAside.cls = RX8 ∧ yX8_putsAside.cls ≠ "java/lang/invoke/MethodHandle" ∧ yX8_putsAside.cls ≠ "java/lang/invoke/VarHandle" ∧ (parseMethodDescriptor yX8_putsAside.desc).map (fun d => d.parameters.length) = some 0 := by decide +kernel
theorem xd_X8_ends : yX8_ends.cls = RX8 ∧ yX8_ends.cls ≠ "java/lang/invoke/MethodHandle" ∧ yX8_ends.cls ≠ "java/lang/invoke/VarHandle" ∧ (parseMethodDescriptor yX8_ends.desc).map (fun d => d.parameters.length) = some 1 := by decide +kernel
theorem xd_X8_sharedNow : yX8_sharedNow.cls = RX8 ∧ yX8_sharedNow.cls ≠ "java/lang/invoke/MethodHandle" ∧ yX8_sharedNow.cls ≠ "java/lang/invoke/VarHandle" ∧ (parseMethodDescriptor yX8_sharedNow.desc).map (fun d => d.parameters.length) = some 1 := by decide +kernel
theorem xd_X8_takesBack : yX8_takesBack.cls = RX8 ∧ yX8_takesBack.cls ≠ "java/lang/invoke/MethodHandle" ∧ yX8_takesBack.cls ≠ "java/lang/invoke/VarHandle" ∧ (parseMethodDescriptor yX8_takesBack.desc).map (fun d => d.parameters.length) = some 0 := by decide +kernel
theorem xd_X8_earlier : yX8_earlier.cls = RX8 ∧ yX8_earlier.cls ≠ "java/lang/invoke/MethodHandle" ∧ yX8_earlier.cls ≠ "java/lang/invoke/VarHandle" ∧ (parseMethodDescriptor yX8_earlier.desc).map (fun d => d.parameters.length) = some 3 := by decide +kernel
theorem xd_X8_ratedWithout : yX8_ratedWithout.cls = RX8 ∧ yX8_ratedWithout.cls ≠ "java/lang/invoke/MethodHandle" ∧ yX8_ratedWithout.cls ≠ "java/lang/invoke/VarHandle" ∧ (parseMethodDescriptor yX8_ratedWithout.desc).map (fun d => d.parameters.length) = some 2 := by decide +kernel
theorem xd_X8_wordFrom : yX8_wordFrom.cls = RX8 ∧ yX8_wordFrom.cls ≠ "java/lang/invoke/MethodHandle" ∧ yX8_wordFrom.cls ≠ "java/lang/invoke/VarHandle" ∧ (parseMethodDescriptor yX8_wordFrom.desc).map (fun d => d.parameters.length) = some 1 := by decide +kernel
theorem xd_X8_writes : yX8_writes.cls = RX8 ∧ yX8_writes.cls ≠ "java/lang/invoke/MethodHandle" ∧ yX8_writes.cls ≠ "java/lang/invoke/VarHandle" ∧ (parseMethodDescriptor yX8_writes.desc).map (fun d => d.parameters.length) = some 1 := by decide +kernel
theorem xd_X8_writesWord : yX8_writesWord.cls = RX8 ∧ yX8_writesWord.cls ≠ "java/lang/invoke/MethodHandle" ∧ yX8_writesWord.cls ≠ "java/lang/invoke/VarHandle" ∧ (parseMethodDescriptor yX8_writesWord.desc).map (fun d => d.parameters.length) = some 1 := by decide +kernel
theorem xd_X8_writesNumber : yX8_writesNumber.cls = RX8 ∧ yX8_writesNumber.cls ≠ "java/lang/invoke/MethodHandle" ∧ yX8_writesNumber.cls ≠ "java/lang/invoke/VarHandle" ∧ (parseMethodDescriptor yX8_writesNumber.desc).map (fun d => d.parameters.length) = some 1 := by decide +kernel
theorem xd_X8_writesOne : yX8_writesOne.cls = RX8 ∧ yX8_writesOne.cls ≠ "java/lang/invoke/MethodHandle" ∧ yX8_writesOne.cls ≠ "java/lang/invoke/VarHandle" ∧ (parseMethodDescriptor yX8_writesOne.desc).map (fun d => d.parameters.length) = some 2 := by decide +kernel
theorem xd_X8_toldText : yX8_toldText.cls = RX8 ∧ yX8_toldText.cls ≠ "java/lang/invoke/MethodHandle" ∧ yX8_toldText.cls ≠ "java/lang/invoke/VarHandle" ∧ (parseMethodDescriptor yX8_toldText.desc).map (fun d => d.parameters.length) = some 1 := by decide +kernel
theorem xd_X8_here : yX8_here.cls = RX8 ∧ yX8_here.cls ≠ "java/lang/invoke/MethodHandle" ∧ yX8_here.cls ≠ "java/lang/invoke/VarHandle" ∧ (parseMethodDescriptor yX8_here.desc).map (fun d => d.parameters.length) = some 0 := by decide +kernel
theorem xd_X8_goesOn : yX8_goesOn.cls = RX8 ∧ yX8_goesOn.cls ≠ "java/lang/invoke/MethodHandle" ∧ yX8_goesOn.cls ≠ "java/lang/invoke/VarHandle" ∧ (parseMethodDescriptor yX8_goesOn.desc).map (fun d => d.parameters.length) = some 0 := by decide +kernel
theorem xd_X8_isRoom : yX8_isRoom.cls = RX8 ∧ yX8_isRoom.cls ≠ "java/lang/invoke/MethodHandle" ∧ yX8_isRoom.cls ≠ "java/lang/invoke/VarHandle" ∧ (parseMethodDescriptor yX8_isRoom.desc).map (fun d => d.parameters.length) = some 3 := by decide +kernel
theorem xd_X8_needsNumber : yX8_needsNumber.cls = RX8 ∧ yX8_needsNumber.cls ≠ "java/lang/invoke/MethodHandle" ∧ yX8_needsNumber.cls ≠ "java/lang/invoke/VarHandle" ∧ (parseMethodDescriptor yX8_needsNumber.desc).map (fun d => d.parameters.length) = some 2 := by decide +kernel
theorem xd_X8_mayBeIn : yX8_mayBeIn.cls = RX8 ∧ yX8_mayBeIn.cls ≠ "java/lang/invoke/MethodHandle" ∧ yX8_mayBeIn.cls ≠ "java/lang/invoke/VarHandle" ∧ (parseMethodDescriptor yX8_mayBeIn.desc).map (fun d => d.parameters.length) = some 2 := by decide +kernel
theorem xd_X8_takesWord : yX8_takesWord.cls = RX8 ∧ yX8_takesWord.cls ≠ "java/lang/invoke/MethodHandle" ∧ yX8_takesWord.cls ≠ "java/lang/invoke/VarHandle" ∧ (parseMethodDescriptor yX8_takesWord.desc).map (fun d => d.parameters.length) = some 1 := by decide +kernel
theorem xd_X8_readsClaim : yX8_readsClaim.cls = RX8 ∧ yX8_readsClaim.cls ≠ "java/lang/invoke/MethodHandle" ∧ yX8_readsClaim.cls ≠ "java/lang/invoke/VarHandle" ∧ (parseMethodDescriptor yX8_readsClaim.desc).map (fun d => d.parameters.length) = some 1 := by decide +kernel
theorem xd_X8_readsFleet : yX8_readsFleet.cls = RX8 ∧ yX8_readsFleet.cls ≠ "java/lang/invoke/MethodHandle" ∧ yX8_readsFleet.cls ≠ "java/lang/invoke/VarHandle" ∧ (parseMethodDescriptor yX8_readsFleet.desc).map (fun d => d.parameters.length) = some 1 := by decide +kernel
theorem xd_X8_starts : yX8_starts.cls = RX8 ∧ yX8_starts.cls ≠ "java/lang/invoke/MethodHandle" ∧ yX8_starts.cls ≠ "java/lang/invoke/VarHandle" ∧ (parseMethodDescriptor yX8_starts.desc).map (fun d => d.parameters.length) = some 1 := by decide +kernel
theorem xd_X8_readsOne : yX8_readsOne.cls = RX8 ∧ yX8_readsOne.cls ≠ "java/lang/invoke/MethodHandle" ∧ yX8_readsOne.cls ≠ "java/lang/invoke/VarHandle" ∧ (parseMethodDescriptor yX8_readsOne.desc).map (fun d => d.parameters.length) = some 0 := by decide +kernel
theorem xe_X5_init : yX5_init.cls ≠ "java/lang/invoke/MethodHandle" ∧ yX5_init.cls ≠ "java/lang/invoke/VarHandle" ∧ (parseMethodDescriptor yX5_init.desc).map (fun d => d.parameters.length) = some 0 := by decide +kernel
theorem xe_X4_init : yX4_init.cls ≠ "java/lang/invoke/MethodHandle" ∧ yX4_init.cls ≠ "java/lang/invoke/VarHandle" ∧ (parseMethodDescriptor yX4_init.desc).map (fun d => d.parameters.length) = some 0 := by decide +kernel
theorem xe_X6_init : yX6_init.cls ≠ "java/lang/invoke/MethodHandle" ∧ yX6_init.cls ≠ "java/lang/invoke/VarHandle" ∧ (parseMethodDescriptor yX6_init.desc).map (fun d => d.parameters.length) = some 0 := by decide +kernel
theorem xe_X0_init : yX0_init.cls ≠ "java/lang/invoke/MethodHandle" ∧ yX0_init.cls ≠ "java/lang/invoke/VarHandle" ∧ (parseMethodDescriptor yX0_init.desc).map (fun d => d.parameters.length) = some 0 := by decide +kernel
theorem xe_X2_init : yX2_init.cls ≠ "java/lang/invoke/MethodHandle" ∧ yX2_init.cls ≠ "java/lang/invoke/VarHandle" ∧ (parseMethodDescriptor yX2_init.desc).map (fun d => d.parameters.length) = some 0 := by decide +kernel
theorem xe_X1_init : yX1_init.cls ≠ "java/lang/invoke/MethodHandle" ∧ yX1_init.cls ≠ "java/lang/invoke/VarHandle" ∧ (parseMethodDescriptor yX1_init.desc).map (fun d => d.parameters.length) = some 0 := by decide +kernel
theorem xe_X3_init : yX3_init.cls ≠ "java/lang/invoke/MethodHandle" ∧ yX3_init.cls ≠ "java/lang/invoke/VarHandle" ∧ (parseMethodDescriptor yX3_init.desc).map (fun d => d.parameters.length) = some 0 := by decide +kernel
theorem xd_X7_count : yX7_count.cls = RX7 ∧ yX7_count.cls ≠ "java/lang/invoke/MethodHandle" ∧ yX7_count.cls ≠ "java/lang/invoke/VarHandle" ∧ (parseMethodDescriptor yX7_count.desc).map (fun d => d.parameters.length) = some 1 := by decide +kernel
theorem xd_X8_count : yX8_count.cls = RX8 ∧ yX8_count.cls ≠ "java/lang/invoke/MethodHandle" ∧ yX8_count.cls ≠ "java/lang/invoke/VarHandle" ∧ (parseMethodDescriptor yX8_count.desc).map (fun d => d.parameters.length) = some 1 := by decide +kernel
theorem xd_X7_spell : yX7_spell.cls = RX7 ∧ yX7_spell.cls ≠ "java/lang/invoke/MethodHandle" ∧ yX7_spell.cls ≠ "java/lang/invoke/VarHandle" ∧ (parseMethodDescriptor yX7_spell.desc).map (fun d => d.parameters.length) = some 1 := by decide +kernel
theorem xd_X8_spell : yX8_spell.cls = RX8 ∧ yX8_spell.cls ≠ "java/lang/invoke/MethodHandle" ∧ yX8_spell.cls ≠ "java/lang/invoke/VarHandle" ∧ (parseMethodDescriptor yX8_spell.desc).map (fun d => d.parameters.length) = some 1 := by decide +kernel
theorem xd_X7_report : yX7_report.cls = RX7 ∧ yX7_report.cls ≠ "java/lang/invoke/MethodHandle" ∧ yX7_report.cls ≠ "java/lang/invoke/VarHandle" ∧ (parseMethodDescriptor yX7_report.desc).map (fun d => d.parameters.length) = some 2 := by decide +kernel
theorem xd_X8_report : yX8_report.cls = RX8 ∧ yX8_report.cls ≠ "java/lang/invoke/MethodHandle" ∧ yX8_report.cls ≠ "java/lang/invoke/VarHandle" ∧ (parseMethodDescriptor yX8_report.desc).map (fun d => d.parameters.length) = some 2 := by decide +kernel
theorem xd_X7_dearest : yX7_dearest.cls = RX7 ∧ yX7_dearest.cls ≠ "java/lang/invoke/MethodHandle" ∧ yX7_dearest.cls ≠ "java/lang/invoke/VarHandle" ∧ (parseMethodDescriptor yX7_dearest.desc).map (fun d => d.parameters.length) = some 0 := by decide +kernel
theorem xd_X8_dearest : yX8_dearest.cls = RX8 ∧ yX8_dearest.cls ≠ "java/lang/invoke/MethodHandle" ∧ yX8_dearest.cls ≠ "java/lang/invoke/VarHandle" ∧ (parseMethodDescriptor yX8_dearest.desc).map (fun d => d.parameters.length) = some 0 := by decide +kernel
theorem xd_X8_withoutClaim : yX8_withoutClaim.cls = RX8 ∧ yX8_withoutClaim.cls ≠ "java/lang/invoke/MethodHandle" ∧ yX8_withoutClaim.cls ≠ "java/lang/invoke/VarHandle" ∧ (parseMethodDescriptor yX8_withoutClaim.desc).map (fun d => d.parameters.length) = some 2 := by decide +kernel
theorem xd_X7_joined : yX7_joined.cls = RX7 ∧ yX7_joined.cls ≠ "java/lang/invoke/MethodHandle" ∧ yX7_joined.cls ≠ "java/lang/invoke/VarHandle" ∧ (parseMethodDescriptor yX7_joined.desc).map (fun d => d.parameters.length) = some 4 := by decide +kernel
theorem xd_X8_joined : yX8_joined.cls = RX8 ∧ yX8_joined.cls ≠ "java/lang/invoke/MethodHandle" ∧ yX8_joined.cls ≠ "java/lang/invoke/VarHandle" ∧ (parseMethodDescriptor yX8_joined.desc).map (fun d => d.parameters.length) = some 4 := by decide +kernel
theorem xd_X7_withoutFleet : yX7_withoutFleet.cls = RX7 ∧ yX7_withoutFleet.cls ≠ "java/lang/invoke/MethodHandle" ∧ yX7_withoutFleet.cls ≠ "java/lang/invoke/VarHandle" ∧ (parseMethodDescriptor yX7_withoutFleet.desc).map (fun d => d.parameters.length) = some 2 := by decide +kernel
theorem xd_X8_withoutFleet : yX8_withoutFleet.cls = RX8 ∧ yX8_withoutFleet.cls ≠ "java/lang/invoke/MethodHandle" ∧ yX8_withoutFleet.cls ≠ "java/lang/invoke/VarHandle" ∧ (parseMethodDescriptor yX8_withoutFleet.desc).map (fun d => d.parameters.length) = some 2 := by decide +kernel
theorem xd_X7_earlyShare : yX7_earlyShare.cls = RX7 ∧ yX7_earlyShare.cls ≠ "java/lang/invoke/MethodHandle" ∧ yX7_earlyShare.cls ≠ "java/lang/invoke/VarHandle" ∧ (parseMethodDescriptor yX7_earlyShare.desc).map (fun d => d.parameters.length) = some 2 := by decide +kernel
theorem xd_X8_earlyShare : yX8_earlyShare.cls = RX8 ∧ yX8_earlyShare.cls ≠ "java/lang/invoke/MethodHandle" ∧ yX8_earlyShare.cls ≠ "java/lang/invoke/VarHandle" ∧ (parseMethodDescriptor yX8_earlyShare.desc).map (fun d => d.parameters.length) = some 2 := by decide +kernel
theorem xd_X7_early : yX7_early.cls = RX7 ∧ yX7_early.cls ≠ "java/lang/invoke/MethodHandle" ∧ yX7_early.cls ≠ "java/lang/invoke/VarHandle" ∧ (parseMethodDescriptor yX7_early.desc).map (fun d => d.parameters.length) = some 2 := by decide +kernel
theorem xd_X8_early : yX8_early.cls = RX8 ∧ yX8_early.cls ≠ "java/lang/invoke/MethodHandle" ∧ yX8_early.cls ≠ "java/lang/invoke/VarHandle" ∧ (parseMethodDescriptor yX8_early.desc).map (fun d => d.parameters.length) = some 2 := by decide +kernel
theorem xd_X7_capFor : yX7_capFor.cls = RX7 ∧ yX7_capFor.cls ≠ "java/lang/invoke/MethodHandle" ∧ yX7_capFor.cls ≠ "java/lang/invoke/VarHandle" ∧ (parseMethodDescriptor yX7_capFor.desc).map (fun d => d.parameters.length) = some 1 := by decide +kernel
theorem xd_X8_capFor : yX8_capFor.cls = RX8 ∧ yX8_capFor.cls ≠ "java/lang/invoke/MethodHandle" ∧ yX8_capFor.cls ≠ "java/lang/invoke/VarHandle" ∧ (parseMethodDescriptor yX8_capFor.desc).map (fun d => d.parameters.length) = some 1 := by decide +kernel
theorem xd_X8_byCap : yX8_byCap.cls = RX8 ∧ yX8_byCap.cls ≠ "java/lang/invoke/MethodHandle" ∧ yX8_byCap.cls ≠ "java/lang/invoke/VarHandle" ∧ (parseMethodDescriptor yX8_byCap.desc).map (fun d => d.parameters.length) = some 2 := by decide +kernel
theorem xd_X7_bestClass : yX7_bestClass.cls = RX7 ∧ yX7_bestClass.cls ≠ "java/lang/invoke/MethodHandle" ∧ yX7_bestClass.cls ≠ "java/lang/invoke/VarHandle" ∧ (parseMethodDescriptor yX7_bestClass.desc).map (fun d => d.parameters.length) = some 1 := by decide +kernel
theorem xd_X8_bestClass : yX8_bestClass.cls = RX8 ∧ yX8_bestClass.cls ≠ "java/lang/invoke/MethodHandle" ∧ yX8_bestClass.cls ≠ "java/lang/invoke/VarHandle" ∧ (parseMethodDescriptor yX8_bestClass.desc).map (fun d => d.parameters.length) = some 1 := by decide +kernel
theorem xd_X8_inClass : yX8_inClass.cls = RX8 ∧ yX8_inClass.cls ≠ "java/lang/invoke/MethodHandle" ∧ yX8_inClass.cls ≠ "java/lang/invoke/VarHandle" ∧ (parseMethodDescriptor yX8_inClass.desc).map (fun d => d.parameters.length) = some 2 := by decide +kernel
theorem xd_X7_yearsFor : yX7_yearsFor.cls = RX7 ∧ yX7_yearsFor.cls ≠ "java/lang/invoke/MethodHandle" ∧ yX7_yearsFor.cls ≠ "java/lang/invoke/VarHandle" ∧ (parseMethodDescriptor yX7_yearsFor.desc).map (fun d => d.parameters.length) = some 2 := by decide +kernel
theorem xd_X8_yearsFor : yX8_yearsFor.cls = RX8 ∧ yX8_yearsFor.cls ≠ "java/lang/invoke/MethodHandle" ∧ yX8_yearsFor.cls ≠ "java/lang/invoke/VarHandle" ∧ (parseMethodDescriptor yX8_yearsFor.desc).map (fun d => d.parameters.length) = some 2 := by decide +kernel
theorem xd_X7_shareBy : yX7_shareBy.cls = RX7 ∧ yX7_shareBy.cls ≠ "java/lang/invoke/MethodHandle" ∧ yX7_shareBy.cls ≠ "java/lang/invoke/VarHandle" ∧ (parseMethodDescriptor yX7_shareBy.desc).map (fun d => d.parameters.length) = some 2 := by decide +kernel
theorem xd_X8_shareBy : yX8_shareBy.cls = RX8 ∧ yX8_shareBy.cls ≠ "java/lang/invoke/MethodHandle" ∧ yX8_shareBy.cls ≠ "java/lang/invoke/VarHandle" ∧ (parseMethodDescriptor yX8_shareBy.desc).map (fun d => d.parameters.length) = some 2 := by decide +kernel
theorem xd_X7_premium : yX7_premium.cls = RX7 ∧ yX7_premium.cls ≠ "java/lang/invoke/MethodHandle" ∧ yX7_premium.cls ≠ "java/lang/invoke/VarHandle" ∧ (parseMethodDescriptor yX7_premium.desc).map (fun d => d.parameters.length) = some 2 := by decide +kernel
theorem xd_X8_premium : yX8_premium.cls = RX8 ∧ yX8_premium.cls ≠ "java/lang/invoke/MethodHandle" ∧ yX8_premium.cls ≠ "java/lang/invoke/VarHandle" ∧ (parseMethodDescriptor yX8_premium.desc).map (fun d => d.parameters.length) = some 2 := by decide +kernel
theorem xd_X7_gap : yX7_gap.cls = RX7 ∧ yX7_gap.cls ≠ "java/lang/invoke/MethodHandle" ∧ yX7_gap.cls ≠ "java/lang/invoke/VarHandle" ∧ (parseMethodDescriptor yX7_gap.desc).map (fun d => d.parameters.length) = some 2 := by decide +kernel
theorem xd_X8_gap : yX8_gap.cls = RX8 ∧ yX8_gap.cls ≠ "java/lang/invoke/MethodHandle" ∧ yX8_gap.cls ≠ "java/lang/invoke/VarHandle" ∧ (parseMethodDescriptor yX8_gap.desc).map (fun d => d.parameters.length) = some 2 := by decide +kernel
theorem xd_X7_claimsIn : yX7_claimsIn.cls = RX7 ∧ yX7_claimsIn.cls ≠ "java/lang/invoke/MethodHandle" ∧ yX7_claimsIn.cls ≠ "java/lang/invoke/VarHandle" ∧ (parseMethodDescriptor yX7_claimsIn.desc).map (fun d => d.parameters.length) = some 1 := by decide +kernel
theorem xd_X8_claimsIn : yX8_claimsIn.cls = RX8 ∧ yX8_claimsIn.cls ≠ "java/lang/invoke/MethodHandle" ∧ yX8_claimsIn.cls ≠ "java/lang/invoke/VarHandle" ∧ (parseMethodDescriptor yX8_claimsIn.desc).map (fun d => d.parameters.length) = some 1 := by decide +kernel
theorem xd_X7_dearestOf : yX7_dearestOf.cls = RX7 ∧ yX7_dearestOf.cls ≠ "java/lang/invoke/MethodHandle" ∧ yX7_dearestOf.cls ≠ "java/lang/invoke/VarHandle" ∧ (parseMethodDescriptor yX7_dearestOf.desc).map (fun d => d.parameters.length) = some 1 := by decide +kernel
theorem xd_X8_dearestOf : yX8_dearestOf.cls = RX8 ∧ yX8_dearestOf.cls ≠ "java/lang/invoke/MethodHandle" ∧ yX8_dearestOf.cls ≠ "java/lang/invoke/VarHandle" ∧ (parseMethodDescriptor yX8_dearestOf.desc).map (fun d => d.parameters.length) = some 1 := by decide +kernel
theorem xd_X7_worst : yX7_worst.cls = RX7 ∧ yX7_worst.cls ≠ "java/lang/invoke/MethodHandle" ∧ yX7_worst.cls ≠ "java/lang/invoke/VarHandle" ∧ (parseMethodDescriptor yX7_worst.desc).map (fun d => d.parameters.length) = some 1 := by decide +kernel
theorem xd_X8_worst : yX8_worst.cls = RX8 ∧ yX8_worst.cls ≠ "java/lang/invoke/MethodHandle" ∧ yX8_worst.cls ≠ "java/lang/invoke/VarHandle" ∧ (parseMethodDescriptor yX8_worst.desc).map (fun d => d.parameters.length) = some 1 := by decide +kernel
theorem xd_X7_greatest : yX7_greatest.cls = RX7 ∧ yX7_greatest.cls ≠ "java/lang/invoke/MethodHandle" ∧ yX7_greatest.cls ≠ "java/lang/invoke/VarHandle" ∧ (parseMethodDescriptor yX7_greatest.desc).map (fun d => d.parameters.length) = some 2 := by decide +kernel
theorem xd_X8_greatest : yX8_greatest.cls = RX8 ∧ yX8_greatest.cls ≠ "java/lang/invoke/MethodHandle" ∧ yX8_greatest.cls ≠ "java/lang/invoke/VarHandle" ∧ (parseMethodDescriptor yX8_greatest.desc).map (fun d => d.parameters.length) = some 2 := by decide +kernel
theorem xd_X7_ranked : yX7_ranked.cls = RX7 ∧ yX7_ranked.cls ≠ "java/lang/invoke/MethodHandle" ∧ yX7_ranked.cls ≠ "java/lang/invoke/VarHandle" ∧ (parseMethodDescriptor yX7_ranked.desc).map (fun d => d.parameters.length) = some 1 := by decide +kernel
theorem xd_X8_ranked : yX8_ranked.cls = RX8 ∧ yX8_ranked.cls ≠ "java/lang/invoke/MethodHandle" ∧ yX8_ranked.cls ≠ "java/lang/invoke/VarHandle" ∧ (parseMethodDescriptor yX8_ranked.desc).map (fun d => d.parameters.length) = some 1 := by decide +kernel
theorem xd_X7_thousandths : yX7_thousandths.cls = RX7 ∧ yX7_thousandths.cls ≠ "java/lang/invoke/MethodHandle" ∧ yX7_thousandths.cls ≠ "java/lang/invoke/VarHandle" ∧ (parseMethodDescriptor yX7_thousandths.desc).map (fun d => d.parameters.length) = some 1 := by decide +kernel
theorem xd_X8_thousandths : yX8_thousandths.cls = RX8 ∧ yX8_thousandths.cls ≠ "java/lang/invoke/MethodHandle" ∧ yX8_thousandths.cls ≠ "java/lang/invoke/VarHandle" ∧ (parseMethodDescriptor yX8_thousandths.desc).map (fun d => d.parameters.length) = some 1 := by decide +kernel
theorem xd_X7_rate : yX7_rate.cls = RX7 ∧ yX7_rate.cls ≠ "java/lang/invoke/MethodHandle" ∧ yX7_rate.cls ≠ "java/lang/invoke/VarHandle" ∧ (parseMethodDescriptor yX7_rate.desc).map (fun d => d.parameters.length) = some 2 := by decide +kernel
theorem xd_X8_rate : yX8_rate.cls = RX8 ∧ yX8_rate.cls ≠ "java/lang/invoke/MethodHandle" ∧ yX8_rate.cls ≠ "java/lang/invoke/VarHandle" ∧ (parseMethodDescriptor yX8_rate.desc).map (fun d => d.parameters.length) = some 2 := by decide +kernel
theorem xd_X7_whole : yX7_whole.cls = RX7 ∧ yX7_whole.cls ≠ "java/lang/invoke/MethodHandle" ∧ yX7_whole.cls ≠ "java/lang/invoke/VarHandle" ∧ (parseMethodDescriptor yX7_whole.desc).map (fun d => d.parameters.length) = some 1 := by decide +kernel
theorem xd_X8_whole : yX8_whole.cls = RX8 ∧ yX8_whole.cls ≠ "java/lang/invoke/MethodHandle" ∧ yX8_whole.cls ≠ "java/lang/invoke/VarHandle" ∧ (parseMethodDescriptor yX8_whole.desc).map (fun d => d.parameters.length) = some 1 := by decide +kernel
theorem xd_X7_spread : yX7_spread.cls = RX7 ∧ yX7_spread.cls ≠ "java/lang/invoke/MethodHandle" ∧ yX7_spread.cls ≠ "java/lang/invoke/VarHandle" ∧ (parseMethodDescriptor yX7_spread.desc).map (fun d => d.parameters.length) = some 3 := by decide +kernel
theorem xd_X8_spread : yX8_spread.cls = RX8 ∧ yX8_spread.cls ≠ "java/lang/invoke/MethodHandle" ∧ yX8_spread.cls ≠ "java/lang/invoke/VarHandle" ∧ (parseMethodDescriptor yX8_spread.desc).map (fun d => d.parameters.length) = some 3 := by decide +kernel
theorem xd_X7_group : yX7_group.cls = RX7 ∧ yX7_group.cls ≠ "java/lang/invoke/MethodHandle" ∧ yX7_group.cls ≠ "java/lang/invoke/VarHandle" ∧ (parseMethodDescriptor yX7_group.desc).map (fun d => d.parameters.length) = some 2 := by decide +kernel
theorem xd_X8_group : yX8_group.cls = RX8 ∧ yX8_group.cls ≠ "java/lang/invoke/MethodHandle" ∧ yX8_group.cls ≠ "java/lang/invoke/VarHandle" ∧ (parseMethodDescriptor yX8_group.desc).map (fun d => d.parameters.length) = some 2 := by decide +kernel
theorem xd_X7_claimOf : yX7_claimOf.cls = RX7 ∧ yX7_claimOf.cls ≠ "java/lang/invoke/MethodHandle" ∧ yX7_claimOf.cls ≠ "java/lang/invoke/VarHandle" ∧ (parseMethodDescriptor yX7_claimOf.desc).map (fun d => d.parameters.length) = some 2 := by decide +kernel
theorem xd_X8_claimOf : yX8_claimOf.cls = RX8 ∧ yX8_claimOf.cls ≠ "java/lang/invoke/MethodHandle" ∧ yX8_claimOf.cls ≠ "java/lang/invoke/VarHandle" ∧ (parseMethodDescriptor yX8_claimOf.desc).map (fun d => d.parameters.length) = some 2 := by decide +kernel
theorem xd_X7_loss : yX7_loss.cls = RX7 ∧ yX7_loss.cls ≠ "java/lang/invoke/MethodHandle" ∧ yX7_loss.cls ≠ "java/lang/invoke/VarHandle" ∧ (parseMethodDescriptor yX7_loss.desc).map (fun d => d.parameters.length) = some 2 := by decide +kernel
theorem xd_X8_loss : yX8_loss.cls = RX8 ∧ yX8_loss.cls ≠ "java/lang/invoke/MethodHandle" ∧ yX8_loss.cls ≠ "java/lang/invoke/VarHandle" ∧ (parseMethodDescriptor yX8_loss.desc).map (fun d => d.parameters.length) = some 2 := by decide +kernel
theorem xd_X7_of : yX7_of.cls = RX7 ∧ yX7_of.cls ≠ "java/lang/invoke/MethodHandle" ∧ yX7_of.cls ≠ "java/lang/invoke/VarHandle" ∧ (parseMethodDescriptor yX7_of.desc).map (fun d => d.parameters.length) = some 2 := by decide +kernel
theorem xd_X8_of : yX8_of.cls = RX8 ∧ yX8_of.cls ≠ "java/lang/invoke/MethodHandle" ∧ yX8_of.cls ≠ "java/lang/invoke/VarHandle" ∧ (parseMethodDescriptor yX8_of.desc).map (fun d => d.parameters.length) = some 2 := by decide +kernel
theorem xd_X7_undo : yX7_undo.cls = RX7 ∧ yX7_undo.cls ≠ "java/lang/invoke/MethodHandle" ∧ yX7_undo.cls ≠ "java/lang/invoke/VarHandle" ∧ (parseMethodDescriptor yX7_undo.desc).map (fun d => d.parameters.length) = some 0 := by decide +kernel
theorem xd_X8_undo : yX8_undo.cls = RX8 ∧ yX8_undo.cls ≠ "java/lang/invoke/MethodHandle" ∧ yX8_undo.cls ≠ "java/lang/invoke/VarHandle" ∧ (parseMethodDescriptor yX8_undo.desc).map (fun d => d.parameters.length) = some 0 := by decide +kernel
theorem xd_X7_steady : yX7_steady.cls = RX7 ∧ yX7_steady.cls ≠ "java/lang/invoke/MethodHandle" ∧ yX7_steady.cls ≠ "java/lang/invoke/VarHandle" ∧ (parseMethodDescriptor yX7_steady.desc).map (fun d => d.parameters.length) = some 1 := by decide +kernel
theorem xd_X8_steady : yX8_steady.cls = RX8 ∧ yX8_steady.cls ≠ "java/lang/invoke/MethodHandle" ∧ yX8_steady.cls ≠ "java/lang/invoke/VarHandle" ∧ (parseMethodDescriptor yX8_steady.desc).map (fun d => d.parameters.length) = some 1 := by decide +kernel
theorem xd_X7_cap : yX7_cap.cls = RX7 ∧ yX7_cap.cls ≠ "java/lang/invoke/MethodHandle" ∧ yX7_cap.cls ≠ "java/lang/invoke/VarHandle" ∧ (parseMethodDescriptor yX7_cap.desc).map (fun d => d.parameters.length) = some 1 := by decide +kernel
theorem xd_X8_cap : yX8_cap.cls = RX8 ∧ yX8_cap.cls ≠ "java/lang/invoke/MethodHandle" ∧ yX8_cap.cls ≠ "java/lang/invoke/VarHandle" ∧ (parseMethodDescriptor yX8_cap.desc).map (fun d => d.parameters.length) = some 1 := by decide +kernel
theorem xd_X7_merge : yX7_merge.cls = RX7 ∧ yX7_merge.cls ≠ "java/lang/invoke/MethodHandle" ∧ yX7_merge.cls ≠ "java/lang/invoke/VarHandle" ∧ (parseMethodDescriptor yX7_merge.desc).map (fun d => d.parameters.length) = some 2 := by decide +kernel
theorem xd_X8_merge : yX8_merge.cls = RX8 ∧ yX8_merge.cls ≠ "java/lang/invoke/MethodHandle" ∧ yX8_merge.cls ≠ "java/lang/invoke/VarHandle" ∧ (parseMethodDescriptor yX8_merge.desc).map (fun d => d.parameters.length) = some 2 := by decide +kernel
theorem xd_X7_split : yX7_split.cls = RX7 ∧ yX7_split.cls ≠ "java/lang/invoke/MethodHandle" ∧ yX7_split.cls ≠ "java/lang/invoke/VarHandle" ∧ (parseMethodDescriptor yX7_split.desc).map (fun d => d.parameters.length) = some 2 := by decide +kernel
theorem xd_X8_split : yX8_split.cls = RX8 ∧ yX8_split.cls ≠ "java/lang/invoke/MethodHandle" ∧ yX8_split.cls ≠ "java/lang/invoke/VarHandle" ∧ (parseMethodDescriptor yX8_split.desc).map (fun d => d.parameters.length) = some 2 := by decide +kernel
theorem xd_X7_scale : yX7_scale.cls = RX7 ∧ yX7_scale.cls ≠ "java/lang/invoke/MethodHandle" ∧ yX7_scale.cls ≠ "java/lang/invoke/VarHandle" ∧ (parseMethodDescriptor yX7_scale.desc).map (fun d => d.parameters.length) = some 2 := by decide +kernel
theorem xd_X8_scale : yX8_scale.cls = RX8 ∧ yX8_scale.cls ≠ "java/lang/invoke/MethodHandle" ∧ yX8_scale.cls ≠ "java/lang/invoke/VarHandle" ∧ (parseMethodDescriptor yX8_scale.desc).map (fun d => d.parameters.length) = some 2 := by decide +kernel
theorem xd_X7_swap : yX7_swap.cls = RX7 ∧ yX7_swap.cls ≠ "java/lang/invoke/MethodHandle" ∧ yX7_swap.cls ≠ "java/lang/invoke/VarHandle" ∧ (parseMethodDescriptor yX7_swap.desc).map (fun d => d.parameters.length) = some 2 := by decide +kernel
theorem xd_X8_swap : yX8_swap.cls = RX8 ∧ yX8_swap.cls ≠ "java/lang/invoke/MethodHandle" ∧ yX8_swap.cls ≠ "java/lang/invoke/VarHandle" ∧ (parseMethodDescriptor yX8_swap.desc).map (fun d => d.parameters.length) = some 2 := by decide +kernel
theorem xd_X7_join : yX7_join.cls = RX7 ∧ yX7_join.cls ≠ "java/lang/invoke/MethodHandle" ∧ yX7_join.cls ≠ "java/lang/invoke/VarHandle" ∧ (parseMethodDescriptor yX7_join.desc).map (fun d => d.parameters.length) = some 2 := by decide +kernel
theorem xd_X8_join : yX8_join.cls = RX8 ∧ yX8_join.cls ≠ "java/lang/invoke/MethodHandle" ∧ yX8_join.cls ≠ "java/lang/invoke/VarHandle" ∧ (parseMethodDescriptor yX8_join.desc).map (fun d => d.parameters.length) = some 2 := by decide +kernel
theorem xd_X7_amend : yX7_amend.cls = RX7 ∧ yX7_amend.cls ≠ "java/lang/invoke/MethodHandle" ∧ yX7_amend.cls ≠ "java/lang/invoke/VarHandle" ∧ (parseMethodDescriptor yX7_amend.desc).map (fun d => d.parameters.length) = some 2 := by decide +kernel
theorem xd_X8_amend : yX8_amend.cls = RX8 ∧ yX8_amend.cls ≠ "java/lang/invoke/MethodHandle" ∧ yX8_amend.cls ≠ "java/lang/invoke/VarHandle" ∧ (parseMethodDescriptor yX8_amend.desc).map (fun d => d.parameters.length) = some 2 := by decide +kernel
theorem xd_X7_waive : yX7_waive.cls = RX7 ∧ yX7_waive.cls ≠ "java/lang/invoke/MethodHandle" ∧ yX7_waive.cls ≠ "java/lang/invoke/VarHandle" ∧ (parseMethodDescriptor yX7_waive.desc).map (fun d => d.parameters.length) = some 1 := by decide +kernel
theorem xd_X8_waive : yX8_waive.cls = RX8 ∧ yX8_waive.cls ≠ "java/lang/invoke/MethodHandle" ∧ yX8_waive.cls ≠ "java/lang/invoke/VarHandle" ∧ (parseMethodDescriptor yX8_waive.desc).map (fun d => d.parameters.length) = some 1 := by decide +kernel
theorem xd_X7_claim : yX7_claim.cls = RX7 ∧ yX7_claim.cls ≠ "java/lang/invoke/MethodHandle" ∧ yX7_claim.cls ≠ "java/lang/invoke/VarHandle" ∧ (parseMethodDescriptor yX7_claim.desc).map (fun d => d.parameters.length) = some 3 := by decide +kernel
theorem xd_X8_claim : yX8_claim.cls = RX8 ∧ yX8_claim.cls ≠ "java/lang/invoke/MethodHandle" ∧ yX8_claim.cls ≠ "java/lang/invoke/VarHandle" ∧ (parseMethodDescriptor yX8_claim.desc).map (fun d => d.parameters.length) = some 3 := by decide +kernel
theorem xd_X7_forget : yX7_forget.cls = RX7 ∧ yX7_forget.cls ≠ "java/lang/invoke/MethodHandle" ∧ yX7_forget.cls ≠ "java/lang/invoke/VarHandle" ∧ (parseMethodDescriptor yX7_forget.desc).map (fun d => d.parameters.length) = some 1 := by decide +kernel
theorem xd_X8_forget : yX8_forget.cls = RX8 ∧ yX8_forget.cls ≠ "java/lang/invoke/MethodHandle" ∧ yX8_forget.cls ≠ "java/lang/invoke/VarHandle" ∧ (parseMethodDescriptor yX8_forget.desc).map (fun d => d.parameters.length) = some 1 := by decide +kernel
theorem xd_X7_lapse : yX7_lapse.cls = RX7 ∧ yX7_lapse.cls ≠ "java/lang/invoke/MethodHandle" ∧ yX7_lapse.cls ≠ "java/lang/invoke/VarHandle" ∧ (parseMethodDescriptor yX7_lapse.desc).map (fun d => d.parameters.length) = some 2 := by decide +kernel
theorem xd_X8_lapse : yX8_lapse.cls = RX8 ∧ yX8_lapse.cls ≠ "java/lang/invoke/MethodHandle" ∧ yX8_lapse.cls ≠ "java/lang/invoke/VarHandle" ∧ (parseMethodDescriptor yX8_lapse.desc).map (fun d => d.parameters.length) = some 2 := by decide +kernel
theorem xd_X7_insure : yX7_insure.cls = RX7 ∧ yX7_insure.cls ≠ "java/lang/invoke/MethodHandle" ∧ yX7_insure.cls ≠ "java/lang/invoke/VarHandle" ∧ (parseMethodDescriptor yX7_insure.desc).map (fun d => d.parameters.length) = some 2 := by decide +kernel
theorem xd_X8_insure : yX8_insure.cls = RX8 ∧ yX8_insure.cls ≠ "java/lang/invoke/MethodHandle" ∧ yX8_insure.cls ≠ "java/lang/invoke/VarHandle" ∧ (parseMethodDescriptor yX8_insure.desc).map (fun d => d.parameters.length) = some 2 := by decide +kernel
theorem xd_X7_move : yX7_move.cls = RX7 ∧ yX7_move.cls ≠ "java/lang/invoke/MethodHandle" ∧ yX7_move.cls ≠ "java/lang/invoke/VarHandle" ∧ (parseMethodDescriptor yX7_move.desc).map (fun d => d.parameters.length) = some 2 := by decide +kernel
theorem xd_X8_move : yX8_move.cls = RX8 ∧ yX8_move.cls ≠ "java/lang/invoke/MethodHandle" ∧ yX8_move.cls ≠ "java/lang/invoke/VarHandle" ∧ (parseMethodDescriptor yX8_move.desc).map (fun d => d.parameters.length) = some 2 := by decide +kernel
theorem xd_X7_leave : yX7_leave.cls = RX7 ∧ yX7_leave.cls ≠ "java/lang/invoke/MethodHandle" ∧ yX7_leave.cls ≠ "java/lang/invoke/VarHandle" ∧ (parseMethodDescriptor yX7_leave.desc).map (fun d => d.parameters.length) = some 1 := by decide +kernel
theorem xd_X8_leave : yX8_leave.cls = RX8 ∧ yX8_leave.cls ≠ "java/lang/invoke/MethodHandle" ∧ yX8_leave.cls ≠ "java/lang/invoke/VarHandle" ∧ (parseMethodDescriptor yX8_leave.desc).map (fun d => d.parameters.length) = some 1 := by decide +kernel
theorem xd_X7_fleet : yX7_fleet.cls = RX7 ∧ yX7_fleet.cls ≠ "java/lang/invoke/MethodHandle" ∧ yX7_fleet.cls ≠ "java/lang/invoke/VarHandle" ∧ (parseMethodDescriptor yX7_fleet.desc).map (fun d => d.parameters.length) = some 2 := by decide +kernel
theorem xd_X8_fleet : yX8_fleet.cls = RX8 ∧ yX8_fleet.cls ≠ "java/lang/invoke/MethodHandle" ∧ yX8_fleet.cls ≠ "java/lang/invoke/VarHandle" ∧ (parseMethodDescriptor yX8_fleet.desc).map (fun d => d.parameters.length) = some 2 := by decide +kernel
theorem xd_X7_text : yX7_text.cls = RX7 ∧ yX7_text.cls ≠ "java/lang/invoke/MethodHandle" ∧ yX7_text.cls ≠ "java/lang/invoke/VarHandle" ∧ (parseMethodDescriptor yX7_text.desc).map (fun d => d.parameters.length) = some 0 := by decide +kernel
theorem xd_X8_text : yX8_text.cls = RX8 ∧ yX8_text.cls ≠ "java/lang/invoke/MethodHandle" ∧ yX8_text.cls ≠ "java/lang/invoke/VarHandle" ∧ (parseMethodDescriptor yX8_text.desc).map (fun d => d.parameters.length) = some 0 := by decide +kernel
theorem xd_X7_back : yX7_back.cls = RX7 ∧ yX7_back.cls ≠ "java/lang/invoke/MethodHandle" ∧ yX7_back.cls ≠ "java/lang/invoke/VarHandle" ∧ (parseMethodDescriptor yX7_back.desc).map (fun d => d.parameters.length) = some 1 := by decide +kernel
theorem xd_X8_back : yX8_back.cls = RX8 ∧ yX8_back.cls ≠ "java/lang/invoke/MethodHandle" ∧ yX8_back.cls ≠ "java/lang/invoke/VarHandle" ∧ (parseMethodDescriptor yX8_back.desc).map (fun d => d.parameters.length) = some 1 := by decide +kernel
theorem xd_X7_feed : yX7_feed.cls = RX7 ∧ yX7_feed.cls ≠ "java/lang/invoke/MethodHandle" ∧ yX7_feed.cls ≠ "java/lang/invoke/VarHandle" ∧ (parseMethodDescriptor yX7_feed.desc).map (fun d => d.parameters.length) = some 5 := by decide +kernel
theorem xd_X8_feed : yX8_feed.cls = RX8 ∧ yX8_feed.cls ≠ "java/lang/invoke/MethodHandle" ∧ yX8_feed.cls ≠ "java/lang/invoke/VarHandle" ∧ (parseMethodDescriptor yX8_feed.desc).map (fun d => d.parameters.length) = some 5 := by decide +kernel
theorem xe_X7_init : yX7_init.cls ≠ "java/lang/invoke/MethodHandle" ∧ yX7_init.cls ≠ "java/lang/invoke/VarHandle" ∧ (parseMethodDescriptor yX7_init.desc).map (fun d => d.parameters.length) = some 0 := by decide +kernel
theorem xe_X8_init : yX8_init.cls ≠ "java/lang/invoke/MethodHandle" ∧ yX8_init.cls ≠ "java/lang/invoke/VarHandle" ∧ (parseMethodDescriptor yX8_init.desc).map (fun d => d.parameters.length) = some 0 := by decide +kernel
theorem xv_J0_335 : GoodIn x_tbl (wsV RJ0 335 RJ0 yJ0_coder_7d493 (.code yJ0_coder_7d493 cJ0_coder_7d493 1 (some .byte) :: x_tbl)) := x_goodV wq_435 wq_432 wq_433 wq_434 wq_104
theorem xv_J0_492 : GoodIn x_tbl (wsV RJ0 492 RJ0 yJ0_isLatin1_aae02 (.code yJ0_isLatin1_aae02 cJ0_isLatin1_aae02 1 (some .boolean) :: x_tbl)) := x_goodV wq_445 wq_442 wq_443 wq_444 wq_104
theorem xv_X6_117 : GoodIn x_tbl (wsV RX6 117 RJ0 yJ0_length_8abf5 (.code yJ0_length_8abf5 cJ0_length_8abf5 1 (some .int) :: x_tbl)) := x_goodV wq_431 wq_428 wq_429 wq_430 wq_104
theorem xv_X6_123 : GoodIn x_tbl (wsV RX6 123 RJ0 yJ0_charAt_5068e (.code yJ0_charAt_5068e cJ0_charAt_5068e 2 (some .char) :: x_tbl)) := x_goodV wq_441 wq_438 wq_439 wq_440 wq_104
theorem xv_X3_21 : GoodIn x_tbl (wsV RX3 21 RJ0 yJ0_length_8abf5 (.code yJ0_length_8abf5 cJ0_length_8abf5 1 (some .int) :: x_tbl)) := x_goodV wq_431 wq_1116 wq_429 wq_430 wq_104
theorem xv_X3_27 : GoodIn x_tbl (wsV RX3 27 RJ0 yJ0_charAt_5068e (.code yJ0_charAt_5068e cJ0_charAt_5068e 2 (some .char) :: x_tbl)) := x_goodV wq_441 wq_1117 wq_439 wq_440 wq_104
theorem xv_X7_58 : GoodIn x_tbl (wsV RX7 58 RX6 yX6_size (.code yX6_size cX6_size 1 (some .int) :: x_tbl)) := x_goodV wq_374 wq_371 wq_372 wq_373 wq_96
theorem xv_X6_19 : GoodIn x_tbl (wsV RX6 19 RX6 yX6_addByte (.code yX6_addByte cX6_addByte 2 none :: x_tbl)) := x_goodV wq_382 wq_379 wq_381 wq_0 wq_96
theorem xv_X7_62 : GoodIn x_tbl (wsV RX7 62 RX6 yX6_addFour (.code yX6_addFour cX6_addFour 2 none :: x_tbl)) := x_goodV wq_378 wq_375 wq_376 wq_377 wq_96
theorem xv_X7_66 : GoodIn x_tbl (wsV RX7 66 RX6 yX6_dropLast (.code yX6_dropLast cX6_dropLast 2 none :: x_tbl)) := x_goodV wq_390 wq_387 wq_388 wq_389 wq_96
theorem xv_X6_23 : GoodIn x_tbl (wsV RX6 23 RX0 yX0_clear (.code yX0_clear cX0_clear 1 none :: x_tbl)) := x_goodV wq_402 wq_399 wq_400 wq_401 wq_97
theorem xv_X6_86 : GoodIn x_tbl (wsV RX6 86 RX6 yX6_byteAt (.code yX6_byteAt cX6_byteAt 2 (some .int) :: x_tbl)) := x_goodV wq_410 wq_407 wq_409 wq_2 wq_96
theorem xv_X6_34 : GoodIn x_tbl (wsV RX6 34 RX6 yX6_skipGaps (.code yX6_skipGaps cX6_skipGaps 2 none :: x_tbl)) := x_goodV wq_406 wq_403 wq_405 wq_1 wq_96
theorem xv_X6_64 : GoodIn x_tbl (wsV RX6 64 RX6 yX6_skipLetters (.code yX6_skipLetters cX6_skipLetters 2 none :: x_tbl)) := x_goodV wq_422 wq_419 wq_421 wq_5 wq_96
theorem xv_X6_68 : GoodIn x_tbl (wsV RX6 68 RX6 yX6_isWord (.code yX6_isWord cX6_isWord 4 (some .boolean) :: x_tbl)) := x_goodV wq_427 wq_424 wq_426 wq_6 wq_96
theorem xs_X6_90 : GoodIn x_tbl (wsS RX6 90 yX6_isDigit (.code yX6_isDigit cX6_isDigit 1 (some .boolean) :: x_tbl)) := x_goodS wq_485 wq_483 wq_484 wq_96
theorem xv_X6_83 : GoodIn x_tbl (wsV RX6 83 RX6 yX6_failAt (.code yX6_failAt cX6_failAt 2 none :: x_tbl)) := x_goodV wq_482 wq_479 wq_481 wq_7 wq_96
theorem xv_X6_41 : GoodIn x_tbl (wsV RX6 41 RX6 yX6_readWord (.code yX6_readWord cX6_readWord 4 (some .int) :: x_tbl)) := x_goodV wq_418 wq_415 wq_417 wq_4 wq_96
theorem xv_X6_45 : GoodIn x_tbl (wsV RX6 45 RX6 yX6_readNumber (.code yX6_readNumber cX6_readNumber 5 (some .int) :: x_tbl)) := x_goodV wq_489 wq_486 wq_488 wq_8 wq_96
theorem xv_X6_94 : GoodIn x_tbl (wsV RX6 94 RX6 yX6_isEndNext (.code yX6_isEndNext cX6_isEndNext 1 (some .boolean) :: x_tbl)) := x_goodV wq_500 wq_497 wq_499 wq_10 wq_96
theorem xv_X0_40 : GoodIn x_tbl (wsV RX0 40 RX0 yX0_hasFleet (.code yX0_hasFleet cX0_hasFleet 2 (some .boolean) :: x_tbl)) := x_goodV wq_512 wq_509 wq_510 wq_511 wq_97
theorem xv_X0_47 : GoodIn x_tbl (wsV RX0 47 RX0 yX0_putClass (.code yX0_putClass cX0_putClass 3 none :: x_tbl)) := x_goodV wq_508 wq_505 wq_506 wq_507 wq_97
theorem xv_X0_51 : GoodIn x_tbl (wsV RX0 51 RX0 yX0_putYears (.code yX0_putYears cX0_putYears 3 none :: x_tbl)) := x_goodV wq_516 wq_513 wq_514 wq_515 wq_97
theorem xv_X6_98 : GoodIn x_tbl (wsV RX6 98 RX0 yX0_addFleet (.code yX0_addFleet cX0_addFleet 3 (some .int) :: x_tbl)) := x_goodV wq_504 wq_501 wq_502 wq_503 wq_97
theorem xv_X6_55 : GoodIn x_tbl (wsV RX6 55 RX6 yX6_readFleet (.code yX6_readFleet cX6_readFleet 5 none :: x_tbl)) := x_goodV wq_496 wq_493 wq_495 wq_9 wq_96
theorem xv_X0_85 : GoodIn x_tbl (wsV RX0 85 RX0 yX0_isInsured (.code yX0_isInsured cX0_isInsured 3 (some .boolean) :: x_tbl)) := x_goodV wq_528 wq_525 wq_526 wq_527 wq_97
theorem xv_X0_89 : GoodIn x_tbl (wsV RX0 89 RX0 yX0_hasClaim (.code yX0_hasClaim cX0_hasClaim 2 (some .boolean) :: x_tbl)) := x_goodV wq_539 wq_536 wq_537 wq_538 wq_97
theorem xv_X0_107 : GoodIn x_tbl (wsV RX0 107 RX0 yX0_isOf (.code yX0_isOf cX0_isOf 4 (some .boolean) :: x_tbl)) := x_goodV wq_535 wq_532 wq_534 wq_12 wq_97
theorem xv_X6_101 : GoodIn x_tbl (wsV RX6 101 RX0 yX0_canClaim (.code yX0_canClaim cX0_canClaim 5 (some .boolean) :: x_tbl)) := x_goodV wq_524 wq_521 wq_522 wq_523 wq_97
theorem xv_X0_100 : GoodIn x_tbl (wsV RX0 100 RX0 yX0_putClaim (.code yX0_putClaim cX0_putClaim 5 none :: x_tbl)) := x_goodV wq_547 wq_544 wq_546 wq_13 wq_97
theorem xv_X6_108 : GoodIn x_tbl (wsV RX6 108 RX0 yX0_addClaim (.code yX0_addClaim cX0_addClaim 4 (some .int) :: x_tbl)) := x_goodV wq_543 wq_540 wq_541 wq_542 wq_97
theorem xv_X6_58 : GoodIn x_tbl (wsV RX6 58 RX6 yX6_readClaim (.code yX6_readClaim cX6_readClaim 4 none :: x_tbl)) := x_goodV wq_520 wq_517 wq_519 wq_11 wq_96
theorem xv_X6_61 : GoodIn x_tbl (wsV RX6 61 RX6 yX6_readEnd (.code yX6_readEnd cX6_readEnd 1 none :: x_tbl)) := x_goodV wq_551 wq_548 wq_550 wq_14 wq_96
theorem xv_X6_37 : GoodIn x_tbl (wsV RX6 37 RX6 yX6_readSentence (.code yX6_readSentence cX6_readSentence 2 none :: x_tbl)) := x_goodV wq_414 wq_411 wq_413 wq_3 wq_96
theorem xv_X7_69 : GoodIn x_tbl (wsV RX7 69 RX6 yX6_readInto (.code yX6_readInto cX6_readInto 3 (some .int) :: x_tbl)) := x_goodV wq_398 wq_395 wq_396 wq_397 wq_96
theorem xv_X7_73 : GoodIn x_tbl (wsV RX7 73 RX0 yX0_copyFrom (.code yX0_copyFrom cX0_copyFrom 2 none :: x_tbl)) := x_goodV wq_555 wq_552 wq_553 wq_554 wq_97
theorem xv_X7_77 : GoodIn x_tbl (wsV RX7 77 RX2 yX2_empty (.code yX2_empty cX2_empty 1 none :: x_tbl)) := x_goodV wq_562 wq_559 wq_560 wq_561 wq_98
theorem xs_X7_84 : GoodIn x_tbl (wsS RX7 84 yX7_isClass (.code yX7_isClass cX7_isClass 1 (some .boolean) :: x_tbl)) := x_goodS wq_569 wq_567 wq_568 wq_95
theorem xv_X2_24 : GoodIn x_tbl (wsV RX2 24 RX0 yX0_saveTo (.code yX0_saveTo cX0_saveTo 3 none :: x_tbl)) := x_goodV wq_577 wq_574 wq_575 wq_576 wq_97
theorem xv_X7_88 : GoodIn x_tbl (wsV RX7 88 RX2 yX2_keep (.code yX2_keep cX2_keep 2 none :: x_tbl)) := x_goodV wq_573 wq_570 wq_571 wq_572 wq_98
theorem xv_X7_91 : GoodIn x_tbl (wsV RX7 91 RX0 yX0_addFleet (.code yX0_addFleet cX0_addFleet 3 (some .int) :: x_tbl)) := x_goodV wq_504 wq_579 wq_502 wq_503 wq_97
theorem xv_X7_95 : GoodIn x_tbl (wsV RX7 95 RX0 yX0_hasFleet (.code yX0_hasFleet cX0_hasFleet 2 (some .boolean) :: x_tbl)) := x_goodV wq_512 wq_584 wq_510 wq_511 wq_97
theorem xv_X0_69 : GoodIn x_tbl (wsV RX0 69 RX0 yX0_fleetOf (.code yX0_fleetOf cX0_fleetOf 2 (some .int) :: x_tbl)) := x_goodV wq_596 wq_593 wq_594 wq_595 wq_97
theorem xv_X0_97 : GoodIn x_tbl (wsV RX0 97 RX0 yX0_yearOf (.code yX0_yearOf cX0_yearOf 2 (some .int) :: x_tbl)) := x_goodV wq_600 wq_597 wq_598 wq_599 wq_97
theorem xv_X0_104 : GoodIn x_tbl (wsV RX0 104 RX0 yX0_amountOf (.code yX0_amountOf cX0_amountOf 2 (some .int) :: x_tbl)) := x_goodV wq_604 wq_601 wq_602 wq_603 wq_97
theorem xv_X0_54 : GoodIn x_tbl (wsV RX0 54 RX0 yX0_dropClaimsOf (.code yX0_dropClaimsOf cX0_dropClaimsOf 6 (some .int) :: x_tbl)) := x_goodV wq_592 wq_589 wq_591 wq_15 wq_97
theorem xv_X0_62 : GoodIn x_tbl (wsV RX0 62 RX0 yX0_classOf (.code yX0_classOf cX0_classOf 2 (some .int) :: x_tbl)) := x_goodV wq_612 wq_609 wq_610 wq_611 wq_97
theorem xv_X0_66 : GoodIn x_tbl (wsV RX0 66 RX0 yX0_yearsOf (.code yX0_yearsOf cX0_yearsOf 2 (some .int) :: x_tbl)) := x_goodV wq_616 wq_613 wq_614 wq_615 wq_97
theorem xv_X0_72 : GoodIn x_tbl (wsV RX0 72 RX0 yX0_putFleet (.code yX0_putFleet cX0_putFleet 3 none :: x_tbl)) := x_goodV wq_620 wq_617 wq_619 wq_17 wq_97
theorem xv_X0_58 : GoodIn x_tbl (wsV RX0 58 RX0 yX0_closeGapAt (.code yX0_closeGapAt cX0_closeGapAt 3 none :: x_tbl)) := x_goodV wq_608 wq_605 wq_607 wq_16 wq_97
theorem xv_X7_98 : GoodIn x_tbl (wsV RX7 98 RX0 yX0_dropFleet (.code yX0_dropFleet cX0_dropFleet 2 none :: x_tbl)) := x_goodV wq_588 wq_585 wq_586 wq_587 wq_97
theorem xv_X7_101 : GoodIn x_tbl (wsV RX7 101 RX0 yX0_classOf (.code yX0_classOf cX0_classOf 2 (some .int) :: x_tbl)) := x_goodV wq_612 wq_625 wq_610 wq_611 wq_97
theorem xv_X7_105 : GoodIn x_tbl (wsV RX7 105 RX0 yX0_putClass (.code yX0_putClass cX0_putClass 3 none :: x_tbl)) := x_goodV wq_508 wq_626 wq_506 wq_507 wq_97
theorem xs_X7_109 : GoodIn x_tbl (wsS RX7 109 yX7_isYear (.code yX7_isYear cX7_isYear 1 (some .boolean) :: x_tbl)) := x_goodS wq_531 wq_631 wq_530 wq_95
theorem xv_X7_112 : GoodIn x_tbl (wsV RX7 112 RX0 yX0_isInsured (.code yX0_isInsured cX0_isInsured 3 (some .boolean) :: x_tbl)) := x_goodV wq_528 wq_632 wq_526 wq_527 wq_97
theorem xv_X7_116 : GoodIn x_tbl (wsV RX7 116 RX0 yX0_yearsOf (.code yX0_yearsOf cX0_yearsOf 2 (some .int) :: x_tbl)) := x_goodV wq_616 wq_633 wq_614 wq_615 wq_97
theorem xv_X7_119 : GoodIn x_tbl (wsV RX7 119 RX0 yX0_putYears (.code yX0_putYears cX0_putYears 3 none :: x_tbl)) := x_goodV wq_516 wq_634 wq_514 wq_515 wq_97
theorem xv_X7_127 : GoodIn x_tbl (wsV RX7 127 RX0 yX0_endYears (.code yX0_endYears cX0_endYears 3 (some .int) :: x_tbl)) := x_goodV wq_648 wq_645 wq_646 wq_647 wq_97
theorem xv_X7_130 : GoodIn x_tbl (wsV RX7 130 RX0 yX0_countInsured (.code yX0_countInsured cX0_countInsured 4 (some .int) :: x_tbl)) := x_goodV wq_656 wq_653 wq_654 wq_655 wq_97
theorem xv_X0_75 : GoodIn x_tbl (wsV RX0 75 RX0 yX0_endYears (.code yX0_endYears cX0_endYears 3 (some .int) :: x_tbl)) := x_goodV wq_648 wq_661 wq_646 wq_647 wq_97
theorem xv_X7_133 : GoodIn x_tbl (wsV RX7 133 RX0 yX0_endYearsOfAll (.code yX0_endYearsOfAll cX0_endYearsOfAll 3 none :: x_tbl)) := x_goodV wq_660 wq_657 wq_658 wq_659 wq_97
theorem xs_X7_136 : GoodIn x_tbl (wsS RX7 136 yX7_isAmount (.code yX7_isAmount cX7_isAmount 1 (some .boolean) :: x_tbl)) := x_goodS wq_668 wq_666 wq_667 wq_95
theorem xv_X7_139 : GoodIn x_tbl (wsV RX7 139 RX0 yX0_canClaim (.code yX0_canClaim cX0_canClaim 5 (some .boolean) :: x_tbl)) := x_goodV wq_524 wq_669 wq_522 wq_523 wq_97
theorem xv_X7_142 : GoodIn x_tbl (wsV RX7 142 RX0 yX0_addClaim (.code yX0_addClaim cX0_addClaim 4 (some .int) :: x_tbl)) := x_goodV wq_543 wq_670 wq_541 wq_542 wq_97
theorem xv_X7_146 : GoodIn x_tbl (wsV RX7 146 RX0 yX0_hasClaim (.code yX0_hasClaim cX0_hasClaim 2 (some .boolean) :: x_tbl)) := x_goodV wq_539 wq_675 wq_537 wq_538 wq_97
theorem xv_X7_149 : GoodIn x_tbl (wsV RX7 149 RX0 yX0_dropClaim (.code yX0_dropClaim cX0_dropClaim 2 none :: x_tbl)) := x_goodV wq_679 wq_676 wq_677 wq_678 wq_97
theorem xv_X7_152 : GoodIn x_tbl (wsV RX7 152 RX0 yX0_amountOf (.code yX0_amountOf cX0_amountOf 2 (some .int) :: x_tbl)) := x_goodV wq_604 wq_684 wq_602 wq_603 wq_97
theorem xv_X7_155 : GoodIn x_tbl (wsV RX7 155 RX0 yX0_putAmount (.code yX0_putAmount cX0_putAmount 3 none :: x_tbl)) := x_goodV wq_688 wq_685 wq_686 wq_687 wq_97
theorem xv_X7_158 : GoodIn x_tbl (wsV RX7 158 RX0 yX0_fleetsIn (.code yX0_fleetsIn cX0_fleetsIn 4 (some .int) :: x_tbl)) := x_goodV wq_696 wq_693 wq_694 wq_695 wq_97
theorem xv_X7_161 : GoodIn x_tbl (wsV RX7 161 RX0 yX0_moveAll (.code yX0_moveAll cX0_moveAll 5 (some .int) :: x_tbl)) := x_goodV wq_700 wq_697 wq_698 wq_699 wq_97
theorem xv_X7_164 : GoodIn x_tbl (wsV RX7 164 RX0 yX0_exchange (.code yX0_exchange cX0_exchange 6 none :: x_tbl)) := x_goodV wq_708 wq_705 wq_706 wq_707 wq_97
theorem xv_X0_114 : GoodIn x_tbl (wsV RX0 114 RX0 yX0_putAmount (.code yX0_putAmount cX0_putAmount 3 none :: x_tbl)) := x_goodV wq_688 wq_721 wq_686 wq_687 wq_97
theorem xv_X7_167 : GoodIn x_tbl (wsV RX7 167 RX0 yX0_scaleAmounts (.code yX0_scaleAmounts cX0_scaleAmounts 6 (some .int) :: x_tbl)) := x_goodV wq_716 wq_713 wq_714 wq_715 wq_97
theorem xv_X0_78 : GoodIn x_tbl (wsV RX0 78 RX0 yX0_addFleet (.code yX0_addFleet cX0_addFleet 3 (some .int) :: x_tbl)) := x_goodV wq_504 wq_730 wq_502 wq_503 wq_97
theorem xv_X0_81 : GoodIn x_tbl (wsV RX0 81 RX0 yX0_handOver (.code yX0_handOver cX0_handOver 5 none :: x_tbl)) := x_goodV wq_734 wq_731 wq_733 wq_18 wq_97
theorem xv_X7_170 : GoodIn x_tbl (wsV RX7 170 RX0 yX0_splitOff (.code yX0_splitOff cX0_splitOff 4 (some .int) :: x_tbl)) := x_goodV wq_729 wq_726 wq_727 wq_728 wq_97
theorem xv_X7_173 : GoodIn x_tbl (wsV RX7 173 RX0 yX0_mergeInto (.code yX0_mergeInto cX0_mergeInto 3 (some .int) :: x_tbl)) := x_goodV wq_742 wq_739 wq_740 wq_741 wq_97
theorem xv_X7_182 : GoodIn x_tbl (wsV RX7 182 RX2 yX2_size (.code yX2_size cX2_size 1 (some .int) :: x_tbl)) := x_goodV wq_758 wq_755 wq_756 wq_757 wq_98
theorem xv_X2_34 : GoodIn x_tbl (wsV RX2 34 RX0 yX0_loadFrom (.code yX0_loadFrom cX0_loadFrom 3 none :: x_tbl)) := x_goodV wq_766 wq_763 wq_764 wq_765 wq_97
theorem xv_X7_183 : GoodIn x_tbl (wsV RX7 183 RX2 yX2_takeBack (.code yX2_takeBack cX2_takeBack 2 none :: x_tbl)) := x_goodV wq_762 wq_759 wq_760 wq_761 wq_98
theorem xv_X1_110 : GoodIn x_tbl (wsV RX1 110 RX0 yX0_fleetOf (.code yX0_fleetOf cX0_fleetOf 2 (some .int) :: x_tbl)) := x_goodV wq_596 wq_783 wq_594 wq_595 wq_97
theorem xv_X1_114 : GoodIn x_tbl (wsV RX1 114 RX0 yX0_yearOf (.code yX0_yearOf cX0_yearOf 2 (some .int) :: x_tbl)) := x_goodV wq_600 wq_784 wq_598 wq_599 wq_97
theorem xv_X1_117 : GoodIn x_tbl (wsV RX1 117 RX0 yX0_countedOf (.code yX0_countedOf cX0_countedOf 2 (some .int) :: x_tbl)) := x_goodV wq_788 wq_785 wq_786 wq_787 wq_97
theorem xv_X1_66 : GoodIn x_tbl (wsV RX1 66 RX1 yX1_sumLosses (.code yX1_sumLosses cX1_sumLosses 4 none :: x_tbl)) := x_goodV wq_779 wq_776 wq_778 wq_19 wq_99
theorem xv_X1_70 : GoodIn x_tbl (wsV RX1 70 RX4 yX4_clear (.code yX4_clear cX4_clear 1 none :: x_tbl)) := x_goodV wq_792 wq_789 wq_790 wq_791 wq_100
theorem xv_X4_64 : GoodIn x_tbl (wsV RX4 64 RX4 yX4_hasBetween (.code yX4_hasBetween cX4_hasBetween 1 (some .boolean) :: x_tbl)) := x_goodV wq_825 wq_822 wq_824 wq_22 wq_100
theorem xv_X1_83 : GoodIn x_tbl (wsV RX1 83 RX4 yX4_settle (.code yX4_settle cX4_settle 1 none :: x_tbl)) := x_goodV wq_821 wq_818 wq_819 wq_820 wq_100
theorem xv_X1_120 : GoodIn x_tbl (wsV RX1 120 RX1 yX1_hasRow (.code yX1_hasRow cX1_hasRow 2 (some .boolean) :: x_tbl)) := x_goodV wq_800 wq_797 wq_799 wq_21 wq_99
theorem xv_X1_124 : GoodIn x_tbl (wsV RX1 124 RX0 yX0_classOf (.code yX0_classOf cX0_classOf 2 (some .int) :: x_tbl)) := x_goodV wq_612 wq_801 wq_610 wq_611 wq_97
theorem xv_X1_127 : GoodIn x_tbl (wsV RX1 127 RX0 yX0_yearsOf (.code yX0_yearsOf cX0_yearsOf 2 (some .int) :: x_tbl)) := x_goodV wq_616 wq_802 wq_614 wq_615 wq_97
theorem xv_X1_138 : GoodIn x_tbl (wsV RX1 138 RX1 yX1_poolOf (.code yX1_poolOf cX1_poolOf 2 (some (.object "FleetShares$Pool")) :: x_tbl)) := x_goodV wq_812 wq_809 wq_810 wq_811 wq_99
theorem xv_X1_142 : GoodIn x_tbl (wsV RX1 142 RX4 yX4_addFleet (.code yX4_addFleet cX4_addFleet 4 none :: x_tbl)) := x_goodV wq_816 wq_813 wq_814 wq_815 wq_100
theorem xv_X1_135 : GoodIn x_tbl (wsV RX1 135 RX1 yX1_lossOf (.code yX1_lossOf cX1_lossOf 3 (some .int) :: x_tbl)) := x_goodV wq_807 wq_804 wq_805 wq_806 wq_99
theorem xv_X1_79 : GoodIn x_tbl (wsV RX1 79 RX1 yX1_reckonFleet (.code yX1_reckonFleet cX1_reckonFleet 5 none :: x_tbl)) := x_goodV wq_796 wq_793 wq_795 wq_20 wq_99
theorem xv_X1_155 : GoodIn x_tbl (wsV RX1 155 RX5 yX5_put (.code yX5_put cX5_put 5 none :: x_tbl)) := x_goodV wq_849 wq_846 wq_847 wq_848 wq_101
theorem xv_X1_90 : GoodIn x_tbl (wsV RX1 90 RX1 yX1_putWhole (.code yX1_putWhole cX1_putWhole 2 none :: x_tbl)) := x_goodV wq_845 wq_842 wq_843 wq_844 wq_99
theorem xv_X4_74 : GoodIn x_tbl (wsV RX4 74 RX5 yX5_put (.code yX5_put cX5_put 5 none :: x_tbl)) := x_goodV wq_849 wq_858 wq_847 wq_848 wq_101
theorem xv_X4_83 : GoodIn x_tbl (wsV RX4 83 RX4 yX4_putCentre (.code yX4_putCentre cX4_putCentre 2 none :: x_tbl)) := x_goodV wq_857 wq_854 wq_855 wq_856 wq_100
theorem xv_X4_87 : GoodIn x_tbl (wsV RX4 87 RX5 yX5_isNone (.code yX5_isNone cX5_isNone 1 (some .boolean) :: x_tbl)) := x_goodV wq_862 wq_859 wq_860 wq_861 wq_101
theorem xv_X4_90 : GoodIn x_tbl (wsV RX4 90 RX4 yX4_steadiness (.code yX4_steadiness cX4_steadiness 3 (some .int) :: x_tbl)) := x_goodV wq_866 wq_863 wq_864 wq_865 wq_100
theorem xv_X1_97 : GoodIn x_tbl (wsV RX1 97 RX4 yX4_reckonBase (.code yX4_reckonBase cX4_reckonBase 5 none :: x_tbl)) := x_goodV wq_853 wq_850 wq_851 wq_852 wq_100
theorem xv_X1_146 : GoodIn x_tbl (wsV RX1 146 RX4 yX4_shareBySpan (.code yX4_shareBySpan cX4_shareBySpan 6 (some .int) :: x_tbl)) := x_goodV wq_836 wq_833 wq_834 wq_835 wq_100
theorem xv_X1_149 : GoodIn x_tbl (wsV RX1 149 RX4 yX4_addShare (.code yX4_addShare cX4_addShare 4 none :: x_tbl)) := x_goodV wq_841 wq_838 wq_839 wq_840 wq_100
theorem xv_X1_86 : GoodIn x_tbl (wsV RX1 86 RX1 yX1_reckonShare (.code yX1_reckonShare cX1_reckonShare 3 none :: x_tbl)) := x_goodV wq_832 wq_829 wq_831 wq_23 wq_99
theorem xv_X7_186 : GoodIn x_tbl (wsV RX7 186 RX1 yX1_reckon (.code yX1_reckon cX1_reckon 3 none :: x_tbl)) := x_goodV wq_774 wq_771 wq_772 wq_773 wq_99
theorem xv_X7_189 : GoodIn x_tbl (wsV RX7 189 RX1 yX1_spanOf (.code yX1_spanOf cX1_spanOf 2 (some .int) :: x_tbl)) := x_goodV wq_870 wq_867 wq_868 wq_869 wq_99
theorem xv_X7_192 : GoodIn x_tbl (wsV RX7 192 RX1 yX1_sumOf (.code yX1_sumOf cX1_sumOf 2 (some .int) :: x_tbl)) := x_goodV wq_874 wq_871 wq_872 wq_873 wq_99
theorem xv_X7_195 : GoodIn x_tbl (wsV RX7 195 RX1 yX1_squaresOf (.code yX1_squaresOf cX1_squaresOf 2 (some .int) :: x_tbl)) := x_goodV wq_878 wq_875 wq_876 wq_877 wq_99
theorem xv_X7_198 : GoodIn x_tbl (wsV RX7 198 RX0 yX0_claimsWith (.code yX0_claimsWith cX0_claimsWith 4 (some .int) :: x_tbl)) := x_goodV wq_882 wq_879 wq_880 wq_881 wq_97
theorem xv_X7_201 : GoodIn x_tbl (wsV RX7 201 RX0 yX0_claimsAboveCap (.code yX0_claimsAboveCap cX0_claimsAboveCap 4 (some .int) :: x_tbl)) := x_goodV wq_886 wq_883 wq_884 wq_885 wq_97
theorem xv_X7_204 : GoodIn x_tbl (wsV RX7 204 RX1 yX1_shareOf (.code yX1_shareOf cX1_shareOf 2 (some .int) :: x_tbl)) := x_goodV wq_890 wq_887 wq_888 wq_889 wq_99
theorem xv_X7_207 : GoodIn x_tbl (wsV RX7 207 RX1 yX1_lossOf (.code yX1_lossOf cX1_lossOf 3 (some .int) :: x_tbl)) := x_goodV wq_807 wq_895 wq_805 wq_806 wq_99
theorem xv_X7_210 : GoodIn x_tbl (wsV RX7 210 RX0 yX0_fleetOf (.code yX0_fleetOf cX0_fleetOf 2 (some .int) :: x_tbl)) := x_goodV wq_596 wq_900 wq_594 wq_595 wq_97
theorem xv_X7_213 : GoodIn x_tbl (wsV RX7 213 RX0 yX0_yearOf (.code yX0_yearOf cX0_yearOf 2 (some .int) :: x_tbl)) := x_goodV wq_600 wq_901 wq_598 wq_599 wq_97
theorem xv_X7_216 : GoodIn x_tbl (wsV RX7 216 RX0 yX0_countedOf (.code yX0_countedOf cX0_countedOf 2 (some .int) :: x_tbl)) := x_goodV wq_788 wq_902 wq_786 wq_787 wq_97
theorem xv_X7_219 : GoodIn x_tbl (wsV RX7 219 RX1 yX1_poolOf (.code yX1_poolOf cX1_poolOf 2 (some (.object "FleetShares$Pool")) :: x_tbl)) := x_goodV wq_812 wq_907 wq_810 wq_811 wq_99
theorem xv_X7_232 : GoodIn x_tbl (wsV RX7 232 RX4 yX4_steadiness (.code yX4_steadiness cX4_steadiness 3 (some .int) :: x_tbl)) := x_goodV wq_866 wq_908 wq_864 wq_865 wq_100
theorem xv_X1_184 : GoodIn x_tbl (wsV RX1 184 RX4 yX4_putWithin (.code yX4_putWithin cX4_putWithin 2 none :: x_tbl)) := x_goodV wq_924 wq_921 wq_922 wq_923 wq_100
theorem xv_X4_78 : GoodIn x_tbl (wsV RX4 78 RX5 yX5_putNone (.code yX5_putNone cX5_putNone 1 none :: x_tbl)) := x_goodV wq_932 wq_929 wq_930 wq_931 wq_101
theorem xv_X1_187 : GoodIn x_tbl (wsV RX1 187 RX4 yX4_putBetween (.code yX4_putBetween cX4_putBetween 2 none :: x_tbl)) := x_goodV wq_928 wq_925 wq_926 wq_927 wq_100
theorem xv_X1_190 : GoodIn x_tbl (wsV RX1 190 RX4 yX4_putCentre (.code yX4_putCentre cX4_putCentre 2 none :: x_tbl)) := x_goodV wq_857 wq_933 wq_855 wq_856 wq_100
theorem xv_X1_193 : GoodIn x_tbl (wsV RX1 193 RX4 yX4_putOff (.code yX4_putOff cX4_putOff 2 none :: x_tbl)) := x_goodV wq_937 wq_934 wq_935 wq_936 wq_100
theorem xv_X1_159 : GoodIn x_tbl (wsV RX1 159 RX5 yX5_putNone (.code yX5_putNone cX5_putNone 1 none :: x_tbl)) := x_goodV wq_932 wq_938 wq_930 wq_931 wq_101
theorem xv_X7_338 : GoodIn x_tbl (wsV RX7 338 RX1 yX1_putSpread (.code yX1_putSpread cX1_putSpread 5 none :: x_tbl)) := x_goodV wq_920 wq_917 wq_918 wq_919 wq_99
theorem xv_X5_18 : GoodIn x_tbl (wsV RX5 18 RX5 yX5_isNone (.code yX5_isNone cX5_isNone 1 (some .boolean) :: x_tbl)) := x_goodV wq_862 wq_943 wq_860 wq_861 wq_101
theorem xv_X5_24 : GoodIn x_tbl (wsV RX5 24 RX5 yX5_commonDivisor (.code yX5_commonDivisor cX5_commonDivisor 8 (some .long) :: x_tbl)) := x_goodV wq_948 wq_945 wq_947 wq_25 wq_101
theorem xv_X7_248 : GoodIn x_tbl (wsV RX7 248 RX5 yX5_part (.code yX5_part cX5_part 6 (some .long) :: x_tbl)) := x_goodV wq_942 wq_939 wq_940 wq_941 wq_101
theorem xv_X7_238 : GoodIn x_tbl (wsV RX7 238 RX7 yX7_spreadIn (.code yX7_spreadIn cX7_spreadIn 5 (some .long) :: x_tbl)) := x_goodV wq_916 wq_913 wq_915 wq_24 wq_95
theorem xv_X7_244 : GoodIn x_tbl (wsV RX7 244 RX1 yX1_putWhole (.code yX1_putWhole cX1_putWhole 2 none :: x_tbl)) := x_goodV wq_845 wq_957 wq_843 wq_844 wq_99
theorem xv_X1_162 : GoodIn x_tbl (wsV RX1 162 RX1 yX1_isRated (.code yX1_isRated cX1_isRated 2 (some .boolean) :: x_tbl)) := x_goodV wq_969 wq_966 wq_967 wq_968 wq_99
theorem xv_X7_252 : GoodIn x_tbl (wsV RX7 252 RX1 yX1_putRate (.code yX1_putRate cX1_putRate 8 none :: x_tbl)) := x_goodV wq_965 wq_962 wq_963 wq_964 wq_99
theorem xv_X1_177 : GoodIn x_tbl (wsV RX1 177 RX1 yX1_putRate (.code yX1_putRate cX1_putRate 8 none :: x_tbl)) := x_goodV wq_965 wq_983 wq_963 wq_964 wq_99
theorem xv_X1_180 : GoodIn x_tbl (wsV RX1 180 RX5 yX5_inThousandths (.code yX5_inThousandths cX5_inThousandths 1 (some .int) :: x_tbl)) := x_goodV wq_987 wq_984 wq_985 wq_986 wq_101
theorem xv_X7_312 : GoodIn x_tbl (wsV RX7 312 RX1 yX1_rateCut (.code yX1_rateCut cX1_rateCut 2 (some .int) :: x_tbl)) := x_goodV wq_982 wq_979 wq_980 wq_981 wq_99
theorem xv_X7_256 : GoodIn x_tbl (wsV RX7 256 RX7 yX7_rateIn (.code yX7_rateIn cX7_rateIn 3 (some .int) :: x_tbl)) := x_goodV wq_978 wq_975 wq_977 wq_26 wq_95
theorem xv_X7_260 : GoodIn x_tbl (wsV RX7 260 RX1 yX1_isRated (.code yX1_isRated cX1_isRated 2 (some .boolean) :: x_tbl)) := x_goodV wq_969 wq_993 wq_967 wq_968 wq_99
theorem xv_X1_196 : GoodIn x_tbl (wsV RX1 196 RX5 yX5_compareWith (.code yX5_compareWith cX5_compareWith 20 (some .int) :: x_tbl)) := x_goodV wq_1005 wq_1002 wq_1003 wq_1004 wq_101
theorem xv_X1_200 : GoodIn x_tbl (wsV RX1 200 RX1 yX1_compareRates (.code yX1_compareRates cX1_compareRates 3 (some .int) :: x_tbl)) := x_goodV wq_1001 wq_998 wq_999 wq_1000 wq_99
theorem xv_X7_263 : GoodIn x_tbl (wsV RX7 263 RX1 yX1_placeOf (.code yX1_placeOf cX1_placeOf 5 (some .int) :: x_tbl)) := x_goodV wq_997 wq_994 wq_995 wq_996 wq_99
theorem xv_X7_269 : GoodIn x_tbl (wsV RX7 269 RX0 yX0_placeOf (.code yX0_placeOf cX0_placeOf 4 (some .int) :: x_tbl)) := x_goodV wq_1013 wq_1010 wq_1011 wq_1012 wq_97
theorem xv_X7_270 : GoodIn x_tbl (wsV RX7 270 RX1 yX1_compareRates (.code yX1_compareRates cX1_compareRates 3 (some .int) :: x_tbl)) := x_goodV wq_1001 wq_1022 wq_999 wq_1000 wq_99
theorem xv_X7_273 : GoodIn x_tbl (wsV RX7 273 RX0 yX0_claimsOfYear (.code yX0_claimsOfYear cX0_claimsOfYear 4 (some .int) :: x_tbl)) := x_goodV wq_1030 wq_1027 wq_1028 wq_1029 wq_97
theorem xv_X7_277 : GoodIn x_tbl (wsV RX7 277 RX1 yX1_shareBySpan (.code yX1_shareBySpan cX1_shareBySpan 3 (some .int) :: x_tbl)) := x_goodV wq_1047 wq_1044 wq_1045 wq_1046 wq_99
theorem xv_X7_280 : GoodIn x_tbl (wsV RX7 280 RX7 yX7_inClass (.code yX7_inClass cX7_inClass 3 (some .int) :: x_tbl)) := x_goodV wq_1055 wq_1060 wq_1053 wq_1054 wq_95
theorem xv_X7_283 : GoodIn x_tbl (wsV RX7 283 RX7 yX7_byCap (.code yX7_byCap cX7_byCap 3 (some .int) :: x_tbl)) := x_goodV wq_1064 wq_1069 wq_1062 wq_1063 wq_95
theorem xv_X7_286 : GoodIn x_tbl (wsV RX7 286 RX7 yX7_tryEarly (.code yX7_tryEarly cX7_tryEarly 2 none :: x_tbl)) := x_goodV wq_1077 wq_1074 wq_1076 wq_27 wq_95
theorem xv_X7_289 : GoodIn x_tbl (wsV RX7 289 RX7 yX7_keepRatesNow (.code yX7_keepRatesNow cX7_keepRatesNow 2 none :: x_tbl)) := x_goodV wq_1101 wq_1098 wq_1100 wq_28 wq_95
theorem xv_X7_292 : GoodIn x_tbl (wsV RX7 292 RX7 yX7_withoutClaim (.code yX7_withoutClaim cX7_withoutClaim 3 (some .int) :: x_tbl)) := x_goodV wq_1093 wq_1102 wq_1091 wq_1092 wq_95
theorem xv_X7_295 : GoodIn x_tbl (wsV RX7 295 RX3 yX3_begin (.code yX3_begin cX3_begin 2 none :: x_tbl)) := x_goodV wq_1110 wq_1107 wq_1108 wq_1109 wq_102
theorem xv_X3_31 : GoodIn x_tbl (wsV RX3 31 RX3 yX3_writeByte (.code yX3_writeByte cX3_writeByte 2 none :: x_tbl)) := x_goodV wq_1121 wq_1118 wq_1120 wq_29 wq_102
theorem xv_X3_35 : GoodIn x_tbl (wsV RX3 35 RX3 yX3_writeBehind (.code yX3_writeBehind cX3_writeBehind 5 none :: x_tbl)) := x_goodV wq_1125 wq_1122 wq_1123 wq_1124 wq_102
theorem xv_X7_300 : GoodIn x_tbl (wsV RX7 300 RX3 yX3_writeNamed (.code yX3_writeNamed cX3_writeNamed 4 none :: x_tbl)) := x_goodV wq_1115 wq_1112 wq_1113 wq_1114 wq_102
theorem xv_X7_315 : GoodIn x_tbl (wsV RX7 315 RX3 yX3_writeEnd (.code yX3_writeEnd cX3_writeEnd 1 none :: x_tbl)) := x_goodV wq_1134 wq_1131 wq_1132 wq_1133 wq_102
theorem xv_X7_318 : GoodIn x_tbl (wsV RX7 318 RX3 yX3_answer (.code yX3_answer cX3_answer 1 (some .int) :: x_tbl)) := x_goodV wq_1138 wq_1135 wq_1136 wq_1137 wq_102
theorem xv_X7_342 : GoodIn x_tbl (wsV RX7 342 RX3 yX3_writeBehind (.code yX3_writeBehind cX3_writeBehind 5 none :: x_tbl)) := x_goodV wq_1125 wq_1149 wq_1123 wq_1124 wq_102
theorem xv_X7_323 : GoodIn x_tbl (wsV RX7 323 RX7 yX7_spellFleet (.code yX7_spellFleet cX7_spellFleet 3 none :: x_tbl)) := x_goodV wq_1148 wq_1145 wq_1147 wq_30 wq_95
theorem xv_X7_326 : GoodIn x_tbl (wsV RX7 326 RX7 yX7_spellClaim (.code yX7_spellClaim cX7_spellClaim 2 none :: x_tbl)) := x_goodV wq_1153 wq_1150 wq_1152 wq_31 wq_95
theorem xv_X0_117 : GoodIn x_tbl (wsV RX0 117 RX0 yX0_claimsAboveCap (.code yX0_claimsAboveCap cX0_claimsAboveCap 4 (some .int) :: x_tbl)) := x_goodV wq_886 wq_1163 wq_884 wq_885 wq_97
theorem xv_X7_329 : GoodIn x_tbl (wsV RX7 329 RX0 yX0_allClaimsAboveCap (.code yX0_allClaimsAboveCap cX0_allClaimsAboveCap 3 (some .int) :: x_tbl)) := x_goodV wq_1162 wq_1159 wq_1160 wq_1161 wq_97
theorem xv_X7_332 : GoodIn x_tbl (wsV RX7 332 RX0 yX0_fleetsWithoutYears (.code yX0_fleetsWithoutYears cX0_fleetsWithoutYears 3 (some .int) :: x_tbl)) := x_goodV wq_1167 wq_1164 wq_1165 wq_1166 wq_97
theorem xv_X7_335 : GoodIn x_tbl (wsV RX7 335 RX0 yX0_yearsOfAll (.code yX0_yearsOfAll cX0_yearsOfAll 3 (some .int) :: x_tbl)) := x_goodV wq_1171 wq_1168 wq_1169 wq_1170 wq_97
theorem xv_X8_80 : GoodIn x_tbl (wsV RX8 80 RX8 yX8_many (.code yX8_many cX8_many 1 (some .int) :: x_tbl)) := x_goodV wq_1291 wq_1288 wq_1290 wq_32 wq_103
theorem xs_X8_84 : GoodIn x_tbl (wsS RX8 84 yX8_in (.code yX8_in cX8_in 3 (some .boolean) :: x_tbl)) := x_goodS wq_1287 wq_1285 wq_1286 wq_103
theorem xv_X8_88 : GoodIn x_tbl (wsV RX8 88 RX8 yX8_claims (.code yX8_claims cX8_claims 1 (some .int) :: x_tbl)) := x_goodV wq_1311 wq_1308 wq_1310 wq_36 wq_103
theorem xv_X8_91 : GoodIn x_tbl (wsV RX8 91 RX8 yX8_yearsOf (.code yX8_yearsOf cX8_yearsOf 2 (some .int) :: x_tbl)) := x_goodV wq_1354 wq_1351 wq_1353 wq_44 wq_103
theorem xv_X8_95 : GoodIn x_tbl (wsV RX8 95 RX8 yX8_amountOf (.code yX8_amountOf cX8_amountOf 2 (some .int) :: x_tbl)) := x_goodV wq_1392 wq_1389 wq_1391 wq_47 wq_103
theorem xv_X8_98 : GoodIn x_tbl (wsV RX8 98 RX8 yX8_fleetOf (.code yX8_fleetOf cX8_fleetOf 2 (some .int) :: x_tbl)) := x_goodV wq_1315 wq_1312 wq_1314 wq_37 wq_103
theorem xv_X8_101 : GoodIn x_tbl (wsV RX8 101 RX8 yX8_yearOf (.code yX8_yearOf cX8_yearOf 2 (some .int) :: x_tbl)) := x_goodV wq_1319 wq_1316 wq_1318 wq_38 wq_103
theorem xv_X8_104 : GoodIn x_tbl (wsV RX8 104 RX8 yX8_drops (.code yX8_drops cX8_drops 3 none :: x_tbl)) := x_goodV wq_1323 wq_1320 wq_1322 wq_39 wq_103
theorem xs_X8_108 : GoodIn x_tbl (wsS RX8 108 yX8_isClass (.code yX8_isClass cX8_isClass 1 (some .boolean) :: x_tbl)) := x_goodS wq_1284 wq_1282 wq_1283 wq_103
theorem xv_X8_112 : GoodIn x_tbl (wsV RX8 112 RX8 yX8_keeps (.code yX8_keeps cX8_keeps 2 none :: x_tbl)) := x_goodV wq_1295 wq_1292 wq_1294 wq_33 wq_103
theorem xv_X8_115 : GoodIn x_tbl (wsV RX8 115 RX8 yX8_isFleet (.code yX8_isFleet cX8_isFleet 2 (some .boolean) :: x_tbl)) := x_goodV wq_1303 wq_1300 wq_1302 wq_34 wq_103
theorem xv_X8_118 : GoodIn x_tbl (wsV RX8 118 RX8 yX8_dropsAll (.code yX8_dropsAll cX8_dropsAll 5 (some .int) :: x_tbl)) := x_goodV wq_1307 wq_1304 wq_1306 wq_35 wq_103
theorem xv_X8_122 : GoodIn x_tbl (wsV RX8 122 RX8 yX8_goes (.code yX8_goes cX8_goes 3 none :: x_tbl)) := x_goodV wq_1327 wq_1324 wq_1326 wq_40 wq_103
theorem xv_X8_125 : GoodIn x_tbl (wsV RX8 125 RX8 yX8_classOf (.code yX8_classOf cX8_classOf 2 (some .int) :: x_tbl)) := x_goodV wq_1335 wq_1332 wq_1334 wq_41 wq_103
theorem xv_X8_128 : GoodIn x_tbl (wsV RX8 128 RX8 yX8_becomes (.code yX8_becomes cX8_becomes 4 (some .int) :: x_tbl)) := x_goodV wq_1339 wq_1336 wq_1338 wq_42 wq_103
theorem xs_X8_131 : GoodIn x_tbl (wsS RX8 131 yX8_isYear (.code yX8_isYear cX8_isYear 1 (some .boolean) :: x_tbl)) := x_goodS wq_1346 wq_1344 wq_1345 wq_103
theorem xv_X8_134 : GoodIn x_tbl (wsV RX8 134 RX8 yX8_isInsured (.code yX8_isInsured cX8_isInsured 3 (some .boolean) :: x_tbl)) := x_goodV wq_1350 wq_1347 wq_1349 wq_43 wq_103
theorem xs_X8_138 : GoodIn x_tbl (wsS RX8 138 yX8_ones (.code yX8_ones cX8_ones 3 (some .int) :: x_tbl)) := x_goodS wq_1357 wq_1355 wq_1356 wq_103
theorem xs_X8_141 : GoodIn x_tbl (wsS RX8 141 yX8_isAmount (.code yX8_isAmount cX8_isAmount 1 (some .boolean) :: x_tbl)) := x_goodS wq_1372 wq_1370 wq_1371 wq_103
theorem xv_X8_144 : GoodIn x_tbl (wsV RX8 144 RX8 yX8_claimsOf (.code yX8_claimsOf cX8_claimsOf 5 (some .int) :: x_tbl)) := x_goodV wq_1376 wq_1373 wq_1375 wq_45 wq_103
theorem xv_X8_147 : GoodIn x_tbl (wsV RX8 147 RX8 yX8_isClaim (.code yX8_isClaim cX8_isClaim 2 (some .boolean) :: x_tbl)) := x_goodV wq_1384 wq_1381 wq_1383 wq_46 wq_103
theorem xv_X8_150 : GoodIn x_tbl (wsV RX8 150 RX8 yX8_joins (.code yX8_joins cX8_joins 4 none :: x_tbl)) := x_goodV wq_1400 wq_1397 wq_1399 wq_48 wq_103
theorem xs_X8_154 : GoodIn x_tbl (wsS RX8 154 yX8_scaled (.code yX8_scaled cX8_scaled 3 (some .int) :: x_tbl)) := x_goodS wq_1411 wq_1409 wq_1410 wq_103
theorem xs_X8_157 : GoodIn x_tbl (wsS RX8 157 yX8_common (.code yX8_common cX8_common 10 (some .long) :: x_tbl)) := x_goodS wq_1458 wq_1456 wq_1457 wq_103
theorem xv_X8_168 : GoodIn x_tbl (wsV RX8 168 RX8 yX8_is (.code yX8_is cX8_is 7 none :: x_tbl)) := x_goodV wq_1455 wq_1452 wq_1454 wq_53 wq_103
theorem xv_X8_172 : GoodIn x_tbl (wsV RX8 172 RX8 yX8_counted (.code yX8_counted cX8_counted 2 (some .int) :: x_tbl)) := x_goodV wq_1451 wq_1448 wq_1450 wq_52 wq_103
theorem xv_X8_175 : GoodIn x_tbl (wsV RX8 175 RX8 yX8_lossIn (.code yX8_lossIn cX8_lossIn 5 (some .int) :: x_tbl)) := x_goodV wq_1447 wq_1444 wq_1446 wq_51 wq_103
theorem xv_X8_187 : GoodIn x_tbl (wsV RX8 187 RX8 yX8_adds (.code yX8_adds cX8_adds 11 none :: x_tbl)) := x_goodV wq_1470 wq_1467 wq_1469 wq_56 wq_103
theorem xv_X8_191 : GoodIn x_tbl (wsV RX8 191 RX8 yX8_multiplies (.code yX8_multiplies cX8_multiplies 13 none :: x_tbl)) := x_goodV wq_1474 wq_1471 wq_1473 wq_57 wq_103
theorem xv_X8_194 : GoodIn x_tbl (wsV RX8 194 RX8 yX8_puts (.code yX8_puts cX8_puts 3 none :: x_tbl)) := x_goodV wq_1478 wq_1475 wq_1477 wq_58 wq_103
theorem xv_X8_184 : GoodIn x_tbl (wsV RX8 184 RX8 yX8_isIn (.code yX8_isIn cX8_isIn 3 (some .boolean) :: x_tbl)) := x_goodV wq_1466 wq_1463 wq_1465 wq_55 wq_103
theorem xv_X8_199 : GoodIn x_tbl (wsV RX8 199 RX8 yX8_shares (.code yX8_shares cX8_shares 4 (some .int) :: x_tbl)) := x_goodV wq_1491 wq_1488 wq_1490 wq_61 wq_103
theorem xv_X8_202 : GoodIn x_tbl (wsV RX8 202 RX8 yX8_mixes (.code yX8_mixes cX8_mixes 14 none :: x_tbl)) := x_goodV wq_1495 wq_1492 wq_1494 wq_62 wq_103
theorem xv_X8_206 : GoodIn x_tbl (wsV RX8 206 RX8 yX8_sums (.code yX8_sums cX8_sums 6 none :: x_tbl)) := x_goodV wq_1443 wq_1440 wq_1442 wq_50 wq_103
theorem xv_X8_209 : GoodIn x_tbl (wsV RX8 209 RX8 yX8_spreads (.code yX8_spreads cX8_spreads 14 none :: x_tbl)) := x_goodV wq_1462 wq_1459 wq_1461 wq_54 wq_103
theorem xv_X8_215 : GoodIn x_tbl (wsV RX8 215 RX8 yX8_centres (.code yX8_centres cX8_centres 8 none :: x_tbl)) := x_goodV wq_1487 wq_1484 wq_1486 wq_60 wq_103
theorem xv_X8_218 : GoodIn x_tbl (wsV RX8 218 RX8 yX8_rates (.code yX8_rates cX8_rates 7 none :: x_tbl)) := x_goodV wq_1499 wq_1496 wq_1498 wq_63 wq_103
theorem xv_X8_212 : GoodIn x_tbl (wsV RX8 212 RX8 yX8_shareOf (.code yX8_shareOf cX8_shareOf 8 (some .int) :: x_tbl)) := x_goodV wq_1482 wq_1479 wq_1481 wq_59 wq_103
theorem xv_X8_221 : GoodIn x_tbl (wsV RX8 221 RX8 yX8_works (.code yX8_works cX8_works 3 none :: x_tbl)) := x_goodV wq_1439 wq_1436 wq_1438 wq_49 wq_103
theorem xv_X8_224 : GoodIn x_tbl (wsV RX8 224 RX8 yX8_inThousandths (.code yX8_inThousandths cX8_inThousandths 2 (some .int) :: x_tbl)) := x_goodV wq_1548 wq_1545 wq_1547 wq_68 wq_103
theorem xv_X8_227 : GoodIn x_tbl (wsV RX8 227 RX8 yX8_aboveCap (.code yX8_aboveCap cX8_aboveCap 4 (some .int) :: x_tbl)) := x_goodV wq_1503 wq_1500 wq_1502 wq_64 wq_103
theorem xv_X8_232 : GoodIn x_tbl (wsV RX8 232 RX8 yX8_spreadNow (.code yX8_spreadNow cX8_spreadNow 5 (some .long) :: x_tbl)) := x_goodV wq_1524 wq_1521 wq_1523 wq_65 wq_103
theorem xv_X8_236 : GoodIn x_tbl (wsV RX8 236 RX8 yX8_isRated (.code yX8_isRated cX8_isRated 2 (some .boolean) :: x_tbl)) := x_goodV wq_1536 wq_1533 wq_1535 wq_66 wq_103
theorem xv_X8_239 : GoodIn x_tbl (wsV RX8 239 RX8 yX8_ratedNow (.code yX8_ratedNow cX8_ratedNow 2 (some .int) :: x_tbl)) := x_goodV wq_1544 wq_1541 wq_1543 wq_67 wq_103
theorem xs_X8_242 : GoodIn x_tbl (wsS RX8 242 yX8_isLess (.code yX8_isLess cX8_isLess 21 (some .boolean) :: x_tbl)) := x_goodS wq_1559 wq_1557 wq_1558 wq_103
theorem xv_X8_246 : GoodIn x_tbl (wsV RX8 246 RX8 yX8_isAhead (.code yX8_isAhead cX8_isAhead 3 (some .boolean) :: x_tbl)) := x_goodV wq_1556 wq_1553 wq_1555 wq_69 wq_103
theorem xv_X8_249 : GoodIn x_tbl (wsV RX8 249 RX8 yX8_isGreater (.code yX8_isGreater cX8_isGreater 3 (some .boolean) :: x_tbl)) := x_goodV wq_1567 wq_1564 wq_1566 wq_70 wq_103
theorem xv_X8_253 : GoodIn x_tbl (wsV RX8 253 RX8 yX8_sharedBy (.code yX8_sharedBy cX8_sharedBy 3 (some .int) :: x_tbl)) := x_goodV wq_1596 wq_1593 wq_1595 wq_71 wq_103
theorem xv_X8_256 : GoodIn x_tbl (wsV RX8 256 RX8 yX8_ratedBy (.code yX8_ratedBy cX8_ratedBy 6 (some .int) :: x_tbl)) := x_goodV wq_1608 wq_1605 wq_1607 wq_72 wq_103
theorem xv_X8_260 : GoodIn x_tbl (wsV RX8 260 RX8 yX8_putsAside (.code yX8_putsAside cX8_putsAside 2 none :: x_tbl)) := x_goodV wq_1632 wq_1629 wq_1631 wq_74 wq_103
theorem xv_X8_263 : GoodIn x_tbl (wsV RX8 263 RX8 yX8_ends (.code yX8_ends cX8_ends 4 none :: x_tbl)) := x_goodV wq_1636 wq_1633 wq_1635 wq_75 wq_103
theorem xv_X8_266 : GoodIn x_tbl (wsV RX8 266 RX8 yX8_sharedNow (.code yX8_sharedNow cX8_sharedNow 2 (some .int) :: x_tbl)) := x_goodV wq_1640 wq_1637 wq_1639 wq_76 wq_103
theorem xv_X8_269 : GoodIn x_tbl (wsV RX8 269 RX8 yX8_takesBack (.code yX8_takesBack cX8_takesBack 2 none :: x_tbl)) := x_goodV wq_1644 wq_1641 wq_1643 wq_77 wq_103
theorem xv_X8_272 : GoodIn x_tbl (wsV RX8 272 RX8 yX8_earlier (.code yX8_earlier cX8_earlier 5 (some .int) :: x_tbl)) := x_goodV wq_1628 wq_1625 wq_1627 wq_73 wq_103
theorem xv_X8_276 : GoodIn x_tbl (wsV RX8 276 RX8 yX8_ratedWithout (.code yX8_ratedWithout cX8_ratedWithout 4 (some .int) :: x_tbl)) := x_goodV wq_1664 wq_1661 wq_1663 wq_78 wq_103
theorem xv_X8_282 : GoodIn x_tbl (wsV RX8 282 RX8 yX8_wordFrom (.code yX8_wordFrom cX8_wordFrom 4 (some .int) :: x_tbl)) := x_goodV wq_1684 wq_1681 wq_1683 wq_81 wq_103
theorem xv_X8_285 : GoodIn x_tbl (wsV RX8 285 RX8 yX8_writes (.code yX8_writes cX8_writes 2 none :: x_tbl)) := x_goodV wq_1688 wq_1685 wq_1687 wq_82 wq_103
theorem xv_X8_288 : GoodIn x_tbl (wsV RX8 288 RX8 yX8_writesWord (.code yX8_writesWord cX8_writesWord 3 none :: x_tbl)) := x_goodV wq_1680 wq_1677 wq_1679 wq_80 wq_103
theorem xv_X8_291 : GoodIn x_tbl (wsV RX8 291 RX8 yX8_writesNumber (.code yX8_writesNumber cX8_writesNumber 3 none :: x_tbl)) := x_goodV wq_1692 wq_1689 wq_1691 wq_83 wq_103
theorem xv_X8_294 : GoodIn x_tbl (wsV RX8 294 RX8 yX8_writesOne (.code yX8_writesOne cX8_writesOne 3 none :: x_tbl)) := x_goodV wq_1676 wq_1673 wq_1675 wq_79 wq_103
theorem xv_X8_297 : GoodIn x_tbl (wsV RX8 297 RX8 yX8_toldText (.code yX8_toldText cX8_toldText 2 (some .int) :: x_tbl)) := x_goodV wq_1696 wq_1693 wq_1695 wq_84 wq_103
theorem xv_X8_309 : GoodIn x_tbl (wsV RX8 309 RX8 yX8_here (.code yX8_here cX8_here 1 (some .int) :: x_tbl)) := x_goodV wq_1724 wq_1721 wq_1723 wq_86 wq_103
theorem xv_X8_322 : GoodIn x_tbl (wsV RX8 322 RX8 yX8_goesOn (.code yX8_goesOn cX8_goesOn 5 none :: x_tbl)) := x_goodV wq_1720 wq_1717 wq_1719 wq_85 wq_103
theorem xv_X8_325 : GoodIn x_tbl (wsV RX8 325 RX8 yX8_isRoom (.code yX8_isRoom cX8_isRoom 4 (some .boolean) :: x_tbl)) := x_goodV wq_1744 wq_1741 wq_1743 wq_91 wq_103
theorem xv_X8_328 : GoodIn x_tbl (wsV RX8 328 RX8 yX8_needsNumber (.code yX8_needsNumber cX8_needsNumber 4 (some .int) :: x_tbl)) := x_goodV wq_1736 wq_1733 wq_1735 wq_89 wq_103
theorem xv_X8_331 : GoodIn x_tbl (wsV RX8 331 RX8 yX8_mayBeIn (.code yX8_mayBeIn cX8_mayBeIn 5 (some .boolean) :: x_tbl)) := x_goodV wq_1752 wq_1749 wq_1751 wq_93 wq_103
theorem xv_X8_334 : GoodIn x_tbl (wsV RX8 334 RX8 yX8_takesWord (.code yX8_takesWord cX8_takesWord 4 (some .boolean) :: x_tbl)) := x_goodV wq_1732 wq_1729 wq_1731 wq_88 wq_103
theorem xv_X8_340 : GoodIn x_tbl (wsV RX8 340 RX8 yX8_readsClaim (.code yX8_readsClaim cX8_readsClaim 3 none :: x_tbl)) := x_goodV wq_1748 wq_1745 wq_1747 wq_92 wq_103
theorem xv_X8_337 : GoodIn x_tbl (wsV RX8 337 RX8 yX8_readsFleet (.code yX8_readsFleet cX8_readsFleet 4 none :: x_tbl)) := x_goodV wq_1740 wq_1737 wq_1739 wq_90 wq_103
theorem xs_X8_73 : GoodIn x_tbl (wsS RX8 73 yX8_starts (.code yX8_starts cX8_starts 2 none :: x_tbl)) := x_goodS wq_1180 wq_1178 wq_1179 wq_103
theorem xv_X8_343 : GoodIn x_tbl (wsV RX8 343 RX8 yX8_readsOne (.code yX8_readsOne cX8_readsOne 2 none :: x_tbl)) := x_goodV wq_1728 wq_1725 wq_1727 wq_87 wq_103
theorem xv_L_220 : GoodIn x_tbl (wsV RL 220 RX7 yX7_count (.code yX7_count cX7_count 2 (some .int) :: x_tbl)) := x_goodV wq_1158 wq_1155 wq_1156 wq_1157 wq_95
theorem xv_L_223 : GoodIn x_tbl (wsV RL 223 RX8 yX8_count (.code yX8_count cX8_count 4 (some .int) :: x_tbl)) := x_goodV wq_1704 wq_1701 wq_1702 wq_1703 wq_103
theorem xv_L_216 : GoodIn x_tbl (wsV RL 216 RX7 yX7_spell (.code yX7_spell cX7_spell 3 (some .int) :: x_tbl)) := x_goodV wq_1142 wq_1139 wq_1140 wq_1141 wq_95
theorem xv_L_219 : GoodIn x_tbl (wsV RL 219 RX8 yX8_spell (.code yX8_spell cX8_spell 4 (some .int) :: x_tbl)) := x_goodV wq_1700 wq_1697 wq_1698 wq_1699 wq_103
theorem xv_L_212 : GoodIn x_tbl (wsV RL 212 RX7 yX7_report (.code yX7_report cX7_report 3 (some .int) :: x_tbl)) := x_goodV wq_1106 wq_1103 wq_1104 wq_1105 wq_95
theorem xv_L_215 : GoodIn x_tbl (wsV RL 215 RX8 yX8_report (.code yX8_report cX8_report 3 (some .int) :: x_tbl)) := x_goodV wq_1672 wq_1669 wq_1670 wq_1671 wq_103
theorem xv_L_208 : GoodIn x_tbl (wsV RL 208 RX7 yX7_dearest (.code yX7_dearest cX7_dearest 6 (some .int) :: x_tbl)) := x_goodV wq_1097 wq_1094 wq_1095 wq_1096 wq_95
theorem xv_L_211 : GoodIn x_tbl (wsV RL 211 RX8 yX8_dearest (.code yX8_dearest cX8_dearest 5 (some .int) :: x_tbl)) := x_goodV wq_1668 wq_1665 wq_1666 wq_1667 wq_103
theorem xv_L_204 : GoodIn x_tbl (wsV RL 204 RX7 yX7_withoutClaim (.code yX7_withoutClaim cX7_withoutClaim 3 (some .int) :: x_tbl)) := x_goodV wq_1093 wq_1090 wq_1091 wq_1092 wq_95
theorem xv_L_207 : GoodIn x_tbl (wsV RL 207 RX8 yX8_withoutClaim (.code yX8_withoutClaim cX8_withoutClaim 3 (some .int) :: x_tbl)) := x_goodV wq_1660 wq_1657 wq_1658 wq_1659 wq_103
theorem xv_L_199 : GoodIn x_tbl (wsV RL 199 RX7 yX7_joined (.code yX7_joined cX7_joined 5 (some .long) :: x_tbl)) := x_goodV wq_1089 wq_1086 wq_1087 wq_1088 wq_95
theorem xv_L_203 : GoodIn x_tbl (wsV RL 203 RX8 yX8_joined (.code yX8_joined cX8_joined 7 (some .long) :: x_tbl)) := x_goodV wq_1656 wq_1653 wq_1654 wq_1655 wq_103
theorem xv_L_195 : GoodIn x_tbl (wsV RL 195 RX7 yX7_withoutFleet (.code yX7_withoutFleet cX7_withoutFleet 3 (some .int) :: x_tbl)) := x_goodV wq_1085 wq_1082 wq_1083 wq_1084 wq_95
theorem xv_L_198 : GoodIn x_tbl (wsV RL 198 RX8 yX8_withoutFleet (.code yX8_withoutFleet cX8_withoutFleet 4 (some .int) :: x_tbl)) := x_goodV wq_1652 wq_1649 wq_1650 wq_1651 wq_103
theorem xv_L_191 : GoodIn x_tbl (wsV RL 191 RX7 yX7_earlyShare (.code yX7_earlyShare cX7_earlyShare 3 (some .int) :: x_tbl)) := x_goodV wq_1081 wq_1078 wq_1079 wq_1080 wq_95
theorem xv_L_194 : GoodIn x_tbl (wsV RL 194 RX8 yX8_earlyShare (.code yX8_earlyShare cX8_earlyShare 3 (some .int) :: x_tbl)) := x_goodV wq_1648 wq_1645 wq_1646 wq_1647 wq_103
theorem xv_L_187 : GoodIn x_tbl (wsV RL 187 RX7 yX7_early (.code yX7_early cX7_early 3 (some .int) :: x_tbl)) := x_goodV wq_1073 wq_1070 wq_1071 wq_1072 wq_95
theorem xv_L_190 : GoodIn x_tbl (wsV RL 190 RX8 yX8_early (.code yX8_early cX8_early 3 (some .int) :: x_tbl)) := x_goodV wq_1624 wq_1621 wq_1622 wq_1623 wq_103
theorem xv_L_183 : GoodIn x_tbl (wsV RL 183 RX7 yX7_capFor (.code yX7_capFor cX7_capFor 4 (some .int) :: x_tbl)) := x_goodV wq_1068 wq_1065 wq_1066 wq_1067 wq_95
theorem xv_L_186 : GoodIn x_tbl (wsV RL 186 RX8 yX8_capFor (.code yX8_capFor cX8_capFor 4 (some .int) :: x_tbl)) := x_goodV wq_1620 wq_1617 wq_1618 wq_1619 wq_103
theorem xv_L_179 : GoodIn x_tbl (wsV RL 179 RX7 yX7_byCap (.code yX7_byCap cX7_byCap 3 (some .int) :: x_tbl)) := x_goodV wq_1064 wq_1061 wq_1062 wq_1063 wq_95
theorem xv_L_182 : GoodIn x_tbl (wsV RL 182 RX8 yX8_byCap (.code yX8_byCap cX8_byCap 3 (some .int) :: x_tbl)) := x_goodV wq_1616 wq_1613 wq_1614 wq_1615 wq_103
theorem xv_L_175 : GoodIn x_tbl (wsV RL 175 RX7 yX7_bestClass (.code yX7_bestClass cX7_bestClass 6 (some .int) :: x_tbl)) := x_goodV wq_1059 wq_1056 wq_1057 wq_1058 wq_95
theorem xv_L_178 : GoodIn x_tbl (wsV RL 178 RX8 yX8_bestClass (.code yX8_bestClass cX8_bestClass 6 (some .int) :: x_tbl)) := x_goodV wq_1612 wq_1609 wq_1610 wq_1611 wq_103
theorem xv_L_171 : GoodIn x_tbl (wsV RL 171 RX7 yX7_inClass (.code yX7_inClass cX7_inClass 3 (some .int) :: x_tbl)) := x_goodV wq_1055 wq_1052 wq_1053 wq_1054 wq_95
theorem xv_L_174 : GoodIn x_tbl (wsV RL 174 RX8 yX8_inClass (.code yX8_inClass cX8_inClass 3 (some .int) :: x_tbl)) := x_goodV wq_1604 wq_1601 wq_1602 wq_1603 wq_103
theorem xv_L_167 : GoodIn x_tbl (wsV RL 167 RX7 yX7_yearsFor (.code yX7_yearsFor cX7_yearsFor 4 (some .int) :: x_tbl)) := x_goodV wq_1051 wq_1048 wq_1049 wq_1050 wq_95
theorem xv_L_170 : GoodIn x_tbl (wsV RL 170 RX8 yX8_yearsFor (.code yX8_yearsFor cX8_yearsFor 4 (some .int) :: x_tbl)) := x_goodV wq_1600 wq_1597 wq_1598 wq_1599 wq_103
theorem xv_L_163 : GoodIn x_tbl (wsV RL 163 RX7 yX7_shareBy (.code yX7_shareBy cX7_shareBy 3 (some .int) :: x_tbl)) := x_goodV wq_1043 wq_1040 wq_1041 wq_1042 wq_95
theorem xv_L_166 : GoodIn x_tbl (wsV RL 166 RX8 yX8_shareBy (.code yX8_shareBy cX8_shareBy 3 (some .int) :: x_tbl)) := x_goodV wq_1592 wq_1589 wq_1590 wq_1591 wq_103
theorem xv_L_159 : GoodIn x_tbl (wsV RL 159 RX7 yX7_premium (.code yX7_premium cX7_premium 4 (some .int) :: x_tbl)) := x_goodV wq_1039 wq_1036 wq_1037 wq_1038 wq_95
theorem xv_L_162 : GoodIn x_tbl (wsV RL 162 RX8 yX8_premium (.code yX8_premium cX8_premium 3 (some .int) :: x_tbl)) := x_goodV wq_1588 wq_1585 wq_1586 wq_1587 wq_103
theorem xv_L_155 : GoodIn x_tbl (wsV RL 155 RX7 yX7_gap (.code yX7_gap cX7_gap 5 (some .int) :: x_tbl)) := x_goodV wq_1034 wq_1031 wq_1032 wq_1033 wq_95
theorem xv_L_158 : GoodIn x_tbl (wsV RL 158 RX8 yX8_gap (.code yX8_gap cX8_gap 3 (some .int) :: x_tbl)) := x_goodV wq_1583 wq_1580 wq_1581 wq_1582 wq_103
theorem xv_L_151 : GoodIn x_tbl (wsV RL 151 RX7 yX7_claimsIn (.code yX7_claimsIn cX7_claimsIn 2 (some .int) :: x_tbl)) := x_goodV wq_1026 wq_1023 wq_1024 wq_1025 wq_95
theorem xv_L_154 : GoodIn x_tbl (wsV RL 154 RX8 yX8_claimsIn (.code yX8_claimsIn cX8_claimsIn 4 (some .int) :: x_tbl)) := x_goodV wq_1579 wq_1576 wq_1577 wq_1578 wq_103
theorem xv_L_147 : GoodIn x_tbl (wsV RL 147 RX7 yX7_dearestOf (.code yX7_dearestOf cX7_dearestOf 4 (some .int) :: x_tbl)) := x_goodV wq_1021 wq_1018 wq_1019 wq_1020 wq_95
theorem xv_L_150 : GoodIn x_tbl (wsV RL 150 RX8 yX8_dearestOf (.code yX8_dearestOf cX8_dearestOf 4 (some .int) :: x_tbl)) := x_goodV wq_1575 wq_1572 wq_1573 wq_1574 wq_103
theorem xv_L_143 : GoodIn x_tbl (wsV RL 143 RX7 yX7_worst (.code yX7_worst cX7_worst 4 (some .int) :: x_tbl)) := x_goodV wq_1017 wq_1014 wq_1015 wq_1016 wq_95
theorem xv_L_146 : GoodIn x_tbl (wsV RL 146 RX8 yX8_worst (.code yX8_worst cX8_worst 4 (some .int) :: x_tbl)) := x_goodV wq_1571 wq_1568 wq_1569 wq_1570 wq_103
theorem xv_L_139 : GoodIn x_tbl (wsV RL 139 RX7 yX7_greatest (.code yX7_greatest cX7_greatest 4 (some .int) :: x_tbl)) := x_goodV wq_1009 wq_1006 wq_1007 wq_1008 wq_95
theorem xv_L_142 : GoodIn x_tbl (wsV RL 142 RX8 yX8_greatest (.code yX8_greatest cX8_greatest 6 (some .int) :: x_tbl)) := x_goodV wq_1563 wq_1560 wq_1561 wq_1562 wq_103
theorem xv_L_135 : GoodIn x_tbl (wsV RL 135 RX7 yX7_ranked (.code yX7_ranked cX7_ranked 3 (some .int) :: x_tbl)) := x_goodV wq_992 wq_989 wq_990 wq_991 wq_95
theorem xv_L_138 : GoodIn x_tbl (wsV RL 138 RX8 yX8_ranked (.code yX8_ranked cX8_ranked 5 (some .int) :: x_tbl)) := x_goodV wq_1552 wq_1549 wq_1550 wq_1551 wq_103
theorem xv_L_131 : GoodIn x_tbl (wsV RL 131 RX7 yX7_thousandths (.code yX7_thousandths cX7_thousandths 2 (some .int) :: x_tbl)) := x_goodV wq_974 wq_971 wq_972 wq_973 wq_95
theorem xv_L_134 : GoodIn x_tbl (wsV RL 134 RX8 yX8_thousandths (.code yX8_thousandths cX8_thousandths 2 (some .int) :: x_tbl)) := x_goodV wq_1540 wq_1537 wq_1538 wq_1539 wq_103
theorem xv_L_126 : GoodIn x_tbl (wsV RL 126 RX7 yX7_rate (.code yX7_rate cX7_rate 3 (some .long) :: x_tbl)) := x_goodV wq_961 wq_958 wq_959 wq_960 wq_95
theorem xv_L_130 : GoodIn x_tbl (wsV RL 130 RX8 yX8_rate (.code yX8_rate cX8_rate 3 (some .long) :: x_tbl)) := x_goodV wq_1532 wq_1529 wq_1530 wq_1531 wq_103
theorem xv_L_121 : GoodIn x_tbl (wsV RL 121 RX7 yX7_whole (.code yX7_whole cX7_whole 2 (some .long) :: x_tbl)) := x_goodV wq_956 wq_953 wq_954 wq_955 wq_95
theorem xv_L_125 : GoodIn x_tbl (wsV RL 125 RX8 yX8_whole (.code yX8_whole cX8_whole 2 (some .long) :: x_tbl)) := x_goodV wq_1528 wq_1525 wq_1526 wq_1527 wq_103
theorem xv_L_116 : GoodIn x_tbl (wsV RL 116 RX7 yX7_spread (.code yX7_spread cX7_spread 4 (some .long) :: x_tbl)) := x_goodV wq_912 wq_909 wq_910 wq_911 wq_95
theorem xv_L_120 : GoodIn x_tbl (wsV RL 120 RX8 yX8_spread (.code yX8_spread cX8_spread 4 (some .long) :: x_tbl)) := x_goodV wq_1519 wq_1516 wq_1517 wq_1518 wq_103
theorem xv_L_112 : GoodIn x_tbl (wsV RL 112 RX7 yX7_group (.code yX7_group cX7_group 4 (some .int) :: x_tbl)) := x_goodV wq_906 wq_903 wq_904 wq_905 wq_95
theorem xv_L_115 : GoodIn x_tbl (wsV RL 115 RX8 yX8_group (.code yX8_group cX8_group 5 (some .int) :: x_tbl)) := x_goodV wq_1515 wq_1512 wq_1513 wq_1514 wq_103
theorem xv_L_108 : GoodIn x_tbl (wsV RL 108 RX7 yX7_claimOf (.code yX7_claimOf cX7_claimOf 3 (some .int) :: x_tbl)) := x_goodV wq_899 wq_896 wq_897 wq_898 wq_95
theorem xv_L_111 : GoodIn x_tbl (wsV RL 111 RX8 yX8_claimOf (.code yX8_claimOf cX8_claimOf 3 (some .int) :: x_tbl)) := x_goodV wq_1511 wq_1508 wq_1509 wq_1510 wq_103
theorem xv_L_104 : GoodIn x_tbl (wsV RL 104 RX7 yX7_loss (.code yX7_loss cX7_loss 3 (some .int) :: x_tbl)) := x_goodV wq_894 wq_891 wq_892 wq_893 wq_95
theorem xv_L_107 : GoodIn x_tbl (wsV RL 107 RX8 yX8_loss (.code yX8_loss cX8_loss 3 (some .int) :: x_tbl)) := x_goodV wq_1507 wq_1504 wq_1505 wq_1506 wq_103
theorem xv_L_100 : GoodIn x_tbl (wsV RL 100 RX7 yX7_of (.code yX7_of cX7_of 3 (some .int) :: x_tbl)) := x_goodV wq_770 wq_767 wq_768 wq_769 wq_95
theorem xv_L_103 : GoodIn x_tbl (wsV RL 103 RX8 yX8_of (.code yX8_of cX8_of 3 (some .int) :: x_tbl)) := x_goodV wq_1435 wq_1432 wq_1433 wq_1434 wq_103
theorem xv_L_96 : GoodIn x_tbl (wsV RL 96 RX7 yX7_undo (.code yX7_undo cX7_undo 1 (some .int) :: x_tbl)) := x_goodV wq_754 wq_751 wq_752 wq_753 wq_95
theorem xv_L_99 : GoodIn x_tbl (wsV RL 99 RX8 yX8_undo (.code yX8_undo cX8_undo 2 (some .int) :: x_tbl)) := x_goodV wq_1431 wq_1428 wq_1429 wq_1430 wq_103
theorem xv_L_92 : GoodIn x_tbl (wsV RL 92 RX7 yX7_steady (.code yX7_steady cX7_steady 3 (some .int) :: x_tbl)) := x_goodV wq_750 wq_747 wq_748 wq_749 wq_95
theorem xv_L_95 : GoodIn x_tbl (wsV RL 95 RX8 yX8_steady (.code yX8_steady cX8_steady 2 (some .int) :: x_tbl)) := x_goodV wq_1427 wq_1424 wq_1425 wq_1426 wq_103
theorem xv_L_88 : GoodIn x_tbl (wsV RL 88 RX7 yX7_cap (.code yX7_cap cX7_cap 3 (some .int) :: x_tbl)) := x_goodV wq_746 wq_743 wq_744 wq_745 wq_95
theorem xv_L_91 : GoodIn x_tbl (wsV RL 91 RX8 yX8_cap (.code yX8_cap cX8_cap 2 (some .int) :: x_tbl)) := x_goodV wq_1423 wq_1420 wq_1421 wq_1422 wq_103
theorem xv_L_84 : GoodIn x_tbl (wsV RL 84 RX7 yX7_merge (.code yX7_merge cX7_merge 3 (some .int) :: x_tbl)) := x_goodV wq_738 wq_735 wq_736 wq_737 wq_95
theorem xv_L_87 : GoodIn x_tbl (wsV RL 87 RX8 yX8_merge (.code yX8_merge cX8_merge 4 (some .int) :: x_tbl)) := x_goodV wq_1419 wq_1416 wq_1417 wq_1418 wq_103
theorem xv_L_80 : GoodIn x_tbl (wsV RL 80 RX7 yX7_split (.code yX7_split cX7_split 4 (some .int) :: x_tbl)) := x_goodV wq_725 wq_722 wq_723 wq_724 wq_95
theorem xv_L_83 : GoodIn x_tbl (wsV RL 83 RX8 yX8_split (.code yX8_split cX8_split 5 (some .int) :: x_tbl)) := x_goodV wq_1415 wq_1412 wq_1413 wq_1414 wq_103
theorem xv_L_76 : GoodIn x_tbl (wsV RL 76 RX7 yX7_scale (.code yX7_scale cX7_scale 4 (some .int) :: x_tbl)) := x_goodV wq_712 wq_709 wq_710 wq_711 wq_95
theorem xv_L_79 : GoodIn x_tbl (wsV RL 79 RX8 yX8_scale (.code yX8_scale cX8_scale 5 (some .int) :: x_tbl)) := x_goodV wq_1408 wq_1405 wq_1406 wq_1407 wq_103
theorem xv_L_71 : GoodIn x_tbl (wsV RL 71 RX7 yX7_swap (.code yX7_swap cX7_swap 3 (some .boolean) :: x_tbl)) := x_goodV wq_704 wq_701 wq_702 wq_703 wq_95
theorem xv_L_75 : GoodIn x_tbl (wsV RL 75 RX8 yX8_swap (.code yX8_swap cX8_swap 5 (some .boolean) :: x_tbl)) := x_goodV wq_1404 wq_1401 wq_1402 wq_1403 wq_103
theorem xv_L_67 : GoodIn x_tbl (wsV RL 67 RX7 yX7_join (.code yX7_join cX7_join 3 (some .int) :: x_tbl)) := x_goodV wq_692 wq_689 wq_690 wq_691 wq_95
theorem xv_L_70 : GoodIn x_tbl (wsV RL 70 RX8 yX8_join (.code yX8_join cX8_join 5 (some .int) :: x_tbl)) := x_goodV wq_1396 wq_1393 wq_1394 wq_1395 wq_103
theorem xv_L_63 : GoodIn x_tbl (wsV RL 63 RX7 yX7_amend (.code yX7_amend cX7_amend 4 (some .int) :: x_tbl)) := x_goodV wq_683 wq_680 wq_681 wq_682 wq_95
theorem xv_L_66 : GoodIn x_tbl (wsV RL 66 RX8 yX8_amend (.code yX8_amend cX8_amend 3 (some .int) :: x_tbl)) := x_goodV wq_1388 wq_1385 wq_1386 wq_1387 wq_103
theorem xv_L_59 : GoodIn x_tbl (wsV RL 59 RX7 yX7_waive (.code yX7_waive cX7_waive 2 (some .boolean) :: x_tbl)) := x_goodV wq_674 wq_671 wq_672 wq_673 wq_95
theorem xv_L_62 : GoodIn x_tbl (wsV RL 62 RX8 yX8_waive (.code yX8_waive cX8_waive 2 (some .boolean) :: x_tbl)) := x_goodV wq_1380 wq_1377 wq_1378 wq_1379 wq_103
theorem xv_L_54 : GoodIn x_tbl (wsV RL 54 RX7 yX7_claim (.code yX7_claim cX7_claim 4 (some .int) :: x_tbl)) := x_goodV wq_665 wq_662 wq_663 wq_664 wq_95
theorem xv_L_58 : GoodIn x_tbl (wsV RL 58 RX8 yX8_claim (.code yX8_claim cX8_claim 5 (some .int) :: x_tbl)) := x_goodV wq_1369 wq_1366 wq_1367 wq_1368 wq_103
theorem xv_L_50 : GoodIn x_tbl (wsV RL 50 RX7 yX7_forget (.code yX7_forget cX7_forget 3 (some .int) :: x_tbl)) := x_goodV wq_652 wq_649 wq_650 wq_651 wq_95
theorem xv_L_53 : GoodIn x_tbl (wsV RL 53 RX8 yX8_forget (.code yX8_forget cX8_forget 4 (some .int) :: x_tbl)) := x_goodV wq_1365 wq_1362 wq_1363 wq_1364 wq_103
theorem xv_L_46 : GoodIn x_tbl (wsV RL 46 RX7 yX7_lapse (.code yX7_lapse cX7_lapse 3 (some .int) :: x_tbl)) := x_goodV wq_644 wq_641 wq_642 wq_643 wq_95
theorem xv_L_49 : GoodIn x_tbl (wsV RL 49 RX8 yX8_lapse (.code yX8_lapse cX8_lapse 3 (some .int) :: x_tbl)) := x_goodV wq_1361 wq_1358 wq_1359 wq_1360 wq_103
theorem xv_L_42 : GoodIn x_tbl (wsV RL 42 RX7 yX7_insure (.code yX7_insure cX7_insure 3 (some .int) :: x_tbl)) := x_goodV wq_630 wq_627 wq_628 wq_629 wq_95
theorem xv_L_45 : GoodIn x_tbl (wsV RL 45 RX8 yX8_insure (.code yX8_insure cX8_insure 3 (some .int) :: x_tbl)) := x_goodV wq_1343 wq_1340 wq_1341 wq_1342 wq_103
theorem xv_L_38 : GoodIn x_tbl (wsV RL 38 RX7 yX7_move (.code yX7_move cX7_move 4 (some .int) :: x_tbl)) := x_goodV wq_624 wq_621 wq_622 wq_623 wq_95
theorem xv_L_41 : GoodIn x_tbl (wsV RL 41 RX8 yX8_move (.code yX8_move cX8_move 3 (some .int) :: x_tbl)) := x_goodV wq_1331 wq_1328 wq_1329 wq_1330 wq_103
theorem xv_L_33 : GoodIn x_tbl (wsV RL 33 RX7 yX7_leave (.code yX7_leave cX7_leave 2 (some .boolean) :: x_tbl)) := x_goodV wq_583 wq_580 wq_581 wq_582 wq_95
theorem xv_L_37 : GoodIn x_tbl (wsV RL 37 RX8 yX8_leave (.code yX8_leave cX8_leave 2 (some .boolean) :: x_tbl)) := x_goodV wq_1299 wq_1296 wq_1297 wq_1298 wq_103
theorem xv_L_28 : GoodIn x_tbl (wsV RL 28 RX7 yX7_fleet (.code yX7_fleet cX7_fleet 3 (some .int) :: x_tbl)) := x_goodV wq_566 wq_563 wq_564 wq_565 wq_95
theorem xv_L_32 : GoodIn x_tbl (wsV RL 32 RX8 yX8_fleet (.code yX8_fleet cX8_fleet 3 (some .int) :: x_tbl)) := x_goodV wq_1281 wq_1278 wq_1279 wq_1280 wq_103
theorem xv_L_23 : GoodIn x_tbl (wsV RL 23 RX7 yX7_text (.code yX7_text cX7_text 2 (some .int) :: x_tbl)) := x_goodV wq_394 wq_391 wq_392 wq_393 wq_95
theorem xv_L_27 : GoodIn x_tbl (wsV RL 27 RX8 yX8_text (.code yX8_text cX8_text 2 (some .int) :: x_tbl)) := x_goodV wq_1716 wq_1713 wq_1714 wq_1715 wq_103
theorem xv_L_18 : GoodIn x_tbl (wsV RL 18 RX7 yX7_back (.code yX7_back cX7_back 2 (some .int) :: x_tbl)) := x_goodV wq_386 wq_383 wq_384 wq_385 wq_95
theorem xv_L_22 : GoodIn x_tbl (wsV RL 22 RX8 yX8_back (.code yX8_back cX8_back 2 (some .int) :: x_tbl)) := x_goodV wq_1712 wq_1709 wq_1710 wq_1711 wq_103
theorem xv_L_13 : GoodIn x_tbl (wsV RL 13 RX7 yX7_feed (.code yX7_feed cX7_feed 6 (some .int) :: x_tbl)) := x_goodV wq_370 wq_367 wq_368 wq_369 wq_95
theorem xv_L_17 : GoodIn x_tbl (wsV RL 17 RX8 yX8_feed (.code yX8_feed cX8_feed 8 (some .int) :: x_tbl)) := x_goodV wq_1708 wq_1705 wq_1706 wq_1707 wq_103
section FR
variable {p : Program} {l : Launch} {e : Env} {R : Room} {s : State} {m : MethodId} {args : Array Value} {below : List Frame} {meth : Method} {c : Code} {H : Heap} {locs : List Loc} {Q : State → Prop} {G : xG} {A : Nat → Prop} {ws ws' : va_W} {cc : ByteArray} {nL pc : Nat} {ls : Array Slot} {rest : List Value} {a : Nat} {cells slots : Nat}
theorem xg_X7_10 (E : xE p s m args c cc nL RX7 G A) (hw : xW G A s.heap ws H locs) (q0 : Nat) {fs : List Value} {v : Value} (he : ws[q0]? = some (a, .inr (7, fs))) (hv : fs[0]? = some v) (hdg : decode cc pc = .ok (.getfield 10, 3)) (kk : W p l e R s m args below meth c H locs cells slots Q (F0 m (pc + 3) ls (v :: rest))) : W p l e R s m args below meth c H locs cells slots Q (F0 m pc ls (.ref a :: rest)) := va_get (C := RX7) (T := TX7) (N := 8) E.1 E.2.1 E.2.2.2.2.1 inX7 E.2.2.2.1 E.2.2.2.2.2.1 hw.1 q0 he rfl 0 (by decide) (E.2.2.2.2.1 _ wq_342) (fun _ h => h) hv hdg kk
theorem xg_X6_15 (E : xE p s m args c cc nL RX6 G A) (hw : xW G A s.heap ws H locs) (q0 : Nat) {fs : List Value} {v : Value} (he : ws[q0]? = some (a, .inr (6, fs))) (hv : fs[1]? = some v) (hdg : decode cc pc = .ok (.getfield 15, 3)) (kk : W p l e R s m args below meth c H locs cells slots Q (F0 m (pc + 3) ls (v :: rest))) : W p l e R s m args below meth c H locs cells slots Q (F0 m pc ls (.ref a :: rest)) := va_get (C := RX6) (T := TX6) (N := 5) E.1 E.2.1 E.2.2.2.2.1 inX6 E.2.2.2.1 E.2.2.2.2.2.1 hw.1 q0 he rfl 1 (by decide) (E.2.2.2.2.1 _ wq_127) (fun _ h => h) hv hdg kk
theorem xg_X6_9 (E : xE p s m args c cc nL RX6 G A) (hw : xW G A s.heap ws H locs) (q0 : Nat) {fs : List Value} {v : Value} (he : ws[q0]? = some (a, .inr (6, fs))) (hv : fs[0]? = some v) (hdg : decode cc pc = .ok (.getfield 9, 3)) (kk : W p l e R s m args below meth c H locs cells slots Q (F0 m (pc + 3) ls (v :: rest))) : W p l e R s m args below meth c H locs cells slots Q (F0 m pc ls (.ref a :: rest)) := va_get (C := RX6) (T := TX6) (N := 5) E.1 E.2.1 E.2.2.2.2.1 inX6 E.2.2.2.1 E.2.2.2.2.2.1 hw.1 q0 he rfl 0 (by decide) (E.2.2.2.2.1 _ wq_126) (fun _ h => h) hv hdg kk
theorem xp_X6_15 (E : xE p s m args c cc nL RX6 G A) (hw : xW G A s.heap ws H locs) (q0 : Nat) {fs : List Value} {v : Value} (he : ws[q0]? = some (a, .inr (6, fs))) (hn : narrow .int v = v) (hfit : fits .int v = true) (hlen : 1 < fs.length) (hnew : ws.set q0 (a, .inr (6, fs.set 1 v)) = ws') (hdg : decode cc pc = .ok (.putfield 15, 3)) (kk : ∀ (H1 : Heap) (locs1 : List Loc), xW G A s.heap ws' H1 locs1 → W p l e R s m args below meth c H1 locs1 cells slots Q (F0 m (pc + 3) ls rest)) : W p l e R s m args below meth c H locs cells slots Q (F0 m pc ls (v :: .ref a :: rest)) := by
  subst hnew
  exact va_put (C := RX6) (T := TX6) (N := 5) E.1 E.2.1 E.2.2.2.2.1 inX6 tyX6 tyX6_ok nmX6 E.2.2.2.1 E.2.2.2.2.2.1 hw.1 hw.2.1 hw.2.2 q0 he rfl 1 (by decide) (E.2.2.2.2.1 _ wq_127) (fun _ h => h) rfl (by decide +kernel) hn hfit hlen hdg (fun H1 l1 a1 a2 a3 => kk H1 l1 ⟨a1, a2, a3⟩)
theorem xg_X7_23 (E : xE p s m args c cc nL RX7 G A) (hw : xW G A s.heap ws H locs) (q0 : Nat) {fs : List Value} {v : Value} (he : ws[q0]? = some (a, .inr (7, fs))) (hv : fs[2]? = some v) (hdg : decode cc pc = .ok (.getfield 23, 3)) (kk : W p l e R s m args below meth c H locs cells slots Q (F0 m (pc + 3) ls (v :: rest))) : W p l e R s m args below meth c H locs cells slots Q (F0 m pc ls (.ref a :: rest)) := va_get (C := RX7) (T := TX7) (N := 8) E.1 E.2.1 E.2.2.2.2.1 inX7 E.2.2.2.1 E.2.2.2.2.2.1 hw.1 q0 he rfl 2 (by decide) (E.2.2.2.2.1 _ wq_344) (fun _ h => h) hv hdg kk
theorem xp_X0_28 (E : xE p s m args c cc nL RX0 G A) (hw : xW G A s.heap ws H locs) (q0 : Nat) {fs : List Value} {v : Value} (he : ws[q0]? = some (a, .inr (0, fs))) (hn : narrow .int v = v) (hfit : fits .int v = true) (hlen : 0 < fs.length) (hnew : ws.set q0 (a, .inr (0, fs.set 0 v)) = ws') (hdg : decode cc pc = .ok (.putfield 28, 3)) (kk : ∀ (H1 : Heap) (locs1 : List Loc), xW G A s.heap ws' H1 locs1 → W p l e R s m args below meth c H1 locs1 cells slots Q (F0 m (pc + 3) ls rest)) : W p l e R s m args below meth c H locs cells slots Q (F0 m pc ls (v :: .ref a :: rest)) := by
  subst hnew
  exact va_put (C := RX0) (T := TX0) (N := 7) E.1 E.2.1 E.2.2.2.2.1 inX0 tyX0 tyX0_ok nmX0 E.2.2.2.1 E.2.2.2.2.2.1 hw.1 hw.2.1 hw.2.2 q0 he rfl 0 (by decide) (E.2.2.2.2.1 _ wq_149) (fun _ h => h) rfl (by decide +kernel) hn hfit hlen hdg (fun H1 l1 a1 a2 a3 => kk H1 l1 ⟨a1, a2, a3⟩)
theorem xp_X0_31 (E : xE p s m args c cc nL RX0 G A) (hw : xW G A s.heap ws H locs) (q0 : Nat) {fs : List Value} {v : Value} (he : ws[q0]? = some (a, .inr (0, fs))) (hn : narrow .int v = v) (hfit : fits .int v = true) (hlen : 1 < fs.length) (hnew : ws.set q0 (a, .inr (0, fs.set 1 v)) = ws') (hdg : decode cc pc = .ok (.putfield 31, 3)) (kk : ∀ (H1 : Heap) (locs1 : List Loc), xW G A s.heap ws' H1 locs1 → W p l e R s m args below meth c H1 locs1 cells slots Q (F0 m (pc + 3) ls rest)) : W p l e R s m args below meth c H locs cells slots Q (F0 m pc ls (v :: .ref a :: rest)) := by
  subst hnew
  exact va_put (C := RX0) (T := TX0) (N := 7) E.1 E.2.1 E.2.2.2.2.1 inX0 tyX0 tyX0_ok nmX0 E.2.2.2.1 E.2.2.2.2.2.1 hw.1 hw.2.1 hw.2.2 q0 he rfl 1 (by decide) (E.2.2.2.2.1 _ wq_153) (fun _ h => h) rfl (by decide +kernel) hn hfit hlen hdg (fun H1 l1 a1 a2 a3 => kk H1 l1 ⟨a1, a2, a3⟩)
theorem xp_X0_9 (E : xE p s m args c cc nL RX0 G A) (hw : xW G A s.heap ws H locs) (q0 : Nat) {fs : List Value} {v : Value} (he : ws[q0]? = some (a, .inr (0, fs))) (hn : narrow .int v = v) (hfit : fits .int v = true) (hlen : 2 < fs.length) (hnew : ws.set q0 (a, .inr (0, fs.set 2 v)) = ws') (hdg : decode cc pc = .ok (.putfield 9, 3)) (kk : ∀ (H1 : Heap) (locs1 : List Loc), xW G A s.heap ws' H1 locs1 → W p l e R s m args below meth c H1 locs1 cells slots Q (F0 m (pc + 3) ls rest)) : W p l e R s m args below meth c H locs cells slots Q (F0 m pc ls (v :: .ref a :: rest)) := by
  subst hnew
  exact va_put (C := RX0) (T := TX0) (N := 7) E.1 E.2.1 E.2.2.2.2.1 inX0 tyX0 tyX0_ok nmX0 E.2.2.2.1 E.2.2.2.2.2.1 hw.1 hw.2.1 hw.2.2 q0 he rfl 2 (by decide) (E.2.2.2.2.1 _ wq_157) (fun _ h => h) rfl (by decide +kernel) hn hfit hlen hdg (fun H1 l1 a1 a2 a3 => kk H1 l1 ⟨a1, a2, a3⟩)
theorem xp_X0_15 (E : xE p s m args c cc nL RX0 G A) (hw : xW G A s.heap ws H locs) (q0 : Nat) {fs : List Value} {v : Value} (he : ws[q0]? = some (a, .inr (0, fs))) (hn : narrow .int v = v) (hfit : fits .int v = true) (hlen : 3 < fs.length) (hnew : ws.set q0 (a, .inr (0, fs.set 3 v)) = ws') (hdg : decode cc pc = .ok (.putfield 15, 3)) (kk : ∀ (H1 : Heap) (locs1 : List Loc), xW G A s.heap ws' H1 locs1 → W p l e R s m args below meth c H1 locs1 cells slots Q (F0 m (pc + 3) ls rest)) : W p l e R s m args below meth c H locs cells slots Q (F0 m pc ls (v :: .ref a :: rest)) := by
  subst hnew
  exact va_put (C := RX0) (T := TX0) (N := 7) E.1 E.2.1 E.2.2.2.2.1 inX0 tyX0 tyX0_ok nmX0 E.2.2.2.1 E.2.2.2.2.2.1 hw.1 hw.2.1 hw.2.2 q0 he rfl 3 (by decide) (E.2.2.2.2.1 _ wq_160) (fun _ h => h) rfl (by decide +kernel) hn hfit hlen hdg (fun H1 l1 a1 a2 a3 => kk H1 l1 ⟨a1, a2, a3⟩)
theorem xp_X6_28 (E : xE p s m args c cc nL RX6 G A) (hw : xW G A s.heap ws H locs) (q0 : Nat) {fs : List Value} {v : Value} (he : ws[q0]? = some (a, .inr (6, fs))) (hn : narrow .int v = v) (hfit : fits .int v = true) (hlen : 2 < fs.length) (hnew : ws.set q0 (a, .inr (6, fs.set 2 v)) = ws') (hdg : decode cc pc = .ok (.putfield 28, 3)) (kk : ∀ (H1 : Heap) (locs1 : List Loc), xW G A s.heap ws' H1 locs1 → W p l e R s m args below meth c H1 locs1 cells slots Q (F0 m (pc + 3) ls rest)) : W p l e R s m args below meth c H locs cells slots Q (F0 m pc ls (v :: .ref a :: rest)) := by
  subst hnew
  exact va_put (C := RX6) (T := TX6) (N := 5) E.1 E.2.1 E.2.2.2.2.1 inX6 tyX6 tyX6_ok nmX6 E.2.2.2.1 E.2.2.2.2.2.1 hw.1 hw.2.1 hw.2.2 q0 he rfl 2 (by decide) (E.2.2.2.2.1 _ wq_128) (fun _ h => h) rfl (by decide +kernel) hn hfit hlen hdg (fun H1 l1 a1 a2 a3 => kk H1 l1 ⟨a1, a2, a3⟩)
theorem xp_X6_31 (E : xE p s m args c cc nL RX6 G A) (hw : xW G A s.heap ws H locs) (q0 : Nat) {fs : List Value} {v : Value} (he : ws[q0]? = some (a, .inr (6, fs))) (hn : narrow .int v = v) (hfit : fits .int v = true) (hlen : 3 < fs.length) (hnew : ws.set q0 (a, .inr (6, fs.set 3 v)) = ws') (hdg : decode cc pc = .ok (.putfield 31, 3)) (kk : ∀ (H1 : Heap) (locs1 : List Loc), xW G A s.heap ws' H1 locs1 → W p l e R s m args below meth c H1 locs1 cells slots Q (F0 m (pc + 3) ls rest)) : W p l e R s m args below meth c H locs cells slots Q (F0 m pc ls (v :: .ref a :: rest)) := by
  subst hnew
  exact va_put (C := RX6) (T := TX6) (N := 5) E.1 E.2.1 E.2.2.2.2.1 inX6 tyX6 tyX6_ok nmX6 E.2.2.2.1 E.2.2.2.2.2.1 hw.1 hw.2.1 hw.2.2 q0 he rfl 3 (by decide) (E.2.2.2.2.1 _ wq_129) (fun _ h => h) rfl (by decide +kernel) hn hfit hlen hdg (fun H1 l1 a1 a2 a3 => kk H1 l1 ⟨a1, a2, a3⟩)
theorem xg_X6_28 (E : xE p s m args c cc nL RX6 G A) (hw : xW G A s.heap ws H locs) (q0 : Nat) {fs : List Value} {v : Value} (he : ws[q0]? = some (a, .inr (6, fs))) (hv : fs[2]? = some v) (hdg : decode cc pc = .ok (.getfield 28, 3)) (kk : W p l e R s m args below meth c H locs cells slots Q (F0 m (pc + 3) ls (v :: rest))) : W p l e R s m args below meth c H locs cells slots Q (F0 m pc ls (.ref a :: rest)) := va_get (C := RX6) (T := TX6) (N := 5) E.1 E.2.1 E.2.2.2.2.1 inX6 E.2.2.2.1 E.2.2.2.2.2.1 hw.1 q0 he rfl 2 (by decide) (E.2.2.2.2.1 _ wq_128) (fun _ h => h) hv hdg kk
theorem xg_X6_31 (E : xE p s m args c cc nL RX6 G A) (hw : xW G A s.heap ws H locs) (q0 : Nat) {fs : List Value} {v : Value} (he : ws[q0]? = some (a, .inr (6, fs))) (hv : fs[3]? = some v) (hdg : decode cc pc = .ok (.getfield 31, 3)) (kk : W p l e R s m args below meth c H locs cells slots Q (F0 m (pc + 3) ls (v :: rest))) : W p l e R s m args below meth c H locs cells slots Q (F0 m pc ls (.ref a :: rest)) := va_get (C := RX6) (T := TX6) (N := 5) E.1 E.2.1 E.2.2.2.2.1 inX6 E.2.2.2.1 E.2.2.2.2.2.1 hw.1 q0 he rfl 3 (by decide) (E.2.2.2.2.1 _ wq_129) (fun _ h => h) hv hdg kk
theorem xg_X6_75 (E : xE p s m args c cc nL RX6 G A) (hw : xW G A s.heap ws H locs) (q0 : Nat) {fs : List Value} {v : Value} (he : ws[q0]? = some (a, .inr (0, fs))) (hv : fs[0]? = some v) (hdg : decode cc pc = .ok (.getfield 75, 3)) (kk : W p l e R s m args below meth c H locs cells slots Q (F0 m (pc + 3) ls (v :: rest))) : W p l e R s m args below meth c H locs cells slots Q (F0 m pc ls (.ref a :: rest)) := va_get (C := RX0) (T := TX0) (N := 7) E.1 E.2.1 E.2.2.2.2.1 inX0 E.2.2.2.1 E.2.2.2.2.2.1 hw.1 q0 he rfl 0 (by decide) (E.2.2.2.2.1 _ wq_152) (fun _ h => h) hv hdg kk
theorem xg_X6_80 (E : xE p s m args c cc nL RX6 G A) (hw : xW G A s.heap ws H locs) (q0 : Nat) {fs : List Value} {v : Value} (he : ws[q0]? = some (a, .inr (0, fs))) (hv : fs[1]? = some v) (hdg : decode cc pc = .ok (.getfield 80, 3)) (kk : W p l e R s m args below meth c H locs cells slots Q (F0 m (pc + 3) ls (v :: rest))) : W p l e R s m args below meth c H locs cells slots Q (F0 m pc ls (.ref a :: rest)) := va_get (C := RX0) (T := TX0) (N := 7) E.1 E.2.1 E.2.2.2.2.1 inX0 E.2.2.2.1 E.2.2.2.2.2.1 hw.1 q0 he rfl 1 (by decide) (E.2.2.2.2.1 _ wq_155) (fun _ h => h) hv hdg kk
theorem xp_X6_105 (E : xE p s m args c cc nL RX6 G A) (hw : xW G A s.heap ws H locs) (q0 : Nat) {fs : List Value} {v : Value} (he : ws[q0]? = some (a, .inr (6, fs))) (hn : narrow .int v = v) (hfit : fits .int v = true) (hlen : 4 < fs.length) (hnew : ws.set q0 (a, .inr (6, fs.set 4 v)) = ws') (hdg : decode cc pc = .ok (.putfield 105, 3)) (kk : ∀ (H1 : Heap) (locs1 : List Loc), xW G A s.heap ws' H1 locs1 → W p l e R s m args below meth c H1 locs1 cells slots Q (F0 m (pc + 3) ls rest)) : W p l e R s m args below meth c H locs cells slots Q (F0 m pc ls (v :: .ref a :: rest)) := by
  subst hnew
  exact va_put (C := RX6) (T := TX6) (N := 5) E.1 E.2.1 E.2.2.2.2.1 inX6 tyX6 tyX6_ok nmX6 E.2.2.2.1 E.2.2.2.2.2.1 hw.1 hw.2.1 hw.2.2 q0 he rfl 4 (by decide) (E.2.2.2.2.1 _ wq_130) (fun _ h => h) rfl (by decide +kernel) hn hfit hlen hdg (fun H1 l1 a1 a2 a3 => kk H1 l1 ⟨a1, a2, a3⟩)
theorem xg_X6_105 (E : xE p s m args c cc nL RX6 G A) (hw : xW G A s.heap ws H locs) (q0 : Nat) {fs : List Value} {v : Value} (he : ws[q0]? = some (a, .inr (6, fs))) (hv : fs[4]? = some v) (hdg : decode cc pc = .ok (.getfield 105, 3)) (kk : W p l e R s m args below meth c H locs cells slots Q (F0 m (pc + 3) ls (v :: rest))) : W p l e R s m args below meth c H locs cells slots Q (F0 m pc ls (.ref a :: rest)) := va_get (C := RX6) (T := TX6) (N := 5) E.1 E.2.1 E.2.2.2.2.1 inX6 E.2.2.2.1 E.2.2.2.2.2.1 hw.1 q0 he rfl 4 (by decide) (E.2.2.2.2.1 _ wq_130) (fun _ h => h) hv hdg kk
theorem xp_X6_49 (E : xE p s m args c cc nL RX6 G A) (hw : xW G A s.heap ws H locs) (q0 : Nat) {fs : List Value} {v : Value} (he : ws[q0]? = some (a, .inr (0, fs))) (hn : narrow .int v = v) (hfit : fits .int v = true) (hlen : 2 < fs.length) (hnew : ws.set q0 (a, .inr (0, fs.set 2 v)) = ws') (hdg : decode cc pc = .ok (.putfield 49, 3)) (kk : ∀ (H1 : Heap) (locs1 : List Loc), xW G A s.heap ws' H1 locs1 → W p l e R s m args below meth c H1 locs1 cells slots Q (F0 m (pc + 3) ls rest)) : W p l e R s m args below meth c H locs cells slots Q (F0 m pc ls (v :: .ref a :: rest)) := by
  subst hnew
  exact va_put (C := RX0) (T := TX0) (N := 7) E.1 E.2.1 E.2.2.2.2.1 inX0 tyX0 tyX0_ok nmX0 E.2.2.2.1 E.2.2.2.2.2.1 hw.1 hw.2.1 hw.2.2 q0 he rfl 2 (by decide) (E.2.2.2.2.1 _ wq_158) (fun _ h => h) rfl (by decide +kernel) hn hfit hlen hdg (fun H1 l1 a1 a2 a3 => kk H1 l1 ⟨a1, a2, a3⟩)
theorem xp_X6_52 (E : xE p s m args c cc nL RX6 G A) (hw : xW G A s.heap ws H locs) (q0 : Nat) {fs : List Value} {v : Value} (he : ws[q0]? = some (a, .inr (0, fs))) (hn : narrow .int v = v) (hfit : fits .int v = true) (hlen : 3 < fs.length) (hnew : ws.set q0 (a, .inr (0, fs.set 3 v)) = ws') (hdg : decode cc pc = .ok (.putfield 52, 3)) (kk : ∀ (H1 : Heap) (locs1 : List Loc), xW G A s.heap ws' H1 locs1 → W p l e R s m args below meth c H1 locs1 cells slots Q (F0 m (pc + 3) ls rest)) : W p l e R s m args below meth c H locs cells slots Q (F0 m pc ls (v :: .ref a :: rest)) := by
  subst hnew
  exact va_put (C := RX0) (T := TX0) (N := 7) E.1 E.2.1 E.2.2.2.2.1 inX0 tyX0 tyX0_ok nmX0 E.2.2.2.1 E.2.2.2.2.2.1 hw.1 hw.2.1 hw.2.2 q0 he rfl 3 (by decide) (E.2.2.2.2.1 _ wq_162) (fun _ h => h) rfl (by decide +kernel) hn hfit hlen hdg (fun H1 l1 a1 a2 a3 => kk H1 l1 ⟨a1, a2, a3⟩)
theorem xg_X0_28 (E : xE p s m args c cc nL RX0 G A) (hw : xW G A s.heap ws H locs) (q0 : Nat) {fs : List Value} {v : Value} (he : ws[q0]? = some (a, .inr (0, fs))) (hv : fs[0]? = some v) (hdg : decode cc pc = .ok (.getfield 28, 3)) (kk : W p l e R s m args below meth c H locs cells slots Q (F0 m (pc + 3) ls (v :: rest))) : W p l e R s m args below meth c H locs cells slots Q (F0 m pc ls (.ref a :: rest)) := va_get (C := RX0) (T := TX0) (N := 7) E.1 E.2.1 E.2.2.2.2.1 inX0 E.2.2.2.1 E.2.2.2.2.2.1 hw.1 q0 he rfl 0 (by decide) (E.2.2.2.2.1 _ wq_149) (fun _ h => h) hv hdg kk
theorem xg_X0_18 (E : xE p s m args c cc nL RX0 G A) (hw : xW G A s.heap ws H locs) (q0 : Nat) {fs : List Value} {v : Value} (he : ws[q0]? = some (a, .inr (0, fs))) (hv : fs[4]? = some v) (hdg : decode cc pc = .ok (.getfield 18, 3)) (kk : W p l e R s m args below meth c H locs cells slots Q (F0 m (pc + 3) ls (v :: rest))) : W p l e R s m args below meth c H locs cells slots Q (F0 m pc ls (.ref a :: rest)) := va_get (C := RX0) (T := TX0) (N := 7) E.1 E.2.1 E.2.2.2.2.1 inX0 E.2.2.2.1 E.2.2.2.2.2.1 hw.1 q0 he rfl 4 (by decide) (E.2.2.2.2.1 _ wq_164) (fun _ h => h) hv hdg kk
theorem xg_X0_22 (E : xE p s m args c cc nL RX0 G A) (hw : xW G A s.heap ws H locs) (q0 : Nat) {fs : List Value} {v : Value} (he : ws[q0]? = some (a, .inr (0, fs))) (hv : fs[5]? = some v) (hdg : decode cc pc = .ok (.getfield 22, 3)) (kk : W p l e R s m args below meth c H locs cells slots Q (F0 m (pc + 3) ls (v :: rest))) : W p l e R s m args below meth c H locs cells slots Q (F0 m pc ls (.ref a :: rest)) := va_get (C := RX0) (T := TX0) (N := 7) E.1 E.2.1 E.2.2.2.2.1 inX0 E.2.2.2.1 E.2.2.2.2.2.1 hw.1 q0 he rfl 5 (by decide) (E.2.2.2.2.1 _ wq_165) (fun _ h => h) hv hdg kk
theorem xg_X0_31 (E : xE p s m args c cc nL RX0 G A) (hw : xW G A s.heap ws H locs) (q0 : Nat) {fs : List Value} {v : Value} (he : ws[q0]? = some (a, .inr (0, fs))) (hv : fs[1]? = some v) (hdg : decode cc pc = .ok (.getfield 31, 3)) (kk : W p l e R s m args below meth c H locs cells slots Q (F0 m (pc + 3) ls (v :: rest))) : W p l e R s m args below meth c H locs cells slots Q (F0 m pc ls (.ref a :: rest)) := va_get (C := RX0) (T := TX0) (N := 7) E.1 E.2.1 E.2.2.2.2.1 inX0 E.2.2.2.1 E.2.2.2.2.2.1 hw.1 q0 he rfl 1 (by decide) (E.2.2.2.2.1 _ wq_153) (fun _ h => h) hv hdg kk
theorem xg_X0_25 (E : xE p s m args c cc nL RX0 G A) (hw : xW G A s.heap ws H locs) (q0 : Nat) {fs : List Value} {v : Value} (he : ws[q0]? = some (a, .inr (0, fs))) (hv : fs[6]? = some v) (hdg : decode cc pc = .ok (.getfield 25, 3)) (kk : W p l e R s m args below meth c H locs cells slots Q (F0 m (pc + 3) ls (v :: rest))) : W p l e R s m args below meth c H locs cells slots Q (F0 m pc ls (.ref a :: rest)) := va_get (C := RX0) (T := TX0) (N := 7) E.1 E.2.1 E.2.2.2.2.1 inX0 E.2.2.2.1 E.2.2.2.2.2.1 hw.1 q0 he rfl 6 (by decide) (E.2.2.2.2.1 _ wq_166) (fun _ h => h) hv hdg kk
theorem xg_X7_19 (E : xE p s m args c cc nL RX7 G A) (hw : xW G A s.heap ws H locs) (q0 : Nat) {fs : List Value} {v : Value} (he : ws[q0]? = some (a, .inr (7, fs))) (hv : fs[1]? = some v) (hdg : decode cc pc = .ok (.getfield 19, 3)) (kk : W p l e R s m args below meth c H locs cells slots Q (F0 m (pc + 3) ls (v :: rest))) : W p l e R s m args below meth c H locs cells slots Q (F0 m pc ls (.ref a :: rest)) := va_get (C := RX7) (T := TX7) (N := 8) E.1 E.2.1 E.2.2.2.2.1 inX7 E.2.2.2.1 E.2.2.2.2.2.1 hw.1 q0 he rfl 1 (by decide) (E.2.2.2.2.1 _ wq_343) (fun _ h => h) hv hdg kk
theorem xg_X0_9 (E : xE p s m args c cc nL RX0 G A) (hw : xW G A s.heap ws H locs) (q0 : Nat) {fs : List Value} {v : Value} (he : ws[q0]? = some (a, .inr (0, fs))) (hv : fs[2]? = some v) (hdg : decode cc pc = .ok (.getfield 9, 3)) (kk : W p l e R s m args below meth c H locs cells slots Q (F0 m (pc + 3) ls (v :: rest))) : W p l e R s m args below meth c H locs cells slots Q (F0 m pc ls (.ref a :: rest)) := va_get (C := RX0) (T := TX0) (N := 7) E.1 E.2.1 E.2.2.2.2.1 inX0 E.2.2.2.1 E.2.2.2.2.2.1 hw.1 q0 he rfl 2 (by decide) (E.2.2.2.2.1 _ wq_157) (fun _ h => h) hv hdg kk
theorem xg_X0_15 (E : xE p s m args c cc nL RX0 G A) (hw : xW G A s.heap ws H locs) (q0 : Nat) {fs : List Value} {v : Value} (he : ws[q0]? = some (a, .inr (0, fs))) (hv : fs[3]? = some v) (hdg : decode cc pc = .ok (.getfield 15, 3)) (kk : W p l e R s m args below meth c H locs cells slots Q (F0 m (pc + 3) ls (v :: rest))) : W p l e R s m args below meth c H locs cells slots Q (F0 m pc ls (.ref a :: rest)) := va_get (C := RX0) (T := TX0) (N := 7) E.1 E.2.1 E.2.2.2.2.1 inX0 E.2.2.2.1 E.2.2.2.2.2.1 hw.1 q0 he rfl 3 (by decide) (E.2.2.2.2.1 _ wq_160) (fun _ h => h) hv hdg kk
theorem xg_X7_29 (E : xE p s m args c cc nL RX7 G A) (hw : xW G A s.heap ws H locs) (q0 : Nat) {fs : List Value} {v : Value} (he : ws[q0]? = some (a, .inr (7, fs))) (hv : fs[3]? = some v) (hdg : decode cc pc = .ok (.getfield 29, 3)) (kk : W p l e R s m args below meth c H locs cells slots Q (F0 m (pc + 3) ls (v :: rest))) : W p l e R s m args below meth c H locs cells slots Q (F0 m pc ls (.ref a :: rest)) := va_get (C := RX7) (T := TX7) (N := 8) E.1 E.2.1 E.2.2.2.2.1 inX7 E.2.2.2.1 E.2.2.2.2.2.1 hw.1 q0 he rfl 3 (by decide) (E.2.2.2.2.1 _ wq_345) (fun _ h => h) hv hdg kk
theorem xp_X2_17 (E : xE p s m args c cc nL RX2 G A) (hw : xW G A s.heap ws H locs) (q0 : Nat) {fs : List Value} {v : Value} (he : ws[q0]? = some (a, .inr (2, fs))) (hn : narrow .int v = v) (hfit : fits .int v = true) (hlen : 1 < fs.length) (hnew : ws.set q0 (a, .inr (2, fs.set 1 v)) = ws') (hdg : decode cc pc = .ok (.putfield 17, 3)) (kk : ∀ (H1 : Heap) (locs1 : List Loc), xW G A s.heap ws' H1 locs1 → W p l e R s m args below meth c H1 locs1 cells slots Q (F0 m (pc + 3) ls rest)) : W p l e R s m args below meth c H locs cells slots Q (F0 m pc ls (v :: .ref a :: rest)) := by
  subst hnew
  exact va_put (C := RX2) (T := TX2) (N := 3) E.1 E.2.1 E.2.2.2.2.1 inX2 tyX2 tyX2_ok nmX2 E.2.2.2.1 E.2.2.2.2.2.1 hw.1 hw.2.1 hw.2.2 q0 he rfl 1 (by decide) (E.2.2.2.2.1 _ wq_190) (fun _ h => h) rfl (by decide +kernel) hn hfit hlen hdg (fun H1 l1 a1 a2 a3 => kk H1 l1 ⟨a1, a2, a3⟩)
theorem xg_X7_80 (E : xE p s m args c cc nL RX7 G A) (hw : xW G A s.heap ws H locs) (q0 : Nat) {fs : List Value} {v : Value} (he : ws[q0]? = some (a, .inr (0, fs))) (hv : fs[0]? = some v) (hdg : decode cc pc = .ok (.getfield 80, 3)) (kk : W p l e R s m args below meth c H locs cells slots Q (F0 m (pc + 3) ls (v :: rest))) : W p l e R s m args below meth c H locs cells slots Q (F0 m pc ls (.ref a :: rest)) := va_get (C := RX0) (T := TX0) (N := 7) E.1 E.2.1 E.2.2.2.2.1 inX0 E.2.2.2.1 E.2.2.2.2.2.1 hw.1 q0 he rfl 0 (by decide) (E.2.2.2.2.1 _ wq_151) (fun _ h => h) hv hdg kk
theorem xg_X2_11 (E : xE p s m args c cc nL RX2 G A) (hw : xW G A s.heap ws H locs) (q0 : Nat) {fs : List Value} {v : Value} (he : ws[q0]? = some (a, .inr (2, fs))) (hv : fs[0]? = some v) (hdg : decode cc pc = .ok (.getfield 11, 3)) (kk : W p l e R s m args below meth c H locs cells slots Q (F0 m (pc + 3) ls (v :: rest))) : W p l e R s m args below meth c H locs cells slots Q (F0 m pc ls (.ref a :: rest)) := va_get (C := RX2) (T := TX2) (N := 3) E.1 E.2.1 E.2.2.2.2.1 inX2 E.2.2.2.1 E.2.2.2.2.2.1 hw.1 q0 he rfl 0 (by decide) (E.2.2.2.2.1 _ wq_189) (fun _ h => h) hv hdg kk
theorem xg_X2_21 (E : xE p s m args c cc nL RX2 G A) (hw : xW G A s.heap ws H locs) (q0 : Nat) {fs : List Value} {v : Value} (he : ws[q0]? = some (a, .inr (2, fs))) (hv : fs[2]? = some v) (hdg : decode cc pc = .ok (.getfield 21, 3)) (kk : W p l e R s m args below meth c H locs cells slots Q (F0 m (pc + 3) ls (v :: rest))) : W p l e R s m args below meth c H locs cells slots Q (F0 m pc ls (.ref a :: rest)) := va_get (C := RX2) (T := TX2) (N := 3) E.1 E.2.1 E.2.2.2.2.1 inX2 E.2.2.2.1 E.2.2.2.2.2.1 hw.1 q0 he rfl 2 (by decide) (E.2.2.2.2.1 _ wq_191) (fun _ h => h) hv hdg kk
theorem xp_X2_21 (E : xE p s m args c cc nL RX2 G A) (hw : xW G A s.heap ws H locs) (q0 : Nat) {fs : List Value} {v : Value} (he : ws[q0]? = some (a, .inr (2, fs))) (hn : narrow .int v = v) (hfit : fits .int v = true) (hlen : 2 < fs.length) (hnew : ws.set q0 (a, .inr (2, fs.set 2 v)) = ws') (hdg : decode cc pc = .ok (.putfield 21, 3)) (kk : ∀ (H1 : Heap) (locs1 : List Loc), xW G A s.heap ws' H1 locs1 → W p l e R s m args below meth c H1 locs1 cells slots Q (F0 m (pc + 3) ls rest)) : W p l e R s m args below meth c H locs cells slots Q (F0 m pc ls (v :: .ref a :: rest)) := by
  subst hnew
  exact va_put (C := RX2) (T := TX2) (N := 3) E.1 E.2.1 E.2.2.2.2.1 inX2 tyX2 tyX2_ok nmX2 E.2.2.2.1 E.2.2.2.2.2.1 hw.1 hw.2.1 hw.2.2 q0 he rfl 2 (by decide) (E.2.2.2.2.1 _ wq_191) (fun _ h => h) rfl (by decide +kernel) hn hfit hlen hdg (fun H1 l1 a1 a2 a3 => kk H1 l1 ⟨a1, a2, a3⟩)
theorem xg_X2_17 (E : xE p s m args c cc nL RX2 G A) (hw : xW G A s.heap ws H locs) (q0 : Nat) {fs : List Value} {v : Value} (he : ws[q0]? = some (a, .inr (2, fs))) (hv : fs[1]? = some v) (hdg : decode cc pc = .ok (.getfield 17, 3)) (kk : W p l e R s m args below meth c H locs cells slots Q (F0 m (pc + 3) ls (v :: rest))) : W p l e R s m args below meth c H locs cells slots Q (F0 m pc ls (.ref a :: rest)) := va_get (C := RX2) (T := TX2) (N := 3) E.1 E.2.1 E.2.2.2.2.1 inX2 E.2.2.2.1 E.2.2.2.2.2.1 hw.1 q0 he rfl 1 (by decide) (E.2.2.2.2.1 _ wq_190) (fun _ h => h) hv hdg kk
theorem xg_X7_176 (E : xE p s m args c cc nL RX7 G A) (hw : xW G A s.heap ws H locs) (q0 : Nat) {fs : List Value} {v : Value} (he : ws[q0]? = some (a, .inr (0, fs))) (hv : fs[2]? = some v) (hdg : decode cc pc = .ok (.getfield 176, 3)) (kk : W p l e R s m args below meth c H locs cells slots Q (F0 m (pc + 3) ls (v :: rest))) : W p l e R s m args below meth c H locs cells slots Q (F0 m pc ls (.ref a :: rest)) := va_get (C := RX0) (T := TX0) (N := 7) E.1 E.2.1 E.2.2.2.2.1 inX0 E.2.2.2.1 E.2.2.2.2.2.1 hw.1 q0 he rfl 2 (by decide) (E.2.2.2.2.1 _ wq_159) (fun _ h => h) hv hdg kk
theorem xp_X7_176 (E : xE p s m args c cc nL RX7 G A) (hw : xW G A s.heap ws H locs) (q0 : Nat) {fs : List Value} {v : Value} (he : ws[q0]? = some (a, .inr (0, fs))) (hn : narrow .int v = v) (hfit : fits .int v = true) (hlen : 2 < fs.length) (hnew : ws.set q0 (a, .inr (0, fs.set 2 v)) = ws') (hdg : decode cc pc = .ok (.putfield 176, 3)) (kk : ∀ (H1 : Heap) (locs1 : List Loc), xW G A s.heap ws' H1 locs1 → W p l e R s m args below meth c H1 locs1 cells slots Q (F0 m (pc + 3) ls rest)) : W p l e R s m args below meth c H locs cells slots Q (F0 m pc ls (v :: .ref a :: rest)) := by
  subst hnew
  exact va_put (C := RX0) (T := TX0) (N := 7) E.1 E.2.1 E.2.2.2.2.1 inX0 tyX0 tyX0_ok nmX0 E.2.2.2.1 E.2.2.2.2.2.1 hw.1 hw.2.1 hw.2.2 q0 he rfl 2 (by decide) (E.2.2.2.2.1 _ wq_159) (fun _ h => h) rfl (by decide +kernel) hn hfit hlen hdg (fun H1 l1 a1 a2 a3 => kk H1 l1 ⟨a1, a2, a3⟩)
theorem xg_X7_179 (E : xE p s m args c cc nL RX7 G A) (hw : xW G A s.heap ws H locs) (q0 : Nat) {fs : List Value} {v : Value} (he : ws[q0]? = some (a, .inr (0, fs))) (hv : fs[3]? = some v) (hdg : decode cc pc = .ok (.getfield 179, 3)) (kk : W p l e R s m args below meth c H locs cells slots Q (F0 m (pc + 3) ls (v :: rest))) : W p l e R s m args below meth c H locs cells slots Q (F0 m pc ls (.ref a :: rest)) := va_get (C := RX0) (T := TX0) (N := 7) E.1 E.2.1 E.2.2.2.2.1 inX0 E.2.2.2.1 E.2.2.2.2.2.1 hw.1 q0 he rfl 3 (by decide) (E.2.2.2.2.1 _ wq_163) (fun _ h => h) hv hdg kk
theorem xp_X7_179 (E : xE p s m args c cc nL RX7 G A) (hw : xW G A s.heap ws H locs) (q0 : Nat) {fs : List Value} {v : Value} (he : ws[q0]? = some (a, .inr (0, fs))) (hn : narrow .int v = v) (hfit : fits .int v = true) (hlen : 3 < fs.length) (hnew : ws.set q0 (a, .inr (0, fs.set 3 v)) = ws') (hdg : decode cc pc = .ok (.putfield 179, 3)) (kk : ∀ (H1 : Heap) (locs1 : List Loc), xW G A s.heap ws' H1 locs1 → W p l e R s m args below meth c H1 locs1 cells slots Q (F0 m (pc + 3) ls rest)) : W p l e R s m args below meth c H locs cells slots Q (F0 m pc ls (v :: .ref a :: rest)) := by
  subst hnew
  exact va_put (C := RX0) (T := TX0) (N := 7) E.1 E.2.1 E.2.2.2.2.1 inX0 tyX0 tyX0_ok nmX0 E.2.2.2.1 E.2.2.2.2.2.1 hw.1 hw.2.1 hw.2.2 q0 he rfl 3 (by decide) (E.2.2.2.2.1 _ wq_163) (fun _ h => h) rfl (by decide +kernel) hn hfit hlen hdg (fun H1 l1 a1 a2 a3 => kk H1 l1 ⟨a1, a2, a3⟩)
theorem xg_X7_36 (E : xE p s m args c cc nL RX7 G A) (hw : xW G A s.heap ws H locs) (q0 : Nat) {fs : List Value} {v : Value} (he : ws[q0]? = some (a, .inr (7, fs))) (hv : fs[4]? = some v) (hdg : decode cc pc = .ok (.getfield 36, 3)) (kk : W p l e R s m args below meth c H locs cells slots Q (F0 m (pc + 3) ls (v :: rest))) : W p l e R s m args below meth c H locs cells slots Q (F0 m pc ls (.ref a :: rest)) := va_get (C := RX7) (T := TX7) (N := 8) E.1 E.2.1 E.2.2.2.2.1 inX7 E.2.2.2.1 E.2.2.2.2.2.1 hw.1 q0 he rfl 4 (by decide) (E.2.2.2.2.1 _ wq_346) (fun _ h => h) hv hdg kk
theorem xg_X1_53 (E : xE p s m args c cc nL RX1 G A) (hw : xW G A s.heap ws H locs) (q0 : Nat) {fs : List Value} {v : Value} (he : ws[q0]? = some (a, .inr (0, fs))) (hv : fs[0]? = some v) (hdg : decode cc pc = .ok (.getfield 53, 3)) (kk : W p l e R s m args below meth c H locs cells slots Q (F0 m (pc + 3) ls (v :: rest))) : W p l e R s m args below meth c H locs cells slots Q (F0 m pc ls (.ref a :: rest)) := va_get (C := RX0) (T := TX0) (N := 7) E.1 E.2.1 E.2.2.2.2.1 inX0 E.2.2.2.1 E.2.2.2.2.2.1 hw.1 q0 he rfl 0 (by decide) (E.2.2.2.2.1 _ wq_150) (fun _ h => h) hv hdg kk
theorem xp_X1_65 (E : xE p s m args c cc nL RX1 G A) (hw : xW G A s.heap ws H locs) (q0 : Nat) {fs : List Value} {v : Value} (he : ws[q0]? = some (a, .inr (1, fs))) (hn : narrow .int v = v) (hfit : fits .int v = true) (hlen : 0 < fs.length) (hnew : ws.set q0 (a, .inr (1, fs.set 0 v)) = ws') (hdg : decode cc pc = .ok (.putfield 65, 3)) (kk : ∀ (H1 : Heap) (locs1 : List Loc), xW G A s.heap ws' H1 locs1 → W p l e R s m args below meth c H1 locs1 cells slots Q (F0 m (pc + 3) ls rest)) : W p l e R s m args below meth c H locs cells slots Q (F0 m pc ls (v :: .ref a :: rest)) := by
  subst hnew
  exact va_put (C := RX1) (T := TX1) (N := 14) E.1 E.2.1 E.2.2.2.2.1 inX1 tyX1 tyX1_ok nmX1 E.2.2.2.1 E.2.2.2.2.2.1 hw.1 hw.2.1 hw.2.2 q0 he rfl 0 (by decide) (E.2.2.2.2.1 _ wq_281) (fun _ h => h) rfl (by decide +kernel) hn hfit hlen hdg (fun H1 l1 a1 a2 a3 => kk H1 l1 ⟨a1, a2, a3⟩)
theorem xg_X1_15 (E : xE p s m args c cc nL RX1 G A) (hw : xW G A s.heap ws H locs) (q0 : Nat) {fs : List Value} {v : Value} (he : ws[q0]? = some (a, .inr (1, fs))) (hv : fs[4]? = some v) (hdg : decode cc pc = .ok (.getfield 15, 3)) (kk : W p l e R s m args below meth c H locs cells slots Q (F0 m (pc + 3) ls (v :: rest))) : W p l e R s m args below meth c H locs cells slots Q (F0 m pc ls (.ref a :: rest)) := va_get (C := RX1) (T := TX1) (N := 14) E.1 E.2.1 E.2.2.2.2.1 inX1 E.2.2.2.1 E.2.2.2.2.2.1 hw.1 q0 he rfl 4 (by decide) (E.2.2.2.2.1 _ wq_285) (fun _ h => h) hv hdg kk
theorem xg_X1_107 (E : xE p s m args c cc nL RX1 G A) (hw : xW G A s.heap ws H locs) (q0 : Nat) {fs : List Value} {v : Value} (he : ws[q0]? = some (a, .inr (0, fs))) (hv : fs[1]? = some v) (hdg : decode cc pc = .ok (.getfield 107, 3)) (kk : W p l e R s m args below meth c H locs cells slots Q (F0 m (pc + 3) ls (v :: rest))) : W p l e R s m args below meth c H locs cells slots Q (F0 m pc ls (.ref a :: rest)) := va_get (C := RX0) (T := TX0) (N := 7) E.1 E.2.1 E.2.2.2.2.1 inX0 E.2.2.2.1 E.2.2.2.2.2.1 hw.1 q0 he rfl 1 (by decide) (E.2.2.2.2.1 _ wq_154) (fun _ h => h) hv hdg kk
theorem xg_X1_33 (E : xE p s m args c cc nL RX1 G A) (hw : xW G A s.heap ws H locs) (q0 : Nat) {fs : List Value} {v : Value} (he : ws[q0]? = some (a, .inr (1, fs))) (hv : fs[9]? = some v) (hdg : decode cc pc = .ok (.getfield 33, 3)) (kk : W p l e R s m args below meth c H locs cells slots Q (F0 m (pc + 3) ls (v :: rest))) : W p l e R s m args below meth c H locs cells slots Q (F0 m pc ls (.ref a :: rest)) := va_get (C := RX1) (T := TX1) (N := 14) E.1 E.2.1 E.2.2.2.2.1 inX1 E.2.2.2.1 E.2.2.2.2.2.1 hw.1 q0 he rfl 9 (by decide) (E.2.2.2.2.1 _ wq_290) (fun _ h => h) hv hdg kk
theorem xp_X4_18 (E : xE p s m args c cc nL RX4 G A) (hw : xW G A s.heap ws H locs) (q0 : Nat) {fs : List Value} {v : Value} (he : ws[q0]? = some (a, .inr (4, fs))) (hn : narrow .int v = v) (hfit : fits .int v = true) (hlen : 0 < fs.length) (hnew : ws.set q0 (a, .inr (4, fs.set 0 v)) = ws') (hdg : decode cc pc = .ok (.putfield 18, 3)) (kk : ∀ (H1 : Heap) (locs1 : List Loc), xW G A s.heap ws' H1 locs1 → W p l e R s m args below meth c H1 locs1 cells slots Q (F0 m (pc + 3) ls rest)) : W p l e R s m args below meth c H locs cells slots Q (F0 m pc ls (v :: .ref a :: rest)) := by
  subst hnew
  exact va_put (C := RX4) (T := TX4) (N := 15) E.1 E.2.1 E.2.2.2.2.1 inX4 tyX4 tyX4_ok nmX4 E.2.2.2.1 E.2.2.2.2.2.1 hw.1 hw.2.1 hw.2.2 q0 he rfl 0 (by decide) (E.2.2.2.2.1 _ wq_228) (fun _ h => h) rfl (by decide +kernel) hn hfit hlen hdg (fun H1 l1 a1 a2 a3 => kk H1 l1 ⟨a1, a2, a3⟩)
theorem xp_X4_22 (E : xE p s m args c cc nL RX4 G A) (hw : xW G A s.heap ws H locs) (q0 : Nat) {fs : List Value} {v : Value} (he : ws[q0]? = some (a, .inr (4, fs))) (hn : narrow .int v = v) (hfit : fits .int v = true) (hlen : 1 < fs.length) (hnew : ws.set q0 (a, .inr (4, fs.set 1 v)) = ws') (hdg : decode cc pc = .ok (.putfield 22, 3)) (kk : ∀ (H1 : Heap) (locs1 : List Loc), xW G A s.heap ws' H1 locs1 → W p l e R s m args below meth c H1 locs1 cells slots Q (F0 m (pc + 3) ls rest)) : W p l e R s m args below meth c H locs cells slots Q (F0 m pc ls (v :: .ref a :: rest)) := by
  subst hnew
  exact va_put (C := RX4) (T := TX4) (N := 15) E.1 E.2.1 E.2.2.2.2.1 inX4 tyX4 tyX4_ok nmX4 E.2.2.2.1 E.2.2.2.2.2.1 hw.1 hw.2.1 hw.2.2 q0 he rfl 1 (by decide) (E.2.2.2.2.1 _ wq_230) (fun _ h => h) rfl (by decide +kernel) hn hfit hlen hdg (fun H1 l1 a1 a2 a3 => kk H1 l1 ⟨a1, a2, a3⟩)
theorem xp_X4_25 (E : xE p s m args c cc nL RX4 G A) (hw : xW G A s.heap ws H locs) (q0 : Nat) {fs : List Value} {v : Value} (he : ws[q0]? = some (a, .inr (4, fs))) (hn : narrow .int v = v) (hfit : fits .int v = true) (hlen : 2 < fs.length) (hnew : ws.set q0 (a, .inr (4, fs.set 2 v)) = ws') (hdg : decode cc pc = .ok (.putfield 25, 3)) (kk : ∀ (H1 : Heap) (locs1 : List Loc), xW G A s.heap ws' H1 locs1 → W p l e R s m args below meth c H1 locs1 cells slots Q (F0 m (pc + 3) ls rest)) : W p l e R s m args below meth c H locs cells slots Q (F0 m pc ls (v :: .ref a :: rest)) := by
  subst hnew
  exact va_put (C := RX4) (T := TX4) (N := 15) E.1 E.2.1 E.2.2.2.2.1 inX4 tyX4 tyX4_ok nmX4 E.2.2.2.1 E.2.2.2.2.2.1 hw.1 hw.2.1 hw.2.2 q0 he rfl 2 (by decide) (E.2.2.2.2.1 _ wq_232) (fun _ h => h) rfl (by decide +kernel) hn hfit hlen hdg (fun H1 l1 a1 a2 a3 => kk H1 l1 ⟨a1, a2, a3⟩)
theorem xp_X4_28 (E : xE p s m args c cc nL RX4 G A) (hw : xW G A s.heap ws H locs) (q0 : Nat) {fs : List Value} {v : Value} (he : ws[q0]? = some (a, .inr (4, fs))) (hn : narrow .int v = v) (hfit : fits .int v = true) (hlen : 3 < fs.length) (hnew : ws.set q0 (a, .inr (4, fs.set 3 v)) = ws') (hdg : decode cc pc = .ok (.putfield 28, 3)) (kk : ∀ (H1 : Heap) (locs1 : List Loc), xW G A s.heap ws' H1 locs1 → W p l e R s m args below meth c H1 locs1 cells slots Q (F0 m (pc + 3) ls rest)) : W p l e R s m args below meth c H locs cells slots Q (F0 m pc ls (v :: .ref a :: rest)) := by
  subst hnew
  exact va_put (C := RX4) (T := TX4) (N := 15) E.1 E.2.1 E.2.2.2.2.1 inX4 tyX4 tyX4_ok nmX4 E.2.2.2.1 E.2.2.2.2.2.1 hw.1 hw.2.1 hw.2.2 q0 he rfl 3 (by decide) (E.2.2.2.2.1 _ wq_234) (fun _ h => h) rfl (by decide +kernel) hn hfit hlen hdg (fun H1 l1 a1 a2 a3 => kk H1 l1 ⟨a1, a2, a3⟩)
theorem xp_X4_31 (E : xE p s m args c cc nL RX4 G A) (hw : xW G A s.heap ws H locs) (q0 : Nat) {fs : List Value} {v : Value} (he : ws[q0]? = some (a, .inr (4, fs))) (hn : narrow .long v = v) (hfit : fits .long v = true) (hlen : 5 < fs.length) (hnew : ws.set q0 (a, .inr (4, fs.set 5 v)) = ws') (hdg : decode cc pc = .ok (.putfield 31, 3)) (kk : ∀ (H1 : Heap) (locs1 : List Loc), xW G A s.heap ws' H1 locs1 → W p l e R s m args below meth c H1 locs1 cells slots Q (F0 m (pc + 3) ls rest)) : W p l e R s m args below meth c H locs cells slots Q (F0 m pc ls (v :: .ref a :: rest)) := by
  subst hnew
  exact va_put (C := RX4) (T := TX4) (N := 15) E.1 E.2.1 E.2.2.2.2.1 inX4 tyX4 tyX4_ok nmX4 E.2.2.2.1 E.2.2.2.2.2.1 hw.1 hw.2.1 hw.2.2 q0 he rfl 5 (by decide) (E.2.2.2.2.1 _ wq_238) (fun _ h => h) rfl (by decide +kernel) hn hfit hlen hdg (fun H1 l1 a1 a2 a3 => kk H1 l1 ⟨a1, a2, a3⟩)
theorem xp_X4_35 (E : xE p s m args c cc nL RX4 G A) (hw : xW G A s.heap ws H locs) (q0 : Nat) {fs : List Value} {v : Value} (he : ws[q0]? = some (a, .inr (4, fs))) (hn : narrow .long v = v) (hfit : fits .long v = true) (hlen : 6 < fs.length) (hnew : ws.set q0 (a, .inr (4, fs.set 6 v)) = ws') (hdg : decode cc pc = .ok (.putfield 35, 3)) (kk : ∀ (H1 : Heap) (locs1 : List Loc), xW G A s.heap ws' H1 locs1 → W p l e R s m args below meth c H1 locs1 cells slots Q (F0 m (pc + 3) ls rest)) : W p l e R s m args below meth c H locs cells slots Q (F0 m pc ls (v :: .ref a :: rest)) := by
  subst hnew
  exact va_put (C := RX4) (T := TX4) (N := 15) E.1 E.2.1 E.2.2.2.2.1 inX4 tyX4 tyX4_ok nmX4 E.2.2.2.1 E.2.2.2.2.2.1 hw.1 hw.2.1 hw.2.2 q0 he rfl 6 (by decide) (E.2.2.2.2.1 _ wq_239) (fun _ h => h) rfl (by decide +kernel) hn hfit hlen hdg (fun H1 l1 a1 a2 a3 => kk H1 l1 ⟨a1, a2, a3⟩)
theorem xp_X4_38 (E : xE p s m args c cc nL RX4 G A) (hw : xW G A s.heap ws H locs) (q0 : Nat) {fs : List Value} {v : Value} (he : ws[q0]? = some (a, .inr (4, fs))) (hn : narrow .long v = v) (hfit : fits .long v = true) (hlen : 7 < fs.length) (hnew : ws.set q0 (a, .inr (4, fs.set 7 v)) = ws') (hdg : decode cc pc = .ok (.putfield 38, 3)) (kk : ∀ (H1 : Heap) (locs1 : List Loc), xW G A s.heap ws' H1 locs1 → W p l e R s m args below meth c H1 locs1 cells slots Q (F0 m (pc + 3) ls rest)) : W p l e R s m args below meth c H locs cells slots Q (F0 m pc ls (v :: .ref a :: rest)) := by
  subst hnew
  exact va_put (C := RX4) (T := TX4) (N := 15) E.1 E.2.1 E.2.2.2.2.1 inX4 tyX4 tyX4_ok nmX4 E.2.2.2.1 E.2.2.2.2.2.1 hw.1 hw.2.1 hw.2.2 q0 he rfl 7 (by decide) (E.2.2.2.2.1 _ wq_240) (fun _ h => h) rfl (by decide +kernel) hn hfit hlen hdg (fun H1 l1 a1 a2 a3 => kk H1 l1 ⟨a1, a2, a3⟩)
theorem xp_X4_41 (E : xE p s m args c cc nL RX4 G A) (hw : xW G A s.heap ws H locs) (q0 : Nat) {fs : List Value} {v : Value} (he : ws[q0]? = some (a, .inr (4, fs))) (hn : narrow .long v = v) (hfit : fits .long v = true) (hlen : 12 < fs.length) (hnew : ws.set q0 (a, .inr (4, fs.set 12 v)) = ws') (hdg : decode cc pc = .ok (.putfield 41, 3)) (kk : ∀ (H1 : Heap) (locs1 : List Loc), xW G A s.heap ws' H1 locs1 → W p l e R s m args below meth c H1 locs1 cells slots Q (F0 m (pc + 3) ls rest)) : W p l e R s m args below meth c H locs cells slots Q (F0 m pc ls (v :: .ref a :: rest)) := by
  subst hnew
  exact va_put (C := RX4) (T := TX4) (N := 15) E.1 E.2.1 E.2.2.2.2.1 inX4 tyX4 tyX4_ok nmX4 E.2.2.2.1 E.2.2.2.2.2.1 hw.1 hw.2.1 hw.2.2 q0 he rfl 12 (by decide) (E.2.2.2.2.1 _ wq_245) (fun _ h => h) rfl (by decide +kernel) hn hfit hlen hdg (fun H1 l1 a1 a2 a3 => kk H1 l1 ⟨a1, a2, a3⟩)
theorem xp_X4_44 (E : xE p s m args c cc nL RX4 G A) (hw : xW G A s.heap ws H locs) (q0 : Nat) {fs : List Value} {v : Value} (he : ws[q0]? = some (a, .inr (4, fs))) (hn : narrow .long v = v) (hfit : fits .long v = true) (hlen : 13 < fs.length) (hnew : ws.set q0 (a, .inr (4, fs.set 13 v)) = ws') (hdg : decode cc pc = .ok (.putfield 44, 3)) (kk : ∀ (H1 : Heap) (locs1 : List Loc), xW G A s.heap ws' H1 locs1 → W p l e R s m args below meth c H1 locs1 cells slots Q (F0 m (pc + 3) ls rest)) : W p l e R s m args below meth c H locs cells slots Q (F0 m pc ls (v :: .ref a :: rest)) := by
  subst hnew
  exact va_put (C := RX4) (T := TX4) (N := 15) E.1 E.2.1 E.2.2.2.2.1 inX4 tyX4 tyX4_ok nmX4 E.2.2.2.1 E.2.2.2.2.2.1 hw.1 hw.2.1 hw.2.2 q0 he rfl 13 (by decide) (E.2.2.2.2.1 _ wq_246) (fun _ h => h) rfl (by decide +kernel) hn hfit hlen hdg (fun H1 l1 a1 a2 a3 => kk H1 l1 ⟨a1, a2, a3⟩)
theorem xp_X4_47 (E : xE p s m args c cc nL RX4 G A) (hw : xW G A s.heap ws H locs) (q0 : Nat) {fs : List Value} {v : Value} (he : ws[q0]? = some (a, .inr (4, fs))) (hn : narrow .long v = v) (hfit : fits .long v = true) (hlen : 14 < fs.length) (hnew : ws.set q0 (a, .inr (4, fs.set 14 v)) = ws') (hdg : decode cc pc = .ok (.putfield 47, 3)) (kk : ∀ (H1 : Heap) (locs1 : List Loc), xW G A s.heap ws' H1 locs1 → W p l e R s m args below meth c H1 locs1 cells slots Q (F0 m (pc + 3) ls rest)) : W p l e R s m args below meth c H locs cells slots Q (F0 m pc ls (v :: .ref a :: rest)) := by
  subst hnew
  exact va_put (C := RX4) (T := TX4) (N := 15) E.1 E.2.1 E.2.2.2.2.1 inX4 tyX4 tyX4_ok nmX4 E.2.2.2.1 E.2.2.2.2.2.1 hw.1 hw.2.1 hw.2.2 q0 he rfl 14 (by decide) (E.2.2.2.2.1 _ wq_247) (fun _ h => h) rfl (by decide +kernel) hn hfit hlen hdg (fun H1 l1 a1 a2 a3 => kk H1 l1 ⟨a1, a2, a3⟩)
theorem xg_X1_37 (E : xE p s m args c cc nL RX1 G A) (hw : xW G A s.heap ws H locs) (q0 : Nat) {fs : List Value} {v : Value} (he : ws[q0]? = some (a, .inr (1, fs))) (hv : fs[10]? = some v) (hdg : decode cc pc = .ok (.getfield 37, 3)) (kk : W p l e R s m args below meth c H locs cells slots Q (F0 m (pc + 3) ls (v :: rest))) : W p l e R s m args below meth c H locs cells slots Q (F0 m pc ls (.ref a :: rest)) := va_get (C := RX1) (T := TX1) (N := 14) E.1 E.2.1 E.2.2.2.2.1 inX1 E.2.2.2.1 E.2.2.2.2.2.1 hw.1 q0 he rfl 10 (by decide) (E.2.2.2.2.1 _ wq_291) (fun _ h => h) hv hdg kk
theorem xg_X1_40 (E : xE p s m args c cc nL RX1 G A) (hw : xW G A s.heap ws H locs) (q0 : Nat) {fs : List Value} {v : Value} (he : ws[q0]? = some (a, .inr (1, fs))) (hv : fs[11]? = some v) (hdg : decode cc pc = .ok (.getfield 40, 3)) (kk : W p l e R s m args below meth c H locs cells slots Q (F0 m (pc + 3) ls (v :: rest))) : W p l e R s m args below meth c H locs cells slots Q (F0 m pc ls (.ref a :: rest)) := va_get (C := RX1) (T := TX1) (N := 14) E.1 E.2.1 E.2.2.2.2.1 inX1 E.2.2.2.1 E.2.2.2.2.2.1 hw.1 q0 he rfl 11 (by decide) (E.2.2.2.2.1 _ wq_292) (fun _ h => h) hv hdg kk
theorem xp_X1_73 (E : xE p s m args c cc nL RX1 G A) (hw : xW G A s.heap ws H locs) (q0 : Nat) {fs : List Value} {v : Value} (he : ws[q0]? = some (a, .inr (1, fs))) (hn : narrow .int v = v) (hfit : fits .int v = true) (hlen : 1 < fs.length) (hnew : ws.set q0 (a, .inr (1, fs.set 1 v)) = ws') (hdg : decode cc pc = .ok (.putfield 73, 3)) (kk : ∀ (H1 : Heap) (locs1 : List Loc), xW G A s.heap ws' H1 locs1 → W p l e R s m args below meth c H1 locs1 cells slots Q (F0 m (pc + 3) ls rest)) : W p l e R s m args below meth c H locs cells slots Q (F0 m pc ls (v :: .ref a :: rest)) := by
  subst hnew
  exact va_put (C := RX1) (T := TX1) (N := 14) E.1 E.2.1 E.2.2.2.2.1 inX1 tyX1 tyX1_ok nmX1 E.2.2.2.1 E.2.2.2.2.2.1 hw.1 hw.2.1 hw.2.2 q0 he rfl 1 (by decide) (E.2.2.2.2.1 _ wq_282) (fun _ h => h) rfl (by decide +kernel) hn hfit hlen hdg (fun H1 l1 a1 a2 a3 => kk H1 l1 ⟨a1, a2, a3⟩)
theorem xp_X1_76 (E : xE p s m args c cc nL RX1 G A) (hw : xW G A s.heap ws H locs) (q0 : Nat) {fs : List Value} {v : Value} (he : ws[q0]? = some (a, .inr (1, fs))) (hn : narrow .int v = v) (hfit : fits .int v = true) (hlen : 2 < fs.length) (hnew : ws.set q0 (a, .inr (1, fs.set 2 v)) = ws') (hdg : decode cc pc = .ok (.putfield 76, 3)) (kk : ∀ (H1 : Heap) (locs1 : List Loc), xW G A s.heap ws' H1 locs1 → W p l e R s m args below meth c H1 locs1 cells slots Q (F0 m (pc + 3) ls rest)) : W p l e R s m args below meth c H locs cells slots Q (F0 m pc ls (v :: .ref a :: rest)) := by
  subst hnew
  exact va_put (C := RX1) (T := TX1) (N := 14) E.1 E.2.1 E.2.2.2.2.1 inX1 tyX1 tyX1_ok nmX1 E.2.2.2.1 E.2.2.2.2.2.1 hw.1 hw.2.1 hw.2.2 q0 he rfl 2 (by decide) (E.2.2.2.2.1 _ wq_283) (fun _ h => h) rfl (by decide +kernel) hn hfit hlen hdg (fun H1 l1 a1 a2 a3 => kk H1 l1 ⟨a1, a2, a3⟩)
theorem xg_X1_65 (E : xE p s m args c cc nL RX1 G A) (hw : xW G A s.heap ws H locs) (q0 : Nat) {fs : List Value} {v : Value} (he : ws[q0]? = some (a, .inr (1, fs))) (hv : fs[0]? = some v) (hdg : decode cc pc = .ok (.getfield 65, 3)) (kk : W p l e R s m args below meth c H locs cells slots Q (F0 m (pc + 3) ls (v :: rest))) : W p l e R s m args below meth c H locs cells slots Q (F0 m pc ls (.ref a :: rest)) := va_get (C := RX1) (T := TX1) (N := 14) E.1 E.2.1 E.2.2.2.2.1 inX1 E.2.2.2.1 E.2.2.2.2.2.1 hw.1 q0 he rfl 0 (by decide) (E.2.2.2.2.1 _ wq_281) (fun _ h => h) hv hdg kk
theorem xg_X4_22 (E : xE p s m args c cc nL RX4 G A) (hw : xW G A s.heap ws H locs) (q0 : Nat) {fs : List Value} {v : Value} (he : ws[q0]? = some (a, .inr (4, fs))) (hv : fs[1]? = some v) (hdg : decode cc pc = .ok (.getfield 22, 3)) (kk : W p l e R s m args below meth c H locs cells slots Q (F0 m (pc + 3) ls (v :: rest))) : W p l e R s m args below meth c H locs cells slots Q (F0 m pc ls (.ref a :: rest)) := va_get (C := RX4) (T := TX4) (N := 15) E.1 E.2.1 E.2.2.2.2.1 inX4 E.2.2.2.1 E.2.2.2.2.2.1 hw.1 q0 he rfl 1 (by decide) (E.2.2.2.2.1 _ wq_230) (fun _ h => h) hv hdg kk
theorem xg_X4_18 (E : xE p s m args c cc nL RX4 G A) (hw : xW G A s.heap ws H locs) (q0 : Nat) {fs : List Value} {v : Value} (he : ws[q0]? = some (a, .inr (4, fs))) (hv : fs[0]? = some v) (hdg : decode cc pc = .ok (.getfield 18, 3)) (kk : W p l e R s m args below meth c H locs cells slots Q (F0 m (pc + 3) ls (v :: rest))) : W p l e R s m args below meth c H locs cells slots Q (F0 m pc ls (.ref a :: rest)) := va_get (C := RX4) (T := TX4) (N := 15) E.1 E.2.1 E.2.2.2.2.1 inX4 E.2.2.2.1 E.2.2.2.2.2.1 hw.1 q0 he rfl 0 (by decide) (E.2.2.2.2.1 _ wq_228) (fun _ h => h) hv hdg kk
theorem xp_X4_52 (E : xE p s m args c cc nL RX4 G A) (hw : xW G A s.heap ws H locs) (q0 : Nat) {fs : List Value} {v : Value} (he : ws[q0]? = some (a, .inr (4, fs))) (hn : narrow .long v = v) (hfit : fits .long v = true) (hlen : 8 < fs.length) (hnew : ws.set q0 (a, .inr (4, fs.set 8 v)) = ws') (hdg : decode cc pc = .ok (.putfield 52, 3)) (kk : ∀ (H1 : Heap) (locs1 : List Loc), xW G A s.heap ws' H1 locs1 → W p l e R s m args below meth c H1 locs1 cells slots Q (F0 m (pc + 3) ls rest)) : W p l e R s m args below meth c H locs cells slots Q (F0 m pc ls (v :: .ref a :: rest)) := by
  subst hnew
  exact va_put (C := RX4) (T := TX4) (N := 15) E.1 E.2.1 E.2.2.2.2.1 inX4 tyX4 tyX4_ok nmX4 E.2.2.2.1 E.2.2.2.2.2.1 hw.1 hw.2.1 hw.2.2 q0 he rfl 8 (by decide) (E.2.2.2.2.1 _ wq_241) (fun _ h => h) rfl (by decide +kernel) hn hfit hlen hdg (fun H1 l1 a1 a2 a3 => kk H1 l1 ⟨a1, a2, a3⟩)
theorem xg_X4_31 (E : xE p s m args c cc nL RX4 G A) (hw : xW G A s.heap ws H locs) (q0 : Nat) {fs : List Value} {v : Value} (he : ws[q0]? = some (a, .inr (4, fs))) (hv : fs[5]? = some v) (hdg : decode cc pc = .ok (.getfield 31, 3)) (kk : W p l e R s m args below meth c H locs cells slots Q (F0 m (pc + 3) ls (v :: rest))) : W p l e R s m args below meth c H locs cells slots Q (F0 m pc ls (.ref a :: rest)) := va_get (C := RX4) (T := TX4) (N := 15) E.1 E.2.1 E.2.2.2.2.1 inX4 E.2.2.2.1 E.2.2.2.2.2.1 hw.1 q0 he rfl 5 (by decide) (E.2.2.2.2.1 _ wq_238) (fun _ h => h) hv hdg kk
theorem xp_X4_55 (E : xE p s m args c cc nL RX4 G A) (hw : xW G A s.heap ws H locs) (q0 : Nat) {fs : List Value} {v : Value} (he : ws[q0]? = some (a, .inr (4, fs))) (hn : narrow .long v = v) (hfit : fits .long v = true) (hlen : 9 < fs.length) (hnew : ws.set q0 (a, .inr (4, fs.set 9 v)) = ws') (hdg : decode cc pc = .ok (.putfield 55, 3)) (kk : ∀ (H1 : Heap) (locs1 : List Loc), xW G A s.heap ws' H1 locs1 → W p l e R s m args below meth c H1 locs1 cells slots Q (F0 m (pc + 3) ls rest)) : W p l e R s m args below meth c H locs cells slots Q (F0 m pc ls (v :: .ref a :: rest)) := by
  subst hnew
  exact va_put (C := RX4) (T := TX4) (N := 15) E.1 E.2.1 E.2.2.2.2.1 inX4 tyX4 tyX4_ok nmX4 E.2.2.2.1 E.2.2.2.2.2.1 hw.1 hw.2.1 hw.2.2 q0 he rfl 9 (by decide) (E.2.2.2.2.1 _ wq_242) (fun _ h => h) rfl (by decide +kernel) hn hfit hlen hdg (fun H1 l1 a1 a2 a3 => kk H1 l1 ⟨a1, a2, a3⟩)
theorem xg_X4_35 (E : xE p s m args c cc nL RX4 G A) (hw : xW G A s.heap ws H locs) (q0 : Nat) {fs : List Value} {v : Value} (he : ws[q0]? = some (a, .inr (4, fs))) (hv : fs[6]? = some v) (hdg : decode cc pc = .ok (.getfield 35, 3)) (kk : W p l e R s m args below meth c H locs cells slots Q (F0 m (pc + 3) ls (v :: rest))) : W p l e R s m args below meth c H locs cells slots Q (F0 m pc ls (.ref a :: rest)) := va_get (C := RX4) (T := TX4) (N := 15) E.1 E.2.1 E.2.2.2.2.1 inX4 E.2.2.2.1 E.2.2.2.2.2.1 hw.1 q0 he rfl 6 (by decide) (E.2.2.2.2.1 _ wq_239) (fun _ h => h) hv hdg kk
theorem xg_X4_38 (E : xE p s m args c cc nL RX4 G A) (hw : xW G A s.heap ws H locs) (q0 : Nat) {fs : List Value} {v : Value} (he : ws[q0]? = some (a, .inr (4, fs))) (hv : fs[7]? = some v) (hdg : decode cc pc = .ok (.getfield 38, 3)) (kk : W p l e R s m args below meth c H locs cells slots Q (F0 m (pc + 3) ls (v :: rest))) : W p l e R s m args below meth c H locs cells slots Q (F0 m pc ls (.ref a :: rest)) := va_get (C := RX4) (T := TX4) (N := 15) E.1 E.2.1 E.2.2.2.2.1 inX4 E.2.2.2.1 E.2.2.2.2.2.1 hw.1 q0 he rfl 7 (by decide) (E.2.2.2.2.1 _ wq_240) (fun _ h => h) hv hdg kk
theorem xp_X4_58 (E : xE p s m args c cc nL RX4 G A) (hw : xW G A s.heap ws H locs) (q0 : Nat) {fs : List Value} {v : Value} (he : ws[q0]? = some (a, .inr (4, fs))) (hn : narrow .long v = v) (hfit : fits .long v = true) (hlen : 10 < fs.length) (hnew : ws.set q0 (a, .inr (4, fs.set 10 v)) = ws') (hdg : decode cc pc = .ok (.putfield 58, 3)) (kk : ∀ (H1 : Heap) (locs1 : List Loc), xW G A s.heap ws' H1 locs1 → W p l e R s m args below meth c H1 locs1 cells slots Q (F0 m (pc + 3) ls rest)) : W p l e R s m args below meth c H locs cells slots Q (F0 m pc ls (v :: .ref a :: rest)) := by
  subst hnew
  exact va_put (C := RX4) (T := TX4) (N := 15) E.1 E.2.1 E.2.2.2.2.1 inX4 tyX4 tyX4_ok nmX4 E.2.2.2.1 E.2.2.2.2.2.1 hw.1 hw.2.1 hw.2.2 q0 he rfl 10 (by decide) (E.2.2.2.2.1 _ wq_243) (fun _ h => h) rfl (by decide +kernel) hn hfit hlen hdg (fun H1 l1 a1 a2 a3 => kk H1 l1 ⟨a1, a2, a3⟩)
theorem xp_X4_61 (E : xE p s m args c cc nL RX4 G A) (hw : xW G A s.heap ws H locs) (q0 : Nat) {fs : List Value} {v : Value} (he : ws[q0]? = some (a, .inr (4, fs))) (hn : narrow .long v = v) (hfit : fits .long v = true) (hlen : 11 < fs.length) (hnew : ws.set q0 (a, .inr (4, fs.set 11 v)) = ws') (hdg : decode cc pc = .ok (.putfield 61, 3)) (kk : ∀ (H1 : Heap) (locs1 : List Loc), xW G A s.heap ws' H1 locs1 → W p l e R s m args below meth c H1 locs1 cells slots Q (F0 m (pc + 3) ls rest)) : W p l e R s m args below meth c H locs cells slots Q (F0 m pc ls (v :: .ref a :: rest)) := by
  subst hnew
  exact va_put (C := RX4) (T := TX4) (N := 15) E.1 E.2.1 E.2.2.2.2.1 inX4 tyX4 tyX4_ok nmX4 E.2.2.2.1 E.2.2.2.2.2.1 hw.1 hw.2.1 hw.2.2 q0 he rfl 11 (by decide) (E.2.2.2.2.1 _ wq_244) (fun _ h => h) rfl (by decide +kernel) hn hfit hlen hdg (fun H1 l1 a1 a2 a3 => kk H1 l1 ⟨a1, a2, a3⟩)
theorem xg_X4_52 (E : xE p s m args c cc nL RX4 G A) (hw : xW G A s.heap ws H locs) (q0 : Nat) {fs : List Value} {v : Value} (he : ws[q0]? = some (a, .inr (4, fs))) (hv : fs[8]? = some v) (hdg : decode cc pc = .ok (.getfield 52, 3)) (kk : W p l e R s m args below meth c H locs cells slots Q (F0 m (pc + 3) ls (v :: rest))) : W p l e R s m args below meth c H locs cells slots Q (F0 m pc ls (.ref a :: rest)) := va_get (C := RX4) (T := TX4) (N := 15) E.1 E.2.1 E.2.2.2.2.1 inX4 E.2.2.2.1 E.2.2.2.2.2.1 hw.1 q0 he rfl 8 (by decide) (E.2.2.2.2.1 _ wq_241) (fun _ h => h) hv hdg kk
theorem xg_X4_25 (E : xE p s m args c cc nL RX4 G A) (hw : xW G A s.heap ws H locs) (q0 : Nat) {fs : List Value} {v : Value} (he : ws[q0]? = some (a, .inr (4, fs))) (hv : fs[2]? = some v) (hdg : decode cc pc = .ok (.getfield 25, 3)) (kk : W p l e R s m args below meth c H locs cells slots Q (F0 m (pc + 3) ls (v :: rest))) : W p l e R s m args below meth c H locs cells slots Q (F0 m pc ls (.ref a :: rest)) := va_get (C := RX4) (T := TX4) (N := 15) E.1 E.2.1 E.2.2.2.2.1 inX4 E.2.2.2.1 E.2.2.2.2.2.1 hw.1 q0 he rfl 2 (by decide) (E.2.2.2.2.1 _ wq_232) (fun _ h => h) hv hdg kk
theorem xg_X4_58 (E : xE p s m args c cc nL RX4 G A) (hw : xW G A s.heap ws H locs) (q0 : Nat) {fs : List Value} {v : Value} (he : ws[q0]? = some (a, .inr (4, fs))) (hv : fs[10]? = some v) (hdg : decode cc pc = .ok (.getfield 58, 3)) (kk : W p l e R s m args below meth c H locs cells slots Q (F0 m (pc + 3) ls (v :: rest))) : W p l e R s m args below meth c H locs cells slots Q (F0 m pc ls (.ref a :: rest)) := va_get (C := RX4) (T := TX4) (N := 15) E.1 E.2.1 E.2.2.2.2.1 inX4 E.2.2.2.1 E.2.2.2.2.2.1 hw.1 q0 he rfl 10 (by decide) (E.2.2.2.2.1 _ wq_243) (fun _ h => h) hv hdg kk
theorem xg_X1_9 (E : xE p s m args c cc nL RX1 G A) (hw : xW G A s.heap ws H locs) (q0 : Nat) {fs : List Value} {v : Value} (he : ws[q0]? = some (a, .inr (1, fs))) (hv : fs[3]? = some v) (hdg : decode cc pc = .ok (.getfield 9, 3)) (kk : W p l e R s m args below meth c H locs cells slots Q (F0 m (pc + 3) ls (v :: rest))) : W p l e R s m args below meth c H locs cells slots Q (F0 m pc ls (.ref a :: rest)) := va_get (C := RX1) (T := TX1) (N := 14) E.1 E.2.1 E.2.2.2.2.1 inX1 E.2.2.2.1 E.2.2.2.2.2.1 hw.1 q0 he rfl 3 (by decide) (E.2.2.2.2.1 _ wq_284) (fun _ h => h) hv hdg kk
theorem xg_X1_18 (E : xE p s m args c cc nL RX1 G A) (hw : xW G A s.heap ws H locs) (q0 : Nat) {fs : List Value} {v : Value} (he : ws[q0]? = some (a, .inr (1, fs))) (hv : fs[5]? = some v) (hdg : decode cc pc = .ok (.getfield 18, 3)) (kk : W p l e R s m args below meth c H locs cells slots Q (F0 m (pc + 3) ls (v :: rest))) : W p l e R s m args below meth c H locs cells slots Q (F0 m pc ls (.ref a :: rest)) := va_get (C := RX1) (T := TX1) (N := 14) E.1 E.2.1 E.2.2.2.2.1 inX1 E.2.2.2.1 E.2.2.2.2.2.1 hw.1 q0 he rfl 5 (by decide) (E.2.2.2.2.1 _ wq_286) (fun _ h => h) hv hdg kk
theorem xg_X1_21 (E : xE p s m args c cc nL RX1 G A) (hw : xW G A s.heap ws H locs) (q0 : Nat) {fs : List Value} {v : Value} (he : ws[q0]? = some (a, .inr (1, fs))) (hv : fs[6]? = some v) (hdg : decode cc pc = .ok (.getfield 21, 3)) (kk : W p l e R s m args below meth c H locs cells slots Q (F0 m (pc + 3) ls (v :: rest))) : W p l e R s m args below meth c H locs cells slots Q (F0 m pc ls (.ref a :: rest)) := va_get (C := RX1) (T := TX1) (N := 14) E.1 E.2.1 E.2.2.2.2.1 inX1 E.2.2.2.1 E.2.2.2.2.2.1 hw.1 q0 he rfl 6 (by decide) (E.2.2.2.2.1 _ wq_287) (fun _ h => h) hv hdg kk
theorem xg_X1_24 (E : xE p s m args c cc nL RX1 G A) (hw : xW G A s.heap ws H locs) (q0 : Nat) {fs : List Value} {v : Value} (he : ws[q0]? = some (a, .inr (1, fs))) (hv : fs[7]? = some v) (hdg : decode cc pc = .ok (.getfield 24, 3)) (kk : W p l e R s m args below meth c H locs cells slots Q (F0 m (pc + 3) ls (v :: rest))) : W p l e R s m args below meth c H locs cells slots Q (F0 m pc ls (.ref a :: rest)) := va_get (C := RX1) (T := TX1) (N := 14) E.1 E.2.1 E.2.2.2.2.1 inX1 E.2.2.2.1 E.2.2.2.2.2.1 hw.1 q0 he rfl 7 (by decide) (E.2.2.2.2.1 _ wq_288) (fun _ h => h) hv hdg kk
theorem xg_X1_73 (E : xE p s m args c cc nL RX1 G A) (hw : xW G A s.heap ws H locs) (q0 : Nat) {fs : List Value} {v : Value} (he : ws[q0]? = some (a, .inr (1, fs))) (hv : fs[1]? = some v) (hdg : decode cc pc = .ok (.getfield 73, 3)) (kk : W p l e R s m args below meth c H locs cells slots Q (F0 m (pc + 3) ls (v :: rest))) : W p l e R s m args below meth c H locs cells slots Q (F0 m pc ls (.ref a :: rest)) := va_get (C := RX1) (T := TX1) (N := 14) E.1 E.2.1 E.2.2.2.2.1 inX1 E.2.2.2.1 E.2.2.2.2.2.1 hw.1 q0 he rfl 1 (by decide) (E.2.2.2.2.1 _ wq_282) (fun _ h => h) hv hdg kk
theorem xg_X1_76 (E : xE p s m args c cc nL RX1 G A) (hw : xW G A s.heap ws H locs) (q0 : Nat) {fs : List Value} {v : Value} (he : ws[q0]? = some (a, .inr (1, fs))) (hv : fs[2]? = some v) (hdg : decode cc pc = .ok (.getfield 76, 3)) (kk : W p l e R s m args below meth c H locs cells slots Q (F0 m (pc + 3) ls (v :: rest))) : W p l e R s m args below meth c H locs cells slots Q (F0 m pc ls (.ref a :: rest)) := va_get (C := RX1) (T := TX1) (N := 14) E.1 E.2.1 E.2.2.2.2.1 inX1 E.2.2.2.1 E.2.2.2.2.2.1 hw.1 q0 he rfl 2 (by decide) (E.2.2.2.2.1 _ wq_283) (fun _ h => h) hv hdg kk
theorem xg_X1_46 (E : xE p s m args c cc nL RX1 G A) (hw : xW G A s.heap ws H locs) (q0 : Nat) {fs : List Value} {v : Value} (he : ws[q0]? = some (a, .inr (1, fs))) (hv : fs[12]? = some v) (hdg : decode cc pc = .ok (.getfield 46, 3)) (kk : W p l e R s m args below meth c H locs cells slots Q (F0 m (pc + 3) ls (v :: rest))) : W p l e R s m args below meth c H locs cells slots Q (F0 m pc ls (.ref a :: rest)) := va_get (C := RX1) (T := TX1) (N := 14) E.1 E.2.1 E.2.2.2.2.1 inX1 E.2.2.2.1 E.2.2.2.2.2.1 hw.1 q0 he rfl 12 (by decide) (E.2.2.2.2.1 _ wq_293) (fun _ h => h) hv hdg kk
theorem xp_X5_9 (E : xE p s m args c cc nL RX5 G A) (hw : xW G A s.heap ws H locs) (q0 : Nat) {fs : List Value} {v : Value} (he : ws[q0]? = some (a, .inr (5, fs))) (hn : narrow .long v = v) (hfit : fits .long v = true) (hlen : 0 < fs.length) (hnew : ws.set q0 (a, .inr (5, fs.set 0 v)) = ws') (hdg : decode cc pc = .ok (.putfield 9, 3)) (kk : ∀ (H1 : Heap) (locs1 : List Loc), xW G A s.heap ws' H1 locs1 → W p l e R s m args below meth c H1 locs1 cells slots Q (F0 m (pc + 3) ls rest)) : W p l e R s m args below meth c H locs cells slots Q (F0 m pc ls (v :: .ref a :: rest)) := by
  subst hnew
  exact va_put (C := RX5) (T := TX5) (N := 2) E.1 E.2.1 E.2.2.2.2.1 inX5 tyX5 tyX5_ok nmX5 E.2.2.2.1 E.2.2.2.2.2.1 hw.1 hw.2.1 hw.2.2 q0 he rfl 0 (by decide) (E.2.2.2.2.1 _ wq_217) (fun _ h => h) rfl (by decide +kernel) hn hfit hlen hdg (fun H1 l1 a1 a2 a3 => kk H1 l1 ⟨a1, a2, a3⟩)
theorem xp_X5_15 (E : xE p s m args c cc nL RX5 G A) (hw : xW G A s.heap ws H locs) (q0 : Nat) {fs : List Value} {v : Value} (he : ws[q0]? = some (a, .inr (5, fs))) (hn : narrow .long v = v) (hfit : fits .long v = true) (hlen : 1 < fs.length) (hnew : ws.set q0 (a, .inr (5, fs.set 1 v)) = ws') (hdg : decode cc pc = .ok (.putfield 15, 3)) (kk : ∀ (H1 : Heap) (locs1 : List Loc), xW G A s.heap ws' H1 locs1 → W p l e R s m args below meth c H1 locs1 cells slots Q (F0 m (pc + 3) ls rest)) : W p l e R s m args below meth c H locs cells slots Q (F0 m pc ls (v :: .ref a :: rest)) := by
  subst hnew
  exact va_put (C := RX5) (T := TX5) (N := 2) E.1 E.2.1 E.2.2.2.2.1 inX5 tyX5 tyX5_ok nmX5 E.2.2.2.1 E.2.2.2.2.2.1 hw.1 hw.2.1 hw.2.2 q0 he rfl 1 (by decide) (E.2.2.2.2.1 _ wq_220) (fun _ h => h) rfl (by decide +kernel) hn hfit hlen hdg (fun H1 l1 a1 a2 a3 => kk H1 l1 ⟨a1, a2, a3⟩)
theorem xg_X1_94 (E : xE p s m args c cc nL RX1 G A) (hw : xW G A s.heap ws H locs) (q0 : Nat) {fs : List Value} {v : Value} (he : ws[q0]? = some (a, .inr (0, fs))) (hv : fs[3]? = some v) (hdg : decode cc pc = .ok (.getfield 94, 3)) (kk : W p l e R s m args below meth c H locs cells slots Q (F0 m (pc + 3) ls (v :: rest))) : W p l e R s m args below meth c H locs cells slots Q (F0 m pc ls (.ref a :: rest)) := va_get (C := RX0) (T := TX0) (N := 7) E.1 E.2.1 E.2.2.2.2.1 inX0 E.2.2.2.1 E.2.2.2.2.2.1 hw.1 q0 he rfl 3 (by decide) (E.2.2.2.2.1 _ wq_161) (fun _ h => h) hv hdg kk
theorem xg_X4_12 (E : xE p s m args c cc nL RX4 G A) (hw : xW G A s.heap ws H locs) (q0 : Nat) {fs : List Value} {v : Value} (he : ws[q0]? = some (a, .inr (4, fs))) (hv : fs[4]? = some v) (hdg : decode cc pc = .ok (.getfield 12, 3)) (kk : W p l e R s m args below meth c H locs cells slots Q (F0 m (pc + 3) ls (v :: rest))) : W p l e R s m args below meth c H locs cells slots Q (F0 m pc ls (.ref a :: rest)) := va_get (C := RX4) (T := TX4) (N := 15) E.1 E.2.1 E.2.2.2.2.1 inX4 E.2.2.2.1 E.2.2.2.2.2.1 hw.1 q0 he rfl 4 (by decide) (E.2.2.2.2.1 _ wq_236) (fun _ h => h) hv hdg kk
theorem xg_X4_28 (E : xE p s m args c cc nL RX4 G A) (hw : xW G A s.heap ws H locs) (q0 : Nat) {fs : List Value} {v : Value} (he : ws[q0]? = some (a, .inr (4, fs))) (hv : fs[3]? = some v) (hdg : decode cc pc = .ok (.getfield 28, 3)) (kk : W p l e R s m args below meth c H locs cells slots Q (F0 m (pc + 3) ls (v :: rest))) : W p l e R s m args below meth c H locs cells slots Q (F0 m pc ls (.ref a :: rest)) := va_get (C := RX4) (T := TX4) (N := 15) E.1 E.2.1 E.2.2.2.2.1 inX4 E.2.2.2.1 E.2.2.2.2.2.1 hw.1 q0 he rfl 3 (by decide) (E.2.2.2.2.1 _ wq_234) (fun _ h => h) hv hdg kk
theorem xg_X4_41 (E : xE p s m args c cc nL RX4 G A) (hw : xW G A s.heap ws H locs) (q0 : Nat) {fs : List Value} {v : Value} (he : ws[q0]? = some (a, .inr (4, fs))) (hv : fs[12]? = some v) (hdg : decode cc pc = .ok (.getfield 41, 3)) (kk : W p l e R s m args below meth c H locs cells slots Q (F0 m (pc + 3) ls (v :: rest))) : W p l e R s m args below meth c H locs cells slots Q (F0 m pc ls (.ref a :: rest)) := va_get (C := RX4) (T := TX4) (N := 15) E.1 E.2.1 E.2.2.2.2.1 inX4 E.2.2.2.1 E.2.2.2.2.2.1 hw.1 q0 he rfl 12 (by decide) (E.2.2.2.2.1 _ wq_245) (fun _ h => h) hv hdg kk
theorem xg_X5_15 (E : xE p s m args c cc nL RX5 G A) (hw : xW G A s.heap ws H locs) (q0 : Nat) {fs : List Value} {v : Value} (he : ws[q0]? = some (a, .inr (5, fs))) (hv : fs[1]? = some v) (hdg : decode cc pc = .ok (.getfield 15, 3)) (kk : W p l e R s m args below meth c H locs cells slots Q (F0 m (pc + 3) ls (v :: rest))) : W p l e R s m args below meth c H locs cells slots Q (F0 m pc ls (.ref a :: rest)) := va_get (C := RX5) (T := TX5) (N := 2) E.1 E.2.1 E.2.2.2.2.1 inX5 E.2.2.2.1 E.2.2.2.2.2.1 hw.1 q0 he rfl 1 (by decide) (E.2.2.2.2.1 _ wq_220) (fun _ h => h) hv hdg kk
theorem xg_X4_94 (E : xE p s m args c cc nL RX4 G A) (hw : xW G A s.heap ws H locs) (q0 : Nat) {fs : List Value} {v : Value} (he : ws[q0]? = some (a, .inr (5, fs))) (hv : fs[0]? = some v) (hdg : decode cc pc = .ok (.getfield 94, 3)) (kk : W p l e R s m args below meth c H locs cells slots Q (F0 m (pc + 3) ls (v :: rest))) : W p l e R s m args below meth c H locs cells slots Q (F0 m pc ls (.ref a :: rest)) := va_get (C := RX5) (T := TX5) (N := 2) E.1 E.2.1 E.2.2.2.2.1 inX5 E.2.2.2.1 E.2.2.2.2.2.1 hw.1 q0 he rfl 0 (by decide) (E.2.2.2.2.1 _ wq_218) (fun _ h => h) hv hdg kk
theorem xg_X4_97 (E : xE p s m args c cc nL RX4 G A) (hw : xW G A s.heap ws H locs) (q0 : Nat) {fs : List Value} {v : Value} (he : ws[q0]? = some (a, .inr (5, fs))) (hv : fs[1]? = some v) (hdg : decode cc pc = .ok (.getfield 97, 3)) (kk : W p l e R s m args below meth c H locs cells slots Q (F0 m (pc + 3) ls (v :: rest))) : W p l e R s m args below meth c H locs cells slots Q (F0 m pc ls (.ref a :: rest)) := va_get (C := RX5) (T := TX5) (N := 2) E.1 E.2.1 E.2.2.2.2.1 inX5 E.2.2.2.1 E.2.2.2.2.2.1 hw.1 q0 he rfl 1 (by decide) (E.2.2.2.2.1 _ wq_221) (fun _ h => h) hv hdg kk
theorem xg_X1_27 (E : xE p s m args c cc nL RX1 G A) (hw : xW G A s.heap ws H locs) (q0 : Nat) {fs : List Value} {v : Value} (he : ws[q0]? = some (a, .inr (1, fs))) (hv : fs[8]? = some v) (hdg : decode cc pc = .ok (.getfield 27, 3)) (kk : W p l e R s m args below meth c H locs cells slots Q (F0 m (pc + 3) ls (v :: rest))) : W p l e R s m args below meth c H locs cells slots Q (F0 m pc ls (.ref a :: rest)) := va_get (C := RX1) (T := TX1) (N := 14) E.1 E.2.1 E.2.2.2.2.1 inX1 E.2.2.2.1 E.2.2.2.2.2.1 hw.1 q0 he rfl 8 (by decide) (E.2.2.2.2.1 _ wq_289) (fun _ h => h) hv hdg kk
theorem xg_X4_61 (E : xE p s m args c cc nL RX4 G A) (hw : xW G A s.heap ws H locs) (q0 : Nat) {fs : List Value} {v : Value} (he : ws[q0]? = some (a, .inr (4, fs))) (hv : fs[11]? = some v) (hdg : decode cc pc = .ok (.getfield 61, 3)) (kk : W p l e R s m args below meth c H locs cells slots Q (F0 m (pc + 3) ls (v :: rest))) : W p l e R s m args below meth c H locs cells slots Q (F0 m pc ls (.ref a :: rest)) := va_get (C := RX4) (T := TX4) (N := 15) E.1 E.2.1 E.2.2.2.2.1 inX4 E.2.2.2.1 E.2.2.2.2.2.1 hw.1 q0 he rfl 11 (by decide) (E.2.2.2.2.1 _ wq_244) (fun _ h => h) hv hdg kk
theorem xg_X4_55 (E : xE p s m args c cc nL RX4 G A) (hw : xW G A s.heap ws H locs) (q0 : Nat) {fs : List Value} {v : Value} (he : ws[q0]? = some (a, .inr (4, fs))) (hv : fs[9]? = some v) (hdg : decode cc pc = .ok (.getfield 55, 3)) (kk : W p l e R s m args below meth c H locs cells slots Q (F0 m (pc + 3) ls (v :: rest))) : W p l e R s m args below meth c H locs cells slots Q (F0 m pc ls (.ref a :: rest)) := va_get (C := RX4) (T := TX4) (N := 15) E.1 E.2.1 E.2.2.2.2.1 inX4 E.2.2.2.1 E.2.2.2.2.2.1 hw.1 q0 he rfl 9 (by decide) (E.2.2.2.2.1 _ wq_242) (fun _ h => h) hv hdg kk
theorem xg_X4_44 (E : xE p s m args c cc nL RX4 G A) (hw : xW G A s.heap ws H locs) (q0 : Nat) {fs : List Value} {v : Value} (he : ws[q0]? = some (a, .inr (4, fs))) (hv : fs[13]? = some v) (hdg : decode cc pc = .ok (.getfield 44, 3)) (kk : W p l e R s m args below meth c H locs cells slots Q (F0 m (pc + 3) ls (v :: rest))) : W p l e R s m args below meth c H locs cells slots Q (F0 m pc ls (.ref a :: rest)) := va_get (C := RX4) (T := TX4) (N := 15) E.1 E.2.1 E.2.2.2.2.1 inX4 E.2.2.2.1 E.2.2.2.2.2.1 hw.1 q0 he rfl 13 (by decide) (E.2.2.2.2.1 _ wq_246) (fun _ h => h) hv hdg kk
theorem xg_X4_47 (E : xE p s m args c cc nL RX4 G A) (hw : xW G A s.heap ws H locs) (q0 : Nat) {fs : List Value} {v : Value} (he : ws[q0]? = some (a, .inr (4, fs))) (hv : fs[14]? = some v) (hdg : decode cc pc = .ok (.getfield 47, 3)) (kk : W p l e R s m args below meth c H locs cells slots Q (F0 m (pc + 3) ls (v :: rest))) : W p l e R s m args below meth c H locs cells slots Q (F0 m pc ls (.ref a :: rest)) := va_get (C := RX4) (T := TX4) (N := 15) E.1 E.2.1 E.2.2.2.2.1 inX4 E.2.2.2.1 E.2.2.2.2.2.1 hw.1 q0 he rfl 14 (by decide) (E.2.2.2.2.1 _ wq_247) (fun _ h => h) hv hdg kk
theorem xg_X7_223 (E : xE p s m args c cc nL RX7 G A) (hw : xW G A s.heap ws H locs) (q0 : Nat) {fs : List Value} {v : Value} (he : ws[q0]? = some (a, .inr (4, fs))) (hv : fs[0]? = some v) (hdg : decode cc pc = .ok (.getfield 223, 3)) (kk : W p l e R s m args below meth c H locs cells slots Q (F0 m (pc + 3) ls (v :: rest))) : W p l e R s m args below meth c H locs cells slots Q (F0 m pc ls (.ref a :: rest)) := va_get (C := RX4) (T := TX4) (N := 15) E.1 E.2.1 E.2.2.2.2.1 inX4 E.2.2.2.1 E.2.2.2.2.2.1 hw.1 q0 he rfl 0 (by decide) (E.2.2.2.2.1 _ wq_229) (fun _ h => h) hv hdg kk
theorem xg_X7_226 (E : xE p s m args c cc nL RX7 G A) (hw : xW G A s.heap ws H locs) (q0 : Nat) {fs : List Value} {v : Value} (he : ws[q0]? = some (a, .inr (4, fs))) (hv : fs[1]? = some v) (hdg : decode cc pc = .ok (.getfield 226, 3)) (kk : W p l e R s m args below meth c H locs cells slots Q (F0 m (pc + 3) ls (v :: rest))) : W p l e R s m args below meth c H locs cells slots Q (F0 m pc ls (.ref a :: rest)) := va_get (C := RX4) (T := TX4) (N := 15) E.1 E.2.1 E.2.2.2.2.1 inX4 E.2.2.2.1 E.2.2.2.2.2.1 hw.1 q0 he rfl 1 (by decide) (E.2.2.2.2.1 _ wq_231) (fun _ h => h) hv hdg kk
theorem xg_X7_229 (E : xE p s m args c cc nL RX7 G A) (hw : xW G A s.heap ws H locs) (q0 : Nat) {fs : List Value} {v : Value} (he : ws[q0]? = some (a, .inr (4, fs))) (hv : fs[2]? = some v) (hdg : decode cc pc = .ok (.getfield 229, 3)) (kk : W p l e R s m args below meth c H locs cells slots Q (F0 m (pc + 3) ls (v :: rest))) : W p l e R s m args below meth c H locs cells slots Q (F0 m pc ls (.ref a :: rest)) := va_get (C := RX4) (T := TX4) (N := 15) E.1 E.2.1 E.2.2.2.2.1 inX4 E.2.2.2.1 E.2.2.2.2.2.1 hw.1 q0 he rfl 2 (by decide) (E.2.2.2.2.1 _ wq_233) (fun _ h => h) hv hdg kk
theorem xg_X7_235 (E : xE p s m args c cc nL RX7 G A) (hw : xW G A s.heap ws H locs) (q0 : Nat) {fs : List Value} {v : Value} (he : ws[q0]? = some (a, .inr (4, fs))) (hv : fs[3]? = some v) (hdg : decode cc pc = .ok (.getfield 235, 3)) (kk : W p l e R s m args below meth c H locs cells slots Q (F0 m (pc + 3) ls (v :: rest))) : W p l e R s m args below meth c H locs cells slots Q (F0 m pc ls (.ref a :: rest)) := va_get (C := RX4) (T := TX4) (N := 15) E.1 E.2.1 E.2.2.2.2.1 inX4 E.2.2.2.1 E.2.2.2.2.2.1 hw.1 q0 he rfl 3 (by decide) (E.2.2.2.2.1 _ wq_235) (fun _ h => h) hv hdg kk
theorem xg_X7_50 (E : xE p s m args c cc nL RX7 G A) (hw : xW G A s.heap ws H locs) (q0 : Nat) {fs : List Value} {v : Value} (he : ws[q0]? = some (a, .inr (7, fs))) (hv : fs[6]? = some v) (hdg : decode cc pc = .ok (.getfield 50, 3)) (kk : W p l e R s m args below meth c H locs cells slots Q (F0 m (pc + 3) ls (v :: rest))) : W p l e R s m args below meth c H locs cells slots Q (F0 m pc ls (.ref a :: rest)) := va_get (C := RX7) (T := TX7) (N := 8) E.1 E.2.1 E.2.2.2.2.1 inX7 E.2.2.2.1 E.2.2.2.2.2.1 hw.1 q0 he rfl 6 (by decide) (E.2.2.2.2.1 _ wq_348) (fun _ h => h) hv hdg kk
theorem xg_X1_165 (E : xE p s m args c cc nL RX1 G A) (hw : xW G A s.heap ws H locs) (q0 : Nat) {fs : List Value} {v : Value} (he : ws[q0]? = some (a, .inr (4, fs))) (hv : fs[4]? = some v) (hdg : decode cc pc = .ok (.getfield 165, 3)) (kk : W p l e R s m args below meth c H locs cells slots Q (F0 m (pc + 3) ls (v :: rest))) : W p l e R s m args below meth c H locs cells slots Q (F0 m pc ls (.ref a :: rest)) := va_get (C := RX4) (T := TX4) (N := 15) E.1 E.2.1 E.2.2.2.2.1 inX4 E.2.2.2.1 E.2.2.2.2.2.1 hw.1 q0 he rfl 4 (by decide) (E.2.2.2.2.1 _ wq_237) (fun _ h => h) hv hdg kk
theorem xg_X1_174 (E : xE p s m args c cc nL RX1 G A) (hw : xW G A s.heap ws H locs) (q0 : Nat) {fs : List Value} {v : Value} (he : ws[q0]? = some (a, .inr (5, fs))) (hv : fs[0]? = some v) (hdg : decode cc pc = .ok (.getfield 174, 3)) (kk : W p l e R s m args below meth c H locs cells slots Q (F0 m (pc + 3) ls (v :: rest))) : W p l e R s m args below meth c H locs cells slots Q (F0 m pc ls (.ref a :: rest)) := va_get (C := RX5) (T := TX5) (N := 2) E.1 E.2.1 E.2.2.2.2.1 inX5 E.2.2.2.1 E.2.2.2.2.2.1 hw.1 q0 he rfl 0 (by decide) (E.2.2.2.2.1 _ wq_219) (fun _ h => h) hv hdg kk
theorem xg_X1_168 (E : xE p s m args c cc nL RX1 G A) (hw : xW G A s.heap ws H locs) (q0 : Nat) {fs : List Value} {v : Value} (he : ws[q0]? = some (a, .inr (5, fs))) (hv : fs[1]? = some v) (hdg : decode cc pc = .ok (.getfield 168, 3)) (kk : W p l e R s m args below meth c H locs cells slots Q (F0 m (pc + 3) ls (v :: rest))) : W p l e R s m args below meth c H locs cells slots Q (F0 m pc ls (.ref a :: rest)) := va_get (C := RX5) (T := TX5) (N := 2) E.1 E.2.1 E.2.2.2.2.1 inX5 E.2.2.2.1 E.2.2.2.2.2.1 hw.1 q0 he rfl 1 (by decide) (E.2.2.2.2.1 _ wq_222) (fun _ h => h) hv hdg kk
theorem xg_X5_9 (E : xE p s m args c cc nL RX5 G A) (hw : xW G A s.heap ws H locs) (q0 : Nat) {fs : List Value} {v : Value} (he : ws[q0]? = some (a, .inr (5, fs))) (hv : fs[0]? = some v) (hdg : decode cc pc = .ok (.getfield 9, 3)) (kk : W p l e R s m args below meth c H locs cells slots Q (F0 m (pc + 3) ls (v :: rest))) : W p l e R s m args below meth c H locs cells slots Q (F0 m pc ls (.ref a :: rest)) := va_get (C := RX5) (T := TX5) (N := 2) E.1 E.2.1 E.2.2.2.2.1 inX5 E.2.2.2.1 E.2.2.2.2.2.1 hw.1 q0 he rfl 0 (by decide) (E.2.2.2.2.1 _ wq_217) (fun _ h => h) hv hdg kk
theorem xg_X1_50 (E : xE p s m args c cc nL RX1 G A) (hw : xW G A s.heap ws H locs) (q0 : Nat) {fs : List Value} {v : Value} (he : ws[q0]? = some (a, .inr (1, fs))) (hv : fs[13]? = some v) (hdg : decode cc pc = .ok (.getfield 50, 3)) (kk : W p l e R s m args below meth c H locs cells slots Q (F0 m (pc + 3) ls (v :: rest))) : W p l e R s m args below meth c H locs cells slots Q (F0 m pc ls (.ref a :: rest)) := va_get (C := RX1) (T := TX1) (N := 14) E.1 E.2.1 E.2.2.2.2.1 inX1 E.2.2.2.1 E.2.2.2.2.2.1 hw.1 q0 he rfl 13 (by decide) (E.2.2.2.2.1 _ wq_294) (fun _ h => h) hv hdg kk
theorem xg_X7_266 (E : xE p s m args c cc nL RX7 G A) (hw : xW G A s.heap ws H locs) (q0 : Nat) {fs : List Value} {v : Value} (he : ws[q0]? = some (a, .inr (0, fs))) (hv : fs[1]? = some v) (hdg : decode cc pc = .ok (.getfield 266, 3)) (kk : W p l e R s m args below meth c H locs cells slots Q (F0 m (pc + 3) ls (v :: rest))) : W p l e R s m args below meth c H locs cells slots Q (F0 m pc ls (.ref a :: rest)) := va_get (C := RX0) (T := TX0) (N := 7) E.1 E.2.1 E.2.2.2.2.1 inX0 E.2.2.2.1 E.2.2.2.2.2.1 hw.1 q0 he rfl 1 (by decide) (E.2.2.2.2.1 _ wq_156) (fun _ h => h) hv hdg kk
theorem xg_X7_54 (E : xE p s m args c cc nL RX7 G A) (hw : xW G A s.heap ws H locs) (q0 : Nat) {fs : List Value} {v : Value} (he : ws[q0]? = some (a, .inr (7, fs))) (hv : fs[7]? = some v) (hdg : decode cc pc = .ok (.getfield 54, 3)) (kk : W p l e R s m args below meth c H locs cells slots Q (F0 m (pc + 3) ls (v :: rest))) : W p l e R s m args below meth c H locs cells slots Q (F0 m pc ls (.ref a :: rest)) := va_get (C := RX7) (T := TX7) (N := 8) E.1 E.2.1 E.2.2.2.2.1 inX7 E.2.2.2.1 E.2.2.2.2.2.1 hw.1 q0 he rfl 7 (by decide) (E.2.2.2.2.1 _ wq_349) (fun _ h => h) hv hdg kk
theorem xg_X7_43 (E : xE p s m args c cc nL RX7 G A) (hw : xW G A s.heap ws H locs) (q0 : Nat) {fs : List Value} {v : Value} (he : ws[q0]? = some (a, .inr (7, fs))) (hv : fs[5]? = some v) (hdg : decode cc pc = .ok (.getfield 43, 3)) (kk : W p l e R s m args below meth c H locs cells slots Q (F0 m (pc + 3) ls (v :: rest))) : W p l e R s m args below meth c H locs cells slots Q (F0 m pc ls (.ref a :: rest)) := va_get (C := RX7) (T := TX7) (N := 8) E.1 E.2.1 E.2.2.2.2.1 inX7 E.2.2.2.1 E.2.2.2.2.2.1 hw.1 q0 he rfl 5 (by decide) (E.2.2.2.2.1 _ wq_347) (fun _ h => h) hv hdg kk
theorem xp_X3_9 (E : xE p s m args c cc nL RX3 G A) (hw : xW G A s.heap ws H locs) (q0 : Nat) {fs : List Value} {v : Value} (he : ws[q0]? = some (a, .inr (3, fs))) (hn : narrow .int v = v) (hfit : fits .int v = true) (hlen : 0 < fs.length) (hnew : ws.set q0 (a, .inr (3, fs.set 0 v)) = ws') (hdg : decode cc pc = .ok (.putfield 9, 3)) (kk : ∀ (H1 : Heap) (locs1 : List Loc), xW G A s.heap ws' H1 locs1 → W p l e R s m args below meth c H1 locs1 cells slots Q (F0 m (pc + 3) ls rest)) : W p l e R s m args below meth c H locs cells slots Q (F0 m pc ls (v :: .ref a :: rest)) := by
  subst hnew
  exact va_put (C := RX3) (T := TX3) (N := 3) E.1 E.2.1 E.2.2.2.2.1 inX3 tyX3 tyX3_ok nmX3 E.2.2.2.1 E.2.2.2.2.2.1 hw.1 hw.2.1 hw.2.2 q0 he rfl 0 (by decide) (E.2.2.2.2.1 _ wq_330) (fun _ h => h) rfl (by decide +kernel) hn hfit hlen hdg (fun H1 l1 a1 a2 a3 => kk H1 l1 ⟨a1, a2, a3⟩)
theorem xp_X3_15 (E : xE p s m args c cc nL RX3 G A) (hw : xW G A s.heap ws H locs) (q0 : Nat) {fs : List Value} {v : Value} (he : ws[q0]? = some (a, .inr (3, fs))) (hn : narrow .int v = v) (hfit : fits .int v = true) (hlen : 1 < fs.length) (hnew : ws.set q0 (a, .inr (3, fs.set 1 v)) = ws') (hdg : decode cc pc = .ok (.putfield 15, 3)) (kk : ∀ (H1 : Heap) (locs1 : List Loc), xW G A s.heap ws' H1 locs1 → W p l e R s m args below meth c H1 locs1 cells slots Q (F0 m (pc + 3) ls rest)) : W p l e R s m args below meth c H locs cells slots Q (F0 m pc ls (v :: .ref a :: rest)) := by
  subst hnew
  exact va_put (C := RX3) (T := TX3) (N := 3) E.1 E.2.1 E.2.2.2.2.1 inX3 tyX3 tyX3_ok nmX3 E.2.2.2.1 E.2.2.2.2.2.1 hw.1 hw.2.1 hw.2.2 q0 he rfl 1 (by decide) (E.2.2.2.2.1 _ wq_331) (fun _ h => h) rfl (by decide +kernel) hn hfit hlen hdg (fun H1 l1 a1 a2 a3 => kk H1 l1 ⟨a1, a2, a3⟩)
theorem xp_X3_18 (E : xE p s m args c cc nL RX3 G A) (hw : xW G A s.heap ws H locs) (q0 : Nat) {fs : List Value} {v : Value} (he : ws[q0]? = some (a, .inr (3, fs))) (hn : narrow .int v = v) (hfit : fits .int v = true) (hlen : 2 < fs.length) (hnew : ws.set q0 (a, .inr (3, fs.set 2 v)) = ws') (hdg : decode cc pc = .ok (.putfield 18, 3)) (kk : ∀ (H1 : Heap) (locs1 : List Loc), xW G A s.heap ws' H1 locs1 → W p l e R s m args below meth c H1 locs1 cells slots Q (F0 m (pc + 3) ls rest)) : W p l e R s m args below meth c H locs cells slots Q (F0 m pc ls (v :: .ref a :: rest)) := by
  subst hnew
  exact va_put (C := RX3) (T := TX3) (N := 3) E.1 E.2.1 E.2.2.2.2.1 inX3 tyX3 tyX3_ok nmX3 E.2.2.2.1 E.2.2.2.2.2.1 hw.1 hw.2.1 hw.2.2 q0 he rfl 2 (by decide) (E.2.2.2.2.1 _ wq_332) (fun _ h => h) rfl (by decide +kernel) hn hfit hlen hdg (fun H1 l1 a1 a2 a3 => kk H1 l1 ⟨a1, a2, a3⟩)
theorem xg_X3_15 (E : xE p s m args c cc nL RX3 G A) (hw : xW G A s.heap ws H locs) (q0 : Nat) {fs : List Value} {v : Value} (he : ws[q0]? = some (a, .inr (3, fs))) (hv : fs[1]? = some v) (hdg : decode cc pc = .ok (.getfield 15, 3)) (kk : W p l e R s m args below meth c H locs cells slots Q (F0 m (pc + 3) ls (v :: rest))) : W p l e R s m args below meth c H locs cells slots Q (F0 m pc ls (.ref a :: rest)) := va_get (C := RX3) (T := TX3) (N := 3) E.1 E.2.1 E.2.2.2.2.1 inX3 E.2.2.2.1 E.2.2.2.2.2.1 hw.1 q0 he rfl 1 (by decide) (E.2.2.2.2.1 _ wq_331) (fun _ h => h) hv hdg kk
theorem xg_X3_9 (E : xE p s m args c cc nL RX3 G A) (hw : xW G A s.heap ws H locs) (q0 : Nat) {fs : List Value} {v : Value} (he : ws[q0]? = some (a, .inr (3, fs))) (hv : fs[0]? = some v) (hdg : decode cc pc = .ok (.getfield 9, 3)) (kk : W p l e R s m args below meth c H locs cells slots Q (F0 m (pc + 3) ls (v :: rest))) : W p l e R s m args below meth c H locs cells slots Q (F0 m pc ls (.ref a :: rest)) := va_get (C := RX3) (T := TX3) (N := 3) E.1 E.2.1 E.2.2.2.2.1 inX3 E.2.2.2.1 E.2.2.2.2.2.1 hw.1 q0 he rfl 0 (by decide) (E.2.2.2.2.1 _ wq_330) (fun _ h => h) hv hdg kk
theorem xg_X3_18 (E : xE p s m args c cc nL RX3 G A) (hw : xW G A s.heap ws H locs) (q0 : Nat) {fs : List Value} {v : Value} (he : ws[q0]? = some (a, .inr (3, fs))) (hv : fs[2]? = some v) (hdg : decode cc pc = .ok (.getfield 18, 3)) (kk : W p l e R s m args below meth c H locs cells slots Q (F0 m (pc + 3) ls (v :: rest))) : W p l e R s m args below meth c H locs cells slots Q (F0 m pc ls (.ref a :: rest)) := va_get (C := RX3) (T := TX3) (N := 3) E.1 E.2.1 E.2.2.2.2.1 inX3 E.2.2.2.1 E.2.2.2.2.2.1 hw.1 q0 he rfl 2 (by decide) (E.2.2.2.2.1 _ wq_332) (fun _ h => h) hv hdg kk
theorem xg_X8_77 (E : xE p s m args c cc nL RX8 G A) (hw : xW G A s.heap ws H locs) (q0 : Nat) {fs : List Value} {v : Value} (he : ws[q0]? = some (a, .inr (8, fs))) (hv : fs[5]? = some v) (hdg : decode cc pc = .ok (.getfield 77, 3)) (kk : W p l e R s m args below meth c H locs cells slots Q (F0 m (pc + 3) ls (v :: rest))) : W p l e R s m args below meth c H locs cells slots Q (F0 m pc ls (.ref a :: rest)) := va_get (C := RX8) (T := TX8) (N := 32) E.1 E.2.1 E.2.2.2.2.1 inX8 E.2.2.2.1 E.2.2.2.2.2.1 hw.1 q0 he rfl 5 (by decide) (E.2.2.2.2.1 _ wq_1185) (fun _ h => h) hv hdg kk
theorem xp_X8_77 (E : xE p s m args c cc nL RX8 G A) (hw : xW G A s.heap ws H locs) (q0 : Nat) {fs : List Value} {v : Value} (he : ws[q0]? = some (a, .inr (8, fs))) (hn : narrow .int v = v) (hfit : fits .int v = true) (hlen : 5 < fs.length) (hnew : ws.set q0 (a, .inr (8, fs.set 5 v)) = ws') (hdg : decode cc pc = .ok (.putfield 77, 3)) (kk : ∀ (H1 : Heap) (locs1 : List Loc), xW G A s.heap ws' H1 locs1 → W p l e R s m args below meth c H1 locs1 cells slots Q (F0 m (pc + 3) ls rest)) : W p l e R s m args below meth c H locs cells slots Q (F0 m pc ls (v :: .ref a :: rest)) := by
  subst hnew
  exact va_put (C := RX8) (T := TX8) (N := 32) E.1 E.2.1 E.2.2.2.2.1 inX8 tyX8 tyX8_ok nmX8 E.2.2.2.1 E.2.2.2.2.2.1 hw.1 hw.2.1 hw.2.2 q0 he rfl 5 (by decide) (E.2.2.2.2.1 _ wq_1185) (fun _ h => h) rfl (by decide +kernel) hn hfit hlen hdg (fun H1 l1 a1 a2 a3 => kk H1 l1 ⟨a1, a2, a3⟩)
theorem xg_X8_23 (E : xE p s m args c cc nL RX8 G A) (hw : xW G A s.heap ws H locs) (q0 : Nat) {fs : List Value} {v : Value} (he : ws[q0]? = some (a, .inr (8, fs))) (hv : fs[4]? = some v) (hdg : decode cc pc = .ok (.getfield 23, 3)) (kk : W p l e R s m args below meth c H locs cells slots Q (F0 m (pc + 3) ls (v :: rest))) : W p l e R s m args below meth c H locs cells slots Q (F0 m pc ls (.ref a :: rest)) := va_get (C := RX8) (T := TX8) (N := 32) E.1 E.2.1 E.2.2.2.2.1 inX8 E.2.2.2.1 E.2.2.2.2.2.1 hw.1 q0 he rfl 4 (by decide) (E.2.2.2.2.1 _ wq_1184) (fun _ h => h) hv hdg kk
theorem xg_X8_13 (E : xE p s m args c cc nL RX8 G A) (hw : xW G A s.heap ws H locs) (q0 : Nat) {fs : List Value} {v : Value} (he : ws[q0]? = some (a, .inr (8, fs))) (hv : fs[1]? = some v) (hdg : decode cc pc = .ok (.getfield 13, 3)) (kk : W p l e R s m args below meth c H locs cells slots Q (F0 m (pc + 3) ls (v :: rest))) : W p l e R s m args below meth c H locs cells slots Q (F0 m pc ls (.ref a :: rest)) := va_get (C := RX8) (T := TX8) (N := 32) E.1 E.2.1 E.2.2.2.2.1 inX8 E.2.2.2.1 E.2.2.2.2.2.1 hw.1 q0 he rfl 1 (by decide) (E.2.2.2.2.1 _ wq_1181) (fun _ h => h) hv hdg kk
theorem xg_X8_20 (E : xE p s m args c cc nL RX8 G A) (hw : xW G A s.heap ws H locs) (q0 : Nat) {fs : List Value} {v : Value} (he : ws[q0]? = some (a, .inr (8, fs))) (hv : fs[3]? = some v) (hdg : decode cc pc = .ok (.getfield 20, 3)) (kk : W p l e R s m args below meth c H locs cells slots Q (F0 m (pc + 3) ls (v :: rest))) : W p l e R s m args below meth c H locs cells slots Q (F0 m pc ls (.ref a :: rest)) := va_get (C := RX8) (T := TX8) (N := 32) E.1 E.2.1 E.2.2.2.2.1 inX8 E.2.2.2.1 E.2.2.2.2.2.1 hw.1 q0 he rfl 3 (by decide) (E.2.2.2.2.1 _ wq_1183) (fun _ h => h) hv hdg kk
theorem xp_X8_161 (E : xE p s m args c cc nL RX8 G A) (hw : xW G A s.heap ws H locs) (q0 : Nat) {fs : List Value} {v : Value} (he : ws[q0]? = some (a, .inr (8, fs))) (hn : narrow .long v = v) (hfit : fits .long v = true) (hlen : 6 < fs.length) (hnew : ws.set q0 (a, .inr (8, fs.set 6 v)) = ws') (hdg : decode cc pc = .ok (.putfield 161, 3)) (kk : ∀ (H1 : Heap) (locs1 : List Loc), xW G A s.heap ws' H1 locs1 → W p l e R s m args below meth c H1 locs1 cells slots Q (F0 m (pc + 3) ls rest)) : W p l e R s m args below meth c H locs cells slots Q (F0 m pc ls (v :: .ref a :: rest)) := by
  subst hnew
  exact va_put (C := RX8) (T := TX8) (N := 32) E.1 E.2.1 E.2.2.2.2.1 inX8 tyX8 tyX8_ok nmX8 E.2.2.2.1 E.2.2.2.2.2.1 hw.1 hw.2.1 hw.2.2 q0 he rfl 6 (by decide) (E.2.2.2.2.1 _ wq_1186) (fun _ h => h) rfl (by decide +kernel) hn hfit hlen hdg (fun H1 l1 a1 a2 a3 => kk H1 l1 ⟨a1, a2, a3⟩)
theorem xp_X8_165 (E : xE p s m args c cc nL RX8 G A) (hw : xW G A s.heap ws H locs) (q0 : Nat) {fs : List Value} {v : Value} (he : ws[q0]? = some (a, .inr (8, fs))) (hn : narrow .long v = v) (hfit : fits .long v = true) (hlen : 7 < fs.length) (hnew : ws.set q0 (a, .inr (8, fs.set 7 v)) = ws') (hdg : decode cc pc = .ok (.putfield 165, 3)) (kk : ∀ (H1 : Heap) (locs1 : List Loc), xW G A s.heap ws' H1 locs1 → W p l e R s m args below meth c H1 locs1 cells slots Q (F0 m (pc + 3) ls rest)) : W p l e R s m args below meth c H locs cells slots Q (F0 m pc ls (v :: .ref a :: rest)) := by
  subst hnew
  exact va_put (C := RX8) (T := TX8) (N := 32) E.1 E.2.1 E.2.2.2.2.1 inX8 tyX8 tyX8_ok nmX8 E.2.2.2.1 E.2.2.2.2.2.1 hw.1 hw.2.1 hw.2.2 q0 he rfl 7 (by decide) (E.2.2.2.2.1 _ wq_1187) (fun _ h => h) rfl (by decide +kernel) hn hfit hlen hdg (fun H1 l1 a1 a2 a3 => kk H1 l1 ⟨a1, a2, a3⟩)
theorem xg_X8_45 (E : xE p s m args c cc nL RX8 G A) (hw : xW G A s.heap ws H locs) (q0 : Nat) {fs : List Value} {v : Value} (he : ws[q0]? = some (a, .inr (8, fs))) (hv : fs[14]? = some v) (hdg : decode cc pc = .ok (.getfield 45, 3)) (kk : W p l e R s m args below meth c H locs cells slots Q (F0 m (pc + 3) ls (v :: rest))) : W p l e R s m args below meth c H locs cells slots Q (F0 m pc ls (.ref a :: rest)) := va_get (C := RX8) (T := TX8) (N := 32) E.1 E.2.1 E.2.2.2.2.1 inX8 E.2.2.2.1 E.2.2.2.2.2.1 hw.1 q0 he rfl 14 (by decide) (E.2.2.2.2.1 _ wq_1194) (fun _ h => h) hv hdg kk
theorem xg_X8_48 (E : xE p s m args c cc nL RX8 G A) (hw : xW G A s.heap ws H locs) (q0 : Nat) {fs : List Value} {v : Value} (he : ws[q0]? = some (a, .inr (8, fs))) (hv : fs[15]? = some v) (hdg : decode cc pc = .ok (.getfield 48, 3)) (kk : W p l e R s m args below meth c H locs cells slots Q (F0 m (pc + 3) ls (v :: rest))) : W p l e R s m args below meth c H locs cells slots Q (F0 m pc ls (.ref a :: rest)) := va_get (C := RX8) (T := TX8) (N := 32) E.1 E.2.1 E.2.2.2.2.1 inX8 E.2.2.2.1 E.2.2.2.2.2.1 hw.1 q0 he rfl 15 (by decide) (E.2.2.2.2.1 _ wq_1195) (fun _ h => h) hv hdg kk
theorem xg_X8_51 (E : xE p s m args c cc nL RX8 G A) (hw : xW G A s.heap ws H locs) (q0 : Nat) {fs : List Value} {v : Value} (he : ws[q0]? = some (a, .inr (8, fs))) (hv : fs[16]? = some v) (hdg : decode cc pc = .ok (.getfield 51, 3)) (kk : W p l e R s m args below meth c H locs cells slots Q (F0 m (pc + 3) ls (v :: rest))) : W p l e R s m args below meth c H locs cells slots Q (F0 m pc ls (.ref a :: rest)) := va_get (C := RX8) (T := TX8) (N := 32) E.1 E.2.1 E.2.2.2.2.1 inX8 E.2.2.2.1 E.2.2.2.2.2.1 hw.1 q0 he rfl 16 (by decide) (E.2.2.2.2.1 _ wq_1196) (fun _ h => h) hv hdg kk
theorem xp_X8_178 (E : xE p s m args c cc nL RX8 G A) (hw : xW G A s.heap ws H locs) (q0 : Nat) {fs : List Value} {v : Value} (he : ws[q0]? = some (a, .inr (8, fs))) (hn : narrow .long v = v) (hfit : fits .long v = true) (hlen : 21 < fs.length) (hnew : ws.set q0 (a, .inr (8, fs.set 21 v)) = ws') (hdg : decode cc pc = .ok (.putfield 178, 3)) (kk : ∀ (H1 : Heap) (locs1 : List Loc), xW G A s.heap ws' H1 locs1 → W p l e R s m args below meth c H1 locs1 cells slots Q (F0 m (pc + 3) ls rest)) : W p l e R s m args below meth c H locs cells slots Q (F0 m pc ls (v :: .ref a :: rest)) := by
  subst hnew
  exact va_put (C := RX8) (T := TX8) (N := 32) E.1 E.2.1 E.2.2.2.2.1 inX8 tyX8 tyX8_ok nmX8 E.2.2.2.1 E.2.2.2.2.2.1 hw.1 hw.2.1 hw.2.2 q0 he rfl 21 (by decide) (E.2.2.2.2.1 _ wq_1201) (fun _ h => h) rfl (by decide +kernel) hn hfit hlen hdg (fun H1 l1 a1 a2 a3 => kk H1 l1 ⟨a1, a2, a3⟩)
theorem xp_X8_181 (E : xE p s m args c cc nL RX8 G A) (hw : xW G A s.heap ws H locs) (q0 : Nat) {fs : List Value} {v : Value} (he : ws[q0]? = some (a, .inr (8, fs))) (hn : narrow .long v = v) (hfit : fits .long v = true) (hlen : 20 < fs.length) (hnew : ws.set q0 (a, .inr (8, fs.set 20 v)) = ws') (hdg : decode cc pc = .ok (.putfield 181, 3)) (kk : ∀ (H1 : Heap) (locs1 : List Loc), xW G A s.heap ws' H1 locs1 → W p l e R s m args below meth c H1 locs1 cells slots Q (F0 m (pc + 3) ls rest)) : W p l e R s m args below meth c H locs cells slots Q (F0 m pc ls (v :: .ref a :: rest)) := by
  subst hnew
  exact va_put (C := RX8) (T := TX8) (N := 32) E.1 E.2.1 E.2.2.2.2.1 inX8 tyX8 tyX8_ok nmX8 E.2.2.2.1 E.2.2.2.2.2.1 hw.1 hw.2.1 hw.2.2 q0 he rfl 20 (by decide) (E.2.2.2.2.1 _ wq_1200) (fun _ h => h) rfl (by decide +kernel) hn hfit hlen hdg (fun H1 l1 a1 a2 a3 => kk H1 l1 ⟨a1, a2, a3⟩)
theorem xg_X8_161 (E : xE p s m args c cc nL RX8 G A) (hw : xW G A s.heap ws H locs) (q0 : Nat) {fs : List Value} {v : Value} (he : ws[q0]? = some (a, .inr (8, fs))) (hv : fs[6]? = some v) (hdg : decode cc pc = .ok (.getfield 161, 3)) (kk : W p l e R s m args below meth c H locs cells slots Q (F0 m (pc + 3) ls (v :: rest))) : W p l e R s m args below meth c H locs cells slots Q (F0 m pc ls (.ref a :: rest)) := va_get (C := RX8) (T := TX8) (N := 32) E.1 E.2.1 E.2.2.2.2.1 inX8 E.2.2.2.1 E.2.2.2.2.2.1 hw.1 q0 he rfl 6 (by decide) (E.2.2.2.2.1 _ wq_1186) (fun _ h => h) hv hdg kk
theorem xg_X8_165 (E : xE p s m args c cc nL RX8 G A) (hw : xW G A s.heap ws H locs) (q0 : Nat) {fs : List Value} {v : Value} (he : ws[q0]? = some (a, .inr (8, fs))) (hv : fs[7]? = some v) (hdg : decode cc pc = .ok (.getfield 165, 3)) (kk : W p l e R s m args below meth c H locs cells slots Q (F0 m (pc + 3) ls (v :: rest))) : W p l e R s m args below meth c H locs cells slots Q (F0 m pc ls (.ref a :: rest)) := va_get (C := RX8) (T := TX8) (N := 32) E.1 E.2.1 E.2.2.2.2.1 inX8 E.2.2.2.1 E.2.2.2.2.2.1 hw.1 q0 he rfl 7 (by decide) (E.2.2.2.2.1 _ wq_1187) (fun _ h => h) hv hdg kk
theorem xg_X8_26 (E : xE p s m args c cc nL RX8 G A) (hw : xW G A s.heap ws H locs) (q0 : Nat) {fs : List Value} {v : Value} (he : ws[q0]? = some (a, .inr (8, fs))) (hv : fs[8]? = some v) (hdg : decode cc pc = .ok (.getfield 26, 3)) (kk : W p l e R s m args below meth c H locs cells slots Q (F0 m (pc + 3) ls (v :: rest))) : W p l e R s m args below meth c H locs cells slots Q (F0 m pc ls (.ref a :: rest)) := va_get (C := RX8) (T := TX8) (N := 32) E.1 E.2.1 E.2.2.2.2.1 inX8 E.2.2.2.1 E.2.2.2.2.2.1 hw.1 q0 he rfl 8 (by decide) (E.2.2.2.2.1 _ wq_1188) (fun _ h => h) hv hdg kk
theorem xg_X8_29 (E : xE p s m args c cc nL RX8 G A) (hw : xW G A s.heap ws H locs) (q0 : Nat) {fs : List Value} {v : Value} (he : ws[q0]? = some (a, .inr (8, fs))) (hv : fs[9]? = some v) (hdg : decode cc pc = .ok (.getfield 29, 3)) (kk : W p l e R s m args below meth c H locs cells slots Q (F0 m (pc + 3) ls (v :: rest))) : W p l e R s m args below meth c H locs cells slots Q (F0 m pc ls (.ref a :: rest)) := va_get (C := RX8) (T := TX8) (N := 32) E.1 E.2.1 E.2.2.2.2.1 inX8 E.2.2.2.1 E.2.2.2.2.2.1 hw.1 q0 he rfl 9 (by decide) (E.2.2.2.2.1 _ wq_1189) (fun _ h => h) hv hdg kk
theorem xg_X8_32 (E : xE p s m args c cc nL RX8 G A) (hw : xW G A s.heap ws H locs) (q0 : Nat) {fs : List Value} {v : Value} (he : ws[q0]? = some (a, .inr (8, fs))) (hv : fs[10]? = some v) (hdg : decode cc pc = .ok (.getfield 32, 3)) (kk : W p l e R s m args below meth c H locs cells slots Q (F0 m (pc + 3) ls (v :: rest))) : W p l e R s m args below meth c H locs cells slots Q (F0 m pc ls (.ref a :: rest)) := va_get (C := RX8) (T := TX8) (N := 32) E.1 E.2.1 E.2.2.2.2.1 inX8 E.2.2.2.1 E.2.2.2.2.2.1 hw.1 q0 he rfl 10 (by decide) (E.2.2.2.2.1 _ wq_1190) (fun _ h => h) hv hdg kk
theorem xg_X8_57 (E : xE p s m args c cc nL RX8 G A) (hw : xW G A s.heap ws H locs) (q0 : Nat) {fs : List Value} {v : Value} (he : ws[q0]? = some (a, .inr (8, fs))) (hv : fs[18]? = some v) (hdg : decode cc pc = .ok (.getfield 57, 3)) (kk : W p l e R s m args below meth c H locs cells slots Q (F0 m (pc + 3) ls (v :: rest))) : W p l e R s m args below meth c H locs cells slots Q (F0 m pc ls (.ref a :: rest)) := va_get (C := RX8) (T := TX8) (N := 32) E.1 E.2.1 E.2.2.2.2.1 inX8 E.2.2.2.1 E.2.2.2.2.2.1 hw.1 q0 he rfl 18 (by decide) (E.2.2.2.2.1 _ wq_1198) (fun _ h => h) hv hdg kk
theorem xg_X8_60 (E : xE p s m args c cc nL RX8 G A) (hw : xW G A s.heap ws H locs) (q0 : Nat) {fs : List Value} {v : Value} (he : ws[q0]? = some (a, .inr (8, fs))) (hv : fs[19]? = some v) (hdg : decode cc pc = .ok (.getfield 60, 3)) (kk : W p l e R s m args below meth c H locs cells slots Q (F0 m (pc + 3) ls (v :: rest))) : W p l e R s m args below meth c H locs cells slots Q (F0 m pc ls (.ref a :: rest)) := va_get (C := RX8) (T := TX8) (N := 32) E.1 E.2.1 E.2.2.2.2.1 inX8 E.2.2.2.1 E.2.2.2.2.2.1 hw.1 q0 he rfl 19 (by decide) (E.2.2.2.2.1 _ wq_1199) (fun _ h => h) hv hdg kk
theorem xg_X8_35 (E : xE p s m args c cc nL RX8 G A) (hw : xW G A s.heap ws H locs) (q0 : Nat) {fs : List Value} {v : Value} (he : ws[q0]? = some (a, .inr (8, fs))) (hv : fs[11]? = some v) (hdg : decode cc pc = .ok (.getfield 35, 3)) (kk : W p l e R s m args below meth c H locs cells slots Q (F0 m (pc + 3) ls (v :: rest))) : W p l e R s m args below meth c H locs cells slots Q (F0 m pc ls (.ref a :: rest)) := va_get (C := RX8) (T := TX8) (N := 32) E.1 E.2.1 E.2.2.2.2.1 inX8 E.2.2.2.1 E.2.2.2.2.2.1 hw.1 q0 he rfl 11 (by decide) (E.2.2.2.2.1 _ wq_1191) (fun _ h => h) hv hdg kk
theorem xg_X8_54 (E : xE p s m args c cc nL RX8 G A) (hw : xW G A s.heap ws H locs) (q0 : Nat) {fs : List Value} {v : Value} (he : ws[q0]? = some (a, .inr (8, fs))) (hv : fs[17]? = some v) (hdg : decode cc pc = .ok (.getfield 54, 3)) (kk : W p l e R s m args below meth c H locs cells slots Q (F0 m (pc + 3) ls (v :: rest))) : W p l e R s m args below meth c H locs cells slots Q (F0 m pc ls (.ref a :: rest)) := va_get (C := RX8) (T := TX8) (N := 32) E.1 E.2.1 E.2.2.2.2.1 inX8 E.2.2.2.1 E.2.2.2.2.2.1 hw.1 q0 he rfl 17 (by decide) (E.2.2.2.2.1 _ wq_1197) (fun _ h => h) hv hdg kk
theorem xg_X8_181 (E : xE p s m args c cc nL RX8 G A) (hw : xW G A s.heap ws H locs) (q0 : Nat) {fs : List Value} {v : Value} (he : ws[q0]? = some (a, .inr (8, fs))) (hv : fs[20]? = some v) (hdg : decode cc pc = .ok (.getfield 181, 3)) (kk : W p l e R s m args below meth c H locs cells slots Q (F0 m (pc + 3) ls (v :: rest))) : W p l e R s m args below meth c H locs cells slots Q (F0 m pc ls (.ref a :: rest)) := va_get (C := RX8) (T := TX8) (N := 32) E.1 E.2.1 E.2.2.2.2.1 inX8 E.2.2.2.1 E.2.2.2.2.2.1 hw.1 q0 he rfl 20 (by decide) (E.2.2.2.2.1 _ wq_1200) (fun _ h => h) hv hdg kk
theorem xg_X8_178 (E : xE p s m args c cc nL RX8 G A) (hw : xW G A s.heap ws H locs) (q0 : Nat) {fs : List Value} {v : Value} (he : ws[q0]? = some (a, .inr (8, fs))) (hv : fs[21]? = some v) (hdg : decode cc pc = .ok (.getfield 178, 3)) (kk : W p l e R s m args below meth c H locs cells slots Q (F0 m (pc + 3) ls (v :: rest))) : W p l e R s m args below meth c H locs cells slots Q (F0 m pc ls (.ref a :: rest)) := va_get (C := RX8) (T := TX8) (N := 32) E.1 E.2.1 E.2.2.2.2.1 inX8 E.2.2.2.1 E.2.2.2.2.2.1 hw.1 q0 he rfl 21 (by decide) (E.2.2.2.2.1 _ wq_1201) (fun _ h => h) hv hdg kk
theorem xg_X8_38 (E : xE p s m args c cc nL RX8 G A) (hw : xW G A s.heap ws H locs) (q0 : Nat) {fs : List Value} {v : Value} (he : ws[q0]? = some (a, .inr (8, fs))) (hv : fs[12]? = some v) (hdg : decode cc pc = .ok (.getfield 38, 3)) (kk : W p l e R s m args below meth c H locs cells slots Q (F0 m (pc + 3) ls (v :: rest))) : W p l e R s m args below meth c H locs cells slots Q (F0 m pc ls (.ref a :: rest)) := va_get (C := RX8) (T := TX8) (N := 32) E.1 E.2.1 E.2.2.2.2.1 inX8 E.2.2.2.1 E.2.2.2.2.2.1 hw.1 q0 he rfl 12 (by decide) (E.2.2.2.2.1 _ wq_1192) (fun _ h => h) hv hdg kk
theorem xg_X8_42 (E : xE p s m args c cc nL RX8 G A) (hw : xW G A s.heap ws H locs) (q0 : Nat) {fs : List Value} {v : Value} (he : ws[q0]? = some (a, .inr (8, fs))) (hv : fs[13]? = some v) (hdg : decode cc pc = .ok (.getfield 42, 3)) (kk : W p l e R s m args below meth c H locs cells slots Q (F0 m (pc + 3) ls (v :: rest))) : W p l e R s m args below meth c H locs cells slots Q (F0 m pc ls (.ref a :: rest)) := va_get (C := RX8) (T := TX8) (N := 32) E.1 E.2.1 E.2.2.2.2.1 inX8 E.2.2.2.1 E.2.2.2.2.2.1 hw.1 q0 he rfl 13 (by decide) (E.2.2.2.2.1 _ wq_1193) (fun _ h => h) hv hdg kk
theorem xg_X8_63 (E : xE p s m args c cc nL RX8 G A) (hw : xW G A s.heap ws H locs) (q0 : Nat) {fs : List Value} {v : Value} (he : ws[q0]? = some (a, .inr (8, fs))) (hv : fs[22]? = some v) (hdg : decode cc pc = .ok (.getfield 63, 3)) (kk : W p l e R s m args below meth c H locs cells slots Q (F0 m (pc + 3) ls (v :: rest))) : W p l e R s m args below meth c H locs cells slots Q (F0 m pc ls (.ref a :: rest)) := va_get (C := RX8) (T := TX8) (N := 32) E.1 E.2.1 E.2.2.2.2.1 inX8 E.2.2.2.1 E.2.2.2.2.2.1 hw.1 q0 he rfl 22 (by decide) (E.2.2.2.2.1 _ wq_1202) (fun _ h => h) hv hdg kk
theorem xg_X8_279 (E : xE p s m args c cc nL RX8 G A) (hw : xW G A s.heap ws H locs) (q0 : Nat) {fs : List Value} {v : Value} (he : ws[q0]? = some (a, .inr (8, fs))) (hv : fs[23]? = some v) (hdg : decode cc pc = .ok (.getfield 279, 3)) (kk : W p l e R s m args below meth c H locs cells slots Q (F0 m (pc + 3) ls (v :: rest))) : W p l e R s m args below meth c H locs cells slots Q (F0 m pc ls (.ref a :: rest)) := va_get (C := RX8) (T := TX8) (N := 32) E.1 E.2.1 E.2.2.2.2.1 inX8 E.2.2.2.1 E.2.2.2.2.2.1 hw.1 q0 he rfl 23 (by decide) (E.2.2.2.2.1 _ wq_1203) (fun _ h => h) hv hdg kk
theorem xp_X8_279 (E : xE p s m args c cc nL RX8 G A) (hw : xW G A s.heap ws H locs) (q0 : Nat) {fs : List Value} {v : Value} (he : ws[q0]? = some (a, .inr (8, fs))) (hn : narrow .int v = v) (hfit : fits .int v = true) (hlen : 23 < fs.length) (hnew : ws.set q0 (a, .inr (8, fs.set 23 v)) = ws') (hdg : decode cc pc = .ok (.putfield 279, 3)) (kk : ∀ (H1 : Heap) (locs1 : List Loc), xW G A s.heap ws' H1 locs1 → W p l e R s m args below meth c H1 locs1 cells slots Q (F0 m (pc + 3) ls rest)) : W p l e R s m args below meth c H locs cells slots Q (F0 m pc ls (v :: .ref a :: rest)) := by
  subst hnew
  exact va_put (C := RX8) (T := TX8) (N := 32) E.1 E.2.1 E.2.2.2.2.1 inX8 tyX8 tyX8_ok nmX8 E.2.2.2.1 E.2.2.2.2.2.1 hw.1 hw.2.1 hw.2.2 q0 he rfl 23 (by decide) (E.2.2.2.2.1 _ wq_1203) (fun _ h => h) rfl (by decide +kernel) hn hfit hlen hdg (fun H1 l1 a1 a2 a3 => kk H1 l1 ⟨a1, a2, a3⟩)
theorem xg_X8_69 (E : xE p s m args c cc nL RX8 G A) (hw : xW G A s.heap ws H locs) (q0 : Nat) {fs : List Value} {v : Value} (he : ws[q0]? = some (a, .inr (8, fs))) (hv : fs[26]? = some v) (hdg : decode cc pc = .ok (.getfield 69, 3)) (kk : W p l e R s m args below meth c H locs cells slots Q (F0 m (pc + 3) ls (v :: rest))) : W p l e R s m args below meth c H locs cells slots Q (F0 m pc ls (.ref a :: rest)) := va_get (C := RX8) (T := TX8) (N := 32) E.1 E.2.1 E.2.2.2.2.1 inX8 E.2.2.2.1 E.2.2.2.2.2.1 hw.1 q0 he rfl 26 (by decide) (E.2.2.2.2.1 _ wq_1206) (fun _ h => h) hv hdg kk
theorem xg_X8_300 (E : xE p s m args c cc nL RX8 G A) (hw : xW G A s.heap ws H locs) (q0 : Nat) {fs : List Value} {v : Value} (he : ws[q0]? = some (a, .inr (8, fs))) (hv : fs[25]? = some v) (hdg : decode cc pc = .ok (.getfield 300, 3)) (kk : W p l e R s m args below meth c H locs cells slots Q (F0 m (pc + 3) ls (v :: rest))) : W p l e R s m args below meth c H locs cells slots Q (F0 m pc ls (.ref a :: rest)) := va_get (C := RX8) (T := TX8) (N := 32) E.1 E.2.1 E.2.2.2.2.1 inX8 E.2.2.2.1 E.2.2.2.2.2.1 hw.1 q0 he rfl 25 (by decide) (E.2.2.2.2.1 _ wq_1205) (fun _ h => h) hv hdg kk
theorem xg_X8_66 (E : xE p s m args c cc nL RX8 G A) (hw : xW G A s.heap ws H locs) (q0 : Nat) {fs : List Value} {v : Value} (he : ws[q0]? = some (a, .inr (8, fs))) (hv : fs[24]? = some v) (hdg : decode cc pc = .ok (.getfield 66, 3)) (kk : W p l e R s m args below meth c H locs cells slots Q (F0 m (pc + 3) ls (v :: rest))) : W p l e R s m args below meth c H locs cells slots Q (F0 m pc ls (.ref a :: rest)) := va_get (C := RX8) (T := TX8) (N := 32) E.1 E.2.1 E.2.2.2.2.1 inX8 E.2.2.2.1 E.2.2.2.2.2.1 hw.1 q0 he rfl 24 (by decide) (E.2.2.2.2.1 _ wq_1204) (fun _ h => h) hv hdg kk
theorem xp_X8_300 (E : xE p s m args c cc nL RX8 G A) (hw : xW G A s.heap ws H locs) (q0 : Nat) {fs : List Value} {v : Value} (he : ws[q0]? = some (a, .inr (8, fs))) (hn : narrow .int v = v) (hfit : fits .int v = true) (hlen : 25 < fs.length) (hnew : ws.set q0 (a, .inr (8, fs.set 25 v)) = ws') (hdg : decode cc pc = .ok (.putfield 300, 3)) (kk : ∀ (H1 : Heap) (locs1 : List Loc), xW G A s.heap ws' H1 locs1 → W p l e R s m args below meth c H1 locs1 cells slots Q (F0 m (pc + 3) ls rest)) : W p l e R s m args below meth c H locs cells slots Q (F0 m pc ls (v :: .ref a :: rest)) := by
  subst hnew
  exact va_put (C := RX8) (T := TX8) (N := 32) E.1 E.2.1 E.2.2.2.2.1 inX8 tyX8 tyX8_ok nmX8 E.2.2.2.1 E.2.2.2.2.2.1 hw.1 hw.2.1 hw.2.2 q0 he rfl 25 (by decide) (E.2.2.2.2.1 _ wq_1205) (fun _ h => h) rfl (by decide +kernel) hn hfit hlen hdg (fun H1 l1 a1 a2 a3 => kk H1 l1 ⟨a1, a2, a3⟩)
theorem xg_X8_303 (E : xE p s m args c cc nL RX8 G A) (hw : xW G A s.heap ws H locs) (q0 : Nat) {fs : List Value} {v : Value} (he : ws[q0]? = some (a, .inr (8, fs))) (hv : fs[27]? = some v) (hdg : decode cc pc = .ok (.getfield 303, 3)) (kk : W p l e R s m args below meth c H locs cells slots Q (F0 m (pc + 3) ls (v :: rest))) : W p l e R s m args below meth c H locs cells slots Q (F0 m pc ls (.ref a :: rest)) := va_get (C := RX8) (T := TX8) (N := 32) E.1 E.2.1 E.2.2.2.2.1 inX8 E.2.2.2.1 E.2.2.2.2.2.1 hw.1 q0 he rfl 27 (by decide) (E.2.2.2.2.1 _ wq_1207) (fun _ h => h) hv hdg kk
theorem xg_X8_306 (E : xE p s m args c cc nL RX8 G A) (hw : xW G A s.heap ws H locs) (q0 : Nat) {fs : List Value} {v : Value} (he : ws[q0]? = some (a, .inr (8, fs))) (hv : fs[28]? = some v) (hdg : decode cc pc = .ok (.getfield 306, 3)) (kk : W p l e R s m args below meth c H locs cells slots Q (F0 m (pc + 3) ls (v :: rest))) : W p l e R s m args below meth c H locs cells slots Q (F0 m pc ls (.ref a :: rest)) := va_get (C := RX8) (T := TX8) (N := 32) E.1 E.2.1 E.2.2.2.2.1 inX8 E.2.2.2.1 E.2.2.2.2.2.1 hw.1 q0 he rfl 28 (by decide) (E.2.2.2.2.1 _ wq_1208) (fun _ h => h) hv hdg kk
theorem xp_X8_303 (E : xE p s m args c cc nL RX8 G A) (hw : xW G A s.heap ws H locs) (q0 : Nat) {fs : List Value} {v : Value} (he : ws[q0]? = some (a, .inr (8, fs))) (hn : narrow .int v = v) (hfit : fits .int v = true) (hlen : 27 < fs.length) (hnew : ws.set q0 (a, .inr (8, fs.set 27 v)) = ws') (hdg : decode cc pc = .ok (.putfield 303, 3)) (kk : ∀ (H1 : Heap) (locs1 : List Loc), xW G A s.heap ws' H1 locs1 → W p l e R s m args below meth c H1 locs1 cells slots Q (F0 m (pc + 3) ls rest)) : W p l e R s m args below meth c H locs cells slots Q (F0 m pc ls (v :: .ref a :: rest)) := by
  subst hnew
  exact va_put (C := RX8) (T := TX8) (N := 32) E.1 E.2.1 E.2.2.2.2.1 inX8 tyX8 tyX8_ok nmX8 E.2.2.2.1 E.2.2.2.2.2.1 hw.1 hw.2.1 hw.2.2 q0 he rfl 27 (by decide) (E.2.2.2.2.1 _ wq_1207) (fun _ h => h) rfl (by decide +kernel) hn hfit hlen hdg (fun H1 l1 a1 a2 a3 => kk H1 l1 ⟨a1, a2, a3⟩)
theorem xp_X8_312 (E : xE p s m args c cc nL RX8 G A) (hw : xW G A s.heap ws H locs) (q0 : Nat) {fs : List Value} {v : Value} (he : ws[q0]? = some (a, .inr (8, fs))) (hn : narrow .int v = v) (hfit : fits .int v = true) (hlen : 29 < fs.length) (hnew : ws.set q0 (a, .inr (8, fs.set 29 v)) = ws') (hdg : decode cc pc = .ok (.putfield 312, 3)) (kk : ∀ (H1 : Heap) (locs1 : List Loc), xW G A s.heap ws' H1 locs1 → W p l e R s m args below meth c H1 locs1 cells slots Q (F0 m (pc + 3) ls rest)) : W p l e R s m args below meth c H locs cells slots Q (F0 m pc ls (v :: .ref a :: rest)) := by
  subst hnew
  exact va_put (C := RX8) (T := TX8) (N := 32) E.1 E.2.1 E.2.2.2.2.1 inX8 tyX8 tyX8_ok nmX8 E.2.2.2.1 E.2.2.2.2.2.1 hw.1 hw.2.1 hw.2.2 q0 he rfl 29 (by decide) (E.2.2.2.2.1 _ wq_1209) (fun _ h => h) rfl (by decide +kernel) hn hfit hlen hdg (fun H1 l1 a1 a2 a3 => kk H1 l1 ⟨a1, a2, a3⟩)
theorem xg_X8_312 (E : xE p s m args c cc nL RX8 G A) (hw : xW G A s.heap ws H locs) (q0 : Nat) {fs : List Value} {v : Value} (he : ws[q0]? = some (a, .inr (8, fs))) (hv : fs[29]? = some v) (hdg : decode cc pc = .ok (.getfield 312, 3)) (kk : W p l e R s m args below meth c H locs cells slots Q (F0 m (pc + 3) ls (v :: rest))) : W p l e R s m args below meth c H locs cells slots Q (F0 m pc ls (.ref a :: rest)) := va_get (C := RX8) (T := TX8) (N := 32) E.1 E.2.1 E.2.2.2.2.1 inX8 E.2.2.2.1 E.2.2.2.2.2.1 hw.1 q0 he rfl 29 (by decide) (E.2.2.2.2.1 _ wq_1209) (fun _ h => h) hv hdg kk
theorem xp_X8_306 (E : xE p s m args c cc nL RX8 G A) (hw : xW G A s.heap ws H locs) (q0 : Nat) {fs : List Value} {v : Value} (he : ws[q0]? = some (a, .inr (8, fs))) (hn : narrow .int v = v) (hfit : fits .int v = true) (hlen : 28 < fs.length) (hnew : ws.set q0 (a, .inr (8, fs.set 28 v)) = ws') (hdg : decode cc pc = .ok (.putfield 306, 3)) (kk : ∀ (H1 : Heap) (locs1 : List Loc), xW G A s.heap ws' H1 locs1 → W p l e R s m args below meth c H1 locs1 cells slots Q (F0 m (pc + 3) ls rest)) : W p l e R s m args below meth c H locs cells slots Q (F0 m pc ls (v :: .ref a :: rest)) := by
  subst hnew
  exact va_put (C := RX8) (T := TX8) (N := 32) E.1 E.2.1 E.2.2.2.2.1 inX8 tyX8 tyX8_ok nmX8 E.2.2.2.1 E.2.2.2.2.2.1 hw.1 hw.2.1 hw.2.2 q0 he rfl 28 (by decide) (E.2.2.2.2.1 _ wq_1208) (fun _ h => h) rfl (by decide +kernel) hn hfit hlen hdg (fun H1 l1 a1 a2 a3 => kk H1 l1 ⟨a1, a2, a3⟩)
theorem xp_X8_315 (E : xE p s m args c cc nL RX8 G A) (hw : xW G A s.heap ws H locs) (q0 : Nat) {fs : List Value} {v : Value} (he : ws[q0]? = some (a, .inr (8, fs))) (hn : narrow .int v = v) (hfit : fits .int v = true) (hlen : 30 < fs.length) (hnew : ws.set q0 (a, .inr (8, fs.set 30 v)) = ws') (hdg : decode cc pc = .ok (.putfield 315, 3)) (kk : ∀ (H1 : Heap) (locs1 : List Loc), xW G A s.heap ws' H1 locs1 → W p l e R s m args below meth c H1 locs1 cells slots Q (F0 m (pc + 3) ls rest)) : W p l e R s m args below meth c H locs cells slots Q (F0 m pc ls (v :: .ref a :: rest)) := by
  subst hnew
  exact va_put (C := RX8) (T := TX8) (N := 32) E.1 E.2.1 E.2.2.2.2.1 inX8 tyX8 tyX8_ok nmX8 E.2.2.2.1 E.2.2.2.2.2.1 hw.1 hw.2.1 hw.2.2 q0 he rfl 30 (by decide) (E.2.2.2.2.1 _ wq_1210) (fun _ h => h) rfl (by decide +kernel) hn hfit hlen hdg (fun H1 l1 a1 a2 a3 => kk H1 l1 ⟨a1, a2, a3⟩)
theorem xg_X8_315 (E : xE p s m args c cc nL RX8 G A) (hw : xW G A s.heap ws H locs) (q0 : Nat) {fs : List Value} {v : Value} (he : ws[q0]? = some (a, .inr (8, fs))) (hv : fs[30]? = some v) (hdg : decode cc pc = .ok (.getfield 315, 3)) (kk : W p l e R s m args below meth c H locs cells slots Q (F0 m (pc + 3) ls (v :: rest))) : W p l e R s m args below meth c H locs cells slots Q (F0 m pc ls (.ref a :: rest)) := va_get (C := RX8) (T := TX8) (N := 32) E.1 E.2.1 E.2.2.2.2.1 inX8 E.2.2.2.1 E.2.2.2.2.2.1 hw.1 q0 he rfl 30 (by decide) (E.2.2.2.2.1 _ wq_1210) (fun _ h => h) hv hdg kk
theorem xg_X8_318 (E : xE p s m args c cc nL RX8 G A) (hw : xW G A s.heap ws H locs) (q0 : Nat) {fs : List Value} {v : Value} (he : ws[q0]? = some (a, .inr (8, fs))) (hv : fs[31]? = some v) (hdg : decode cc pc = .ok (.getfield 318, 3)) (kk : W p l e R s m args below meth c H locs cells slots Q (F0 m (pc + 3) ls (v :: rest))) : W p l e R s m args below meth c H locs cells slots Q (F0 m pc ls (.ref a :: rest)) := va_get (C := RX8) (T := TX8) (N := 32) E.1 E.2.1 E.2.2.2.2.1 inX8 E.2.2.2.1 E.2.2.2.2.2.1 hw.1 q0 he rfl 31 (by decide) (E.2.2.2.2.1 _ wq_1211) (fun _ h => h) hv hdg kk
theorem xp_X8_318 (E : xE p s m args c cc nL RX8 G A) (hw : xW G A s.heap ws H locs) (q0 : Nat) {fs : List Value} {v : Value} (he : ws[q0]? = some (a, .inr (8, fs))) (hn : narrow .boolean v = v) (hfit : fits .boolean v = true) (hlen : 31 < fs.length) (hnew : ws.set q0 (a, .inr (8, fs.set 31 v)) = ws') (hdg : decode cc pc = .ok (.putfield 318, 3)) (kk : ∀ (H1 : Heap) (locs1 : List Loc), xW G A s.heap ws' H1 locs1 → W p l e R s m args below meth c H1 locs1 cells slots Q (F0 m (pc + 3) ls rest)) : W p l e R s m args below meth c H locs cells slots Q (F0 m pc ls (v :: .ref a :: rest)) := by
  subst hnew
  exact va_put (C := RX8) (T := TX8) (N := 32) E.1 E.2.1 E.2.2.2.2.1 inX8 tyX8 tyX8_ok nmX8 E.2.2.2.1 E.2.2.2.2.2.1 hw.1 hw.2.1 hw.2.2 q0 he rfl 31 (by decide) (E.2.2.2.2.1 _ wq_1211) (fun _ h => h) rfl (by decide +kernel) hn hfit hlen hdg (fun H1 l1 a1 a2 a3 => kk H1 l1 ⟨a1, a2, a3⟩)
theorem xg_X8_17 (E : xE p s m args c cc nL RX8 G A) (hw : xW G A s.heap ws H locs) (q0 : Nat) {fs : List Value} {v : Value} (he : ws[q0]? = some (a, .inr (8, fs))) (hv : fs[2]? = some v) (hdg : decode cc pc = .ok (.getfield 17, 3)) (kk : W p l e R s m args below meth c H locs cells slots Q (F0 m (pc + 3) ls (v :: rest))) : W p l e R s m args below meth c H locs cells slots Q (F0 m pc ls (.ref a :: rest)) := va_get (C := RX8) (T := TX8) (N := 32) E.1 E.2.1 E.2.2.2.2.1 inX8 E.2.2.2.1 E.2.2.2.2.2.1 hw.1 q0 he rfl 2 (by decide) (E.2.2.2.2.1 _ wq_1182) (fun _ h => h) hv hdg kk
end FR
