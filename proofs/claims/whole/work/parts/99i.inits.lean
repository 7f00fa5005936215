/-! the constructors that make rows alone (printed by wip/gen/inits.py) -/
theorem up_ne {α : Type} {f : Nat → α} {k j : Nat} {v : α} (h : j ≠ k) : va_up f k v j = f j := if_neg h
theorem up_eq {α : Type} {f : Nat → α} {k : Nat} {v : α} : va_up f k v k = v := if_pos rfl
theorem upM_lt {κ : Kp} {E : Nat → va_E} {n k : Nat} (h : k < n) : upM κ E n k = E k := by unfold upM; rw [if_neg (by omega), if_neg (by omega)]
theorem wi_66 : Cond.arrayClass .int ∈ gw := gw_t 66 (by decide +kernel) (by decide +kernel)
theorem wi_84 : Cond.arrayClass .boolean ∈ gw := gw_t 84 (by decide +kernel) (by decide +kernel)
theorem wi_104 : Cond.arrayClass .long ∈ gw := gw_t 104 (by decide +kernel) (by decide +kernel)
theorem d_Frm_init_0 : decode b_Frm_init 0 = .ok (.aload_n 0, 1) := by decide +kernel
theorem d_Frm_init_1 : decode b_Frm_init 1 = .ok (.invokespecial 3, 3) := by decide +kernel
theorem wi_17 : Cond.instanceMethod Lib.objectInit ∈ gw := gw_t 17 (by decide +kernel) (by decide +kernel)
theorem wi_18 : Cond.code Lib.objectInit ⟨#[0xb1]⟩ 1 none ∈ gw := gw_t 18 rfl rfl
theorem wi_148 : Cond.methodLink "NetForms$Form" (3 : Nat) Lib.objectInit ∈ gw := gw_t 148 (by decide +kernel) (by decide +kernel)
theorem d_Frm_init_4 : decode b_Frm_init 4 = .ok (.aload_n 0, 1) := by decide +kernel
theorem d_Frm_init_5 : decode b_Frm_init 5 = .ok (.bipush 12, 2) := by decide +kernel
theorem d_Frm_init_7 : decode b_Frm_init 7 = .ok (.newarray .int, 2) := by decide +kernel
theorem d_Frm_init_9 : decode b_Frm_init 9 = .ok (.putfield 9, 3) := by decide +kernel
theorem wi_151 : Cond.fieldLink "NetForms$Form" (9 : Nat) "NetForms$Form" "numbers" "[I" ∈ gw := gw_t 151 (by decide +kernel) (by decide +kernel)
theorem d_Frm_init_12 : decode b_Frm_init 12 = .ok (.return_, 1) := by decide +kernel
theorem d_Net_init_0 : decode b_Net_init 0 = .ok (.aload_n 0, 1) := by decide +kernel
theorem d_Net_init_1 : decode b_Net_init 1 = .ok (.invokespecial 3, 3) := by decide +kernel
theorem wi_24 : Cond.methodLink "NetForms$Net" (3 : Nat) Lib.objectInit ∈ gw := gw_t 24 (by decide +kernel) (by decide +kernel)
theorem d_Net_init_4 : decode b_Net_init 4 = .ok (.aload_n 0, 1) := by decide +kernel
theorem d_Net_init_5 : decode b_Net_init 5 = .ok (.bipush 12, 2) := by decide +kernel
theorem d_Net_init_7 : decode b_Net_init 7 = .ok (.newarray .int, 2) := by decide +kernel
theorem d_Net_init_9 : decode b_Net_init 9 = .ok (.putfield 9, 3) := by decide +kernel
theorem wi_34 : Cond.fieldLink "NetForms$Net" (9 : Nat) "NetForms$Net" "begins" "[I" ∈ gw := gw_t 34 (by decide +kernel) (by decide +kernel)
theorem d_Net_init_12 : decode b_Net_init 12 = .ok (.aload_n 0, 1) := by decide +kernel
theorem d_Net_init_13 : decode b_Net_init 13 = .ok (.bipush 12, 2) := by decide +kernel
theorem d_Net_init_15 : decode b_Net_init 15 = .ok (.newarray .int, 2) := by decide +kernel
theorem d_Net_init_17 : decode b_Net_init 17 = .ok (.putfield 15, 3) := by decide +kernel
theorem wi_38 : Cond.fieldLink "NetForms$Net" (15 : Nat) "NetForms$Net" "ends" "[I" ∈ gw := gw_t 38 (by decide +kernel) (by decide +kernel)
theorem d_Net_init_20 : decode b_Net_init 20 = .ok (.aload_n 0, 1) := by decide +kernel
theorem d_Net_init_21 : decode b_Net_init 21 = .ok (.bipush 10, 2) := by decide +kernel
theorem d_Net_init_23 : decode b_Net_init 23 = .ok (.newarray .int, 2) := by decide +kernel
theorem d_Net_init_25 : decode b_Net_init 25 = .ok (.putfield 18, 3) := by decide +kernel
theorem wi_42 : Cond.fieldLink "NetForms$Net" (18 : Nat) "NetForms$Net" "firsts" "[I" ∈ gw := gw_t 42 (by decide +kernel) (by decide +kernel)
theorem d_Net_init_28 : decode b_Net_init 28 = .ok (.aload_n 0, 1) := by decide +kernel
theorem d_Net_init_29 : decode b_Net_init 29 = .ok (.bipush 10, 2) := by decide +kernel
theorem d_Net_init_31 : decode b_Net_init 31 = .ok (.newarray .int, 2) := by decide +kernel
theorem d_Net_init_33 : decode b_Net_init 33 = .ok (.putfield 21, 3) := by decide +kernel
theorem wi_43 : Cond.fieldLink "NetForms$Net" (21 : Nat) "NetForms$Net" "seconds" "[I" ∈ gw := gw_t 43 (by decide +kernel) (by decide +kernel)
theorem d_Net_init_36 : decode b_Net_init 36 = .ok (.aload_n 0, 1) := by decide +kernel
theorem d_Net_init_37 : decode b_Net_init 37 = .ok (.bipush 10, 2) := by decide +kernel
theorem d_Net_init_39 : decode b_Net_init 39 = .ok (.newarray .int, 2) := by decide +kernel
theorem d_Net_init_41 : decode b_Net_init 41 = .ok (.putfield 24, 3) := by decide +kernel
theorem wi_44 : Cond.fieldLink "NetForms$Net" (24 : Nat) "NetForms$Net" "acrosses" "[I" ∈ gw := gw_t 44 (by decide +kernel) (by decide +kernel)
theorem d_Net_init_44 : decode b_Net_init 44 = .ok (.aload_n 0, 1) := by decide +kernel
theorem d_Net_init_45 : decode b_Net_init 45 = .ok (.bipush 6, 2) := by decide +kernel
theorem d_Net_init_47 : decode b_Net_init 47 = .ok (.newarray .int, 2) := by decide +kernel
theorem d_Net_init_49 : decode b_Net_init 49 = .ok (.putfield 27, 3) := by decide +kernel
theorem wi_45 : Cond.fieldLink "NetForms$Net" (27 : Nat) "NetForms$Net" "leasts" "[I" ∈ gw := gw_t 45 (by decide +kernel) (by decide +kernel)
theorem d_Net_init_52 : decode b_Net_init 52 = .ok (.return_, 1) := by decide +kernel
theorem d_Wal_init_0 : decode b_Wal_init 0 = .ok (.aload_n 0, 1) := by decide +kernel
theorem d_Wal_init_1 : decode b_Wal_init 1 = .ok (.invokespecial 3, 3) := by decide +kernel
theorem wi_74 : Cond.methodLink "NetForms$Walls" (3 : Nat) Lib.objectInit ∈ gw := gw_t 74 (by decide +kernel) (by decide +kernel)
theorem d_Wal_init_4 : decode b_Wal_init 4 = .ok (.aload_n 0, 1) := by decide +kernel
theorem d_Wal_init_5 : decode b_Wal_init 5 = .ok (.bipush 6, 2) := by decide +kernel
theorem d_Wal_init_7 : decode b_Wal_init 7 = .ok (.newarray .boolean, 2) := by decide +kernel
theorem d_Wal_init_9 : decode b_Wal_init 9 = .ok (.putfield 9, 3) := by decide +kernel
theorem wi_75 : Cond.fieldLink "NetForms$Walls" (9 : Nat) "NetForms$Walls" "there" "[Z" ∈ gw := gw_t 75 (by decide +kernel) (by decide +kernel)
theorem d_Wal_init_12 : decode b_Wal_init 12 = .ok (.aload_n 0, 1) := by decide +kernel
theorem d_Wal_init_13 : decode b_Wal_init 13 = .ok (.bipush 6, 2) := by decide +kernel
theorem d_Wal_init_15 : decode b_Wal_init 15 = .ok (.newarray .int, 2) := by decide +kernel
theorem d_Wal_init_17 : decode b_Wal_init 17 = .ok (.putfield 15, 3) := by decide +kernel
theorem wi_77 : Cond.fieldLink "NetForms$Walls" (15 : Nat) "NetForms$Walls" "numbers" "[I" ∈ gw := gw_t 77 (by decide +kernel) (by decide +kernel)
theorem d_Wal_init_20 : decode b_Wal_init 20 = .ok (.return_, 1) := by decide +kernel
theorem d_Wav_init_0 : decode b_Wav_init 0 = .ok (.aload_n 0, 1) := by decide +kernel
theorem d_Wav_init_1 : decode b_Wav_init 1 = .ok (.invokespecial 3, 3) := by decide +kernel
theorem wi_90 : Cond.methodLink "NetForms$Wave" (3 : Nat) Lib.objectInit ∈ gw := gw_t 90 (by decide +kernel) (by decide +kernel)
theorem d_Wav_init_4 : decode b_Wav_init 4 = .ok (.aload_n 0, 1) := by decide +kernel
theorem d_Wav_init_5 : decode b_Wav_init 5 = .ok (.bipush 6, 2) := by decide +kernel
theorem d_Wav_init_7 : decode b_Wav_init 7 = .ok (.newarray .long, 2) := by decide +kernel
theorem d_Wav_init_9 : decode b_Wav_init 9 = .ok (.putfield 9, 3) := by decide +kernel
theorem wi_93 : Cond.fieldLink "NetForms$Wave" (9 : Nat) "NetForms$Wave" "levels" "[J" ∈ gw := gw_t 93 (by decide +kernel) (by decide +kernel)
theorem d_Wav_init_12 : decode b_Wav_init 12 = .ok (.aload_n 0, 1) := by decide +kernel
theorem d_Wav_init_13 : decode b_Wav_init 13 = .ok (.bipush 12, 2) := by decide +kernel
theorem d_Wav_init_15 : decode b_Wav_init 15 = .ok (.newarray .long, 2) := by decide +kernel
theorem d_Wav_init_17 : decode b_Wav_init 17 = .ok (.putfield 15, 3) := by decide +kernel
theorem wi_95 : Cond.fieldLink "NetForms$Wave" (15 : Nat) "NetForms$Wave" "flows" "[J" ∈ gw := gw_t 95 (by decide +kernel) (by decide +kernel)
theorem d_Wav_init_20 : decode b_Wav_init 20 = .ok (.return_, 1) := by decide +kernel
theorem d_Cli_init_0 : decode b_Cli_init 0 = .ok (.aload_n 0, 1) := by decide +kernel
theorem d_Cli_init_1 : decode b_Cli_init 1 = .ok (.invokespecial 3, 3) := by decide +kernel
theorem wi_136 : Cond.methodLink "NetForms$Climb" (3 : Nat) Lib.objectInit ∈ gw := gw_t 136 (by decide +kernel) (by decide +kernel)
theorem d_Cli_init_4 : decode b_Cli_init 4 = .ok (.aload_n 0, 1) := by decide +kernel
theorem d_Cli_init_5 : decode b_Cli_init 5 = .ok (.bipush 6, 2) := by decide +kernel
theorem d_Cli_init_7 : decode b_Cli_init 7 = .ok (.newarray .long, 2) := by decide +kernel
theorem d_Cli_init_9 : decode b_Cli_init 9 = .ok (.putfield 9, 3) := by decide +kernel
theorem wi_137 : Cond.fieldLink "NetForms$Climb" (9 : Nat) "NetForms$Climb" "climbed" "[J" ∈ gw := gw_t 137 (by decide +kernel) (by decide +kernel)
theorem d_Cli_init_12 : decode b_Cli_init 12 = .ok (.aload_n 0, 1) := by decide +kernel
theorem d_Cli_init_13 : decode b_Cli_init 13 = .ok (.bipush 6, 2) := by decide +kernel
theorem d_Cli_init_15 : decode b_Cli_init 15 = .ok (.newarray .int, 2) := by decide +kernel
theorem d_Cli_init_17 : decode b_Cli_init 17 = .ok (.putfield 15, 3) := by decide +kernel
theorem wi_138 : Cond.fieldLink "NetForms$Climb" (15 : Nat) "NetForms$Climb" "leasts" "[I" ∈ gw := gw_t 138 (by decide +kernel) (by decide +kernel)
theorem d_Cli_init_20 : decode b_Cli_init 20 = .ok (.return_, 1) := by decide +kernel
theorem d_Bal_init_0 : decode b_Bal_init 0 = .ok (.aload_n 0, 1) := by decide +kernel
theorem d_Bal_init_1 : decode b_Bal_init 1 = .ok (.invokespecial 1, 3) := by decide +kernel
theorem wi_110 : Cond.methodLink "NetForms$Balance" (1 : Nat) Lib.objectInit ∈ gw := gw_t 110 (by decide +kernel) (by decide +kernel)
theorem d_Bal_init_4 : decode b_Bal_init 4 = .ok (.aload_n 0, 1) := by decide +kernel
theorem d_Bal_init_5 : decode b_Bal_init 5 = .ok (.bipush 10, 2) := by decide +kernel
theorem d_Bal_init_7 : decode b_Bal_init 7 = .ok (.bipush 10, 2) := by decide +kernel
theorem d_Bal_init_9 : decode b_Bal_init 9 = .ok (.multianewarray 9 2, 4) := by decide +kernel
theorem wi_111 : Cond.classLink "NetForms$Balance" (9 : Nat) "[[J" ∈ gw := gw_t 111 (by decide +kernel) (by decide +kernel)
theorem d_Bal_init_13 : decode b_Bal_init 13 = .ok (.putfield 11, 3) := by decide +kernel
theorem wi_114 : Cond.fieldLink "NetForms$Balance" (11 : Nat) "NetForms$Balance" "table" "[[J" ∈ gw := gw_t 114 (by decide +kernel) (by decide +kernel)
theorem d_Bal_init_16 : decode b_Bal_init 16 = .ok (.aload_n 0, 1) := by decide +kernel
theorem d_Bal_init_17 : decode b_Bal_init 17 = .ok (.bipush 10, 2) := by decide +kernel
theorem d_Bal_init_19 : decode b_Bal_init 19 = .ok (.newarray .long, 2) := by decide +kernel
theorem d_Bal_init_21 : decode b_Bal_init 21 = .ok (.putfield 14, 3) := by decide +kernel
theorem wi_115 : Cond.fieldLink "NetForms$Balance" (14 : Nat) "NetForms$Balance" "dues" "[J" ∈ gw := gw_t 115 (by decide +kernel) (by decide +kernel)
theorem d_Bal_init_24 : decode b_Bal_init 24 = .ok (.return_, 1) := by decide +kernel
theorem d_Mo_init_0 : decode b_Mo_init 0 = .ok (.aload_n 0, 1) := by decide +kernel
theorem d_Mo_init_1 : decode b_Mo_init 1 = .ok (.invokespecial 1, 3) := by decide +kernel
theorem wi_520 : Cond.methodLink "NetFormsModel" (1 : Nat) Lib.objectInit ∈ gw := gw_t 520 (by decide +kernel) (by decide +kernel)
theorem d_Mo_init_4 : decode b_Mo_init 4 = .ok (.aload_n 0, 1) := by decide +kernel
theorem d_Mo_init_5 : decode b_Mo_init 5 = .ok (.iconst 1, 1) := by decide +kernel
theorem d_Mo_init_6 : decode b_Mo_init 6 = .ok (.putfield 7, 3) := by decide +kernel
theorem wi_521 : Cond.fieldLink "NetFormsModel" (7 : Nat) "NetFormsModel" "points" "I" ∈ gw := gw_t 521 (by decide +kernel) (by decide +kernel)
theorem d_Mo_init_9 : decode b_Mo_init 9 = .ok (.aload_n 0, 1) := by decide +kernel
theorem d_Mo_init_10 : decode b_Mo_init 10 = .ok (.bipush 12, 2) := by decide +kernel
theorem d_Mo_init_12 : decode b_Mo_init 12 = .ok (.newarray .int, 2) := by decide +kernel
theorem d_Mo_init_14 : decode b_Mo_init 14 = .ok (.putfield 13, 3) := by decide +kernel
theorem wi_524 : Cond.fieldLink "NetFormsModel" (13 : Nat) "NetFormsModel" "begin" "[I" ∈ gw := gw_t 524 (by decide +kernel) (by decide +kernel)
theorem d_Mo_init_17 : decode b_Mo_init 17 = .ok (.aload_n 0, 1) := by decide +kernel
theorem d_Mo_init_18 : decode b_Mo_init 18 = .ok (.bipush 12, 2) := by decide +kernel
theorem d_Mo_init_20 : decode b_Mo_init 20 = .ok (.newarray .int, 2) := by decide +kernel
theorem d_Mo_init_22 : decode b_Mo_init 22 = .ok (.putfield 17, 3) := by decide +kernel
theorem wi_525 : Cond.fieldLink "NetFormsModel" (17 : Nat) "NetFormsModel" "end" "[I" ∈ gw := gw_t 525 (by decide +kernel) (by decide +kernel)
theorem d_Mo_init_25 : decode b_Mo_init 25 = .ok (.aload_n 0, 1) := by decide +kernel
theorem d_Mo_init_26 : decode b_Mo_init 26 = .ok (.bipush 10, 2) := by decide +kernel
theorem d_Mo_init_28 : decode b_Mo_init 28 = .ok (.newarray .int, 2) := by decide +kernel
theorem d_Mo_init_30 : decode b_Mo_init 30 = .ok (.putfield 20, 3) := by decide +kernel
theorem wi_526 : Cond.fieldLink "NetFormsModel" (20 : Nat) "NetFormsModel" "first" "[I" ∈ gw := gw_t 526 (by decide +kernel) (by decide +kernel)
theorem d_Mo_init_33 : decode b_Mo_init 33 = .ok (.aload_n 0, 1) := by decide +kernel
theorem d_Mo_init_34 : decode b_Mo_init 34 = .ok (.bipush 10, 2) := by decide +kernel
theorem d_Mo_init_36 : decode b_Mo_init 36 = .ok (.newarray .int, 2) := by decide +kernel
theorem d_Mo_init_38 : decode b_Mo_init 38 = .ok (.putfield 23, 3) := by decide +kernel
theorem wi_527 : Cond.fieldLink "NetFormsModel" (23 : Nat) "NetFormsModel" "second" "[I" ∈ gw := gw_t 527 (by decide +kernel) (by decide +kernel)
theorem d_Mo_init_41 : decode b_Mo_init 41 = .ok (.aload_n 0, 1) := by decide +kernel
theorem d_Mo_init_42 : decode b_Mo_init 42 = .ok (.bipush 10, 2) := by decide +kernel
theorem d_Mo_init_44 : decode b_Mo_init 44 = .ok (.newarray .int, 2) := by decide +kernel
theorem d_Mo_init_46 : decode b_Mo_init 46 = .ok (.putfield 26, 3) := by decide +kernel
theorem wi_528 : Cond.fieldLink "NetFormsModel" (26 : Nat) "NetFormsModel" "third" "[I" ∈ gw := gw_t 528 (by decide +kernel) (by decide +kernel)
theorem d_Mo_init_49 : decode b_Mo_init 49 = .ok (.aload_n 0, 1) := by decide +kernel
theorem d_Mo_init_50 : decode b_Mo_init 50 = .ok (.bipush 12, 2) := by decide +kernel
theorem d_Mo_init_52 : decode b_Mo_init 52 = .ok (.newarray .int, 2) := by decide +kernel
theorem d_Mo_init_54 : decode b_Mo_init 54 = .ok (.putfield 29, 3) := by decide +kernel
theorem wi_529 : Cond.fieldLink "NetFormsModel" (29 : Nat) "NetFormsModel" "degree" "[I" ∈ gw := gw_t 529 (by decide +kernel) (by decide +kernel)
theorem d_Mo_init_57 : decode b_Mo_init 57 = .ok (.aload_n 0, 1) := by decide +kernel
theorem d_Mo_init_58 : decode b_Mo_init 58 = .ok (.sipush 144, 3) := by decide +kernel
theorem d_Mo_init_61 : decode b_Mo_init 61 = .ok (.newarray .int, 2) := by decide +kernel
theorem d_Mo_init_63 : decode b_Mo_init 63 = .ok (.putfield 32, 3) := by decide +kernel
theorem wi_530 : Cond.fieldLink "NetFormsModel" (32 : Nat) "NetFormsModel" "number" "[I" ∈ gw := gw_t 530 (by decide +kernel) (by decide +kernel)
theorem d_Mo_init_66 : decode b_Mo_init 66 = .ok (.aload_n 0, 1) := by decide +kernel
theorem d_Mo_init_67 : decode b_Mo_init 67 = .ok (.bipush 6, 2) := by decide +kernel
theorem d_Mo_init_69 : decode b_Mo_init 69 = .ok (.newarray .boolean, 2) := by decide +kernel
theorem d_Mo_init_71 : decode b_Mo_init 71 = .ok (.putfield 35, 3) := by decide +kernel
theorem wi_531 : Cond.fieldLink "NetFormsModel" (35 : Nat) "NetFormsModel" "isWall" "[Z" ∈ gw := gw_t 531 (by decide +kernel) (by decide +kernel)
theorem d_Mo_init_74 : decode b_Mo_init 74 = .ok (.aload_n 0, 1) := by decide +kernel
theorem d_Mo_init_75 : decode b_Mo_init 75 = .ok (.bipush 6, 2) := by decide +kernel
theorem d_Mo_init_77 : decode b_Mo_init 77 = .ok (.newarray .int, 2) := by decide +kernel
theorem d_Mo_init_79 : decode b_Mo_init 79 = .ok (.putfield 39, 3) := by decide +kernel
theorem wi_532 : Cond.fieldLink "NetFormsModel" (39 : Nat) "NetFormsModel" "wall" "[I" ∈ gw := gw_t 532 (by decide +kernel) (by decide +kernel)
theorem d_Mo_init_82 : decode b_Mo_init 82 = .ok (.aload_n 0, 1) := by decide +kernel
theorem d_Mo_init_83 : decode b_Mo_init 83 = .ok (.bipush 6, 2) := by decide +kernel
theorem d_Mo_init_85 : decode b_Mo_init 85 = .ok (.newarray .long, 2) := by decide +kernel
theorem d_Mo_init_87 : decode b_Mo_init 87 = .ok (.putfield 42, 3) := by decide +kernel
theorem wi_533 : Cond.fieldLink "NetFormsModel" (42 : Nat) "NetFormsModel" "height" "[J" ∈ gw := gw_t 533 (by decide +kernel) (by decide +kernel)
theorem d_Mo_init_90 : decode b_Mo_init 90 = .ok (.aload_n 0, 1) := by decide +kernel
theorem d_Mo_init_91 : decode b_Mo_init 91 = .ok (.bipush 12, 2) := by decide +kernel
theorem d_Mo_init_93 : decode b_Mo_init 93 = .ok (.newarray .long, 2) := by decide +kernel
theorem d_Mo_init_95 : decode b_Mo_init 95 = .ok (.putfield 46, 3) := by decide +kernel
theorem wi_534 : Cond.fieldLink "NetFormsModel" (46 : Nat) "NetFormsModel" "flow" "[J" ∈ gw := gw_t 534 (by decide +kernel) (by decide +kernel)
theorem d_Mo_init_98 : decode b_Mo_init 98 = .ok (.aload_n 0, 1) := by decide +kernel
theorem d_Mo_init_99 : decode b_Mo_init 99 = .ok (.bipush 12, 2) := by decide +kernel
theorem d_Mo_init_101 : decode b_Mo_init 101 = .ok (.newarray .long, 2) := by decide +kernel
theorem d_Mo_init_103 : decode b_Mo_init 103 = .ok (.putfield 49, 3) := by decide +kernel
theorem wi_536 : Cond.fieldLink "NetFormsModel" (49 : Nat) "NetFormsModel" "made" "[J" ∈ gw := gw_t 536 (by decide +kernel) (by decide +kernel)
theorem d_Mo_init_106 : decode b_Mo_init 106 = .ok (.aload_n 0, 1) := by decide +kernel
theorem d_Mo_init_107 : decode b_Mo_init 107 = .ok (.sipush 156, 3) := by decide +kernel
theorem d_Mo_init_110 : decode b_Mo_init 110 = .ok (.newarray .long, 2) := by decide +kernel
theorem d_Mo_init_112 : decode b_Mo_init 112 = .ok (.putfield 52, 3) := by decide +kernel
theorem wi_537 : Cond.fieldLink "NetFormsModel" (52 : Nat) "NetFormsModel" "table" "[J" ∈ gw := gw_t 537 (by decide +kernel) (by decide +kernel)
theorem d_Mo_init_115 : decode b_Mo_init 115 = .ok (.aload_n 0, 1) := by decide +kernel
theorem d_Mo_init_116 : decode b_Mo_init 116 = .ok (.bipush 12, 2) := by decide +kernel
theorem d_Mo_init_118 : decode b_Mo_init 118 = .ok (.newarray .int, 2) := by decide +kernel
theorem d_Mo_init_120 : decode b_Mo_init 120 = .ok (.putfield 55, 3) := by decide +kernel
theorem wi_538 : Cond.fieldLink "NetFormsModel" (55 : Nat) "NetFormsModel" "placeOf" "[I" ∈ gw := gw_t 538 (by decide +kernel) (by decide +kernel)
theorem d_Mo_init_123 : decode b_Mo_init 123 = .ok (.aload_n 0, 1) := by decide +kernel
theorem d_Mo_init_124 : decode b_Mo_init 124 = .ok (.bipush 12, 2) := by decide +kernel
theorem d_Mo_init_126 : decode b_Mo_init 126 = .ok (.newarray .long, 2) := by decide +kernel
theorem d_Mo_init_128 : decode b_Mo_init 128 = .ok (.putfield 58, 3) := by decide +kernel
theorem wi_540 : Cond.fieldLink "NetFormsModel" (58 : Nat) "NetFormsModel" "solved" "[J" ∈ gw := gw_t 540 (by decide +kernel) (by decide +kernel)
theorem d_Mo_init_131 : decode b_Mo_init 131 = .ok (.aload_n 0, 1) := by decide +kernel
theorem d_Mo_init_132 : decode b_Mo_init 132 = .ok (.bipush 6, 2) := by decide +kernel
theorem d_Mo_init_134 : decode b_Mo_init 134 = .ok (.newarray .int, 2) := by decide +kernel
theorem d_Mo_init_136 : decode b_Mo_init 136 = .ok (.putfield 61, 3) := by decide +kernel
theorem wi_541 : Cond.fieldLink "NetFormsModel" (61 : Nat) "NetFormsModel" "partOf" "[I" ∈ gw := gw_t 541 (by decide +kernel) (by decide +kernel)
theorem d_Mo_init_139 : decode b_Mo_init 139 = .ok (.aload_n 0, 1) := by decide +kernel
theorem d_Mo_init_140 : decode b_Mo_init 140 = .ok (.bipush 6, 2) := by decide +kernel
theorem d_Mo_init_142 : decode b_Mo_init 142 = .ok (.newarray .long, 2) := by decide +kernel
theorem d_Mo_init_144 : decode b_Mo_init 144 = .ok (.putfield 64, 3) := by decide +kernel
theorem wi_542 : Cond.fieldLink "NetFormsModel" (64 : Nat) "NetFormsModel" "raised" "[J" ∈ gw := gw_t 542 (by decide +kernel) (by decide +kernel)
theorem d_Mo_init_147 : decode b_Mo_init 147 = .ok (.aload_n 0, 1) := by decide +kernel
theorem d_Mo_init_148 : decode b_Mo_init 148 = .ok (.bipush 12, 2) := by decide +kernel
theorem d_Mo_init_150 : decode b_Mo_init 150 = .ok (.newarray .long, 2) := by decide +kernel
theorem d_Mo_init_152 : decode b_Mo_init 152 = .ok (.putfield 67, 3) := by decide +kernel
theorem wi_543 : Cond.fieldLink "NetFormsModel" (67 : Nat) "NetFormsModel" "slopePart" "[J" ∈ gw := gw_t 543 (by decide +kernel) (by decide +kernel)
theorem d_Mo_init_155 : decode b_Mo_init 155 = .ok (.aload_n 0, 1) := by decide +kernel
theorem d_Mo_init_156 : decode b_Mo_init 156 = .ok (.bipush 12, 2) := by decide +kernel
theorem d_Mo_init_158 : decode b_Mo_init 158 = .ok (.newarray .long, 2) := by decide +kernel
theorem d_Mo_init_160 : decode b_Mo_init 160 = .ok (.putfield 70, 3) := by decide +kernel
theorem wi_544 : Cond.fieldLink "NetFormsModel" (70 : Nat) "NetFormsModel" "rimPart" "[J" ∈ gw := gw_t 544 (by decide +kernel) (by decide +kernel)
theorem d_Mo_init_163 : decode b_Mo_init 163 = .ok (.return_, 1) := by decide +kernel
def u_Frm (κ : Kp) (E : Nat → va_E) (k n : Nat) : Nat → va_E := (va_up (va_up E (n + 0) (eI κ 12 (fun _ => 0))) k (.inr (2, [.int 0, .ref (κ.1 + (n + 0))])))
theorem c_Frm_init {l : Launch} {κ : Kp} {k n : Nat} {E : Nat → va_E} (hk : k < n) (he : E k = .inr (2, [.int 0, .null])) : Et l κ y_Frm_init b_Frm_init 1 { frames := 1, cells := 1, slots := 12, locals := 20 } [.ref (κ.1 + k)] n E 1 12 (n + 1) (u_Frm κ E k n) := by
  refine Et_of (by decide +kernel) (Nat.le_of_ble_eq_true rfl) (fun γ hg C R hnm => ?_)
  refine E_aload_n C 0 d_Frm_init_0 rfl rfl ?_
  refine E_objInit C wi_148 wi_17 wi_18 d_Frm_init_1 (by decide) (by decide) (by decide) ?_
  refine E_aload_n C 0 d_Frm_init_4 rfl rfl ?_
  refine E_bipush C (v := 12) d_Frm_init_5 (by decide) ?_
  refine E_newI C wi_66 (N := 12) (by decide) (by decide) (by decide) (by decide) (by decide) d_Frm_init_7 ?_
  refine E_putF C hnm (k := k) (j := 1) (T := T_Frm) (N := 2) (ci := 2) (ty := .array .int) (fs := [.int 0, .null]) (v := .ref (κ.1 + (n + 0))) (by omega) ((up_ne (by omega)).trans he) rfl (by decide) in_Frm ty_Frm tk_Frm nm_Frm wi_151 rfl rfl (by decide +kernel) rfl rfl (Nat.le_of_ble_eq_true rfl) d_Frm_init_9 ?_
  exact E_vret C R d_Frm_init_12 (fun _ _ => rfl)
def u_Net (κ : Kp) (E : Nat → va_E) (k n : Nat) : Nat → va_E := (va_up (va_up (va_up (va_up (va_up (va_up (va_up (va_up (va_up (va_up (va_up (va_up E (n + 0) (eI κ 12 (fun _ => 0))) k (.inr (3, [.int 0, .int 0, .int 0, .ref (κ.1 + (n + 0)), .null, .null, .null, .null, .null]))) (n + 1) (eI κ 12 (fun _ => 0))) k (.inr (3, [.int 0, .int 0, .int 0, .ref (κ.1 + (n + 0)), .ref (κ.1 + (n + 1)), .null, .null, .null, .null]))) (n + 2) (eI κ 10 (fun _ => 0))) k (.inr (3, [.int 0, .int 0, .int 0, .ref (κ.1 + (n + 0)), .ref (κ.1 + (n + 1)), .ref (κ.1 + (n + 2)), .null, .null, .null]))) (n + 3) (eI κ 10 (fun _ => 0))) k (.inr (3, [.int 0, .int 0, .int 0, .ref (κ.1 + (n + 0)), .ref (κ.1 + (n + 1)), .ref (κ.1 + (n + 2)), .ref (κ.1 + (n + 3)), .null, .null]))) (n + 4) (eI κ 10 (fun _ => 0))) k (.inr (3, [.int 0, .int 0, .int 0, .ref (κ.1 + (n + 0)), .ref (κ.1 + (n + 1)), .ref (κ.1 + (n + 2)), .ref (κ.1 + (n + 3)), .ref (κ.1 + (n + 4)), .null]))) (n + 5) (eI κ 6 (fun _ => 0))) k (.inr (3, [.int 0, .int 0, .int 0, .ref (κ.1 + (n + 0)), .ref (κ.1 + (n + 1)), .ref (κ.1 + (n + 2)), .ref (κ.1 + (n + 3)), .ref (κ.1 + (n + 4)), .ref (κ.1 + (n + 5))])))
theorem c_Net_init {l : Launch} {κ : Kp} {k n : Nat} {E : Nat → va_E} (hk : k < n) (he : E k = .inr (3, [.int 0, .int 0, .int 0, .null, .null, .null, .null, .null, .null])) : Et l κ y_Net_init b_Net_init 1 { frames := 1, cells := 6, slots := 60, locals := 20 } [.ref (κ.1 + k)] n E 6 60 (n + 6) (u_Net κ E k n) := by
  refine Et_of (by decide +kernel) (Nat.le_of_ble_eq_true rfl) (fun γ hg C R hnm => ?_)
  refine E_aload_n C 0 d_Net_init_0 rfl rfl ?_
  refine E_objInit C wi_24 wi_17 wi_18 d_Net_init_1 (by decide) (by decide) (by decide) ?_
  refine E_aload_n C 0 d_Net_init_4 rfl rfl ?_
  refine E_bipush C (v := 12) d_Net_init_5 (by decide) ?_
  refine E_newI C wi_66 (N := 12) (by decide) (by decide) (by decide) (by decide) (by decide) d_Net_init_7 ?_
  refine E_putF C hnm (k := k) (j := 3) (T := T_Net) (N := 9) (ci := 3) (ty := .array .int) (fs := [.int 0, .int 0, .int 0, .null, .null, .null, .null, .null, .null]) (v := .ref (κ.1 + (n + 0))) (by omega) ((up_ne (by omega)).trans he) rfl (by decide) in_Net ty_Net tk_Net nm_Net wi_34 rfl rfl (by decide +kernel) rfl rfl (Nat.le_of_ble_eq_true rfl) d_Net_init_9 ?_
  refine E_aload_n C 0 d_Net_init_12 rfl rfl ?_
  refine E_bipush C (v := 12) d_Net_init_13 (by decide) ?_
  refine E_newI C wi_66 (N := 12) (by decide) (by decide) (by decide) (by decide) (by decide) d_Net_init_15 ?_
  refine E_putF C hnm (k := k) (j := 4) (T := T_Net) (N := 9) (ci := 3) (ty := .array .int) (fs := [.int 0, .int 0, .int 0, .ref (κ.1 + (n + 0)), .null, .null, .null, .null, .null]) (v := .ref (κ.1 + (n + 1))) (by omega) ((up_ne (by omega)).trans up_eq) rfl (by decide) in_Net ty_Net tk_Net nm_Net wi_38 rfl rfl (by decide +kernel) rfl rfl (Nat.le_of_ble_eq_true rfl) d_Net_init_17 ?_
  refine E_aload_n C 0 d_Net_init_20 rfl rfl ?_
  refine E_bipush C (v := 10) d_Net_init_21 (by decide) ?_
  refine E_newI C wi_66 (N := 10) (by decide) (by decide) (by decide) (by decide) (by decide) d_Net_init_23 ?_
  refine E_putF C hnm (k := k) (j := 5) (T := T_Net) (N := 9) (ci := 3) (ty := .array .int) (fs := [.int 0, .int 0, .int 0, .ref (κ.1 + (n + 0)), .ref (κ.1 + (n + 1)), .null, .null, .null, .null]) (v := .ref (κ.1 + (n + 2))) (by omega) ((up_ne (by omega)).trans up_eq) rfl (by decide) in_Net ty_Net tk_Net nm_Net wi_42 rfl rfl (by decide +kernel) rfl rfl (Nat.le_of_ble_eq_true rfl) d_Net_init_25 ?_
  refine E_aload_n C 0 d_Net_init_28 rfl rfl ?_
  refine E_bipush C (v := 10) d_Net_init_29 (by decide) ?_
  refine E_newI C wi_66 (N := 10) (by decide) (by decide) (by decide) (by decide) (by decide) d_Net_init_31 ?_
  refine E_putF C hnm (k := k) (j := 6) (T := T_Net) (N := 9) (ci := 3) (ty := .array .int) (fs := [.int 0, .int 0, .int 0, .ref (κ.1 + (n + 0)), .ref (κ.1 + (n + 1)), .ref (κ.1 + (n + 2)), .null, .null, .null]) (v := .ref (κ.1 + (n + 3))) (by omega) ((up_ne (by omega)).trans up_eq) rfl (by decide) in_Net ty_Net tk_Net nm_Net wi_43 rfl rfl (by decide +kernel) rfl rfl (Nat.le_of_ble_eq_true rfl) d_Net_init_33 ?_
  refine E_aload_n C 0 d_Net_init_36 rfl rfl ?_
  refine E_bipush C (v := 10) d_Net_init_37 (by decide) ?_
  refine E_newI C wi_66 (N := 10) (by decide) (by decide) (by decide) (by decide) (by decide) d_Net_init_39 ?_
  refine E_putF C hnm (k := k) (j := 7) (T := T_Net) (N := 9) (ci := 3) (ty := .array .int) (fs := [.int 0, .int 0, .int 0, .ref (κ.1 + (n + 0)), .ref (κ.1 + (n + 1)), .ref (κ.1 + (n + 2)), .ref (κ.1 + (n + 3)), .null, .null]) (v := .ref (κ.1 + (n + 4))) (by omega) ((up_ne (by omega)).trans up_eq) rfl (by decide) in_Net ty_Net tk_Net nm_Net wi_44 rfl rfl (by decide +kernel) rfl rfl (Nat.le_of_ble_eq_true rfl) d_Net_init_41 ?_
  refine E_aload_n C 0 d_Net_init_44 rfl rfl ?_
  refine E_bipush C (v := 6) d_Net_init_45 (by decide) ?_
  refine E_newI C wi_66 (N := 6) (by decide) (by decide) (by decide) (by decide) (by decide) d_Net_init_47 ?_
  refine E_putF C hnm (k := k) (j := 8) (T := T_Net) (N := 9) (ci := 3) (ty := .array .int) (fs := [.int 0, .int 0, .int 0, .ref (κ.1 + (n + 0)), .ref (κ.1 + (n + 1)), .ref (κ.1 + (n + 2)), .ref (κ.1 + (n + 3)), .ref (κ.1 + (n + 4)), .null]) (v := .ref (κ.1 + (n + 5))) (by omega) ((up_ne (by omega)).trans up_eq) rfl (by decide) in_Net ty_Net tk_Net nm_Net wi_45 rfl rfl (by decide +kernel) rfl rfl (Nat.le_of_ble_eq_true rfl) d_Net_init_49 ?_
  exact E_vret C R d_Net_init_52 (fun _ _ => rfl)
def u_Wal (κ : Kp) (E : Nat → va_E) (k n : Nat) : Nat → va_E := (va_up (va_up (va_up (va_up E (n + 0) (eZ κ 6 (fun _ => 0))) k (.inr (4, [.ref (κ.1 + (n + 0)), .null]))) (n + 1) (eI κ 6 (fun _ => 0))) k (.inr (4, [.ref (κ.1 + (n + 0)), .ref (κ.1 + (n + 1))])))
theorem c_Wal_init {l : Launch} {κ : Kp} {k n : Nat} {E : Nat → va_E} (hk : k < n) (he : E k = .inr (4, [.null, .null])) : Et l κ y_Wal_init b_Wal_init 1 { frames := 1, cells := 2, slots := 12, locals := 20 } [.ref (κ.1 + k)] n E 2 12 (n + 2) (u_Wal κ E k n) := by
  refine Et_of (by decide +kernel) (Nat.le_of_ble_eq_true rfl) (fun γ hg C R hnm => ?_)
  refine E_aload_n C 0 d_Wal_init_0 rfl rfl ?_
  refine E_objInit C wi_74 wi_17 wi_18 d_Wal_init_1 (by decide) (by decide) (by decide) ?_
  refine E_aload_n C 0 d_Wal_init_4 rfl rfl ?_
  refine E_bipush C (v := 6) d_Wal_init_5 (by decide) ?_
  refine E_newZ C wi_84 (N := 6) (by decide) (by decide) (by decide) (by decide) (by decide) d_Wal_init_7 ?_
  refine E_putF C hnm (k := k) (j := 0) (T := T_Wal) (N := 2) (ci := 4) (ty := .array .boolean) (fs := [.null, .null]) (v := .ref (κ.1 + (n + 0))) (by omega) ((up_ne (by omega)).trans he) rfl (by decide) in_Wal ty_Wal tk_Wal nm_Wal wi_75 rfl rfl (by decide +kernel) rfl rfl (Nat.le_of_ble_eq_true rfl) d_Wal_init_9 ?_
  refine E_aload_n C 0 d_Wal_init_12 rfl rfl ?_
  refine E_bipush C (v := 6) d_Wal_init_13 (by decide) ?_
  refine E_newI C wi_66 (N := 6) (by decide) (by decide) (by decide) (by decide) (by decide) d_Wal_init_15 ?_
  refine E_putF C hnm (k := k) (j := 1) (T := T_Wal) (N := 2) (ci := 4) (ty := .array .int) (fs := [.ref (κ.1 + (n + 0)), .null]) (v := .ref (κ.1 + (n + 1))) (by omega) ((up_ne (by omega)).trans up_eq) rfl (by decide) in_Wal ty_Wal tk_Wal nm_Wal wi_77 rfl rfl (by decide +kernel) rfl rfl (Nat.le_of_ble_eq_true rfl) d_Wal_init_17 ?_
  exact E_vret C R d_Wal_init_20 (fun _ _ => rfl)
def u_Wav (κ : Kp) (E : Nat → va_E) (k n : Nat) : Nat → va_E := (va_up (va_up (va_up (va_up E (n + 0) (eJ κ 6 (fun _ => 0))) k (.inr (5, [.int 0, .ref (κ.1 + (n + 0)), .null]))) (n + 1) (eJ κ 12 (fun _ => 0))) k (.inr (5, [.int 0, .ref (κ.1 + (n + 0)), .ref (κ.1 + (n + 1))])))
theorem c_Wav_init {l : Launch} {κ : Kp} {k n : Nat} {E : Nat → va_E} (hk : k < n) (he : E k = .inr (5, [.int 0, .null, .null])) : Et l κ y_Wav_init b_Wav_init 1 { frames := 1, cells := 2, slots := 18, locals := 20 } [.ref (κ.1 + k)] n E 2 18 (n + 2) (u_Wav κ E k n) := by
  refine Et_of (by decide +kernel) (Nat.le_of_ble_eq_true rfl) (fun γ hg C R hnm => ?_)
  refine E_aload_n C 0 d_Wav_init_0 rfl rfl ?_
  refine E_objInit C wi_90 wi_17 wi_18 d_Wav_init_1 (by decide) (by decide) (by decide) ?_
  refine E_aload_n C 0 d_Wav_init_4 rfl rfl ?_
  refine E_bipush C (v := 6) d_Wav_init_5 (by decide) ?_
  refine E_newJ C wi_104 (N := 6) (by decide) (by decide) (by decide) (by decide) (by decide) d_Wav_init_7 ?_
  refine E_putF C hnm (k := k) (j := 1) (T := T_Wav) (N := 3) (ci := 5) (ty := .array .long) (fs := [.int 0, .null, .null]) (v := .ref (κ.1 + (n + 0))) (by omega) ((up_ne (by omega)).trans he) rfl (by decide) in_Wav ty_Wav tk_Wav nm_Wav wi_93 rfl rfl (by decide +kernel) rfl rfl (Nat.le_of_ble_eq_true rfl) d_Wav_init_9 ?_
  refine E_aload_n C 0 d_Wav_init_12 rfl rfl ?_
  refine E_bipush C (v := 12) d_Wav_init_13 (by decide) ?_
  refine E_newJ C wi_104 (N := 12) (by decide) (by decide) (by decide) (by decide) (by decide) d_Wav_init_15 ?_
  refine E_putF C hnm (k := k) (j := 2) (T := T_Wav) (N := 3) (ci := 5) (ty := .array .long) (fs := [.int 0, .ref (κ.1 + (n + 0)), .null]) (v := .ref (κ.1 + (n + 1))) (by omega) ((up_ne (by omega)).trans up_eq) rfl (by decide) in_Wav ty_Wav tk_Wav nm_Wav wi_95 rfl rfl (by decide +kernel) rfl rfl (Nat.le_of_ble_eq_true rfl) d_Wav_init_17 ?_
  exact E_vret C R d_Wav_init_20 (fun _ _ => rfl)
def u_Cli (κ : Kp) (E : Nat → va_E) (k n : Nat) : Nat → va_E := (va_up (va_up (va_up (va_up E (n + 0) (eJ κ 6 (fun _ => 0))) k (.inr (1, [.ref (κ.1 + (n + 0)), .null]))) (n + 1) (eI κ 6 (fun _ => 0))) k (.inr (1, [.ref (κ.1 + (n + 0)), .ref (κ.1 + (n + 1))])))
theorem c_Cli_init {l : Launch} {κ : Kp} {k n : Nat} {E : Nat → va_E} (hk : k < n) (he : E k = .inr (1, [.null, .null])) : Et l κ y_Cli_init b_Cli_init 1 { frames := 1, cells := 2, slots := 12, locals := 20 } [.ref (κ.1 + k)] n E 2 12 (n + 2) (u_Cli κ E k n) := by
  refine Et_of (by decide +kernel) (Nat.le_of_ble_eq_true rfl) (fun γ hg C R hnm => ?_)
  refine E_aload_n C 0 d_Cli_init_0 rfl rfl ?_
  refine E_objInit C wi_136 wi_17 wi_18 d_Cli_init_1 (by decide) (by decide) (by decide) ?_
  refine E_aload_n C 0 d_Cli_init_4 rfl rfl ?_
  refine E_bipush C (v := 6) d_Cli_init_5 (by decide) ?_
  refine E_newJ C wi_104 (N := 6) (by decide) (by decide) (by decide) (by decide) (by decide) d_Cli_init_7 ?_
  refine E_putF C hnm (k := k) (j := 0) (T := T_Cli) (N := 2) (ci := 1) (ty := .array .long) (fs := [.null, .null]) (v := .ref (κ.1 + (n + 0))) (by omega) ((up_ne (by omega)).trans he) rfl (by decide) in_Cli ty_Cli tk_Cli nm_Cli wi_137 rfl rfl (by decide +kernel) rfl rfl (Nat.le_of_ble_eq_true rfl) d_Cli_init_9 ?_
  refine E_aload_n C 0 d_Cli_init_12 rfl rfl ?_
  refine E_bipush C (v := 6) d_Cli_init_13 (by decide) ?_
  refine E_newI C wi_66 (N := 6) (by decide) (by decide) (by decide) (by decide) (by decide) d_Cli_init_15 ?_
  refine E_putF C hnm (k := k) (j := 1) (T := T_Cli) (N := 2) (ci := 1) (ty := .array .int) (fs := [.ref (κ.1 + (n + 0)), .null]) (v := .ref (κ.1 + (n + 1))) (by omega) ((up_ne (by omega)).trans up_eq) rfl (by decide) in_Cli ty_Cli tk_Cli nm_Cli wi_138 rfl rfl (by decide +kernel) rfl rfl (Nat.le_of_ble_eq_true rfl) d_Cli_init_17 ?_
  exact E_vret C R d_Cli_init_20 (fun _ _ => rfl)
def u_Bal (κ : Kp) (E : Nat → va_E) (k n : Nat) : Nat → va_E := (va_up (va_up (va_up (upM κ E (n + 0)) k (.inr (0, [.int 0, .ref (κ.1 + (n + 0)), .null, .int 0, .long 0]))) (n + 11) (eJ κ 10 (fun _ => 0))) k (.inr (0, [.int 0, .ref (κ.1 + (n + 0)), .ref (κ.1 + (n + 11)), .int 0, .long 0])))
theorem c_Bal_init {l : Launch} {κ : Kp} {k n : Nat} {E : Nat → va_E} (hk : k < n) (he : E k = .inr (0, [.int 0, .null, .null, .int 0, .long 0])) : Et l κ y_Bal_init b_Bal_init 1 { frames := 1, cells := 12, slots := 120, locals := 20 } [.ref (κ.1 + k)] n E 12 120 (n + 12) (u_Bal κ E k n) := by
  refine Et_of (by decide +kernel) (Nat.le_of_ble_eq_true rfl) (fun γ hg C R hnm => ?_)
  refine E_aload_n C 0 d_Bal_init_0 rfl rfl ?_
  refine E_objInit C wi_110 wi_17 wi_18 d_Bal_init_1 (by decide) (by decide) (by decide) ?_
  refine E_aload_n C 0 d_Bal_init_4 rfl rfl ?_
  refine E_bipush C (v := 10) d_Bal_init_5 (by decide) ?_
  refine E_bipush C (v := 10) d_Bal_init_7 (by decide) ?_
  refine E_mna C wi_111 wi_104 (by decide) (by decide) d_Bal_init_9 ?_
  refine E_putF C hnm (k := k) (j := 1) (T := T_Bal) (N := 5) (ci := 0) (ty := .array (.array .long)) (fs := [.int 0, .null, .null, .int 0, .long 0]) (v := .ref (κ.1 + (n + 0))) (by omega) ((upM_lt (by omega)).trans he) rfl (by decide) in_Bal ty_Bal tk_Bal nm_Bal wi_114 rfl rfl (by decide +kernel) rfl rfl (Nat.le_of_ble_eq_true rfl) d_Bal_init_13 ?_
  refine E_aload_n C 0 d_Bal_init_16 rfl rfl ?_
  refine E_bipush C (v := 10) d_Bal_init_17 (by decide) ?_
  refine E_newJ C wi_104 (N := 10) (by decide) (by decide) (by decide) (by decide) (by decide) d_Bal_init_19 ?_
  refine E_putF C hnm (k := k) (j := 2) (T := T_Bal) (N := 5) (ci := 0) (ty := .array .long) (fs := [.int 0, .ref (κ.1 + (n + 0)), .null, .int 0, .long 0]) (v := .ref (κ.1 + (n + 11))) (by omega) ((up_ne (by omega)).trans up_eq) rfl (by decide) in_Bal ty_Bal tk_Bal nm_Bal wi_115 rfl rfl (by decide +kernel) rfl rfl (Nat.le_of_ble_eq_true rfl) d_Bal_init_21 ?_
  exact E_vret C R d_Bal_init_24 (fun _ _ => rfl)
def u_Mo (κ : Kp) (E : Nat → va_E) (k n : Nat) : Nat → va_E := (va_up (va_up (va_up (va_up (va_up (va_up (va_up (va_up (va_up (va_up (va_up (va_up (va_up (va_up (va_up (va_up (va_up (va_up (va_up (va_up (va_up (va_up (va_up (va_up (va_up (va_up (va_up (va_up (va_up (va_up (va_up (va_up (va_up (va_up (va_up (va_up (va_up (va_up (va_up E k (.inr (7, [.int 1, .int 0, .int 0, .null, .null, .null, .null, .null, .null, .null, .null, .null, .null, .null, .int 0, .null, .null, .null, .long 0, .null, .null, .null, .null, .null, .long 0, .long 0]))) (n + 0) (eI κ 12 (fun _ => 0))) k (.inr (7, [.int 1, .int 0, .int 0, .ref (κ.1 + (n + 0)), .null, .null, .null, .null, .null, .null, .null, .null, .null, .null, .int 0, .null, .null, .null, .long 0, .null, .null, .null, .null, .null, .long 0, .long 0]))) (n + 1) (eI κ 12 (fun _ => 0))) k (.inr (7, [.int 1, .int 0, .int 0, .ref (κ.1 + (n + 0)), .ref (κ.1 + (n + 1)), .null, .null, .null, .null, .null, .null, .null, .null, .null, .int 0, .null, .null, .null, .long 0, .null, .null, .null, .null, .null, .long 0, .long 0]))) (n + 2) (eI κ 10 (fun _ => 0))) k (.inr (7, [.int 1, .int 0, .int 0, .ref (κ.1 + (n + 0)), .ref (κ.1 + (n + 1)), .ref (κ.1 + (n + 2)), .null, .null, .null, .null, .null, .null, .null, .null, .int 0, .null, .null, .null, .long 0, .null, .null, .null, .null, .null, .long 0, .long 0]))) (n + 3) (eI κ 10 (fun _ => 0))) k (.inr (7, [.int 1, .int 0, .int 0, .ref (κ.1 + (n + 0)), .ref (κ.1 + (n + 1)), .ref (κ.1 + (n + 2)), .ref (κ.1 + (n + 3)), .null, .null, .null, .null, .null, .null, .null, .int 0, .null, .null, .null, .long 0, .null, .null, .null, .null, .null, .long 0, .long 0]))) (n + 4) (eI κ 10 (fun _ => 0))) k (.inr (7, [.int 1, .int 0, .int 0, .ref (κ.1 + (n + 0)), .ref (κ.1 + (n + 1)), .ref (κ.1 + (n + 2)), .ref (κ.1 + (n + 3)), .ref (κ.1 + (n + 4)), .null, .null, .null, .null, .null, .null, .int 0, .null, .null, .null, .long 0, .null, .null, .null, .null, .null, .long 0, .long 0]))) (n + 5) (eI κ 12 (fun _ => 0))) k (.inr (7, [.int 1, .int 0, .int 0, .ref (κ.1 + (n + 0)), .ref (κ.1 + (n + 1)), .ref (κ.1 + (n + 2)), .ref (κ.1 + (n + 3)), .ref (κ.1 + (n + 4)), .ref (κ.1 + (n + 5)), .null, .null, .null, .null, .null, .int 0, .null, .null, .null, .long 0, .null, .null, .null, .null, .null, .long 0, .long 0]))) (n + 6) (eI κ 144 (fun _ => 0))) k (.inr (7, [.int 1, .int 0, .int 0, .ref (κ.1 + (n + 0)), .ref (κ.1 + (n + 1)), .ref (κ.1 + (n + 2)), .ref (κ.1 + (n + 3)), .ref (κ.1 + (n + 4)), .ref (κ.1 + (n + 5)), .ref (κ.1 + (n + 6)), .null, .null, .null, .null, .int 0, .null, .null, .null, .long 0, .null, .null, .null, .null, .null, .long 0, .long 0]))) (n + 7) (eZ κ 6 (fun _ => 0))) k (.inr (7, [.int 1, .int 0, .int 0, .ref (κ.1 + (n + 0)), .ref (κ.1 + (n + 1)), .ref (κ.1 + (n + 2)), .ref (κ.1 + (n + 3)), .ref (κ.1 + (n + 4)), .ref (κ.1 + (n + 5)), .ref (κ.1 + (n + 6)), .ref (κ.1 + (n + 7)), .null, .null, .null, .int 0, .null, .null, .null, .long 0, .null, .null, .null, .null, .null, .long 0, .long 0]))) (n + 8) (eI κ 6 (fun _ => 0))) k (.inr (7, [.int 1, .int 0, .int 0, .ref (κ.1 + (n + 0)), .ref (κ.1 + (n + 1)), .ref (κ.1 + (n + 2)), .ref (κ.1 + (n + 3)), .ref (κ.1 + (n + 4)), .ref (κ.1 + (n + 5)), .ref (κ.1 + (n + 6)), .ref (κ.1 + (n + 7)), .ref (κ.1 + (n + 8)), .null, .null, .int 0, .null, .null, .null, .long 0, .null, .null, .null, .null, .null, .long 0, .long 0]))) (n + 9) (eJ κ 6 (fun _ => 0))) k (.inr (7, [.int 1, .int 0, .int 0, .ref (κ.1 + (n + 0)), .ref (κ.1 + (n + 1)), .ref (κ.1 + (n + 2)), .ref (κ.1 + (n + 3)), .ref (κ.1 + (n + 4)), .ref (κ.1 + (n + 5)), .ref (κ.1 + (n + 6)), .ref (κ.1 + (n + 7)), .ref (κ.1 + (n + 8)), .ref (κ.1 + (n + 9)), .null, .int 0, .null, .null, .null, .long 0, .null, .null, .null, .null, .null, .long 0, .long 0]))) (n + 10) (eJ κ 12 (fun _ => 0))) k (.inr (7, [.int 1, .int 0, .int 0, .ref (κ.1 + (n + 0)), .ref (κ.1 + (n + 1)), .ref (κ.1 + (n + 2)), .ref (κ.1 + (n + 3)), .ref (κ.1 + (n + 4)), .ref (κ.1 + (n + 5)), .ref (κ.1 + (n + 6)), .ref (κ.1 + (n + 7)), .ref (κ.1 + (n + 8)), .ref (κ.1 + (n + 9)), .ref (κ.1 + (n + 10)), .int 0, .null, .null, .null, .long 0, .null, .null, .null, .null, .null, .long 0, .long 0]))) (n + 11) (eJ κ 12 (fun _ => 0))) k (.inr (7, [.int 1, .int 0, .int 0, .ref (κ.1 + (n + 0)), .ref (κ.1 + (n + 1)), .ref (κ.1 + (n + 2)), .ref (κ.1 + (n + 3)), .ref (κ.1 + (n + 4)), .ref (κ.1 + (n + 5)), .ref (κ.1 + (n + 6)), .ref (κ.1 + (n + 7)), .ref (κ.1 + (n + 8)), .ref (κ.1 + (n + 9)), .ref (κ.1 + (n + 10)), .int 0, .ref (κ.1 + (n + 11)), .null, .null, .long 0, .null, .null, .null, .null, .null, .long 0, .long 0]))) (n + 12) (eJ κ 156 (fun _ => 0))) k (.inr (7, [.int 1, .int 0, .int 0, .ref (κ.1 + (n + 0)), .ref (κ.1 + (n + 1)), .ref (κ.1 + (n + 2)), .ref (κ.1 + (n + 3)), .ref (κ.1 + (n + 4)), .ref (κ.1 + (n + 5)), .ref (κ.1 + (n + 6)), .ref (κ.1 + (n + 7)), .ref (κ.1 + (n + 8)), .ref (κ.1 + (n + 9)), .ref (κ.1 + (n + 10)), .int 0, .ref (κ.1 + (n + 11)), .ref (κ.1 + (n + 12)), .null, .long 0, .null, .null, .null, .null, .null, .long 0, .long 0]))) (n + 13) (eI κ 12 (fun _ => 0))) k (.inr (7, [.int 1, .int 0, .int 0, .ref (κ.1 + (n + 0)), .ref (κ.1 + (n + 1)), .ref (κ.1 + (n + 2)), .ref (κ.1 + (n + 3)), .ref (κ.1 + (n + 4)), .ref (κ.1 + (n + 5)), .ref (κ.1 + (n + 6)), .ref (κ.1 + (n + 7)), .ref (κ.1 + (n + 8)), .ref (κ.1 + (n + 9)), .ref (κ.1 + (n + 10)), .int 0, .ref (κ.1 + (n + 11)), .ref (κ.1 + (n + 12)), .ref (κ.1 + (n + 13)), .long 0, .null, .null, .null, .null, .null, .long 0, .long 0]))) (n + 14) (eJ κ 12 (fun _ => 0))) k (.inr (7, [.int 1, .int 0, .int 0, .ref (κ.1 + (n + 0)), .ref (κ.1 + (n + 1)), .ref (κ.1 + (n + 2)), .ref (κ.1 + (n + 3)), .ref (κ.1 + (n + 4)), .ref (κ.1 + (n + 5)), .ref (κ.1 + (n + 6)), .ref (κ.1 + (n + 7)), .ref (κ.1 + (n + 8)), .ref (κ.1 + (n + 9)), .ref (κ.1 + (n + 10)), .int 0, .ref (κ.1 + (n + 11)), .ref (κ.1 + (n + 12)), .ref (κ.1 + (n + 13)), .long 0, .ref (κ.1 + (n + 14)), .null, .null, .null, .null, .long 0, .long 0]))) (n + 15) (eI κ 6 (fun _ => 0))) k (.inr (7, [.int 1, .int 0, .int 0, .ref (κ.1 + (n + 0)), .ref (κ.1 + (n + 1)), .ref (κ.1 + (n + 2)), .ref (κ.1 + (n + 3)), .ref (κ.1 + (n + 4)), .ref (κ.1 + (n + 5)), .ref (κ.1 + (n + 6)), .ref (κ.1 + (n + 7)), .ref (κ.1 + (n + 8)), .ref (κ.1 + (n + 9)), .ref (κ.1 + (n + 10)), .int 0, .ref (κ.1 + (n + 11)), .ref (κ.1 + (n + 12)), .ref (κ.1 + (n + 13)), .long 0, .ref (κ.1 + (n + 14)), .ref (κ.1 + (n + 15)), .null, .null, .null, .long 0, .long 0]))) (n + 16) (eJ κ 6 (fun _ => 0))) k (.inr (7, [.int 1, .int 0, .int 0, .ref (κ.1 + (n + 0)), .ref (κ.1 + (n + 1)), .ref (κ.1 + (n + 2)), .ref (κ.1 + (n + 3)), .ref (κ.1 + (n + 4)), .ref (κ.1 + (n + 5)), .ref (κ.1 + (n + 6)), .ref (κ.1 + (n + 7)), .ref (κ.1 + (n + 8)), .ref (κ.1 + (n + 9)), .ref (κ.1 + (n + 10)), .int 0, .ref (κ.1 + (n + 11)), .ref (κ.1 + (n + 12)), .ref (κ.1 + (n + 13)), .long 0, .ref (κ.1 + (n + 14)), .ref (κ.1 + (n + 15)), .ref (κ.1 + (n + 16)), .null, .null, .long 0, .long 0]))) (n + 17) (eJ κ 12 (fun _ => 0))) k (.inr (7, [.int 1, .int 0, .int 0, .ref (κ.1 + (n + 0)), .ref (κ.1 + (n + 1)), .ref (κ.1 + (n + 2)), .ref (κ.1 + (n + 3)), .ref (κ.1 + (n + 4)), .ref (κ.1 + (n + 5)), .ref (κ.1 + (n + 6)), .ref (κ.1 + (n + 7)), .ref (κ.1 + (n + 8)), .ref (κ.1 + (n + 9)), .ref (κ.1 + (n + 10)), .int 0, .ref (κ.1 + (n + 11)), .ref (κ.1 + (n + 12)), .ref (κ.1 + (n + 13)), .long 0, .ref (κ.1 + (n + 14)), .ref (κ.1 + (n + 15)), .ref (κ.1 + (n + 16)), .ref (κ.1 + (n + 17)), .null, .long 0, .long 0]))) (n + 18) (eJ κ 12 (fun _ => 0))) k (.inr (7, [.int 1, .int 0, .int 0, .ref (κ.1 + (n + 0)), .ref (κ.1 + (n + 1)), .ref (κ.1 + (n + 2)), .ref (κ.1 + (n + 3)), .ref (κ.1 + (n + 4)), .ref (κ.1 + (n + 5)), .ref (κ.1 + (n + 6)), .ref (κ.1 + (n + 7)), .ref (κ.1 + (n + 8)), .ref (κ.1 + (n + 9)), .ref (κ.1 + (n + 10)), .int 0, .ref (κ.1 + (n + 11)), .ref (κ.1 + (n + 12)), .ref (κ.1 + (n + 13)), .long 0, .ref (κ.1 + (n + 14)), .ref (κ.1 + (n + 15)), .ref (κ.1 + (n + 16)), .ref (κ.1 + (n + 17)), .ref (κ.1 + (n + 18)), .long 0, .long 0])))
theorem c_Mo_init {l : Launch} {κ : Kp} {k n : Nat} {E : Nat → va_E} (hk : k < n) (he : E k = .inr (7, [.int 0, .int 0, .int 0, .null, .null, .null, .null, .null, .null, .null, .null, .null, .null, .null, .int 0, .null, .null, .null, .long 0, .null, .null, .null, .null, .null, .long 0, .long 0])) : Et l κ y_Mo_init b_Mo_init 1 { frames := 1, cells := 19, slots := 468, locals := 20 } [.ref (κ.1 + k)] n E 19 468 (n + 19) (u_Mo κ E k n) := by
  refine Et_of (by decide +kernel) (Nat.le_of_ble_eq_true rfl) (fun γ hg C R hnm => ?_)
  refine E_aload_n C 0 d_Mo_init_0 rfl rfl ?_
  refine E_objInit C wi_520 wi_17 wi_18 d_Mo_init_1 (by decide) (by decide) (by decide) ?_
  refine E_aload_n C 0 d_Mo_init_4 rfl rfl ?_
  refine E_iconst C (v := 1) d_Mo_init_5 (by decide) ?_
  refine E_put C (k := k) (j := 0) (T := T_Mo) (N := 26) (ci := 7) (CN := "NetFormsModel") (ty := .int) (fs := [.int 0, .int 0, .int 0, .null, .null, .null, .null, .null, .null, .null, .null, .null, .null, .null, .int 0, .null, .null, .null, .long 0, .null, .null, .null, .null, .null, .long 0, .long 0]) (v := .int 1) (by omega) he rfl (by decide) in_Mo ty_Mo tk_Mo nm_Mo wi_521 rfl rfl (by decide +kernel) rfl rfl (Nat.le_of_ble_eq_true rfl) d_Mo_init_6 ?_
  refine E_aload_n C 0 d_Mo_init_9 rfl rfl ?_
  refine E_bipush C (v := 12) d_Mo_init_10 (by decide) ?_
  refine E_newI C wi_66 (N := 12) (by decide) (by decide) (by decide) (by decide) (by decide) d_Mo_init_12 ?_
  refine E_putF C hnm (k := k) (j := 3) (T := T_Mo) (N := 26) (ci := 7) (ty := .array .int) (fs := [.int 1, .int 0, .int 0, .null, .null, .null, .null, .null, .null, .null, .null, .null, .null, .null, .int 0, .null, .null, .null, .long 0, .null, .null, .null, .null, .null, .long 0, .long 0]) (v := .ref (κ.1 + (n + 0))) (by omega) ((up_ne (by omega)).trans up_eq) rfl (by decide) in_Mo ty_Mo tk_Mo nm_Mo wi_524 rfl rfl (by decide +kernel) rfl rfl (Nat.le_of_ble_eq_true rfl) d_Mo_init_14 ?_
  refine E_aload_n C 0 d_Mo_init_17 rfl rfl ?_
  refine E_bipush C (v := 12) d_Mo_init_18 (by decide) ?_
  refine E_newI C wi_66 (N := 12) (by decide) (by decide) (by decide) (by decide) (by decide) d_Mo_init_20 ?_
  refine E_putF C hnm (k := k) (j := 4) (T := T_Mo) (N := 26) (ci := 7) (ty := .array .int) (fs := [.int 1, .int 0, .int 0, .ref (κ.1 + (n + 0)), .null, .null, .null, .null, .null, .null, .null, .null, .null, .null, .int 0, .null, .null, .null, .long 0, .null, .null, .null, .null, .null, .long 0, .long 0]) (v := .ref (κ.1 + (n + 1))) (by omega) ((up_ne (by omega)).trans up_eq) rfl (by decide) in_Mo ty_Mo tk_Mo nm_Mo wi_525 rfl rfl (by decide +kernel) rfl rfl (Nat.le_of_ble_eq_true rfl) d_Mo_init_22 ?_
  refine E_aload_n C 0 d_Mo_init_25 rfl rfl ?_
  refine E_bipush C (v := 10) d_Mo_init_26 (by decide) ?_
  refine E_newI C wi_66 (N := 10) (by decide) (by decide) (by decide) (by decide) (by decide) d_Mo_init_28 ?_
  refine E_putF C hnm (k := k) (j := 5) (T := T_Mo) (N := 26) (ci := 7) (ty := .array .int) (fs := [.int 1, .int 0, .int 0, .ref (κ.1 + (n + 0)), .ref (κ.1 + (n + 1)), .null, .null, .null, .null, .null, .null, .null, .null, .null, .int 0, .null, .null, .null, .long 0, .null, .null, .null, .null, .null, .long 0, .long 0]) (v := .ref (κ.1 + (n + 2))) (by omega) ((up_ne (by omega)).trans up_eq) rfl (by decide) in_Mo ty_Mo tk_Mo nm_Mo wi_526 rfl rfl (by decide +kernel) rfl rfl (Nat.le_of_ble_eq_true rfl) d_Mo_init_30 ?_
  refine E_aload_n C 0 d_Mo_init_33 rfl rfl ?_
  refine E_bipush C (v := 10) d_Mo_init_34 (by decide) ?_
  refine E_newI C wi_66 (N := 10) (by decide) (by decide) (by decide) (by decide) (by decide) d_Mo_init_36 ?_
  refine E_putF C hnm (k := k) (j := 6) (T := T_Mo) (N := 26) (ci := 7) (ty := .array .int) (fs := [.int 1, .int 0, .int 0, .ref (κ.1 + (n + 0)), .ref (κ.1 + (n + 1)), .ref (κ.1 + (n + 2)), .null, .null, .null, .null, .null, .null, .null, .null, .int 0, .null, .null, .null, .long 0, .null, .null, .null, .null, .null, .long 0, .long 0]) (v := .ref (κ.1 + (n + 3))) (by omega) ((up_ne (by omega)).trans up_eq) rfl (by decide) in_Mo ty_Mo tk_Mo nm_Mo wi_527 rfl rfl (by decide +kernel) rfl rfl (Nat.le_of_ble_eq_true rfl) d_Mo_init_38 ?_
  refine E_aload_n C 0 d_Mo_init_41 rfl rfl ?_
  refine E_bipush C (v := 10) d_Mo_init_42 (by decide) ?_
  refine E_newI C wi_66 (N := 10) (by decide) (by decide) (by decide) (by decide) (by decide) d_Mo_init_44 ?_
  refine E_putF C hnm (k := k) (j := 7) (T := T_Mo) (N := 26) (ci := 7) (ty := .array .int) (fs := [.int 1, .int 0, .int 0, .ref (κ.1 + (n + 0)), .ref (κ.1 + (n + 1)), .ref (κ.1 + (n + 2)), .ref (κ.1 + (n + 3)), .null, .null, .null, .null, .null, .null, .null, .int 0, .null, .null, .null, .long 0, .null, .null, .null, .null, .null, .long 0, .long 0]) (v := .ref (κ.1 + (n + 4))) (by omega) ((up_ne (by omega)).trans up_eq) rfl (by decide) in_Mo ty_Mo tk_Mo nm_Mo wi_528 rfl rfl (by decide +kernel) rfl rfl (Nat.le_of_ble_eq_true rfl) d_Mo_init_46 ?_
  refine E_aload_n C 0 d_Mo_init_49 rfl rfl ?_
  refine E_bipush C (v := 12) d_Mo_init_50 (by decide) ?_
  refine E_newI C wi_66 (N := 12) (by decide) (by decide) (by decide) (by decide) (by decide) d_Mo_init_52 ?_
  refine E_putF C hnm (k := k) (j := 8) (T := T_Mo) (N := 26) (ci := 7) (ty := .array .int) (fs := [.int 1, .int 0, .int 0, .ref (κ.1 + (n + 0)), .ref (κ.1 + (n + 1)), .ref (κ.1 + (n + 2)), .ref (κ.1 + (n + 3)), .ref (κ.1 + (n + 4)), .null, .null, .null, .null, .null, .null, .int 0, .null, .null, .null, .long 0, .null, .null, .null, .null, .null, .long 0, .long 0]) (v := .ref (κ.1 + (n + 5))) (by omega) ((up_ne (by omega)).trans up_eq) rfl (by decide) in_Mo ty_Mo tk_Mo nm_Mo wi_529 rfl rfl (by decide +kernel) rfl rfl (Nat.le_of_ble_eq_true rfl) d_Mo_init_54 ?_
  refine E_aload_n C 0 d_Mo_init_57 rfl rfl ?_
  refine E_sipush C (v := 144) d_Mo_init_58 (by decide) ?_
  refine E_newI C wi_66 (N := 144) (by decide) (by decide) (by decide) (by decide) (by decide) d_Mo_init_61 ?_
  refine E_putF C hnm (k := k) (j := 9) (T := T_Mo) (N := 26) (ci := 7) (ty := .array .int) (fs := [.int 1, .int 0, .int 0, .ref (κ.1 + (n + 0)), .ref (κ.1 + (n + 1)), .ref (κ.1 + (n + 2)), .ref (κ.1 + (n + 3)), .ref (κ.1 + (n + 4)), .ref (κ.1 + (n + 5)), .null, .null, .null, .null, .null, .int 0, .null, .null, .null, .long 0, .null, .null, .null, .null, .null, .long 0, .long 0]) (v := .ref (κ.1 + (n + 6))) (by omega) ((up_ne (by omega)).trans up_eq) rfl (by decide) in_Mo ty_Mo tk_Mo nm_Mo wi_530 rfl rfl (by decide +kernel) rfl rfl (Nat.le_of_ble_eq_true rfl) d_Mo_init_63 ?_
  refine E_aload_n C 0 d_Mo_init_66 rfl rfl ?_
  refine E_bipush C (v := 6) d_Mo_init_67 (by decide) ?_
  refine E_newZ C wi_84 (N := 6) (by decide) (by decide) (by decide) (by decide) (by decide) d_Mo_init_69 ?_
  refine E_putF C hnm (k := k) (j := 10) (T := T_Mo) (N := 26) (ci := 7) (ty := .array .boolean) (fs := [.int 1, .int 0, .int 0, .ref (κ.1 + (n + 0)), .ref (κ.1 + (n + 1)), .ref (κ.1 + (n + 2)), .ref (κ.1 + (n + 3)), .ref (κ.1 + (n + 4)), .ref (κ.1 + (n + 5)), .ref (κ.1 + (n + 6)), .null, .null, .null, .null, .int 0, .null, .null, .null, .long 0, .null, .null, .null, .null, .null, .long 0, .long 0]) (v := .ref (κ.1 + (n + 7))) (by omega) ((up_ne (by omega)).trans up_eq) rfl (by decide) in_Mo ty_Mo tk_Mo nm_Mo wi_531 rfl rfl (by decide +kernel) rfl rfl (Nat.le_of_ble_eq_true rfl) d_Mo_init_71 ?_
  refine E_aload_n C 0 d_Mo_init_74 rfl rfl ?_
  refine E_bipush C (v := 6) d_Mo_init_75 (by decide) ?_
  refine E_newI C wi_66 (N := 6) (by decide) (by decide) (by decide) (by decide) (by decide) d_Mo_init_77 ?_
  refine E_putF C hnm (k := k) (j := 11) (T := T_Mo) (N := 26) (ci := 7) (ty := .array .int) (fs := [.int 1, .int 0, .int 0, .ref (κ.1 + (n + 0)), .ref (κ.1 + (n + 1)), .ref (κ.1 + (n + 2)), .ref (κ.1 + (n + 3)), .ref (κ.1 + (n + 4)), .ref (κ.1 + (n + 5)), .ref (κ.1 + (n + 6)), .ref (κ.1 + (n + 7)), .null, .null, .null, .int 0, .null, .null, .null, .long 0, .null, .null, .null, .null, .null, .long 0, .long 0]) (v := .ref (κ.1 + (n + 8))) (by omega) ((up_ne (by omega)).trans up_eq) rfl (by decide) in_Mo ty_Mo tk_Mo nm_Mo wi_532 rfl rfl (by decide +kernel) rfl rfl (Nat.le_of_ble_eq_true rfl) d_Mo_init_79 ?_
  refine E_aload_n C 0 d_Mo_init_82 rfl rfl ?_
  refine E_bipush C (v := 6) d_Mo_init_83 (by decide) ?_
  refine E_newJ C wi_104 (N := 6) (by decide) (by decide) (by decide) (by decide) (by decide) d_Mo_init_85 ?_
  refine E_putF C hnm (k := k) (j := 12) (T := T_Mo) (N := 26) (ci := 7) (ty := .array .long) (fs := [.int 1, .int 0, .int 0, .ref (κ.1 + (n + 0)), .ref (κ.1 + (n + 1)), .ref (κ.1 + (n + 2)), .ref (κ.1 + (n + 3)), .ref (κ.1 + (n + 4)), .ref (κ.1 + (n + 5)), .ref (κ.1 + (n + 6)), .ref (κ.1 + (n + 7)), .ref (κ.1 + (n + 8)), .null, .null, .int 0, .null, .null, .null, .long 0, .null, .null, .null, .null, .null, .long 0, .long 0]) (v := .ref (κ.1 + (n + 9))) (by omega) ((up_ne (by omega)).trans up_eq) rfl (by decide) in_Mo ty_Mo tk_Mo nm_Mo wi_533 rfl rfl (by decide +kernel) rfl rfl (Nat.le_of_ble_eq_true rfl) d_Mo_init_87 ?_
  refine E_aload_n C 0 d_Mo_init_90 rfl rfl ?_
  refine E_bipush C (v := 12) d_Mo_init_91 (by decide) ?_
  refine E_newJ C wi_104 (N := 12) (by decide) (by decide) (by decide) (by decide) (by decide) d_Mo_init_93 ?_
  refine E_putF C hnm (k := k) (j := 13) (T := T_Mo) (N := 26) (ci := 7) (ty := .array .long) (fs := [.int 1, .int 0, .int 0, .ref (κ.1 + (n + 0)), .ref (κ.1 + (n + 1)), .ref (κ.1 + (n + 2)), .ref (κ.1 + (n + 3)), .ref (κ.1 + (n + 4)), .ref (κ.1 + (n + 5)), .ref (κ.1 + (n + 6)), .ref (κ.1 + (n + 7)), .ref (κ.1 + (n + 8)), .ref (κ.1 + (n + 9)), .null, .int 0, .null, .null, .null, .long 0, .null, .null, .null, .null, .null, .long 0, .long 0]) (v := .ref (κ.1 + (n + 10))) (by omega) ((up_ne (by omega)).trans up_eq) rfl (by decide) in_Mo ty_Mo tk_Mo nm_Mo wi_534 rfl rfl (by decide +kernel) rfl rfl (Nat.le_of_ble_eq_true rfl) d_Mo_init_95 ?_
  refine E_aload_n C 0 d_Mo_init_98 rfl rfl ?_
  refine E_bipush C (v := 12) d_Mo_init_99 (by decide) ?_
  refine E_newJ C wi_104 (N := 12) (by decide) (by decide) (by decide) (by decide) (by decide) d_Mo_init_101 ?_
  refine E_putF C hnm (k := k) (j := 15) (T := T_Mo) (N := 26) (ci := 7) (ty := .array .long) (fs := [.int 1, .int 0, .int 0, .ref (κ.1 + (n + 0)), .ref (κ.1 + (n + 1)), .ref (κ.1 + (n + 2)), .ref (κ.1 + (n + 3)), .ref (κ.1 + (n + 4)), .ref (κ.1 + (n + 5)), .ref (κ.1 + (n + 6)), .ref (κ.1 + (n + 7)), .ref (κ.1 + (n + 8)), .ref (κ.1 + (n + 9)), .ref (κ.1 + (n + 10)), .int 0, .null, .null, .null, .long 0, .null, .null, .null, .null, .null, .long 0, .long 0]) (v := .ref (κ.1 + (n + 11))) (by omega) ((up_ne (by omega)).trans up_eq) rfl (by decide) in_Mo ty_Mo tk_Mo nm_Mo wi_536 rfl rfl (by decide +kernel) rfl rfl (Nat.le_of_ble_eq_true rfl) d_Mo_init_103 ?_
  refine E_aload_n C 0 d_Mo_init_106 rfl rfl ?_
  refine E_sipush C (v := 156) d_Mo_init_107 (by decide) ?_
  refine E_newJ C wi_104 (N := 156) (by decide) (by decide) (by decide) (by decide) (by decide) d_Mo_init_110 ?_
  refine E_putF C hnm (k := k) (j := 16) (T := T_Mo) (N := 26) (ci := 7) (ty := .array .long) (fs := [.int 1, .int 0, .int 0, .ref (κ.1 + (n + 0)), .ref (κ.1 + (n + 1)), .ref (κ.1 + (n + 2)), .ref (κ.1 + (n + 3)), .ref (κ.1 + (n + 4)), .ref (κ.1 + (n + 5)), .ref (κ.1 + (n + 6)), .ref (κ.1 + (n + 7)), .ref (κ.1 + (n + 8)), .ref (κ.1 + (n + 9)), .ref (κ.1 + (n + 10)), .int 0, .ref (κ.1 + (n + 11)), .null, .null, .long 0, .null, .null, .null, .null, .null, .long 0, .long 0]) (v := .ref (κ.1 + (n + 12))) (by omega) ((up_ne (by omega)).trans up_eq) rfl (by decide) in_Mo ty_Mo tk_Mo nm_Mo wi_537 rfl rfl (by decide +kernel) rfl rfl (Nat.le_of_ble_eq_true rfl) d_Mo_init_112 ?_
  refine E_aload_n C 0 d_Mo_init_115 rfl rfl ?_
  refine E_bipush C (v := 12) d_Mo_init_116 (by decide) ?_
  refine E_newI C wi_66 (N := 12) (by decide) (by decide) (by decide) (by decide) (by decide) d_Mo_init_118 ?_
  refine E_putF C hnm (k := k) (j := 17) (T := T_Mo) (N := 26) (ci := 7) (ty := .array .int) (fs := [.int 1, .int 0, .int 0, .ref (κ.1 + (n + 0)), .ref (κ.1 + (n + 1)), .ref (κ.1 + (n + 2)), .ref (κ.1 + (n + 3)), .ref (κ.1 + (n + 4)), .ref (κ.1 + (n + 5)), .ref (κ.1 + (n + 6)), .ref (κ.1 + (n + 7)), .ref (κ.1 + (n + 8)), .ref (κ.1 + (n + 9)), .ref (κ.1 + (n + 10)), .int 0, .ref (κ.1 + (n + 11)), .ref (κ.1 + (n + 12)), .null, .long 0, .null, .null, .null, .null, .null, .long 0, .long 0]) (v := .ref (κ.1 + (n + 13))) (by omega) ((up_ne (by omega)).trans up_eq) rfl (by decide) in_Mo ty_Mo tk_Mo nm_Mo wi_538 rfl rfl (by decide +kernel) rfl rfl (Nat.le_of_ble_eq_true rfl) d_Mo_init_120 ?_
  refine E_aload_n C 0 d_Mo_init_123 rfl rfl ?_
  refine E_bipush C (v := 12) d_Mo_init_124 (by decide) ?_
  refine E_newJ C wi_104 (N := 12) (by decide) (by decide) (by decide) (by decide) (by decide) d_Mo_init_126 ?_
  refine E_putF C hnm (k := k) (j := 19) (T := T_Mo) (N := 26) (ci := 7) (ty := .array .long) (fs := [.int 1, .int 0, .int 0, .ref (κ.1 + (n + 0)), .ref (κ.1 + (n + 1)), .ref (κ.1 + (n + 2)), .ref (κ.1 + (n + 3)), .ref (κ.1 + (n + 4)), .ref (κ.1 + (n + 5)), .ref (κ.1 + (n + 6)), .ref (κ.1 + (n + 7)), .ref (κ.1 + (n + 8)), .ref (κ.1 + (n + 9)), .ref (κ.1 + (n + 10)), .int 0, .ref (κ.1 + (n + 11)), .ref (κ.1 + (n + 12)), .ref (κ.1 + (n + 13)), .long 0, .null, .null, .null, .null, .null, .long 0, .long 0]) (v := .ref (κ.1 + (n + 14))) (by omega) ((up_ne (by omega)).trans up_eq) rfl (by decide) in_Mo ty_Mo tk_Mo nm_Mo wi_540 rfl rfl (by decide +kernel) rfl rfl (Nat.le_of_ble_eq_true rfl) d_Mo_init_128 ?_
  refine E_aload_n C 0 d_Mo_init_131 rfl rfl ?_
  refine E_bipush C (v := 6) d_Mo_init_132 (by decide) ?_
  refine E_newI C wi_66 (N := 6) (by decide) (by decide) (by decide) (by decide) (by decide) d_Mo_init_134 ?_
  refine E_putF C hnm (k := k) (j := 20) (T := T_Mo) (N := 26) (ci := 7) (ty := .array .int) (fs := [.int 1, .int 0, .int 0, .ref (κ.1 + (n + 0)), .ref (κ.1 + (n + 1)), .ref (κ.1 + (n + 2)), .ref (κ.1 + (n + 3)), .ref (κ.1 + (n + 4)), .ref (κ.1 + (n + 5)), .ref (κ.1 + (n + 6)), .ref (κ.1 + (n + 7)), .ref (κ.1 + (n + 8)), .ref (κ.1 + (n + 9)), .ref (κ.1 + (n + 10)), .int 0, .ref (κ.1 + (n + 11)), .ref (κ.1 + (n + 12)), .ref (κ.1 + (n + 13)), .long 0, .ref (κ.1 + (n + 14)), .null, .null, .null, .null, .long 0, .long 0]) (v := .ref (κ.1 + (n + 15))) (by omega) ((up_ne (by omega)).trans up_eq) rfl (by decide) in_Mo ty_Mo tk_Mo nm_Mo wi_541 rfl rfl (by decide +kernel) rfl rfl (Nat.le_of_ble_eq_true rfl) d_Mo_init_136 ?_
  refine E_aload_n C 0 d_Mo_init_139 rfl rfl ?_
  refine E_bipush C (v := 6) d_Mo_init_140 (by decide) ?_
  refine E_newJ C wi_104 (N := 6) (by decide) (by decide) (by decide) (by decide) (by decide) d_Mo_init_142 ?_
  refine E_putF C hnm (k := k) (j := 21) (T := T_Mo) (N := 26) (ci := 7) (ty := .array .long) (fs := [.int 1, .int 0, .int 0, .ref (κ.1 + (n + 0)), .ref (κ.1 + (n + 1)), .ref (κ.1 + (n + 2)), .ref (κ.1 + (n + 3)), .ref (κ.1 + (n + 4)), .ref (κ.1 + (n + 5)), .ref (κ.1 + (n + 6)), .ref (κ.1 + (n + 7)), .ref (κ.1 + (n + 8)), .ref (κ.1 + (n + 9)), .ref (κ.1 + (n + 10)), .int 0, .ref (κ.1 + (n + 11)), .ref (κ.1 + (n + 12)), .ref (κ.1 + (n + 13)), .long 0, .ref (κ.1 + (n + 14)), .ref (κ.1 + (n + 15)), .null, .null, .null, .long 0, .long 0]) (v := .ref (κ.1 + (n + 16))) (by omega) ((up_ne (by omega)).trans up_eq) rfl (by decide) in_Mo ty_Mo tk_Mo nm_Mo wi_542 rfl rfl (by decide +kernel) rfl rfl (Nat.le_of_ble_eq_true rfl) d_Mo_init_144 ?_
  refine E_aload_n C 0 d_Mo_init_147 rfl rfl ?_
  refine E_bipush C (v := 12) d_Mo_init_148 (by decide) ?_
  refine E_newJ C wi_104 (N := 12) (by decide) (by decide) (by decide) (by decide) (by decide) d_Mo_init_150 ?_
  refine E_putF C hnm (k := k) (j := 22) (T := T_Mo) (N := 26) (ci := 7) (ty := .array .long) (fs := [.int 1, .int 0, .int 0, .ref (κ.1 + (n + 0)), .ref (κ.1 + (n + 1)), .ref (κ.1 + (n + 2)), .ref (κ.1 + (n + 3)), .ref (κ.1 + (n + 4)), .ref (κ.1 + (n + 5)), .ref (κ.1 + (n + 6)), .ref (κ.1 + (n + 7)), .ref (κ.1 + (n + 8)), .ref (κ.1 + (n + 9)), .ref (κ.1 + (n + 10)), .int 0, .ref (κ.1 + (n + 11)), .ref (κ.1 + (n + 12)), .ref (κ.1 + (n + 13)), .long 0, .ref (κ.1 + (n + 14)), .ref (κ.1 + (n + 15)), .ref (κ.1 + (n + 16)), .null, .null, .long 0, .long 0]) (v := .ref (κ.1 + (n + 17))) (by omega) ((up_ne (by omega)).trans up_eq) rfl (by decide) in_Mo ty_Mo tk_Mo nm_Mo wi_543 rfl rfl (by decide +kernel) rfl rfl (Nat.le_of_ble_eq_true rfl) d_Mo_init_152 ?_
  refine E_aload_n C 0 d_Mo_init_155 rfl rfl ?_
  refine E_bipush C (v := 12) d_Mo_init_156 (by decide) ?_
  refine E_newJ C wi_104 (N := 12) (by decide) (by decide) (by decide) (by decide) (by decide) d_Mo_init_158 ?_
  refine E_putF C hnm (k := k) (j := 23) (T := T_Mo) (N := 26) (ci := 7) (ty := .array .long) (fs := [.int 1, .int 0, .int 0, .ref (κ.1 + (n + 0)), .ref (κ.1 + (n + 1)), .ref (κ.1 + (n + 2)), .ref (κ.1 + (n + 3)), .ref (κ.1 + (n + 4)), .ref (κ.1 + (n + 5)), .ref (κ.1 + (n + 6)), .ref (κ.1 + (n + 7)), .ref (κ.1 + (n + 8)), .ref (κ.1 + (n + 9)), .ref (κ.1 + (n + 10)), .int 0, .ref (κ.1 + (n + 11)), .ref (κ.1 + (n + 12)), .ref (κ.1 + (n + 13)), .long 0, .ref (κ.1 + (n + 14)), .ref (κ.1 + (n + 15)), .ref (κ.1 + (n + 16)), .ref (κ.1 + (n + 17)), .null, .long 0, .long 0]) (v := .ref (κ.1 + (n + 18))) (by omega) ((up_ne (by omega)).trans up_eq) rfl (by decide) in_Mo ty_Mo tk_Mo nm_Mo wi_544 rfl rfl (by decide +kernel) rfl rfl (Nat.le_of_ble_eq_true rfl) d_Mo_init_160 ?_
  exact E_vret C R d_Mo_init_163 (fun _ _ => rfl)
