/-! the program's tables are the machine's (printed) -/
def ax_pr1 (y : Nat) (q : ax_T × Nat) : Prop := ∃ mt : ax_M, ax_ME y = some mt ∧ mt.2.2.1 = q.2 ∧ q.2 ≤ 26 ∧ plainName mt.1.cls = true ∧ ∃ ini : Bool, (ini = true → mt.1.name = "<init>") ∧ ∀ (pc : Nat) (act : ax_Act), ax_row q.1 pc = some act → ax_Sim ax_ME ini mt.1.cls mt.2.1 q.2 mt.2.2.2 pc act
def ax_prA : Nat → List (ax_T × Nat) → Prop
  | _, [] => True
  | k, q :: l => ax_pr1 k q ∧ ax_prA (k + 1) l
theorem ax_prA_at : ∀ (l : List (ax_T × Nat)) (k j : Nat) (q : ax_T × Nat), ax_prA k l → ax_nth l j = some q → ax_pr1 (k + j) q
  | [], k, j, q, _, h => by cases h
  | b :: l, k, 0, q, hl, h => by
    cases h
    exact hl.1
  | b :: l, k, j + 1, q, hl, h => by
    rw [show k + (j + 1) = k + 1 + j by omega]
    exact ax_prA_at l (k + 1) j q hl.2 h
theorem pr_0 : ax_pr1 0 (t_X0_init, 1) := ⟨_, rfl, rfl, by decide, by decide +kernel, true, fun _ => rfl, tm_X0_init⟩
theorem pr_1 : ax_pr1 1 (t_X0_add, 3) := ⟨_, rfl, rfl, by decide, by decide +kernel, false, (fun h => by cases h), tm_X0_add⟩
theorem pr_2 : ax_pr1 2 (t_X0_dropOldest, 2) := ⟨_, rfl, rfl, by decide, by decide +kernel, false, (fun h => by cases h), tm_X0_dropOldest⟩
theorem pr_3 : ax_pr1 3 (t_X0_takeBack, 2) := ⟨_, rfl, rfl, by decide, by decide +kernel, false, (fun h => by cases h), tm_X0_takeBack⟩
theorem pr_4 : ax_pr1 4 (t_X1_init, 1) := ⟨_, rfl, rfl, by decide, by decide +kernel, true, fun _ => rfl, tm_X1_init⟩
theorem pr_5 : ax_pr1 5 (t_X1_seek, 3) := ⟨_, rfl, rfl, by decide, by decide +kernel, false, (fun h => by cases h), tm_X1_seek⟩
theorem pr_6 : ax_pr1 6 (t_X1_seekFrom, 8) := ⟨_, rfl, rfl, by decide, by decide +kernel, false, (fun h => by cases h), tm_X1_seekFrom⟩
theorem pr_7 : ax_pr1 7 (t_X1_lackingLength, 4) := ⟨_, rfl, rfl, by decide, by decide +kernel, false, (fun h => by cases h), tm_X1_lackingLength⟩
theorem pr_8 : ax_pr1 8 (t_X1_take, 5) := ⟨_, rfl, rfl, by decide, by decide +kernel, false, (fun h => by cases h), tm_X1_take⟩
theorem pr_9 : ax_pr1 9 (t_X2_init, 2) := ⟨_, rfl, rfl, by decide, by decide +kernel, true, fun _ => rfl, tm_X2_init⟩
theorem pr_10 : ax_pr1 10 (t_X2_add, 2) := ⟨_, rfl, rfl, by decide, by decide +kernel, false, (fun h => by cases h), tm_X2_add⟩
theorem pr_11 : ax_pr1 11 (t_X2_restore, 2) := ⟨_, rfl, rfl, by decide, by decide +kernel, false, (fun h => by cases h), tm_X2_restore⟩
theorem pr_12 : ax_pr1 12 (t_X3_init, 1) := ⟨_, rfl, rfl, by decide, by decide +kernel, true, fun _ => rfl, tm_X3_init⟩
theorem pr_13 : ax_pr1 13 (t_X3_clear, 1) := ⟨_, rfl, rfl, by decide, by decide +kernel, false, (fun h => by cases h), tm_X3_clear⟩
theorem pr_14 : ax_pr1 14 (t_X4_init, 1) := ⟨_, rfl, rfl, by decide, by decide +kernel, true, fun _ => rfl, tm_X4_init⟩
theorem pr_15 : ax_pr1 15 (t_X4_add, 3) := ⟨_, rfl, rfl, by decide, by decide +kernel, false, (fun h => by cases h), tm_X4_add⟩
theorem pr_16 : ax_pr1 16 (t_X4_suspects, 4) := ⟨_, rfl, rfl, by decide, by decide +kernel, false, (fun h => by cases h), tm_X4_suspects⟩
theorem pr_17 : ax_pr1 17 (t_X4_fits, 4) := ⟨_, rfl, rfl, by decide, by decide +kernel, false, (fun h => by cases h), tm_X4_fits⟩
theorem pr_18 : ax_pr1 18 (t_X4_mostAlike, 8) := ⟨_, rfl, rfl, by decide, by decide +kernel, false, (fun h => by cases h), tm_X4_mostAlike⟩
theorem pr_19 : ax_pr1 19 (t_X5_init, 1) := ⟨_, rfl, rfl, by decide, by decide +kernel, true, fun _ => rfl, tm_X5_init⟩
theorem pr_20 : ax_pr1 20 (t_X5_addWalk, 4) := ⟨_, rfl, rfl, by decide, by decide +kernel, false, (fun h => by cases h), tm_X5_addWalk⟩
theorem pr_21 : ax_pr1 21 (t_X5_cellAfterWalks, 7) := ⟨_, rfl, rfl, by decide, by decide +kernel, false, (fun h => by cases h), tm_X5_cellAfterWalks⟩
theorem pr_22 : ax_pr1 22 (t_X5_copyFrom, 2) := ⟨_, rfl, rfl, by decide, by decide +kernel, false, (fun h => by cases h), tm_X5_copyFrom⟩
theorem pr_23 : ax_pr1 23 (t_X6_init, 1) := ⟨_, rfl, rfl, by decide, by decide +kernel, true, fun _ => rfl, tm_X6_init⟩
theorem pr_24 : ax_pr1 24 (t_X6_clear, 1) := ⟨_, rfl, rfl, by decide, by decide +kernel, false, (fun h => by cases h), tm_X6_clear⟩
theorem pr_25 : ax_pr1 25 (t_X6_addRemnant, 2) := ⟨_, rfl, rfl, by decide, by decide +kernel, false, (fun h => by cases h), tm_X6_addRemnant⟩
theorem pr_26 : ax_pr1 26 (t_X6_addOrder, 2) := ⟨_, rfl, rfl, by decide, by decide +kernel, false, (fun h => by cases h), tm_X6_addOrder⟩
theorem pr_27 : ax_pr1 27 (t_X6_addFitting, 3) := ⟨_, rfl, rfl, by decide, by decide +kernel, false, (fun h => by cases h), tm_X6_addFitting⟩
theorem pr_28 : ax_pr1 28 (t_X6_orderedLength, 3) := ⟨_, rfl, rfl, by decide, by decide +kernel, false, (fun h => by cases h), tm_X6_orderedLength⟩
theorem pr_29 : ax_pr1 29 (t_X6_lengthFrom, 4) := ⟨_, rfl, rfl, by decide, by decide +kernel, false, (fun h => by cases h), tm_X6_lengthFrom⟩
theorem pr_30 : ax_pr1 30 (t_X7_init, 1) := ⟨_, rfl, rfl, by decide, by decide +kernel, true, fun _ => rfl, tm_X7_init⟩
theorem pr_31 : ax_pr1 31 (t_X7_clear, 1) := ⟨_, rfl, rfl, by decide, by decide +kernel, false, (fun h => by cases h), tm_X7_clear⟩
theorem pr_32 : ax_pr1 32 (t_X7_hasPerson, 2) := ⟨_, rfl, rfl, by decide, by decide +kernel, false, (fun h => by cases h), tm_X7_hasPerson⟩
theorem pr_33 : ax_pr1 33 (t_X7_addPerson, 5) := ⟨_, rfl, rfl, by decide, by decide +kernel, false, (fun h => by cases h), tm_X7_addPerson⟩
theorem pr_34 : ax_pr1 34 (t_X7_addLaw, 4) := ⟨_, rfl, rfl, by decide, by decide +kernel, false, (fun h => by cases h), tm_X7_addLaw⟩
theorem pr_35 : ax_pr1 35 (t_X7_cellOf, 3) := ⟨_, rfl, rfl, by decide, by decide +kernel, false, (fun h => by cases h), tm_X7_cellOf⟩
theorem pr_36 : ax_pr1 36 (t_X7_cellsAt, 3) := ⟨_, rfl, rfl, by decide, by decide +kernel, false, (fun h => by cases h), tm_X7_cellsAt⟩
theorem pr_37 : ax_pr1 37 (t_X7_drawnCells, 6) := ⟨_, rfl, rfl, by decide, by decide +kernel, false, (fun h => by cases h), tm_X7_drawnCells⟩
theorem pr_38 : ax_pr1 38 (t_X7_fullLength, 5) := ⟨_, rfl, rfl, by decide, by decide +kernel, false, (fun h => by cases h), tm_X7_fullLength⟩
theorem pr_39 : ax_pr1 39 (t_X7_lengthOf, 3) := ⟨_, rfl, rfl, by decide, by decide +kernel, false, (fun h => by cases h), tm_X7_lengthOf⟩
theorem pr_40 : ax_pr1 40 (t_X7_wayOf, 4) := ⟨_, rfl, rfl, by decide, by decide +kernel, false, (fun h => by cases h), tm_X7_wayOf⟩
theorem pr_41 : ax_pr1 41 (t_X7_endOf, 3) := ⟨_, rfl, rfl, by decide, by decide +kernel, false, (fun h => by cases h), tm_X7_endOf⟩
theorem pr_42 : ax_pr1 42 (t_X7_lowEndOf, 3) := ⟨_, rfl, rfl, by decide, by decide +kernel, false, (fun h => by cases h), tm_X7_lowEndOf⟩
theorem pr_43 : ax_pr1 43 (t_X7_highEndOf, 3) := ⟨_, rfl, rfl, by decide, by decide +kernel, false, (fun h => by cases h), tm_X7_highEndOf⟩
theorem pr_44 : ax_pr1 44 (t_X7_coverersOf, 6) := ⟨_, rfl, rfl, by decide, by decide +kernel, false, (fun h => by cases h), tm_X7_coverersOf⟩
theorem pr_45 : ax_pr1 45 (t_X7_standersOn, 9) := ⟨_, rfl, rfl, by decide, by decide +kernel, false, (fun h => by cases h), tm_X7_standersOn⟩
theorem pr_46 : ax_pr1 46 (t_X7_firstBroken, 2) := ⟨_, rfl, rfl, by decide, by decide +kernel, false, (fun h => by cases h), tm_X7_firstBroken⟩
theorem pr_47 : ax_pr1 47 (t_X7_neededByLaws, 4) := ⟨_, rfl, rfl, by decide, by decide +kernel, false, (fun h => by cases h), tm_X7_neededByLaws⟩
theorem pr_48 : ax_pr1 48 (t_X7_neededByStanders, 9) := ⟨_, rfl, rfl, by decide, by decide +kernel, false, (fun h => by cases h), tm_X7_neededByStanders⟩
theorem pr_49 : ax_pr1 49 (t_X7_nextWatcher, 5) := ⟨_, rfl, rfl, by decide, by decide +kernel, false, (fun h => by cases h), tm_X7_nextWatcher⟩
theorem pr_50 : ax_pr1 50 (t_X8_init, 1) := ⟨_, rfl, rfl, by decide, by decide +kernel, true, fun _ => rfl, tm_X8_init⟩
theorem pr_51 : ax_pr1 51 (t_X8_add, 2) := ⟨_, rfl, rfl, by decide, by decide +kernel, false, (fun h => by cases h), tm_X8_add⟩
theorem pr_52 : ax_pr1 52 (t_X8_put, 3) := ⟨_, rfl, rfl, by decide, by decide +kernel, false, (fun h => by cases h), tm_X8_put⟩
theorem pr_53 : ax_pr1 53 (t_X8_signAt, 2) := ⟨_, rfl, rfl, by decide, by decide +kernel, false, (fun h => by cases h), tm_X8_signAt⟩
theorem pr_54 : ax_pr1 54 (t_X9_init, 1) := ⟨_, rfl, rfl, by decide, by decide +kernel, true, fun _ => rfl, tm_X9_init⟩
theorem pr_55 : ax_pr1 55 (t_X9_readInto, 7) := ⟨_, rfl, rfl, by decide, by decide +kernel, false, (fun h => by cases h), tm_X9_readInto⟩
theorem pr_56 : ax_pr1 56 (t_X9_numbersOf, 1) := ⟨_, rfl, rfl, by decide, by decide +kernel, false, (fun h => by cases h), tm_X9_numbersOf⟩
theorem pr_57 : ax_pr1 57 (t_X9_readNumbers, 8) := ⟨_, rfl, rfl, by decide, by decide +kernel, false, (fun h => by cases h), tm_X9_readNumbers⟩
theorem pr_58 : ax_pr1 58 (t_X9_figureAt, 3) := ⟨_, rfl, rfl, by decide, by decide +kernel, false, (fun h => by cases h), tm_X9_figureAt⟩
theorem pr_59 : ax_pr1 59 (t_X9_addItem, 5) := ⟨_, rfl, rfl, by decide, by decide +kernel, false, (fun h => by cases h), tm_X9_addItem⟩
theorem pr_60 : ax_pr1 60 (t_X10_init, 1) := ⟨_, rfl, rfl, by decide, by decide +kernel, true, fun _ => rfl, tm_X10_init⟩
theorem pr_61 : ax_pr1 61 (t_X10_seek, 2) := ⟨_, rfl, rfl, by decide, by decide +kernel, false, (fun h => by cases h), tm_X10_seek⟩
theorem pr_62 : ax_pr1 62 (t_X10_seekFrom, 10) := ⟨_, rfl, rfl, by decide, by decide +kernel, false, (fun h => by cases h), tm_X10_seekFrom⟩
theorem pr_63 : ax_pr1 63 (t_X10_take, 5) := ⟨_, rfl, rfl, by decide, by decide +kernel, false, (fun h => by cases h), tm_X10_take⟩
theorem pr_64 : ax_pr1 64 (t_X11_init, 1) := ⟨_, rfl, rfl, by decide, by decide +kernel, true, fun _ => rfl, tm_X11_init⟩
theorem pr_65 : ax_pr1 65 (t_X11_write, 2) := ⟨_, rfl, rfl, by decide, by decide +kernel, false, (fun h => by cases h), tm_X11_write⟩
theorem pr_66 : ax_pr1 66 (t_X11_wipe, 2) := ⟨_, rfl, rfl, by decide, by decide +kernel, false, (fun h => by cases h), tm_X11_wipe⟩
theorem pr_67 : ax_pr1 67 (t_X11_fault, 1) := ⟨_, rfl, rfl, by decide, by decide +kernel, false, (fun h => by cases h), tm_X11_fault⟩
theorem pr_68 : ax_pr1 68 (t_X11_lay, 2) := ⟨_, rfl, rfl, by decide, by decide +kernel, false, (fun h => by cases h), tm_X11_lay⟩
theorem pr_69 : ax_pr1 69 (t_X11_person, 3) := ⟨_, rfl, rfl, by decide, by decide +kernel, false, (fun h => by cases h), tm_X11_person⟩
theorem pr_70 : ax_pr1 70 (t_X11_where, 3) := ⟨_, rfl, rfl, by decide, by decide +kernel, false, (fun h => by cases h), tm_X11_where⟩
theorem pr_71 : ax_pr1 71 (t_X11_shadow, 5) := ⟨_, rfl, rfl, by decide, by decide +kernel, false, (fun h => by cases h), tm_X11_shadow⟩
theorem pr_72 : ax_pr1 72 (t_X11_covers, 3) := ⟨_, rfl, rfl, by decide, by decide +kernel, false, (fun h => by cases h), tm_X11_covers⟩
theorem pr_73 : ax_pr1 73 (t_X11_stands, 3) := ⟨_, rfl, rfl, by decide, by decide +kernel, false, (fun h => by cases h), tm_X11_stands⟩
theorem pr_74 : ax_pr1 74 (t_X11_wear, 5) := ⟨_, rfl, rfl, by decide, by decide +kernel, false, (fun h => by cases h), tm_X11_wear⟩
theorem pr_75 : ax_pr1 75 (t_X11_alter, 5) := ⟨_, rfl, rfl, by decide, by decide +kernel, false, (fun h => by cases h), tm_X11_alter⟩
theorem pr_76 : ax_pr1 76 (t_X11_walk, 4) := ⟨_, rfl, rfl, by decide, by decide +kernel, false, (fun h => by cases h), tm_X11_walk⟩
theorem pr_77 : ax_pr1 77 (t_X11_undo, 1) := ⟨_, rfl, rfl, by decide, by decide +kernel, false, (fun h => by cases h), tm_X11_undo⟩
theorem pr_78 : ax_pr1 78 (t_X11_first, 5) := ⟨_, rfl, rfl, by decide, by decide +kernel, false, (fun h => by cases h), tm_X11_first⟩
theorem pr_79 : ax_pr1 79 (t_X11_broken, 1) := ⟨_, rfl, rfl, by decide, by decide +kernel, false, (fun h => by cases h), tm_X11_broken⟩
theorem pr_80 : ax_pr1 80 (t_X11_taken, 5) := ⟨_, rfl, rfl, by decide, by decide +kernel, false, (fun h => by cases h), tm_X11_taken⟩
theorem pr_81 : ax_pr1 81 (t_X11_seen, 3) := ⟨_, rfl, rfl, by decide, by decide +kernel, false, (fun h => by cases h), tm_X11_seen⟩
theorem pr_82 : ax_pr1 82 (t_X11_forget, 2) := ⟨_, rfl, rfl, by decide, by decide +kernel, false, (fun h => by cases h), tm_X11_forget⟩
theorem pr_83 : ax_pr1 83 (t_X11_whose, 1) := ⟨_, rfl, rfl, by decide, by decide +kernel, false, (fun h => by cases h), tm_X11_whose⟩
theorem pr_84 : ax_pr1 84 (t_X11_look, 7) := ⟨_, rfl, rfl, by decide, by decide +kernel, false, (fun h => by cases h), tm_X11_look⟩
theorem pr_85 : ax_pr1 85 (t_X11_cut, 2) := ⟨_, rfl, rfl, by decide, by decide +kernel, false, (fun h => by cases h), tm_X11_cut⟩
theorem pr_86 : ax_pr1 86 (t_X11_fittings, 3) := ⟨_, rfl, rfl, by decide, by decide +kernel, false, (fun h => by cases h), tm_X11_fittings⟩
theorem pr_87 : ax_pr1 87 (t_X11_watchers, 7) := ⟨_, rfl, rfl, by decide, by decide +kernel, false, (fun h => by cases h), tm_X11_watchers⟩
theorem pr_88 : ax_pr1 88 (t_X11_poplar, 3) := ⟨_, rfl, rfl, by decide, by decide +kernel, false, (fun h => by cases h), tm_X11_poplar⟩
theorem pr_89 : ax_pr1 89 (t_X11_light, 4) := ⟨_, rfl, rfl, by decide, by decide +kernel, false, (fun h => by cases h), tm_X11_light⟩
theorem pr_90 : ax_pr1 90 (t_X11_clouds, 12) := ⟨_, rfl, rfl, by decide, by decide +kernel, false, (fun h => by cases h), tm_X11_clouds⟩
theorem pr_91 : ax_pr1 91 (t_X11_day, 8) := ⟨_, rfl, rfl, by decide, by decide +kernel, false, (fun h => by cases h), tm_X11_day⟩
theorem pr_92 : ax_pr1 92 (t_X11_keep, 1) := ⟨_, rfl, rfl, by decide, by decide +kernel, false, (fun h => by cases h), tm_X11_keep⟩
theorem pr_93 : ax_pr1 93 (t_X11_back, 1) := ⟨_, rfl, rfl, by decide, by decide +kernel, false, (fun h => by cases h), tm_X11_back⟩
theorem pr_94 : ax_pr1 94 (t_X11_count, 2) := ⟨_, rfl, rfl, by decide, by decide +kernel, false, (fun h => by cases h), tm_X11_count⟩
theorem pr_95 : ax_pr1 95 (t_X11_isPerson, 2) := ⟨_, rfl, rfl, by decide, by decide +kernel, false, (fun h => by cases h), tm_X11_isPerson⟩
theorem pr_96 : ax_pr1 96 (t_X11_standersAt, 3) := ⟨_, rfl, rfl, by decide, by decide +kernel, false, (fun h => by cases h), tm_X11_standersAt⟩
theorem pr_97 : ax_pr1 97 (t_X11_isHour, 1) := ⟨_, rfl, rfl, by decide, by decide +kernel, false, (fun h => by cases h), tm_X11_isHour⟩
theorem pr_98 : ax_pr1 98 (t_X11_areHours, 2) := ⟨_, rfl, rfl, by decide, by decide +kernel, false, (fun h => by cases h), tm_X11_areHours⟩
theorem pr_99 : ax_pr1 99 (t_X11_isCell, 1) := ⟨_, rfl, rfl, by decide, by decide +kernel, false, (fun h => by cases h), tm_X11_isCell⟩
theorem pr_100 : ax_pr1 100 (t_X11_isWithin, 3) := ⟨_, rfl, rfl, by decide, by decide +kernel, false, (fun h => by cases h), tm_X11_isWithin⟩
theorem pr_101 : ax_pr1 101 (t_X11_commonDivisor, 3) := ⟨_, rfl, rfl, by decide, by decide +kernel, false, (fun h => by cases h), tm_X11_commonDivisor⟩
theorem pr_102 : ax_pr1 102 (t_X12_init, 1) := ⟨_, rfl, rfl, by decide, by decide +kernel, true, fun _ => rfl, tm_X12_init⟩
theorem pr_103 : ax_pr1 103 (t_X12_lays, 5) := ⟨_, rfl, rfl, by decide, by decide +kernel, false, (fun h => by cases h), tm_X12_lays⟩
theorem pr_104 : ax_pr1 104 (t_X12_in, 3) := ⟨_, rfl, rfl, by decide, by decide +kernel, false, (fun h => by cases h), tm_X12_in⟩
theorem pr_105 : ax_pr1 105 (t_X12_has, 2) := ⟨_, rfl, rfl, by decide, by decide +kernel, false, (fun h => by cases h), tm_X12_has⟩
theorem pr_106 : ax_pr1 106 (t_X12_bits, 3) := ⟨_, rfl, rfl, by decide, by decide +kernel, false, (fun h => by cases h), tm_X12_bits⟩
theorem pr_107 : ax_pr1 107 (t_X12_isPerson, 2) := ⟨_, rfl, rfl, by decide, by decide +kernel, false, (fun h => by cases h), tm_X12_isPerson⟩
theorem pr_108 : ax_pr1 108 (t_X12_isHour, 1) := ⟨_, rfl, rfl, by decide, by decide +kernel, false, (fun h => by cases h), tm_X12_isHour⟩
theorem pr_109 : ax_pr1 109 (t_X12_write, 2) := ⟨_, rfl, rfl, by decide, by decide +kernel, false, (fun h => by cases h), tm_X12_write⟩
theorem pr_110 : ax_pr1 110 (t_X12_wipe, 2) := ⟨_, rfl, rfl, by decide, by decide +kernel, false, (fun h => by cases h), tm_X12_wipe⟩
theorem pr_111 : ax_pr1 111 (t_X12_letterAt, 2) := ⟨_, rfl, rfl, by decide, by decide +kernel, false, (fun h => by cases h), tm_X12_letterAt⟩
theorem pr_112 : ax_pr1 112 (t_X12_isFigure, 1) := ⟨_, rfl, rfl, by decide, by decide +kernel, false, (fun h => by cases h), tm_X12_isFigure⟩
theorem pr_113 : ax_pr1 113 (t_X12_readNumbers, 3) := ⟨_, rfl, rfl, by decide, by decide +kernel, false, (fun h => by cases h), tm_X12_readNumbers⟩
theorem pr_114 : ax_pr1 114 (t_X12_isTold, 4) := ⟨_, rfl, rfl, by decide, by decide +kernel, false, (fun h => by cases h), tm_X12_isTold⟩
theorem pr_115 : ax_pr1 115 (t_X12_put, 5) := ⟨_, rfl, rfl, by decide, by decide +kernel, false, (fun h => by cases h), tm_X12_put⟩
theorem pr_116 : ax_pr1 116 (t_X12_readPersonOf, 1) := ⟨_, rfl, rfl, by decide, by decide +kernel, false, (fun h => by cases h), tm_X12_readPersonOf⟩
theorem pr_117 : ax_pr1 117 (t_X12_isHourOfOne, 1) := ⟨_, rfl, rfl, by decide, by decide +kernel, false, (fun h => by cases h), tm_X12_isHourOfOne⟩
theorem pr_118 : ax_pr1 118 (t_X12_readWalk, 1) := ⟨_, rfl, rfl, by decide, by decide +kernel, false, (fun h => by cases h), tm_X12_readWalk⟩
theorem pr_119 : ax_pr1 119 (t_X12_readLawOf, 1) := ⟨_, rfl, rfl, by decide, by decide +kernel, false, (fun h => by cases h), tm_X12_readLawOf⟩
theorem pr_120 : ax_pr1 120 (t_X12_readRemnantOf, 1) := ⟨_, rfl, rfl, by decide, by decide +kernel, false, (fun h => by cases h), tm_X12_readRemnantOf⟩
theorem pr_121 : ax_pr1 121 (t_X12_readOrderOf, 1) := ⟨_, rfl, rfl, by decide, by decide +kernel, false, (fun h => by cases h), tm_X12_readOrderOf⟩
theorem pr_122 : ax_pr1 122 (t_X12_readFittingOf, 1) := ⟨_, rfl, rfl, by decide, by decide +kernel, false, (fun h => by cases h), tm_X12_readFittingOf⟩
theorem pr_123 : ax_pr1 123 (t_X12_readItem, 2) := ⟨_, rfl, rfl, by decide, by decide +kernel, false, (fun h => by cases h), tm_X12_readItem⟩
theorem pr_124 : ax_pr1 124 (t_X12_fault, 2) := ⟨_, rfl, rfl, by decide, by decide +kernel, false, (fun h => by cases h), tm_X12_fault⟩
theorem pr_125 : ax_pr1 125 (t_X12_lay, 1) := ⟨_, rfl, rfl, by decide, by decide +kernel, false, (fun h => by cases h), tm_X12_lay⟩
theorem pr_126 : ax_pr1 126 (t_X12_whereAt, 7) := ⟨_, rfl, rfl, by decide, by decide +kernel, false, (fun h => by cases h), tm_X12_whereAt⟩
theorem pr_127 : ax_pr1 127 (t_X12_fromNoon, 2) := ⟨_, rfl, rfl, by decide, by decide +kernel, false, (fun h => by cases h), tm_X12_fromNoon⟩
theorem pr_128 : ax_pr1 128 (t_X12_longBy, 8) := ⟨_, rfl, rfl, by decide, by decide +kernel, false, (fun h => by cases h), tm_X12_longBy⟩
theorem pr_129 : ax_pr1 129 (t_X12_longAt, 3) := ⟨_, rfl, rfl, by decide, by decide +kernel, false, (fun h => by cases h), tm_X12_longAt⟩
theorem pr_130 : ax_pr1 130 (t_X12_wayAt, 4) := ⟨_, rfl, rfl, by decide, by decide +kernel, false, (fun h => by cases h), tm_X12_wayAt⟩
theorem pr_131 : ax_pr1 131 (t_X12_endAt, 3) := ⟨_, rfl, rfl, by decide, by decide +kernel, false, (fun h => by cases h), tm_X12_endAt⟩
theorem pr_132 : ax_pr1 132 (t_X12_reaches, 5) := ⟨_, rfl, rfl, by decide, by decide +kernel, false, (fun h => by cases h), tm_X12_reaches⟩
theorem pr_133 : ax_pr1 133 (t_X12_person, 3) := ⟨_, rfl, rfl, by decide, by decide +kernel, false, (fun h => by cases h), tm_X12_person⟩
theorem pr_134 : ax_pr1 134 (t_X12_where, 3) := ⟨_, rfl, rfl, by decide, by decide +kernel, false, (fun h => by cases h), tm_X12_where⟩
theorem pr_135 : ax_pr1 135 (t_X12_shadow, 8) := ⟨_, rfl, rfl, by decide, by decide +kernel, false, (fun h => by cases h), tm_X12_shadow⟩
theorem pr_136 : ax_pr1 136 (t_X12_covers, 5) := ⟨_, rfl, rfl, by decide, by decide +kernel, false, (fun h => by cases h), tm_X12_covers⟩
theorem pr_137 : ax_pr1 137 (t_X12_standOn, 6) := ⟨_, rfl, rfl, by decide, by decide +kernel, false, (fun h => by cases h), tm_X12_standOn⟩
theorem pr_138 : ax_pr1 138 (t_X12_standsAt, 3) := ⟨_, rfl, rfl, by decide, by decide +kernel, false, (fun h => by cases h), tm_X12_standsAt⟩
theorem pr_139 : ax_pr1 139 (t_X12_stands, 3) := ⟨_, rfl, rfl, by decide, by decide +kernel, false, (fun h => by cases h), tm_X12_stands⟩
theorem pr_140 : ax_pr1 140 (t_X12_wear, 5) := ⟨_, rfl, rfl, by decide, by decide +kernel, false, (fun h => by cases h), tm_X12_wear⟩
theorem pr_141 : ax_pr1 141 (t_X12_remembers, 2) := ⟨_, rfl, rfl, by decide, by decide +kernel, false, (fun h => by cases h), tm_X12_remembers⟩
theorem pr_142 : ax_pr1 142 (t_X12_alter, 4) := ⟨_, rfl, rfl, by decide, by decide +kernel, false, (fun h => by cases h), tm_X12_alter⟩
theorem pr_143 : ax_pr1 143 (t_X12_walk, 4) := ⟨_, rfl, rfl, by decide, by decide +kernel, false, (fun h => by cases h), tm_X12_walk⟩
theorem pr_144 : ax_pr1 144 (t_X12_undo, 2) := ⟨_, rfl, rfl, by decide, by decide +kernel, false, (fun h => by cases h), tm_X12_undo⟩
theorem pr_145 : ax_pr1 145 (t_X12_first, 5) := ⟨_, rfl, rfl, by decide, by decide +kernel, false, (fun h => by cases h), tm_X12_first⟩
theorem pr_146 : ax_pr1 146 (t_X12_lowest, 2) := ⟨_, rfl, rfl, by decide, by decide +kernel, false, (fun h => by cases h), tm_X12_lowest⟩
theorem pr_147 : ax_pr1 147 (t_X12_broken, 2) := ⟨_, rfl, rfl, by decide, by decide +kernel, false, (fun h => by cases h), tm_X12_broken⟩
theorem pr_148 : ax_pr1 148 (t_X12_does, 7) := ⟨_, rfl, rfl, by decide, by decide +kernel, false, (fun h => by cases h), tm_X12_does⟩
theorem pr_149 : ax_pr1 149 (t_X12_taken, 5) := ⟨_, rfl, rfl, by decide, by decide +kernel, false, (fun h => by cases h), tm_X12_taken⟩
theorem pr_150 : ax_pr1 150 (t_X12_seen, 3) := ⟨_, rfl, rfl, by decide, by decide +kernel, false, (fun h => by cases h), tm_X12_seen⟩
theorem pr_151 : ax_pr1 151 (t_X12_forget, 2) := ⟨_, rfl, rfl, by decide, by decide +kernel, false, (fun h => by cases h), tm_X12_forget⟩
theorem pr_152 : ax_pr1 152 (t_X12_whose, 5) := ⟨_, rfl, rfl, by decide, by decide +kernel, false, (fun h => by cases h), tm_X12_whose⟩
theorem pr_153 : ax_pr1 153 (t_X12_alike, 7) := ⟨_, rfl, rfl, by decide, by decide +kernel, false, (fun h => by cases h), tm_X12_alike⟩
theorem pr_154 : ax_pr1 154 (t_X12_look, 5) := ⟨_, rfl, rfl, by decide, by decide +kernel, false, (fun h => by cases h), tm_X12_look⟩
theorem pr_155 : ax_pr1 155 (t_X12_shares, 9) := ⟨_, rfl, rfl, by decide, by decide +kernel, false, (fun h => by cases h), tm_X12_shares⟩
theorem pr_156 : ax_pr1 156 (t_X12_cut, 8) := ⟨_, rfl, rfl, by decide, by decide +kernel, false, (fun h => by cases h), tm_X12_cut⟩
theorem pr_157 : ax_pr1 157 (t_X12_arranges, 9) := ⟨_, rfl, rfl, by decide, by decide +kernel, false, (fun h => by cases h), tm_X12_arranges⟩
theorem pr_158 : ax_pr1 158 (t_X12_fittings, 7) := ⟨_, rfl, rfl, by decide, by decide +kernel, false, (fun h => by cases h), tm_X12_fittings⟩
theorem pr_159 : ax_pr1 159 (t_X12_most, 2) := ⟨_, rfl, rfl, by decide, by decide +kernel, false, (fun h => by cases h), tm_X12_most⟩
theorem pr_160 : ax_pr1 160 (t_X12_lowAt, 3) := ⟨_, rfl, rfl, by decide, by decide +kernel, false, (fun h => by cases h), tm_X12_lowAt⟩
theorem pr_161 : ax_pr1 161 (t_X12_highAt, 3) := ⟨_, rfl, rfl, by decide, by decide +kernel, false, (fun h => by cases h), tm_X12_highAt⟩
theorem pr_162 : ax_pr1 162 (t_X12_nearest, 5) := ⟨_, rfl, rfl, by decide, by decide +kernel, false, (fun h => by cases h), tm_X12_nearest⟩
theorem pr_163 : ax_pr1 163 (t_X12_watchers, 9) := ⟨_, rfl, rfl, by decide, by decide +kernel, false, (fun h => by cases h), tm_X12_watchers⟩
theorem pr_164 : ax_pr1 164 (t_X12_poplar, 3) := ⟨_, rfl, rfl, by decide, by decide +kernel, false, (fun h => by cases h), tm_X12_poplar⟩
theorem pr_165 : ax_pr1 165 (t_X12_light, 4) := ⟨_, rfl, rfl, by decide, by decide +kernel, false, (fun h => by cases h), tm_X12_light⟩
theorem pr_166 : ax_pr1 166 (t_X12_clouds, 16) := ⟨_, rfl, rfl, by decide, by decide +kernel, false, (fun h => by cases h), tm_X12_clouds⟩
theorem pr_167 : ax_pr1 167 (t_X12_drawn, 5) := ⟨_, rfl, rfl, by decide, by decide +kernel, false, (fun h => by cases h), tm_X12_drawn⟩
theorem pr_168 : ax_pr1 168 (t_X12_day, 10) := ⟨_, rfl, rfl, by decide, by decide +kernel, false, (fun h => by cases h), tm_X12_day⟩
theorem pr_169 : ax_pr1 169 (t_X12_keep, 2) := ⟨_, rfl, rfl, by decide, by decide +kernel, false, (fun h => by cases h), tm_X12_keep⟩
theorem pr_170 : ax_pr1 170 (t_X12_back, 2) := ⟨_, rfl, rfl, by decide, by decide +kernel, false, (fun h => by cases h), tm_X12_back⟩
theorem pr_171 : ax_pr1 171 (t_X12_count, 2) := ⟨_, rfl, rfl, by decide, by decide +kernel, false, (fun h => by cases h), tm_X12_count⟩
theorem pr_172 : ax_pr1 172 (t_J6_numberOfTrailingZeros_0f7a4, 2) := ⟨_, rfl, rfl, by decide, by decide +kernel, false, (fun h => by cases h), tm_J6_numberOfTrailingZeros_0f7a4⟩
theorem pr_173 : ax_pr1 173 (t_J6_bitCount_0f7a4, 1) := ⟨_, rfl, rfl, by decide, by decide +kernel, false, (fun h => by cases h), tm_J6_bitCount_0f7a4⟩
theorem ax_prOk : ax_PrOk ax_ME ax_PRf := fun y q h => by
  have := ax_prA_at ax_PRl 0 y q (⟨pr_0, ⟨pr_1, ⟨pr_2, ⟨pr_3, ⟨pr_4, ⟨pr_5, ⟨pr_6, ⟨pr_7, ⟨pr_8, ⟨pr_9, ⟨pr_10, ⟨pr_11, ⟨pr_12, ⟨pr_13, ⟨pr_14, ⟨pr_15, ⟨pr_16, ⟨pr_17, ⟨pr_18, ⟨pr_19, ⟨pr_20, ⟨pr_21, ⟨pr_22, ⟨pr_23, ⟨pr_24, ⟨pr_25, ⟨pr_26, ⟨pr_27, ⟨pr_28, ⟨pr_29, ⟨pr_30, ⟨pr_31, ⟨pr_32, ⟨pr_33, ⟨pr_34, ⟨pr_35, ⟨pr_36, ⟨pr_37, ⟨pr_38, ⟨pr_39, ⟨pr_40, ⟨pr_41, ⟨pr_42, ⟨pr_43, ⟨pr_44, ⟨pr_45, ⟨pr_46, ⟨pr_47, ⟨pr_48, ⟨pr_49, ⟨pr_50, ⟨pr_51, ⟨pr_52, ⟨pr_53, ⟨pr_54, ⟨pr_55, ⟨pr_56, ⟨pr_57, ⟨pr_58, ⟨pr_59, ⟨pr_60, ⟨pr_61, ⟨pr_62, ⟨pr_63, ⟨pr_64, ⟨pr_65, ⟨pr_66, ⟨pr_67, ⟨pr_68, ⟨pr_69, ⟨pr_70, ⟨pr_71, ⟨pr_72, ⟨pr_73, ⟨pr_74, ⟨pr_75, ⟨pr_76, ⟨pr_77, ⟨pr_78, ⟨pr_79, ⟨pr_80, ⟨pr_81, ⟨pr_82, ⟨pr_83, ⟨pr_84, ⟨pr_85, ⟨pr_86, ⟨pr_87, ⟨pr_88, ⟨pr_89, ⟨pr_90, ⟨pr_91, ⟨pr_92, ⟨pr_93, ⟨pr_94, ⟨pr_95, ⟨pr_96, ⟨pr_97, ⟨pr_98, ⟨pr_99, ⟨pr_100, ⟨pr_101, ⟨pr_102, ⟨pr_103, ⟨pr_104, ⟨pr_105, ⟨pr_106, ⟨pr_107, ⟨pr_108, ⟨pr_109, ⟨pr_110, ⟨pr_111, ⟨pr_112, ⟨pr_113, ⟨pr_114, ⟨pr_115, ⟨pr_116, ⟨pr_117, ⟨pr_118, ⟨pr_119, ⟨pr_120, ⟨pr_121, ⟨pr_122, ⟨pr_123, ⟨pr_124, ⟨pr_125, ⟨pr_126, ⟨pr_127, ⟨pr_128, ⟨pr_129, ⟨pr_130, ⟨pr_131, ⟨pr_132, ⟨pr_133, ⟨pr_134, ⟨pr_135, ⟨pr_136, ⟨pr_137, ⟨pr_138, ⟨pr_139, ⟨pr_140, ⟨pr_141, ⟨pr_142, ⟨pr_143, ⟨pr_144, ⟨pr_145, ⟨pr_146, ⟨pr_147, ⟨pr_148, ⟨pr_149, ⟨pr_150, ⟨pr_151, ⟨pr_152, ⟨pr_153, ⟨pr_154, ⟨pr_155, ⟨pr_156, ⟨pr_157, ⟨pr_158, ⟨pr_159, ⟨pr_160, ⟨pr_161, ⟨pr_162, ⟨pr_163, ⟨pr_164, ⟨pr_165, ⟨pr_166, ⟨pr_167, ⟨pr_168, ⟨pr_169, ⟨pr_170, ⟨pr_171, ⟨pr_172, ⟨pr_173, trivial⟩⟩⟩⟩⟩⟩⟩⟩⟩⟩⟩⟩⟩⟩⟩⟩⟩⟩⟩⟩⟩⟩⟩⟩⟩⟩⟩⟩⟩⟩⟩⟩⟩⟩⟩⟩⟩⟩⟩⟩⟩⟩⟩⟩⟩⟩⟩⟩⟩⟩⟩⟩⟩⟩⟩⟩⟩⟩⟩⟩⟩⟩⟩⟩⟩⟩⟩⟩⟩⟩⟩⟩⟩⟩⟩⟩⟩⟩⟩⟩⟩⟩⟩⟩⟩⟩⟩⟩⟩⟩⟩⟩⟩⟩⟩⟩⟩⟩⟩⟩⟩⟩⟩⟩⟩⟩⟩⟩⟩⟩⟩⟩⟩⟩⟩⟩⟩⟩⟩⟩⟩⟩⟩⟩⟩⟩⟩⟩⟩⟩⟩⟩⟩⟩⟩⟩⟩⟩⟩⟩⟩⟩⟩⟩⟩⟩⟩⟩⟩⟩⟩⟩⟩⟩⟩⟩⟩⟩⟩⟩⟩⟩⟩⟩⟩⟩⟩⟩⟩⟩⟩⟩⟩⟩) h
  rw [Nat.zero_add] at this
  exact this
