/-! printed by wip/whole/gencode.py: the words, by their places -/
theorem goodIn_q {big : List Cond} (ws : List Cond) (ps : List Nat) (hp : ws = ps.filterMap (fun i => big[i]?)) : ∀ w ∈ ws, w ∈ big := by
  intro w hw
  rw [hp] at hw
  obtain ⟨i, -, hi⟩ := List.mem_filterMap.mp hw
  exact List.mem_of_getElem? hi
theorem tb_0 : ∀ w ∈ k2_sels lw_privs, w ∈ lw_tbl := fun w h => List.mem_append_left _ h
theorem tb_1 : ∀ w ∈ tables_1_1, w ∈ lw_tbl := fun w h => List.mem_append_right _ (List.mem_append_left _ h)
theorem tb_2 : ∀ w ∈ tables_1_2, w ∈ lw_tbl := fun w h => List.mem_append_right _ (List.mem_append_right _ (List.mem_append_left _ h))
theorem tb_3 : ∀ w ∈ tables_1_3, w ∈ lw_tbl := fun w h => List.mem_append_right _ (List.mem_append_right _ (List.mem_append_right _ (List.mem_append_left _ h)))
theorem tb_4 : ∀ w ∈ tables_1_4, w ∈ lw_tbl := fun w h => List.mem_append_right _ (List.mem_append_right _ (List.mem_append_right _ (List.mem_append_right _ (List.mem_append_left _ h))))
theorem tb_5 : ∀ w ∈ tables_1_5, w ∈ lw_tbl := fun w h => List.mem_append_right _ (List.mem_append_right _ (List.mem_append_right _ (List.mem_append_right _ (List.mem_append_right _ (List.mem_append_left _ h)))))
theorem tb_6 : ∀ w ∈ tables_1_6, w ∈ lw_tbl := fun w h => List.mem_append_right _ (List.mem_append_right _ (List.mem_append_right _ (List.mem_append_right _ (List.mem_append_right _ (List.mem_append_right _ (h))))))
theorem w_0 : Cond.methodLink RX0 3 Lib.objectInit ∈ lw_gd := gd_in (tb_1 _ (List.mem_of_getElem? (i := 36) (by decide +kernel))) rfl
theorem w_1 : Cond.instanceMethod Lib.objectInit ∈ lw_gd := gd_in (tb_1 _ (List.mem_of_getElem? (i := 22) (by decide +kernel))) rfl
theorem w_2 : Cond.code Lib.objectInit ⟨#[0xb1]⟩ 1 none ∈ lw_gd := gd_in (tb_1 _ (List.mem_of_getElem? (i := 23) (by decide +kernel))) rfl
theorem w_3 : Cond.arrayClass (newarray.typeOf .int) ∈ lw_gd := gd_in (tb_1 _ (List.mem_of_getElem? (i := 47) (by decide +kernel))) rfl
theorem w_4 : Cond.fieldLink RX0 9 (TX0 0).1 (TX0 0).2.1 (TX0 0).2.2.1 ∈ lw_gd := gd_in (tb_1 _ (List.mem_of_getElem? (i := 37) (by decide +kernel))) rfl
theorem w_5 : Cond.fieldLink RX0 15 (TX0 1).1 (TX0 1).2.1 (TX0 1).2.2.1 ∈ lw_gd := gd_in (tb_1 _ (List.mem_of_getElem? (i := 38) (by decide +kernel))) rfl
theorem w_6 : Cond.methodLink RX0 19 arraycopyName ∈ lw_gd := gd_in (tb_2 _ (List.mem_of_getElem? (i := 159) (by decide +kernel))) rfl
theorem w_7 : Cond.native arraycopyName ∈ lw_gd := gd_in (tb_2 _ (List.mem_of_getElem? (i := 161) (by decide +kernel))) rfl
theorem w_8 : Cond.static arraycopyName ∈ lw_gd := gd_in (tb_2 _ (List.mem_of_getElem? (i := 160) (by decide +kernel))) rfl
theorem w_9 : Cond.initialized "java/lang/System" ∈ lw_gd := gd_in (tb_1 _ (List.mem_of_getElem? (i := 13) (by decide +kernel))) rfl
theorem w_10 : Cond.code yX0_put cX0_put 2 none ∈ lw_gd := gd_in (tb_3 _ (List.mem_of_getElem? (i := 16) (by decide +kernel))) rfl
theorem w_11 : Cond.initialized RX0 ∈ lw_gd := gd_in (tb_1 _ (List.mem_of_getElem? (i := 3) (by decide +kernel))) rfl
theorem w_12 : Cond.methodLink RX0 25 yX0_put ∈ lw_gd := gd_in (tb_3 _ (List.mem_of_getElem? (i := 38) (by decide +kernel))) rfl
theorem w_13 : Cond.instanceMethod yX0_put ∈ lw_gd := gd_in (tb_3 _ (List.mem_of_getElem? (i := 14) (by decide +kernel))) rfl
theorem w_14 : Cond.selects RX0 yX0_put yX0_put ∈ lw_gd := gd_in (tb_3 _ (List.mem_of_getElem? (i := 15) (by decide +kernel))) rfl
theorem w_15 : Cond.code yX0_become cX0_become 2 none ∈ lw_gd := gd_in (tb_2 _ (List.mem_of_getElem? (i := 158) (by decide +kernel))) rfl
theorem w_16 : Cond.methodLink RX0 29 yX0_become ∈ lw_gd := gd_in (tb_3 _ (List.mem_of_getElem? (i := 21) (by decide +kernel))) rfl
theorem w_17 : Cond.instanceMethod yX0_become ∈ lw_gd := gd_in (tb_2 _ (List.mem_of_getElem? (i := 156) (by decide +kernel))) rfl
theorem w_18 : Cond.selects RX0 yX0_become yX0_become ∈ lw_gd := gd_in (tb_2 _ (List.mem_of_getElem? (i := 157) (by decide +kernel))) rfl
theorem w_19 : Cond.code yX0_swapHands cX0_swapHands 2 none ∈ lw_gd := gd_in (tb_3 _ (List.mem_of_getElem? (i := 25) (by decide +kernel))) rfl
theorem w_20 : Cond.methodLink RX0 33 yX0_swapHands ∈ lw_gd := gd_in (tb_3 _ (List.mem_of_getElem? (i := 22) (by decide +kernel))) rfl
theorem w_21 : Cond.instanceMethod yX0_swapHands ∈ lw_gd := gd_in (tb_3 _ (List.mem_of_getElem? (i := 24) (by decide +kernel))) rfl
theorem w_22 : Cond.selects RX0 yX0_swapHands yX0_swapHands ∈ lw_gd := gd_in (tb_0 _ (List.mem_of_getElem? (i := 15) (by decide +kernel))) rfl
theorem w_23 : Cond.code yX0_dropLast cX0_dropLast 1 none ∈ lw_gd := gd_in (tb_3 _ (List.mem_of_getElem? (i := 29) (by decide +kernel))) rfl
theorem w_24 : Cond.methodLink RX0 36 yX0_dropLast ∈ lw_gd := gd_in (tb_3 _ (List.mem_of_getElem? (i := 26) (by decide +kernel))) rfl
theorem w_25 : Cond.instanceMethod yX0_dropLast ∈ lw_gd := gd_in (tb_3 _ (List.mem_of_getElem? (i := 28) (by decide +kernel))) rfl
theorem w_26 : Cond.selects RX0 yX0_dropLast yX0_dropLast ∈ lw_gd := gd_in (tb_0 _ (List.mem_of_getElem? (i := 16) (by decide +kernel))) rfl
theorem w_27 : Cond.code yX0_reverse cX0_reverse 3 none ∈ lw_gd := gd_in (tb_3 _ (List.mem_of_getElem? (i := 33) (by decide +kernel))) rfl
theorem w_28 : Cond.methodLink RX0 39 yX0_reverse ∈ lw_gd := gd_in (tb_3 _ (List.mem_of_getElem? (i := 30) (by decide +kernel))) rfl
theorem w_29 : Cond.instanceMethod yX0_reverse ∈ lw_gd := gd_in (tb_3 _ (List.mem_of_getElem? (i := 32) (by decide +kernel))) rfl
theorem w_30 : Cond.selects RX0 yX0_reverse yX0_reverse ∈ lw_gd := gd_in (tb_0 _ (List.mem_of_getElem? (i := 17) (by decide +kernel))) rfl
theorem w_31 : Cond.code yX0_repeatFirst cX0_repeatFirst 1 none ∈ lw_gd := gd_in (tb_3 _ (List.mem_of_getElem? (i := 37) (by decide +kernel))) rfl
theorem w_32 : Cond.methodLink RX0 42 yX0_repeatFirst ∈ lw_gd := gd_in (tb_3 _ (List.mem_of_getElem? (i := 34) (by decide +kernel))) rfl
theorem w_33 : Cond.instanceMethod yX0_repeatFirst ∈ lw_gd := gd_in (tb_3 _ (List.mem_of_getElem? (i := 36) (by decide +kernel))) rfl
theorem w_34 : Cond.selects RX0 yX0_repeatFirst yX0_repeatFirst ∈ lw_gd := gd_in (tb_0 _ (List.mem_of_getElem? (i := 18) (by decide +kernel))) rfl
theorem w_35 : Cond.code yX0_reduce cX0_reduce 3 none ∈ lw_gd := gd_in (tb_2 _ (List.mem_of_getElem? (i := 169) (by decide +kernel))) rfl
theorem w_36 : Cond.methodLink RX0 45 yX0_reduce ∈ lw_gd := gd_in (tb_2 _ (List.mem_of_getElem? (i := 166) (by decide +kernel))) rfl
theorem w_37 : Cond.instanceMethod yX0_reduce ∈ lw_gd := gd_in (tb_2 _ (List.mem_of_getElem? (i := 167) (by decide +kernel))) rfl
theorem w_38 : Cond.selects RX0 yX0_reduce yX0_reduce ∈ lw_gd := gd_in (tb_2 _ (List.mem_of_getElem? (i := 168) (by decide +kernel))) rfl
theorem w_39 : Cond.code yX0_undo cX0_undo 2 (some (FieldType.boolean)) ∈ lw_gd := gd_in (tb_2 _ (List.mem_of_getElem? (i := 172) (by decide +kernel))) rfl
theorem w_40 : Cond.methodLink RX0 48 yX0_undo ∈ lw_gd := gd_in (tb_2 _ (List.mem_of_getElem? (i := 170) (by decide +kernel))) rfl
theorem w_41 : Cond.static yX0_undo ∈ lw_gd := gd_in (tb_2 _ (List.mem_of_getElem? (i := 171) (by decide +kernel))) rfl
theorem w_42 : Cond.code yX0_isTurnedBy cX0_isTurnedBy 5 (some (FieldType.boolean)) ∈ lw_gd := gd_in (tb_3 _ (List.mem_of_getElem? (i := 69) (by decide +kernel))) rfl
theorem w_43 : Cond.methodLink RX0 52 yX0_isTurnedBy ∈ lw_gd := gd_in (tb_3 _ (List.mem_of_getElem? (i := 66) (by decide +kernel))) rfl
theorem w_44 : Cond.instanceMethod yX0_isTurnedBy ∈ lw_gd := gd_in (tb_3 _ (List.mem_of_getElem? (i := 68) (by decide +kernel))) rfl
theorem w_45 : Cond.selects RX0 yX0_isTurnedBy yX0_isTurnedBy ∈ lw_gd := gd_in (tb_0 _ (List.mem_of_getElem? (i := 20) (by decide +kernel))) rfl
theorem w_46 : Cond.methodLink RX1 3 Lib.objectInit ∈ lw_gd := gd_in (tb_1 _ (List.mem_of_getElem? (i := 154) (by decide +kernel))) rfl
theorem w_47 : Cond.fieldLink RX1 9 (TX1 0).1 (TX1 0).2.1 (TX1 0).2.2.1 ∈ lw_gd := gd_in (tb_1 _ (List.mem_of_getElem? (i := 155) (by decide +kernel))) rfl
theorem w_48 : Cond.fieldLink RX1 15 (TX1 1).1 (TX1 1).2.1 (TX1 1).2.2.1 ∈ lw_gd := gd_in (tb_1 _ (List.mem_of_getElem? (i := 156) (by decide +kernel))) rfl
theorem w_49 : Cond.fieldLink RX1 19 (TX1 2).1 (TX1 2).2.1 (TX1 2).2.2.1 ∈ lw_gd := gd_in (tb_1 _ (List.mem_of_getElem? (i := 158) (by decide +kernel))) rfl
theorem w_50 : Cond.fieldLink RX1 22 (TX1 3).1 (TX1 3).2.1 (TX1 3).2.2.1 ∈ lw_gd := gd_in (tb_1 _ (List.mem_of_getElem? (i := 159) (by decide +kernel))) rfl
theorem w_51 : Cond.fieldLink RX1 25 (TX1 4).1 (TX1 4).2.1 (TX1 4).2.2.1 ∈ lw_gd := gd_in (tb_1 _ (List.mem_of_getElem? (i := 160) (by decide +kernel))) rfl
theorem w_52 : Cond.fieldLink RX1 28 (TX1 5).1 (TX1 5).2.1 (TX1 5).2.2.1 ∈ lw_gd := gd_in (tb_1 _ (List.mem_of_getElem? (i := 161) (by decide +kernel))) rfl
theorem w_53 : Cond.fieldLink RX1 31 (TX1 6).1 (TX1 6).2.1 (TX1 6).2.2.1 ∈ lw_gd := gd_in (tb_1 _ (List.mem_of_getElem? (i := 162) (by decide +kernel))) rfl
theorem w_54 : Cond.fieldLink RX1 34 (TX1 7).1 (TX1 7).2.1 (TX1 7).2.2.1 ∈ lw_gd := gd_in (tb_1 _ (List.mem_of_getElem? (i := 163) (by decide +kernel))) rfl
theorem w_55 : Cond.fieldLink RX1 38 (TX4 3).1 (TX4 3).2.1 (TX4 3).2.2.1 ∈ lw_gd := gd_in (tb_1 _ (List.mem_of_getElem? (i := 121) (by decide +kernel))) rfl
theorem w_56 : Cond.code yX1_step cX1_step 1 none ∈ lw_gd := gd_in (tb_2 _ (List.mem_of_getElem? (i := 23) (by decide +kernel))) rfl
theorem w_57 : Cond.initialized RX1 ∈ lw_gd := gd_in (tb_1 _ (List.mem_of_getElem? (i := 6) (by decide +kernel))) rfl
theorem w_58 : Cond.methodLink RX1 41 yX1_step ∈ lw_gd := gd_in (tb_2 _ (List.mem_of_getElem? (i := 20) (by decide +kernel))) rfl
theorem w_59 : Cond.instanceMethod yX1_step ∈ lw_gd := gd_in (tb_2 _ (List.mem_of_getElem? (i := 22) (by decide +kernel))) rfl
theorem w_60 : Cond.selects RX1 yX1_step yX1_step ∈ lw_gd := gd_in (tb_0 _ (List.mem_of_getElem? (i := 0) (by decide +kernel))) rfl
theorem w_61 : Cond.code yX1_need cX1_need 2 none ∈ lw_gd := gd_in (tb_2 _ (List.mem_of_getElem? (i := 48) (by decide +kernel))) rfl
theorem w_62 : Cond.methodLink RX1 44 yX1_need ∈ lw_gd := gd_in (tb_2 _ (List.mem_of_getElem? (i := 45) (by decide +kernel))) rfl
theorem w_63 : Cond.instanceMethod yX1_need ∈ lw_gd := gd_in (tb_2 _ (List.mem_of_getElem? (i := 47) (by decide +kernel))) rfl
theorem w_64 : Cond.selects RX1 yX1_need yX1_need ∈ lw_gd := gd_in (tb_0 _ (List.mem_of_getElem? (i := 4) (by decide +kernel))) rfl
theorem w_65 : Cond.code yX1_level cX1_level 6 none ∈ lw_gd := gd_in (tb_2 _ (List.mem_of_getElem? (i := 56) (by decide +kernel))) rfl
theorem w_66 : Cond.methodLink RX1 48 yX1_level ∈ lw_gd := gd_in (tb_2 _ (List.mem_of_getElem? (i := 53) (by decide +kernel))) rfl
theorem w_67 : Cond.instanceMethod yX1_level ∈ lw_gd := gd_in (tb_2 _ (List.mem_of_getElem? (i := 55) (by decide +kernel))) rfl
theorem w_68 : Cond.selects RX1 yX1_level yX1_level ∈ lw_gd := gd_in (tb_0 _ (List.mem_of_getElem? (i := 6) (by decide +kernel))) rfl
theorem w_69 : Cond.fieldLink RX1 52 (TX4 2).1 (TX4 2).2.1 (TX4 2).2.2.1 ∈ lw_gd := gd_in (tb_1 _ (List.mem_of_getElem? (i := 118) (by decide +kernel))) rfl
theorem w_70 : Cond.code yX1_fail cX1_fail 1 none ∈ lw_gd := gd_in (tb_2 _ (List.mem_of_getElem? (i := 52) (by decide +kernel))) rfl
theorem w_71 : Cond.methodLink RX1 55 yX1_fail ∈ lw_gd := gd_in (tb_2 _ (List.mem_of_getElem? (i := 49) (by decide +kernel))) rfl
theorem w_72 : Cond.instanceMethod yX1_fail ∈ lw_gd := gd_in (tb_2 _ (List.mem_of_getElem? (i := 51) (by decide +kernel))) rfl
theorem w_73 : Cond.selects RX1 yX1_fail yX1_fail ∈ lw_gd := gd_in (tb_0 _ (List.mem_of_getElem? (i := 5) (by decide +kernel))) rfl
theorem w_74 : Cond.code yX1_single cX1_single 2 none ∈ lw_gd := gd_in (tb_2 _ (List.mem_of_getElem? (i := 60) (by decide +kernel))) rfl
theorem w_75 : Cond.methodLink RX1 58 yX1_single ∈ lw_gd := gd_in (tb_2 _ (List.mem_of_getElem? (i := 57) (by decide +kernel))) rfl
theorem w_76 : Cond.instanceMethod yX1_single ∈ lw_gd := gd_in (tb_2 _ (List.mem_of_getElem? (i := 59) (by decide +kernel))) rfl
theorem w_77 : Cond.selects RX1 yX1_single yX1_single ∈ lw_gd := gd_in (tb_0 _ (List.mem_of_getElem? (i := 7) (by decide +kernel))) rfl
theorem w_78 : Cond.code yX1_denial cX1_denial 2 none ∈ lw_gd := gd_in (tb_2 _ (List.mem_of_getElem? (i := 72) (by decide +kernel))) rfl
theorem w_79 : Cond.methodLink RX1 61 yX1_denial ∈ lw_gd := gd_in (tb_2 _ (List.mem_of_getElem? (i := 69) (by decide +kernel))) rfl
theorem w_80 : Cond.instanceMethod yX1_denial ∈ lw_gd := gd_in (tb_2 _ (List.mem_of_getElem? (i := 71) (by decide +kernel))) rfl
theorem w_81 : Cond.selects RX1 yX1_denial yX1_denial ∈ lw_gd := gd_in (tb_0 _ (List.mem_of_getElem? (i := 9) (by decide +kernel))) rfl
theorem w_82 : Cond.code yX1_joins cX1_joins 2 (some (FieldType.boolean)) ∈ lw_gd := gd_in (tb_2 _ (List.mem_of_getElem? (i := 76) (by decide +kernel))) rfl
theorem w_83 : Cond.methodLink RX1 64 yX1_joins ∈ lw_gd := gd_in (tb_2 _ (List.mem_of_getElem? (i := 73) (by decide +kernel))) rfl
theorem w_84 : Cond.instanceMethod yX1_joins ∈ lw_gd := gd_in (tb_2 _ (List.mem_of_getElem? (i := 75) (by decide +kernel))) rfl
theorem w_85 : Cond.selects RX1 yX1_joins yX1_joins ∈ lw_gd := gd_in (tb_0 _ (List.mem_of_getElem? (i := 10) (by decide +kernel))) rfl
theorem w_86 : Cond.code yX1_emit cX1_emit 3 none ∈ lw_gd := gd_in (tb_2 _ (List.mem_of_getElem? (i := 64) (by decide +kernel))) rfl
theorem w_87 : Cond.methodLink RX1 68 yX1_emit ∈ lw_gd := gd_in (tb_2 _ (List.mem_of_getElem? (i := 61) (by decide +kernel))) rfl
theorem w_88 : Cond.instanceMethod yX1_emit ∈ lw_gd := gd_in (tb_2 _ (List.mem_of_getElem? (i := 63) (by decide +kernel))) rfl
theorem w_89 : Cond.selects RX1 yX1_emit yX1_emit ∈ lw_gd := gd_in (tb_0 _ (List.mem_of_getElem? (i := 8) (by decide +kernel))) rfl
theorem w_90 : Cond.code yX4_add cX4_add 3 none ∈ lw_gd := gd_in (tb_2 _ (List.mem_of_getElem? (i := 68) (by decide +kernel))) rfl
theorem w_91 : Cond.initialized RX4 ∈ lw_gd := gd_in (tb_1 _ (List.mem_of_getElem? (i := 5) (by decide +kernel))) rfl
theorem w_92 : Cond.methodLink RX1 71 yX4_add ∈ lw_gd := gd_in (tb_2 _ (List.mem_of_getElem? (i := 65) (by decide +kernel))) rfl
theorem w_93 : Cond.instanceMethod yX4_add ∈ lw_gd := gd_in (tb_2 _ (List.mem_of_getElem? (i := 66) (by decide +kernel))) rfl
theorem w_94 : Cond.selects RX4 yX4_add yX4_add ∈ lw_gd := gd_in (tb_2 _ (List.mem_of_getElem? (i := 67) (by decide +kernel))) rfl
theorem w_95 : Cond.code yX1_endOf cX1_endOf 6 (some (FieldType.int)) ∈ lw_gd := gd_in (tb_2 _ (List.mem_of_getElem? (i := 27) (by decide +kernel))) rfl
theorem w_96 : Cond.methodLink RX1 74 yX1_endOf ∈ lw_gd := gd_in (tb_2 _ (List.mem_of_getElem? (i := 24) (by decide +kernel))) rfl
theorem w_97 : Cond.instanceMethod yX1_endOf ∈ lw_gd := gd_in (tb_2 _ (List.mem_of_getElem? (i := 26) (by decide +kernel))) rfl
theorem w_98 : Cond.selects RX1 yX1_endOf yX1_endOf ∈ lw_gd := gd_in (tb_0 _ (List.mem_of_getElem? (i := 1) (by decide +kernel))) rfl
theorem w_99 : Cond.code yX1_isIn cX1_isIn 3 (some (FieldType.boolean)) ∈ lw_gd := gd_in (tb_2 _ (List.mem_of_getElem? (i := 30) (by decide +kernel))) rfl
theorem w_100 : Cond.methodLink RX1 78 yX1_isIn ∈ lw_gd := gd_in (tb_2 _ (List.mem_of_getElem? (i := 28) (by decide +kernel))) rfl
theorem w_101 : Cond.static yX1_isIn ∈ lw_gd := gd_in (tb_2 _ (List.mem_of_getElem? (i := 29) (by decide +kernel))) rfl
theorem w_102 : Cond.code yX1_readWord cX1_readWord 4 none ∈ lw_gd := gd_in (tb_2 _ (List.mem_of_getElem? (i := 34) (by decide +kernel))) rfl
theorem w_103 : Cond.methodLink RX1 82 yX1_readWord ∈ lw_gd := gd_in (tb_2 _ (List.mem_of_getElem? (i := 31) (by decide +kernel))) rfl
theorem w_104 : Cond.instanceMethod yX1_readWord ∈ lw_gd := gd_in (tb_2 _ (List.mem_of_getElem? (i := 33) (by decide +kernel))) rfl
theorem w_105 : Cond.selects RX1 yX1_readWord yX1_readWord ∈ lw_gd := gd_in (tb_0 _ (List.mem_of_getElem? (i := 2) (by decide +kernel))) rfl
theorem w_106 : Cond.code yX1_readNumber cX1_readNumber 2 none ∈ lw_gd := gd_in (tb_2 _ (List.mem_of_getElem? (i := 41) (by decide +kernel))) rfl
theorem w_107 : Cond.methodLink RX1 85 yX1_readNumber ∈ lw_gd := gd_in (tb_2 _ (List.mem_of_getElem? (i := 38) (by decide +kernel))) rfl
theorem w_108 : Cond.instanceMethod yX1_readNumber ∈ lw_gd := gd_in (tb_2 _ (List.mem_of_getElem? (i := 40) (by decide +kernel))) rfl
theorem w_109 : Cond.selects RX1 yX1_readNumber yX1_readNumber ∈ lw_gd := gd_in (tb_0 _ (List.mem_of_getElem? (i := 3) (by decide +kernel))) rfl
theorem w_110 : Cond.code yX1_isSign cX1_isSign 1 (some (FieldType.boolean)) ∈ lw_gd := gd_in (tb_2 _ (List.mem_of_getElem? (i := 44) (by decide +kernel))) rfl
theorem w_111 : Cond.methodLink RX1 88 yX1_isSign ∈ lw_gd := gd_in (tb_2 _ (List.mem_of_getElem? (i := 42) (by decide +kernel))) rfl
theorem w_112 : Cond.static yX1_isSign ∈ lw_gd := gd_in (tb_2 _ (List.mem_of_getElem? (i := 43) (by decide +kernel))) rfl
theorem w_113 : Cond.code yJ0_length_8abf5 cJ0_length_8abf5 1 (some (FieldType.int)) ∈ lw_gd := gd_in (tb_1 _ (List.mem_of_getElem? (i := 207) (by decide +kernel))) rfl
theorem w_114 : Cond.initialized RJ0 ∈ lw_gd := gd_in (tb_1 _ (List.mem_of_getElem? (i := 8) (by decide +kernel))) rfl
theorem w_115 : Cond.methodLink RX1 93 yJ0_length_8abf5 ∈ lw_gd := gd_in (tb_2 _ (List.mem_of_getElem? (i := 36) (by decide +kernel))) rfl
theorem w_116 : Cond.instanceMethod yJ0_length_8abf5 ∈ lw_gd := gd_in (tb_1 _ (List.mem_of_getElem? (i := 205) (by decide +kernel))) rfl
theorem w_117 : Cond.selects RJ0 yJ0_length_8abf5 yJ0_length_8abf5 ∈ lw_gd := gd_in (tb_1 _ (List.mem_of_getElem? (i := 206) (by decide +kernel))) rfl
theorem w_118 : Cond.code yJ0_charAt_5068e cJ0_charAt_5068e 2 (some (FieldType.char)) ∈ lw_gd := gd_in (tb_1 _ (List.mem_of_getElem? (i := 217) (by decide +kernel))) rfl
theorem w_119 : Cond.methodLink RX1 99 yJ0_charAt_5068e ∈ lw_gd := gd_in (tb_2 _ (List.mem_of_getElem? (i := 37) (by decide +kernel))) rfl
theorem w_120 : Cond.instanceMethod yJ0_charAt_5068e ∈ lw_gd := gd_in (tb_1 _ (List.mem_of_getElem? (i := 215) (by decide +kernel))) rfl
theorem w_121 : Cond.selects RJ0 yJ0_charAt_5068e yJ0_charAt_5068e ∈ lw_gd := gd_in (tb_1 _ (List.mem_of_getElem? (i := 216) (by decide +kernel))) rfl
theorem w_122 : Cond.methodLink RX2 3 Lib.objectInit ∈ lw_gd := gd_in (tb_1 _ (List.mem_of_getElem? (i := 103) (by decide +kernel))) rfl
theorem w_123 : Cond.classLink RX2 9 RX4 ∈ lw_gd := gd_in (tb_1 _ (List.mem_of_getElem? (i := 104) (by decide +kernel))) rfl
theorem w_124 : Cond.fieldLink RX2 11 (TX2 0).1 (TX2 0).2.1 (TX2 0).2.2.1 ∈ lw_gd := gd_in (tb_1 _ (List.mem_of_getElem? (i := 131) (by decide +kernel))) rfl
theorem w_125 : Cond.fieldLink RX2 17 (TX2 1).1 (TX2 1).2.1 (TX2 1).2.2.1 ∈ lw_gd := gd_in (tb_1 _ (List.mem_of_getElem? (i := 133) (by decide +kernel))) rfl
theorem w_126 : Cond.fieldLink RX2 21 (TX2 2).1 (TX2 2).2.1 (TX2 2).2.2.1 ∈ lw_gd := gd_in (tb_1 _ (List.mem_of_getElem? (i := 135) (by decide +kernel))) rfl
theorem w_127 : Cond.fieldLink RX2 25 (TX2 3).1 (TX2 3).2.1 (TX2 3).2.2.1 ∈ lw_gd := gd_in (tb_1 _ (List.mem_of_getElem? (i := 136) (by decide +kernel))) rfl
theorem w_128 : Cond.classLink RX2 28 RX0 ∈ lw_gd := gd_in (tb_1 _ (List.mem_of_getElem? (i := 106) (by decide +kernel))) rfl
theorem w_129 : Cond.instantiable RX0 2 ∈ lw_gd := gd_in (tb_1 _ (List.mem_of_getElem? (i := 32) (by decide +kernel))) rfl
theorem w_130 : Cond.code yX0_init cX0_init 1 none ∈ lw_gd := gd_in (tb_1 _ (List.mem_of_getElem? (i := 35) (by decide +kernel))) rfl
theorem w_131 : Cond.methodLinkNest RX2 30 yX0_init "LadsTieShoes" ∈ lw_tbl := (tb_1 _ (List.mem_of_getElem? (i := 107) (by decide +kernel)))
theorem w_132 : Cond.instanceMethod yX0_init ∈ lw_gd := gd_in (tb_1 _ (List.mem_of_getElem? (i := 34) (by decide +kernel))) rfl
theorem w_133 : Cond.fieldLink RX2 31 (TX2 4).1 (TX2 4).2.1 (TX2 4).2.2.1 ∈ lw_gd := gd_in (tb_1 _ (List.mem_of_getElem? (i := 137) (by decide +kernel))) rfl
theorem w_134 : Cond.instantiable RX4 4 ∈ lw_gd := gd_in (tb_1 _ (List.mem_of_getElem? (i := 108) (by decide +kernel))) rfl
theorem w_135 : Cond.code yX4_init cX4_init 1 none ∈ lw_gd := gd_in (tb_1 _ (List.mem_of_getElem? (i := 111) (by decide +kernel))) rfl
theorem w_136 : Cond.methodLinkNest RX2 35 yX4_init "LadsTieShoes" ∈ lw_tbl := (tb_1 _ (List.mem_of_getElem? (i := 109) (by decide +kernel)))
theorem w_137 : Cond.instanceMethod yX4_init ∈ lw_gd := gd_in (tb_1 _ (List.mem_of_getElem? (i := 110) (by decide +kernel))) rfl
theorem w_138 : Cond.methodLink RX2 36 yX0_become ∈ lw_gd := gd_in (tb_2 _ (List.mem_of_getElem? (i := 155) (by decide +kernel))) rfl
theorem w_139 : Cond.code yX0_pull cX0_pull 3 none ∈ lw_gd := gd_in (tb_2 _ (List.mem_of_getElem? (i := 165) (by decide +kernel))) rfl
theorem w_140 : Cond.methodLink RX2 40 yX0_pull ∈ lw_gd := gd_in (tb_2 _ (List.mem_of_getElem? (i := 162) (by decide +kernel))) rfl
theorem w_141 : Cond.instanceMethod yX0_pull ∈ lw_gd := gd_in (tb_2 _ (List.mem_of_getElem? (i := 163) (by decide +kernel))) rfl
theorem w_142 : Cond.selects RX0 yX0_pull yX0_pull ∈ lw_gd := gd_in (tb_2 _ (List.mem_of_getElem? (i := 164) (by decide +kernel))) rfl
theorem w_143 : Cond.fieldLink RX2 43 (TX0 1).1 (TX0 1).2.1 (TX0 1).2.2.1 ∈ lw_gd := gd_in (tb_1 _ (List.mem_of_getElem? (i := 39) (by decide +kernel))) rfl
theorem w_144 : Cond.code yX5_hasLad cX5_hasLad 2 (some (FieldType.boolean)) ∈ lw_gd := gd_in (tb_2 _ (List.mem_of_getElem? (i := 129) (by decide +kernel))) rfl
theorem w_145 : Cond.initialized RX5 ∈ lw_gd := gd_in (tb_1 _ (List.mem_of_getElem? (i := 2) (by decide +kernel))) rfl
theorem w_146 : Cond.methodLink RX2 46 yX5_hasLad ∈ lw_gd := gd_in (tb_2 _ (List.mem_of_getElem? (i := 177) (by decide +kernel))) rfl
theorem w_147 : Cond.instanceMethod yX5_hasLad ∈ lw_gd := gd_in (tb_2 _ (List.mem_of_getElem? (i := 127) (by decide +kernel))) rfl
theorem w_148 : Cond.selects RX5 yX5_hasLad yX5_hasLad ∈ lw_gd := gd_in (tb_2 _ (List.mem_of_getElem? (i := 128) (by decide +kernel))) rfl
theorem w_149 : Cond.fieldLink RX2 52 (TX5 2).1 (TX5 2).2.1 (TX5 2).2.2.1 ∈ lw_gd := gd_in (tb_1 _ (List.mem_of_getElem? (i := 55) (by decide +kernel))) rfl
theorem w_150 : Cond.code yX6_isWithin cX6_isWithin 2 (some (FieldType.boolean)) ∈ lw_gd := gd_in (tb_2 _ (List.mem_of_getElem? (i := 125) (by decide +kernel))) rfl
theorem w_151 : Cond.initialized RX6 ∈ lw_gd := gd_in (tb_1 _ (List.mem_of_getElem? (i := 1) (by decide +kernel))) rfl
theorem w_152 : Cond.methodLinkNest RX2 55 yX6_isWithin "LadsTieShoes" ∈ lw_tbl := (tb_2 _ (List.mem_of_getElem? (i := 183) (by decide +kernel)))
theorem w_153 : Cond.static yX6_isWithin ∈ lw_gd := gd_in (tb_2 _ (List.mem_of_getElem? (i := 124) (by decide +kernel))) rfl
theorem w_154 : Cond.fieldLink RX2 59 (TX5 6).1 (TX5 6).2.1 (TX5 6).2.2.1 ∈ lw_gd := gd_in (tb_1 _ (List.mem_of_getElem? (i := 67) (by decide +kernel))) rfl
theorem w_155 : Cond.fieldLink RX2 62 (TX5 1).1 (TX5 1).2.1 (TX5 1).2.2.1 ∈ lw_gd := gd_in (tb_1 _ (List.mem_of_getElem? (i := 53) (by decide +kernel))) rfl
theorem w_156 : Cond.fieldLink RX2 65 (TX5 5).1 (TX5 5).2.1 (TX5 5).2.2.1 ∈ lw_gd := gd_in (tb_1 _ (List.mem_of_getElem? (i := 64) (by decide +kernel))) rfl
theorem w_157 : Cond.fieldLink RX2 68 (TX5 0).1 (TX5 0).2.1 (TX5 0).2.2.1 ∈ lw_gd := gd_in (tb_1 _ (List.mem_of_getElem? (i := 50) (by decide +kernel))) rfl
theorem w_158 : Cond.code yX2_compute cX2_compute 6 (some (FieldType.int)) ∈ lw_gd := gd_in (tb_2 _ (List.mem_of_getElem? (i := 187) (by decide +kernel))) rfl
theorem w_159 : Cond.initialized RX2 ∈ lw_gd := gd_in (tb_1 _ (List.mem_of_getElem? (i := 4) (by decide +kernel))) rfl
theorem w_160 : Cond.methodLink RX2 71 yX2_compute ∈ lw_gd := gd_in (tb_2 _ (List.mem_of_getElem? (i := 184) (by decide +kernel))) rfl
theorem w_161 : Cond.instanceMethod yX2_compute ∈ lw_gd := gd_in (tb_2 _ (List.mem_of_getElem? (i := 186) (by decide +kernel))) rfl
theorem w_162 : Cond.selects RX2 yX2_compute yX2_compute ∈ lw_gd := gd_in (tb_0 _ (List.mem_of_getElem? (i := 12) (by decide +kernel))) rfl
theorem w_163 : Cond.code yX6_bounded cX6_bounded 3 (some (FieldType.int)) ∈ lw_gd := gd_in (tb_2 _ (List.mem_of_getElem? (i := 200) (by decide +kernel))) rfl
theorem w_164 : Cond.methodLinkNest RX2 75 yX6_bounded "LadsTieShoes" ∈ lw_tbl := (tb_2 _ (List.mem_of_getElem? (i := 198) (by decide +kernel)))
theorem w_165 : Cond.static yX6_bounded ∈ lw_gd := gd_in (tb_2 _ (List.mem_of_getElem? (i := 199) (by decide +kernel))) rfl
theorem w_166 : Cond.fieldLink RX2 79 (TX4 2).1 (TX4 2).2.1 (TX4 2).2.2.1 ∈ lw_gd := gd_in (tb_1 _ (List.mem_of_getElem? (i := 119) (by decide +kernel))) rfl
theorem w_167 : Cond.fieldLink RX2 82 (TX4 0).1 (TX4 0).2.1 (TX4 0).2.2.1 ∈ lw_gd := gd_in (tb_1 _ (List.mem_of_getElem? (i := 114) (by decide +kernel))) rfl
theorem w_168 : Cond.fieldLink RX2 85 (TX4 1).1 (TX4 1).2.1 (TX4 1).2.2.1 ∈ lw_gd := gd_in (tb_1 _ (List.mem_of_getElem? (i := 116) (by decide +kernel))) rfl
theorem w_169 : Cond.code yX2_named cX2_named 2 (some (FieldType.int)) ∈ lw_gd := gd_in (tb_2 _ (List.mem_of_getElem? (i := 191) (by decide +kernel))) rfl
theorem w_170 : Cond.methodLink RX2 88 yX2_named ∈ lw_gd := gd_in (tb_2 _ (List.mem_of_getElem? (i := 188) (by decide +kernel))) rfl
theorem w_171 : Cond.instanceMethod yX2_named ∈ lw_gd := gd_in (tb_2 _ (List.mem_of_getElem? (i := 190) (by decide +kernel))) rfl
theorem w_172 : Cond.selects RX2 yX2_named yX2_named ∈ lw_gd := gd_in (tb_0 _ (List.mem_of_getElem? (i := 13) (by decide +kernel))) rfl
theorem w_173 : Cond.code yX2_truth cX2_truth 1 (some (FieldType.int)) ∈ lw_gd := gd_in (tb_2 _ (List.mem_of_getElem? (i := 194) (by decide +kernel))) rfl
theorem w_174 : Cond.methodLink RX2 92 yX2_truth ∈ lw_gd := gd_in (tb_2 _ (List.mem_of_getElem? (i := 192) (by decide +kernel))) rfl
theorem w_175 : Cond.static yX2_truth ∈ lw_gd := gd_in (tb_2 _ (List.mem_of_getElem? (i := 193) (by decide +kernel))) rfl
theorem w_176 : Cond.code yX2_join cX2_join 3 (some (FieldType.int)) ∈ lw_gd := gd_in (tb_2 _ (List.mem_of_getElem? (i := 197) (by decide +kernel))) rfl
theorem w_177 : Cond.methodLink RX2 96 yX2_join ∈ lw_gd := gd_in (tb_2 _ (List.mem_of_getElem? (i := 195) (by decide +kernel))) rfl
theorem w_178 : Cond.static yX2_join ∈ lw_gd := gd_in (tb_2 _ (List.mem_of_getElem? (i := 196) (by decide +kernel))) rfl
theorem w_179 : Cond.code yX6_isFoot cX6_isFoot 1 (some (FieldType.boolean)) ∈ lw_gd := gd_in (tb_2 _ (List.mem_of_getElem? (i := 132) (by decide +kernel))) rfl
theorem w_180 : Cond.methodLinkNest RX2 99 yX6_isFoot "LadsTieShoes" ∈ lw_tbl := (tb_2 _ (List.mem_of_getElem? (i := 178) (by decide +kernel)))
theorem w_181 : Cond.static yX6_isFoot ∈ lw_gd := gd_in (tb_2 _ (List.mem_of_getElem? (i := 131) (by decide +kernel))) rfl
theorem w_182 : Cond.fieldLink RX2 102 (TX5 7).1 (TX5 7).2.1 (TX5 7).2.2.1 ∈ lw_gd := gd_in (tb_1 _ (List.mem_of_getElem? (i := 70) (by decide +kernel))) rfl
theorem w_183 : Cond.code yX2_say cX2_say 6 (some (FieldType.int)) ∈ lw_gd := gd_in (tb_2 _ (List.mem_of_getElem? (i := 182) (by decide +kernel))) rfl
theorem w_184 : Cond.methodLink RX2 105 yX2_say ∈ lw_gd := gd_in (tb_2 _ (List.mem_of_getElem? (i := 179) (by decide +kernel))) rfl
theorem w_185 : Cond.instanceMethod yX2_say ∈ lw_gd := gd_in (tb_2 _ (List.mem_of_getElem? (i := 180) (by decide +kernel))) rfl
theorem w_186 : Cond.selects RX2 yX2_say yX2_say ∈ lw_gd := gd_in (tb_2 _ (List.mem_of_getElem? (i := 181) (by decide +kernel))) rfl
theorem w_187 : Cond.fieldLink RX2 109 (TX5 4).1 (TX5 4).2.1 (TX5 4).2.2.1 ∈ lw_gd := gd_in (tb_1 _ (List.mem_of_getElem? (i := 61) (by decide +kernel))) rfl
theorem w_188 : Cond.code yX5_isTied cX5_isTied 2 (some (FieldType.boolean)) ∈ lw_gd := gd_in (tb_2 _ (List.mem_of_getElem? (i := 148) (by decide +kernel))) rfl
theorem w_189 : Cond.methodLink RX2 112 yX5_isTied ∈ lw_gd := gd_in (tb_2 _ (List.mem_of_getElem? (i := 145) (by decide +kernel))) rfl
theorem w_190 : Cond.instanceMethod yX5_isTied ∈ lw_gd := gd_in (tb_2 _ (List.mem_of_getElem? (i := 146) (by decide +kernel))) rfl
theorem w_191 : Cond.selects RX5 yX5_isTied yX5_isTied ∈ lw_gd := gd_in (tb_2 _ (List.mem_of_getElem? (i := 147) (by decide +kernel))) rfl
theorem w_192 : Cond.fieldLink RX2 115 (TX5 8).1 (TX5 8).2.1 (TX5 8).2.2.1 ∈ lw_gd := gd_in (tb_1 _ (List.mem_of_getElem? (i := 73) (by decide +kernel))) rfl
theorem w_193 : Cond.fieldLink RX2 118 (TX5 9).1 (TX5 9).2.1 (TX5 9).2.2.1 ∈ lw_gd := gd_in (tb_1 _ (List.mem_of_getElem? (i := 76) (by decide +kernel))) rfl
theorem w_194 : Cond.code yX2_turns cX2_turns 2 (some (FieldType.int)) ∈ lw_gd := gd_in (tb_2 _ (List.mem_of_getElem? (i := 154) (by decide +kernel))) rfl
theorem w_195 : Cond.methodLink RX2 122 yX2_turns ∈ lw_gd := gd_in (tb_2 _ (List.mem_of_getElem? (i := 151) (by decide +kernel))) rfl
theorem w_196 : Cond.instanceMethod yX2_turns ∈ lw_gd := gd_in (tb_2 _ (List.mem_of_getElem? (i := 152) (by decide +kernel))) rfl
theorem w_197 : Cond.selects RX2 yX2_turns yX2_turns ∈ lw_gd := gd_in (tb_2 _ (List.mem_of_getElem? (i := 153) (by decide +kernel))) rfl
theorem w_198 : Cond.code yX2_strength cX2_strength 7 (some (FieldType.int)) ∈ lw_gd := gd_in (tb_2 _ (List.mem_of_getElem? (i := 176) (by decide +kernel))) rfl
theorem w_199 : Cond.methodLink RX2 126 yX2_strength ∈ lw_gd := gd_in (tb_2 _ (List.mem_of_getElem? (i := 173) (by decide +kernel))) rfl
theorem w_200 : Cond.instanceMethod yX2_strength ∈ lw_gd := gd_in (tb_2 _ (List.mem_of_getElem? (i := 174) (by decide +kernel))) rfl
theorem w_201 : Cond.selects RX2 yX2_strength yX2_strength ∈ lw_gd := gd_in (tb_2 _ (List.mem_of_getElem? (i := 175) (by decide +kernel))) rfl
theorem w_202 : Cond.code yX2_passing cX2_passing 4 (some (FieldType.int)) ∈ lw_gd := gd_in (tb_2 _ (List.mem_of_getElem? (i := 144) (by decide +kernel))) rfl
theorem w_203 : Cond.methodLink RX2 130 yX2_passing ∈ lw_gd := gd_in (tb_3 _ (List.mem_of_getElem? (i := 84) (by decide +kernel))) rfl
theorem w_204 : Cond.instanceMethod yX2_passing ∈ lw_gd := gd_in (tb_2 _ (List.mem_of_getElem? (i := 142) (by decide +kernel))) rfl
theorem w_205 : Cond.selects RX2 yX2_passing yX2_passing ∈ lw_gd := gd_in (tb_2 _ (List.mem_of_getElem? (i := 143) (by decide +kernel))) rfl
theorem w_206 : Cond.code yX2_endDay cX2_endDay 5 none ∈ lw_gd := gd_in (tb_3 _ (List.mem_of_getElem? (i := 88) (by decide +kernel))) rfl
theorem w_207 : Cond.methodLink RX2 134 yX2_endDay ∈ lw_gd := gd_in (tb_3 _ (List.mem_of_getElem? (i := 85) (by decide +kernel))) rfl
theorem w_208 : Cond.instanceMethod yX2_endDay ∈ lw_gd := gd_in (tb_3 _ (List.mem_of_getElem? (i := 87) (by decide +kernel))) rfl
theorem w_209 : Cond.selects RX2 yX2_endDay yX2_endDay ∈ lw_gd := gd_in (tb_0 _ (List.mem_of_getElem? (i := 21) (by decide +kernel))) rfl
theorem w_210 : Cond.code yX2_lesson cX2_lesson 7 (some (FieldType.int)) ∈ lw_gd := gd_in (tb_3 _ (List.mem_of_getElem? (i := 92) (by decide +kernel))) rfl
theorem w_211 : Cond.methodLink RX2 138 yX2_lesson ∈ lw_gd := gd_in (tb_3 _ (List.mem_of_getElem? (i := 89) (by decide +kernel))) rfl
theorem w_212 : Cond.instanceMethod yX2_lesson ∈ lw_gd := gd_in (tb_3 _ (List.mem_of_getElem? (i := 91) (by decide +kernel))) rfl
theorem w_213 : Cond.selects RX2 yX2_lesson yX2_lesson ∈ lw_gd := gd_in (tb_0 _ (List.mem_of_getElem? (i := 22) (by decide +kernel))) rfl
theorem w_214 : Cond.code yX5_undo cX5_undo 2 none ∈ lw_gd := gd_in (tb_3 _ (List.mem_of_getElem? (i := 96) (by decide +kernel))) rfl
theorem w_215 : Cond.methodLink RX2 142 yX5_undo ∈ lw_gd := gd_in (tb_3 _ (List.mem_of_getElem? (i := 93) (by decide +kernel))) rfl
theorem w_216 : Cond.instanceMethod yX5_undo ∈ lw_gd := gd_in (tb_3 _ (List.mem_of_getElem? (i := 94) (by decide +kernel))) rfl
theorem w_217 : Cond.selects RX5 yX5_undo yX5_undo ∈ lw_gd := gd_in (tb_3 _ (List.mem_of_getElem? (i := 95) (by decide +kernel))) rfl
theorem w_218 : Cond.methodLink RX3 3 Lib.objectInit ∈ lw_gd := gd_in (tb_1 _ (List.mem_of_getElem? (i := 189) (by decide +kernel))) rfl
theorem w_219 : Cond.fieldLink RX3 9 (TX3 0).1 (TX3 0).2.1 (TX3 0).2.2.1 ∈ lw_gd := gd_in (tb_1 _ (List.mem_of_getElem? (i := 190) (by decide +kernel))) rfl
theorem w_220 : Cond.fieldLink RX3 15 (TX3 1).1 (TX3 1).2.1 (TX3 1).2.2.1 ∈ lw_gd := gd_in (tb_1 _ (List.mem_of_getElem? (i := 192) (by decide +kernel))) rfl
theorem w_221 : Cond.fieldLink RX3 19 (TX3 2).1 (TX3 2).2.1 (TX3 2).2.2.1 ∈ lw_gd := gd_in (tb_1 _ (List.mem_of_getElem? (i := 194) (by decide +kernel))) rfl
theorem w_222 : Cond.code yJ7_fill_53178 cJ7_fill_53178 4 none ∈ lw_gd := gd_in (tb_3 _ (List.mem_of_getElem? (i := 200) (by decide +kernel))) rfl
theorem w_223 : Cond.initialized RJ7 ∈ lw_gd := gd_in (tb_1 _ (List.mem_of_getElem? (i := 15) (by decide +kernel))) rfl
theorem w_224 : Cond.methodLink RX3 22 yJ7_fill_53178 ∈ lw_gd := gd_in (tb_3 _ (List.mem_of_getElem? (i := 198) (by decide +kernel))) rfl
theorem w_225 : Cond.static yJ7_fill_53178 ∈ lw_gd := gd_in (tb_3 _ (List.mem_of_getElem? (i := 199) (by decide +kernel))) rfl
theorem w_226 : Cond.methodLink RX4 3 Lib.objectInit ∈ lw_gd := gd_in (tb_1 _ (List.mem_of_getElem? (i := 112) (by decide +kernel))) rfl
theorem w_227 : Cond.fieldLink RX4 9 (TX4 0).1 (TX4 0).2.1 (TX4 0).2.2.1 ∈ lw_gd := gd_in (tb_1 _ (List.mem_of_getElem? (i := 113) (by decide +kernel))) rfl
theorem w_228 : Cond.fieldLink RX4 15 (TX4 1).1 (TX4 1).2.1 (TX4 1).2.2.1 ∈ lw_gd := gd_in (tb_1 _ (List.mem_of_getElem? (i := 115) (by decide +kernel))) rfl
theorem w_229 : Cond.fieldLink RX4 18 (TX4 2).1 (TX4 2).2.1 (TX4 2).2.2.1 ∈ lw_gd := gd_in (tb_1 _ (List.mem_of_getElem? (i := 117) (by decide +kernel))) rfl
theorem w_230 : Cond.fieldLink RX4 21 (TX4 3).1 (TX4 3).2.1 (TX4 3).2.2.1 ∈ lw_gd := gd_in (tb_1 _ (List.mem_of_getElem? (i := 120) (by decide +kernel))) rfl
theorem w_231 : Cond.methodLink RX5 3 Lib.objectInit ∈ lw_gd := gd_in (tb_1 _ (List.mem_of_getElem? (i := 29) (by decide +kernel))) rfl
theorem w_232 : Cond.fieldLink RX5 9 (TX5 0).1 (TX5 0).2.1 (TX5 0).2.2.1 ∈ lw_gd := gd_in (tb_1 _ (List.mem_of_getElem? (i := 48) (by decide +kernel))) rfl
theorem w_233 : Cond.fieldLink RX5 15 (TX5 1).1 (TX5 1).2.1 (TX5 1).2.2.1 ∈ lw_gd := gd_in (tb_1 _ (List.mem_of_getElem? (i := 51) (by decide +kernel))) rfl
theorem w_234 : Cond.fieldLink RX5 18 (TX5 2).1 (TX5 2).2.1 (TX5 2).2.2.1 ∈ lw_gd := gd_in (tb_1 _ (List.mem_of_getElem? (i := 54) (by decide +kernel))) rfl
theorem w_235 : Cond.fieldLink RX5 21 (TX5 3).1 (TX5 3).2.1 (TX5 3).2.2.1 ∈ lw_gd := gd_in (tb_1 _ (List.mem_of_getElem? (i := 57) (by decide +kernel))) rfl
theorem w_236 : Cond.fieldLink RX5 24 (TX5 4).1 (TX5 4).2.1 (TX5 4).2.2.1 ∈ lw_gd := gd_in (tb_1 _ (List.mem_of_getElem? (i := 59) (by decide +kernel))) rfl
theorem w_237 : Cond.fieldLink RX5 28 (TX5 5).1 (TX5 5).2.1 (TX5 5).2.2.1 ∈ lw_gd := gd_in (tb_1 _ (List.mem_of_getElem? (i := 62) (by decide +kernel))) rfl
theorem w_238 : Cond.fieldLink RX5 31 (TX5 6).1 (TX5 6).2.1 (TX5 6).2.2.1 ∈ lw_gd := gd_in (tb_1 _ (List.mem_of_getElem? (i := 65) (by decide +kernel))) rfl
theorem w_239 : Cond.fieldLink RX5 34 (TX5 7).1 (TX5 7).2.1 (TX5 7).2.2.1 ∈ lw_gd := gd_in (tb_1 _ (List.mem_of_getElem? (i := 68) (by decide +kernel))) rfl
theorem w_240 : Cond.fieldLink RX5 37 (TX5 8).1 (TX5 8).2.1 (TX5 8).2.2.1 ∈ lw_gd := gd_in (tb_1 _ (List.mem_of_getElem? (i := 71) (by decide +kernel))) rfl
theorem w_241 : Cond.classLink RX5 40 RX0 ∈ lw_gd := gd_in (tb_1 _ (List.mem_of_getElem? (i := 30) (by decide +kernel))) rfl
theorem w_242 : Cond.fieldLink RX5 42 (TX5 9).1 (TX5 9).2.1 (TX5 9).2.2.1 ∈ lw_gd := gd_in (tb_1 _ (List.mem_of_getElem? (i := 74) (by decide +kernel))) rfl
theorem w_243 : Cond.methodLinkNest RX5 46 yX0_init "LadsTieShoes" ∈ lw_tbl := (tb_1 _ (List.mem_of_getElem? (i := 33) (by decide +kernel)))
theorem w_244 : Cond.methodLink RX5 47 arraycopyName ∈ lw_gd := gd_in (tb_3 _ (List.mem_of_getElem? (i := 105) (by decide +kernel))) rfl
theorem w_245 : Cond.methodLink RX5 53 yX0_become ∈ lw_gd := gd_in (tb_3 _ (List.mem_of_getElem? (i := 106) (by decide +kernel))) rfl
theorem w_246 : Cond.methodLinkNest RX5 57 yX6_isFoot "LadsTieShoes" ∈ lw_tbl := (tb_2 _ (List.mem_of_getElem? (i := 149) (by decide +kernel)))
theorem w_247 : Cond.methodLink RX5 61 yX5_hasLad ∈ lw_gd := gd_in (tb_2 _ (List.mem_of_getElem? (i := 150) (by decide +kernel))) rfl
theorem w_248 : Cond.code yX5_feetOf cX5_feetOf 4 (some (FieldType.int)) ∈ lw_gd := gd_in (tb_2 _ (List.mem_of_getElem? (i := 140) (by decide +kernel))) rfl
theorem w_249 : Cond.methodLink RX5 64 yX5_feetOf ∈ lw_gd := gd_in (tb_3 _ (List.mem_of_getElem? (i := 117) (by decide +kernel))) rfl
theorem w_250 : Cond.instanceMethod yX5_feetOf ∈ lw_gd := gd_in (tb_2 _ (List.mem_of_getElem? (i := 138) (by decide +kernel))) rfl
theorem w_251 : Cond.selects RX5 yX5_feetOf yX5_feetOf ∈ lw_gd := gd_in (tb_2 _ (List.mem_of_getElem? (i := 139) (by decide +kernel))) rfl
theorem w_252 : Cond.fieldLink RX5 68 (TX0 1).1 (TX0 1).2.1 (TX0 1).2.2.1 ∈ lw_gd := gd_in (tb_1 _ (List.mem_of_getElem? (i := 40) (by decide +kernel))) rfl
theorem w_253 : Cond.methodLink RX6 1 Lib.objectInit ∈ lw_gd := gd_in (tb_1 _ (List.mem_of_getElem? (i := 21) (by decide +kernel))) rfl
theorem w_254 : Cond.classLink RX6 7 RX5 ∈ lw_gd := gd_in (tb_1 _ (List.mem_of_getElem? (i := 24) (by decide +kernel))) rfl
theorem w_255 : Cond.instantiable RX5 10 ∈ lw_gd := gd_in (tb_1 _ (List.mem_of_getElem? (i := 25) (by decide +kernel))) rfl
theorem w_256 : Cond.code yX5_init cX5_init 2 none ∈ lw_gd := gd_in (tb_1 _ (List.mem_of_getElem? (i := 28) (by decide +kernel))) rfl
theorem w_257 : Cond.methodLink RX6 9 yX5_init ∈ lw_gd := gd_in (tb_1 _ (List.mem_of_getElem? (i := 26) (by decide +kernel))) rfl
theorem w_258 : Cond.instanceMethod yX5_init ∈ lw_gd := gd_in (tb_1 _ (List.mem_of_getElem? (i := 27) (by decide +kernel))) rfl
theorem w_259 : Cond.fieldLink RX6 10 (TX6 0).1 (TX6 0).2.1 (TX6 0).2.2.1 ∈ lw_gd := gd_in (tb_2 _ (List.mem_of_getElem? (i := 77) (by decide +kernel))) rfl
theorem w_260 : Cond.fieldLink RX6 16 (TX6 1).1 (TX6 1).2.1 (TX6 1).2.2.1 ∈ lw_gd := gd_in (tb_2 _ (List.mem_of_getElem? (i := 78) (by decide +kernel))) rfl
theorem w_261 : Cond.fieldLink RX6 19 (TX6 2).1 (TX6 2).2.1 (TX6 2).2.2.1 ∈ lw_gd := gd_in (tb_2 _ (List.mem_of_getElem? (i := 79) (by decide +kernel))) rfl
theorem w_262 : Cond.fieldLink RX6 22 (TX6 3).1 (TX6 3).2.1 (TX6 3).2.2.1 ∈ lw_gd := gd_in (tb_2 _ (List.mem_of_getElem? (i := 80) (by decide +kernel))) rfl
theorem w_263 : Cond.classLink RX6 26 RX2 ∈ lw_gd := gd_in (tb_1 _ (List.mem_of_getElem? (i := 98) (by decide +kernel))) rfl
theorem w_264 : Cond.instantiable RX2 5 ∈ lw_gd := gd_in (tb_1 _ (List.mem_of_getElem? (i := 99) (by decide +kernel))) rfl
theorem w_265 : Cond.code yX2_init cX2_init 2 none ∈ lw_gd := gd_in (tb_1 _ (List.mem_of_getElem? (i := 102) (by decide +kernel))) rfl
theorem w_266 : Cond.methodLink RX6 28 yX2_init ∈ lw_gd := gd_in (tb_1 _ (List.mem_of_getElem? (i := 100) (by decide +kernel))) rfl
theorem w_267 : Cond.instanceMethod yX2_init ∈ lw_gd := gd_in (tb_1 _ (List.mem_of_getElem? (i := 101) (by decide +kernel))) rfl
theorem w_268 : Cond.fieldLink RX6 29 (TX6 4).1 (TX6 4).2.1 (TX6 4).2.2.1 ∈ lw_gd := gd_in (tb_2 _ (List.mem_of_getElem? (i := 81) (by decide +kernel))) rfl
theorem w_269 : Cond.classLink RX6 33 RX1 ∈ lw_gd := gd_in (tb_1 _ (List.mem_of_getElem? (i := 149) (by decide +kernel))) rfl
theorem w_270 : Cond.instantiable RX1 8 ∈ lw_gd := gd_in (tb_1 _ (List.mem_of_getElem? (i := 150) (by decide +kernel))) rfl
theorem w_271 : Cond.code yX1_init cX1_init 1 none ∈ lw_gd := gd_in (tb_1 _ (List.mem_of_getElem? (i := 153) (by decide +kernel))) rfl
theorem w_272 : Cond.methodLinkNest RX6 35 yX1_init "LadsTieShoes" ∈ lw_tbl := (tb_1 _ (List.mem_of_getElem? (i := 151) (by decide +kernel)))
theorem w_273 : Cond.instanceMethod yX1_init ∈ lw_gd := gd_in (tb_1 _ (List.mem_of_getElem? (i := 152) (by decide +kernel))) rfl
theorem w_274 : Cond.fieldLink RX6 36 (TX6 5).1 (TX6 5).2.1 (TX6 5).2.2.1 ∈ lw_gd := gd_in (tb_2 _ (List.mem_of_getElem? (i := 82) (by decide +kernel))) rfl
theorem w_275 : Cond.classLink RX6 40 RX3 ∈ lw_gd := gd_in (tb_1 _ (List.mem_of_getElem? (i := 181) (by decide +kernel))) rfl
theorem w_276 : Cond.fieldLink RX6 42 (TX6 6).1 (TX6 6).2.1 (TX6 6).2.2.1 ∈ lw_gd := gd_in (tb_2 _ (List.mem_of_getElem? (i := 83) (by decide +kernel))) rfl
theorem w_277 : Cond.classLink RX6 46 RX0 ∈ lw_gd := gd_in (tb_1 _ (List.mem_of_getElem? (i := 183) (by decide +kernel))) rfl
theorem w_278 : Cond.methodLinkNest RX6 48 yX0_init "LadsTieShoes" ∈ lw_tbl := (tb_1 _ (List.mem_of_getElem? (i := 184) (by decide +kernel)))
theorem w_279 : Cond.fieldLink RX6 49 (TX6 7).1 (TX6 7).2.1 (TX6 7).2.2.1 ∈ lw_gd := gd_in (tb_2 _ (List.mem_of_getElem? (i := 84) (by decide +kernel))) rfl
theorem w_280 : Cond.fieldLink RX6 53 (TX6 8).1 (TX6 8).2.1 (TX6 8).2.2.1 ∈ lw_gd := gd_in (tb_2 _ (List.mem_of_getElem? (i := 85) (by decide +kernel))) rfl
theorem w_281 : Cond.fieldLink RX6 56 (TX6 9).1 (TX6 9).2.1 (TX6 9).2.2.1 ∈ lw_gd := gd_in (tb_2 _ (List.mem_of_getElem? (i := 86) (by decide +kernel))) rfl
theorem w_282 : Cond.fieldLink RX6 59 (TX6 10).1 (TX6 10).2.1 (TX6 10).2.2.1 ∈ lw_gd := gd_in (tb_2 _ (List.mem_of_getElem? (i := 87) (by decide +kernel))) rfl
theorem w_283 : Cond.fieldLink RX6 63 (TX6 11).1 (TX6 11).2.1 (TX6 11).2.2.1 ∈ lw_gd := gd_in (tb_2 _ (List.mem_of_getElem? (i := 88) (by decide +kernel))) rfl
theorem w_284 : Cond.instantiable RX3 3 ∈ lw_gd := gd_in (tb_1 _ (List.mem_of_getElem? (i := 185) (by decide +kernel))) rfl
theorem w_285 : Cond.initialized RX3 ∈ lw_gd := gd_in (tb_1 _ (List.mem_of_getElem? (i := 7) (by decide +kernel))) rfl
theorem w_286 : Cond.code yX3_init cX3_init 1 none ∈ lw_gd := gd_in (tb_1 _ (List.mem_of_getElem? (i := 188) (by decide +kernel))) rfl
theorem w_287 : Cond.methodLinkNest RX6 66 yX3_init "LadsTieShoes" ∈ lw_tbl := (tb_1 _ (List.mem_of_getElem? (i := 186) (by decide +kernel)))
theorem w_288 : Cond.instanceMethod yX3_init ∈ lw_gd := gd_in (tb_1 _ (List.mem_of_getElem? (i := 187) (by decide +kernel))) rfl
theorem w_289 : Cond.methodLink RX6 69 yJ0_length_8abf5 ∈ lw_gd := gd_in (tb_1 _ (List.mem_of_getElem? (i := 204) (by decide +kernel))) rfl
theorem w_290 : Cond.methodLink RX6 75 yJ0_charAt_5068e ∈ lw_gd := gd_in (tb_1 _ (List.mem_of_getElem? (i := 214) (by decide +kernel))) rfl
theorem w_291 : Cond.code yX1_write cX1_write 2 (some (FieldType.int)) ∈ lw_gd := gd_in (tb_2 _ (List.mem_of_getElem? (i := 15) (by decide +kernel))) rfl
theorem w_292 : Cond.methodLink RX6 79 yX1_write ∈ lw_gd := gd_in (tb_2 _ (List.mem_of_getElem? (i := 12) (by decide +kernel))) rfl
theorem w_293 : Cond.instanceMethod yX1_write ∈ lw_gd := gd_in (tb_2 _ (List.mem_of_getElem? (i := 13) (by decide +kernel))) rfl
theorem w_294 : Cond.selects RX1 yX1_write yX1_write ∈ lw_gd := gd_in (tb_2 _ (List.mem_of_getElem? (i := 14) (by decide +kernel))) rfl
theorem w_295 : Cond.fieldLink RX6 83 (TX2 0).1 (TX2 0).2.1 (TX2 0).2.2.1 ∈ lw_gd := gd_in (tb_1 _ (List.mem_of_getElem? (i := 132) (by decide +kernel))) rfl
theorem w_296 : Cond.code yX1_readInto cX1_readInto 3 (some (FieldType.int)) ∈ lw_gd := gd_in (tb_2 _ (List.mem_of_getElem? (i := 19) (by decide +kernel))) rfl
theorem w_297 : Cond.methodLink RX6 87 yX1_readInto ∈ lw_gd := gd_in (tb_2 _ (List.mem_of_getElem? (i := 16) (by decide +kernel))) rfl
theorem w_298 : Cond.instanceMethod yX1_readInto ∈ lw_gd := gd_in (tb_2 _ (List.mem_of_getElem? (i := 17) (by decide +kernel))) rfl
theorem w_299 : Cond.selects RX1 yX1_readInto yX1_readInto ∈ lw_gd := gd_in (tb_2 _ (List.mem_of_getElem? (i := 18) (by decide +kernel))) rfl
theorem w_300 : Cond.fieldLink RX6 91 (TX1 1).1 (TX1 1).2.1 (TX1 1).2.2.1 ∈ lw_gd := gd_in (tb_1 _ (List.mem_of_getElem? (i := 157) (by decide +kernel))) rfl
theorem w_301 : Cond.fieldLink RX6 95 (TX2 1).1 (TX2 1).2.1 (TX2 1).2.2.1 ∈ lw_gd := gd_in (tb_1 _ (List.mem_of_getElem? (i := 134) (by decide +kernel))) rfl
theorem w_302 : Cond.code yX6_canSet cX6_canSet 4 (some (FieldType.boolean)) ∈ lw_gd := gd_in (tb_2 _ (List.mem_of_getElem? (i := 122) (by decide +kernel))) rfl
theorem w_303 : Cond.methodLink RX6 98 yX6_canSet ∈ lw_gd := gd_in (tb_2 _ (List.mem_of_getElem? (i := 119) (by decide +kernel))) rfl
theorem w_304 : Cond.instanceMethod yX6_canSet ∈ lw_gd := gd_in (tb_2 _ (List.mem_of_getElem? (i := 121) (by decide +kernel))) rfl
theorem w_305 : Cond.selects RX6 yX6_canSet yX6_canSet ∈ lw_gd := gd_in (tb_0 _ (List.mem_of_getElem? (i := 11) (by decide +kernel))) rfl
theorem w_306 : Cond.code yX6_told cX6_told 3 (some (FieldType.int)) ∈ lw_gd := gd_in (tb_2 _ (List.mem_of_getElem? (i := 136) (by decide +kernel))) rfl
theorem w_307 : Cond.methodLink RX6 102 yX6_told ∈ lw_gd := gd_in (tb_2 _ (List.mem_of_getElem? (i := 133) (by decide +kernel))) rfl
theorem w_308 : Cond.instanceMethod yX6_told ∈ lw_gd := gd_in (tb_2 _ (List.mem_of_getElem? (i := 134) (by decide +kernel))) rfl
theorem w_309 : Cond.selects RX6 yX6_told yX6_told ∈ lw_gd := gd_in (tb_2 _ (List.mem_of_getElem? (i := 135) (by decide +kernel))) rfl
theorem w_310 : Cond.fieldLink RX6 106 (TX5 0).1 (TX5 0).2.1 (TX5 0).2.2.1 ∈ lw_gd := gd_in (tb_1 _ (List.mem_of_getElem? (i := 49) (by decide +kernel))) rfl
theorem w_311 : Cond.fieldLink RX6 109 (TX5 1).1 (TX5 1).2.1 (TX5 1).2.2.1 ∈ lw_gd := gd_in (tb_1 _ (List.mem_of_getElem? (i := 52) (by decide +kernel))) rfl
theorem w_312 : Cond.fieldLink RX6 112 (TX5 5).1 (TX5 5).2.1 (TX5 5).2.2.1 ∈ lw_gd := gd_in (tb_1 _ (List.mem_of_getElem? (i := 63) (by decide +kernel))) rfl
theorem w_313 : Cond.fieldLink RX6 115 (TX5 6).1 (TX5 6).2.1 (TX5 6).2.2.1 ∈ lw_gd := gd_in (tb_1 _ (List.mem_of_getElem? (i := 66) (by decide +kernel))) rfl
theorem w_314 : Cond.fieldLink RX6 118 (TX5 7).1 (TX5 7).2.1 (TX5 7).2.2.1 ∈ lw_gd := gd_in (tb_1 _ (List.mem_of_getElem? (i := 69) (by decide +kernel))) rfl
theorem w_315 : Cond.methodLink RX6 121 yX6_isWithin ∈ lw_gd := gd_in (tb_2 _ (List.mem_of_getElem? (i := 123) (by decide +kernel))) rfl
theorem w_316 : Cond.methodLink RX6 125 yX5_hasLad ∈ lw_gd := gd_in (tb_2 _ (List.mem_of_getElem? (i := 126) (by decide +kernel))) rfl
theorem w_317 : Cond.methodLink RX6 129 yX6_isFoot ∈ lw_gd := gd_in (tb_2 _ (List.mem_of_getElem? (i := 130) (by decide +kernel))) rfl
theorem w_318 : Cond.code yX6_isKind cX6_isKind 1 (some (FieldType.boolean)) ∈ lw_gd := gd_in (tb_2 _ (List.mem_of_getElem? (i := 212) (by decide +kernel))) rfl
theorem w_319 : Cond.methodLink RX6 132 yX6_isKind ∈ lw_gd := gd_in (tb_2 _ (List.mem_of_getElem? (i := 210) (by decide +kernel))) rfl
theorem w_320 : Cond.static yX6_isKind ∈ lw_gd := gd_in (tb_2 _ (List.mem_of_getElem? (i := 211) (by decide +kernel))) rfl
theorem w_321 : Cond.code yX5_add cX5_add 3 (some (FieldType.int)) ∈ lw_gd := gd_in (tb_2 _ (List.mem_of_getElem? (i := 216) (by decide +kernel))) rfl
theorem w_322 : Cond.methodLink RX6 135 yX5_add ∈ lw_gd := gd_in (tb_2 _ (List.mem_of_getElem? (i := 213) (by decide +kernel))) rfl
theorem w_323 : Cond.instanceMethod yX5_add ∈ lw_gd := gd_in (tb_2 _ (List.mem_of_getElem? (i := 214) (by decide +kernel))) rfl
theorem w_324 : Cond.selects RX5 yX5_add yX5_add ∈ lw_gd := gd_in (tb_2 _ (List.mem_of_getElem? (i := 215) (by decide +kernel))) rfl
theorem w_325 : Cond.fieldLink RX6 138 (TX5 4).1 (TX5 4).2.1 (TX5 4).2.2.1 ∈ lw_gd := gd_in (tb_1 _ (List.mem_of_getElem? (i := 60) (by decide +kernel))) rfl
theorem w_326 : Cond.methodLink RX6 141 yX5_feetOf ∈ lw_gd := gd_in (tb_2 _ (List.mem_of_getElem? (i := 137) (by decide +kernel))) rfl
theorem w_327 : Cond.methodLink RX6 144 yX2_passing ∈ lw_gd := gd_in (tb_2 _ (List.mem_of_getElem? (i := 141) (by decide +kernel))) rfl
theorem w_328 : Cond.fieldLink RX6 148 (TX5 8).1 (TX5 8).2.1 (TX5 8).2.2.1 ∈ lw_gd := gd_in (tb_1 _ (List.mem_of_getElem? (i := 72) (by decide +kernel))) rfl
theorem w_329 : Cond.fieldLink RX6 151 (TX5 9).1 (TX5 9).2.1 (TX5 9).2.2.1 ∈ lw_gd := gd_in (tb_1 _ (List.mem_of_getElem? (i := 75) (by decide +kernel))) rfl
theorem w_330 : Cond.code yX0_number cX0_number 3 (some (FieldType.int)) ∈ lw_gd := gd_in (tb_2 _ (List.mem_of_getElem? (i := 204) (by decide +kernel))) rfl
theorem w_331 : Cond.methodLink RX6 155 yX0_number ∈ lw_gd := gd_in (tb_2 _ (List.mem_of_getElem? (i := 201) (by decide +kernel))) rfl
theorem w_332 : Cond.instanceMethod yX0_number ∈ lw_gd := gd_in (tb_2 _ (List.mem_of_getElem? (i := 202) (by decide +kernel))) rfl
theorem w_333 : Cond.selects RX0 yX0_number yX0_number ∈ lw_gd := gd_in (tb_2 _ (List.mem_of_getElem? (i := 203) (by decide +kernel))) rfl
theorem w_334 : Cond.methodLink RX6 158 yX2_turns ∈ lw_gd := gd_in (tb_2 _ (List.mem_of_getElem? (i := 205) (by decide +kernel))) rfl
theorem w_335 : Cond.methodLink RX6 162 yX2_say ∈ lw_gd := gd_in (tb_2 _ (List.mem_of_getElem? (i := 222) (by decide +kernel))) rfl
theorem w_336 : Cond.fieldLink RX6 166 (TX5 2).1 (TX5 2).2.1 (TX5 2).2.2.1 ∈ lw_gd := gd_in (tb_1 _ (List.mem_of_getElem? (i := 56) (by decide +kernel))) rfl
theorem w_337 : Cond.code yX6_isSheet cX6_isSheet 1 (some (FieldType.boolean)) ∈ lw_gd := gd_in (tb_3 _ (List.mem_of_getElem? (i := 1) (by decide +kernel))) rfl
theorem w_338 : Cond.methodLink RX6 169 yX6_isSheet ∈ lw_gd := gd_in (tb_2 _ (List.mem_of_getElem? (i := 239) (by decide +kernel))) rfl
theorem w_339 : Cond.static yX6_isSheet ∈ lw_gd := gd_in (tb_3 _ (List.mem_of_getElem? (i := 0) (by decide +kernel))) rfl
theorem w_340 : Cond.code yX6_hear cX6_hear 4 (some (FieldType.int)) ∈ lw_gd := gd_in (tb_3 _ (List.mem_of_getElem? (i := 5) (by decide +kernel))) rfl
theorem w_341 : Cond.methodLink RX6 172 yX6_hear ∈ lw_gd := gd_in (tb_3 _ (List.mem_of_getElem? (i := 2) (by decide +kernel))) rfl
theorem w_342 : Cond.instanceMethod yX6_hear ∈ lw_gd := gd_in (tb_3 _ (List.mem_of_getElem? (i := 4) (by decide +kernel))) rfl
theorem w_343 : Cond.selects RX6 yX6_hear yX6_hear ∈ lw_gd := gd_in (tb_0 _ (List.mem_of_getElem? (i := 14) (by decide +kernel))) rfl
theorem w_344 : Cond.code yX0_becomeTied cX0_becomeTied 3 none ∈ lw_gd := gd_in (tb_3 _ (List.mem_of_getElem? (i := 20) (by decide +kernel))) rfl
theorem w_345 : Cond.methodLink RX6 175 yX0_becomeTied ∈ lw_gd := gd_in (tb_3 _ (List.mem_of_getElem? (i := 17) (by decide +kernel))) rfl
theorem w_346 : Cond.instanceMethod yX0_becomeTied ∈ lw_gd := gd_in (tb_3 _ (List.mem_of_getElem? (i := 18) (by decide +kernel))) rfl
theorem w_347 : Cond.selects RX0 yX0_becomeTied yX0_becomeTied ∈ lw_gd := gd_in (tb_3 _ (List.mem_of_getElem? (i := 19) (by decide +kernel))) rfl
theorem w_348 : Cond.methodLink RX6 179 yX0_reduce ∈ lw_gd := gd_in (tb_3 _ (List.mem_of_getElem? (i := 43) (by decide +kernel))) rfl
theorem w_349 : Cond.methodLink RX6 182 yX0_pull ∈ lw_gd := gd_in (tb_3 _ (List.mem_of_getElem? (i := 44) (by decide +kernel))) rfl
theorem w_350 : Cond.code yX6_awayBits cX6_awayBits 3 (some (FieldType.int)) ∈ lw_gd := gd_in (tb_3 _ (List.mem_of_getElem? (i := 48) (by decide +kernel))) rfl
theorem w_351 : Cond.methodLink RX6 185 yX6_awayBits ∈ lw_gd := gd_in (tb_3 _ (List.mem_of_getElem? (i := 45) (by decide +kernel))) rfl
theorem w_352 : Cond.instanceMethod yX6_awayBits ∈ lw_gd := gd_in (tb_3 _ (List.mem_of_getElem? (i := 47) (by decide +kernel))) rfl
theorem w_353 : Cond.selects RX6 yX6_awayBits yX6_awayBits ∈ lw_gd := gd_in (tb_0 _ (List.mem_of_getElem? (i := 19) (by decide +kernel))) rfl
theorem w_354 : Cond.code yX0_isAway cX0_isAway 4 (some (FieldType.boolean)) ∈ lw_gd := gd_in (tb_3 _ (List.mem_of_getElem? (i := 52) (by decide +kernel))) rfl
theorem w_355 : Cond.methodLink RX6 188 yX0_isAway ∈ lw_gd := gd_in (tb_3 _ (List.mem_of_getElem? (i := 49) (by decide +kernel))) rfl
theorem w_356 : Cond.instanceMethod yX0_isAway ∈ lw_gd := gd_in (tb_3 _ (List.mem_of_getElem? (i := 50) (by decide +kernel))) rfl
theorem w_357 : Cond.selects RX0 yX0_isAway yX0_isAway ∈ lw_gd := gd_in (tb_3 _ (List.mem_of_getElem? (i := 51) (by decide +kernel))) rfl
theorem w_358 : Cond.methodLink RX6 192 yX0_become ∈ lw_gd := gd_in (tb_3 _ (List.mem_of_getElem? (i := 61) (by decide +kernel))) rfl
theorem w_359 : Cond.code yX0_isTurned cX0_isTurned 3 (some (FieldType.boolean)) ∈ lw_gd := gd_in (tb_3 _ (List.mem_of_getElem? (i := 65) (by decide +kernel))) rfl
theorem w_360 : Cond.methodLink RX6 196 yX0_isTurned ∈ lw_gd := gd_in (tb_3 _ (List.mem_of_getElem? (i := 62) (by decide +kernel))) rfl
theorem w_361 : Cond.instanceMethod yX0_isTurned ∈ lw_gd := gd_in (tb_3 _ (List.mem_of_getElem? (i := 63) (by decide +kernel))) rfl
theorem w_362 : Cond.selects RX0 yX0_isTurned yX0_isTurned ∈ lw_gd := gd_in (tb_3 _ (List.mem_of_getElem? (i := 64) (by decide +kernel))) rfl
theorem w_363 : Cond.methodLink RX6 200 yX5_isTied ∈ lw_gd := gd_in (tb_3 _ (List.mem_of_getElem? (i := 74) (by decide +kernel))) rfl
theorem w_364 : Cond.methodLink RX6 203 yX2_strength ∈ lw_gd := gd_in (tb_3 _ (List.mem_of_getElem? (i := 75) (by decide +kernel))) rfl
theorem w_365 : Cond.code yX3_isMissing cX3_isMissing 1 (some (FieldType.boolean)) ∈ lw_gd := gd_in (tb_3 _ (List.mem_of_getElem? (i := 9) (by decide +kernel))) rfl
theorem w_366 : Cond.methodLink RX6 207 yX3_isMissing ∈ lw_gd := gd_in (tb_3 _ (List.mem_of_getElem? (i := 6) (by decide +kernel))) rfl
theorem w_367 : Cond.instanceMethod yX3_isMissing ∈ lw_gd := gd_in (tb_3 _ (List.mem_of_getElem? (i := 7) (by decide +kernel))) rfl
theorem w_368 : Cond.selects RX3 yX3_isMissing yX3_isMissing ∈ lw_gd := gd_in (tb_3 _ (List.mem_of_getElem? (i := 8) (by decide +kernel))) rfl
theorem w_369 : Cond.fieldLink RX6 211 (TX3 2).1 (TX3 2).2.1 (TX3 2).2.2.1 ∈ lw_gd := gd_in (tb_1 _ (List.mem_of_getElem? (i := 195) (by decide +kernel))) rfl
theorem w_370 : Cond.fieldLink RX6 212 (TX0 1).1 (TX0 1).2.1 (TX0 1).2.2.1 ∈ lw_gd := gd_in (tb_1 _ (List.mem_of_getElem? (i := 41) (by decide +kernel))) rfl
theorem w_371 : Cond.fieldLink RX6 213 (TX3 0).1 (TX3 0).2.1 (TX3 0).2.2.1 ∈ lw_gd := gd_in (tb_1 _ (List.mem_of_getElem? (i := 191) (by decide +kernel))) rfl
theorem w_372 : Cond.code yX6_isCrossing cX6_isCrossing 1 (some (FieldType.boolean)) ∈ lw_gd := gd_in (tb_3 _ (List.mem_of_getElem? (i := 12) (by decide +kernel))) rfl
theorem w_373 : Cond.methodLink RX6 216 yX6_isCrossing ∈ lw_gd := gd_in (tb_3 _ (List.mem_of_getElem? (i := 10) (by decide +kernel))) rfl
theorem w_374 : Cond.static yX6_isCrossing ∈ lw_gd := gd_in (tb_3 _ (List.mem_of_getElem? (i := 11) (by decide +kernel))) rfl
theorem w_375 : Cond.methodLink RX6 219 yX0_put ∈ lw_gd := gd_in (tb_3 _ (List.mem_of_getElem? (i := 13) (by decide +kernel))) rfl
theorem w_376 : Cond.code yX2_spendEvening cX2_spendEvening 4 (some (FieldType.int)) ∈ lw_gd := gd_in (tb_3 _ (List.mem_of_getElem? (i := 83) (by decide +kernel))) rfl
theorem w_377 : Cond.methodLink RX6 223 yX2_spendEvening ∈ lw_gd := gd_in (tb_3 _ (List.mem_of_getElem? (i := 80) (by decide +kernel))) rfl
theorem w_378 : Cond.instanceMethod yX2_spendEvening ∈ lw_gd := gd_in (tb_3 _ (List.mem_of_getElem? (i := 81) (by decide +kernel))) rfl
theorem w_379 : Cond.selects RX2 yX2_spendEvening yX2_spendEvening ∈ lw_gd := gd_in (tb_3 _ (List.mem_of_getElem? (i := 82) (by decide +kernel))) rfl
theorem w_380 : Cond.code yX5_become cX5_become 3 none ∈ lw_gd := gd_in (tb_3 _ (List.mem_of_getElem? (i := 104) (by decide +kernel))) rfl
theorem w_381 : Cond.methodLink RX6 226 yX5_become ∈ lw_gd := gd_in (tb_3 _ (List.mem_of_getElem? (i := 101) (by decide +kernel))) rfl
theorem w_382 : Cond.instanceMethod yX5_become ∈ lw_gd := gd_in (tb_3 _ (List.mem_of_getElem? (i := 102) (by decide +kernel))) rfl
theorem w_383 : Cond.selects RX5 yX5_become yX5_become ∈ lw_gd := gd_in (tb_3 _ (List.mem_of_getElem? (i := 103) (by decide +kernel))) rfl
theorem w_384 : Cond.code yJ6_bitCount_0f7a4 cJ6_bitCount_0f7a4 1 (some (FieldType.int)) ∈ lw_gd := gd_in (tb_3 _ (List.mem_of_getElem? (i := 109) (by decide +kernel))) rfl
theorem w_385 : Cond.initialized RJ6 ∈ lw_gd := gd_in (tb_1 _ (List.mem_of_getElem? (i := 14) (by decide +kernel))) rfl
theorem w_386 : Cond.methodLink RX6 229 yJ6_bitCount_0f7a4 ∈ lw_gd := gd_in (tb_3 _ (List.mem_of_getElem? (i := 107) (by decide +kernel))) rfl
theorem w_387 : Cond.static yJ6_bitCount_0f7a4 ∈ lw_gd := gd_in (tb_3 _ (List.mem_of_getElem? (i := 108) (by decide +kernel))) rfl
theorem w_388 : Cond.code yX5_tiedFeet cX5_tiedFeet 3 (some (FieldType.int)) ∈ lw_gd := gd_in (tb_3 _ (List.mem_of_getElem? (i := 116) (by decide +kernel))) rfl
theorem w_389 : Cond.methodLink RX6 234 yX5_tiedFeet ∈ lw_gd := gd_in (tb_3 _ (List.mem_of_getElem? (i := 113) (by decide +kernel))) rfl
theorem w_390 : Cond.instanceMethod yX5_tiedFeet ∈ lw_gd := gd_in (tb_3 _ (List.mem_of_getElem? (i := 114) (by decide +kernel))) rfl
theorem w_391 : Cond.selects RX5 yX5_tiedFeet yX5_tiedFeet ∈ lw_gd := gd_in (tb_3 _ (List.mem_of_getElem? (i := 115) (by decide +kernel))) rfl
theorem w_392 : Cond.code yX6_findGoodFeet cX6_findGoodFeet 4 none ∈ lw_gd := gd_in (tb_3 _ (List.mem_of_getElem? (i := 129) (by decide +kernel))) rfl
theorem w_393 : Cond.methodLink RX6 237 yX6_findGoodFeet ∈ lw_gd := gd_in (tb_3 _ (List.mem_of_getElem? (i := 126) (by decide +kernel))) rfl
theorem w_394 : Cond.instanceMethod yX6_findGoodFeet ∈ lw_gd := gd_in (tb_3 _ (List.mem_of_getElem? (i := 128) (by decide +kernel))) rfl
theorem w_395 : Cond.selects RX6 yX6_findGoodFeet yX6_findGoodFeet ∈ lw_gd := gd_in (tb_0 _ (List.mem_of_getElem? (i := 23) (by decide +kernel))) rfl
theorem w_396 : Cond.code yX6_firstBestFoot cX6_firstBestFoot 5 (some (FieldType.int)) ∈ lw_gd := gd_in (tb_3 _ (List.mem_of_getElem? (i := 133) (by decide +kernel))) rfl
theorem w_397 : Cond.methodLink RX6 240 yX6_firstBestFoot ∈ lw_gd := gd_in (tb_3 _ (List.mem_of_getElem? (i := 130) (by decide +kernel))) rfl
theorem w_398 : Cond.instanceMethod yX6_firstBestFoot ∈ lw_gd := gd_in (tb_3 _ (List.mem_of_getElem? (i := 132) (by decide +kernel))) rfl
theorem w_399 : Cond.selects RX6 yX6_firstBestFoot yX6_firstBestFoot ∈ lw_gd := gd_in (tb_0 _ (List.mem_of_getElem? (i := 24) (by decide +kernel))) rfl
theorem w_400 : Cond.code yX6_passWith cX6_passWith 5 (some (FieldType.int)) ∈ lw_gd := gd_in (tb_3 _ (List.mem_of_getElem? (i := 137) (by decide +kernel))) rfl
theorem w_401 : Cond.methodLink RX6 243 yX6_passWith ∈ lw_gd := gd_in (tb_3 _ (List.mem_of_getElem? (i := 134) (by decide +kernel))) rfl
theorem w_402 : Cond.instanceMethod yX6_passWith ∈ lw_gd := gd_in (tb_3 _ (List.mem_of_getElem? (i := 136) (by decide +kernel))) rfl
theorem w_403 : Cond.selects RX6 yX6_passWith yX6_passWith ∈ lw_gd := gd_in (tb_0 _ (List.mem_of_getElem? (i := 25) (by decide +kernel))) rfl
theorem w_404 : Cond.code yX6_bestDigits cX6_bestDigits 5 (some (FieldType.int)) ∈ lw_gd := gd_in (tb_3 _ (List.mem_of_getElem? (i := 141) (by decide +kernel))) rfl
theorem w_405 : Cond.methodLink RX6 246 yX6_bestDigits ∈ lw_gd := gd_in (tb_3 _ (List.mem_of_getElem? (i := 138) (by decide +kernel))) rfl
theorem w_406 : Cond.instanceMethod yX6_bestDigits ∈ lw_gd := gd_in (tb_3 _ (List.mem_of_getElem? (i := 140) (by decide +kernel))) rfl
theorem w_407 : Cond.selects RX6 yX6_bestDigits yX6_bestDigits ∈ lw_gd := gd_in (tb_0 _ (List.mem_of_getElem? (i := 26) (by decide +kernel))) rfl
theorem w_408 : Cond.fieldLink RX6 249 (TX5 3).1 (TX5 3).2.1 (TX5 3).2.2.1 ∈ lw_gd := gd_in (tb_1 _ (List.mem_of_getElem? (i := 58) (by decide +kernel))) rfl
theorem w_409 : Cond.code yX0_spell cX0_spell 4 none ∈ lw_gd := gd_in (tb_3 _ (List.mem_of_getElem? (i := 149) (by decide +kernel))) rfl
theorem w_410 : Cond.methodLink RX6 252 yX0_spell ∈ lw_gd := gd_in (tb_3 _ (List.mem_of_getElem? (i := 146) (by decide +kernel))) rfl
theorem w_411 : Cond.instanceMethod yX0_spell ∈ lw_gd := gd_in (tb_3 _ (List.mem_of_getElem? (i := 147) (by decide +kernel))) rfl
theorem w_412 : Cond.selects RX0 yX0_spell yX0_spell ∈ lw_gd := gd_in (tb_3 _ (List.mem_of_getElem? (i := 148) (by decide +kernel))) rfl
theorem w_413 : Cond.code yX6_serves cX6_serves 4 (some (FieldType.boolean)) ∈ lw_gd := gd_in (tb_3 _ (List.mem_of_getElem? (i := 153) (by decide +kernel))) rfl
theorem w_414 : Cond.methodLink RX6 256 yX6_serves ∈ lw_gd := gd_in (tb_3 _ (List.mem_of_getElem? (i := 150) (by decide +kernel))) rfl
theorem w_415 : Cond.instanceMethod yX6_serves ∈ lw_gd := gd_in (tb_3 _ (List.mem_of_getElem? (i := 152) (by decide +kernel))) rfl
theorem w_416 : Cond.selects RX6 yX6_serves yX6_serves ∈ lw_gd := gd_in (tb_0 _ (List.mem_of_getElem? (i := 27) (by decide +kernel))) rfl
theorem w_417 : Cond.constantLong RX6 259 (Int64.ofInt (-4611686018427387904)) ∈ lw_gd := gd_in (tb_3 _ (List.mem_of_getElem? (i := 158) (by decide +kernel))) rfl
theorem w_418 : Cond.code yX6_inLowestTerms cX6_inLowestTerms 5 (some (FieldType.int)) ∈ lw_gd := gd_in (tb_3 _ (List.mem_of_getElem? (i := 161) (by decide +kernel))) rfl
theorem w_419 : Cond.methodLink RX6 261 yX6_inLowestTerms ∈ lw_gd := gd_in (tb_3 _ (List.mem_of_getElem? (i := 159) (by decide +kernel))) rfl
theorem w_420 : Cond.static yX6_inLowestTerms ∈ lw_gd := gd_in (tb_3 _ (List.mem_of_getElem? (i := 160) (by decide +kernel))) rfl
theorem w_421 : Cond.code yX6_firstOtherwise cX6_firstOtherwise 5 (some (FieldType.int)) ∈ lw_gd := gd_in (tb_3 _ (List.mem_of_getElem? (i := 169) (by decide +kernel))) rfl
theorem w_422 : Cond.methodLink RX6 265 yX6_firstOtherwise ∈ lw_gd := gd_in (tb_3 _ (List.mem_of_getElem? (i := 166) (by decide +kernel))) rfl
theorem w_423 : Cond.instanceMethod yX6_firstOtherwise ∈ lw_gd := gd_in (tb_3 _ (List.mem_of_getElem? (i := 168) (by decide +kernel))) rfl
theorem w_424 : Cond.selects RX6 yX6_firstOtherwise yX6_firstOtherwise ∈ lw_gd := gd_in (tb_0 _ (List.mem_of_getElem? (i := 28) (by decide +kernel))) rfl
theorem w_425 : Cond.code yX6_fittingBits cX6_fittingBits 7 (some (FieldType.int)) ∈ lw_gd := gd_in (tb_3 _ (List.mem_of_getElem? (i := 173) (by decide +kernel))) rfl
theorem w_426 : Cond.methodLink RX6 269 yX6_fittingBits ∈ lw_gd := gd_in (tb_3 _ (List.mem_of_getElem? (i := 170) (by decide +kernel))) rfl
theorem w_427 : Cond.instanceMethod yX6_fittingBits ∈ lw_gd := gd_in (tb_3 _ (List.mem_of_getElem? (i := 172) (by decide +kernel))) rfl
theorem w_428 : Cond.selects RX6 yX6_fittingBits yX6_fittingBits ∈ lw_gd := gd_in (tb_0 _ (List.mem_of_getElem? (i := 29) (by decide +kernel))) rfl
theorem w_429 : Cond.code yX6_fittingCount cX6_fittingCount 6 (some (FieldType.int)) ∈ lw_gd := gd_in (tb_3 _ (List.mem_of_getElem? (i := 181) (by decide +kernel))) rfl
theorem w_430 : Cond.methodLink RX6 273 yX6_fittingCount ∈ lw_gd := gd_in (tb_3 _ (List.mem_of_getElem? (i := 178) (by decide +kernel))) rfl
theorem w_431 : Cond.instanceMethod yX6_fittingCount ∈ lw_gd := gd_in (tb_3 _ (List.mem_of_getElem? (i := 180) (by decide +kernel))) rfl
theorem w_432 : Cond.selects RX6 yX6_fittingCount yX6_fittingCount ∈ lw_gd := gd_in (tb_0 _ (List.mem_of_getElem? (i := 31) (by decide +kernel))) rfl
theorem w_433 : Cond.code yX6_fittingLeast cX6_fittingLeast 5 (some (FieldType.int)) ∈ lw_gd := gd_in (tb_3 _ (List.mem_of_getElem? (i := 185) (by decide +kernel))) rfl
theorem w_434 : Cond.methodLink RX6 277 yX6_fittingLeast ∈ lw_gd := gd_in (tb_3 _ (List.mem_of_getElem? (i := 182) (by decide +kernel))) rfl
theorem w_435 : Cond.instanceMethod yX6_fittingLeast ∈ lw_gd := gd_in (tb_3 _ (List.mem_of_getElem? (i := 184) (by decide +kernel))) rfl
theorem w_436 : Cond.selects RX6 yX6_fittingLeast yX6_fittingLeast ∈ lw_gd := gd_in (tb_0 _ (List.mem_of_getElem? (i := 32) (by decide +kernel))) rfl
theorem w_437 : Cond.code yX6_fittingLads cX6_fittingLads 4 (some (FieldType.int)) ∈ lw_gd := gd_in (tb_3 _ (List.mem_of_getElem? (i := 189) (by decide +kernel))) rfl
theorem w_438 : Cond.methodLink RX6 280 yX6_fittingLads ∈ lw_gd := gd_in (tb_3 _ (List.mem_of_getElem? (i := 186) (by decide +kernel))) rfl
theorem w_439 : Cond.instanceMethod yX6_fittingLads ∈ lw_gd := gd_in (tb_3 _ (List.mem_of_getElem? (i := 188) (by decide +kernel))) rfl
theorem w_440 : Cond.selects RX6 yX6_fittingLads yX6_fittingLads ∈ lw_gd := gd_in (tb_0 _ (List.mem_of_getElem? (i := 33) (by decide +kernel))) rfl
theorem w_441 : Cond.code yX6_suppose cX6_suppose 4 none ∈ lw_gd := gd_in (tb_3 _ (List.mem_of_getElem? (i := 177) (by decide +kernel))) rfl
theorem w_442 : Cond.methodLink RX6 284 yX6_suppose ∈ lw_gd := gd_in (tb_3 _ (List.mem_of_getElem? (i := 174) (by decide +kernel))) rfl
theorem w_443 : Cond.instanceMethod yX6_suppose ∈ lw_gd := gd_in (tb_3 _ (List.mem_of_getElem? (i := 176) (by decide +kernel))) rfl
theorem w_444 : Cond.selects RX6 yX6_suppose yX6_suppose ∈ lw_gd := gd_in (tb_0 _ (List.mem_of_getElem? (i := 30) (by decide +kernel))) rfl
theorem w_445 : Cond.code yX3_become cX3_become 3 none ∈ lw_gd := gd_in (tb_3 _ (List.mem_of_getElem? (i := 197) (by decide +kernel))) rfl
theorem w_446 : Cond.methodLink RX6 288 yX3_become ∈ lw_gd := gd_in (tb_3 _ (List.mem_of_getElem? (i := 194) (by decide +kernel))) rfl
theorem w_447 : Cond.instanceMethod yX3_become ∈ lw_gd := gd_in (tb_3 _ (List.mem_of_getElem? (i := 195) (by decide +kernel))) rfl
theorem w_448 : Cond.selects RX3 yX3_become yX3_become ∈ lw_gd := gd_in (tb_3 _ (List.mem_of_getElem? (i := 196) (by decide +kernel))) rfl
theorem w_449 : Cond.code yX6_turnsDrawn cX6_turnsDrawn 5 (some (FieldType.int)) ∈ lw_gd := gd_in (tb_3 _ (List.mem_of_getElem? (i := 208) (by decide +kernel))) rfl
theorem w_450 : Cond.methodLink RX6 290 yX6_turnsDrawn ∈ lw_gd := gd_in (tb_3 _ (List.mem_of_getElem? (i := 205) (by decide +kernel))) rfl
theorem w_451 : Cond.instanceMethod yX6_turnsDrawn ∈ lw_gd := gd_in (tb_3 _ (List.mem_of_getElem? (i := 207) (by decide +kernel))) rfl
theorem w_452 : Cond.selects RX6 yX6_turnsDrawn yX6_turnsDrawn ∈ lw_gd := gd_in (tb_0 _ (List.mem_of_getElem? (i := 34) (by decide +kernel))) rfl
theorem w_453 : Cond.constant RX6 293 (Int32.ofInt 1103515245) ∈ lw_gd := gd_in (tb_3 _ (List.mem_of_getElem? (i := 209) (by decide +kernel))) rfl
theorem w_454 : Cond.code yX6_isSort cX6_isSort 1 (some (FieldType.boolean)) ∈ lw_gd := gd_in (tb_3 _ (List.mem_of_getElem? (i := 232) (by decide +kernel))) rfl
theorem w_455 : Cond.methodLink RX6 294 yX6_isSort ∈ lw_gd := gd_in (tb_3 _ (List.mem_of_getElem? (i := 230) (by decide +kernel))) rfl
theorem w_456 : Cond.static yX6_isSort ∈ lw_gd := gd_in (tb_3 _ (List.mem_of_getElem? (i := 231) (by decide +kernel))) rfl
theorem w_457 : Cond.code yX3_spans cX3_spans 3 (some (FieldType.boolean)) ∈ lw_gd := gd_in (tb_4 _ (List.mem_of_getElem? (i := 0) (by decide +kernel))) rfl
theorem w_458 : Cond.methodLink RX6 297 yX3_spans ∈ lw_gd := gd_in (tb_3 _ (List.mem_of_getElem? (i := 237) (by decide +kernel))) rfl
theorem w_459 : Cond.instanceMethod yX3_spans ∈ lw_gd := gd_in (tb_3 _ (List.mem_of_getElem? (i := 238) (by decide +kernel))) rfl
theorem w_460 : Cond.selects RX3 yX3_spans yX3_spans ∈ lw_gd := gd_in (tb_3 _ (List.mem_of_getElem? (i := 239) (by decide +kernel))) rfl
theorem w_461 : Cond.code yX3_put cX3_put 3 none ∈ lw_gd := gd_in (tb_4 _ (List.mem_of_getElem? (i := 4) (by decide +kernel))) rfl
theorem w_462 : Cond.methodLink RX6 300 yX3_put ∈ lw_gd := gd_in (tb_4 _ (List.mem_of_getElem? (i := 1) (by decide +kernel))) rfl
theorem w_463 : Cond.instanceMethod yX3_put ∈ lw_gd := gd_in (tb_4 _ (List.mem_of_getElem? (i := 2) (by decide +kernel))) rfl
theorem w_464 : Cond.selects RX3 yX3_put yX3_put ∈ lw_gd := gd_in (tb_4 _ (List.mem_of_getElem? (i := 3) (by decide +kernel))) rfl
theorem w_465 : Cond.fieldLink RX6 302 (TX3 1).1 (TX3 1).2.1 (TX3 1).2.2.1 ∈ lw_gd := gd_in (tb_1 _ (List.mem_of_getElem? (i := 193) (by decide +kernel))) rfl
theorem w_466 : Cond.methodLink RX6 305 arraycopyName ∈ lw_gd := gd_in (tb_4 _ (List.mem_of_getElem? (i := 9) (by decide +kernel))) rfl
theorem w_467 : Cond.code yX6_lad cX6_lad 3 (some (FieldType.int)) ∈ lw_gd := gd_in (tb_2 _ (List.mem_of_getElem? (i := 209) (by decide +kernel))) rfl
theorem w_468 : Cond.methodLink RX6 311 yX6_lad ∈ lw_gd := gd_in (tb_4 _ (List.mem_of_getElem? (i := 14) (by decide +kernel))) rfl
theorem w_469 : Cond.instanceMethod yX6_lad ∈ lw_gd := gd_in (tb_2 _ (List.mem_of_getElem? (i := 207) (by decide +kernel))) rfl
theorem w_470 : Cond.selects RX6 yX6_lad yX6_lad ∈ lw_gd := gd_in (tb_2 _ (List.mem_of_getElem? (i := 208) (by decide +kernel))) rfl
theorem w_471 : Cond.code yX6_isUnder cX6_isUnder 4 (some (FieldType.boolean)) ∈ lw_gd := gd_in (tb_4 _ (List.mem_of_getElem? (i := 21) (by decide +kernel))) rfl
theorem w_472 : Cond.methodLink RX6 314 yX6_isUnder ∈ lw_gd := gd_in (tb_4 _ (List.mem_of_getElem? (i := 19) (by decide +kernel))) rfl
theorem w_473 : Cond.static yX6_isUnder ∈ lw_gd := gd_in (tb_4 _ (List.mem_of_getElem? (i := 20) (by decide +kernel))) rfl
theorem w_474 : Cond.fieldLink RX6 317 RX6 "ABOVE" "[I" ∈ lw_gd := gd_in (tb_4 _ (List.mem_of_getElem? (i := 22) (by decide +kernel))) rfl
theorem w_475 : Cond.methodLink RX7 7 Lib.objectInit ∈ lw_gd := gd_in (tb_4 _ (List.mem_of_getElem? (i := 29) (by decide +kernel))) rfl
theorem w_476 : Cond.fieldLink RX7 13 (TX7 1).1 (TX7 1).2.1 (TX7 1).2.2.1 ∈ lw_gd := gd_in (tb_4 _ (List.mem_of_getElem? (i := 34) (by decide +kernel))) rfl
theorem w_477 : Cond.fieldLink RX7 17 (TX7 2).1 (TX7 2).2.1 (TX7 2).2.2.1 ∈ lw_gd := gd_in (tb_4 _ (List.mem_of_getElem? (i := 35) (by decide +kernel))) rfl
theorem w_478 : Cond.fieldLink RX7 20 (TX7 5).1 (TX7 5).2.1 (TX7 5).2.2.1 ∈ lw_gd := gd_in (tb_4 _ (List.mem_of_getElem? (i := 38) (by decide +kernel))) rfl
theorem w_479 : Cond.fieldLink RX7 23 (TX7 9).1 (TX7 9).2.1 (TX7 9).2.2.1 ∈ lw_gd := gd_in (tb_4 _ (List.mem_of_getElem? (i := 42) (by decide +kernel))) rfl
theorem w_480 : Cond.fieldLink RX7 26 (TX7 10).1 (TX7 10).2.1 (TX7 10).2.2.1 ∈ lw_gd := gd_in (tb_4 _ (List.mem_of_getElem? (i := 43) (by decide +kernel))) rfl
theorem w_481 : Cond.fieldLink RX7 29 (TX7 11).1 (TX7 11).2.1 (TX7 11).2.2.1 ∈ lw_gd := gd_in (tb_4 _ (List.mem_of_getElem? (i := 44) (by decide +kernel))) rfl
theorem w_482 : Cond.fieldLink RX7 32 (TX7 28).1 (TX7 28).2.1 (TX7 28).2.2.1 ∈ lw_gd := gd_in (tb_4 _ (List.mem_of_getElem? (i := 61) (by decide +kernel))) rfl
theorem w_483 : Cond.fieldLink RX7 35 (TX7 30).1 (TX7 30).2.1 (TX7 30).2.2.1 ∈ lw_gd := gd_in (tb_4 _ (List.mem_of_getElem? (i := 63) (by decide +kernel))) rfl
theorem w_484 : Cond.fieldLink RX7 38 (TX7 31).1 (TX7 31).2.1 (TX7 31).2.2.1 ∈ lw_gd := gd_in (tb_4 _ (List.mem_of_getElem? (i := 64) (by decide +kernel))) rfl
theorem w_485 : Cond.fieldLink RX7 41 (TX7 32).1 (TX7 32).2.1 (TX7 32).2.2.1 ∈ lw_gd := gd_in (tb_4 _ (List.mem_of_getElem? (i := 65) (by decide +kernel))) rfl
theorem w_486 : Cond.fieldLink RX7 44 (TX7 35).1 (TX7 35).2.1 (TX7 35).2.2.1 ∈ lw_gd := gd_in (tb_4 _ (List.mem_of_getElem? (i := 68) (by decide +kernel))) rfl
theorem w_487 : Cond.fieldLink RX7 47 (TX7 36).1 (TX7 36).2.1 (TX7 36).2.2.1 ∈ lw_gd := gd_in (tb_4 _ (List.mem_of_getElem? (i := 69) (by decide +kernel))) rfl
theorem w_488 : Cond.fieldLink RX7 50 (TX7 37).1 (TX7 37).2.1 (TX7 37).2.2.1 ∈ lw_gd := gd_in (tb_4 _ (List.mem_of_getElem? (i := 70) (by decide +kernel))) rfl
theorem w_489 : Cond.fieldLink RX7 53 (TX7 38).1 (TX7 38).2.1 (TX7 38).2.2.1 ∈ lw_gd := gd_in (tb_4 _ (List.mem_of_getElem? (i := 71) (by decide +kernel))) rfl
theorem w_490 : Cond.arrayClass (newarray.typeOf .boolean) ∈ lw_gd := gd_in (tb_4 _ (List.mem_of_getElem? (i := 172) (by decide +kernel))) rfl
theorem w_491 : Cond.fieldLink RX7 56 (TX7 42).1 (TX7 42).2.1 (TX7 42).2.2.1 ∈ lw_gd := gd_in (tb_4 _ (List.mem_of_getElem? (i := 75) (by decide +kernel))) rfl
theorem w_492 : Cond.fieldLink RX7 60 (TX7 43).1 (TX7 43).2.1 (TX7 43).2.2.1 ∈ lw_gd := gd_in (tb_4 _ (List.mem_of_getElem? (i := 76) (by decide +kernel))) rfl
theorem w_493 : Cond.fieldLink RX7 63 (TX7 44).1 (TX7 44).2.1 (TX7 44).2.2.1 ∈ lw_gd := gd_in (tb_4 _ (List.mem_of_getElem? (i := 77) (by decide +kernel))) rfl
theorem w_494 : Cond.fieldLink RX7 66 (TX7 45).1 (TX7 45).2.1 (TX7 45).2.2.1 ∈ lw_gd := gd_in (tb_4 _ (List.mem_of_getElem? (i := 78) (by decide +kernel))) rfl
theorem w_495 : Cond.code yX7_spell cX7_spell 10 none ∈ lw_gd := gd_in (tb_4 _ (List.mem_of_getElem? (i := 33) (by decide +kernel))) rfl
theorem w_496 : Cond.initialized RX7 ∈ lw_gd := gd_in (tb_1 _ (List.mem_of_getElem? (i := 12) (by decide +kernel))) rfl
theorem w_497 : Cond.methodLink RX7 69 yX7_spell ∈ lw_gd := gd_in (tb_4 _ (List.mem_of_getElem? (i := 30) (by decide +kernel))) rfl
theorem w_498 : Cond.instanceMethod yX7_spell ∈ lw_gd := gd_in (tb_4 _ (List.mem_of_getElem? (i := 32) (by decide +kernel))) rfl
theorem w_499 : Cond.selects RX7 yX7_spell yX7_spell ∈ lw_gd := gd_in (tb_0 _ (List.mem_of_getElem? (i := 35) (by decide +kernel))) rfl
theorem w_500 : Cond.fieldLink RX7 73 (TX7 3).1 (TX7 3).2.1 (TX7 3).2.2.1 ∈ lw_gd := gd_in (tb_4 _ (List.mem_of_getElem? (i := 36) (by decide +kernel))) rfl
theorem w_501 : Cond.fieldLink RX7 76 (TX7 12).1 (TX7 12).2.1 (TX7 12).2.2.1 ∈ lw_gd := gd_in (tb_4 _ (List.mem_of_getElem? (i := 45) (by decide +kernel))) rfl
theorem w_502 : Cond.code yX7_in cX7_in 6 (some (FieldType.boolean)) ∈ lw_gd := gd_in (tb_4 _ (List.mem_of_getElem? (i := 180) (by decide +kernel))) rfl
theorem w_503 : Cond.methodLink RX7 79 yX7_in ∈ lw_gd := gd_in (tb_4 _ (List.mem_of_getElem? (i := 178) (by decide +kernel))) rfl
theorem w_504 : Cond.static yX7_in ∈ lw_gd := gd_in (tb_4 _ (List.mem_of_getElem? (i := 179) (by decide +kernel))) rfl
theorem w_505 : Cond.constantLong RX7 83 (Int64.ofInt 5) ∈ lw_gd := gd_in (tb_4 _ (List.mem_of_getElem? (i := 188) (by decide +kernel))) rfl
theorem w_506 : Cond.code yX7_isFoot cX7_isFoot 1 (some (FieldType.boolean)) ∈ lw_gd := gd_in (tb_4 _ (List.mem_of_getElem? (i := 187) (by decide +kernel))) rfl
theorem w_507 : Cond.methodLink RX7 85 yX7_isFoot ∈ lw_gd := gd_in (tb_4 _ (List.mem_of_getElem? (i := 185) (by decide +kernel))) rfl
theorem w_508 : Cond.static yX7_isFoot ∈ lw_gd := gd_in (tb_4 _ (List.mem_of_getElem? (i := 186) (by decide +kernel))) rfl
theorem w_509 : Cond.code yX7_isLad cX7_isLad 2 (some (FieldType.boolean)) ∈ lw_gd := gd_in (tb_4 _ (List.mem_of_getElem? (i := 192) (by decide +kernel))) rfl
theorem w_510 : Cond.methodLink RX7 89 yX7_isLad ∈ lw_gd := gd_in (tb_4 _ (List.mem_of_getElem? (i := 189) (by decide +kernel))) rfl
theorem w_511 : Cond.instanceMethod yX7_isLad ∈ lw_gd := gd_in (tb_4 _ (List.mem_of_getElem? (i := 191) (by decide +kernel))) rfl
theorem w_512 : Cond.selects RX7 yX7_isLad yX7_isLad ∈ lw_gd := gd_in (tb_0 _ (List.mem_of_getElem? (i := 37) (by decide +kernel))) rfl
theorem w_513 : Cond.constantLong RX7 92 (Int64.ofInt 4) ∈ lw_gd := gd_in (tb_4 _ (List.mem_of_getElem? (i := 177) (by decide +kernel))) rfl
theorem w_514 : Cond.code yX7_isOf cX7_isOf 3 (some (FieldType.boolean)) ∈ lw_gd := gd_in (tb_4 _ (List.mem_of_getElem? (i := 184) (by decide +kernel))) rfl
theorem w_515 : Cond.methodLink RX7 94 yX7_isOf ∈ lw_gd := gd_in (tb_4 _ (List.mem_of_getElem? (i := 181) (by decide +kernel))) rfl
theorem w_516 : Cond.instanceMethod yX7_isOf ∈ lw_gd := gd_in (tb_4 _ (List.mem_of_getElem? (i := 183) (by decide +kernel))) rfl
theorem w_517 : Cond.selects RX7 yX7_isOf yX7_isOf ∈ lw_gd := gd_in (tb_0 _ (List.mem_of_getElem? (i := 36) (by decide +kernel))) rfl
theorem w_518 : Cond.code yX7_mostOf cX7_mostOf 1 (some (FieldType.int)) ∈ lw_gd := gd_in (tb_4 _ (List.mem_of_getElem? (i := 195) (by decide +kernel))) rfl
theorem w_519 : Cond.methodLink RX7 98 yX7_mostOf ∈ lw_gd := gd_in (tb_4 _ (List.mem_of_getElem? (i := 193) (by decide +kernel))) rfl
theorem w_520 : Cond.static yX7_mostOf ∈ lw_gd := gd_in (tb_4 _ (List.mem_of_getElem? (i := 194) (by decide +kernel))) rfl
theorem w_521 : Cond.code yX7_told cX7_told 3 (some (FieldType.int)) ∈ lw_gd := gd_in (tb_4 _ (List.mem_of_getElem? (i := 199) (by decide +kernel))) rfl
theorem w_522 : Cond.methodLink RX7 102 yX7_told ∈ lw_gd := gd_in (tb_4 _ (List.mem_of_getElem? (i := 196) (by decide +kernel))) rfl
theorem w_523 : Cond.instanceMethod yX7_told ∈ lw_gd := gd_in (tb_4 _ (List.mem_of_getElem? (i := 197) (by decide +kernel))) rfl
theorem w_524 : Cond.selects RX7 yX7_told yX7_told ∈ lw_gd := gd_in (tb_4 _ (List.mem_of_getElem? (i := 198) (by decide +kernel))) rfl
theorem w_525 : Cond.code yX7_lays cX7_lays 4 none ∈ lw_gd := gd_in (tb_5 _ (List.mem_of_getElem? (i := 85) (by decide +kernel))) rfl
theorem w_526 : Cond.methodLink RX7 106 yX7_lays ∈ lw_gd := gd_in (tb_5 _ (List.mem_of_getElem? (i := 82) (by decide +kernel))) rfl
theorem w_527 : Cond.instanceMethod yX7_lays ∈ lw_gd := gd_in (tb_5 _ (List.mem_of_getElem? (i := 84) (by decide +kernel))) rfl
theorem w_528 : Cond.selects RX7 yX7_lays yX7_lays ∈ lw_gd := gd_in (tb_0 _ (List.mem_of_getElem? (i := 65) (by decide +kernel))) rfl
theorem w_529 : Cond.fieldLink RX7 110 (TX7 7).1 (TX7 7).2.1 (TX7 7).2.2.1 ∈ lw_gd := gd_in (tb_4 _ (List.mem_of_getElem? (i := 40) (by decide +kernel))) rfl
theorem w_530 : Cond.fieldLink RX7 113 (TX7 8).1 (TX7 8).2.1 (TX7 8).2.2.1 ∈ lw_gd := gd_in (tb_4 _ (List.mem_of_getElem? (i := 41) (by decide +kernel))) rfl
theorem w_531 : Cond.fieldLink RX7 116 (TX7 4).1 (TX7 4).2.1 (TX7 4).2.2.1 ∈ lw_gd := gd_in (tb_4 _ (List.mem_of_getElem? (i := 37) (by decide +kernel))) rfl
theorem w_532 : Cond.constantLong RX7 119 (Int64.ofInt 9) ∈ lw_gd := gd_in (tb_4 _ (List.mem_of_getElem? (i := 200) (by decide +kernel))) rfl
theorem w_533 : Cond.code yX7_passedBy cX7_passedBy 4 (some (FieldType.int)) ∈ lw_gd := gd_in (tb_4 _ (List.mem_of_getElem? (i := 204) (by decide +kernel))) rfl
theorem w_534 : Cond.methodLink RX7 121 yX7_passedBy ∈ lw_gd := gd_in (tb_4 _ (List.mem_of_getElem? (i := 201) (by decide +kernel))) rfl
theorem w_535 : Cond.instanceMethod yX7_passedBy ∈ lw_gd := gd_in (tb_4 _ (List.mem_of_getElem? (i := 203) (by decide +kernel))) rfl
theorem w_536 : Cond.selects RX7 yX7_passedBy yX7_passedBy ∈ lw_gd := gd_in (tb_0 _ (List.mem_of_getElem? (i := 38) (by decide +kernel))) rfl
theorem w_537 : Cond.code yX7_takesFoot cX7_takesFoot 3 none ∈ lw_gd := gd_in (tb_4 _ (List.mem_of_getElem? (i := 216) (by decide +kernel))) rfl
theorem w_538 : Cond.methodLink RX7 124 yX7_takesFoot ∈ lw_gd := gd_in (tb_4 _ (List.mem_of_getElem? (i := 213) (by decide +kernel))) rfl
theorem w_539 : Cond.instanceMethod yX7_takesFoot ∈ lw_gd := gd_in (tb_4 _ (List.mem_of_getElem? (i := 215) (by decide +kernel))) rfl
theorem w_540 : Cond.selects RX7 yX7_takesFoot yX7_takesFoot ∈ lw_gd := gd_in (tb_0 _ (List.mem_of_getElem? (i := 41) (by decide +kernel))) rfl
theorem w_541 : Cond.code yX7_wordNumber cX7_wordNumber 3 (some (FieldType.int)) ∈ lw_gd := gd_in (tb_5 _ (List.mem_of_getElem? (i := 81) (by decide +kernel))) rfl
theorem w_542 : Cond.methodLink RX7 128 yX7_wordNumber ∈ lw_gd := gd_in (tb_5 _ (List.mem_of_getElem? (i := 78) (by decide +kernel))) rfl
theorem w_543 : Cond.instanceMethod yX7_wordNumber ∈ lw_gd := gd_in (tb_5 _ (List.mem_of_getElem? (i := 80) (by decide +kernel))) rfl
theorem w_544 : Cond.selects RX7 yX7_wordNumber yX7_wordNumber ∈ lw_gd := gd_in (tb_0 _ (List.mem_of_getElem? (i := 64) (by decide +kernel))) rfl
theorem w_545 : Cond.code yX7_pulledSize cX7_pulledSize 1 (some (FieldType.int)) ∈ lw_gd := gd_in (tb_4 _ (List.mem_of_getElem? (i := 220) (by decide +kernel))) rfl
theorem w_546 : Cond.methodLink RX7 132 yX7_pulledSize ∈ lw_gd := gd_in (tb_4 _ (List.mem_of_getElem? (i := 217) (by decide +kernel))) rfl
theorem w_547 : Cond.instanceMethod yX7_pulledSize ∈ lw_gd := gd_in (tb_4 _ (List.mem_of_getElem? (i := 219) (by decide +kernel))) rfl
theorem w_548 : Cond.selects RX7 yX7_pulledSize yX7_pulledSize ∈ lw_gd := gd_in (tb_0 _ (List.mem_of_getElem? (i := 42) (by decide +kernel))) rfl
theorem w_549 : Cond.constantLong RX7 135 (Int64.ofInt 255) ∈ lw_gd := gd_in (tb_5 _ (List.mem_of_getElem? (i := 95) (by decide +kernel))) rfl
theorem w_550 : Cond.fieldLink RX7 137 (TX7 6).1 (TX7 6).2.1 (TX7 6).2.2.1 ∈ lw_gd := gd_in (tb_4 _ (List.mem_of_getElem? (i := 39) (by decide +kernel))) rfl
theorem w_551 : Cond.fieldLink RX7 140 (TX7 20).1 (TX7 20).2.1 (TX7 20).2.2.1 ∈ lw_gd := gd_in (tb_4 _ (List.mem_of_getElem? (i := 53) (by decide +kernel))) rfl
theorem w_552 : Cond.fieldLink RX7 143 (TX7 19).1 (TX7 19).2.1 (TX7 19).2.2.1 ∈ lw_gd := gd_in (tb_4 _ (List.mem_of_getElem? (i := 52) (by decide +kernel))) rfl
theorem w_553 : Cond.fieldLink RX7 146 (TX7 21).1 (TX7 21).2.1 (TX7 21).2.2.1 ∈ lw_gd := gd_in (tb_4 _ (List.mem_of_getElem? (i := 54) (by decide +kernel))) rfl
theorem w_554 : Cond.code yX7_byteAt cX7_byteAt 2 (some (FieldType.int)) ∈ lw_gd := gd_in (tb_5 _ (List.mem_of_getElem? (i := 15) (by decide +kernel))) rfl
theorem w_555 : Cond.methodLink RX7 149 yX7_byteAt ∈ lw_gd := gd_in (tb_5 _ (List.mem_of_getElem? (i := 12) (by decide +kernel))) rfl
theorem w_556 : Cond.instanceMethod yX7_byteAt ∈ lw_gd := gd_in (tb_5 _ (List.mem_of_getElem? (i := 14) (by decide +kernel))) rfl
theorem w_557 : Cond.selects RX7 yX7_byteAt yX7_byteAt ∈ lw_gd := gd_in (tb_0 _ (List.mem_of_getElem? (i := 50) (by decide +kernel))) rfl
theorem w_558 : Cond.fieldLink RX7 152 (TX7 23).1 (TX7 23).2.1 (TX7 23).2.2.1 ∈ lw_gd := gd_in (tb_4 _ (List.mem_of_getElem? (i := 56) (by decide +kernel))) rfl
theorem w_559 : Cond.fieldLink RX7 155 (TX7 22).1 (TX7 22).2.1 (TX7 22).2.2.1 ∈ lw_gd := gd_in (tb_4 _ (List.mem_of_getElem? (i := 55) (by decide +kernel))) rfl
theorem w_560 : Cond.constantLong RX7 158 (Int64.ofInt 97) ∈ lw_gd := gd_in (tb_5 _ (List.mem_of_getElem? (i := 16) (by decide +kernel))) rfl
theorem w_561 : Cond.constantLong RX7 160 (Int64.ofInt 122) ∈ lw_gd := gd_in (tb_5 _ (List.mem_of_getElem? (i := 17) (by decide +kernel))) rfl
theorem w_562 : Cond.constantLong RX7 162 (Int64.ofInt 48) ∈ lw_gd := gd_in (tb_5 _ (List.mem_of_getElem? (i := 18) (by decide +kernel))) rfl
theorem w_563 : Cond.constantLong RX7 164 (Int64.ofInt 57) ∈ lw_gd := gd_in (tb_5 _ (List.mem_of_getElem? (i := 19) (by decide +kernel))) rfl
theorem w_564 : Cond.fieldLink RX7 166 (TX7 24).1 (TX7 24).2.1 (TX7 24).2.2.1 ∈ lw_gd := gd_in (tb_4 _ (List.mem_of_getElem? (i := 57) (by decide +kernel))) rfl
theorem w_565 : Cond.constantLong RX7 170 (Int64.ofInt 10) ∈ lw_gd := gd_in (tb_5 _ (List.mem_of_getElem? (i := 20) (by decide +kernel))) rfl
theorem w_566 : Cond.fieldLink RX7 172 (TX7 26).1 (TX7 26).2.1 (TX7 26).2.2.1 ∈ lw_gd := gd_in (tb_4 _ (List.mem_of_getElem? (i := 59) (by decide +kernel))) rfl
theorem w_567 : Cond.fieldLink RX7 176 (TX7 27).1 (TX7 27).2.1 (TX7 27).2.2.1 ∈ lw_gd := gd_in (tb_4 _ (List.mem_of_getElem? (i := 60) (by decide +kernel))) rfl
theorem w_568 : Cond.code yX7_isLetter cX7_isLetter 3 (some (FieldType.boolean)) ∈ lw_gd := gd_in (tb_5 _ (List.mem_of_getElem? (i := 28) (by decide +kernel))) rfl
theorem w_569 : Cond.methodLink RX7 179 yX7_isLetter ∈ lw_gd := gd_in (tb_5 _ (List.mem_of_getElem? (i := 25) (by decide +kernel))) rfl
theorem w_570 : Cond.instanceMethod yX7_isLetter ∈ lw_gd := gd_in (tb_5 _ (List.mem_of_getElem? (i := 27) (by decide +kernel))) rfl
theorem w_571 : Cond.selects RX7 yX7_isLetter yX7_isLetter ∈ lw_gd := gd_in (tb_0 _ (List.mem_of_getElem? (i := 52) (by decide +kernel))) rfl
theorem w_572 : Cond.fieldLink RX7 182 (TX7 25).1 (TX7 25).2.1 (TX7 25).2.2.1 ∈ lw_gd := gd_in (tb_4 _ (List.mem_of_getElem? (i := 58) (by decide +kernel))) rfl
theorem w_573 : Cond.code yX7_fail cX7_fail 1 none ∈ lw_gd := gd_in (tb_5 _ (List.mem_of_getElem? (i := 36) (by decide +kernel))) rfl
theorem w_574 : Cond.methodLink RX7 185 yX7_fail ∈ lw_gd := gd_in (tb_5 _ (List.mem_of_getElem? (i := 33) (by decide +kernel))) rfl
theorem w_575 : Cond.instanceMethod yX7_fail ∈ lw_gd := gd_in (tb_5 _ (List.mem_of_getElem? (i := 35) (by decide +kernel))) rfl
theorem w_576 : Cond.selects RX7 yX7_fail yX7_fail ∈ lw_gd := gd_in (tb_0 _ (List.mem_of_getElem? (i := 54) (by decide +kernel))) rfl
theorem w_577 : Cond.code yX7_next cX7_next 3 none ∈ lw_gd := gd_in (tb_5 _ (List.mem_of_getElem? (i := 11) (by decide +kernel))) rfl
theorem w_578 : Cond.methodLink RX7 188 yX7_next ∈ lw_gd := gd_in (tb_5 _ (List.mem_of_getElem? (i := 8) (by decide +kernel))) rfl
theorem w_579 : Cond.instanceMethod yX7_next ∈ lw_gd := gd_in (tb_5 _ (List.mem_of_getElem? (i := 10) (by decide +kernel))) rfl
theorem w_580 : Cond.selects RX7 yX7_next yX7_next ∈ lw_gd := gd_in (tb_0 _ (List.mem_of_getElem? (i := 49) (by decide +kernel))) rfl
theorem w_581 : Cond.code yX7_isWord cX7_isWord 9 (some (FieldType.boolean)) ∈ lw_gd := gd_in (tb_5 _ (List.mem_of_getElem? (i := 24) (by decide +kernel))) rfl
theorem w_582 : Cond.methodLink RX7 191 yX7_isWord ∈ lw_gd := gd_in (tb_5 _ (List.mem_of_getElem? (i := 21) (by decide +kernel))) rfl
theorem w_583 : Cond.instanceMethod yX7_isWord ∈ lw_gd := gd_in (tb_5 _ (List.mem_of_getElem? (i := 23) (by decide +kernel))) rfl
theorem w_584 : Cond.selects RX7 yX7_isWord yX7_isWord ∈ lw_gd := gd_in (tb_0 _ (List.mem_of_getElem? (i := 51) (by decide +kernel))) rfl
theorem w_585 : Cond.fieldLink RX7 195 (TX7 13).1 (TX7 13).2.1 (TX7 13).2.2.1 ∈ lw_gd := gd_in (tb_4 _ (List.mem_of_getElem? (i := 46) (by decide +kernel))) rfl
theorem w_586 : Cond.fieldLink RX7 198 (TX7 14).1 (TX7 14).2.1 (TX7 14).2.2.1 ∈ lw_gd := gd_in (tb_4 _ (List.mem_of_getElem? (i := 47) (by decide +kernel))) rfl
theorem w_587 : Cond.fieldLink RX7 201 (TX7 15).1 (TX7 15).2.1 (TX7 15).2.2.1 ∈ lw_gd := gd_in (tb_4 _ (List.mem_of_getElem? (i := 48) (by decide +kernel))) rfl
theorem w_588 : Cond.fieldLink RX7 204 (TX7 16).1 (TX7 16).2.1 (TX7 16).2.2.1 ∈ lw_gd := gd_in (tb_4 _ (List.mem_of_getElem? (i := 49) (by decide +kernel))) rfl
theorem w_589 : Cond.fieldLink RX7 207 (TX7 17).1 (TX7 17).2.1 (TX7 17).2.2.1 ∈ lw_gd := gd_in (tb_4 _ (List.mem_of_getElem? (i := 50) (by decide +kernel))) rfl
theorem w_590 : Cond.fieldLink RX7 210 (TX7 18).1 (TX7 18).2.1 (TX7 18).2.2.1 ∈ lw_gd := gd_in (tb_4 _ (List.mem_of_getElem? (i := 51) (by decide +kernel))) rfl
theorem w_591 : Cond.code yX7_isSign cX7_isSign 2 (some (FieldType.boolean)) ∈ lw_gd := gd_in (tb_5 _ (List.mem_of_getElem? (i := 68) (by decide +kernel))) rfl
theorem w_592 : Cond.methodLink RX7 213 yX7_isSign ∈ lw_gd := gd_in (tb_5 _ (List.mem_of_getElem? (i := 65) (by decide +kernel))) rfl
theorem w_593 : Cond.instanceMethod yX7_isSign ∈ lw_gd := gd_in (tb_5 _ (List.mem_of_getElem? (i := 67) (by decide +kernel))) rfl
theorem w_594 : Cond.selects RX7 yX7_isSign yX7_isSign ∈ lw_gd := gd_in (tb_0 _ (List.mem_of_getElem? (i := 62) (by decide +kernel))) rfl
theorem w_595 : Cond.code yX7_opens cX7_opens 1 (some (FieldType.boolean)) ∈ lw_gd := gd_in (tb_5 _ (List.mem_of_getElem? (i := 52) (by decide +kernel))) rfl
theorem w_596 : Cond.methodLink RX7 216 yX7_opens ∈ lw_gd := gd_in (tb_5 _ (List.mem_of_getElem? (i := 49) (by decide +kernel))) rfl
theorem w_597 : Cond.instanceMethod yX7_opens ∈ lw_gd := gd_in (tb_5 _ (List.mem_of_getElem? (i := 51) (by decide +kernel))) rfl
theorem w_598 : Cond.selects RX7 yX7_opens yX7_opens ∈ lw_gd := gd_in (tb_0 _ (List.mem_of_getElem? (i := 58) (by decide +kernel))) rfl
theorem w_599 : Cond.code yX7_atom cX7_atom 2 (some (FieldType.int)) ∈ lw_gd := gd_in (tb_5 _ (List.mem_of_getElem? (i := 64) (by decide +kernel))) rfl
theorem w_600 : Cond.methodLink RX7 220 yX7_atom ∈ lw_gd := gd_in (tb_5 _ (List.mem_of_getElem? (i := 61) (by decide +kernel))) rfl
theorem w_601 : Cond.instanceMethod yX7_atom ∈ lw_gd := gd_in (tb_5 _ (List.mem_of_getElem? (i := 63) (by decide +kernel))) rfl
theorem w_602 : Cond.selects RX7 yX7_atom yX7_atom ∈ lw_gd := gd_in (tb_0 _ (List.mem_of_getElem? (i := 61) (by decide +kernel))) rfl
theorem w_603 : Cond.code yX7_either cX7_either 3 (some (FieldType.int)) ∈ lw_gd := gd_in (tb_5 _ (List.mem_of_getElem? (i := 40) (by decide +kernel))) rfl
theorem w_604 : Cond.methodLink RX7 223 yX7_either ∈ lw_gd := gd_in (tb_5 _ (List.mem_of_getElem? (i := 37) (by decide +kernel))) rfl
theorem w_605 : Cond.instanceMethod yX7_either ∈ lw_gd := gd_in (tb_5 _ (List.mem_of_getElem? (i := 39) (by decide +kernel))) rfl
theorem w_606 : Cond.selects RX7 yX7_either yX7_either ∈ lw_gd := gd_in (tb_0 _ (List.mem_of_getElem? (i := 55) (by decide +kernel))) rfl
theorem w_607 : Cond.code yX7_name cX7_name 1 (some (FieldType.int)) ∈ lw_gd := gd_in (tb_5 _ (List.mem_of_getElem? (i := 72) (by decide +kernel))) rfl
theorem w_608 : Cond.methodLink RX7 226 yX7_name ∈ lw_gd := gd_in (tb_5 _ (List.mem_of_getElem? (i := 69) (by decide +kernel))) rfl
theorem w_609 : Cond.instanceMethod yX7_name ∈ lw_gd := gd_in (tb_5 _ (List.mem_of_getElem? (i := 71) (by decide +kernel))) rfl
theorem w_610 : Cond.selects RX7 yX7_name yX7_name ∈ lw_gd := gd_in (tb_0 _ (List.mem_of_getElem? (i := 63) (by decide +kernel))) rfl
theorem w_611 : Cond.code yX7_term cX7_term 2 (some (FieldType.int)) ∈ lw_gd := gd_in (tb_5 _ (List.mem_of_getElem? (i := 60) (by decide +kernel))) rfl
theorem w_612 : Cond.methodLink RX7 229 yX7_term ∈ lw_gd := gd_in (tb_5 _ (List.mem_of_getElem? (i := 57) (by decide +kernel))) rfl
theorem w_613 : Cond.instanceMethod yX7_term ∈ lw_gd := gd_in (tb_5 _ (List.mem_of_getElem? (i := 59) (by decide +kernel))) rfl
theorem w_614 : Cond.selects RX7 yX7_term yX7_term ∈ lw_gd := gd_in (tb_0 _ (List.mem_of_getElem? (i := 60) (by decide +kernel))) rfl
theorem w_615 : Cond.constantLong RX7 232 (Int64.ofInt 43) ∈ lw_gd := gd_in (tb_5 _ (List.mem_of_getElem? (i := 73) (by decide +kernel))) rfl
theorem w_616 : Cond.code yX7_not cX7_not 4 (some (FieldType.int)) ∈ lw_gd := gd_in (tb_5 _ (List.mem_of_getElem? (i := 48) (by decide +kernel))) rfl
theorem w_617 : Cond.methodLink RX7 234 yX7_not ∈ lw_gd := gd_in (tb_5 _ (List.mem_of_getElem? (i := 45) (by decide +kernel))) rfl
theorem w_618 : Cond.instanceMethod yX7_not ∈ lw_gd := gd_in (tb_5 _ (List.mem_of_getElem? (i := 47) (by decide +kernel))) rfl
theorem w_619 : Cond.selects RX7 yX7_not yX7_not ∈ lw_gd := gd_in (tb_0 _ (List.mem_of_getElem? (i := 57) (by decide +kernel))) rfl
theorem w_620 : Cond.code yX7_added cX7_added 4 (some (FieldType.int)) ∈ lw_gd := gd_in (tb_5 _ (List.mem_of_getElem? (i := 56) (by decide +kernel))) rfl
theorem w_621 : Cond.methodLink RX7 237 yX7_added ∈ lw_gd := gd_in (tb_5 _ (List.mem_of_getElem? (i := 53) (by decide +kernel))) rfl
theorem w_622 : Cond.instanceMethod yX7_added ∈ lw_gd := gd_in (tb_5 _ (List.mem_of_getElem? (i := 55) (by decide +kernel))) rfl
theorem w_623 : Cond.selects RX7 yX7_added yX7_added ∈ lw_gd := gd_in (tb_0 _ (List.mem_of_getElem? (i := 59) (by decide +kernel))) rfl
theorem w_624 : Cond.constantLong RX7 240 (Int64.ofInt 60) ∈ lw_gd := gd_in (tb_5 _ (List.mem_of_getElem? (i := 74) (by decide +kernel))) rfl
theorem w_625 : Cond.code yX7_both cX7_both 3 (some (FieldType.int)) ∈ lw_gd := gd_in (tb_5 _ (List.mem_of_getElem? (i := 44) (by decide +kernel))) rfl
theorem w_626 : Cond.methodLink RX7 242 yX7_both ∈ lw_gd := gd_in (tb_5 _ (List.mem_of_getElem? (i := 41) (by decide +kernel))) rfl
theorem w_627 : Cond.instanceMethod yX7_both ∈ lw_gd := gd_in (tb_5 _ (List.mem_of_getElem? (i := 43) (by decide +kernel))) rfl
theorem w_628 : Cond.selects RX7 yX7_both yX7_both ∈ lw_gd := gd_in (tb_0 _ (List.mem_of_getElem? (i := 56) (by decide +kernel))) rfl
theorem w_629 : Cond.code yX7_part cX7_part 3 (some (FieldType.int)) ∈ lw_gd := gd_in (tb_5 _ (List.mem_of_getElem? (i := 32) (by decide +kernel))) rfl
theorem w_630 : Cond.methodLink RX7 245 yX7_part ∈ lw_gd := gd_in (tb_5 _ (List.mem_of_getElem? (i := 29) (by decide +kernel))) rfl
theorem w_631 : Cond.instanceMethod yX7_part ∈ lw_gd := gd_in (tb_5 _ (List.mem_of_getElem? (i := 31) (by decide +kernel))) rfl
theorem w_632 : Cond.selects RX7 yX7_part yX7_part ∈ lw_gd := gd_in (tb_0 _ (List.mem_of_getElem? (i := 53) (by decide +kernel))) rfl
theorem w_633 : Cond.code yX7_readText cX7_readText 6 (some (FieldType.int)) ∈ lw_gd := gd_in (tb_5 _ (List.mem_of_getElem? (i := 7) (by decide +kernel))) rfl
theorem w_634 : Cond.methodLink RX7 249 yX7_readText ∈ lw_gd := gd_in (tb_5 _ (List.mem_of_getElem? (i := 4) (by decide +kernel))) rfl
theorem w_635 : Cond.instanceMethod yX7_readText ∈ lw_gd := gd_in (tb_5 _ (List.mem_of_getElem? (i := 6) (by decide +kernel))) rfl
theorem w_636 : Cond.selects RX7 yX7_readText yX7_readText ∈ lw_gd := gd_in (tb_0 _ (List.mem_of_getElem? (i := 48) (by decide +kernel))) rfl
theorem w_637 : Cond.code yX7_within cX7_within 3 (some (FieldType.int)) ∈ lw_gd := gd_in (tb_5 _ (List.mem_of_getElem? (i := 77) (by decide +kernel))) rfl
theorem w_638 : Cond.methodLink RX7 252 yX7_within ∈ lw_gd := gd_in (tb_5 _ (List.mem_of_getElem? (i := 75) (by decide +kernel))) rfl
theorem w_639 : Cond.static yX7_within ∈ lw_gd := gd_in (tb_5 _ (List.mem_of_getElem? (i := 76) (by decide +kernel))) rfl
theorem w_640 : Cond.code yX7_says cX7_says 5 (some (FieldType.int)) ∈ lw_gd := gd_in (tb_5 _ (List.mem_of_getElem? (i := 3) (by decide +kernel))) rfl
theorem w_641 : Cond.methodLink RX7 256 yX7_says ∈ lw_gd := gd_in (tb_5 _ (List.mem_of_getElem? (i := 0) (by decide +kernel))) rfl
theorem w_642 : Cond.instanceMethod yX7_says ∈ lw_gd := gd_in (tb_5 _ (List.mem_of_getElem? (i := 2) (by decide +kernel))) rfl
theorem w_643 : Cond.selects RX7 yX7_says yX7_says ∈ lw_gd := gd_in (tb_0 _ (List.mem_of_getElem? (i := 47) (by decide +kernel))) rfl
theorem w_644 : Cond.fieldLink RX7 260 (TX7 29).1 (TX7 29).2.1 (TX7 29).2.2.1 ∈ lw_gd := gd_in (tb_4 _ (List.mem_of_getElem? (i := 62) (by decide +kernel))) rfl
theorem w_645 : Cond.code yX7_undo cX7_undo 2 (some (FieldType.boolean)) ∈ lw_gd := gd_in (tb_4 _ (List.mem_of_getElem? (i := 231) (by decide +kernel))) rfl
theorem w_646 : Cond.methodLink RX7 263 yX7_undo ∈ lw_gd := gd_in (tb_4 _ (List.mem_of_getElem? (i := 229) (by decide +kernel))) rfl
theorem w_647 : Cond.static yX7_undo ∈ lw_gd := gd_in (tb_4 _ (List.mem_of_getElem? (i := 230) (by decide +kernel))) rfl
theorem w_648 : Cond.code yX7_reduces cX7_reduces 3 none ∈ lw_gd := gd_in (tb_4 _ (List.mem_of_getElem? (i := 228) (by decide +kernel))) rfl
theorem w_649 : Cond.methodLink RX7 266 yX7_reduces ∈ lw_gd := gd_in (tb_4 _ (List.mem_of_getElem? (i := 225) (by decide +kernel))) rfl
theorem w_650 : Cond.instanceMethod yX7_reduces ∈ lw_gd := gd_in (tb_4 _ (List.mem_of_getElem? (i := 227) (by decide +kernel))) rfl
theorem w_651 : Cond.selects RX7 yX7_reduces yX7_reduces ∈ lw_gd := gd_in (tb_0 _ (List.mem_of_getElem? (i := 44) (by decide +kernel))) rfl
theorem w_652 : Cond.code yX7_cuts cX7_cuts 4 none ∈ lw_gd := gd_in (tb_4 _ (List.mem_of_getElem? (i := 235) (by decide +kernel))) rfl
theorem w_653 : Cond.methodLink RX7 269 yX7_cuts ∈ lw_gd := gd_in (tb_4 _ (List.mem_of_getElem? (i := 232) (by decide +kernel))) rfl
theorem w_654 : Cond.instanceMethod yX7_cuts ∈ lw_gd := gd_in (tb_4 _ (List.mem_of_getElem? (i := 234) (by decide +kernel))) rfl
theorem w_655 : Cond.selects RX7 yX7_cuts yX7_cuts ∈ lw_gd := gd_in (tb_0 _ (List.mem_of_getElem? (i := 45) (by decide +kernel))) rfl
theorem w_656 : Cond.code yX7_pulls cX7_pulls 1 none ∈ lw_gd := gd_in (tb_4 _ (List.mem_of_getElem? (i := 224) (by decide +kernel))) rfl
theorem w_657 : Cond.methodLink RX7 273 yX7_pulls ∈ lw_gd := gd_in (tb_4 _ (List.mem_of_getElem? (i := 221) (by decide +kernel))) rfl
theorem w_658 : Cond.instanceMethod yX7_pulls ∈ lw_gd := gd_in (tb_4 _ (List.mem_of_getElem? (i := 223) (by decide +kernel))) rfl
theorem w_659 : Cond.selects RX7 yX7_pulls yX7_pulls ∈ lw_gd := gd_in (tb_0 _ (List.mem_of_getElem? (i := 43) (by decide +kernel))) rfl
theorem w_660 : Cond.constantLong RX7 276 (Int64.ofInt 3) ∈ lw_gd := gd_in (tb_5 _ (List.mem_of_getElem? (i := 115) (by decide +kernel))) rfl
theorem w_661 : Cond.code yX7_isSheet cX7_isSheet 1 (some (FieldType.boolean)) ∈ lw_gd := gd_in (tb_5 _ (List.mem_of_getElem? (i := 114) (by decide +kernel))) rfl
theorem w_662 : Cond.methodLink RX7 278 yX7_isSheet ∈ lw_gd := gd_in (tb_5 _ (List.mem_of_getElem? (i := 112) (by decide +kernel))) rfl
theorem w_663 : Cond.static yX7_isSheet ∈ lw_gd := gd_in (tb_5 _ (List.mem_of_getElem? (i := 113) (by decide +kernel))) rfl
theorem w_664 : Cond.code yX7_wordBad cX7_wordBad 3 (some (FieldType.int)) ∈ lw_gd := gd_in (tb_5 _ (List.mem_of_getElem? (i := 119) (by decide +kernel))) rfl
theorem w_665 : Cond.methodLink RX7 281 yX7_wordBad ∈ lw_gd := gd_in (tb_5 _ (List.mem_of_getElem? (i := 116) (by decide +kernel))) rfl
theorem w_666 : Cond.instanceMethod yX7_wordBad ∈ lw_gd := gd_in (tb_5 _ (List.mem_of_getElem? (i := 118) (by decide +kernel))) rfl
theorem w_667 : Cond.selects RX7 yX7_wordBad yX7_wordBad ∈ lw_gd := gd_in (tb_0 _ (List.mem_of_getElem? (i := 66) (by decide +kernel))) rfl
theorem w_668 : Cond.code yX7_takesSheet cX7_takesSheet 3 none ∈ lw_gd := gd_in (tb_5 _ (List.mem_of_getElem? (i := 123) (by decide +kernel))) rfl
theorem w_669 : Cond.methodLink RX7 284 yX7_takesSheet ∈ lw_gd := gd_in (tb_5 _ (List.mem_of_getElem? (i := 120) (by decide +kernel))) rfl
theorem w_670 : Cond.instanceMethod yX7_takesSheet ∈ lw_gd := gd_in (tb_5 _ (List.mem_of_getElem? (i := 122) (by decide +kernel))) rfl
theorem w_671 : Cond.selects RX7 yX7_takesSheet yX7_takesSheet ∈ lw_gd := gd_in (tb_0 _ (List.mem_of_getElem? (i := 67) (by decide +kernel))) rfl
theorem w_672 : Cond.code yX7_ties1 cX7_ties1 5 none ∈ lw_gd := gd_in (tb_5 _ (List.mem_of_getElem? (i := 127) (by decide +kernel))) rfl
theorem w_673 : Cond.methodLink RX7 287 yX7_ties1 ∈ lw_gd := gd_in (tb_5 _ (List.mem_of_getElem? (i := 124) (by decide +kernel))) rfl
theorem w_674 : Cond.instanceMethod yX7_ties1 ∈ lw_gd := gd_in (tb_5 _ (List.mem_of_getElem? (i := 126) (by decide +kernel))) rfl
theorem w_675 : Cond.selects RX7 yX7_ties1 yX7_ties1 ∈ lw_gd := gd_in (tb_0 _ (List.mem_of_getElem? (i := 68) (by decide +kernel))) rfl
theorem w_676 : Cond.code yX7_comesAway cX7_comesAway 4 (some (FieldType.boolean)) ∈ lw_gd := gd_in (tb_5 _ (List.mem_of_getElem? (i := 143) (by decide +kernel))) rfl
theorem w_677 : Cond.methodLink RX7 290 yX7_comesAway ∈ lw_gd := gd_in (tb_5 _ (List.mem_of_getElem? (i := 140) (by decide +kernel))) rfl
theorem w_678 : Cond.instanceMethod yX7_comesAway ∈ lw_gd := gd_in (tb_5 _ (List.mem_of_getElem? (i := 142) (by decide +kernel))) rfl
theorem w_679 : Cond.selects RX7 yX7_comesAway yX7_comesAway ∈ lw_gd := gd_in (tb_0 _ (List.mem_of_getElem? (i := 70) (by decide +kernel))) rfl
theorem w_680 : Cond.code yX7_awaySet cX7_awaySet 4 (some (FieldType.int)) ∈ lw_gd := gd_in (tb_5 _ (List.mem_of_getElem? (i := 139) (by decide +kernel))) rfl
theorem w_681 : Cond.methodLink RX7 293 yX7_awaySet ∈ lw_gd := gd_in (tb_5 _ (List.mem_of_getElem? (i := 136) (by decide +kernel))) rfl
theorem w_682 : Cond.instanceMethod yX7_awaySet ∈ lw_gd := gd_in (tb_5 _ (List.mem_of_getElem? (i := 138) (by decide +kernel))) rfl
theorem w_683 : Cond.selects RX7 yX7_awaySet yX7_awaySet ∈ lw_gd := gd_in (tb_0 _ (List.mem_of_getElem? (i := 69) (by decide +kernel))) rfl
theorem w_684 : Cond.code yX7_isTurned cX7_isTurned 3 (some (FieldType.boolean)) ∈ lw_gd := gd_in (tb_5 _ (List.mem_of_getElem? (i := 151) (by decide +kernel))) rfl
theorem w_685 : Cond.methodLink RX7 296 yX7_isTurned ∈ lw_gd := gd_in (tb_5 _ (List.mem_of_getElem? (i := 148) (by decide +kernel))) rfl
theorem w_686 : Cond.instanceMethod yX7_isTurned ∈ lw_gd := gd_in (tb_5 _ (List.mem_of_getElem? (i := 150) (by decide +kernel))) rfl
theorem w_687 : Cond.selects RX7 yX7_isTurned yX7_isTurned ∈ lw_gd := gd_in (tb_0 _ (List.mem_of_getElem? (i := 71) (by decide +kernel))) rfl
theorem w_688 : Cond.code yX7_holdsOf cX7_holdsOf 8 (some (FieldType.int)) ∈ lw_gd := gd_in (tb_4 _ (List.mem_of_getElem? (i := 239) (by decide +kernel))) rfl
theorem w_689 : Cond.methodLink RX7 299 yX7_holdsOf ∈ lw_gd := gd_in (tb_4 _ (List.mem_of_getElem? (i := 236) (by decide +kernel))) rfl
theorem w_690 : Cond.instanceMethod yX7_holdsOf ∈ lw_gd := gd_in (tb_4 _ (List.mem_of_getElem? (i := 238) (by decide +kernel))) rfl
theorem w_691 : Cond.selects RX7 yX7_holdsOf yX7_holdsOf ∈ lw_gd := gd_in (tb_0 _ (List.mem_of_getElem? (i := 46) (by decide +kernel))) rfl
theorem w_692 : Cond.code yX7_footHolds cX7_footHolds 2 (some (FieldType.int)) ∈ lw_gd := gd_in (tb_4 _ (List.mem_of_getElem? (i := 212) (by decide +kernel))) rfl
theorem w_693 : Cond.methodLink RX7 302 yX7_footHolds ∈ lw_gd := gd_in (tb_4 _ (List.mem_of_getElem? (i := 209) (by decide +kernel))) rfl
theorem w_694 : Cond.instanceMethod yX7_footHolds ∈ lw_gd := gd_in (tb_4 _ (List.mem_of_getElem? (i := 211) (by decide +kernel))) rfl
theorem w_695 : Cond.selects RX7 yX7_footHolds yX7_footHolds ∈ lw_gd := gd_in (tb_0 _ (List.mem_of_getElem? (i := 40) (by decide +kernel))) rfl
theorem w_696 : Cond.code yX7_passesAt cX7_passesAt 2 (some (FieldType.boolean)) ∈ lw_gd := gd_in (tb_4 _ (List.mem_of_getElem? (i := 208) (by decide +kernel))) rfl
theorem w_697 : Cond.methodLink RX7 305 yX7_passesAt ∈ lw_gd := gd_in (tb_4 _ (List.mem_of_getElem? (i := 205) (by decide +kernel))) rfl
theorem w_698 : Cond.instanceMethod yX7_passesAt ∈ lw_gd := gd_in (tb_4 _ (List.mem_of_getElem? (i := 207) (by decide +kernel))) rfl
theorem w_699 : Cond.selects RX7 yX7_passesAt yX7_passesAt ∈ lw_gd := gd_in (tb_0 _ (List.mem_of_getElem? (i := 39) (by decide +kernel))) rfl
theorem w_700 : Cond.code yX7_learnsOf cX7_learnsOf 7 (some (FieldType.int)) ∈ lw_gd := gd_in (tb_5 _ (List.mem_of_getElem? (i := 167) (by decide +kernel))) rfl
theorem w_701 : Cond.methodLink RX7 308 yX7_learnsOf ∈ lw_gd := gd_in (tb_5 _ (List.mem_of_getElem? (i := 164) (by decide +kernel))) rfl
theorem w_702 : Cond.instanceMethod yX7_learnsOf ∈ lw_gd := gd_in (tb_5 _ (List.mem_of_getElem? (i := 166) (by decide +kernel))) rfl
theorem w_703 : Cond.selects RX7 yX7_learnsOf yX7_learnsOf ∈ lw_gd := gd_in (tb_0 _ (List.mem_of_getElem? (i := 73) (by decide +kernel))) rfl
theorem w_704 : Cond.code yX7_passes cX7_passes 5 (some (FieldType.int)) ∈ lw_gd := gd_in (tb_5 _ (List.mem_of_getElem? (i := 163) (by decide +kernel))) rfl
theorem w_705 : Cond.methodLink RX7 312 yX7_passes ∈ lw_gd := gd_in (tb_5 _ (List.mem_of_getElem? (i := 160) (by decide +kernel))) rfl
theorem w_706 : Cond.instanceMethod yX7_passes ∈ lw_gd := gd_in (tb_5 _ (List.mem_of_getElem? (i := 162) (by decide +kernel))) rfl
theorem w_707 : Cond.selects RX7 yX7_passes yX7_passes ∈ lw_gd := gd_in (tb_0 _ (List.mem_of_getElem? (i := 72) (by decide +kernel))) rfl
theorem w_708 : Cond.constantLong RX7 315 (Int64.ofInt 20) ∈ lw_gd := gd_in (tb_5 _ (List.mem_of_getElem? (i := 172) (by decide +kernel))) rfl
theorem w_709 : Cond.constantLong RX7 317 (Int64.ofInt 2) ∈ lw_gd := gd_in (tb_5 _ (List.mem_of_getElem? (i := 173) (by decide +kernel))) rfl
theorem w_710 : Cond.code yX7_laysAside cX7_laysAside 2 none ∈ lw_gd := gd_in (tb_5 _ (List.mem_of_getElem? (i := 177) (by decide +kernel))) rfl
theorem w_711 : Cond.methodLink RX7 319 yX7_laysAside ∈ lw_gd := gd_in (tb_5 _ (List.mem_of_getElem? (i := 174) (by decide +kernel))) rfl
theorem w_712 : Cond.instanceMethod yX7_laysAside ∈ lw_gd := gd_in (tb_5 _ (List.mem_of_getElem? (i := 176) (by decide +kernel))) rfl
theorem w_713 : Cond.selects RX7 yX7_laysAside yX7_laysAside ∈ lw_gd := gd_in (tb_0 _ (List.mem_of_getElem? (i := 74) (by decide +kernel))) rfl
theorem w_714 : Cond.code yX7_bitsOf cX7_bitsOf 3 (some (FieldType.int)) ∈ lw_gd := gd_in (tb_5 _ (List.mem_of_getElem? (i := 180) (by decide +kernel))) rfl
theorem w_715 : Cond.methodLink RX7 322 yX7_bitsOf ∈ lw_gd := gd_in (tb_5 _ (List.mem_of_getElem? (i := 178) (by decide +kernel))) rfl
theorem w_716 : Cond.static yX7_bitsOf ∈ lw_gd := gd_in (tb_5 _ (List.mem_of_getElem? (i := 179) (by decide +kernel))) rfl
theorem w_717 : Cond.code yX7_tiedSet cX7_tiedSet 3 (some (FieldType.int)) ∈ lw_gd := gd_in (tb_5 _ (List.mem_of_getElem? (i := 184) (by decide +kernel))) rfl
theorem w_718 : Cond.methodLink RX7 325 yX7_tiedSet ∈ lw_gd := gd_in (tb_5 _ (List.mem_of_getElem? (i := 181) (by decide +kernel))) rfl
theorem w_719 : Cond.instanceMethod yX7_tiedSet ∈ lw_gd := gd_in (tb_5 _ (List.mem_of_getElem? (i := 183) (by decide +kernel))) rfl
theorem w_720 : Cond.selects RX7 yX7_tiedSet yX7_tiedSet ∈ lw_gd := gd_in (tb_0 _ (List.mem_of_getElem? (i := 75) (by decide +kernel))) rfl
theorem w_721 : Cond.code yX7_laysBack cX7_laysBack 2 none ∈ lw_gd := gd_in (tb_5 _ (List.mem_of_getElem? (i := 188) (by decide +kernel))) rfl
theorem w_722 : Cond.methodLink RX7 328 yX7_laysBack ∈ lw_gd := gd_in (tb_5 _ (List.mem_of_getElem? (i := 185) (by decide +kernel))) rfl
theorem w_723 : Cond.instanceMethod yX7_laysBack ∈ lw_gd := gd_in (tb_5 _ (List.mem_of_getElem? (i := 187) (by decide +kernel))) rfl
theorem w_724 : Cond.selects RX7 yX7_laysBack yX7_laysBack ∈ lw_gd := gd_in (tb_0 _ (List.mem_of_getElem? (i := 76) (by decide +kernel))) rfl
theorem w_725 : Cond.fieldLink RX7 331 (TX7 34).1 (TX7 34).2.1 (TX7 34).2.2.1 ∈ lw_gd := gd_in (tb_4 _ (List.mem_of_getElem? (i := 67) (by decide +kernel))) rfl
theorem w_726 : Cond.fieldLink RX7 334 (TX7 33).1 (TX7 33).2.1 (TX7 33).2.2.1 ∈ lw_gd := gd_in (tb_4 _ (List.mem_of_getElem? (i := 66) (by decide +kernel))) rfl
theorem w_727 : Cond.code yX7_gives cX7_gives 6 none ∈ lw_gd := gd_in (tb_5 _ (List.mem_of_getElem? (i := 204) (by decide +kernel))) rfl
theorem w_728 : Cond.methodLink RX7 337 yX7_gives ∈ lw_gd := gd_in (tb_5 _ (List.mem_of_getElem? (i := 201) (by decide +kernel))) rfl
theorem w_729 : Cond.instanceMethod yX7_gives ∈ lw_gd := gd_in (tb_5 _ (List.mem_of_getElem? (i := 203) (by decide +kernel))) rfl
theorem w_730 : Cond.selects RX7 yX7_gives yX7_gives ∈ lw_gd := gd_in (tb_0 _ (List.mem_of_getElem? (i := 78) (by decide +kernel))) rfl
theorem w_731 : Cond.code yX7_tellsPass cX7_tellsPass 5 none ∈ lw_gd := gd_in (tb_5 _ (List.mem_of_getElem? (i := 200) (by decide +kernel))) rfl
theorem w_732 : Cond.methodLink RX7 341 yX7_tellsPass ∈ lw_gd := gd_in (tb_5 _ (List.mem_of_getElem? (i := 197) (by decide +kernel))) rfl
theorem w_733 : Cond.instanceMethod yX7_tellsPass ∈ lw_gd := gd_in (tb_5 _ (List.mem_of_getElem? (i := 199) (by decide +kernel))) rfl
theorem w_734 : Cond.selects RX7 yX7_tellsPass yX7_tellsPass ∈ lw_gd := gd_in (tb_0 _ (List.mem_of_getElem? (i := 77) (by decide +kernel))) rfl
theorem w_735 : Cond.code yX7_takesCode cX7_takesCode 5 none ∈ lw_gd := gd_in (tb_5 _ (List.mem_of_getElem? (i := 217) (by decide +kernel))) rfl
theorem w_736 : Cond.methodLink RX7 344 yX7_takesCode ∈ lw_gd := gd_in (tb_5 _ (List.mem_of_getElem? (i := 214) (by decide +kernel))) rfl
theorem w_737 : Cond.instanceMethod yX7_takesCode ∈ lw_gd := gd_in (tb_5 _ (List.mem_of_getElem? (i := 216) (by decide +kernel))) rfl
theorem w_738 : Cond.selects RX7 yX7_takesCode yX7_takesCode ∈ lw_gd := gd_in (tb_0 _ (List.mem_of_getElem? (i := 80) (by decide +kernel))) rfl
theorem w_739 : Cond.constantLong RX7 347 (Int64.ofInt 99) ∈ lw_gd := gd_in (tb_5 _ (List.mem_of_getElem? (i := 209) (by decide +kernel))) rfl
theorem w_740 : Cond.code yX7_isFine cX7_isFine 6 (some (FieldType.boolean)) ∈ lw_gd := gd_in (tb_5 _ (List.mem_of_getElem? (i := 213) (by decide +kernel))) rfl
theorem w_741 : Cond.methodLink RX7 349 yX7_isFine ∈ lw_gd := gd_in (tb_5 _ (List.mem_of_getElem? (i := 210) (by decide +kernel))) rfl
theorem w_742 : Cond.instanceMethod yX7_isFine ∈ lw_gd := gd_in (tb_5 _ (List.mem_of_getElem? (i := 212) (by decide +kernel))) rfl
theorem w_743 : Cond.selects RX7 yX7_isFine yX7_isFine ∈ lw_gd := gd_in (tb_0 _ (List.mem_of_getElem? (i := 79) (by decide +kernel))) rfl
theorem w_744 : Cond.code yX7_lowest cX7_lowest 11 (some (FieldType.long)) ∈ lw_gd := gd_in (tb_5 _ (List.mem_of_getElem? (i := 224) (by decide +kernel))) rfl
theorem w_745 : Cond.methodLink RX7 353 yX7_lowest ∈ lw_gd := gd_in (tb_5 _ (List.mem_of_getElem? (i := 222) (by decide +kernel))) rfl
theorem w_746 : Cond.static yX7_lowest ∈ lw_gd := gd_in (tb_5 _ (List.mem_of_getElem? (i := 223) (by decide +kernel))) rfl
theorem w_747 : Cond.constantLong RX7 357 (Int64.ofInt (-4611686018427387904)) ∈ lw_gd := gd_in (tb_5 _ (List.mem_of_getElem? (i := 225) (by decide +kernel))) rfl
theorem w_748 : Cond.code yX7_firstOther cX7_firstOther 4 (some (FieldType.int)) ∈ lw_gd := gd_in (tb_5 _ (List.mem_of_getElem? (i := 234) (by decide +kernel))) rfl
theorem w_749 : Cond.methodLink RX7 359 yX7_firstOther ∈ lw_gd := gd_in (tb_5 _ (List.mem_of_getElem? (i := 231) (by decide +kernel))) rfl
theorem w_750 : Cond.instanceMethod yX7_firstOther ∈ lw_gd := gd_in (tb_5 _ (List.mem_of_getElem? (i := 233) (by decide +kernel))) rfl
theorem w_751 : Cond.selects RX7 yX7_firstOther yX7_firstOther ∈ lw_gd := gd_in (tb_0 _ (List.mem_of_getElem? (i := 81) (by decide +kernel))) rfl
theorem w_752 : Cond.constantLong RX7 362 (Int64.ofInt 8) ∈ lw_gd := gd_in (tb_5 _ (List.mem_of_getElem? (i := 230) (by decide +kernel))) rfl
theorem w_753 : Cond.code yX7_likeSet cX7_likeSet 4 (some (FieldType.int)) ∈ lw_gd := gd_in (tb_5 _ (List.mem_of_getElem? (i := 238) (by decide +kernel))) rfl
theorem w_754 : Cond.methodLink RX7 364 yX7_likeSet ∈ lw_gd := gd_in (tb_5 _ (List.mem_of_getElem? (i := 235) (by decide +kernel))) rfl
theorem w_755 : Cond.instanceMethod yX7_likeSet ∈ lw_gd := gd_in (tb_5 _ (List.mem_of_getElem? (i := 237) (by decide +kernel))) rfl
theorem w_756 : Cond.selects RX7 yX7_likeSet yX7_likeSet ∈ lw_gd := gd_in (tb_0 _ (List.mem_of_getElem? (i := 82) (by decide +kernel))) rfl
theorem w_757 : Cond.code yX7_sheet cX7_sheet 5 (some (FieldType.int)) ∈ lw_gd := gd_in (tb_6 _ (List.mem_of_getElem? (i := 6) (by decide +kernel))) rfl
theorem w_758 : Cond.methodLink RX7 367 yX7_sheet ∈ lw_gd := gd_in (tb_6 _ (List.mem_of_getElem? (i := 3) (by decide +kernel))) rfl
theorem w_759 : Cond.instanceMethod yX7_sheet ∈ lw_gd := gd_in (tb_6 _ (List.mem_of_getElem? (i := 4) (by decide +kernel))) rfl
theorem w_760 : Cond.selects RX7 yX7_sheet yX7_sheet ∈ lw_gd := gd_in (tb_6 _ (List.mem_of_getElem? (i := 5) (by decide +kernel))) rfl
theorem w_761 : Cond.constant RX7 370 (Int32.ofInt 1103515245) ∈ lw_gd := gd_in (tb_6 _ (List.mem_of_getElem? (i := 17) (by decide +kernel))) rfl
theorem w_762 : Cond.constantLong RX7 371 (Int64.ofInt 12) ∈ lw_gd := gd_in (tb_6 _ (List.mem_of_getElem? (i := 12) (by decide +kernel))) rfl
theorem w_763 : Cond.code yX7_sizeDrawn cX7_sizeDrawn 5 (some (FieldType.int)) ∈ lw_gd := gd_in (tb_6 _ (List.mem_of_getElem? (i := 16) (by decide +kernel))) rfl
theorem w_764 : Cond.methodLink RX7 373 yX7_sizeDrawn ∈ lw_gd := gd_in (tb_6 _ (List.mem_of_getElem? (i := 13) (by decide +kernel))) rfl
theorem w_765 : Cond.instanceMethod yX7_sizeDrawn ∈ lw_gd := gd_in (tb_6 _ (List.mem_of_getElem? (i := 15) (by decide +kernel))) rfl
theorem w_766 : Cond.selects RX7 yX7_sizeDrawn yX7_sizeDrawn ∈ lw_gd := gd_in (tb_0 _ (List.mem_of_getElem? (i := 83) (by decide +kernel))) rfl
theorem w_767 : Cond.constantLong RX7 376 (Int64.ofInt 40) ∈ lw_gd := gd_in (tb_6 _ (List.mem_of_getElem? (i := 22) (by decide +kernel))) rfl
theorem w_768 : Cond.fieldLink RX7 378 (TX7 39).1 (TX7 39).2.1 (TX7 39).2.2.1 ∈ lw_gd := gd_in (tb_4 _ (List.mem_of_getElem? (i := 72) (by decide +kernel))) rfl
theorem w_769 : Cond.fieldLink RX7 381 (TX7 40).1 (TX7 40).2.1 (TX7 40).2.2.1 ∈ lw_gd := gd_in (tb_4 _ (List.mem_of_getElem? (i := 73) (by decide +kernel))) rfl
theorem w_770 : Cond.fieldLink RX7 384 (TX7 41).1 (TX7 41).2.1 (TX7 41).2.2.1 ∈ lw_gd := gd_in (tb_4 _ (List.mem_of_getElem? (i := 74) (by decide +kernel))) rfl
theorem w_771 : Cond.constantLong RX7 387 (Int64.ofInt (-1)) ∈ lw_gd := gd_in (tb_6 _ (List.mem_of_getElem? (i := 7) (by decide +kernel))) rfl
theorem w_772 : Cond.code yX7_lad cX7_lad 3 (some (FieldType.int)) ∈ lw_gd := gd_in (tb_5 _ (List.mem_of_getElem? (i := 89) (by decide +kernel))) rfl
theorem w_773 : Cond.methodLink RX7 389 yX7_lad ∈ lw_gd := gd_in (tb_6 _ (List.mem_of_getElem? (i := 48) (by decide +kernel))) rfl
theorem w_774 : Cond.instanceMethod yX7_lad ∈ lw_gd := gd_in (tb_5 _ (List.mem_of_getElem? (i := 87) (by decide +kernel))) rfl
theorem w_775 : Cond.selects RX7 yX7_lad yX7_lad ∈ lw_gd := gd_in (tb_5 _ (List.mem_of_getElem? (i := 88) (by decide +kernel))) rfl
theorem w_776 : Cond.code yX7_over cX7_over 1 (some (FieldType.int)) ∈ lw_gd := gd_in (tb_6 _ (List.mem_of_getElem? (i := 55) (by decide +kernel))) rfl
theorem w_777 : Cond.methodLink RX7 392 yX7_over ∈ lw_gd := gd_in (tb_6 _ (List.mem_of_getElem? (i := 53) (by decide +kernel))) rfl
theorem w_778 : Cond.static yX7_over ∈ lw_gd := gd_in (tb_6 _ (List.mem_of_getElem? (i := 54) (by decide +kernel))) rfl
theorem w_779 : Cond.constant RJ6 265 (Int32.ofInt 1431655765) ∈ lw_gd := gd_in (tb_3 _ (List.mem_of_getElem? (i := 110) (by decide +kernel))) rfl
theorem w_780 : Cond.constant RJ6 266 (Int32.ofInt 858993459) ∈ lw_gd := gd_in (tb_3 _ (List.mem_of_getElem? (i := 111) (by decide +kernel))) rfl
theorem w_781 : Cond.constant RJ6 267 (Int32.ofInt 252645135) ∈ lw_gd := gd_in (tb_3 _ (List.mem_of_getElem? (i := 112) (by decide +kernel))) rfl
theorem w_782 : Cond.fieldLink RJ0 9 RJ0 "value" "[B" ∈ lw_gd := gd_in (tb_6 _ (List.mem_of_getElem? (i := 56) (by decide +kernel))) rfl
theorem w_783 : Cond.code yJ0_coder_7d493 cJ0_coder_7d493 1 (some (FieldType.byte)) ∈ lw_gd := gd_in (tb_1 _ (List.mem_of_getElem? (i := 211) (by decide +kernel))) rfl
theorem w_784 : Cond.methodLink RJ0 335 yJ0_coder_7d493 ∈ lw_gd := gd_in (tb_1 _ (List.mem_of_getElem? (i := 208) (by decide +kernel))) rfl
theorem w_785 : Cond.instanceMethod yJ0_coder_7d493 ∈ lw_gd := gd_in (tb_1 _ (List.mem_of_getElem? (i := 209) (by decide +kernel))) rfl
theorem w_786 : Cond.selects RJ0 yJ0_coder_7d493 yJ0_coder_7d493 ∈ lw_gd := gd_in (tb_1 _ (List.mem_of_getElem? (i := 210) (by decide +kernel))) rfl
theorem w_787 : Cond.code yJ0_isLatin1_aae02 cJ0_isLatin1_aae02 1 (some (FieldType.boolean)) ∈ lw_gd := gd_in (tb_1 _ (List.mem_of_getElem? (i := 221) (by decide +kernel))) rfl
theorem w_788 : Cond.methodLink RJ0 492 yJ0_isLatin1_aae02 ∈ lw_gd := gd_in (tb_1 _ (List.mem_of_getElem? (i := 218) (by decide +kernel))) rfl
theorem w_789 : Cond.instanceMethod yJ0_isLatin1_aae02 ∈ lw_gd := gd_in (tb_1 _ (List.mem_of_getElem? (i := 219) (by decide +kernel))) rfl
theorem w_790 : Cond.selects RJ0 yJ0_isLatin1_aae02 yJ0_isLatin1_aae02 ∈ lw_gd := gd_in (tb_1 _ (List.mem_of_getElem? (i := 220) (by decide +kernel))) rfl
theorem w_791 : Cond.code yJ1_charAt_3b067 cJ1_charAt_3b067 2 (some (FieldType.char)) ∈ lw_gd := gd_in (tb_1 _ (List.mem_of_getElem? (i := 224) (by decide +kernel))) rfl
theorem w_792 : Cond.initialized RJ1 ∈ lw_gd := gd_in (tb_1 _ (List.mem_of_getElem? (i := 9) (by decide +kernel))) rfl
theorem w_793 : Cond.methodLink RJ0 495 yJ1_charAt_3b067 ∈ lw_gd := gd_in (tb_1 _ (List.mem_of_getElem? (i := 222) (by decide +kernel))) rfl
theorem w_794 : Cond.static yJ1_charAt_3b067 ∈ lw_gd := gd_in (tb_1 _ (List.mem_of_getElem? (i := 223) (by decide +kernel))) rfl
theorem w_795 : Cond.code yJ2_charAt_3b067 cJ2_charAt_3b067 2 (some (FieldType.char)) ∈ lw_gd := gd_in (tb_1 _ (List.mem_of_getElem? (i := 235) (by decide +kernel))) rfl
theorem w_796 : Cond.initialized RJ2 ∈ lw_gd := gd_in (tb_1 _ (List.mem_of_getElem? (i := 11) (by decide +kernel))) rfl
theorem w_797 : Cond.methodLink RJ0 498 yJ2_charAt_3b067 ∈ lw_gd := gd_in (tb_1 _ (List.mem_of_getElem? (i := 233) (by decide +kernel))) rfl
theorem w_798 : Cond.static yJ2_charAt_3b067 ∈ lw_gd := gd_in (tb_1 _ (List.mem_of_getElem? (i := 234) (by decide +kernel))) rfl
theorem w_799 : Cond.fieldLink RJ0 38 RJ0 "COMPACT_STRINGS" "Z" ∈ lw_gd := gd_in (tb_1 _ (List.mem_of_getElem? (i := 212) (by decide +kernel))) rfl
theorem w_800 : Cond.fieldLink RJ0 15 RJ0 "coder" "B" ∈ lw_gd := gd_in (tb_6 _ (List.mem_of_getElem? (i := 57) (by decide +kernel))) rfl
theorem w_801 : Cond.fieldLink RJ0 1053 RJ3 "SIOOBE_FORMATTER" "Ljava/util/function/BiFunction;" ∈ lw_gd := gd_in (tb_1 _ (List.mem_of_getElem? (i := 228) (by decide +kernel))) rfl
theorem w_802 : Cond.code yJ3_checkIndex_8e157 cJ3_checkIndex_8e157 3 (some (FieldType.int)) ∈ lw_gd := gd_in (tb_1 _ (List.mem_of_getElem? (i := 232) (by decide +kernel))) rfl
theorem w_803 : Cond.initialized RJ3 ∈ lw_gd := gd_in (tb_1 _ (List.mem_of_getElem? (i := 10) (by decide +kernel))) rfl
theorem w_804 : Cond.methodLink RJ0 1059 yJ3_checkIndex_8e157 ∈ lw_gd := gd_in (tb_1 _ (List.mem_of_getElem? (i := 230) (by decide +kernel))) rfl
theorem w_805 : Cond.static yJ3_checkIndex_8e157 ∈ lw_gd := gd_in (tb_1 _ (List.mem_of_getElem? (i := 231) (by decide +kernel))) rfl
theorem w_806 : Cond.code yJ0_checkIndex_df160 cJ0_checkIndex_df160 2 none ∈ lw_gd := gd_in (tb_1 _ (List.mem_of_getElem? (i := 227) (by decide +kernel))) rfl
theorem w_807 : Cond.methodLink RJ1 9 yJ0_checkIndex_df160 ∈ lw_gd := gd_in (tb_1 _ (List.mem_of_getElem? (i := 225) (by decide +kernel))) rfl
theorem w_808 : Cond.static yJ0_checkIndex_df160 ∈ lw_gd := gd_in (tb_1 _ (List.mem_of_getElem? (i := 226) (by decide +kernel))) rfl
theorem w_809 : Cond.classLink RL 7 RX6 ∈ lw_gd := gd_in (tb_1 _ (List.mem_of_getElem? (i := 16) (by decide +kernel))) rfl
theorem w_810 : Cond.instantiable RX6 12 ∈ lw_gd := gd_in (tb_1 _ (List.mem_of_getElem? (i := 17) (by decide +kernel))) rfl
theorem w_811 : Cond.code yX6_init cX6_init 2 none ∈ lw_gd := gd_in (tb_1 _ (List.mem_of_getElem? (i := 20) (by decide +kernel))) rfl
theorem w_812 : Cond.methodLink RL 9 yX6_init ∈ lw_gd := gd_in (tb_1 _ (List.mem_of_getElem? (i := 18) (by decide +kernel))) rfl
theorem w_813 : Cond.instanceMethod yX6_init ∈ lw_gd := gd_in (tb_1 _ (List.mem_of_getElem? (i := 19) (by decide +kernel))) rfl
theorem w_814 : Cond.classLink RL 10 RX7 ∈ lw_gd := gd_in (tb_4 _ (List.mem_of_getElem? (i := 24) (by decide +kernel))) rfl
theorem w_815 : Cond.instantiable RX7 46 ∈ lw_gd := gd_in (tb_4 _ (List.mem_of_getElem? (i := 25) (by decide +kernel))) rfl
theorem w_816 : Cond.code yX7_init cX7_init 2 none ∈ lw_gd := gd_in (tb_4 _ (List.mem_of_getElem? (i := 28) (by decide +kernel))) rfl
theorem w_817 : Cond.methodLink RL 12 yX7_init ∈ lw_gd := gd_in (tb_4 _ (List.mem_of_getElem? (i := 26) (by decide +kernel))) rfl
theorem w_818 : Cond.instanceMethod yX7_init ∈ lw_gd := gd_in (tb_4 _ (List.mem_of_getElem? (i := 27) (by decide +kernel))) rfl
theorem w_819 : Cond.code yX6_set cX6_set 5 (some (FieldType.int)) ∈ lw_gd := gd_in (tb_2 _ (List.mem_of_getElem? (i := 118) (by decide +kernel))) rfl
theorem w_820 : Cond.methodLink RL 13 yX6_set ∈ lw_gd := gd_in (tb_2 _ (List.mem_of_getElem? (i := 115) (by decide +kernel))) rfl
theorem w_821 : Cond.instanceMethod yX6_set ∈ lw_gd := gd_in (tb_2 _ (List.mem_of_getElem? (i := 116) (by decide +kernel))) rfl
theorem w_822 : Cond.selects RX6 yX6_set yX6_set ∈ lw_gd := gd_in (tb_2 _ (List.mem_of_getElem? (i := 117) (by decide +kernel))) rfl
theorem w_823 : Cond.code yX7_set cX7_set 5 (some (FieldType.int)) ∈ lw_gd := gd_in (tb_4 _ (List.mem_of_getElem? (i := 176) (by decide +kernel))) rfl
theorem w_824 : Cond.methodLink RL 17 yX7_set ∈ lw_gd := gd_in (tb_4 _ (List.mem_of_getElem? (i := 173) (by decide +kernel))) rfl
theorem w_825 : Cond.instanceMethod yX7_set ∈ lw_gd := gd_in (tb_4 _ (List.mem_of_getElem? (i := 174) (by decide +kernel))) rfl
theorem w_826 : Cond.selects RX7 yX7_set yX7_set ∈ lw_gd := gd_in (tb_4 _ (List.mem_of_getElem? (i := 175) (by decide +kernel))) rfl
theorem w_827 : Cond.methodLink RL 18 yX6_lad ∈ lw_gd := gd_in (tb_2 _ (List.mem_of_getElem? (i := 206) (by decide +kernel))) rfl
theorem w_828 : Cond.methodLink RL 22 yX7_lad ∈ lw_gd := gd_in (tb_5 _ (List.mem_of_getElem? (i := 86) (by decide +kernel))) rfl
theorem w_829 : Cond.methodLink RL 23 yX6_told ∈ lw_gd := gd_in (tb_2 _ (List.mem_of_getElem? (i := 217) (by decide +kernel))) rfl
theorem w_830 : Cond.methodLink RL 26 yX7_told ∈ lw_gd := gd_in (tb_5 _ (List.mem_of_getElem? (i := 90) (by decide +kernel))) rfl
theorem w_831 : Cond.code yX6_read cX6_read 2 (some (FieldType.int)) ∈ lw_gd := gd_in (tb_2 _ (List.mem_of_getElem? (i := 221) (by decide +kernel))) rfl
theorem w_832 : Cond.methodLink RL 27 yX6_read ∈ lw_gd := gd_in (tb_2 _ (List.mem_of_getElem? (i := 218) (by decide +kernel))) rfl
theorem w_833 : Cond.instanceMethod yX6_read ∈ lw_gd := gd_in (tb_2 _ (List.mem_of_getElem? (i := 219) (by decide +kernel))) rfl
theorem w_834 : Cond.selects RX6 yX6_read yX6_read ∈ lw_gd := gd_in (tb_2 _ (List.mem_of_getElem? (i := 220) (by decide +kernel))) rfl
theorem w_835 : Cond.code yX7_read cX7_read 2 (some (FieldType.int)) ∈ lw_gd := gd_in (tb_5 _ (List.mem_of_getElem? (i := 107) (by decide +kernel))) rfl
theorem w_836 : Cond.methodLink RL 31 yX7_read ∈ lw_gd := gd_in (tb_5 _ (List.mem_of_getElem? (i := 104) (by decide +kernel))) rfl
theorem w_837 : Cond.instanceMethod yX7_read ∈ lw_gd := gd_in (tb_5 _ (List.mem_of_getElem? (i := 105) (by decide +kernel))) rfl
theorem w_838 : Cond.selects RX7 yX7_read yX7_read ∈ lw_gd := gd_in (tb_5 _ (List.mem_of_getElem? (i := 106) (by decide +kernel))) rfl
theorem w_839 : Cond.code yX6_feed cX6_feed 2 (some (FieldType.int)) ∈ lw_gd := gd_in (tb_2 _ (List.mem_of_getElem? (i := 226) (by decide +kernel))) rfl
theorem w_840 : Cond.methodLink RL 32 yX6_feed ∈ lw_gd := gd_in (tb_2 _ (List.mem_of_getElem? (i := 223) (by decide +kernel))) rfl
theorem w_841 : Cond.instanceMethod yX6_feed ∈ lw_gd := gd_in (tb_2 _ (List.mem_of_getElem? (i := 224) (by decide +kernel))) rfl
theorem w_842 : Cond.selects RX6 yX6_feed yX6_feed ∈ lw_gd := gd_in (tb_2 _ (List.mem_of_getElem? (i := 225) (by decide +kernel))) rfl
theorem w_843 : Cond.code yX7_feed cX7_feed 2 (some (FieldType.int)) ∈ lw_gd := gd_in (tb_5 _ (List.mem_of_getElem? (i := 94) (by decide +kernel))) rfl
theorem w_844 : Cond.methodLink RL 35 yX7_feed ∈ lw_gd := gd_in (tb_5 _ (List.mem_of_getElem? (i := 91) (by decide +kernel))) rfl
theorem w_845 : Cond.instanceMethod yX7_feed ∈ lw_gd := gd_in (tb_5 _ (List.mem_of_getElem? (i := 92) (by decide +kernel))) rfl
theorem w_846 : Cond.selects RX7 yX7_feed yX7_feed ∈ lw_gd := gd_in (tb_5 _ (List.mem_of_getElem? (i := 93) (by decide +kernel))) rfl
theorem w_847 : Cond.code yX6_text cX6_text 3 (some (FieldType.int)) ∈ lw_gd := gd_in (tb_2 _ (List.mem_of_getElem? (i := 230) (by decide +kernel))) rfl
theorem w_848 : Cond.methodLink RL 36 yX6_text ∈ lw_gd := gd_in (tb_2 _ (List.mem_of_getElem? (i := 227) (by decide +kernel))) rfl
theorem w_849 : Cond.instanceMethod yX6_text ∈ lw_gd := gd_in (tb_2 _ (List.mem_of_getElem? (i := 228) (by decide +kernel))) rfl
theorem w_850 : Cond.selects RX6 yX6_text yX6_text ∈ lw_gd := gd_in (tb_2 _ (List.mem_of_getElem? (i := 229) (by decide +kernel))) rfl
theorem w_851 : Cond.code yX7_text cX7_text 2 (some (FieldType.int)) ∈ lw_gd := gd_in (tb_5 _ (List.mem_of_getElem? (i := 99) (by decide +kernel))) rfl
theorem w_852 : Cond.methodLink RL 40 yX7_text ∈ lw_gd := gd_in (tb_5 _ (List.mem_of_getElem? (i := 96) (by decide +kernel))) rfl
theorem w_853 : Cond.instanceMethod yX7_text ∈ lw_gd := gd_in (tb_5 _ (List.mem_of_getElem? (i := 97) (by decide +kernel))) rfl
theorem w_854 : Cond.selects RX7 yX7_text yX7_text ∈ lw_gd := gd_in (tb_5 _ (List.mem_of_getElem? (i := 98) (by decide +kernel))) rfl
theorem w_855 : Cond.code yX6_force cX6_force 3 (some (FieldType.int)) ∈ lw_gd := gd_in (tb_2 _ (List.mem_of_getElem? (i := 234) (by decide +kernel))) rfl
theorem w_856 : Cond.methodLink RL 41 yX6_force ∈ lw_gd := gd_in (tb_2 _ (List.mem_of_getElem? (i := 231) (by decide +kernel))) rfl
theorem w_857 : Cond.instanceMethod yX6_force ∈ lw_gd := gd_in (tb_2 _ (List.mem_of_getElem? (i := 232) (by decide +kernel))) rfl
theorem w_858 : Cond.selects RX6 yX6_force yX6_force ∈ lw_gd := gd_in (tb_2 _ (List.mem_of_getElem? (i := 233) (by decide +kernel))) rfl
theorem w_859 : Cond.code yX7_force cX7_force 3 (some (FieldType.int)) ∈ lw_gd := gd_in (tb_5 _ (List.mem_of_getElem? (i := 103) (by decide +kernel))) rfl
theorem w_860 : Cond.methodLink RL 44 yX7_force ∈ lw_gd := gd_in (tb_5 _ (List.mem_of_getElem? (i := 100) (by decide +kernel))) rfl
theorem w_861 : Cond.instanceMethod yX7_force ∈ lw_gd := gd_in (tb_5 _ (List.mem_of_getElem? (i := 101) (by decide +kernel))) rfl
theorem w_862 : Cond.selects RX7 yX7_force yX7_force ∈ lw_gd := gd_in (tb_5 _ (List.mem_of_getElem? (i := 102) (by decide +kernel))) rfl
theorem w_863 : Cond.code yX6_tie cX6_tie 5 (some (FieldType.int)) ∈ lw_gd := gd_in (tb_2 _ (List.mem_of_getElem? (i := 238) (by decide +kernel))) rfl
theorem w_864 : Cond.methodLink RL 45 yX6_tie ∈ lw_gd := gd_in (tb_2 _ (List.mem_of_getElem? (i := 235) (by decide +kernel))) rfl
theorem w_865 : Cond.instanceMethod yX6_tie ∈ lw_gd := gd_in (tb_2 _ (List.mem_of_getElem? (i := 236) (by decide +kernel))) rfl
theorem w_866 : Cond.selects RX6 yX6_tie yX6_tie ∈ lw_gd := gd_in (tb_2 _ (List.mem_of_getElem? (i := 237) (by decide +kernel))) rfl
theorem w_867 : Cond.code yX7_tie cX7_tie 6 (some (FieldType.int)) ∈ lw_gd := gd_in (tb_5 _ (List.mem_of_getElem? (i := 111) (by decide +kernel))) rfl
theorem w_868 : Cond.methodLink RL 48 yX7_tie ∈ lw_gd := gd_in (tb_5 _ (List.mem_of_getElem? (i := 108) (by decide +kernel))) rfl
theorem w_869 : Cond.instanceMethod yX7_tie ∈ lw_gd := gd_in (tb_5 _ (List.mem_of_getElem? (i := 109) (by decide +kernel))) rfl
theorem w_870 : Cond.selects RX7 yX7_tie yX7_tie ∈ lw_gd := gd_in (tb_5 _ (List.mem_of_getElem? (i := 110) (by decide +kernel))) rfl
theorem w_871 : Cond.code yX6_knot cX6_knot 4 (some (FieldType.int)) ∈ lw_gd := gd_in (tb_3 _ (List.mem_of_getElem? (i := 42) (by decide +kernel))) rfl
theorem w_872 : Cond.methodLink RL 49 yX6_knot ∈ lw_gd := gd_in (tb_3 _ (List.mem_of_getElem? (i := 39) (by decide +kernel))) rfl
theorem w_873 : Cond.instanceMethod yX6_knot ∈ lw_gd := gd_in (tb_3 _ (List.mem_of_getElem? (i := 40) (by decide +kernel))) rfl
theorem w_874 : Cond.selects RX6 yX6_knot yX6_knot ∈ lw_gd := gd_in (tb_3 _ (List.mem_of_getElem? (i := 41) (by decide +kernel))) rfl
theorem w_875 : Cond.code yX7_knot cX7_knot 4 (some (FieldType.int)) ∈ lw_gd := gd_in (tb_5 _ (List.mem_of_getElem? (i := 135) (by decide +kernel))) rfl
theorem w_876 : Cond.methodLink RL 52 yX7_knot ∈ lw_gd := gd_in (tb_5 _ (List.mem_of_getElem? (i := 132) (by decide +kernel))) rfl
theorem w_877 : Cond.instanceMethod yX7_knot ∈ lw_gd := gd_in (tb_5 _ (List.mem_of_getElem? (i := 133) (by decide +kernel))) rfl
theorem w_878 : Cond.selects RX7 yX7_knot yX7_knot ∈ lw_gd := gd_in (tb_5 _ (List.mem_of_getElem? (i := 134) (by decide +kernel))) rfl
theorem w_879 : Cond.code yX6_ties cX6_ties 4 (some (FieldType.int)) ∈ lw_gd := gd_in (tb_3 _ (List.mem_of_getElem? (i := 56) (by decide +kernel))) rfl
theorem w_880 : Cond.methodLink RL 53 yX6_ties ∈ lw_gd := gd_in (tb_3 _ (List.mem_of_getElem? (i := 53) (by decide +kernel))) rfl
theorem w_881 : Cond.instanceMethod yX6_ties ∈ lw_gd := gd_in (tb_3 _ (List.mem_of_getElem? (i := 54) (by decide +kernel))) rfl
theorem w_882 : Cond.selects RX6 yX6_ties yX6_ties ∈ lw_gd := gd_in (tb_3 _ (List.mem_of_getElem? (i := 55) (by decide +kernel))) rfl
theorem w_883 : Cond.code yX7_ties cX7_ties 4 (some (FieldType.int)) ∈ lw_gd := gd_in (tb_5 _ (List.mem_of_getElem? (i := 131) (by decide +kernel))) rfl
theorem w_884 : Cond.methodLink RL 56 yX7_ties ∈ lw_gd := gd_in (tb_5 _ (List.mem_of_getElem? (i := 128) (by decide +kernel))) rfl
theorem w_885 : Cond.instanceMethod yX7_ties ∈ lw_gd := gd_in (tb_5 _ (List.mem_of_getElem? (i := 129) (by decide +kernel))) rfl
theorem w_886 : Cond.selects RX7 yX7_ties yX7_ties ∈ lw_gd := gd_in (tb_5 _ (List.mem_of_getElem? (i := 130) (by decide +kernel))) rfl
theorem w_887 : Cond.code yX6_one cX6_one 3 (some (FieldType.int)) ∈ lw_gd := gd_in (tb_3 _ (List.mem_of_getElem? (i := 60) (by decide +kernel))) rfl
theorem w_888 : Cond.methodLink RL 57 yX6_one ∈ lw_gd := gd_in (tb_3 _ (List.mem_of_getElem? (i := 57) (by decide +kernel))) rfl
theorem w_889 : Cond.instanceMethod yX6_one ∈ lw_gd := gd_in (tb_3 _ (List.mem_of_getElem? (i := 58) (by decide +kernel))) rfl
theorem w_890 : Cond.selects RX6 yX6_one yX6_one ∈ lw_gd := gd_in (tb_3 _ (List.mem_of_getElem? (i := 59) (by decide +kernel))) rfl
theorem w_891 : Cond.code yX7_one cX7_one 6 (some (FieldType.int)) ∈ lw_gd := gd_in (tb_5 _ (List.mem_of_getElem? (i := 147) (by decide +kernel))) rfl
theorem w_892 : Cond.methodLink RL 60 yX7_one ∈ lw_gd := gd_in (tb_5 _ (List.mem_of_getElem? (i := 144) (by decide +kernel))) rfl
theorem w_893 : Cond.instanceMethod yX7_one ∈ lw_gd := gd_in (tb_5 _ (List.mem_of_getElem? (i := 145) (by decide +kernel))) rfl
theorem w_894 : Cond.selects RX7 yX7_one yX7_one ∈ lw_gd := gd_in (tb_5 _ (List.mem_of_getElem? (i := 146) (by decide +kernel))) rfl
theorem w_895 : Cond.code yX6_holds cX6_holds 2 (some (FieldType.int)) ∈ lw_gd := gd_in (tb_3 _ (List.mem_of_getElem? (i := 73) (by decide +kernel))) rfl
theorem w_896 : Cond.methodLink RL 61 yX6_holds ∈ lw_gd := gd_in (tb_3 _ (List.mem_of_getElem? (i := 70) (by decide +kernel))) rfl
theorem w_897 : Cond.instanceMethod yX6_holds ∈ lw_gd := gd_in (tb_3 _ (List.mem_of_getElem? (i := 71) (by decide +kernel))) rfl
theorem w_898 : Cond.selects RX6 yX6_holds yX6_holds ∈ lw_gd := gd_in (tb_3 _ (List.mem_of_getElem? (i := 72) (by decide +kernel))) rfl
theorem w_899 : Cond.code yX7_holds cX7_holds 2 (some (FieldType.int)) ∈ lw_gd := gd_in (tb_5 _ (List.mem_of_getElem? (i := 155) (by decide +kernel))) rfl
theorem w_900 : Cond.methodLink RL 64 yX7_holds ∈ lw_gd := gd_in (tb_5 _ (List.mem_of_getElem? (i := 152) (by decide +kernel))) rfl
theorem w_901 : Cond.instanceMethod yX7_holds ∈ lw_gd := gd_in (tb_5 _ (List.mem_of_getElem? (i := 153) (by decide +kernel))) rfl
theorem w_902 : Cond.selects RX7 yX7_holds yX7_holds ∈ lw_gd := gd_in (tb_5 _ (List.mem_of_getElem? (i := 154) (by decide +kernel))) rfl
theorem w_903 : Cond.code yX6_evening cX6_evening 1 (some (FieldType.int)) ∈ lw_gd := gd_in (tb_3 _ (List.mem_of_getElem? (i := 79) (by decide +kernel))) rfl
theorem w_904 : Cond.methodLink RL 65 yX6_evening ∈ lw_gd := gd_in (tb_3 _ (List.mem_of_getElem? (i := 76) (by decide +kernel))) rfl
theorem w_905 : Cond.instanceMethod yX6_evening ∈ lw_gd := gd_in (tb_3 _ (List.mem_of_getElem? (i := 77) (by decide +kernel))) rfl
theorem w_906 : Cond.selects RX6 yX6_evening yX6_evening ∈ lw_gd := gd_in (tb_3 _ (List.mem_of_getElem? (i := 78) (by decide +kernel))) rfl
theorem w_907 : Cond.code yX7_evening cX7_evening 1 (some (FieldType.int)) ∈ lw_gd := gd_in (tb_5 _ (List.mem_of_getElem? (i := 159) (by decide +kernel))) rfl
theorem w_908 : Cond.methodLink RL 68 yX7_evening ∈ lw_gd := gd_in (tb_5 _ (List.mem_of_getElem? (i := 156) (by decide +kernel))) rfl
theorem w_909 : Cond.instanceMethod yX7_evening ∈ lw_gd := gd_in (tb_5 _ (List.mem_of_getElem? (i := 157) (by decide +kernel))) rfl
theorem w_910 : Cond.selects RX7 yX7_evening yX7_evening ∈ lw_gd := gd_in (tb_5 _ (List.mem_of_getElem? (i := 158) (by decide +kernel))) rfl
theorem w_911 : Cond.code yX6_run cX6_run 6 (some (FieldType.int)) ∈ lw_gd := gd_in (tb_3 _ (List.mem_of_getElem? (i := 100) (by decide +kernel))) rfl
theorem w_912 : Cond.methodLink RL 69 yX6_run ∈ lw_gd := gd_in (tb_3 _ (List.mem_of_getElem? (i := 97) (by decide +kernel))) rfl
theorem w_913 : Cond.instanceMethod yX6_run ∈ lw_gd := gd_in (tb_3 _ (List.mem_of_getElem? (i := 98) (by decide +kernel))) rfl
theorem w_914 : Cond.selects RX6 yX6_run yX6_run ∈ lw_gd := gd_in (tb_3 _ (List.mem_of_getElem? (i := 99) (by decide +kernel))) rfl
theorem w_915 : Cond.code yX7_run cX7_run 6 (some (FieldType.int)) ∈ lw_gd := gd_in (tb_5 _ (List.mem_of_getElem? (i := 171) (by decide +kernel))) rfl
theorem w_916 : Cond.methodLink RL 72 yX7_run ∈ lw_gd := gd_in (tb_5 _ (List.mem_of_getElem? (i := 168) (by decide +kernel))) rfl
theorem w_917 : Cond.instanceMethod yX7_run ∈ lw_gd := gd_in (tb_5 _ (List.mem_of_getElem? (i := 169) (by decide +kernel))) rfl
theorem w_918 : Cond.selects RX7 yX7_run yX7_run ∈ lw_gd := gd_in (tb_5 _ (List.mem_of_getElem? (i := 170) (by decide +kernel))) rfl
theorem w_919 : Cond.code yX6_lasts cX6_lasts 3 (some (FieldType.int)) ∈ lw_gd := gd_in (tb_3 _ (List.mem_of_getElem? (i := 121) (by decide +kernel))) rfl
theorem w_920 : Cond.methodLink RL 73 yX6_lasts ∈ lw_gd := gd_in (tb_3 _ (List.mem_of_getElem? (i := 118) (by decide +kernel))) rfl
theorem w_921 : Cond.instanceMethod yX6_lasts ∈ lw_gd := gd_in (tb_3 _ (List.mem_of_getElem? (i := 119) (by decide +kernel))) rfl
theorem w_922 : Cond.selects RX6 yX6_lasts yX6_lasts ∈ lw_gd := gd_in (tb_3 _ (List.mem_of_getElem? (i := 120) (by decide +kernel))) rfl
theorem w_923 : Cond.code yX7_lasts cX7_lasts 3 (some (FieldType.int)) ∈ lw_gd := gd_in (tb_5 _ (List.mem_of_getElem? (i := 192) (by decide +kernel))) rfl
theorem w_924 : Cond.methodLink RL 76 yX7_lasts ∈ lw_gd := gd_in (tb_5 _ (List.mem_of_getElem? (i := 189) (by decide +kernel))) rfl
theorem w_925 : Cond.instanceMethod yX7_lasts ∈ lw_gd := gd_in (tb_5 _ (List.mem_of_getElem? (i := 190) (by decide +kernel))) rfl
theorem w_926 : Cond.selects RX7 yX7_lasts yX7_lasts ∈ lw_gd := gd_in (tb_5 _ (List.mem_of_getElem? (i := 191) (by decide +kernel))) rfl
theorem w_927 : Cond.code yX6_best cX6_best 6 (some (FieldType.int)) ∈ lw_gd := gd_in (tb_3 _ (List.mem_of_getElem? (i := 125) (by decide +kernel))) rfl
theorem w_928 : Cond.methodLink RL 77 yX6_best ∈ lw_gd := gd_in (tb_3 _ (List.mem_of_getElem? (i := 122) (by decide +kernel))) rfl
theorem w_929 : Cond.instanceMethod yX6_best ∈ lw_gd := gd_in (tb_3 _ (List.mem_of_getElem? (i := 123) (by decide +kernel))) rfl
theorem w_930 : Cond.selects RX6 yX6_best yX6_best ∈ lw_gd := gd_in (tb_3 _ (List.mem_of_getElem? (i := 124) (by decide +kernel))) rfl
theorem w_931 : Cond.code yX7_best cX7_best 4 (some (FieldType.int)) ∈ lw_gd := gd_in (tb_5 _ (List.mem_of_getElem? (i := 196) (by decide +kernel))) rfl
theorem w_932 : Cond.methodLink RL 80 yX7_best ∈ lw_gd := gd_in (tb_5 _ (List.mem_of_getElem? (i := 193) (by decide +kernel))) rfl
theorem w_933 : Cond.instanceMethod yX7_best ∈ lw_gd := gd_in (tb_5 _ (List.mem_of_getElem? (i := 194) (by decide +kernel))) rfl
theorem w_934 : Cond.selects RX7 yX7_best yX7_best ∈ lw_gd := gd_in (tb_5 _ (List.mem_of_getElem? (i := 195) (by decide +kernel))) rfl
theorem w_935 : Cond.code yX6_shortest cX6_shortest 6 (some (FieldType.int)) ∈ lw_gd := gd_in (tb_3 _ (List.mem_of_getElem? (i := 145) (by decide +kernel))) rfl
theorem w_936 : Cond.methodLink RL 81 yX6_shortest ∈ lw_gd := gd_in (tb_3 _ (List.mem_of_getElem? (i := 142) (by decide +kernel))) rfl
theorem w_937 : Cond.instanceMethod yX6_shortest ∈ lw_gd := gd_in (tb_3 _ (List.mem_of_getElem? (i := 143) (by decide +kernel))) rfl
theorem w_938 : Cond.selects RX6 yX6_shortest yX6_shortest ∈ lw_gd := gd_in (tb_3 _ (List.mem_of_getElem? (i := 144) (by decide +kernel))) rfl
theorem w_939 : Cond.code yX7_shortest cX7_shortest 7 (some (FieldType.int)) ∈ lw_gd := gd_in (tb_5 _ (List.mem_of_getElem? (i := 208) (by decide +kernel))) rfl
theorem w_940 : Cond.methodLink RL 84 yX7_shortest ∈ lw_gd := gd_in (tb_5 _ (List.mem_of_getElem? (i := 205) (by decide +kernel))) rfl
theorem w_941 : Cond.instanceMethod yX7_shortest ∈ lw_gd := gd_in (tb_5 _ (List.mem_of_getElem? (i := 206) (by decide +kernel))) rfl
theorem w_942 : Cond.selects RX7 yX7_shortest yX7_shortest ∈ lw_gd := gd_in (tb_5 _ (List.mem_of_getElem? (i := 207) (by decide +kernel))) rfl
theorem w_943 : Cond.code yX6_share cX6_share 5 (some (FieldType.long)) ∈ lw_gd := gd_in (tb_3 _ (List.mem_of_getElem? (i := 157) (by decide +kernel))) rfl
theorem w_944 : Cond.methodLink RL 85 yX6_share ∈ lw_gd := gd_in (tb_3 _ (List.mem_of_getElem? (i := 154) (by decide +kernel))) rfl
theorem w_945 : Cond.instanceMethod yX6_share ∈ lw_gd := gd_in (tb_3 _ (List.mem_of_getElem? (i := 155) (by decide +kernel))) rfl
theorem w_946 : Cond.selects RX6 yX6_share yX6_share ∈ lw_gd := gd_in (tb_3 _ (List.mem_of_getElem? (i := 156) (by decide +kernel))) rfl
theorem w_947 : Cond.code yX7_share cX7_share 5 (some (FieldType.long)) ∈ lw_gd := gd_in (tb_5 _ (List.mem_of_getElem? (i := 221) (by decide +kernel))) rfl
theorem w_948 : Cond.methodLink RL 89 yX7_share ∈ lw_gd := gd_in (tb_5 _ (List.mem_of_getElem? (i := 218) (by decide +kernel))) rfl
theorem w_949 : Cond.instanceMethod yX7_share ∈ lw_gd := gd_in (tb_5 _ (List.mem_of_getElem? (i := 219) (by decide +kernel))) rfl
theorem w_950 : Cond.selects RX7 yX7_share yX7_share ∈ lw_gd := gd_in (tb_5 _ (List.mem_of_getElem? (i := 220) (by decide +kernel))) rfl
theorem w_951 : Cond.code yX6_tells cX6_tells 5 (some (FieldType.int)) ∈ lw_gd := gd_in (tb_3 _ (List.mem_of_getElem? (i := 165) (by decide +kernel))) rfl
theorem w_952 : Cond.methodLink RL 90 yX6_tells ∈ lw_gd := gd_in (tb_3 _ (List.mem_of_getElem? (i := 162) (by decide +kernel))) rfl
theorem w_953 : Cond.instanceMethod yX6_tells ∈ lw_gd := gd_in (tb_3 _ (List.mem_of_getElem? (i := 163) (by decide +kernel))) rfl
theorem w_954 : Cond.selects RX6 yX6_tells yX6_tells ∈ lw_gd := gd_in (tb_3 _ (List.mem_of_getElem? (i := 164) (by decide +kernel))) rfl
theorem w_955 : Cond.code yX7_tells cX7_tells 12 (some (FieldType.int)) ∈ lw_gd := gd_in (tb_5 _ (List.mem_of_getElem? (i := 229) (by decide +kernel))) rfl
theorem w_956 : Cond.methodLink RL 93 yX7_tells ∈ lw_gd := gd_in (tb_5 _ (List.mem_of_getElem? (i := 226) (by decide +kernel))) rfl
theorem w_957 : Cond.instanceMethod yX7_tells ∈ lw_gd := gd_in (tb_5 _ (List.mem_of_getElem? (i := 227) (by decide +kernel))) rfl
theorem w_958 : Cond.selects RX7 yX7_tells yX7_tells ∈ lw_gd := gd_in (tb_5 _ (List.mem_of_getElem? (i := 228) (by decide +kernel))) rfl
theorem w_959 : Cond.code yX6_film cX6_film 6 (some (FieldType.int)) ∈ lw_gd := gd_in (tb_3 _ (List.mem_of_getElem? (i := 193) (by decide +kernel))) rfl
theorem w_960 : Cond.methodLink RL 94 yX6_film ∈ lw_gd := gd_in (tb_3 _ (List.mem_of_getElem? (i := 190) (by decide +kernel))) rfl
theorem w_961 : Cond.instanceMethod yX6_film ∈ lw_gd := gd_in (tb_3 _ (List.mem_of_getElem? (i := 191) (by decide +kernel))) rfl
theorem w_962 : Cond.selects RX6 yX6_film yX6_film ∈ lw_gd := gd_in (tb_3 _ (List.mem_of_getElem? (i := 192) (by decide +kernel))) rfl
theorem w_963 : Cond.code yX7_film cX7_film 5 (some (FieldType.int)) ∈ lw_gd := gd_in (tb_6 _ (List.mem_of_getElem? (i := 2) (by decide +kernel))) rfl
theorem w_964 : Cond.methodLink RL 97 yX7_film ∈ lw_gd := gd_in (tb_5 _ (List.mem_of_getElem? (i := 239) (by decide +kernel))) rfl
theorem w_965 : Cond.instanceMethod yX7_film ∈ lw_gd := gd_in (tb_6 _ (List.mem_of_getElem? (i := 0) (by decide +kernel))) rfl
theorem w_966 : Cond.selects RX7 yX7_film yX7_film ∈ lw_gd := gd_in (tb_6 _ (List.mem_of_getElem? (i := 1) (by decide +kernel))) rfl
theorem w_967 : Cond.code yX6_drawn cX6_drawn 3 (some (FieldType.int)) ∈ lw_gd := gd_in (tb_3 _ (List.mem_of_getElem? (i := 204) (by decide +kernel))) rfl
theorem w_968 : Cond.methodLink RL 98 yX6_drawn ∈ lw_gd := gd_in (tb_3 _ (List.mem_of_getElem? (i := 201) (by decide +kernel))) rfl
theorem w_969 : Cond.instanceMethod yX6_drawn ∈ lw_gd := gd_in (tb_3 _ (List.mem_of_getElem? (i := 202) (by decide +kernel))) rfl
theorem w_970 : Cond.selects RX6 yX6_drawn yX6_drawn ∈ lw_gd := gd_in (tb_3 _ (List.mem_of_getElem? (i := 203) (by decide +kernel))) rfl
theorem w_971 : Cond.code yX7_drawn cX7_drawn 3 (some (FieldType.int)) ∈ lw_gd := gd_in (tb_6 _ (List.mem_of_getElem? (i := 11) (by decide +kernel))) rfl
theorem w_972 : Cond.methodLink RL 101 yX7_drawn ∈ lw_gd := gd_in (tb_6 _ (List.mem_of_getElem? (i := 8) (by decide +kernel))) rfl
theorem w_973 : Cond.instanceMethod yX7_drawn ∈ lw_gd := gd_in (tb_6 _ (List.mem_of_getElem? (i := 9) (by decide +kernel))) rfl
theorem w_974 : Cond.selects RX7 yX7_drawn yX7_drawn ∈ lw_gd := gd_in (tb_6 _ (List.mem_of_getElem? (i := 10) (by decide +kernel))) rfl
theorem w_975 : Cond.code yX6_chance cX6_chance 7 (some (FieldType.long)) ∈ lw_gd := gd_in (tb_3 _ (List.mem_of_getElem? (i := 213) (by decide +kernel))) rfl
theorem w_976 : Cond.methodLink RL 102 yX6_chance ∈ lw_gd := gd_in (tb_3 _ (List.mem_of_getElem? (i := 210) (by decide +kernel))) rfl
theorem w_977 : Cond.instanceMethod yX6_chance ∈ lw_gd := gd_in (tb_3 _ (List.mem_of_getElem? (i := 211) (by decide +kernel))) rfl
theorem w_978 : Cond.selects RX6 yX6_chance yX6_chance ∈ lw_gd := gd_in (tb_3 _ (List.mem_of_getElem? (i := 212) (by decide +kernel))) rfl
theorem w_979 : Cond.code yX7_chance cX7_chance 8 (some (FieldType.long)) ∈ lw_gd := gd_in (tb_6 _ (List.mem_of_getElem? (i := 21) (by decide +kernel))) rfl
theorem w_980 : Cond.methodLink RL 106 yX7_chance ∈ lw_gd := gd_in (tb_6 _ (List.mem_of_getElem? (i := 18) (by decide +kernel))) rfl
theorem w_981 : Cond.instanceMethod yX7_chance ∈ lw_gd := gd_in (tb_6 _ (List.mem_of_getElem? (i := 19) (by decide +kernel))) rfl
theorem w_982 : Cond.selects RX7 yX7_chance yX7_chance ∈ lw_gd := gd_in (tb_6 _ (List.mem_of_getElem? (i := 20) (by decide +kernel))) rfl
theorem w_983 : Cond.code yX6_image cX6_image 1 (some (FieldType.int)) ∈ lw_gd := gd_in (tb_3 _ (List.mem_of_getElem? (i := 217) (by decide +kernel))) rfl
theorem w_984 : Cond.methodLink RL 107 yX6_image ∈ lw_gd := gd_in (tb_3 _ (List.mem_of_getElem? (i := 214) (by decide +kernel))) rfl
theorem w_985 : Cond.instanceMethod yX6_image ∈ lw_gd := gd_in (tb_3 _ (List.mem_of_getElem? (i := 215) (by decide +kernel))) rfl
theorem w_986 : Cond.selects RX6 yX6_image yX6_image ∈ lw_gd := gd_in (tb_3 _ (List.mem_of_getElem? (i := 216) (by decide +kernel))) rfl
theorem w_987 : Cond.code yX7_image cX7_image 2 (some (FieldType.int)) ∈ lw_gd := gd_in (tb_6 _ (List.mem_of_getElem? (i := 26) (by decide +kernel))) rfl
theorem w_988 : Cond.methodLink RL 110 yX7_image ∈ lw_gd := gd_in (tb_6 _ (List.mem_of_getElem? (i := 23) (by decide +kernel))) rfl
theorem w_989 : Cond.instanceMethod yX7_image ∈ lw_gd := gd_in (tb_6 _ (List.mem_of_getElem? (i := 24) (by decide +kernel))) rfl
theorem w_990 : Cond.selects RX7 yX7_image yX7_image ∈ lw_gd := gd_in (tb_6 _ (List.mem_of_getElem? (i := 25) (by decide +kernel))) rfl
theorem w_991 : Cond.code yX6_back cX6_back 1 (some (FieldType.int)) ∈ lw_gd := gd_in (tb_3 _ (List.mem_of_getElem? (i := 221) (by decide +kernel))) rfl
theorem w_992 : Cond.methodLink RL 111 yX6_back ∈ lw_gd := gd_in (tb_3 _ (List.mem_of_getElem? (i := 218) (by decide +kernel))) rfl
theorem w_993 : Cond.instanceMethod yX6_back ∈ lw_gd := gd_in (tb_3 _ (List.mem_of_getElem? (i := 219) (by decide +kernel))) rfl
theorem w_994 : Cond.selects RX6 yX6_back yX6_back ∈ lw_gd := gd_in (tb_3 _ (List.mem_of_getElem? (i := 220) (by decide +kernel))) rfl
theorem w_995 : Cond.code yX7_back cX7_back 2 (some (FieldType.int)) ∈ lw_gd := gd_in (tb_6 _ (List.mem_of_getElem? (i := 30) (by decide +kernel))) rfl
theorem w_996 : Cond.methodLink RL 114 yX7_back ∈ lw_gd := gd_in (tb_6 _ (List.mem_of_getElem? (i := 27) (by decide +kernel))) rfl
theorem w_997 : Cond.instanceMethod yX7_back ∈ lw_gd := gd_in (tb_6 _ (List.mem_of_getElem? (i := 28) (by decide +kernel))) rfl
theorem w_998 : Cond.selects RX7 yX7_back yX7_back ∈ lw_gd := gd_in (tb_6 _ (List.mem_of_getElem? (i := 29) (by decide +kernel))) rfl
theorem w_999 : Cond.code yX6_count cX6_count 2 (some (FieldType.int)) ∈ lw_gd := gd_in (tb_3 _ (List.mem_of_getElem? (i := 225) (by decide +kernel))) rfl
theorem w_1000 : Cond.methodLink RL 115 yX6_count ∈ lw_gd := gd_in (tb_3 _ (List.mem_of_getElem? (i := 222) (by decide +kernel))) rfl
theorem w_1001 : Cond.instanceMethod yX6_count ∈ lw_gd := gd_in (tb_3 _ (List.mem_of_getElem? (i := 223) (by decide +kernel))) rfl
theorem w_1002 : Cond.selects RX6 yX6_count yX6_count ∈ lw_gd := gd_in (tb_3 _ (List.mem_of_getElem? (i := 224) (by decide +kernel))) rfl
theorem w_1003 : Cond.code yX7_count cX7_count 2 (some (FieldType.int)) ∈ lw_gd := gd_in (tb_6 _ (List.mem_of_getElem? (i := 34) (by decide +kernel))) rfl
theorem w_1004 : Cond.methodLink RL 118 yX7_count ∈ lw_gd := gd_in (tb_6 _ (List.mem_of_getElem? (i := 31) (by decide +kernel))) rfl
theorem w_1005 : Cond.instanceMethod yX7_count ∈ lw_gd := gd_in (tb_6 _ (List.mem_of_getElem? (i := 32) (by decide +kernel))) rfl
theorem w_1006 : Cond.selects RX7 yX7_count yX7_count ∈ lw_gd := gd_in (tb_6 _ (List.mem_of_getElem? (i := 33) (by decide +kernel))) rfl
theorem w_1007 : Cond.code yX6_sheet cX6_sheet 4 (some (FieldType.int)) ∈ lw_gd := gd_in (tb_3 _ (List.mem_of_getElem? (i := 229) (by decide +kernel))) rfl
theorem w_1008 : Cond.methodLink RL 119 yX6_sheet ∈ lw_gd := gd_in (tb_3 _ (List.mem_of_getElem? (i := 226) (by decide +kernel))) rfl
theorem w_1009 : Cond.instanceMethod yX6_sheet ∈ lw_gd := gd_in (tb_3 _ (List.mem_of_getElem? (i := 227) (by decide +kernel))) rfl
theorem w_1010 : Cond.selects RX6 yX6_sheet yX6_sheet ∈ lw_gd := gd_in (tb_3 _ (List.mem_of_getElem? (i := 228) (by decide +kernel))) rfl
theorem w_1011 : Cond.methodLink RL 122 yX7_sheet ∈ lw_gd := gd_in (tb_6 _ (List.mem_of_getElem? (i := 35) (by decide +kernel))) rfl
theorem w_1012 : Cond.code yX6_cell cX6_cell 5 (some (FieldType.int)) ∈ lw_gd := gd_in (tb_3 _ (List.mem_of_getElem? (i := 236) (by decide +kernel))) rfl
theorem w_1013 : Cond.methodLink RL 123 yX6_cell ∈ lw_gd := gd_in (tb_3 _ (List.mem_of_getElem? (i := 233) (by decide +kernel))) rfl
theorem w_1014 : Cond.instanceMethod yX6_cell ∈ lw_gd := gd_in (tb_3 _ (List.mem_of_getElem? (i := 234) (by decide +kernel))) rfl
theorem w_1015 : Cond.selects RX6 yX6_cell yX6_cell ∈ lw_gd := gd_in (tb_3 _ (List.mem_of_getElem? (i := 235) (by decide +kernel))) rfl
theorem w_1016 : Cond.code yX7_cell cX7_cell 4 (some (FieldType.int)) ∈ lw_gd := gd_in (tb_6 _ (List.mem_of_getElem? (i := 39) (by decide +kernel))) rfl
theorem w_1017 : Cond.methodLink RL 126 yX7_cell ∈ lw_gd := gd_in (tb_6 _ (List.mem_of_getElem? (i := 36) (by decide +kernel))) rfl
theorem w_1018 : Cond.instanceMethod yX7_cell ∈ lw_gd := gd_in (tb_6 _ (List.mem_of_getElem? (i := 37) (by decide +kernel))) rfl
theorem w_1019 : Cond.selects RX7 yX7_cell yX7_cell ∈ lw_gd := gd_in (tb_6 _ (List.mem_of_getElem? (i := 38) (by decide +kernel))) rfl
theorem w_1020 : Cond.code yX6_copy cX6_copy 8 (some (FieldType.int)) ∈ lw_gd := gd_in (tb_4 _ (List.mem_of_getElem? (i := 8) (by decide +kernel))) rfl
theorem w_1021 : Cond.methodLink RL 127 yX6_copy ∈ lw_gd := gd_in (tb_4 _ (List.mem_of_getElem? (i := 5) (by decide +kernel))) rfl
theorem w_1022 : Cond.instanceMethod yX6_copy ∈ lw_gd := gd_in (tb_4 _ (List.mem_of_getElem? (i := 6) (by decide +kernel))) rfl
theorem w_1023 : Cond.selects RX6 yX6_copy yX6_copy ∈ lw_gd := gd_in (tb_4 _ (List.mem_of_getElem? (i := 7) (by decide +kernel))) rfl
theorem w_1024 : Cond.code yX7_copy cX7_copy 9 (some (FieldType.int)) ∈ lw_gd := gd_in (tb_6 _ (List.mem_of_getElem? (i := 43) (by decide +kernel))) rfl
theorem w_1025 : Cond.methodLink RL 131 yX7_copy ∈ lw_gd := gd_in (tb_6 _ (List.mem_of_getElem? (i := 40) (by decide +kernel))) rfl
theorem w_1026 : Cond.instanceMethod yX7_copy ∈ lw_gd := gd_in (tb_6 _ (List.mem_of_getElem? (i := 41) (by decide +kernel))) rfl
theorem w_1027 : Cond.selects RX7 yX7_copy yX7_copy ∈ lw_gd := gd_in (tb_6 _ (List.mem_of_getElem? (i := 42) (by decide +kernel))) rfl
theorem w_1028 : Cond.code yX6_guild cX6_guild 9 (some (FieldType.int)) ∈ lw_gd := gd_in (tb_4 _ (List.mem_of_getElem? (i := 13) (by decide +kernel))) rfl
theorem w_1029 : Cond.methodLink RL 132 yX6_guild ∈ lw_gd := gd_in (tb_4 _ (List.mem_of_getElem? (i := 10) (by decide +kernel))) rfl
theorem w_1030 : Cond.instanceMethod yX6_guild ∈ lw_gd := gd_in (tb_4 _ (List.mem_of_getElem? (i := 11) (by decide +kernel))) rfl
theorem w_1031 : Cond.selects RX6 yX6_guild yX6_guild ∈ lw_gd := gd_in (tb_4 _ (List.mem_of_getElem? (i := 12) (by decide +kernel))) rfl
theorem w_1032 : Cond.code yX7_guild cX7_guild 8 (some (FieldType.int)) ∈ lw_gd := gd_in (tb_6 _ (List.mem_of_getElem? (i := 47) (by decide +kernel))) rfl
theorem w_1033 : Cond.methodLink RL 136 yX7_guild ∈ lw_gd := gd_in (tb_6 _ (List.mem_of_getElem? (i := 44) (by decide +kernel))) rfl
theorem w_1034 : Cond.instanceMethod yX7_guild ∈ lw_gd := gd_in (tb_6 _ (List.mem_of_getElem? (i := 45) (by decide +kernel))) rfl
theorem w_1035 : Cond.selects RX7 yX7_guild yX7_guild ∈ lw_gd := gd_in (tb_6 _ (List.mem_of_getElem? (i := 46) (by decide +kernel))) rfl
theorem w_1036 : Cond.code yX6_taken cX6_taken 3 (some (FieldType.int)) ∈ lw_gd := gd_in (tb_4 _ (List.mem_of_getElem? (i := 18) (by decide +kernel))) rfl
theorem w_1037 : Cond.methodLink RL 137 yX6_taken ∈ lw_gd := gd_in (tb_4 _ (List.mem_of_getElem? (i := 15) (by decide +kernel))) rfl
theorem w_1038 : Cond.instanceMethod yX6_taken ∈ lw_gd := gd_in (tb_4 _ (List.mem_of_getElem? (i := 16) (by decide +kernel))) rfl
theorem w_1039 : Cond.selects RX6 yX6_taken yX6_taken ∈ lw_gd := gd_in (tb_4 _ (List.mem_of_getElem? (i := 17) (by decide +kernel))) rfl
theorem w_1040 : Cond.code yX7_taken cX7_taken 4 (some (FieldType.int)) ∈ lw_gd := gd_in (tb_6 _ (List.mem_of_getElem? (i := 52) (by decide +kernel))) rfl
theorem w_1041 : Cond.methodLink RL 140 yX7_taken ∈ lw_gd := gd_in (tb_6 _ (List.mem_of_getElem? (i := 49) (by decide +kernel))) rfl
theorem w_1042 : Cond.instanceMethod yX7_taken ∈ lw_gd := gd_in (tb_6 _ (List.mem_of_getElem? (i := 50) (by decide +kernel))) rfl
theorem w_1043 : Cond.selects RX7 yX7_taken yX7_taken ∈ lw_gd := gd_in (tb_6 _ (List.mem_of_getElem? (i := 51) (by decide +kernel))) rfl
theorem hu_X0 : ∀ w ∈ u_ws RX0 TX0 2, w ∈ lw_gd := fun w hw => gd_in (goodIn_q _ [126, 128] (by decide +kernel) w hw) (List.all_eq_true.mp (show (u_ws RX0 TX0 2).all goodWord = true by decide +kernel) w hw)
theorem hu_X1 : ∀ w ∈ u_ws RX1 TX1 8, w ∈ lw_gd := fun w hw => gd_in (goodIn_q _ [248, 250, 252, 254, 256, 258, 260, 262] (by decide +kernel) w hw) (List.all_eq_true.mp (show (u_ws RX1 TX1 8).all goodWord = true by decide +kernel) w hw)
theorem hu_X2 : ∀ w ∈ u_ws RX2 TX2 5, w ∈ lw_gd := fun w hw => gd_in (goodIn_q _ [222, 224, 226, 228, 230] (by decide +kernel) w hw) (List.all_eq_true.mp (show (u_ws RX2 TX2 5).all goodWord = true by decide +kernel) w hw)
theorem hu_X3 : ∀ w ∈ u_ws RX3 TX3 3, w ∈ lw_gd := fun w hw => gd_in (goodIn_q _ [280, 282, 284] (by decide +kernel) w hw) (List.all_eq_true.mp (show (u_ws RX3 TX3 3).all goodWord = true by decide +kernel) w hw)
theorem hu_X4 : ∀ w ∈ u_ws RX4 TX4 4, w ∈ lw_gd := fun w hw => gd_in (goodIn_q _ [206, 208, 210, 212] (by decide +kernel) w hw) (List.all_eq_true.mp (show (u_ws RX4 TX4 4).all goodWord = true by decide +kernel) w hw)
theorem hu_X5 : ∀ w ∈ u_ws RX5 TX5 10, w ∈ lw_gd := fun w hw => gd_in (goodIn_q _ [161, 163, 165, 167, 169, 171, 173, 175, 177, 179] (by decide +kernel) w hw) (List.all_eq_true.mp (show (u_ws RX5 TX5 10).all goodWord = true by decide +kernel) w hw)
theorem hu_X6 : ∀ w ∈ u_ws RX6 TX6 12, w ∈ lw_gd := fun w hw => gd_in (goodIn_q _ [413, 415, 417, 419, 421, 423, 425, 427, 429, 431, 433, 435] (by decide +kernel) w hw) (List.all_eq_true.mp (show (u_ws RX6 TX6 12).all goodWord = true by decide +kernel) w hw)
theorem hu_X7 : ∀ w ∈ u_ws RX7 TX7 46, w ∈ lw_gd := fun w hw => gd_in (goodIn_q _ [883, 885, 887, 889, 891, 893, 895, 897, 899, 901, 903, 905, 907, 909, 911, 913, 915, 917, 919, 921, 923, 925, 927, 929, 931, 933, 935, 937, 939, 941, 943, 945, 947, 949, 951, 953, 955, 957, 959, 961, 963, 965, 967, 969, 971, 973] (by decide +kernel) w hw) (List.all_eq_true.mp (show (u_ws RX7 TX7 46).all goodWord = true by decide +kernel) w hw)
theorem d_okR {P : Nat → Option dD} {ini : Bool} {own : String} {cc : ByteArray} {nL : Nat} {ret : Option FieldType} {pc : Nat} {o len : Nat} {a b : Int} {sw : List (Int × Nat)} (h : d_Row P ini own cc nL pc (o, len, a, b, sw)) (ho : o ≠ 35 := by decide) : (o = 35 → d_RetOk cc ret pc a) ∧ (o ≠ 35 → d_Row P ini own cc nL pc (o, len, a, b, sw)) := ⟨fun z => absurd z ho, fun _ => h⟩
theorem d_ok0 {P : Nat → Option dD} {ini : Bool} {own : String} {cc : ByteArray} {nL : Nat} {ret : Option FieldType} {pc : Nat} {len : Nat} {a b : Int} {sw : List (Int × Nat)} (h : d_RetOk cc ret pc a) : (35 = 35 → d_RetOk cc ret pc a) ∧ (35 ≠ 35 → d_Row P ini own cc nL pc (35, len, a, b, sw)) := ⟨fun _ => h, fun z => absurd rfl z⟩
def d_All (P : Nat → Option dD) (ini : Bool) (own : String) (cc : ByteArray) (nL : Nat) (ret : Option FieldType) (l : List (Nat × dI)) : Prop := ∀ q ∈ l, (q.2.1 = 35 → d_RetOk cc ret q.1 q.2.2.2.1) ∧ (q.2.1 ≠ 35 → d_Row P ini own cc nL q.1 q.2)
theorem d_all0 {P : Nat → Option dD} {ini : Bool} {own : String} {cc : ByteArray} {nL : Nat} {ret : Option FieldType} : d_All P ini own cc nL ret [] := fun _ h => absurd h List.not_mem_nil
theorem d_all1 {P : Nat → Option dD} {ini : Bool} {own : String} {cc : ByteArray} {nL : Nat} {ret : Option FieldType} {pc o len : Nat} {a b : Int} {sw : List (Int × Nat)} {l : List (Nat × dI)} (h : (o = 35 → d_RetOk cc ret pc a) ∧ (o ≠ 35 → d_Row P ini own cc nL pc (o, len, a, b, sw))) (hl : d_All P ini own cc nL ret l) : d_All P ini own cc nL ret ((pc, o, len, a, b, sw) :: l) := List.forall_mem_cons.mpr ⟨h, hl⟩
theorem d_allA {P : Nat → Option dD} {ini : Bool} {own : String} {cc : ByteArray} {nL : Nat} {ret : Option FieldType} {l1 l2 : List (Nat × dI)} (h1 : d_All P ini own cc nL ret l1) (h2 : d_All P ini own cc nL ret l2) : d_All P ini own cc nL ret (l1 ++ l2) := List.forall_mem_append.mpr ⟨h1, h2⟩
def d_pairs : Nat → List (Option dI) → List (Nat × dI)
  | _, [] => []
  | pc, none :: l => d_pairs (pc + 1) l
  | pc, some ai :: l => (pc, ai) :: d_pairs (pc + 1) l
theorem d_pairs_mem : ∀ (l : List (Option dI)) (b i : Nat) (ai : dI), (l[i]?).join = some ai → (b + i, ai) ∈ d_pairs b l := by
  intro l
  induction l with
  | nil => intro b i ai h; simp at h
  | cons q l ih =>
    intro b i ai h
    match q, i with
    | none, 0 => simp at h
    | none, i + 1 =>
      have := ih (b + 1) i ai h
      rw [show b + 1 + i = b + (i + 1) by omega] at this
      exact this
    | some a2, 0 =>
      cases h
      exact List.mem_cons_self
    | some a2, i + 1 =>
      have := ih (b + 1) i ai h
      rw [show b + 1 + i = b + (i + 1) by omega] at this
      exact List.mem_cons_of_mem _ this
theorem d_good_of {P : Nat → Option dD} {md : dD} (h1 : plainName md.1.cls = true) (h2 : md.2.2.1 ≤ 21) {l : List (Nat × dI)} (hl : d_pairs 0 md.2.2.2.2 = l) (h : d_All P (md.1.name == "<init>") md.1.cls md.2.1 md.2.2.1 md.2.2.2.1 l) : d_Good P md := by
  refine ⟨h1, h2, fun pc ai hc => ?_⟩
  have := d_pairs_mem md.2.2.2.2 0 pc ai hc
  rw [Nat.zero_add, hl] at this
  exact h (pc, ai) this
