theorem in_p1 : ∀ q ∈ lw_privs_1, Cond.selects q.1.cls q.1 q.1 ∈ lw_tbl := fun q h => List.mem_append_left _ (List.mem_map_of_mem (f := fun q : MethodName × Nat => Cond.selects q.1.cls q.1 q.1) (show q ∈ lw_privs from (List.mem_append_left _ h)))
theorem in_p2 : ∀ q ∈ lw_privs_2, Cond.selects q.1.cls q.1 q.1 ∈ lw_tbl := fun q h => List.mem_append_left _ (List.mem_map_of_mem (f := fun q : MethodName × Nat => Cond.selects q.1.cls q.1 q.1) (show q ∈ lw_privs from (List.mem_append_right _ (List.mem_append_left _ h))))
theorem in_p3 : ∀ q ∈ lw_privs_3, Cond.selects q.1.cls q.1 q.1 ∈ lw_tbl := fun q h => List.mem_append_left _ (List.mem_map_of_mem (f := fun q : MethodName × Nat => Cond.selects q.1.cls q.1 q.1) (show q ∈ lw_privs from (List.mem_append_right _ (List.mem_append_right _ (List.mem_append_left _ h)))))
theorem in_p4 : ∀ q ∈ lw_privs_4, Cond.selects q.1.cls q.1 q.1 ∈ lw_tbl := fun q h => List.mem_append_left _ (List.mem_map_of_mem (f := fun q : MethodName × Nat => Cond.selects q.1.cls q.1 q.1) (show q ∈ lw_privs from (List.mem_append_right _ (List.mem_append_right _ (List.mem_append_right _ (List.mem_append_left _ h))))))
theorem in_p5 : ∀ q ∈ lw_privs_5, Cond.selects q.1.cls q.1 q.1 ∈ lw_tbl := fun q h => List.mem_append_left _ (List.mem_map_of_mem (f := fun q : MethodName × Nat => Cond.selects q.1.cls q.1 q.1) (show q ∈ lw_privs from (List.mem_append_right _ (List.mem_append_right _ (List.mem_append_right _ (List.mem_append_right _ (List.mem_append_left _ h)))))))
theorem in_p6 : ∀ q ∈ lw_privs_6, Cond.selects q.1.cls q.1 q.1 ∈ lw_tbl := fun q h => List.mem_append_left _ (List.mem_map_of_mem (f := fun q : MethodName × Nat => Cond.selects q.1.cls q.1 q.1) (show q ∈ lw_privs from (List.mem_append_right _ (List.mem_append_right _ (List.mem_append_right _ (List.mem_append_right _ (List.mem_append_right _ (List.mem_append_left _ h))))))))
theorem in_p7 : ∀ q ∈ lw_privs_7, Cond.selects q.1.cls q.1 q.1 ∈ lw_tbl := fun q h => List.mem_append_left _ (List.mem_map_of_mem (f := fun q : MethodName × Nat => Cond.selects q.1.cls q.1 q.1) (show q ∈ lw_privs from (List.mem_append_right _ (List.mem_append_right _ (List.mem_append_right _ (List.mem_append_right _ (List.mem_append_right _ (List.mem_append_right _ h))))))))
theorem in_t1 : ∀ w ∈ tables_1_1, w ∈ lw_tbl := fun w h => List.mem_append_right _ (show w ∈ tables_1 from (List.mem_append_left _ h))
theorem in_t2 : ∀ w ∈ tables_1_2, w ∈ lw_tbl := fun w h => List.mem_append_right _ (show w ∈ tables_1 from (List.mem_append_right _ (List.mem_append_left _ h)))
theorem in_t3 : ∀ w ∈ tables_1_3, w ∈ lw_tbl := fun w h => List.mem_append_right _ (show w ∈ tables_1 from (List.mem_append_right _ (List.mem_append_right _ (List.mem_append_left _ h))))
theorem in_t4 : ∀ w ∈ tables_1_4, w ∈ lw_tbl := fun w h => List.mem_append_right _ (show w ∈ tables_1 from (List.mem_append_right _ (List.mem_append_right _ (List.mem_append_right _ (List.mem_append_left _ h)))))
theorem in_t5 : ∀ w ∈ tables_1_5, w ∈ lw_tbl := fun w h => List.mem_append_right _ (show w ∈ tables_1 from (List.mem_append_right _ (List.mem_append_right _ (List.mem_append_right _ (List.mem_append_right _ (List.mem_append_left _ h))))))
theorem in_t6 : ∀ w ∈ tables_1_6, w ∈ lw_tbl := fun w h => List.mem_append_right _ (show w ∈ tables_1 from (List.mem_append_right _ (List.mem_append_right _ (List.mem_append_right _ (List.mem_append_right _ (List.mem_append_right _ (List.mem_append_left _ h)))))))
theorem in_t7 : ∀ w ∈ tables_1_7, w ∈ lw_tbl := fun w h => List.mem_append_right _ (show w ∈ tables_1 from (List.mem_append_right _ (List.mem_append_right _ (List.mem_append_right _ (List.mem_append_right _ (List.mem_append_right _ (List.mem_append_right _ (List.mem_append_left _ h))))))))
theorem in_t8 : ∀ w ∈ tables_1_8, w ∈ lw_tbl := fun w h => List.mem_append_right _ (show w ∈ tables_1 from (List.mem_append_right _ (List.mem_append_right _ (List.mem_append_right _ (List.mem_append_right _ (List.mem_append_right _ (List.mem_append_right _ (List.mem_append_right _ h))))))))
set_option maxRecDepth 20000 in
theorem wd_0 : Cond.selects RX11 yX11_putWord yX11_putWord ∈ lw_tbl := in_p1 (yX11_putWord, _) (List.mem_of_getElem? (i := 0) rfl)
set_option maxRecDepth 20000 in
theorem wd_1 : Cond.selects RX8 yX8_putToken yX8_putToken ∈ lw_tbl := in_p1 (yX8_putToken, _) (List.mem_of_getElem? (i := 1) rfl)
set_option maxRecDepth 20000 in
theorem wd_2 : Cond.selects RX8 yX8_kindOfName yX8_kindOfName ∈ lw_tbl := in_p1 (yX8_kindOfName, _) (List.mem_of_getElem? (i := 2) rfl)
set_option maxRecDepth 20000 in
theorem wd_3 : Cond.selects RX4 yX4_tellOne yX4_tellOne ∈ lw_tbl := in_p1 (yX4_tellOne, _) (List.mem_of_getElem? (i := 3) rfl)
set_option maxRecDepth 20000 in
theorem wd_4 : Cond.selects RX4 yX4_tellHouse yX4_tellHouse ∈ lw_tbl := in_p1 (yX4_tellHouse, _) (List.mem_of_getElem? (i := 4) rfl)
set_option maxRecDepth 20000 in
theorem wd_5 : Cond.selects RX4 yX4_refuse yX4_refuse ∈ lw_tbl := in_p1 (yX4_refuse, _) (List.mem_of_getElem? (i := 5) rfl)
set_option maxRecDepth 20000 in
theorem wd_6 : Cond.selects RX4 yX4_take yX4_take ∈ lw_tbl := in_p1 (yX4_take, _) (List.mem_of_getElem? (i := 6) rfl)
set_option maxRecDepth 20000 in
theorem wd_7 : Cond.selects RX4 yX4_isToldAlready yX4_isToldAlready ∈ lw_tbl := in_p1 (yX4_isToldAlready, _) (List.mem_of_getElem? (i := 7) rfl)
set_option maxRecDepth 20000 in
theorem wd_8 : Cond.selects RX4 yX4_note yX4_note ∈ lw_tbl := in_p1 (yX4_note, _) (List.mem_of_getElem? (i := 8) rfl)
set_option maxRecDepth 20000 in
theorem wd_9 : Cond.selects RX4 yX4_numberHere yX4_numberHere ∈ lw_tbl := in_p1 (yX4_numberHere, _) (List.mem_of_getElem? (i := 9) rfl)
set_option maxRecDepth 20000 in
theorem wd_10 : Cond.selects RX4 yX4_tellLaw yX4_tellLaw ∈ lw_tbl := in_p1 (yX4_tellLaw, _) (List.mem_of_getElem? (i := 10) rfl)
set_option maxRecDepth 20000 in
theorem wd_11 : Cond.selects RX4 yX4_sum yX4_sum ∈ lw_tbl := in_p1 (yX4_sum, _) (List.mem_of_getElem? (i := 11) rfl)
set_option maxRecDepth 20000 in
theorem wd_12 : Cond.selects RX4 yX4_product yX4_product ∈ lw_tbl := in_p1 (yX4_product, _) (List.mem_of_getElem? (i := 12) rfl)
set_option maxRecDepth 20000 in
theorem wd_13 : Cond.selects RX4 yX4_unit yX4_unit ∈ lw_tbl := in_p1 (yX4_unit, _) (List.mem_of_getElem? (i := 13) rfl)
set_option maxRecDepth 20000 in
theorem wd_14 : Cond.selects RX4 yX4_tellNumber yX4_tellNumber ∈ lw_tbl := in_p1 (yX4_tellNumber, _) (List.mem_of_getElem? (i := 14) rfl)
set_option maxRecDepth 20000 in
theorem wd_15 : Cond.selects RX11 yX11_isHouse yX11_isHouse ∈ lw_tbl := in_p1 (yX11_isHouse, _) (List.mem_of_getElem? (i := 15) rfl)
set_option maxRecDepth 20000 in
theorem wd_16 : Cond.selects RX11 yX11_lossOfAll yX11_lossOfAll ∈ lw_tbl := in_p2 (yX11_lossOfAll, _) (List.mem_of_getElem? (i := 0) rfl)
set_option maxRecDepth 20000 in
theorem wd_17 : Cond.selects RX11 yX11_lossWith yX11_lossWith ∈ lw_tbl := in_p2 (yX11_lossWith, _) (List.mem_of_getElem? (i := 1) rfl)
set_option maxRecDepth 20000 in
theorem wd_18 : Cond.selects RX6 yX6_fewestBest yX6_fewestBest ∈ lw_tbl := in_p2 (yX6_fewestBest, _) (List.mem_of_getElem? (i := 2) rfl)
set_option maxRecDepth 20000 in
theorem wd_19 : Cond.selects RX11 yX11_coalsNeeded yX11_coalsNeeded ∈ lw_tbl := in_p2 (yX11_coalsNeeded, _) (List.mem_of_getElem? (i := 3) rfl)
set_option maxRecDepth 20000 in
theorem wd_20 : Cond.selects RX11 yX11_keptByPlan yX11_keptByPlan ∈ lw_tbl := in_p2 (yX11_keptByPlan, _) (List.mem_of_getElem? (i := 4) rfl)
set_option maxRecDepth 20000 in
theorem wd_21 : Cond.selects RX11 yX11_daysTillNothing yX11_daysTillNothing ∈ lw_tbl := in_p2 (yX11_daysTillNothing, _) (List.mem_of_getElem? (i := 5) rfl)
set_option maxRecDepth 20000 in
theorem wd_22 : Cond.selects RX11 yX11_savedByOne yX11_savedByOne ∈ lw_tbl := in_p2 (yX11_savedByOne, _) (List.mem_of_getElem? (i := 6) rfl)
set_option maxRecDepth 20000 in
theorem wd_23 : Cond.selects RX11 yX11_lookAhead yX11_lookAhead ∈ lw_tbl := in_p2 (yX11_lookAhead, _) (List.mem_of_getElem? (i := 7) rfl)
set_option maxRecDepth 20000 in
theorem wd_24 : Cond.selects RX10 yX10_goOn yX10_goOn ∈ lw_tbl := in_p2 (yX10_goOn, _) (List.mem_of_getElem? (i := 8) rfl)
set_option maxRecDepth 20000 in
theorem wd_25 : Cond.selects RX11 yX11_nearestToJoined yX11_nearestToJoined ∈ lw_tbl := in_p2 (yX11_nearestToJoined, _) (List.mem_of_getElem? (i := 9) rfl)
set_option maxRecDepth 20000 in
theorem wd_26 : Cond.selects RX11 yX11_distanceToJoined yX11_distanceToJoined ∈ lw_tbl := in_p2 (yX11_distanceToJoined, _) (List.mem_of_getElem? (i := 10) rfl)
set_option maxRecDepth 20000 in
theorem wd_27 : Cond.selects RX5 yX5_coverFrom yX5_coverFrom ∈ lw_tbl := in_p2 (yX5_coverFrom, _) (List.mem_of_getElem? (i := 11) rfl)
set_option maxRecDepth 20000 in
theorem wd_28 : Cond.selects RX2 yX2_pairFrom yX2_pairFrom ∈ lw_tbl := in_p2 (yX2_pairFrom, _) (List.mem_of_getElem? (i := 12) rfl)
set_option maxRecDepth 20000 in
theorem wd_29 : Cond.selects RX12 yX12_plain yX12_plain ∈ lw_tbl := in_p2 (yX12_plain, _) (List.mem_of_getElem? (i := 13) rfl)
set_option maxRecDepth 20000 in
theorem wd_30 : Cond.selects RX12 yX12_begins yX12_begins ∈ lw_tbl := in_p2 (yX12_begins, _) (List.mem_of_getElem? (i := 14) rfl)
set_option maxRecDepth 20000 in
theorem wd_31 : Cond.selects RX12 yX12_many yX12_many ∈ lw_tbl := in_p2 (yX12_many, _) (List.mem_of_getElem? (i := 15) rfl)
set_option maxRecDepth 20000 in
theorem wd_32 : Cond.selects RX12 yX12_keepsRow yX12_keepsRow ∈ lw_tbl := in_p3 (yX12_keepsRow, _) (List.mem_of_getElem? (i := 0) rfl)
set_option maxRecDepth 20000 in
theorem wd_33 : Cond.selects RX12 yX12_put yX12_put ∈ lw_tbl := in_p3 (yX12_put, _) (List.mem_of_getElem? (i := 1) rfl)
set_option maxRecDepth 20000 in
theorem wd_34 : Cond.selects RX12 yX12_cutsUp yX12_cutsUp ∈ lw_tbl := in_p3 (yX12_cutsUp, _) (List.mem_of_getElem? (i := 2) rfl)
set_option maxRecDepth 20000 in
theorem wd_35 : Cond.selects RX12 yX12_byteAt yX12_byteAt ∈ lw_tbl := in_p3 (yX12_byteAt, _) (List.mem_of_getElem? (i := 3) rfl)
set_option maxRecDepth 20000 in
theorem wd_36 : Cond.selects RX12 yX12_token yX12_token ∈ lw_tbl := in_p3 (yX12_token, _) (List.mem_of_getElem? (i := 4) rfl)
set_option maxRecDepth 20000 in
theorem wd_37 : Cond.selects RX12 yX12_sign yX12_sign ∈ lw_tbl := in_p3 (yX12_sign, _) (List.mem_of_getElem? (i := 5) rfl)
set_option maxRecDepth 20000 in
theorem wd_38 : Cond.selects RX12 yX12_is yX12_is ∈ lw_tbl := in_p3 (yX12_is, _) (List.mem_of_getElem? (i := 6) rfl)
set_option maxRecDepth 20000 in
theorem wd_39 : Cond.selects RX12 yX12_tellOne yX12_tellOne ∈ lw_tbl := in_p3 (yX12_tellOne, _) (List.mem_of_getElem? (i := 7) rfl)
set_option maxRecDepth 20000 in
theorem wd_40 : Cond.selects RX12 yX12_fail yX12_fail ∈ lw_tbl := in_p3 (yX12_fail, _) (List.mem_of_getElem? (i := 8) rfl)
set_option maxRecDepth 20000 in
theorem wd_41 : Cond.selects RX12 yX12_tellHouse yX12_tellHouse ∈ lw_tbl := in_p3 (yX12_tellHouse, _) (List.mem_of_getElem? (i := 9) rfl)
set_option maxRecDepth 20000 in
theorem wd_42 : Cond.selects RX12 yX12_goesOn yX12_goesOn ∈ lw_tbl := in_p3 (yX12_goesOn, _) (List.mem_of_getElem? (i := 10) rfl)
set_option maxRecDepth 20000 in
theorem wd_43 : Cond.selects RX12 yX12_must yX12_must ∈ lw_tbl := in_p3 (yX12_must, _) (List.mem_of_getElem? (i := 11) rfl)
set_option maxRecDepth 20000 in
theorem wd_44 : Cond.selects RX12 yX12_wrong yX12_wrong ∈ lw_tbl := in_p3 (yX12_wrong, _) (List.mem_of_getElem? (i := 12) rfl)
set_option maxRecDepth 20000 in
theorem wd_45 : Cond.selects RX12 yX12_bounded yX12_bounded ∈ lw_tbl := in_p3 (yX12_bounded, _) (List.mem_of_getElem? (i := 13) rfl)
set_option maxRecDepth 20000 in
theorem wd_46 : Cond.selects RX12 yX12_toldInt yX12_toldInt ∈ lw_tbl := in_p3 (yX12_toldInt, _) (List.mem_of_getElem? (i := 14) rfl)
set_option maxRecDepth 20000 in
theorem wd_47 : Cond.selects RX12 yX12_tellLaw yX12_tellLaw ∈ lw_tbl := in_p3 (yX12_tellLaw, _) (List.mem_of_getElem? (i := 15) rfl)
set_option maxRecDepth 20000 in
theorem wd_48 : Cond.selects RX12 yX12_expression yX12_expression ∈ lw_tbl := in_p4 (yX12_expression, _) (List.mem_of_getElem? (i := 0) rfl)
set_option maxRecDepth 20000 in
theorem wd_49 : Cond.selects RX12 yX12_unit yX12_unit ∈ lw_tbl := in_p4 (yX12_unit, _) (List.mem_of_getElem? (i := 1) rfl)
set_option maxRecDepth 20000 in
theorem wd_50 : Cond.selects RX12 yX12_emit yX12_emit ∈ lw_tbl := in_p4 (yX12_emit, _) (List.mem_of_getElem? (i := 2) rfl)
set_option maxRecDepth 20000 in
theorem wd_51 : Cond.selects RX12 yX12_comesOut yX12_comesOut ∈ lw_tbl := in_p4 (yX12_comesOut, _) (List.mem_of_getElem? (i := 3) rfl)
set_option maxRecDepth 20000 in
theorem wd_52 : Cond.selects RX12 yX12_term yX12_term ∈ lw_tbl := in_p4 (yX12_term, _) (List.mem_of_getElem? (i := 4) rfl)
set_option maxRecDepth 20000 in
theorem wd_53 : Cond.selects RX12 yX12_isHouse yX12_isHouse ∈ lw_tbl := in_p4 (yX12_isHouse, _) (List.mem_of_getElem? (i := 5) rfl)
set_option maxRecDepth 20000 in
theorem wd_54 : Cond.selects RX12 yX12_copies yX12_copies ∈ lw_tbl := in_p4 (yX12_copies, _) (List.mem_of_getElem? (i := 6) rfl)
set_option maxRecDepth 20000 in
theorem wd_55 : Cond.selects RX12 yX12_panesAt yX12_panesAt ∈ lw_tbl := in_p4 (yX12_panesAt, _) (List.mem_of_getElem? (i := 7) rfl)
set_option maxRecDepth 20000 in
theorem wd_56 : Cond.selects RX12 yX12_coolsOf yX12_coolsOf ∈ lw_tbl := in_p4 (yX12_coolsOf, _) (List.mem_of_getElem? (i := 8) rfl)
set_option maxRecDepth 20000 in
theorem wd_57 : Cond.selects RX12 yX12_lawOf yX12_lawOf ∈ lw_tbl := in_p4 (yX12_lawOf, _) (List.mem_of_getElem? (i := 9) rfl)
set_option maxRecDepth 20000 in
theorem wd_58 : Cond.selects RX12 yX12_lawTells yX12_lawTells ∈ lw_tbl := in_p4 (yX12_lawTells, _) (List.mem_of_getElem? (i := 10) rfl)
set_option maxRecDepth 20000 in
theorem wd_59 : Cond.selects RX12 yX12_termOf yX12_termOf ∈ lw_tbl := in_p4 (yX12_termOf, _) (List.mem_of_getElem? (i := 11) rfl)
set_option maxRecDepth 20000 in
theorem wd_60 : Cond.selects RX12 yX12_warmsOf yX12_warmsOf ∈ lw_tbl := in_p4 (yX12_warmsOf, _) (List.mem_of_getElem? (i := 12) rfl)
set_option maxRecDepth 20000 in
theorem wd_61 : Cond.selects RX12 yX12_fadesOf yX12_fadesOf ∈ lw_tbl := in_p4 (yX12_fadesOf, _) (List.mem_of_getElem? (i := 13) rfl)
set_option maxRecDepth 20000 in
theorem wd_62 : Cond.selects RX12 yX12_mendsOf yX12_mendsOf ∈ lw_tbl := in_p4 (yX12_mendsOf, _) (List.mem_of_getElem? (i := 14) rfl)
set_option maxRecDepth 20000 in
theorem wd_63 : Cond.selects RX12 yX12_burns yX12_burns ∈ lw_tbl := in_p4 (yX12_burns, _) (List.mem_of_getElem? (i := 15) rfl)
set_option maxRecDepth 20000 in
theorem wd_64 : Cond.selects RX12 yX12_burnsOne yX12_burnsOne ∈ lw_tbl := in_p5 (yX12_burnsOne, _) (List.mem_of_getElem? (i := 0) rfl)
set_option maxRecDepth 20000 in
theorem wd_65 : Cond.selects RX12 yX12_records yX12_records ∈ lw_tbl := in_p5 (yX12_records, _) (List.mem_of_getElem? (i := 1) rfl)
set_option maxRecDepth 20000 in
theorem wd_66 : Cond.selects RX12 yX12_goes yX12_goes ∈ lw_tbl := in_p5 (yX12_goes, _) (List.mem_of_getElem? (i := 2) rfl)
set_option maxRecDepth 20000 in
theorem wd_67 : Cond.selects RX12 yX12_dayGoes yX12_dayGoes ∈ lw_tbl := in_p5 (yX12_dayGoes, _) (List.mem_of_getElem? (i := 3) rfl)
set_option maxRecDepth 20000 in
theorem wd_68 : Cond.selects RX12 yX12_chillOf yX12_chillOf ∈ lw_tbl := in_p5 (yX12_chillOf, _) (List.mem_of_getElem? (i := 4) rfl)
set_option maxRecDepth 20000 in
theorem wd_69 : Cond.selects RX12 yX12_isHail yX12_isHail ∈ lw_tbl := in_p5 (yX12_isHail, _) (List.mem_of_getElem? (i := 5) rfl)
set_option maxRecDepth 20000 in
theorem wd_70 : Cond.selects RX12 yX12_lotOf yX12_lotOf ∈ lw_tbl := in_p5 (yX12_lotOf, _) (List.mem_of_getElem? (i := 6) rfl)
set_option maxRecDepth 20000 in
theorem wd_71 : Cond.selects RX12 yX12_fillsShare yX12_fillsShare ∈ lw_tbl := in_p5 (yX12_fillsShare, _) (List.mem_of_getElem? (i := 7) rfl)
set_option maxRecDepth 20000 in
theorem wd_72 : Cond.selects RX12 yX12_fillsLoss yX12_fillsLoss ∈ lw_tbl := in_p5 (yX12_fillsLoss, _) (List.mem_of_getElem? (i := 8) rfl)
set_option maxRecDepth 20000 in
theorem wd_73 : Cond.selects RX12 yX12_lossWith yX12_lossWith ∈ lw_tbl := in_p5 (yX12_lossWith, _) (List.mem_of_getElem? (i := 9) rfl)
set_option maxRecDepth 20000 in
theorem wd_74 : Cond.selects RX12 yX12_shareFor yX12_shareFor ∈ lw_tbl := in_p5 (yX12_shareFor, _) (List.mem_of_getElem? (i := 10) rfl)
set_option maxRecDepth 20000 in
theorem wd_75 : Cond.selects RX12 yX12_needsOf yX12_needsOf ∈ lw_tbl := in_p5 (yX12_needsOf, _) (List.mem_of_getElem? (i := 11) rfl)
set_option maxRecDepth 20000 in
theorem wd_76 : Cond.selects RX12 yX12_copiesStill yX12_copiesStill ∈ lw_tbl := in_p5 (yX12_copiesStill, _) (List.mem_of_getElem? (i := 12) rfl)
set_option maxRecDepth 20000 in
theorem wd_77 : Cond.selects RX12 yX12_burnsShared yX12_burnsShared ∈ lw_tbl := in_p5 (yX12_burnsShared, _) (List.mem_of_getElem? (i := 13) rfl)
set_option maxRecDepth 20000 in
theorem wd_78 : Cond.selects RX12 yX12_keptAll yX12_keptAll ∈ lw_tbl := in_p5 (yX12_keptAll, _) (List.mem_of_getElem? (i := 14) rfl)
set_option maxRecDepth 20000 in
theorem wd_79 : Cond.selects RX12 yX12_runsOut yX12_runsOut ∈ lw_tbl := in_p5 (yX12_runsOut, _) (List.mem_of_getElem? (i := 15) rfl)
set_option maxRecDepth 20000 in
theorem wd_80 : Cond.selects RX12 yX12_needsNow yX12_needsNow ∈ lw_tbl := in_p6 (yX12_needsNow, _) (List.mem_of_getElem? (i := 0) rfl)
set_option maxRecDepth 20000 in
theorem wd_81 : Cond.selects RX12 yX12_behindNone yX12_behindNone ∈ lw_tbl := in_p6 (yX12_behindNone, _) (List.mem_of_getElem? (i := 1) rfl)
set_option maxRecDepth 20000 in
theorem wd_82 : Cond.selects RX12 yX12_savesOf yX12_savesOf ∈ lw_tbl := in_p6 (yX12_savesOf, _) (List.mem_of_getElem? (i := 2) rfl)
set_option maxRecDepth 20000 in
theorem wd_83 : Cond.selects RX12 yX12_lossOf yX12_lossOf ∈ lw_tbl := in_p6 (yX12_lossOf, _) (List.mem_of_getElem? (i := 3) rfl)
set_option maxRecDepth 20000 in
theorem wd_84 : Cond.selects RX12 yX12_farOf yX12_farOf ∈ lw_tbl := in_p6 (yX12_farOf, _) (List.mem_of_getElem? (i := 4) rfl)
set_option maxRecDepth 20000 in
theorem wd_85 : Cond.selects RX12 yX12_fillsRest yX12_fillsRest ∈ lw_tbl := in_p6 (yX12_fillsRest, _) (List.mem_of_getElem? (i := 5) rfl)
set_option maxRecDepth 20000 in
theorem wd_86 : Cond.selects RX12 yX12_restWith yX12_restWith ∈ lw_tbl := in_p6 (yX12_restWith, _) (List.mem_of_getElem? (i := 6) rfl)
set_option maxRecDepth 20000 in
theorem wd_87 : Cond.selects RX12 yX12_nearestIn yX12_nearestIn ∈ lw_tbl := in_p6 (yX12_nearestIn, _) (List.mem_of_getElem? (i := 7) rfl)
set_option maxRecDepth 20000 in
theorem wd_88 : Cond.selects RX12 yX12_unlike yX12_unlike ∈ lw_tbl := in_p6 (yX12_unlike, _) (List.mem_of_getElem? (i := 8) rfl)
set_option maxRecDepth 20000 in
theorem wd_89 : Cond.selects RX12 yX12_roofsBy yX12_roofsBy ∈ lw_tbl := in_p6 (yX12_roofsBy, _) (List.mem_of_getElem? (i := 9) rfl)
set_option maxRecDepth 20000 in
theorem wd_90 : Cond.selects RX12 yX12_fillsPaired yX12_fillsPaired ∈ lw_tbl := in_p6 (yX12_fillsPaired, _) (List.mem_of_getElem? (i := 10) rfl)
set_option maxRecDepth 20000 in
theorem wd_91 : Cond.selects RX12 yX12_pairedWith yX12_pairedWith ∈ lw_tbl := in_p6 (yX12_pairedWith, _) (List.mem_of_getElem? (i := 11) rfl)
set_option maxRecDepth 20000 in
theorem wd_92 : Cond.selects RX12 yX12_pairedOf yX12_pairedOf ∈ lw_tbl := in_p6 (yX12_pairedOf, _) (List.mem_of_getElem? (i := 12) rfl)
set_option maxRecDepth 20000 in
theorem wd_93 : Cond.selects RX12 yX12_whoseBits yX12_whoseBits ∈ lw_tbl := in_p6 (yX12_whoseBits, _) (List.mem_of_getElem? (i := 13) rfl)
set_option maxRecDepth 20000 in
theorem wd_94 : Cond.selects RX12 yX12_markOf yX12_markOf ∈ lw_tbl := in_p6 (yX12_markOf, _) (List.mem_of_getElem? (i := 14) rfl)
set_option maxRecDepth 20000 in
theorem wd_95 : Cond.selects RX12 yX12_sumNow yX12_sumNow ∈ lw_tbl := in_p6 (yX12_sumNow, _) (List.mem_of_getElem? (i := 15) rfl)
set_option maxRecDepth 20000 in
theorem wd_96 : Cond.selects RX12 yX12_noneBits yX12_noneBits ∈ lw_tbl := in_p7 (yX12_noneBits, _) (List.mem_of_getElem? (i := 0) rfl)
set_option maxRecDepth 20000 in
theorem wd_97 : Cond.initialized RL ∈ lw_tbl := in_t1 _ (List.mem_of_getElem? (i := 0) rfl)
set_option maxRecDepth 20000 in
theorem wd_98 : Cond.initialized RX11 ∈ lw_tbl := in_t1 _ (List.mem_of_getElem? (i := 1) rfl)
set_option maxRecDepth 20000 in
theorem wd_99 : Cond.initialized RX4 ∈ lw_tbl := in_t1 _ (List.mem_of_getElem? (i := 2) rfl)
set_option maxRecDepth 20000 in
theorem wd_100 : Cond.initialized RX8 ∈ lw_tbl := in_t1 _ (List.mem_of_getElem? (i := 3) rfl)
set_option maxRecDepth 20000 in
theorem wd_101 : Cond.initialized RJ0 ∈ lw_tbl := in_t1 _ (List.mem_of_getElem? (i := 4) rfl)
set_option maxRecDepth 20000 in
theorem wd_102 : Cond.initialized RJ1 ∈ lw_tbl := in_t1 _ (List.mem_of_getElem? (i := 5) rfl)
set_option maxRecDepth 20000 in
theorem wd_103 : Cond.initialized RJ3 ∈ lw_tbl := in_t1 _ (List.mem_of_getElem? (i := 6) rfl)
set_option maxRecDepth 20000 in
theorem wd_104 : Cond.initialized RJ2 ∈ lw_tbl := in_t1 _ (List.mem_of_getElem? (i := 7) rfl)
set_option maxRecDepth 20000 in
theorem wd_105 : Cond.initialized RX3 ∈ lw_tbl := in_t1 _ (List.mem_of_getElem? (i := 8) rfl)
set_option maxRecDepth 20000 in
theorem wd_106 : Cond.initialized RX1 ∈ lw_tbl := in_t1 _ (List.mem_of_getElem? (i := 9) rfl)
set_option maxRecDepth 20000 in
theorem wd_107 : Cond.initialized RX7 ∈ lw_tbl := in_t1 _ (List.mem_of_getElem? (i := 10) rfl)
set_option maxRecDepth 20000 in
theorem wd_108 : Cond.initialized RX0 ∈ lw_tbl := in_t1 _ (List.mem_of_getElem? (i := 11) rfl)
set_option maxRecDepth 20000 in
theorem wd_109 : Cond.initialized RX6 ∈ lw_tbl := in_t1 _ (List.mem_of_getElem? (i := 12) rfl)
set_option maxRecDepth 20000 in
theorem wd_110 : Cond.initialized RX10 ∈ lw_tbl := in_t1 _ (List.mem_of_getElem? (i := 13) rfl)
set_option maxRecDepth 20000 in
theorem wd_111 : Cond.initialized RX5 ∈ lw_tbl := in_t1 _ (List.mem_of_getElem? (i := 14) rfl)
set_option maxRecDepth 20000 in
theorem wd_112 : Cond.initialized RX2 ∈ lw_tbl := in_t1 _ (List.mem_of_getElem? (i := 15) rfl)
set_option maxRecDepth 20000 in
theorem wd_113 : Cond.initialized RX9 ∈ lw_tbl := in_t1 _ (List.mem_of_getElem? (i := 16) rfl)
set_option maxRecDepth 20000 in
theorem wd_114 : Cond.initialized RX12 ∈ lw_tbl := in_t1 _ (List.mem_of_getElem? (i := 17) rfl)
set_option maxRecDepth 20000 in
theorem wd_115 : Cond.initialized RJ9 ∈ lw_tbl := in_t1 _ (List.mem_of_getElem? (i := 18) rfl)
set_option maxRecDepth 20000 in
theorem wd_116 : Cond.initialized RJ11 ∈ lw_tbl := in_t1 _ (List.mem_of_getElem? (i := 19) rfl)
set_option maxRecDepth 20000 in
theorem wd_117 : Cond.initialized RJ10 ∈ lw_tbl := in_t1 _ (List.mem_of_getElem? (i := 20) rfl)
set_option maxRecDepth 20000 in
theorem wd_118 : Cond.initialized RJ6 ∈ lw_tbl := in_t1 _ (List.mem_of_getElem? (i := 21) rfl)
set_option maxRecDepth 20000 in
theorem wd_119 : Cond.classLink RL 7 RX11 ∈ lw_tbl := in_t1 _ (List.mem_of_getElem? (i := 22) rfl)
set_option maxRecDepth 20000 in
theorem wd_120 : Cond.instantiable RX11 17 ∈ lw_tbl := in_t1 _ (List.mem_of_getElem? (i := 23) rfl)
set_option maxRecDepth 20000 in
theorem wd_121 : Cond.methodLink RL 9 yX11_init ∈ lw_tbl := in_t1 _ (List.mem_of_getElem? (i := 24) rfl)
set_option maxRecDepth 20000 in
theorem wd_122 : Cond.instanceMethod yX11_init ∈ lw_tbl := in_t1 _ (List.mem_of_getElem? (i := 25) rfl)
set_option maxRecDepth 20000 in
theorem wd_123 : Cond.code yX11_init cX11_init 1 (Option.none : Option Jvm.ClassFile.FieldType) ∈ lw_tbl := in_t1 _ (List.mem_of_getElem? (i := 26) rfl)
set_option maxRecDepth 20000 in
theorem wd_124 : Cond.methodLink RX11 1 objectInit ∈ lw_tbl := in_t1 _ (List.mem_of_getElem? (i := 27) rfl)
set_option maxRecDepth 20000 in
theorem wd_125 : Cond.instanceMethod objectInit ∈ lw_tbl := in_t1 _ (List.mem_of_getElem? (i := 28) rfl)
set_option maxRecDepth 20000 in
theorem wd_126 : Cond.code objectInit object_method_1_code 1 (Option.none : Option Jvm.ClassFile.FieldType) ∈ lw_tbl := in_t1 _ (List.mem_of_getElem? (i := 29) rfl)
set_option maxRecDepth 20000 in
theorem wd_127 : Cond.classLink RX11 13 RX4 ∈ lw_tbl := in_t1 _ (List.mem_of_getElem? (i := 30) rfl)
set_option maxRecDepth 20000 in
theorem wd_128 : Cond.instantiable RX4 6 ∈ lw_tbl := in_t1 _ (List.mem_of_getElem? (i := 31) rfl)
set_option maxRecDepth 20000 in
theorem wd_129 : Cond.methodLink RX11 15 yX4_init ∈ lw_tbl := in_t1 _ (List.mem_of_getElem? (i := 32) rfl)
set_option maxRecDepth 20000 in
theorem wd_130 : Cond.instanceMethod yX4_init ∈ lw_tbl := in_t1 _ (List.mem_of_getElem? (i := 33) rfl)
set_option maxRecDepth 20000 in
theorem wd_131 : Cond.code yX4_init cX4_init 1 (Option.none : Option Jvm.ClassFile.FieldType) ∈ lw_tbl := in_t1 _ (List.mem_of_getElem? (i := 34) rfl)
set_option maxRecDepth 20000 in
theorem wd_132 : Cond.methodLink RX4 3 objectInit ∈ lw_tbl := in_t1 _ (List.mem_of_getElem? (i := 35) rfl)
set_option maxRecDepth 20000 in
theorem wd_133 : Cond.classLink RX4 9 RX8 ∈ lw_tbl := in_t1 _ (List.mem_of_getElem? (i := 36) rfl)
set_option maxRecDepth 20000 in
theorem wd_134 : Cond.instantiable RX8 5 ∈ lw_tbl := in_t1 _ (List.mem_of_getElem? (i := 37) rfl)
set_option maxRecDepth 20000 in
theorem wd_135 : Cond.methodLink RX4 11 yX8_init ∈ lw_tbl := in_t1 _ (List.mem_of_getElem? (i := 38) rfl)
set_option maxRecDepth 20000 in
theorem wd_136 : Cond.instanceMethod yX8_init ∈ lw_tbl := in_t1 _ (List.mem_of_getElem? (i := 39) rfl)
set_option maxRecDepth 20000 in
theorem wd_137 : Cond.code yX8_init cX8_init 3 (Option.none : Option Jvm.ClassFile.FieldType) ∈ lw_tbl := in_t1 _ (List.mem_of_getElem? (i := 40) rfl)
set_option maxRecDepth 20000 in
theorem wd_138 : Cond.methodLink RX8 3 objectInit ∈ lw_tbl := in_t1 _ (List.mem_of_getElem? (i := 41) rfl)
set_option maxRecDepth 20000 in
theorem wd_140 : Cond.methodLink RX8 17 yJ0_length_8abf5 ∈ lw_tbl := in_t1 _ (List.mem_of_getElem? (i := 43) rfl)
set_option maxRecDepth 20000 in
theorem wd_141 : Cond.instanceMethod yJ0_length_8abf5 ∈ lw_tbl := in_t1 _ (List.mem_of_getElem? (i := 44) rfl)
set_option maxRecDepth 20000 in
theorem wd_142 : Cond.selects RJ0 yJ0_length_8abf5 yJ0_length_8abf5 ∈ lw_tbl := in_t1 _ (List.mem_of_getElem? (i := 45) rfl)
set_option maxRecDepth 20000 in
theorem wd_143 : Cond.code yJ0_length_8abf5 cJ0_length_8abf5 1 (Option.some Jvm.ClassFile.FieldType.int) ∈ lw_tbl := in_t1 _ (List.mem_of_getElem? (i := 46) rfl)
set_option maxRecDepth 20000 in
theorem wd_144 : Cond.methodLink RJ0 335 yJ0_coder_7d493 ∈ lw_tbl := in_t1 _ (List.mem_of_getElem? (i := 47) rfl)
set_option maxRecDepth 20000 in
theorem wd_145 : Cond.instanceMethod yJ0_coder_7d493 ∈ lw_tbl := in_t1 _ (List.mem_of_getElem? (i := 48) rfl)
set_option maxRecDepth 20000 in
theorem wd_146 : Cond.selects RJ0 yJ0_coder_7d493 yJ0_coder_7d493 ∈ lw_tbl := in_t1 _ (List.mem_of_getElem? (i := 49) rfl)
set_option maxRecDepth 20000 in
theorem wd_147 : Cond.code yJ0_coder_7d493 cJ0_coder_7d493 1 (Option.some Jvm.ClassFile.FieldType.byte) ∈ lw_tbl := in_t1 _ (List.mem_of_getElem? (i := 50) rfl)
set_option maxRecDepth 20000 in
theorem wd_148 : Cond.fieldLink RJ0 38 "java/lang/String" "COMPACT_STRINGS" "Z" ∈ lw_tbl := in_t1 _ (List.mem_of_getElem? (i := 51) rfl)
set_option maxRecDepth 20000 in
theorem wd_150 : Cond.methodLink RX8 23 yJ0_charAt_5068e ∈ lw_tbl := in_t1 _ (List.mem_of_getElem? (i := 53) rfl)
set_option maxRecDepth 20000 in
theorem wd_151 : Cond.instanceMethod yJ0_charAt_5068e ∈ lw_tbl := in_t1 _ (List.mem_of_getElem? (i := 54) rfl)
set_option maxRecDepth 20000 in
theorem wd_152 : Cond.selects RJ0 yJ0_charAt_5068e yJ0_charAt_5068e ∈ lw_tbl := in_t1 _ (List.mem_of_getElem? (i := 55) rfl)
set_option maxRecDepth 20000 in
theorem wd_153 : Cond.code yJ0_charAt_5068e cJ0_charAt_5068e 2 (Option.some Jvm.ClassFile.FieldType.char) ∈ lw_tbl := in_t1 _ (List.mem_of_getElem? (i := 56) rfl)
set_option maxRecDepth 20000 in
theorem wd_154 : Cond.methodLink RJ0 492 yJ0_isLatin1_aae02 ∈ lw_tbl := in_t1 _ (List.mem_of_getElem? (i := 57) rfl)
set_option maxRecDepth 20000 in
theorem wd_155 : Cond.instanceMethod yJ0_isLatin1_aae02 ∈ lw_tbl := in_t1 _ (List.mem_of_getElem? (i := 58) rfl)
set_option maxRecDepth 20000 in
theorem wd_156 : Cond.selects RJ0 yJ0_isLatin1_aae02 yJ0_isLatin1_aae02 ∈ lw_tbl := in_t1 _ (List.mem_of_getElem? (i := 59) rfl)
set_option maxRecDepth 20000 in
theorem wd_157 : Cond.code yJ0_isLatin1_aae02 cJ0_isLatin1_aae02 1 (Option.some Jvm.ClassFile.FieldType.boolean) ∈ lw_tbl := in_t1 _ (List.mem_of_getElem? (i := 60) rfl)
set_option maxRecDepth 20000 in
theorem wd_158 : Cond.methodLink RJ0 495 yJ1_charAt_3b067 ∈ lw_tbl := in_t1 _ (List.mem_of_getElem? (i := 61) rfl)
set_option maxRecDepth 20000 in
theorem wd_159 : Cond.static yJ1_charAt_3b067 ∈ lw_tbl := in_t1 _ (List.mem_of_getElem? (i := 62) rfl)
set_option maxRecDepth 20000 in
theorem wd_160 : Cond.code yJ1_charAt_3b067 cJ1_charAt_3b067 2 (Option.some Jvm.ClassFile.FieldType.char) ∈ lw_tbl := in_t1 _ (List.mem_of_getElem? (i := 63) rfl)
set_option maxRecDepth 20000 in
theorem wd_161 : Cond.methodLink RJ1 9 yJ0_checkIndex_df160 ∈ lw_tbl := in_t1 _ (List.mem_of_getElem? (i := 64) rfl)
set_option maxRecDepth 20000 in
theorem wd_162 : Cond.static yJ0_checkIndex_df160 ∈ lw_tbl := in_t1 _ (List.mem_of_getElem? (i := 65) rfl)
set_option maxRecDepth 20000 in
theorem wd_163 : Cond.code yJ0_checkIndex_df160 cJ0_checkIndex_df160 2 (Option.none : Option Jvm.ClassFile.FieldType) ∈ lw_tbl := in_t1 _ (List.mem_of_getElem? (i := 66) rfl)
set_option maxRecDepth 20000 in
theorem wd_164 : Cond.fieldLink RJ0 1053 "jdk/internal/util/Preconditions" "SIOOBE_FORMATTER" "Ljava/util/function/BiFunction;" ∈ lw_tbl := in_t1 _ (List.mem_of_getElem? (i := 67) rfl)
set_option maxRecDepth 20000 in
theorem wd_166 : Cond.methodLink RJ0 1059 yJ3_checkIndex_8e157 ∈ lw_tbl := in_t1 _ (List.mem_of_getElem? (i := 69) rfl)
set_option maxRecDepth 20000 in
theorem wd_167 : Cond.static yJ3_checkIndex_8e157 ∈ lw_tbl := in_t1 _ (List.mem_of_getElem? (i := 70) rfl)
set_option maxRecDepth 20000 in
theorem wd_168 : Cond.code yJ3_checkIndex_8e157 cJ3_checkIndex_8e157 3 (Option.some Jvm.ClassFile.FieldType.int) ∈ lw_tbl := in_t1 _ (List.mem_of_getElem? (i := 71) rfl)
set_option maxRecDepth 20000 in
theorem wd_169 : Cond.methodLink RJ0 498 yJ2_charAt_3b067 ∈ lw_tbl := in_t1 _ (List.mem_of_getElem? (i := 72) rfl)
set_option maxRecDepth 20000 in
theorem wd_170 : Cond.static yJ2_charAt_3b067 ∈ lw_tbl := in_t1 _ (List.mem_of_getElem? (i := 73) rfl)
set_option maxRecDepth 20000 in
theorem wd_171 : Cond.code yJ2_charAt_3b067 cJ2_charAt_3b067 2 (Option.some Jvm.ClassFile.FieldType.char) ∈ lw_tbl := in_t1 _ (List.mem_of_getElem? (i := 74) rfl)
set_option maxRecDepth 20000 in
theorem wd_172 : Cond.methodLink RJ2 67 yJ2_checkIndex_2214a ∈ lw_tbl := in_t1 _ (List.mem_of_getElem? (i := 75) rfl)
set_option maxRecDepth 20000 in
theorem wd_173 : Cond.static yJ2_checkIndex_2214a ∈ lw_tbl := in_t1 _ (List.mem_of_getElem? (i := 76) rfl)
set_option maxRecDepth 20000 in
theorem wd_174 : Cond.code yJ2_checkIndex_2214a cJ2_checkIndex_2214a 2 (Option.none : Option Jvm.ClassFile.FieldType) ∈ lw_tbl := in_t1 _ (List.mem_of_getElem? (i := 77) rfl)
set_option maxRecDepth 20000 in
theorem wd_175 : Cond.methodLink RJ2 48 yJ2_length_9d52b ∈ lw_tbl := in_t1 _ (List.mem_of_getElem? (i := 78) rfl)
set_option maxRecDepth 20000 in
theorem wd_176 : Cond.static yJ2_length_9d52b ∈ lw_tbl := in_t1 _ (List.mem_of_getElem? (i := 79) rfl)
set_option maxRecDepth 20000 in
theorem wd_177 : Cond.code yJ2_length_9d52b cJ2_length_9d52b 1 (Option.some Jvm.ClassFile.FieldType.int) ∈ lw_tbl := in_t1 _ (List.mem_of_getElem? (i := 80) rfl)
set_option maxRecDepth 20000 in
theorem wd_178 : Cond.methodLink RJ2 414 yJ0_checkIndex_df160 ∈ lw_tbl := in_t1 _ (List.mem_of_getElem? (i := 81) rfl)
set_option maxRecDepth 20000 in
theorem wd_179 : Cond.methodLink RJ2 71 yJ2_getChar_3b067 ∈ lw_tbl := in_t1 _ (List.mem_of_getElem? (i := 82) rfl)
set_option maxRecDepth 20000 in
theorem wd_180 : Cond.static yJ2_getChar_3b067 ∈ lw_tbl := in_t1 _ (List.mem_of_getElem? (i := 83) rfl)
set_option maxRecDepth 20000 in
theorem wd_181 : Cond.code yJ2_getChar_3b067 cJ2_getChar_3b067 2 (Option.some Jvm.ClassFile.FieldType.char) ∈ lw_tbl := in_t1 _ (List.mem_of_getElem? (i := 84) rfl)
set_option maxRecDepth 20000 in
theorem wd_182 : Cond.fieldLink RJ2 44 "java/lang/StringUTF16" "$assertionsDisabled" "Z" ∈ lw_tbl := in_t1 _ (List.mem_of_getElem? (i := 85) rfl)
set_option maxRecDepth 20000 in
theorem wd_184 : Cond.fieldLink RJ2 59 "java/lang/StringUTF16" "HI_BYTE_SHIFT" "I" ∈ lw_tbl := in_t1 _ (List.mem_of_getElem? (i := 87) rfl)
set_option maxRecDepth 20000 in
theorem wd_186 : Cond.fieldLink RJ2 63 "java/lang/StringUTF16" "LO_BYTE_SHIFT" "I" ∈ lw_tbl := in_t1 _ (List.mem_of_getElem? (i := 89) rfl)
set_option maxRecDepth 20000 in
theorem wd_188 : Cond.constantLong RX8 27 (27 : Int64) ∈ lw_tbl := in_t1 _ (List.mem_of_getElem? (i := 91) rfl)
set_option maxRecDepth 20000 in
theorem wd_189 : Cond.fieldLink RX8 11 "SummerHouses$Tokens" "words" "[J" ∈ lw_tbl := in_t1 _ (List.mem_of_getElem? (i := 92) rfl)
set_option maxRecDepth 20000 in
theorem wd_190 : Cond.fieldLink RX8 29 "SummerHouses$Tokens" "kinds" "[I" ∈ lw_tbl := in_t1 _ (List.mem_of_getElem? (i := 93) rfl)
set_option maxRecDepth 20000 in
theorem wd_191 : Cond.fieldLink RX4 46 "SummerHouses$Tokens" "kinds" "[I" ∈ lw_tbl := in_t1 _ (List.mem_of_getElem? (i := 94) rfl)
set_option maxRecDepth 20000 in
theorem wd_192 : Cond.fieldLink RX8 33 "SummerHouses$Tokens" "values" "[J" ∈ lw_tbl := in_t1 _ (List.mem_of_getElem? (i := 95) rfl)
set_option maxRecDepth 20000 in
theorem wd_193 : Cond.fieldLink RX4 73 "SummerHouses$Tokens" "values" "[J" ∈ lw_tbl := in_t1 _ (List.mem_of_getElem? (i := 96) rfl)
set_option maxRecDepth 20000 in
theorem wd_194 : Cond.fieldLink RX8 36 "SummerHouses$Tokens" "places" "[I" ∈ lw_tbl := in_t1 _ (List.mem_of_getElem? (i := 97) rfl)
set_option maxRecDepth 20000 in
theorem wd_195 : Cond.fieldLink RX4 138 "SummerHouses$Tokens" "places" "[I" ∈ lw_tbl := in_t1 _ (List.mem_of_getElem? (i := 98) rfl)
set_option maxRecDepth 20000 in
theorem wd_196 : Cond.fieldLink RX8 39 "SummerHouses$Tokens" "size" "I" ∈ lw_tbl := in_t1 _ (List.mem_of_getElem? (i := 99) rfl)
set_option maxRecDepth 20000 in
theorem wd_208 : Cond.arrayClass Jvm.ClassFile.FieldType.byte ∈ lw_tbl := in_t1 _ (List.mem_of_getElem? (i := 111) rfl)
set_option maxRecDepth 20000 in
theorem wd_209 : Cond.arrayClass Jvm.ClassFile.FieldType.long ∈ lw_tbl := in_t1 _ (List.mem_of_getElem? (i := 112) rfl)
set_option maxRecDepth 20000 in
theorem wd_210 : Cond.arrayClass Jvm.ClassFile.FieldType.int ∈ lw_tbl := in_t1 _ (List.mem_of_getElem? (i := 113) rfl)
set_option maxRecDepth 20000 in
theorem wd_211 : Cond.classLink RX4 18 RX3 ∈ lw_tbl := in_t1 _ (List.mem_of_getElem? (i := 114) rfl)
set_option maxRecDepth 20000 in
theorem wd_212 : Cond.instantiable RX3 7 ∈ lw_tbl := in_t1 _ (List.mem_of_getElem? (i := 115) rfl)
set_option maxRecDepth 20000 in
theorem wd_213 : Cond.methodLink RX4 20 yX3_init ∈ lw_tbl := in_t1 _ (List.mem_of_getElem? (i := 116) rfl)
set_option maxRecDepth 20000 in
theorem wd_214 : Cond.instanceMethod yX3_init ∈ lw_tbl := in_t1 _ (List.mem_of_getElem? (i := 117) rfl)
set_option maxRecDepth 20000 in
theorem wd_215 : Cond.code yX3_init cX3_init 1 (Option.none : Option Jvm.ClassFile.FieldType) ∈ lw_tbl := in_t1 _ (List.mem_of_getElem? (i := 118) rfl)
set_option maxRecDepth 20000 in
theorem wd_216 : Cond.methodLink RX3 3 objectInit ∈ lw_tbl := in_t1 _ (List.mem_of_getElem? (i := 119) rfl)
set_option maxRecDepth 20000 in
theorem wd_217 : Cond.classLink RX3 15 RX1 ∈ lw_tbl := in_t1 _ (List.mem_of_getElem? (i := 120) rfl)
set_option maxRecDepth 20000 in
theorem wd_218 : Cond.instantiable RX1 5 ∈ lw_tbl := in_t1 _ (List.mem_of_getElem? (i := 121) rfl)
set_option maxRecDepth 20000 in
theorem wd_219 : Cond.methodLink RX3 17 yX1_init ∈ lw_tbl := in_t1 _ (List.mem_of_getElem? (i := 122) rfl)
set_option maxRecDepth 20000 in
theorem wd_220 : Cond.instanceMethod yX1_init ∈ lw_tbl := in_t1 _ (List.mem_of_getElem? (i := 123) rfl)
set_option maxRecDepth 20000 in
theorem wd_221 : Cond.code yX1_init cX1_init 1 (Option.none : Option Jvm.ClassFile.FieldType) ∈ lw_tbl := in_t1 _ (List.mem_of_getElem? (i := 124) rfl)
set_option maxRecDepth 20000 in
theorem wd_222 : Cond.methodLink RX1 3 objectInit ∈ lw_tbl := in_t1 _ (List.mem_of_getElem? (i := 125) rfl)
set_option maxRecDepth 20000 in
theorem wd_223 : Cond.methodLink RX1 24 yX1_setUntold ∈ lw_tbl := in_t1 _ (List.mem_of_getElem? (i := 126) rfl)
set_option maxRecDepth 20000 in
theorem wd_224 : Cond.instanceMethod yX1_setUntold ∈ lw_tbl := in_t1 _ (List.mem_of_getElem? (i := 127) rfl)
set_option maxRecDepth 20000 in
theorem wd_225 : Cond.selects RX1 yX1_setUntold yX1_setUntold ∈ lw_tbl := in_t1 _ (List.mem_of_getElem? (i := 128) rfl)
set_option maxRecDepth 20000 in
theorem wd_226 : Cond.code yX1_setUntold cX1_setUntold 1 (Option.none : Option Jvm.ClassFile.FieldType) ∈ lw_tbl := in_t1 _ (List.mem_of_getElem? (i := 129) rfl)
set_option maxRecDepth 20000 in
theorem wd_227 : Cond.methodLink RX1 31 yX1_begin ∈ lw_tbl := in_t1 _ (List.mem_of_getElem? (i := 130) rfl)
set_option maxRecDepth 20000 in
theorem wd_228 : Cond.instanceMethod yX1_begin ∈ lw_tbl := in_t1 _ (List.mem_of_getElem? (i := 131) rfl)
set_option maxRecDepth 20000 in
theorem wd_229 : Cond.selects RX1 yX1_begin yX1_begin ∈ lw_tbl := in_t1 _ (List.mem_of_getElem? (i := 132) rfl)
set_option maxRecDepth 20000 in
theorem wd_230 : Cond.code yX1_begin cX1_begin 2 (Option.none : Option Jvm.ClassFile.FieldType) ∈ lw_tbl := in_t1 _ (List.mem_of_getElem? (i := 133) rfl)
set_option maxRecDepth 20000 in
theorem wd_231 : Cond.methodLink RX1 37 yX1_append ∈ lw_tbl := in_t1 _ (List.mem_of_getElem? (i := 134) rfl)
set_option maxRecDepth 20000 in
theorem wd_232 : Cond.instanceMethod yX1_append ∈ lw_tbl := in_t1 _ (List.mem_of_getElem? (i := 135) rfl)
set_option maxRecDepth 20000 in
theorem wd_233 : Cond.selects RX1 yX1_append yX1_append ∈ lw_tbl := in_t1 _ (List.mem_of_getElem? (i := 136) rfl)
set_option maxRecDepth 20000 in
theorem wd_234 : Cond.code yX1_append cX1_append 3 (Option.none : Option Jvm.ClassFile.FieldType) ∈ lw_tbl := in_t1 _ (List.mem_of_getElem? (i := 137) rfl)
set_option maxRecDepth 20000 in
theorem wd_235 : Cond.fieldLink RX1 11 "SummerHouses$Laws" "steps" "[I" ∈ lw_tbl := in_t1 _ (List.mem_of_getElem? (i := 138) rfl)
set_option maxRecDepth 20000 in
theorem wd_236 : Cond.fieldLink RX1 15 "SummerHouses$Laws" "operands" "[I" ∈ lw_tbl := in_t1 _ (List.mem_of_getElem? (i := 139) rfl)
set_option maxRecDepth 20000 in
theorem wd_237 : Cond.fieldLink RX1 18 "SummerHouses$Laws" "starts" "[I" ∈ lw_tbl := in_t1 _ (List.mem_of_getElem? (i := 140) rfl)
set_option maxRecDepth 20000 in
theorem wd_238 : Cond.fieldLink RX1 21 "SummerHouses$Laws" "stack" "[I" ∈ lw_tbl := in_t1 _ (List.mem_of_getElem? (i := 141) rfl)
set_option maxRecDepth 20000 in
theorem wd_239 : Cond.fieldLink RX1 27 "SummerHouses$Laws" "size" "I" ∈ lw_tbl := in_t1 _ (List.mem_of_getElem? (i := 142) rfl)
set_option maxRecDepth 20000 in
theorem wd_240 : Cond.fieldLink RX4 122 "SummerHouses$Laws" "size" "I" ∈ lw_tbl := in_t1 _ (List.mem_of_getElem? (i := 143) rfl)
set_option maxRecDepth 20000 in
theorem wd_252 : Cond.methodLink RX3 22 yX3_setUntold ∈ lw_tbl := in_t1 _ (List.mem_of_getElem? (i := 155) rfl)
set_option maxRecDepth 20000 in
theorem wd_253 : Cond.instanceMethod yX3_setUntold ∈ lw_tbl := in_t1 _ (List.mem_of_getElem? (i := 156) rfl)
set_option maxRecDepth 20000 in
theorem wd_254 : Cond.selects RX3 yX3_setUntold yX3_setUntold ∈ lw_tbl := in_t1 _ (List.mem_of_getElem? (i := 157) rfl)
set_option maxRecDepth 20000 in
theorem wd_255 : Cond.code yX3_setUntold cX3_setUntold 1 (Option.none : Option Jvm.ClassFile.FieldType) ∈ lw_tbl := in_t1 _ (List.mem_of_getElem? (i := 158) rfl)
set_option maxRecDepth 20000 in
theorem wd_256 : Cond.methodLink RX3 25 yX1_setUntold ∈ lw_tbl := in_t1 _ (List.mem_of_getElem? (i := 159) rfl)
set_option maxRecDepth 20000 in
theorem wd_257 : Cond.fieldLink RX3 11 "SummerHouses$Quarter" "numbers" "[I" ∈ lw_tbl := in_t1 _ (List.mem_of_getElem? (i := 160) rfl)
set_option maxRecDepth 20000 in
theorem wd_258 : Cond.fieldLink RX3 18 "SummerHouses$Quarter" "laws" "LSummerHouses$Laws;" ∈ lw_tbl := in_t1 _ (List.mem_of_getElem? (i := 161) rfl)
set_option maxRecDepth 20000 in
theorem wd_259 : Cond.fieldLink RX4 110 "SummerHouses$Quarter" "laws" "LSummerHouses$Laws;" ∈ lw_tbl := in_t1 _ (List.mem_of_getElem? (i := 162) rfl)
set_option maxRecDepth 20000 in
theorem wd_260 : Cond.fieldLink RX5 18 "SummerHouses$Quarter" "houses" "I" ∈ lw_tbl := in_t1 _ (List.mem_of_getElem? (i := 163) rfl)
set_option maxRecDepth 20000 in
theorem wd_261 : Cond.fieldLink RX3 26 "SummerHouses$Quarter" "houses" "I" ∈ lw_tbl := in_t1 _ (List.mem_of_getElem? (i := 164) rfl)
set_option maxRecDepth 20000 in
theorem wd_262 : Cond.fieldLink RX6 40 "SummerHouses$Quarter" "houses" "I" ∈ lw_tbl := in_t1 _ (List.mem_of_getElem? (i := 165) rfl)
set_option maxRecDepth 20000 in
theorem wd_263 : Cond.fieldLink RX10 27 "SummerHouses$Quarter" "houses" "I" ∈ lw_tbl := in_t1 _ (List.mem_of_getElem? (i := 166) rfl)
set_option maxRecDepth 20000 in
theorem wd_264 : Cond.fieldLink RX4 70 "SummerHouses$Quarter" "houses" "I" ∈ lw_tbl := in_t1 _ (List.mem_of_getElem? (i := 167) rfl)
set_option maxRecDepth 20000 in
theorem wd_265 : Cond.fieldLink RX11 158 "SummerHouses$Quarter" "houses" "I" ∈ lw_tbl := in_t1 _ (List.mem_of_getElem? (i := 168) rfl)
set_option maxRecDepth 20000 in
theorem wd_266 : Cond.fieldLink RX11 34 "SummerHouses$Quarter" "coals" "I" ∈ lw_tbl := in_t1 _ (List.mem_of_getElem? (i := 169) rfl)
set_option maxRecDepth 20000 in
theorem wd_267 : Cond.fieldLink RX3 30 "SummerHouses$Quarter" "coals" "I" ∈ lw_tbl := in_t1 _ (List.mem_of_getElem? (i := 170) rfl)
set_option maxRecDepth 20000 in
theorem wd_268 : Cond.fieldLink RX4 92 "SummerHouses$Quarter" "coals" "I" ∈ lw_tbl := in_t1 _ (List.mem_of_getElem? (i := 171) rfl)
set_option maxRecDepth 20000 in
theorem wd_269 : Cond.fieldLink RX5 30 "SummerHouses$Quarter" "roof" "I" ∈ lw_tbl := in_t1 _ (List.mem_of_getElem? (i := 172) rfl)
set_option maxRecDepth 20000 in
theorem wd_270 : Cond.fieldLink RX3 33 "SummerHouses$Quarter" "roof" "I" ∈ lw_tbl := in_t1 _ (List.mem_of_getElem? (i := 173) rfl)
set_option maxRecDepth 20000 in
theorem wd_271 : Cond.fieldLink RX4 95 "SummerHouses$Quarter" "roof" "I" ∈ lw_tbl := in_t1 _ (List.mem_of_getElem? (i := 174) rfl)
set_option maxRecDepth 20000 in
theorem wd_272 : Cond.fieldLink RX11 194 "SummerHouses$Quarter" "roof" "I" ∈ lw_tbl := in_t1 _ (List.mem_of_getElem? (i := 175) rfl)
set_option maxRecDepth 20000 in
theorem wd_273 : Cond.fieldLink RX3 36 "SummerHouses$Quarter" "hail" "I" ∈ lw_tbl := in_t1 _ (List.mem_of_getElem? (i := 176) rfl)
set_option maxRecDepth 20000 in
theorem wd_274 : Cond.fieldLink RX4 98 "SummerHouses$Quarter" "hail" "I" ∈ lw_tbl := in_t1 _ (List.mem_of_getElem? (i := 177) rfl)
set_option maxRecDepth 20000 in
theorem wd_275 : Cond.fieldLink RX3 39 "SummerHouses$Quarter" "seed" "I" ∈ lw_tbl := in_t1 _ (List.mem_of_getElem? (i := 178) rfl)
set_option maxRecDepth 20000 in
theorem wd_276 : Cond.fieldLink RX4 101 "SummerHouses$Quarter" "seed" "I" ∈ lw_tbl := in_t1 _ (List.mem_of_getElem? (i := 179) rfl)
set_option maxRecDepth 20000 in
theorem wd_277 : Cond.fieldLink RX11 178 "SummerHouses$Quarter" "seed" "I" ∈ lw_tbl := in_t1 _ (List.mem_of_getElem? (i := 180) rfl)
set_option maxRecDepth 20000 in
theorem wd_293 : Cond.fieldLink RX4 12 "SummerHouses$Reader" "tokens" "LSummerHouses$Tokens;" ∈ lw_tbl := in_t1 _ (List.mem_of_getElem? (i := 196) rfl)
set_option maxRecDepth 20000 in
theorem wd_294 : Cond.fieldLink RX4 21 "SummerHouses$Reader" "draft" "LSummerHouses$Quarter;" ∈ lw_tbl := in_t1 _ (List.mem_of_getElem? (i := 197) rfl)
set_option maxRecDepth 20000 in
theorem wd_295 : Cond.fieldLink RX11 113 "SummerHouses$Reader" "draft" "LSummerHouses$Quarter;" ∈ lw_tbl := in_t1 _ (List.mem_of_getElem? (i := 198) rfl)
set_option maxRecDepth 20000 in
theorem wd_296 : Cond.fieldLink RX4 25 "SummerHouses$Reader" "names" "[J" ∈ lw_tbl := in_t1 _ (List.mem_of_getElem? (i := 199) rfl)
set_option maxRecDepth 20000 in
theorem wd_297 : Cond.fieldLink RX4 36 "SummerHouses$Reader" "at" "I" ∈ lw_tbl := in_t1 _ (List.mem_of_getElem? (i := 200) rfl)
set_option maxRecDepth 20000 in
theorem wd_298 : Cond.fieldLink RX4 40 "SummerHouses$Reader" "fault" "I" ∈ lw_tbl := in_t1 _ (List.mem_of_getElem? (i := 201) rfl)
set_option maxRecDepth 20000 in
theorem wd_299 : Cond.fieldLink RX4 43 "SummerHouses$Reader" "faultPlace" "I" ∈ lw_tbl := in_t1 _ (List.mem_of_getElem? (i := 202) rfl)
set_option maxRecDepth 20000 in
theorem wd_300 : Cond.fieldLink RX11 112 "SummerHouses$Reader" "faultPlace" "I" ∈ lw_tbl := in_t1 _ (List.mem_of_getElem? (i := 203) rfl)
set_option maxRecDepth 20000 in
theorem wd_314 : Cond.classLink RX11 20 RX3 ∈ lw_tbl := in_t1 _ (List.mem_of_getElem? (i := 217) rfl)
set_option maxRecDepth 20000 in
theorem wd_315 : Cond.methodLink RX11 22 yX3_init ∈ lw_tbl := in_t1 _ (List.mem_of_getElem? (i := 218) rfl)
set_option maxRecDepth 20000 in
theorem wd_316 : Cond.classLink RX11 27 RX7 ∈ lw_tbl := in_t1 _ (List.mem_of_getElem? (i := 219) rfl)
set_option maxRecDepth 20000 in
theorem wd_317 : Cond.instantiable RX7 5 ∈ lw_tbl := in_t1 _ (List.mem_of_getElem? (i := 220) rfl)
set_option maxRecDepth 20000 in
theorem wd_318 : Cond.methodLink RX11 29 yX7_init ∈ lw_tbl := in_t1 _ (List.mem_of_getElem? (i := 221) rfl)
set_option maxRecDepth 20000 in
theorem wd_319 : Cond.instanceMethod yX7_init ∈ lw_tbl := in_t1 _ (List.mem_of_getElem? (i := 222) rfl)
set_option maxRecDepth 20000 in
theorem wd_320 : Cond.code yX7_init cX7_init 1 (Option.none : Option Jvm.ClassFile.FieldType) ∈ lw_tbl := in_t1 _ (List.mem_of_getElem? (i := 223) rfl)
set_option maxRecDepth 20000 in
theorem wd_321 : Cond.methodLink RX7 3 objectInit ∈ lw_tbl := in_t1 _ (List.mem_of_getElem? (i := 224) rfl)
set_option maxRecDepth 20000 in
theorem wd_322 : Cond.fieldLink RX7 11 "SummerHouses$State" "cells" "[I" ∈ lw_tbl := in_t1 _ (List.mem_of_getElem? (i := 225) rfl)
set_option maxRecDepth 20000 in
theorem wd_323 : Cond.fieldLink RX7 21 "SummerHouses$State" "day" "I" ∈ lw_tbl := in_t1 _ (List.mem_of_getElem? (i := 226) rfl)
set_option maxRecDepth 20000 in
theorem wd_324 : Cond.fieldLink RX3 62 "SummerHouses$State" "day" "I" ∈ lw_tbl := in_t1 _ (List.mem_of_getElem? (i := 227) rfl)
set_option maxRecDepth 20000 in
theorem wd_325 : Cond.fieldLink RX6 64 "SummerHouses$State" "day" "I" ∈ lw_tbl := in_t1 _ (List.mem_of_getElem? (i := 228) rfl)
set_option maxRecDepth 20000 in
theorem wd_326 : Cond.fieldLink RX1 47 "SummerHouses$State" "day" "I" ∈ lw_tbl := in_t1 _ (List.mem_of_getElem? (i := 229) rfl)
set_option maxRecDepth 20000 in
theorem wd_327 : Cond.fieldLink RX11 161 "SummerHouses$State" "day" "I" ∈ lw_tbl := in_t1 _ (List.mem_of_getElem? (i := 230) rfl)
set_option maxRecDepth 20000 in
theorem wd_328 : Cond.fieldLink RX11 38 "SummerHouses$State" "coals" "I" ∈ lw_tbl := in_t1 _ (List.mem_of_getElem? (i := 231) rfl)
set_option maxRecDepth 20000 in
theorem wd_329 : Cond.fieldLink RX7 25 "SummerHouses$State" "coals" "I" ∈ lw_tbl := in_t1 _ (List.mem_of_getElem? (i := 232) rfl)
set_option maxRecDepth 20000 in
theorem wd_330 : Cond.fieldLink RX3 65 "SummerHouses$State" "coals" "I" ∈ lw_tbl := in_t1 _ (List.mem_of_getElem? (i := 233) rfl)
set_option maxRecDepth 20000 in
theorem wd_331 : Cond.fieldLink RX7 28 "SummerHouses$State" "burntSoFar" "I" ∈ lw_tbl := in_t1 _ (List.mem_of_getElem? (i := 234) rfl)
set_option maxRecDepth 20000 in
theorem wd_332 : Cond.fieldLink RX3 66 "SummerHouses$State" "burntSoFar" "I" ∈ lw_tbl := in_t1 _ (List.mem_of_getElem? (i := 235) rfl)
set_option maxRecDepth 20000 in
theorem wd_333 : Cond.fieldLink RX11 188 "SummerHouses$State" "burntSoFar" "I" ∈ lw_tbl := in_t1 _ (List.mem_of_getElem? (i := 236) rfl)
set_option maxRecDepth 20000 in
theorem wd_334 : Cond.fieldLink RX7 31 "SummerHouses$State" "cuttings" "I" ∈ lw_tbl := in_t1 _ (List.mem_of_getElem? (i := 237) rfl)
set_option maxRecDepth 20000 in
theorem wd_335 : Cond.fieldLink RX3 69 "SummerHouses$State" "cuttings" "I" ∈ lw_tbl := in_t1 _ (List.mem_of_getElem? (i := 238) rfl)
set_option maxRecDepth 20000 in
theorem wd_336 : Cond.fieldLink RX11 191 "SummerHouses$State" "cuttings" "I" ∈ lw_tbl := in_t1 _ (List.mem_of_getElem? (i := 239) rfl)
set_option maxRecDepth 20000 in
theorem wd_348 : Cond.classLink RX11 45 RX0 ∈ lw_tbl := in_t2 _ (List.mem_of_getElem? (i := 11) rfl)
set_option maxRecDepth 20000 in
theorem wd_349 : Cond.instantiable RX0 5 ∈ lw_tbl := in_t2 _ (List.mem_of_getElem? (i := 12) rfl)
set_option maxRecDepth 20000 in
theorem wd_350 : Cond.methodLink RX11 47 yX0_init ∈ lw_tbl := in_t2 _ (List.mem_of_getElem? (i := 13) rfl)
set_option maxRecDepth 20000 in
theorem wd_351 : Cond.instanceMethod yX0_init ∈ lw_tbl := in_t2 _ (List.mem_of_getElem? (i := 14) rfl)
set_option maxRecDepth 20000 in
theorem wd_352 : Cond.code yX0_init cX0_init 2 (Option.none : Option Jvm.ClassFile.FieldType) ∈ lw_tbl := in_t2 _ (List.mem_of_getElem? (i := 15) rfl)
set_option maxRecDepth 20000 in
theorem wd_353 : Cond.methodLink RX0 1 objectInit ∈ lw_tbl := in_t2 _ (List.mem_of_getElem? (i := 16) rfl)
set_option maxRecDepth 20000 in
theorem wd_354 : Cond.classLink RX0 9 RX7 ∈ lw_tbl := in_t2 _ (List.mem_of_getElem? (i := 17) rfl)
set_option maxRecDepth 20000 in
theorem wd_355 : Cond.arrayOver (Jvm.ClassFile.FieldType.object "SummerHouses$State") ∈ lw_tbl := in_t2 _ (List.mem_of_getElem? (i := 18) rfl)
set_option maxRecDepth 20000 in
theorem wd_356 : Cond.methodLink RX0 15 yX7_init ∈ lw_tbl := in_t2 _ (List.mem_of_getElem? (i := 19) rfl)
set_option maxRecDepth 20000 in
theorem wd_357 : Cond.fieldLink RX0 11 "SummerHouses$History" "past" "[LSummerHouses$State;" ∈ lw_tbl := in_t2 _ (List.mem_of_getElem? (i := 20) rfl)
set_option maxRecDepth 20000 in
theorem wd_358 : Cond.fieldLink RX0 16 "SummerHouses$History" "slots" "[LSummerHouses$State;" ∈ lw_tbl := in_t2 _ (List.mem_of_getElem? (i := 21) rfl)
set_option maxRecDepth 20000 in
theorem wd_359 : Cond.fieldLink RX0 19 "SummerHouses$History" "held" "[Z" ∈ lw_tbl := in_t2 _ (List.mem_of_getElem? (i := 22) rfl)
set_option maxRecDepth 20000 in
theorem wd_360 : Cond.fieldLink RX0 23 "SummerHouses$History" "newest" "I" ∈ lw_tbl := in_t2 _ (List.mem_of_getElem? (i := 23) rfl)
set_option maxRecDepth 20000 in
theorem wd_361 : Cond.fieldLink RX0 31 "SummerHouses$History" "undoable" "I" ∈ lw_tbl := in_t2 _ (List.mem_of_getElem? (i := 24) rfl)
set_option maxRecDepth 20000 in
theorem wd_362 : Cond.fieldLink RX11 171 "SummerHouses$History" "undoable" "I" ∈ lw_tbl := in_t2 _ (List.mem_of_getElem? (i := 25) rfl)
set_option maxRecDepth 20000 in
theorem wd_374 : Cond.arrayClass Jvm.ClassFile.FieldType.boolean ∈ lw_tbl := in_t2 _ (List.mem_of_getElem? (i := 37) rfl)
set_option maxRecDepth 20000 in
theorem wd_375 : Cond.classLink RX11 52 RX6 ∈ lw_tbl := in_t2 _ (List.mem_of_getElem? (i := 38) rfl)
set_option maxRecDepth 20000 in
theorem wd_376 : Cond.instantiable RX6 6 ∈ lw_tbl := in_t2 _ (List.mem_of_getElem? (i := 39) rfl)
set_option maxRecDepth 20000 in
theorem wd_377 : Cond.methodLink RX11 54 yX6_init ∈ lw_tbl := in_t2 _ (List.mem_of_getElem? (i := 40) rfl)
set_option maxRecDepth 20000 in
theorem wd_378 : Cond.instanceMethod yX6_init ∈ lw_tbl := in_t2 _ (List.mem_of_getElem? (i := 41) rfl)
set_option maxRecDepth 20000 in
theorem wd_379 : Cond.code yX6_init cX6_init 2 (Option.none : Option Jvm.ClassFile.FieldType) ∈ lw_tbl := in_t2 _ (List.mem_of_getElem? (i := 42) rfl)
set_option maxRecDepth 20000 in
theorem wd_380 : Cond.methodLink RX6 3 objectInit ∈ lw_tbl := in_t2 _ (List.mem_of_getElem? (i := 43) rfl)
set_option maxRecDepth 20000 in
theorem wd_381 : Cond.classLink RX6 15 RX7 ∈ lw_tbl := in_t2 _ (List.mem_of_getElem? (i := 44) rfl)
set_option maxRecDepth 20000 in
theorem wd_382 : Cond.methodLink RX6 17 yX7_init ∈ lw_tbl := in_t2 _ (List.mem_of_getElem? (i := 45) rfl)
set_option maxRecDepth 20000 in
theorem wd_383 : Cond.classLink RX6 22 "[[I" ∈ lw_tbl := in_t2 _ (List.mem_of_getElem? (i := 46) rfl)
set_option maxRecDepth 20000 in
theorem wd_384 : Cond.arrayOver (Jvm.ClassFile.FieldType.array Jvm.ClassFile.FieldType.int) ∈ lw_tbl := in_t2 _ (List.mem_of_getElem? (i := 47) rfl)
set_option maxRecDepth 20000 in
theorem wd_385 : Cond.fieldLink RX6 9 "SummerHouses$Shares" "most" "I" ∈ lw_tbl := in_t2 _ (List.mem_of_getElem? (i := 48) rfl)
set_option maxRecDepth 20000 in
theorem wd_386 : Cond.fieldLink RX6 18 "SummerHouses$Shares" "trial" "LSummerHouses$State;" ∈ lw_tbl := in_t2 _ (List.mem_of_getElem? (i := 49) rfl)
set_option maxRecDepth 20000 in
theorem wd_387 : Cond.fieldLink RX6 24 "SummerHouses$Shares" "losses" "[[I" ∈ lw_tbl := in_t2 _ (List.mem_of_getElem? (i := 50) rfl)
set_option maxRecDepth 20000 in
theorem wd_388 : Cond.fieldLink RX6 27 "SummerHouses$Shares" "least" "[[I" ∈ lw_tbl := in_t2 _ (List.mem_of_getElem? (i := 51) rfl)
set_option maxRecDepth 20000 in
theorem wd_389 : Cond.fieldLink RX6 30 "SummerHouses$Shares" "given" "[I" ∈ lw_tbl := in_t2 _ (List.mem_of_getElem? (i := 52) rfl)
set_option maxRecDepth 20000 in
theorem wd_390 : Cond.fieldLink RX6 45 "SummerHouses$Shares" "houses" "I" ∈ lw_tbl := in_t2 _ (List.mem_of_getElem? (i := 53) rfl)
set_option maxRecDepth 20000 in
theorem wd_404 : Cond.classLink RX11 67 RX10 ∈ lw_tbl := in_t2 _ (List.mem_of_getElem? (i := 67) rfl)
set_option maxRecDepth 20000 in
theorem wd_405 : Cond.instantiable RX10 3 ∈ lw_tbl := in_t2 _ (List.mem_of_getElem? (i := 68) rfl)
set_option maxRecDepth 20000 in
theorem wd_406 : Cond.methodLink RX11 69 yX10_init ∈ lw_tbl := in_t2 _ (List.mem_of_getElem? (i := 69) rfl)
set_option maxRecDepth 20000 in
theorem wd_407 : Cond.instanceMethod yX10_init ∈ lw_tbl := in_t2 _ (List.mem_of_getElem? (i := 70) rfl)
set_option maxRecDepth 20000 in
theorem wd_408 : Cond.code yX10_init cX10_init 1 (Option.none : Option Jvm.ClassFile.FieldType) ∈ lw_tbl := in_t2 _ (List.mem_of_getElem? (i := 71) rfl)
set_option maxRecDepth 20000 in
theorem wd_409 : Cond.methodLink RX10 3 objectInit ∈ lw_tbl := in_t2 _ (List.mem_of_getElem? (i := 72) rfl)
set_option maxRecDepth 20000 in
theorem wd_410 : Cond.fieldLink RX10 9 "SummerHouses$Way" "going" "[I" ∈ lw_tbl := in_t2 _ (List.mem_of_getElem? (i := 73) rfl)
set_option maxRecDepth 20000 in
theorem wd_411 : Cond.fieldLink RX10 15 "SummerHouses$Way" "best" "[I" ∈ lw_tbl := in_t2 _ (List.mem_of_getElem? (i := 74) rfl)
set_option maxRecDepth 20000 in
theorem wd_412 : Cond.fieldLink RX11 294 "SummerHouses$Way" "best" "[I" ∈ lw_tbl := in_t2 _ (List.mem_of_getElem? (i := 75) rfl)
set_option maxRecDepth 20000 in
theorem wd_413 : Cond.fieldLink RX10 19 "SummerHouses$Way" "shortest" "I" ∈ lw_tbl := in_t2 _ (List.mem_of_getElem? (i := 76) rfl)
set_option maxRecDepth 20000 in
theorem wd_414 : Cond.fieldLink RX11 291 "SummerHouses$Way" "shortest" "I" ∈ lw_tbl := in_t2 _ (List.mem_of_getElem? (i := 77) rfl)
set_option maxRecDepth 20000 in
theorem wd_422 : Cond.classLink RX11 74 RX5 ∈ lw_tbl := in_t2 _ (List.mem_of_getElem? (i := 85) rfl)
set_option maxRecDepth 20000 in
theorem wd_423 : Cond.instantiable RX5 2 ∈ lw_tbl := in_t2 _ (List.mem_of_getElem? (i := 86) rfl)
set_option maxRecDepth 20000 in
theorem wd_424 : Cond.methodLink RX11 76 yX5_init ∈ lw_tbl := in_t2 _ (List.mem_of_getElem? (i := 87) rfl)
set_option maxRecDepth 20000 in
theorem wd_425 : Cond.instanceMethod yX5_init ∈ lw_tbl := in_t2 _ (List.mem_of_getElem? (i := 88) rfl)
set_option maxRecDepth 20000 in
theorem wd_426 : Cond.code yX5_init cX5_init 1 (Option.none : Option Jvm.ClassFile.FieldType) ∈ lw_tbl := in_t2 _ (List.mem_of_getElem? (i := 89) rfl)
set_option maxRecDepth 20000 in
theorem wd_427 : Cond.methodLink RX5 3 objectInit ∈ lw_tbl := in_t2 _ (List.mem_of_getElem? (i := 90) rfl)
set_option maxRecDepth 20000 in
theorem wd_428 : Cond.fieldLink RX5 9 "SummerHouses$Roofs" "over" "[I" ∈ lw_tbl := in_t2 _ (List.mem_of_getElem? (i := 91) rfl)
set_option maxRecDepth 20000 in
theorem wd_429 : Cond.fieldLink RX11 310 "SummerHouses$Roofs" "over" "[I" ∈ lw_tbl := in_t2 _ (List.mem_of_getElem? (i := 92) rfl)
set_option maxRecDepth 20000 in
theorem wd_430 : Cond.fieldLink RX5 15 "SummerHouses$Roofs" "panes" "[I" ∈ lw_tbl := in_t2 _ (List.mem_of_getElem? (i := 93) rfl)
set_option maxRecDepth 20000 in
theorem wd_436 : Cond.classLink RX11 81 RX2 ∈ lw_tbl := in_t2 _ (List.mem_of_getElem? (i := 99) rfl)
set_option maxRecDepth 20000 in
theorem wd_437 : Cond.instantiable RX2 3 ∈ lw_tbl := in_t2 _ (List.mem_of_getElem? (i := 100) rfl)
set_option maxRecDepth 20000 in
theorem wd_438 : Cond.methodLink RX11 83 yX2_init ∈ lw_tbl := in_t2 _ (List.mem_of_getElem? (i := 101) rfl)
set_option maxRecDepth 20000 in
theorem wd_439 : Cond.instanceMethod yX2_init ∈ lw_tbl := in_t2 _ (List.mem_of_getElem? (i := 102) rfl)
set_option maxRecDepth 20000 in
theorem wd_440 : Cond.code yX2_init cX2_init 1 (Option.none : Option Jvm.ClassFile.FieldType) ∈ lw_tbl := in_t2 _ (List.mem_of_getElem? (i := 103) rfl)
set_option maxRecDepth 20000 in
theorem wd_441 : Cond.methodLink RX2 3 objectInit ∈ lw_tbl := in_t2 _ (List.mem_of_getElem? (i := 104) rfl)
set_option maxRecDepth 20000 in
theorem wd_442 : Cond.fieldLink RX2 9 "SummerHouses$Pairs" "with" "[I" ∈ lw_tbl := in_t2 _ (List.mem_of_getElem? (i := 105) rfl)
set_option maxRecDepth 20000 in
theorem wd_443 : Cond.fieldLink RX2 15 "SummerHouses$Pairs" "best" "[I" ∈ lw_tbl := in_t2 _ (List.mem_of_getElem? (i := 106) rfl)
set_option maxRecDepth 20000 in
theorem wd_444 : Cond.fieldLink RX11 318 "SummerHouses$Pairs" "best" "[I" ∈ lw_tbl := in_t2 _ (List.mem_of_getElem? (i := 107) rfl)
set_option maxRecDepth 20000 in
theorem wd_445 : Cond.fieldLink RX2 19 "SummerHouses$Pairs" "least" "I" ∈ lw_tbl := in_t2 _ (List.mem_of_getElem? (i := 108) rfl)
set_option maxRecDepth 20000 in
theorem wd_446 : Cond.fieldLink RX11 315 "SummerHouses$Pairs" "least" "I" ∈ lw_tbl := in_t2 _ (List.mem_of_getElem? (i := 109) rfl)
set_option maxRecDepth 20000 in
theorem wd_454 : Cond.classLink RX11 88 RX9 ∈ lw_tbl := in_t2 _ (List.mem_of_getElem? (i := 117) rfl)
set_option maxRecDepth 20000 in
theorem wd_455 : Cond.instantiable RX9 4 ∈ lw_tbl := in_t2 _ (List.mem_of_getElem? (i := 118) rfl)
set_option maxRecDepth 20000 in
theorem wd_456 : Cond.methodLink RX11 90 yX9_init ∈ lw_tbl := in_t2 _ (List.mem_of_getElem? (i := 119) rfl)
set_option maxRecDepth 20000 in
theorem wd_457 : Cond.instanceMethod yX9_init ∈ lw_tbl := in_t2 _ (List.mem_of_getElem? (i := 120) rfl)
set_option maxRecDepth 20000 in
theorem wd_458 : Cond.code yX9_init cX9_init 1 (Option.none : Option Jvm.ClassFile.FieldType) ∈ lw_tbl := in_t2 _ (List.mem_of_getElem? (i := 121) rfl)
set_option maxRecDepth 20000 in
theorem wd_459 : Cond.methodLink RX9 3 objectInit ∈ lw_tbl := in_t2 _ (List.mem_of_getElem? (i := 122) rfl)
set_option maxRecDepth 20000 in
theorem wd_460 : Cond.fieldLink RX9 11 "SummerHouses$Told" "marks" "[I" ∈ lw_tbl := in_t2 _ (List.mem_of_getElem? (i := 123) rfl)
set_option maxRecDepth 20000 in
theorem wd_461 : Cond.fieldLink RX9 15 "SummerHouses$Told" "values" "[I" ∈ lw_tbl := in_t2 _ (List.mem_of_getElem? (i := 124) rfl)
set_option maxRecDepth 20000 in
theorem wd_462 : Cond.fieldLink RX9 18 "SummerHouses$Told" "so" "[Z" ∈ lw_tbl := in_t2 _ (List.mem_of_getElem? (i := 125) rfl)
set_option maxRecDepth 20000 in
theorem wd_463 : Cond.fieldLink RX9 22 "SummerHouses$Told" "size" "I" ∈ lw_tbl := in_t2 _ (List.mem_of_getElem? (i := 126) rfl)
set_option maxRecDepth 20000 in
theorem wd_464 : Cond.fieldLink RX11 127 "SummerHouses$Told" "size" "I" ∈ lw_tbl := in_t2 _ (List.mem_of_getElem? (i := 127) rfl)
set_option maxRecDepth 20000 in
theorem wd_474 : Cond.fieldLink RX11 9 "SummerHouses" "tape" "[B" ∈ lw_tbl := in_t2 _ (List.mem_of_getElem? (i := 137) rfl)
set_option maxRecDepth 20000 in
theorem wd_475 : Cond.fieldLink RX11 16 "SummerHouses" "reader" "LSummerHouses$Reader;" ∈ lw_tbl := in_t2 _ (List.mem_of_getElem? (i := 138) rfl)
set_option maxRecDepth 20000 in
theorem wd_476 : Cond.fieldLink RX11 23 "SummerHouses" "quarter" "LSummerHouses$Quarter;" ∈ lw_tbl := in_t2 _ (List.mem_of_getElem? (i := 139) rfl)
set_option maxRecDepth 20000 in
theorem wd_477 : Cond.fieldLink RX11 30 "SummerHouses" "now" "LSummerHouses$State;" ∈ lw_tbl := in_t2 _ (List.mem_of_getElem? (i := 140) rfl)
set_option maxRecDepth 20000 in
theorem wd_478 : Cond.fieldLink RX11 39 "SummerHouses" "ahead" "LSummerHouses$State;" ∈ lw_tbl := in_t2 _ (List.mem_of_getElem? (i := 141) rfl)
set_option maxRecDepth 20000 in
theorem wd_479 : Cond.fieldLink RX11 42 "SummerHouses" "further" "LSummerHouses$State;" ∈ lw_tbl := in_t2 _ (List.mem_of_getElem? (i := 142) rfl)
set_option maxRecDepth 20000 in
theorem wd_480 : Cond.fieldLink RX11 48 "SummerHouses" "history" "LSummerHouses$History;" ∈ lw_tbl := in_t2 _ (List.mem_of_getElem? (i := 143) rfl)
set_option maxRecDepth 20000 in
theorem wd_481 : Cond.fieldLink RX11 57 "SummerHouses" "today" "LSummerHouses$Shares;" ∈ lw_tbl := in_t2 _ (List.mem_of_getElem? (i := 144) rfl)
set_option maxRecDepth 20000 in
theorem wd_482 : Cond.fieldLink RX11 61 "SummerHouses" "tomorrow" "LSummerHouses$Shares;" ∈ lw_tbl := in_t2 _ (List.mem_of_getElem? (i := 145) rfl)
set_option maxRecDepth 20000 in
theorem wd_483 : Cond.fieldLink RX11 64 "SummerHouses" "lastDay" "LSummerHouses$Shares;" ∈ lw_tbl := in_t2 _ (List.mem_of_getElem? (i := 146) rfl)
set_option maxRecDepth 20000 in
theorem wd_484 : Cond.fieldLink RX11 70 "SummerHouses" "way" "LSummerHouses$Way;" ∈ lw_tbl := in_t2 _ (List.mem_of_getElem? (i := 147) rfl)
set_option maxRecDepth 20000 in
theorem wd_485 : Cond.fieldLink RX11 77 "SummerHouses" "cover" "LSummerHouses$Roofs;" ∈ lw_tbl := in_t2 _ (List.mem_of_getElem? (i := 148) rfl)
set_option maxRecDepth 20000 in
theorem wd_486 : Cond.fieldLink RX11 84 "SummerHouses" "pairs" "LSummerHouses$Pairs;" ∈ lw_tbl := in_t2 _ (List.mem_of_getElem? (i := 149) rfl)
set_option maxRecDepth 20000 in
theorem wd_487 : Cond.fieldLink RX11 91 "SummerHouses" "told" "LSummerHouses$Told;" ∈ lw_tbl := in_t2 _ (List.mem_of_getElem? (i := 150) rfl)
set_option maxRecDepth 20000 in
theorem wd_488 : Cond.fieldLink RX11 95 "SummerHouses" "planned" "[I" ∈ lw_tbl := in_t2 _ (List.mem_of_getElem? (i := 151) rfl)
set_option maxRecDepth 20000 in
theorem wd_489 : Cond.fieldLink RX11 99 "SummerHouses" "tapeSize" "I" ∈ lw_tbl := in_t2 _ (List.mem_of_getElem? (i := 152) rfl)
set_option maxRecDepth 20000 in
theorem wd_490 : Cond.fieldLink RX11 102 "SummerHouses" "faultPlace" "I" ∈ lw_tbl := in_t2 _ (List.mem_of_getElem? (i := 153) rfl)
set_option maxRecDepth 20000 in
theorem wd_526 : Cond.methodLink RL 13 yX11_feed ∈ lw_tbl := in_t2 _ (List.mem_of_getElem? (i := 189) rfl)
set_option maxRecDepth 20000 in
theorem wd_527 : Cond.instanceMethod yX11_feed ∈ lw_tbl := in_t2 _ (List.mem_of_getElem? (i := 190) rfl)
set_option maxRecDepth 20000 in
theorem wd_528 : Cond.selects RX11 yX11_feed yX11_feed ∈ lw_tbl := in_t2 _ (List.mem_of_getElem? (i := 191) rfl)
set_option maxRecDepth 20000 in
theorem wd_529 : Cond.code yX11_feed cX11_feed 6 (Option.some Jvm.ClassFile.FieldType.int) ∈ lw_tbl := in_t2 _ (List.mem_of_getElem? (i := 192) rfl)
set_option maxRecDepth 20000 in
theorem wd_530 : Cond.methodLink RX11 105 yX11_putWord ∈ lw_tbl := in_t2 _ (List.mem_of_getElem? (i := 193) rfl)
set_option maxRecDepth 20000 in
theorem wd_532 : Cond.instanceMethod yX11_putWord ∈ lw_tbl := in_t2 _ (List.mem_of_getElem? (i := 195) rfl)
set_option maxRecDepth 20000 in
theorem wd_533 : Cond.code yX11_putWord cX11_putWord 3 (Option.none : Option Jvm.ClassFile.FieldType) ∈ lw_tbl := in_t2 _ (List.mem_of_getElem? (i := 196) rfl)
set_option maxRecDepth 20000 in
theorem wd_534 : Cond.methodLink RL 18 yX11_back ∈ lw_tbl := in_t2 _ (List.mem_of_getElem? (i := 197) rfl)
set_option maxRecDepth 20000 in
theorem wd_535 : Cond.instanceMethod yX11_back ∈ lw_tbl := in_t2 _ (List.mem_of_getElem? (i := 198) rfl)
set_option maxRecDepth 20000 in
theorem wd_536 : Cond.selects RX11 yX11_back yX11_back ∈ lw_tbl := in_t2 _ (List.mem_of_getElem? (i := 199) rfl)
set_option maxRecDepth 20000 in
theorem wd_537 : Cond.code yX11_back cX11_back 2 (Option.some Jvm.ClassFile.FieldType.int) ∈ lw_tbl := in_t2 _ (List.mem_of_getElem? (i := 200) rfl)
set_option maxRecDepth 20000 in
theorem wd_538 : Cond.methodLink RL 23 yX11_read ∈ lw_tbl := in_t2 _ (List.mem_of_getElem? (i := 201) rfl)
set_option maxRecDepth 20000 in
theorem wd_539 : Cond.instanceMethod yX11_read ∈ lw_tbl := in_t2 _ (List.mem_of_getElem? (i := 202) rfl)
set_option maxRecDepth 20000 in
theorem wd_540 : Cond.selects RX11 yX11_read yX11_read ∈ lw_tbl := in_t2 _ (List.mem_of_getElem? (i := 203) rfl)
set_option maxRecDepth 20000 in
theorem wd_541 : Cond.code yX11_read cX11_read 2 (Option.some Jvm.ClassFile.FieldType.int) ∈ lw_tbl := in_t2 _ (List.mem_of_getElem? (i := 204) rfl)
set_option maxRecDepth 20000 in
theorem wd_542 : Cond.methodLink RX11 108 yX4_readText ∈ lw_tbl := in_t2 _ (List.mem_of_getElem? (i := 205) rfl)
set_option maxRecDepth 20000 in
theorem wd_543 : Cond.instanceMethod yX4_readText ∈ lw_tbl := in_t2 _ (List.mem_of_getElem? (i := 206) rfl)
set_option maxRecDepth 20000 in
theorem wd_544 : Cond.selects RX4 yX4_readText yX4_readText ∈ lw_tbl := in_t2 _ (List.mem_of_getElem? (i := 207) rfl)
set_option maxRecDepth 20000 in
theorem wd_545 : Cond.code yX4_readText cX4_readText 5 (Option.some Jvm.ClassFile.FieldType.int) ∈ lw_tbl := in_t2 _ (List.mem_of_getElem? (i := 208) rfl)
set_option maxRecDepth 20000 in
theorem wd_546 : Cond.methodLink RX4 29 yX8_split ∈ lw_tbl := in_t2 _ (List.mem_of_getElem? (i := 209) rfl)
set_option maxRecDepth 20000 in
theorem wd_547 : Cond.instanceMethod yX8_split ∈ lw_tbl := in_t2 _ (List.mem_of_getElem? (i := 210) rfl)
set_option maxRecDepth 20000 in
theorem wd_548 : Cond.selects RX8 yX8_split yX8_split ∈ lw_tbl := in_t2 _ (List.mem_of_getElem? (i := 211) rfl)
set_option maxRecDepth 20000 in
theorem wd_549 : Cond.code yX8_split cX8_split 6 (Option.none : Option Jvm.ClassFile.FieldType) ∈ lw_tbl := in_t2 _ (List.mem_of_getElem? (i := 212) rfl)
set_option maxRecDepth 20000 in
theorem wd_550 : Cond.methodLink RX8 43 yX8_endOfBlanks ∈ lw_tbl := in_t2 _ (List.mem_of_getElem? (i := 213) rfl)
set_option maxRecDepth 20000 in
theorem wd_551 : Cond.static yX8_endOfBlanks ∈ lw_tbl := in_t2 _ (List.mem_of_getElem? (i := 214) rfl)
set_option maxRecDepth 20000 in
theorem wd_552 : Cond.code yX8_endOfBlanks cX8_endOfBlanks 4 (Option.some Jvm.ClassFile.FieldType.int) ∈ lw_tbl := in_t2 _ (List.mem_of_getElem? (i := 215) rfl)
set_option maxRecDepth 20000 in
theorem wd_553 : Cond.methodLink RX8 54 yX8_isBlank ∈ lw_tbl := in_t2 _ (List.mem_of_getElem? (i := 216) rfl)
set_option maxRecDepth 20000 in
theorem wd_554 : Cond.static yX8_isBlank ∈ lw_tbl := in_t2 _ (List.mem_of_getElem? (i := 217) rfl)
set_option maxRecDepth 20000 in
theorem wd_555 : Cond.code yX8_isBlank cX8_isBlank 1 (Option.some Jvm.ClassFile.FieldType.boolean) ∈ lw_tbl := in_t2 _ (List.mem_of_getElem? (i := 218) rfl)
set_option maxRecDepth 20000 in
theorem wd_556 : Cond.methodLink RX8 47 yX8_endOfRun ∈ lw_tbl := in_t2 _ (List.mem_of_getElem? (i := 219) rfl)
set_option maxRecDepth 20000 in
theorem wd_557 : Cond.static yX8_endOfRun ∈ lw_tbl := in_t2 _ (List.mem_of_getElem? (i := 220) rfl)
set_option maxRecDepth 20000 in
theorem wd_558 : Cond.code yX8_endOfRun cX8_endOfRun 4 (Option.some Jvm.ClassFile.FieldType.int) ∈ lw_tbl := in_t2 _ (List.mem_of_getElem? (i := 221) rfl)
set_option maxRecDepth 20000 in
theorem wd_559 : Cond.methodLink RX8 58 yX8_isLetter ∈ lw_tbl := in_t2 _ (List.mem_of_getElem? (i := 222) rfl)
set_option maxRecDepth 20000 in
theorem wd_560 : Cond.static yX8_isLetter ∈ lw_tbl := in_t2 _ (List.mem_of_getElem? (i := 223) rfl)
set_option maxRecDepth 20000 in
theorem wd_561 : Cond.code yX8_isLetter cX8_isLetter 1 (Option.some Jvm.ClassFile.FieldType.boolean) ∈ lw_tbl := in_t2 _ (List.mem_of_getElem? (i := 224) rfl)
set_option maxRecDepth 20000 in
theorem wd_562 : Cond.methodLink RX8 61 yX8_isDigit ∈ lw_tbl := in_t2 _ (List.mem_of_getElem? (i := 225) rfl)
set_option maxRecDepth 20000 in
theorem wd_563 : Cond.static yX8_isDigit ∈ lw_tbl := in_t2 _ (List.mem_of_getElem? (i := 226) rfl)
set_option maxRecDepth 20000 in
theorem wd_564 : Cond.code yX8_isDigit cX8_isDigit 1 (Option.some Jvm.ClassFile.FieldType.boolean) ∈ lw_tbl := in_t2 _ (List.mem_of_getElem? (i := 227) rfl)
set_option maxRecDepth 20000 in
theorem wd_565 : Cond.methodLink RX8 50 yX8_putToken ∈ lw_tbl := in_t2 _ (List.mem_of_getElem? (i := 228) rfl)
set_option maxRecDepth 20000 in
theorem wd_567 : Cond.instanceMethod yX8_putToken ∈ lw_tbl := in_t2 _ (List.mem_of_getElem? (i := 230) rfl)
set_option maxRecDepth 20000 in
theorem wd_568 : Cond.code yX8_putToken cX8_putToken 4 (Option.none : Option Jvm.ClassFile.FieldType) ∈ lw_tbl := in_t2 _ (List.mem_of_getElem? (i := 231) rfl)
set_option maxRecDepth 20000 in
theorem wd_569 : Cond.methodLink RX8 64 yX8_nameOf ∈ lw_tbl := in_t2 _ (List.mem_of_getElem? (i := 232) rfl)
set_option maxRecDepth 20000 in
theorem wd_570 : Cond.static yX8_nameOf ∈ lw_tbl := in_t2 _ (List.mem_of_getElem? (i := 233) rfl)
set_option maxRecDepth 20000 in
theorem wd_571 : Cond.code yX8_nameOf cX8_nameOf 6 (Option.some Jvm.ClassFile.FieldType.long) ∈ lw_tbl := in_t2 _ (List.mem_of_getElem? (i := 234) rfl)
set_option maxRecDepth 20000 in
theorem wd_572 : Cond.methodLink RX8 68 yX8_kindOfName ∈ lw_tbl := in_t2 _ (List.mem_of_getElem? (i := 235) rfl)
set_option maxRecDepth 20000 in
theorem wd_574 : Cond.instanceMethod yX8_kindOfName ∈ lw_tbl := in_t2 _ (List.mem_of_getElem? (i := 237) rfl)
set_option maxRecDepth 20000 in
theorem wd_575 : Cond.code yX8_kindOfName cX8_kindOfName 4 (Option.some Jvm.ClassFile.FieldType.int) ∈ lw_tbl := in_t2 _ (List.mem_of_getElem? (i := 238) rfl)
set_option maxRecDepth 20000 in
theorem wd_576 : Cond.methodLink RX8 72 yX8_numberOf ∈ lw_tbl := in_t2 _ (List.mem_of_getElem? (i := 239) rfl)
set_option maxRecDepth 20000 in
theorem wd_577 : Cond.static yX8_numberOf ∈ lw_tbl := in_t3 _ (List.mem_of_getElem? (i := 0) rfl)
set_option maxRecDepth 20000 in
theorem wd_578 : Cond.code yX8_numberOf cX8_numberOf 6 (Option.some Jvm.ClassFile.FieldType.long) ∈ lw_tbl := in_t3 _ (List.mem_of_getElem? (i := 1) rfl)
set_option maxRecDepth 20000 in
theorem wd_579 : Cond.constantLong RX8 81 (10 : Int64) ∈ lw_tbl := in_t3 _ (List.mem_of_getElem? (i := 2) rfl)
set_option maxRecDepth 20000 in
theorem wd_581 : Cond.methodLink RX8 77 yJ0_indexOf_0f7a4 ∈ lw_tbl := in_t3 _ (List.mem_of_getElem? (i := 4) rfl)
set_option maxRecDepth 20000 in
theorem wd_582 : Cond.instanceMethod yJ0_indexOf_0f7a4 ∈ lw_tbl := in_t3 _ (List.mem_of_getElem? (i := 5) rfl)
set_option maxRecDepth 20000 in
theorem wd_583 : Cond.selects RJ0 yJ0_indexOf_0f7a4 yJ0_indexOf_0f7a4 ∈ lw_tbl := in_t3 _ (List.mem_of_getElem? (i := 6) rfl)
set_option maxRecDepth 20000 in
theorem wd_584 : Cond.code yJ0_indexOf_0f7a4 cJ0_indexOf_0f7a4 2 (Option.some Jvm.ClassFile.FieldType.int) ∈ lw_tbl := in_t3 _ (List.mem_of_getElem? (i := 7) rfl)
set_option maxRecDepth 20000 in
theorem wd_585 : Cond.methodLink RJ0 633 yJ0_indexOf_7cf53 ∈ lw_tbl := in_t3 _ (List.mem_of_getElem? (i := 8) rfl)
set_option maxRecDepth 20000 in
theorem wd_586 : Cond.instanceMethod yJ0_indexOf_7cf53 ∈ lw_tbl := in_t3 _ (List.mem_of_getElem? (i := 9) rfl)
set_option maxRecDepth 20000 in
theorem wd_587 : Cond.selects RJ0 yJ0_indexOf_7cf53 yJ0_indexOf_7cf53 ∈ lw_tbl := in_t3 _ (List.mem_of_getElem? (i := 10) rfl)
set_option maxRecDepth 20000 in
theorem wd_588 : Cond.code yJ0_indexOf_7cf53 cJ0_indexOf_7cf53 3 (Option.some Jvm.ClassFile.FieldType.int) ∈ lw_tbl := in_t3 _ (List.mem_of_getElem? (i := 11) rfl)
set_option maxRecDepth 20000 in
theorem wd_589 : Cond.methodLink RJ0 505 yJ0_length_8abf5 ∈ lw_tbl := in_t3 _ (List.mem_of_getElem? (i := 12) rfl)
set_option maxRecDepth 20000 in
theorem wd_590 : Cond.methodLink RJ0 637 yJ1_indexOf_4cfef ∈ lw_tbl := in_t3 _ (List.mem_of_getElem? (i := 13) rfl)
set_option maxRecDepth 20000 in
theorem wd_591 : Cond.static yJ1_indexOf_4cfef ∈ lw_tbl := in_t3 _ (List.mem_of_getElem? (i := 14) rfl)
set_option maxRecDepth 20000 in
theorem wd_592 : Cond.code yJ1_indexOf_4cfef cJ1_indexOf_4cfef 4 (Option.some Jvm.ClassFile.FieldType.int) ∈ lw_tbl := in_t3 _ (List.mem_of_getElem? (i := 15) rfl)
set_option maxRecDepth 20000 in
theorem wd_593 : Cond.methodLink RJ1 88 yJ1_canEncode_9a6ad ∈ lw_tbl := in_t3 _ (List.mem_of_getElem? (i := 16) rfl)
set_option maxRecDepth 20000 in
theorem wd_594 : Cond.static yJ1_canEncode_9a6ad ∈ lw_tbl := in_t3 _ (List.mem_of_getElem? (i := 17) rfl)
set_option maxRecDepth 20000 in
theorem wd_595 : Cond.code yJ1_canEncode_9a6ad cJ1_canEncode_9a6ad 1 (Option.some Jvm.ClassFile.FieldType.boolean) ∈ lw_tbl := in_t3 _ (List.mem_of_getElem? (i := 18) rfl)
set_option maxRecDepth 20000 in
theorem wd_596 : Cond.methodLink RJ1 92 yJ9_max_7cf53 ∈ lw_tbl := in_t3 _ (List.mem_of_getElem? (i := 19) rfl)
set_option maxRecDepth 20000 in
theorem wd_597 : Cond.static yJ9_max_7cf53 ∈ lw_tbl := in_t3 _ (List.mem_of_getElem? (i := 20) rfl)
set_option maxRecDepth 20000 in
theorem wd_598 : Cond.code yJ9_max_7cf53 cJ9_max_7cf53 2 (Option.some Jvm.ClassFile.FieldType.int) ∈ lw_tbl := in_t3 _ (List.mem_of_getElem? (i := 21) rfl)
set_option maxRecDepth 20000 in
theorem wd_599 : Cond.methodLink RJ1 38 yJ9_min_7cf53 ∈ lw_tbl := in_t3 _ (List.mem_of_getElem? (i := 22) rfl)
set_option maxRecDepth 20000 in
theorem wd_600 : Cond.static yJ9_min_7cf53 ∈ lw_tbl := in_t3 _ (List.mem_of_getElem? (i := 23) rfl)
set_option maxRecDepth 20000 in
theorem wd_601 : Cond.code yJ9_min_7cf53 cJ9_min_7cf53 2 (Option.some Jvm.ClassFile.FieldType.int) ∈ lw_tbl := in_t3 _ (List.mem_of_getElem? (i := 24) rfl)
set_option maxRecDepth 20000 in
theorem wd_602 : Cond.methodLink RJ1 95 yJ1_indexOfChar_4cfef ∈ lw_tbl := in_t3 _ (List.mem_of_getElem? (i := 25) rfl)
set_option maxRecDepth 20000 in
theorem wd_603 : Cond.static yJ1_indexOfChar_4cfef ∈ lw_tbl := in_t3 _ (List.mem_of_getElem? (i := 26) rfl)
set_option maxRecDepth 20000 in
theorem wd_604 : Cond.code yJ1_indexOfChar_4cfef cJ1_indexOfChar_4cfef 6 (Option.some Jvm.ClassFile.FieldType.int) ∈ lw_tbl := in_t3 _ (List.mem_of_getElem? (i := 27) rfl)
set_option maxRecDepth 20000 in
theorem wd_605 : Cond.methodLink RJ0 640 yJ2_indexOf_4cfef ∈ lw_tbl := in_t3 _ (List.mem_of_getElem? (i := 28) rfl)
set_option maxRecDepth 20000 in
theorem wd_606 : Cond.static yJ2_indexOf_4cfef ∈ lw_tbl := in_t3 _ (List.mem_of_getElem? (i := 29) rfl)
set_option maxRecDepth 20000 in
theorem wd_607 : Cond.code yJ2_indexOf_4cfef cJ2_indexOf_4cfef 4 (Option.some Jvm.ClassFile.FieldType.int) ∈ lw_tbl := in_t3 _ (List.mem_of_getElem? (i := 30) rfl)
set_option maxRecDepth 20000 in
theorem wd_608 : Cond.methodLink RJ2 224 yJ9_max_7cf53 ∈ lw_tbl := in_t3 _ (List.mem_of_getElem? (i := 31) rfl)
set_option maxRecDepth 20000 in
theorem wd_609 : Cond.methodLink RJ2 183 yJ9_min_7cf53 ∈ lw_tbl := in_t3 _ (List.mem_of_getElem? (i := 32) rfl)
set_option maxRecDepth 20000 in
theorem wd_610 : Cond.constant RJ2 227 (65536 : Int32) ∈ lw_tbl := in_t3 _ (List.mem_of_getElem? (i := 33) rfl)
set_option maxRecDepth 20000 in
theorem wd_611 : Cond.methodLink RJ2 228 yJ2_indexOfChar_4cfef ∈ lw_tbl := in_t3 _ (List.mem_of_getElem? (i := 34) rfl)
set_option maxRecDepth 20000 in
theorem wd_612 : Cond.static yJ2_indexOfChar_4cfef ∈ lw_tbl := in_t3 _ (List.mem_of_getElem? (i := 35) rfl)
set_option maxRecDepth 20000 in
theorem wd_613 : Cond.code yJ2_indexOfChar_4cfef cJ2_indexOfChar_4cfef 4 (Option.some Jvm.ClassFile.FieldType.int) ∈ lw_tbl := in_t3 _ (List.mem_of_getElem? (i := 36) rfl)
set_option maxRecDepth 20000 in
theorem wd_614 : Cond.methodLink RJ2 96 yJ2_checkBoundsBeginEnd_d044e ∈ lw_tbl := in_t3 _ (List.mem_of_getElem? (i := 37) rfl)
set_option maxRecDepth 20000 in
theorem wd_615 : Cond.static yJ2_checkBoundsBeginEnd_d044e ∈ lw_tbl := in_t3 _ (List.mem_of_getElem? (i := 38) rfl)
set_option maxRecDepth 20000 in
theorem wd_616 : Cond.code yJ2_checkBoundsBeginEnd_d044e cJ2_checkBoundsBeginEnd_d044e 3 (Option.none : Option Jvm.ClassFile.FieldType) ∈ lw_tbl := in_t3 _ (List.mem_of_getElem? (i := 39) rfl)
set_option maxRecDepth 20000 in
theorem wd_617 : Cond.methodLink RJ2 241 yJ0_checkBoundsBeginEnd_23922 ∈ lw_tbl := in_t3 _ (List.mem_of_getElem? (i := 40) rfl)
set_option maxRecDepth 20000 in
theorem wd_618 : Cond.static yJ0_checkBoundsBeginEnd_23922 ∈ lw_tbl := in_t3 _ (List.mem_of_getElem? (i := 41) rfl)
set_option maxRecDepth 20000 in
theorem wd_619 : Cond.code yJ0_checkBoundsBeginEnd_23922 cJ0_checkBoundsBeginEnd_23922 3 (Option.none : Option Jvm.ClassFile.FieldType) ∈ lw_tbl := in_t3 _ (List.mem_of_getElem? (i := 42) rfl)
set_option maxRecDepth 20000 in
theorem wd_620 : Cond.methodLink RJ0 1062 yJ3_checkFromToIndex_8c36e ∈ lw_tbl := in_t3 _ (List.mem_of_getElem? (i := 43) rfl)
set_option maxRecDepth 20000 in
theorem wd_621 : Cond.static yJ3_checkFromToIndex_8c36e ∈ lw_tbl := in_t3 _ (List.mem_of_getElem? (i := 44) rfl)
set_option maxRecDepth 20000 in
theorem wd_622 : Cond.code yJ3_checkFromToIndex_8c36e cJ3_checkFromToIndex_8c36e 4 (Option.some Jvm.ClassFile.FieldType.int) ∈ lw_tbl := in_t3 _ (List.mem_of_getElem? (i := 45) rfl)
set_option maxRecDepth 20000 in
theorem wd_623 : Cond.methodLink RJ2 244 yJ2_indexOfCharUnsafe_4cfef ∈ lw_tbl := in_t3 _ (List.mem_of_getElem? (i := 46) rfl)
set_option maxRecDepth 20000 in
theorem wd_624 : Cond.static yJ2_indexOfCharUnsafe_4cfef ∈ lw_tbl := in_t3 _ (List.mem_of_getElem? (i := 47) rfl)
set_option maxRecDepth 20000 in
theorem wd_625 : Cond.code yJ2_indexOfCharUnsafe_4cfef cJ2_indexOfCharUnsafe_4cfef 5 (Option.some Jvm.ClassFile.FieldType.int) ∈ lw_tbl := in_t3 _ (List.mem_of_getElem? (i := 48) rfl)
set_option maxRecDepth 20000 in
theorem wd_626 : Cond.methodLink RJ2 232 yJ2_indexOfSupplementary_4cfef ∈ lw_tbl := in_t3 _ (List.mem_of_getElem? (i := 49) rfl)
set_option maxRecDepth 20000 in
theorem wd_627 : Cond.static yJ2_indexOfSupplementary_4cfef ∈ lw_tbl := in_t3 _ (List.mem_of_getElem? (i := 50) rfl)
set_option maxRecDepth 20000 in
theorem wd_628 : Cond.code yJ2_indexOfSupplementary_4cfef cJ2_indexOfSupplementary_4cfef 7 (Option.some Jvm.ClassFile.FieldType.int) ∈ lw_tbl := in_t3 _ (List.mem_of_getElem? (i := 51) rfl)
set_option maxRecDepth 20000 in
theorem wd_629 : Cond.methodLink RJ2 164 yJ11_isValidCodePoint_9a6ad ∈ lw_tbl := in_t3 _ (List.mem_of_getElem? (i := 52) rfl)
set_option maxRecDepth 20000 in
theorem wd_630 : Cond.static yJ11_isValidCodePoint_9a6ad ∈ lw_tbl := in_t3 _ (List.mem_of_getElem? (i := 53) rfl)
set_option maxRecDepth 20000 in
theorem wd_631 : Cond.code yJ11_isValidCodePoint_9a6ad cJ11_isValidCodePoint_9a6ad 2 (Option.some Jvm.ClassFile.FieldType.boolean) ∈ lw_tbl := in_t3 _ (List.mem_of_getElem? (i := 54) rfl)
set_option maxRecDepth 20000 in
theorem wd_632 : Cond.methodLink RJ2 157 yJ11_highSurrogate_5068e ∈ lw_tbl := in_t3 _ (List.mem_of_getElem? (i := 55) rfl)
set_option maxRecDepth 20000 in
theorem wd_633 : Cond.static yJ11_highSurrogate_5068e ∈ lw_tbl := in_t3 _ (List.mem_of_getElem? (i := 56) rfl)
set_option maxRecDepth 20000 in
theorem wd_634 : Cond.code yJ11_highSurrogate_5068e cJ11_highSurrogate_5068e 1 (Option.some Jvm.ClassFile.FieldType.char) ∈ lw_tbl := in_t3 _ (List.mem_of_getElem? (i := 57) rfl)
set_option maxRecDepth 20000 in
theorem wd_635 : Cond.constant RJ11 110 (55232 : Int32) ∈ lw_tbl := in_t3 _ (List.mem_of_getElem? (i := 58) rfl)
set_option maxRecDepth 20000 in
theorem wd_636 : Cond.methodLink RJ2 161 yJ11_lowSurrogate_5068e ∈ lw_tbl := in_t3 _ (List.mem_of_getElem? (i := 59) rfl)
set_option maxRecDepth 20000 in
theorem wd_637 : Cond.static yJ11_lowSurrogate_5068e ∈ lw_tbl := in_t3 _ (List.mem_of_getElem? (i := 60) rfl)
set_option maxRecDepth 20000 in
theorem wd_638 : Cond.code yJ11_lowSurrogate_5068e cJ11_lowSurrogate_5068e 1 (Option.some Jvm.ClassFile.FieldType.char) ∈ lw_tbl := in_t3 _ (List.mem_of_getElem? (i := 61) rfl)
set_option maxRecDepth 20000 in
theorem wd_639 : Cond.constant RJ11 76 (56320 : Int32) ∈ lw_tbl := in_t3 _ (List.mem_of_getElem? (i := 62) rfl)
set_option maxRecDepth 20000 in
theorem wd_640 : Cond.methodLink RX4 33 yX3_setUntold ∈ lw_tbl := in_t3 _ (List.mem_of_getElem? (i := 63) rfl)
set_option maxRecDepth 20000 in
theorem wd_641 : Cond.methodLink RX4 50 yX4_tellOne ∈ lw_tbl := in_t3 _ (List.mem_of_getElem? (i := 64) rfl)
set_option maxRecDepth 20000 in
theorem wd_643 : Cond.instanceMethod yX4_tellOne ∈ lw_tbl := in_t3 _ (List.mem_of_getElem? (i := 66) rfl)
set_option maxRecDepth 20000 in
theorem wd_644 : Cond.code yX4_tellOne cX4_tellOne 2 (Option.some Jvm.ClassFile.FieldType.boolean) ∈ lw_tbl := in_t3 _ (List.mem_of_getElem? (i := 67) rfl)
set_option maxRecDepth 20000 in
theorem wd_645 : Cond.methodLink RX4 54 yX4_tellHouse ∈ lw_tbl := in_t3 _ (List.mem_of_getElem? (i := 68) rfl)
set_option maxRecDepth 20000 in
theorem wd_647 : Cond.instanceMethod yX4_tellHouse ∈ lw_tbl := in_t3 _ (List.mem_of_getElem? (i := 70) rfl)
set_option maxRecDepth 20000 in
theorem wd_648 : Cond.code yX4_tellHouse cX4_tellHouse 3 (Option.some Jvm.ClassFile.FieldType.boolean) ∈ lw_tbl := in_t3 _ (List.mem_of_getElem? (i := 71) rfl)
set_option maxRecDepth 20000 in
theorem wd_649 : Cond.methodLink RX4 67 yX4_refuse ∈ lw_tbl := in_t3 _ (List.mem_of_getElem? (i := 72) rfl)
set_option maxRecDepth 20000 in
theorem wd_651 : Cond.instanceMethod yX4_refuse ∈ lw_tbl := in_t3 _ (List.mem_of_getElem? (i := 74) rfl)
set_option maxRecDepth 20000 in
theorem wd_652 : Cond.code yX4_refuse cX4_refuse 2 (Option.some Jvm.ClassFile.FieldType.boolean) ∈ lw_tbl := in_t3 _ (List.mem_of_getElem? (i := 75) rfl)
set_option maxRecDepth 20000 in
theorem wd_653 : Cond.methodLink RX4 57 yX4_take ∈ lw_tbl := in_t3 _ (List.mem_of_getElem? (i := 76) rfl)
set_option maxRecDepth 20000 in
theorem wd_655 : Cond.instanceMethod yX4_take ∈ lw_tbl := in_t3 _ (List.mem_of_getElem? (i := 78) rfl)
set_option maxRecDepth 20000 in
theorem wd_656 : Cond.code yX4_take cX4_take 2 (Option.some Jvm.ClassFile.FieldType.boolean) ∈ lw_tbl := in_t3 _ (List.mem_of_getElem? (i := 79) rfl)
set_option maxRecDepth 20000 in
theorem wd_657 : Cond.methodLink RX4 76 yX4_isToldAlready ∈ lw_tbl := in_t3 _ (List.mem_of_getElem? (i := 80) rfl)
set_option maxRecDepth 20000 in
theorem wd_659 : Cond.instanceMethod yX4_isToldAlready ∈ lw_tbl := in_t3 _ (List.mem_of_getElem? (i := 82) rfl)
set_option maxRecDepth 20000 in
theorem wd_660 : Cond.code yX4_isToldAlready cX4_isToldAlready 4 (Option.some Jvm.ClassFile.FieldType.boolean) ∈ lw_tbl := in_t3 _ (List.mem_of_getElem? (i := 83) rfl)
set_option maxRecDepth 20000 in
theorem wd_661 : Cond.methodLink RX4 80 yX4_note ∈ lw_tbl := in_t3 _ (List.mem_of_getElem? (i := 84) rfl)
set_option maxRecDepth 20000 in
theorem wd_663 : Cond.instanceMethod yX4_note ∈ lw_tbl := in_t3 _ (List.mem_of_getElem? (i := 86) rfl)
set_option maxRecDepth 20000 in
theorem wd_664 : Cond.code yX4_note cX4_note 2 (Option.none : Option Jvm.ClassFile.FieldType) ∈ lw_tbl := in_t3 _ (List.mem_of_getElem? (i := 87) rfl)
set_option maxRecDepth 20000 in
theorem wd_665 : Cond.methodLink RX4 84 yX4_numberHere ∈ lw_tbl := in_t3 _ (List.mem_of_getElem? (i := 88) rfl)
set_option maxRecDepth 20000 in
theorem wd_667 : Cond.instanceMethod yX4_numberHere ∈ lw_tbl := in_t3 _ (List.mem_of_getElem? (i := 90) rfl)
set_option maxRecDepth 20000 in
theorem wd_668 : Cond.code yX4_numberHere cX4_numberHere 4 (Option.some Jvm.ClassFile.FieldType.int) ∈ lw_tbl := in_t3 _ (List.mem_of_getElem? (i := 91) rfl)
set_option maxRecDepth 20000 in
theorem wd_669 : Cond.fieldLink RX4 104 "SummerHouses$Reader" "MOST" "[I" ∈ lw_tbl := in_t3 _ (List.mem_of_getElem? (i := 92) rfl)
set_option maxRecDepth 20000 in
theorem wd_671 : Cond.fieldLink RX4 107 "SummerHouses$Reader" "LEAST" "[I" ∈ lw_tbl := in_t3 _ (List.mem_of_getElem? (i := 94) rfl)
set_option maxRecDepth 20000 in
theorem wd_673 : Cond.methodLink RX4 88 yX3_setNumber ∈ lw_tbl := in_t3 _ (List.mem_of_getElem? (i := 96) rfl)
set_option maxRecDepth 20000 in
theorem wd_674 : Cond.instanceMethod yX3_setNumber ∈ lw_tbl := in_t3 _ (List.mem_of_getElem? (i := 97) rfl)
set_option maxRecDepth 20000 in
theorem wd_675 : Cond.selects RX3 yX3_setNumber yX3_setNumber ∈ lw_tbl := in_t3 _ (List.mem_of_getElem? (i := 98) rfl)
set_option maxRecDepth 20000 in
theorem wd_676 : Cond.code yX3_setNumber cX3_setNumber 5 (Option.none : Option Jvm.ClassFile.FieldType) ∈ lw_tbl := in_t3 _ (List.mem_of_getElem? (i := 99) rfl)
set_option maxRecDepth 20000 in
theorem wd_677 : Cond.methodLink RX4 61 yX4_tellLaw ∈ lw_tbl := in_t3 _ (List.mem_of_getElem? (i := 100) rfl)
set_option maxRecDepth 20000 in
theorem wd_679 : Cond.instanceMethod yX4_tellLaw ∈ lw_tbl := in_t3 _ (List.mem_of_getElem? (i := 102) rfl)
set_option maxRecDepth 20000 in
theorem wd_680 : Cond.code yX4_tellLaw cX4_tellLaw 5 (Option.some Jvm.ClassFile.FieldType.boolean) ∈ lw_tbl := in_t3 _ (List.mem_of_getElem? (i := 103) rfl)
set_option maxRecDepth 20000 in
theorem wd_681 : Cond.methodLink RX4 114 yX1_begin ∈ lw_tbl := in_t3 _ (List.mem_of_getElem? (i := 104) rfl)
set_option maxRecDepth 20000 in
theorem wd_682 : Cond.methodLink RX4 119 yX4_sum ∈ lw_tbl := in_t3 _ (List.mem_of_getElem? (i := 105) rfl)
set_option maxRecDepth 20000 in
theorem wd_684 : Cond.instanceMethod yX4_sum ∈ lw_tbl := in_t3 _ (List.mem_of_getElem? (i := 107) rfl)
set_option maxRecDepth 20000 in
theorem wd_685 : Cond.code yX4_sum cX4_sum 4 (Option.some Jvm.ClassFile.FieldType.boolean) ∈ lw_tbl := in_t3 _ (List.mem_of_getElem? (i := 108) rfl)
set_option maxRecDepth 20000 in
theorem wd_686 : Cond.methodLink RX4 132 yX4_product ∈ lw_tbl := in_t3 _ (List.mem_of_getElem? (i := 109) rfl)
set_option maxRecDepth 20000 in
theorem wd_688 : Cond.instanceMethod yX4_product ∈ lw_tbl := in_t3 _ (List.mem_of_getElem? (i := 111) rfl)
set_option maxRecDepth 20000 in
theorem wd_689 : Cond.code yX4_product cX4_product 4 (Option.some Jvm.ClassFile.FieldType.boolean) ∈ lw_tbl := in_t3 _ (List.mem_of_getElem? (i := 112) rfl)
set_option maxRecDepth 20000 in
theorem wd_690 : Cond.methodLink RX4 135 yX4_unit ∈ lw_tbl := in_t3 _ (List.mem_of_getElem? (i := 113) rfl)
set_option maxRecDepth 20000 in
theorem wd_692 : Cond.instanceMethod yX4_unit ∈ lw_tbl := in_t3 _ (List.mem_of_getElem? (i := 115) rfl)
set_option maxRecDepth 20000 in
theorem wd_693 : Cond.code yX4_unit cX4_unit 3 (Option.some Jvm.ClassFile.FieldType.boolean) ∈ lw_tbl := in_t3 _ (List.mem_of_getElem? (i := 116) rfl)
set_option maxRecDepth 20000 in
theorem wd_694 : Cond.methodLink RX4 125 yX1_append ∈ lw_tbl := in_t3 _ (List.mem_of_getElem? (i := 117) rfl)
set_option maxRecDepth 20000 in
theorem wd_695 : Cond.methodLink RX4 129 yX1_aimHere ∈ lw_tbl := in_t3 _ (List.mem_of_getElem? (i := 118) rfl)
set_option maxRecDepth 20000 in
theorem wd_696 : Cond.instanceMethod yX1_aimHere ∈ lw_tbl := in_t3 _ (List.mem_of_getElem? (i := 119) rfl)
set_option maxRecDepth 20000 in
theorem wd_697 : Cond.selects RX1 yX1_aimHere yX1_aimHere ∈ lw_tbl := in_t3 _ (List.mem_of_getElem? (i := 120) rfl)
set_option maxRecDepth 20000 in
theorem wd_698 : Cond.code yX1_aimHere cX1_aimHere 2 (Option.none : Option Jvm.ClassFile.FieldType) ∈ lw_tbl := in_t3 _ (List.mem_of_getElem? (i := 121) rfl)
set_option maxRecDepth 20000 in
theorem wd_699 : Cond.methodLink RX4 64 yX4_tellNumber ∈ lw_tbl := in_t3 _ (List.mem_of_getElem? (i := 122) rfl)
set_option maxRecDepth 20000 in
theorem wd_701 : Cond.instanceMethod yX4_tellNumber ∈ lw_tbl := in_t3 _ (List.mem_of_getElem? (i := 124) rfl)
set_option maxRecDepth 20000 in
theorem wd_702 : Cond.code yX4_tellNumber cX4_tellNumber 3 (Option.some Jvm.ClassFile.FieldType.boolean) ∈ lw_tbl := in_t3 _ (List.mem_of_getElem? (i := 125) rfl)
set_option maxRecDepth 20000 in
theorem wd_703 : Cond.methodLink RX11 116 yX3_copyFrom ∈ lw_tbl := in_t3 _ (List.mem_of_getElem? (i := 126) rfl)
set_option maxRecDepth 20000 in
theorem wd_704 : Cond.instanceMethod yX3_copyFrom ∈ lw_tbl := in_t3 _ (List.mem_of_getElem? (i := 127) rfl)
set_option maxRecDepth 20000 in
theorem wd_705 : Cond.selects RX3 yX3_copyFrom yX3_copyFrom ∈ lw_tbl := in_t3 _ (List.mem_of_getElem? (i := 128) rfl)
set_option maxRecDepth 20000 in
theorem wd_706 : Cond.code yX3_copyFrom cX3_copyFrom 2 (Option.none : Option Jvm.ClassFile.FieldType) ∈ lw_tbl := in_t3 _ (List.mem_of_getElem? (i := 129) rfl)
set_option maxRecDepth 20000 in
theorem wd_707 : Cond.methodLink RX3 42 (⟨"java/lang/System", "arraycopy", "(Ljava/lang/Object;ILjava/lang/Object;II)V"⟩ : MethodName) ∈ lw_tbl := in_t3 _ (List.mem_of_getElem? (i := 130) rfl)
set_option maxRecDepth 20000 in
theorem wd_708 : Cond.static (⟨"java/lang/System", "arraycopy", "(Ljava/lang/Object;ILjava/lang/Object;II)V"⟩ : MethodName) ∈ lw_tbl := in_t3 _ (List.mem_of_getElem? (i := 131) rfl)
set_option maxRecDepth 20000 in
theorem wd_709 : Cond.native (⟨"java/lang/System", "arraycopy", "(Ljava/lang/Object;ILjava/lang/Object;II)V"⟩ : MethodName) ∈ lw_tbl := in_t3 _ (List.mem_of_getElem? (i := 132) rfl)
set_option maxRecDepth 20000 in
theorem wd_710 : Cond.methodLink RX3 48 yX1_copyFrom ∈ lw_tbl := in_t3 _ (List.mem_of_getElem? (i := 133) rfl)
set_option maxRecDepth 20000 in
theorem wd_711 : Cond.instanceMethod yX1_copyFrom ∈ lw_tbl := in_t3 _ (List.mem_of_getElem? (i := 134) rfl)
set_option maxRecDepth 20000 in
theorem wd_712 : Cond.selects RX1 yX1_copyFrom yX1_copyFrom ∈ lw_tbl := in_t3 _ (List.mem_of_getElem? (i := 135) rfl)
set_option maxRecDepth 20000 in
theorem wd_713 : Cond.code yX1_copyFrom cX1_copyFrom 2 (Option.none : Option Jvm.ClassFile.FieldType) ∈ lw_tbl := in_t3 _ (List.mem_of_getElem? (i := 136) rfl)
set_option maxRecDepth 20000 in
theorem wd_714 : Cond.methodLink RX1 41 (⟨"java/lang/System", "arraycopy", "(Ljava/lang/Object;ILjava/lang/Object;II)V"⟩ : MethodName) ∈ lw_tbl := in_t3 _ (List.mem_of_getElem? (i := 137) rfl)
set_option maxRecDepth 20000 in
theorem wd_715 : Cond.methodLink RX11 120 yX3_begin ∈ lw_tbl := in_t3 _ (List.mem_of_getElem? (i := 138) rfl)
set_option maxRecDepth 20000 in
theorem wd_716 : Cond.instanceMethod yX3_begin ∈ lw_tbl := in_t3 _ (List.mem_of_getElem? (i := 139) rfl)
set_option maxRecDepth 20000 in
theorem wd_717 : Cond.selects RX3 yX3_begin yX3_begin ∈ lw_tbl := in_t3 _ (List.mem_of_getElem? (i := 140) rfl)
set_option maxRecDepth 20000 in
theorem wd_718 : Cond.code yX3_begin cX3_begin 4 (Option.none : Option Jvm.ClassFile.FieldType) ∈ lw_tbl := in_t3 _ (List.mem_of_getElem? (i := 141) rfl)
set_option maxRecDepth 20000 in
theorem wd_719 : Cond.methodLink RX3 54 yX7_set ∈ lw_tbl := in_t3 _ (List.mem_of_getElem? (i := 142) rfl)
set_option maxRecDepth 20000 in
theorem wd_720 : Cond.instanceMethod yX7_set ∈ lw_tbl := in_t3 _ (List.mem_of_getElem? (i := 143) rfl)
set_option maxRecDepth 20000 in
theorem wd_721 : Cond.selects RX7 yX7_set yX7_set ∈ lw_tbl := in_t3 _ (List.mem_of_getElem? (i := 144) rfl)
set_option maxRecDepth 20000 in
theorem wd_722 : Cond.code yX7_set cX7_set 5 (Option.none : Option Jvm.ClassFile.FieldType) ∈ lw_tbl := in_t3 _ (List.mem_of_getElem? (i := 145) rfl)
set_option maxRecDepth 20000 in
theorem wd_723 : Cond.methodLink RX3 58 yX3_number ∈ lw_tbl := in_t3 _ (List.mem_of_getElem? (i := 146) rfl)
set_option maxRecDepth 20000 in
theorem wd_724 : Cond.instanceMethod yX3_number ∈ lw_tbl := in_t3 _ (List.mem_of_getElem? (i := 147) rfl)
set_option maxRecDepth 20000 in
theorem wd_725 : Cond.selects RX3 yX3_number yX3_number ∈ lw_tbl := in_t3 _ (List.mem_of_getElem? (i := 148) rfl)
set_option maxRecDepth 20000 in
theorem wd_726 : Cond.code yX3_number cX3_number 4 (Option.some Jvm.ClassFile.FieldType.int) ∈ lw_tbl := in_t3 _ (List.mem_of_getElem? (i := 149) rfl)
set_option maxRecDepth 20000 in
theorem wd_727 : Cond.methodLink RX11 124 yX0_clearAll ∈ lw_tbl := in_t3 _ (List.mem_of_getElem? (i := 150) rfl)
set_option maxRecDepth 20000 in
theorem wd_728 : Cond.instanceMethod yX0_clearAll ∈ lw_tbl := in_t3 _ (List.mem_of_getElem? (i := 151) rfl)
set_option maxRecDepth 20000 in
theorem wd_729 : Cond.selects RX0 yX0_clearAll yX0_clearAll ∈ lw_tbl := in_t3 _ (List.mem_of_getElem? (i := 152) rfl)
set_option maxRecDepth 20000 in
theorem wd_730 : Cond.code yX0_clearAll cX0_clearAll 2 (Option.none : Option Jvm.ClassFile.FieldType) ∈ lw_tbl := in_t3 _ (List.mem_of_getElem? (i := 153) rfl)
set_option maxRecDepth 20000 in
theorem wd_731 : Cond.methodLink RL 28 yX11_place ∈ lw_tbl := in_t3 _ (List.mem_of_getElem? (i := 154) rfl)
set_option maxRecDepth 20000 in
theorem wd_732 : Cond.instanceMethod yX11_place ∈ lw_tbl := in_t3 _ (List.mem_of_getElem? (i := 155) rfl)
set_option maxRecDepth 20000 in
theorem wd_733 : Cond.selects RX11 yX11_place yX11_place ∈ lw_tbl := in_t3 _ (List.mem_of_getElem? (i := 156) rfl)
set_option maxRecDepth 20000 in
theorem wd_734 : Cond.code yX11_place cX11_place 1 (Option.some Jvm.ClassFile.FieldType.int) ∈ lw_tbl := in_t3 _ (List.mem_of_getElem? (i := 157) rfl)
set_option maxRecDepth 20000 in
theorem wd_735 : Cond.methodLink RL 32 yX11_house ∈ lw_tbl := in_t3 _ (List.mem_of_getElem? (i := 158) rfl)
set_option maxRecDepth 20000 in
theorem wd_736 : Cond.instanceMethod yX11_house ∈ lw_tbl := in_t3 _ (List.mem_of_getElem? (i := 159) rfl)
set_option maxRecDepth 20000 in
theorem wd_737 : Cond.selects RX11 yX11_house yX11_house ∈ lw_tbl := in_t3 _ (List.mem_of_getElem? (i := 160) rfl)
set_option maxRecDepth 20000 in
theorem wd_738 : Cond.code yX11_house cX11_house 3 (Option.some Jvm.ClassFile.FieldType.int) ∈ lw_tbl := in_t3 _ (List.mem_of_getElem? (i := 161) rfl)
set_option maxRecDepth 20000 in
theorem wd_739 : Cond.methodLink RX11 130 yX11_isHouse ∈ lw_tbl := in_t3 _ (List.mem_of_getElem? (i := 162) rfl)
set_option maxRecDepth 20000 in
theorem wd_741 : Cond.instanceMethod yX11_isHouse ∈ lw_tbl := in_t3 _ (List.mem_of_getElem? (i := 164) rfl)
set_option maxRecDepth 20000 in
theorem wd_742 : Cond.code yX11_isHouse cX11_isHouse 2 (Option.some Jvm.ClassFile.FieldType.boolean) ∈ lw_tbl := in_t3 _ (List.mem_of_getElem? (i := 165) rfl)
set_option maxRecDepth 20000 in
theorem wd_743 : Cond.methodLink RX11 134 yX7_get ∈ lw_tbl := in_t3 _ (List.mem_of_getElem? (i := 166) rfl)
set_option maxRecDepth 20000 in
theorem wd_744 : Cond.instanceMethod yX7_get ∈ lw_tbl := in_t3 _ (List.mem_of_getElem? (i := 167) rfl)
set_option maxRecDepth 20000 in
theorem wd_745 : Cond.selects RX7 yX7_get yX7_get ∈ lw_tbl := in_t3 _ (List.mem_of_getElem? (i := 168) rfl)
set_option maxRecDepth 20000 in
theorem wd_746 : Cond.code yX7_get cX7_get 4 (Option.some Jvm.ClassFile.FieldType.int) ∈ lw_tbl := in_t3 _ (List.mem_of_getElem? (i := 169) rfl)
set_option maxRecDepth 20000 in
theorem wd_747 : Cond.methodLink RX11 138 yX3_cools ∈ lw_tbl := in_t3 _ (List.mem_of_getElem? (i := 170) rfl)
set_option maxRecDepth 20000 in
theorem wd_748 : Cond.instanceMethod yX3_cools ∈ lw_tbl := in_t3 _ (List.mem_of_getElem? (i := 171) rfl)
set_option maxRecDepth 20000 in
theorem wd_749 : Cond.selects RX3 yX3_cools yX3_cools ∈ lw_tbl := in_t3 _ (List.mem_of_getElem? (i := 172) rfl)
set_option maxRecDepth 20000 in
theorem wd_750 : Cond.code yX3_cools cX3_cools 3 (Option.some Jvm.ClassFile.FieldType.int) ∈ lw_tbl := in_t3 _ (List.mem_of_getElem? (i := 173) rfl)
set_option maxRecDepth 20000 in
theorem wd_751 : Cond.methodLink RX3 84 yX1_valueOf ∈ lw_tbl := in_t3 _ (List.mem_of_getElem? (i := 174) rfl)
set_option maxRecDepth 20000 in
theorem wd_752 : Cond.instanceMethod yX1_valueOf ∈ lw_tbl := in_t3 _ (List.mem_of_getElem? (i := 175) rfl)
set_option maxRecDepth 20000 in
theorem wd_753 : Cond.selects RX1 yX1_valueOf yX1_valueOf ∈ lw_tbl := in_t3 _ (List.mem_of_getElem? (i := 176) rfl)
set_option maxRecDepth 20000 in
theorem wd_754 : Cond.code yX1_valueOf cX1_valueOf 10 (Option.some Jvm.ClassFile.FieldType.int) ∈ lw_tbl := in_t3 _ (List.mem_of_getElem? (i := 177) rfl)
set_option maxRecDepth 20000 in
theorem wd_755 : Cond.methodLink RX1 50 yX7_get ∈ lw_tbl := in_t3 _ (List.mem_of_getElem? (i := 178) rfl)
set_option maxRecDepth 20000 in
theorem wd_756 : Cond.methodLink RX1 54 yJ9_max_7cf53 ∈ lw_tbl := in_t3 _ (List.mem_of_getElem? (i := 179) rfl)
set_option maxRecDepth 20000 in
theorem wd_757 : Cond.methodLink RX1 59 yX1_joined ∈ lw_tbl := in_t3 _ (List.mem_of_getElem? (i := 180) rfl)
set_option maxRecDepth 20000 in
theorem wd_758 : Cond.static yX1_joined ∈ lw_tbl := in_t3 _ (List.mem_of_getElem? (i := 181) rfl)
set_option maxRecDepth 20000 in
theorem wd_759 : Cond.code yX1_joined cX1_joined 3 (Option.some Jvm.ClassFile.FieldType.int) ∈ lw_tbl := in_t3 _ (List.mem_of_getElem? (i := 182) rfl)
set_option maxRecDepth 20000 in
theorem wd_760 : Cond.methodLink RX3 88 yJ9_min_7cf53 ∈ lw_tbl := in_t3 _ (List.mem_of_getElem? (i := 183) rfl)
set_option maxRecDepth 20000 in
theorem wd_761 : Cond.methodLink RX3 91 yJ9_max_7cf53 ∈ lw_tbl := in_t3 _ (List.mem_of_getElem? (i := 184) rfl)
set_option maxRecDepth 20000 in
theorem wd_762 : Cond.methodLink RX11 142 yX3_warms ∈ lw_tbl := in_t3 _ (List.mem_of_getElem? (i := 185) rfl)
set_option maxRecDepth 20000 in
theorem wd_763 : Cond.instanceMethod yX3_warms ∈ lw_tbl := in_t3 _ (List.mem_of_getElem? (i := 186) rfl)
set_option maxRecDepth 20000 in
theorem wd_764 : Cond.selects RX3 yX3_warms yX3_warms ∈ lw_tbl := in_t3 _ (List.mem_of_getElem? (i := 187) rfl)
set_option maxRecDepth 20000 in
theorem wd_765 : Cond.code yX3_warms cX3_warms 3 (Option.some Jvm.ClassFile.FieldType.int) ∈ lw_tbl := in_t3 _ (List.mem_of_getElem? (i := 188) rfl)
set_option maxRecDepth 20000 in
theorem wd_766 : Cond.methodLink RX11 145 yX3_fades ∈ lw_tbl := in_t3 _ (List.mem_of_getElem? (i := 189) rfl)
set_option maxRecDepth 20000 in
theorem wd_767 : Cond.instanceMethod yX3_fades ∈ lw_tbl := in_t3 _ (List.mem_of_getElem? (i := 190) rfl)
set_option maxRecDepth 20000 in
theorem wd_768 : Cond.selects RX3 yX3_fades yX3_fades ∈ lw_tbl := in_t3 _ (List.mem_of_getElem? (i := 191) rfl)
set_option maxRecDepth 20000 in
theorem wd_769 : Cond.code yX3_fades cX3_fades 4 (Option.some Jvm.ClassFile.FieldType.int) ∈ lw_tbl := in_t3 _ (List.mem_of_getElem? (i := 192) rfl)
set_option maxRecDepth 20000 in
theorem wd_770 : Cond.methodLink RX3 94 yX7_get ∈ lw_tbl := in_t3 _ (List.mem_of_getElem? (i := 193) rfl)
set_option maxRecDepth 20000 in
theorem wd_771 : Cond.methodLink RX11 148 yX3_mends ∈ lw_tbl := in_t3 _ (List.mem_of_getElem? (i := 194) rfl)
set_option maxRecDepth 20000 in
theorem wd_772 : Cond.instanceMethod yX3_mends ∈ lw_tbl := in_t3 _ (List.mem_of_getElem? (i := 195) rfl)
set_option maxRecDepth 20000 in
theorem wd_773 : Cond.selects RX3 yX3_mends yX3_mends ∈ lw_tbl := in_t3 _ (List.mem_of_getElem? (i := 196) rfl)
set_option maxRecDepth 20000 in
theorem wd_774 : Cond.code yX3_mends cX3_mends 3 (Option.some Jvm.ClassFile.FieldType.int) ∈ lw_tbl := in_t3 _ (List.mem_of_getElem? (i := 197) rfl)
set_option maxRecDepth 20000 in
theorem wd_775 : Cond.methodLink RX11 151 yX3_xOf ∈ lw_tbl := in_t3 _ (List.mem_of_getElem? (i := 198) rfl)
set_option maxRecDepth 20000 in
theorem wd_776 : Cond.instanceMethod yX3_xOf ∈ lw_tbl := in_t3 _ (List.mem_of_getElem? (i := 199) rfl)
set_option maxRecDepth 20000 in
theorem wd_777 : Cond.selects RX3 yX3_xOf yX3_xOf ∈ lw_tbl := in_t3 _ (List.mem_of_getElem? (i := 200) rfl)
set_option maxRecDepth 20000 in
theorem wd_778 : Cond.code yX3_xOf cX3_xOf 2 (Option.some Jvm.ClassFile.FieldType.int) ∈ lw_tbl := in_t3 _ (List.mem_of_getElem? (i := 201) rfl)
set_option maxRecDepth 20000 in
theorem wd_779 : Cond.methodLink RX11 155 yX3_yOf ∈ lw_tbl := in_t3 _ (List.mem_of_getElem? (i := 202) rfl)
set_option maxRecDepth 20000 in
theorem wd_780 : Cond.instanceMethod yX3_yOf ∈ lw_tbl := in_t3 _ (List.mem_of_getElem? (i := 203) rfl)
set_option maxRecDepth 20000 in
theorem wd_781 : Cond.selects RX3 yX3_yOf yX3_yOf ∈ lw_tbl := in_t3 _ (List.mem_of_getElem? (i := 204) rfl)
set_option maxRecDepth 20000 in
theorem wd_782 : Cond.code yX3_yOf cX3_yOf 2 (Option.some Jvm.ClassFile.FieldType.int) ∈ lw_tbl := in_t3 _ (List.mem_of_getElem? (i := 205) rfl)
set_option maxRecDepth 20000 in
theorem wd_783 : Cond.methodLink RL 182 yX11_count ∈ lw_tbl := in_t3 _ (List.mem_of_getElem? (i := 206) rfl)
set_option maxRecDepth 20000 in
theorem wd_784 : Cond.instanceMethod yX11_count ∈ lw_tbl := in_t3 _ (List.mem_of_getElem? (i := 207) rfl)
set_option maxRecDepth 20000 in
theorem wd_785 : Cond.selects RX11 yX11_count yX11_count ∈ lw_tbl := in_t3 _ (List.mem_of_getElem? (i := 208) rfl)
set_option maxRecDepth 20000 in
theorem wd_786 : Cond.code yX11_count cX11_count 2 (Option.some Jvm.ClassFile.FieldType.int) ∈ lw_tbl := in_t3 _ (List.mem_of_getElem? (i := 209) rfl)
set_option maxRecDepth 20000 in
theorem wd_787 : Cond.methodLink RX11 164 yX7_sumOf ∈ lw_tbl := in_t3 _ (List.mem_of_getElem? (i := 210) rfl)
set_option maxRecDepth 20000 in
theorem wd_788 : Cond.instanceMethod yX7_sumOf ∈ lw_tbl := in_t3 _ (List.mem_of_getElem? (i := 211) rfl)
set_option maxRecDepth 20000 in
theorem wd_789 : Cond.selects RX7 yX7_sumOf yX7_sumOf ∈ lw_tbl := in_t3 _ (List.mem_of_getElem? (i := 212) rfl)
set_option maxRecDepth 20000 in
theorem wd_790 : Cond.code yX7_sumOf cX7_sumOf 4 (Option.some Jvm.ClassFile.FieldType.int) ∈ lw_tbl := in_t3 _ (List.mem_of_getElem? (i := 213) rfl)
set_option maxRecDepth 20000 in
theorem wd_791 : Cond.methodLink RX7 34 yX7_get ∈ lw_tbl := in_t3 _ (List.mem_of_getElem? (i := 214) rfl)
set_option maxRecDepth 20000 in
theorem wd_792 : Cond.methodLink RX11 167 yX7_bitsOf ∈ lw_tbl := in_t3 _ (List.mem_of_getElem? (i := 215) rfl)
set_option maxRecDepth 20000 in
theorem wd_793 : Cond.instanceMethod yX7_bitsOf ∈ lw_tbl := in_t3 _ (List.mem_of_getElem? (i := 216) rfl)
set_option maxRecDepth 20000 in
theorem wd_794 : Cond.selects RX7 yX7_bitsOf yX7_bitsOf ∈ lw_tbl := in_t3 _ (List.mem_of_getElem? (i := 217) rfl)
set_option maxRecDepth 20000 in
theorem wd_795 : Cond.code yX7_bitsOf cX7_bitsOf 6 (Option.some Jvm.ClassFile.FieldType.int) ∈ lw_tbl := in_t3 _ (List.mem_of_getElem? (i := 218) rfl)
set_option maxRecDepth 20000 in
theorem wd_796 : Cond.methodLink RX11 174 yX0_heldSlots ∈ lw_tbl := in_t3 _ (List.mem_of_getElem? (i := 219) rfl)
set_option maxRecDepth 20000 in
theorem wd_797 : Cond.instanceMethod yX0_heldSlots ∈ lw_tbl := in_t3 _ (List.mem_of_getElem? (i := 220) rfl)
set_option maxRecDepth 20000 in
theorem wd_798 : Cond.selects RX0 yX0_heldSlots yX0_heldSlots ∈ lw_tbl := in_t3 _ (List.mem_of_getElem? (i := 221) rfl)
set_option maxRecDepth 20000 in
theorem wd_799 : Cond.code yX0_heldSlots cX0_heldSlots 3 (Option.some Jvm.ClassFile.FieldType.int) ∈ lw_tbl := in_t3 _ (List.mem_of_getElem? (i := 222) rfl)
set_option maxRecDepth 20000 in
theorem wd_800 : Cond.methodLink RX11 181 yX3_hails ∈ lw_tbl := in_t3 _ (List.mem_of_getElem? (i := 223) rfl)
set_option maxRecDepth 20000 in
theorem wd_801 : Cond.instanceMethod yX3_hails ∈ lw_tbl := in_t3 _ (List.mem_of_getElem? (i := 224) rfl)
set_option maxRecDepth 20000 in
theorem wd_802 : Cond.selects RX3 yX3_hails yX3_hails ∈ lw_tbl := in_t3 _ (List.mem_of_getElem? (i := 225) rfl)
set_option maxRecDepth 20000 in
theorem wd_803 : Cond.code yX3_hails cX3_hails 3 (Option.some Jvm.ClassFile.FieldType.boolean) ∈ lw_tbl := in_t3 _ (List.mem_of_getElem? (i := 226) rfl)
set_option maxRecDepth 20000 in
theorem wd_804 : Cond.methodLink RX3 120 yX3_lot ∈ lw_tbl := in_t3 _ (List.mem_of_getElem? (i := 227) rfl)
set_option maxRecDepth 20000 in
theorem wd_805 : Cond.static yX3_lot ∈ lw_tbl := in_t3 _ (List.mem_of_getElem? (i := 228) rfl)
set_option maxRecDepth 20000 in
theorem wd_806 : Cond.code yX3_lot cX3_lot 4 (Option.some Jvm.ClassFile.FieldType.int) ∈ lw_tbl := in_t3 _ (List.mem_of_getElem? (i := 229) rfl)
set_option maxRecDepth 20000 in
theorem wd_807 : Cond.methodLink RX3 128 yX3_mixed ∈ lw_tbl := in_t3 _ (List.mem_of_getElem? (i := 230) rfl)
set_option maxRecDepth 20000 in
theorem wd_808 : Cond.static yX3_mixed ∈ lw_tbl := in_t3 _ (List.mem_of_getElem? (i := 231) rfl)
set_option maxRecDepth 20000 in
theorem wd_809 : Cond.code yX3_mixed cX3_mixed 3 (Option.some Jvm.ClassFile.FieldType.int) ∈ lw_tbl := in_t3 _ (List.mem_of_getElem? (i := 232) rfl)
set_option maxRecDepth 20000 in
theorem wd_810 : Cond.constant RX3 131 (1103515245 : Int32) ∈ lw_tbl := in_t3 _ (List.mem_of_getElem? (i := 233) rfl)
set_option maxRecDepth 20000 in
theorem wd_811 : Cond.methodLink RX11 185 yX11_lossOfAll ∈ lw_tbl := in_t3 _ (List.mem_of_getElem? (i := 234) rfl)
set_option maxRecDepth 20000 in
theorem wd_813 : Cond.instanceMethod yX11_lossOfAll ∈ lw_tbl := in_t3 _ (List.mem_of_getElem? (i := 236) rfl)
set_option maxRecDepth 20000 in
theorem wd_814 : Cond.code yX11_lossOfAll cX11_lossOfAll 3 (Option.some Jvm.ClassFile.FieldType.int) ∈ lw_tbl := in_t3 _ (List.mem_of_getElem? (i := 237) rfl)
set_option maxRecDepth 20000 in
theorem wd_815 : Cond.methodLink RL 143 yX11_summers ∈ lw_tbl := in_t3 _ (List.mem_of_getElem? (i := 238) rfl)
set_option maxRecDepth 20000 in
theorem wd_816 : Cond.instanceMethod yX11_summers ∈ lw_tbl := in_t3 _ (List.mem_of_getElem? (i := 239) rfl)
set_option maxRecDepth 20000 in
theorem wd_817 : Cond.selects RX11 yX11_summers yX11_summers ∈ lw_tbl := in_t4 _ (List.mem_of_getElem? (i := 0) rfl)
set_option maxRecDepth 20000 in
theorem wd_818 : Cond.code yX11_summers cX11_summers 4 (Option.some Jvm.ClassFile.FieldType.int) ∈ lw_tbl := in_t4 _ (List.mem_of_getElem? (i := 1) rfl)
set_option maxRecDepth 20000 in
theorem wd_819 : Cond.methodLink RL 37 yX11_burn ∈ lw_tbl := in_t4 _ (List.mem_of_getElem? (i := 2) rfl)
set_option maxRecDepth 20000 in
theorem wd_820 : Cond.instanceMethod yX11_burn ∈ lw_tbl := in_t4 _ (List.mem_of_getElem? (i := 3) rfl)
set_option maxRecDepth 20000 in
theorem wd_821 : Cond.selects RX11 yX11_burn yX11_burn ∈ lw_tbl := in_t4 _ (List.mem_of_getElem? (i := 4) rfl)
set_option maxRecDepth 20000 in
theorem wd_822 : Cond.code yX11_burn cX11_burn 3 (Option.some Jvm.ClassFile.FieldType.int) ∈ lw_tbl := in_t4 _ (List.mem_of_getElem? (i := 5) rfl)
set_option maxRecDepth 20000 in
theorem wd_823 : Cond.methodLink RX11 197 yX0_push ∈ lw_tbl := in_t4 _ (List.mem_of_getElem? (i := 6) rfl)
set_option maxRecDepth 20000 in
theorem wd_824 : Cond.instanceMethod yX0_push ∈ lw_tbl := in_t4 _ (List.mem_of_getElem? (i := 7) rfl)
set_option maxRecDepth 20000 in
theorem wd_825 : Cond.selects RX0 yX0_push yX0_push ∈ lw_tbl := in_t4 _ (List.mem_of_getElem? (i := 8) rfl)
set_option maxRecDepth 20000 in
theorem wd_826 : Cond.code yX0_push cX0_push 2 (Option.none : Option Jvm.ClassFile.FieldType) ∈ lw_tbl := in_t4 _ (List.mem_of_getElem? (i := 9) rfl)
set_option maxRecDepth 20000 in
theorem wd_827 : Cond.methodLink RX0 27 yX7_copyFrom ∈ lw_tbl := in_t4 _ (List.mem_of_getElem? (i := 10) rfl)
set_option maxRecDepth 20000 in
theorem wd_828 : Cond.instanceMethod yX7_copyFrom ∈ lw_tbl := in_t4 _ (List.mem_of_getElem? (i := 11) rfl)
set_option maxRecDepth 20000 in
theorem wd_829 : Cond.selects RX7 yX7_copyFrom yX7_copyFrom ∈ lw_tbl := in_t4 _ (List.mem_of_getElem? (i := 12) rfl)
set_option maxRecDepth 20000 in
theorem wd_830 : Cond.code yX7_copyFrom cX7_copyFrom 2 (Option.none : Option Jvm.ClassFile.FieldType) ∈ lw_tbl := in_t4 _ (List.mem_of_getElem? (i := 13) rfl)
set_option maxRecDepth 20000 in
theorem wd_831 : Cond.methodLink RX7 15 (⟨"java/lang/System", "arraycopy", "(Ljava/lang/Object;ILjava/lang/Object;II)V"⟩ : MethodName) ∈ lw_tbl := in_t4 _ (List.mem_of_getElem? (i := 14) rfl)
set_option maxRecDepth 20000 in
theorem wd_832 : Cond.methodLink RX0 34 yJ9_min_7cf53 ∈ lw_tbl := in_t4 _ (List.mem_of_getElem? (i := 15) rfl)
set_option maxRecDepth 20000 in
theorem wd_833 : Cond.methodLink RX11 200 yX3_burnIn ∈ lw_tbl := in_t4 _ (List.mem_of_getElem? (i := 16) rfl)
set_option maxRecDepth 20000 in
theorem wd_834 : Cond.instanceMethod yX3_burnIn ∈ lw_tbl := in_t4 _ (List.mem_of_getElem? (i := 17) rfl)
set_option maxRecDepth 20000 in
theorem wd_835 : Cond.selects RX3 yX3_burnIn yX3_burnIn ∈ lw_tbl := in_t4 _ (List.mem_of_getElem? (i := 18) rfl)
set_option maxRecDepth 20000 in
theorem wd_836 : Cond.code yX3_burnIn cX3_burnIn 6 (Option.none : Option Jvm.ClassFile.FieldType) ∈ lw_tbl := in_t4 _ (List.mem_of_getElem? (i := 19) rfl)
set_option maxRecDepth 20000 in
theorem wd_837 : Cond.methodLink RX3 97 yX3_warms ∈ lw_tbl := in_t4 _ (List.mem_of_getElem? (i := 20) rfl)
set_option maxRecDepth 20000 in
theorem wd_838 : Cond.methodLink RL 41 yX11_door ∈ lw_tbl := in_t4 _ (List.mem_of_getElem? (i := 21) rfl)
set_option maxRecDepth 20000 in
theorem wd_839 : Cond.instanceMethod yX11_door ∈ lw_tbl := in_t4 _ (List.mem_of_getElem? (i := 22) rfl)
set_option maxRecDepth 20000 in
theorem wd_840 : Cond.selects RX11 yX11_door yX11_door ∈ lw_tbl := in_t4 _ (List.mem_of_getElem? (i := 23) rfl)
set_option maxRecDepth 20000 in
theorem wd_841 : Cond.code yX11_door cX11_door 4 (Option.some Jvm.ClassFile.FieldType.boolean) ∈ lw_tbl := in_t4 _ (List.mem_of_getElem? (i := 24) rfl)
set_option maxRecDepth 20000 in
theorem wd_842 : Cond.methodLink RX11 204 yX7_set ∈ lw_tbl := in_t4 _ (List.mem_of_getElem? (i := 25) rfl)
set_option maxRecDepth 20000 in
theorem wd_843 : Cond.methodLink RL 46 yX11_mend ∈ lw_tbl := in_t4 _ (List.mem_of_getElem? (i := 26) rfl)
set_option maxRecDepth 20000 in
theorem wd_844 : Cond.instanceMethod yX11_mend ∈ lw_tbl := in_t4 _ (List.mem_of_getElem? (i := 27) rfl)
set_option maxRecDepth 20000 in
theorem wd_845 : Cond.selects RX11 yX11_mend yX11_mend ∈ lw_tbl := in_t4 _ (List.mem_of_getElem? (i := 28) rfl)
set_option maxRecDepth 20000 in
theorem wd_846 : Cond.code yX11_mend cX11_mend 3 (Option.some Jvm.ClassFile.FieldType.int) ∈ lw_tbl := in_t4 _ (List.mem_of_getElem? (i := 29) rfl)
set_option maxRecDepth 20000 in
theorem wd_847 : Cond.methodLink RL 50 yX11_cut ∈ lw_tbl := in_t4 _ (List.mem_of_getElem? (i := 30) rfl)
set_option maxRecDepth 20000 in
theorem wd_848 : Cond.instanceMethod yX11_cut ∈ lw_tbl := in_t4 _ (List.mem_of_getElem? (i := 31) rfl)
set_option maxRecDepth 20000 in
theorem wd_849 : Cond.selects RX11 yX11_cut yX11_cut ∈ lw_tbl := in_t4 _ (List.mem_of_getElem? (i := 32) rfl)
set_option maxRecDepth 20000 in
theorem wd_850 : Cond.code yX11_cut cX11_cut 5 (Option.some Jvm.ClassFile.FieldType.int) ∈ lw_tbl := in_t4 _ (List.mem_of_getElem? (i := 33) rfl)
set_option maxRecDepth 20000 in
theorem wd_851 : Cond.methodLink RX11 208 yJ9_min_7cf53 ∈ lw_tbl := in_t4 _ (List.mem_of_getElem? (i := 34) rfl)
set_option maxRecDepth 20000 in
theorem wd_852 : Cond.methodLink RL 54 yX11_bring ∈ lw_tbl := in_t4 _ (List.mem_of_getElem? (i := 35) rfl)
set_option maxRecDepth 20000 in
theorem wd_853 : Cond.instanceMethod yX11_bring ∈ lw_tbl := in_t4 _ (List.mem_of_getElem? (i := 36) rfl)
set_option maxRecDepth 20000 in
theorem wd_854 : Cond.selects RX11 yX11_bring yX11_bring ∈ lw_tbl := in_t4 _ (List.mem_of_getElem? (i := 37) rfl)
set_option maxRecDepth 20000 in
theorem wd_855 : Cond.code yX11_bring cX11_bring 2 (Option.some Jvm.ClassFile.FieldType.int) ∈ lw_tbl := in_t4 _ (List.mem_of_getElem? (i := 38) rfl)
set_option maxRecDepth 20000 in
theorem wd_856 : Cond.methodLink RL 58 yX11_days ∈ lw_tbl := in_t4 _ (List.mem_of_getElem? (i := 39) rfl)
set_option maxRecDepth 20000 in
theorem wd_857 : Cond.instanceMethod yX11_days ∈ lw_tbl := in_t4 _ (List.mem_of_getElem? (i := 40) rfl)
set_option maxRecDepth 20000 in
theorem wd_858 : Cond.selects RX11 yX11_days yX11_days ∈ lw_tbl := in_t4 _ (List.mem_of_getElem? (i := 41) rfl)
set_option maxRecDepth 20000 in
theorem wd_859 : Cond.code yX11_days cX11_days 3 (Option.some Jvm.ClassFile.FieldType.int) ∈ lw_tbl := in_t4 _ (List.mem_of_getElem? (i := 42) rfl)
set_option maxRecDepth 20000 in
theorem wd_860 : Cond.methodLink RX11 213 yX3_passDay ∈ lw_tbl := in_t4 _ (List.mem_of_getElem? (i := 43) rfl)
set_option maxRecDepth 20000 in
theorem wd_861 : Cond.instanceMethod yX3_passDay ∈ lw_tbl := in_t4 _ (List.mem_of_getElem? (i := 44) rfl)
set_option maxRecDepth 20000 in
theorem wd_862 : Cond.selects RX3 yX3_passDay yX3_passDay ∈ lw_tbl := in_t4 _ (List.mem_of_getElem? (i := 45) rfl)
set_option maxRecDepth 20000 in
theorem wd_863 : Cond.code yX3_passDay cX3_passDay 3 (Option.none : Option Jvm.ClassFile.FieldType) ∈ lw_tbl := in_t4 _ (List.mem_of_getElem? (i := 46) rfl)
set_option maxRecDepth 20000 in
theorem wd_864 : Cond.methodLink RX3 110 yX3_passHouse ∈ lw_tbl := in_t4 _ (List.mem_of_getElem? (i := 47) rfl)
set_option maxRecDepth 20000 in
theorem wd_865 : Cond.instanceMethod yX3_passHouse ∈ lw_tbl := in_t4 _ (List.mem_of_getElem? (i := 48) rfl)
set_option maxRecDepth 20000 in
theorem wd_866 : Cond.selects RX3 yX3_passHouse yX3_passHouse ∈ lw_tbl := in_t4 _ (List.mem_of_getElem? (i := 49) rfl)
set_option maxRecDepth 20000 in
theorem wd_867 : Cond.code yX3_passHouse cX3_passHouse 5 (Option.none : Option Jvm.ClassFile.FieldType) ∈ lw_tbl := in_t4 _ (List.mem_of_getElem? (i := 50) rfl)
set_option maxRecDepth 20000 in
theorem wd_868 : Cond.methodLink RX3 101 yX3_fades ∈ lw_tbl := in_t4 _ (List.mem_of_getElem? (i := 51) rfl)
set_option maxRecDepth 20000 in
theorem wd_869 : Cond.methodLink RX3 104 yX3_cools ∈ lw_tbl := in_t4 _ (List.mem_of_getElem? (i := 52) rfl)
set_option maxRecDepth 20000 in
theorem wd_870 : Cond.methodLink RX3 107 yX3_timesCooled ∈ lw_tbl := in_t4 _ (List.mem_of_getElem? (i := 53) rfl)
set_option maxRecDepth 20000 in
theorem wd_871 : Cond.instanceMethod yX3_timesCooled ∈ lw_tbl := in_t4 _ (List.mem_of_getElem? (i := 54) rfl)
set_option maxRecDepth 20000 in
theorem wd_872 : Cond.selects RX3 yX3_timesCooled yX3_timesCooled ∈ lw_tbl := in_t4 _ (List.mem_of_getElem? (i := 55) rfl)
set_option maxRecDepth 20000 in
theorem wd_873 : Cond.code yX3_timesCooled cX3_timesCooled 3 (Option.some Jvm.ClassFile.FieldType.int) ∈ lw_tbl := in_t4 _ (List.mem_of_getElem? (i := 56) rfl)
set_option maxRecDepth 20000 in
theorem wd_874 : Cond.methodLink RX11 216 yX3_hailOn ∈ lw_tbl := in_t4 _ (List.mem_of_getElem? (i := 57) rfl)
set_option maxRecDepth 20000 in
theorem wd_875 : Cond.instanceMethod yX3_hailOn ∈ lw_tbl := in_t4 _ (List.mem_of_getElem? (i := 58) rfl)
set_option maxRecDepth 20000 in
theorem wd_876 : Cond.selects RX3 yX3_hailOn yX3_hailOn ∈ lw_tbl := in_t4 _ (List.mem_of_getElem? (i := 59) rfl)
set_option maxRecDepth 20000 in
theorem wd_877 : Cond.code yX3_hailOn cX3_hailOn 3 (Option.none : Option Jvm.ClassFile.FieldType) ∈ lw_tbl := in_t4 _ (List.mem_of_getElem? (i := 60) rfl)
set_option maxRecDepth 20000 in
theorem wd_878 : Cond.methodLink RX3 114 yX3_struckHouse ∈ lw_tbl := in_t4 _ (List.mem_of_getElem? (i := 61) rfl)
set_option maxRecDepth 20000 in
theorem wd_879 : Cond.instanceMethod yX3_struckHouse ∈ lw_tbl := in_t4 _ (List.mem_of_getElem? (i := 62) rfl)
set_option maxRecDepth 20000 in
theorem wd_880 : Cond.selects RX3 yX3_struckHouse yX3_struckHouse ∈ lw_tbl := in_t4 _ (List.mem_of_getElem? (i := 63) rfl)
set_option maxRecDepth 20000 in
theorem wd_881 : Cond.code yX3_struckHouse cX3_struckHouse 3 (Option.some Jvm.ClassFile.FieldType.int) ∈ lw_tbl := in_t4 _ (List.mem_of_getElem? (i := 64) rfl)
set_option maxRecDepth 20000 in
theorem wd_882 : Cond.methodLink RX3 124 yX3_hails ∈ lw_tbl := in_t4 _ (List.mem_of_getElem? (i := 65) rfl)
set_option maxRecDepth 20000 in
theorem wd_883 : Cond.methodLink RX3 117 yX3_breakPane ∈ lw_tbl := in_t4 _ (List.mem_of_getElem? (i := 66) rfl)
set_option maxRecDepth 20000 in
theorem wd_884 : Cond.instanceMethod yX3_breakPane ∈ lw_tbl := in_t4 _ (List.mem_of_getElem? (i := 67) rfl)
set_option maxRecDepth 20000 in
theorem wd_885 : Cond.selects RX3 yX3_breakPane yX3_breakPane ∈ lw_tbl := in_t4 _ (List.mem_of_getElem? (i := 68) rfl)
set_option maxRecDepth 20000 in
theorem wd_886 : Cond.code yX3_breakPane cX3_breakPane 4 (Option.none : Option Jvm.ClassFile.FieldType) ∈ lw_tbl := in_t4 _ (List.mem_of_getElem? (i := 69) rfl)
set_option maxRecDepth 20000 in
theorem wd_887 : Cond.methodLink RL 62 yX11_undo ∈ lw_tbl := in_t4 _ (List.mem_of_getElem? (i := 70) rfl)
set_option maxRecDepth 20000 in
theorem wd_888 : Cond.instanceMethod yX11_undo ∈ lw_tbl := in_t4 _ (List.mem_of_getElem? (i := 71) rfl)
set_option maxRecDepth 20000 in
theorem wd_889 : Cond.selects RX11 yX11_undo yX11_undo ∈ lw_tbl := in_t4 _ (List.mem_of_getElem? (i := 72) rfl)
set_option maxRecDepth 20000 in
theorem wd_890 : Cond.code yX11_undo cX11_undo 1 (Option.some Jvm.ClassFile.FieldType.boolean) ∈ lw_tbl := in_t4 _ (List.mem_of_getElem? (i := 73) rfl)
set_option maxRecDepth 20000 in
theorem wd_891 : Cond.methodLink RX11 219 yX0_pop ∈ lw_tbl := in_t4 _ (List.mem_of_getElem? (i := 74) rfl)
set_option maxRecDepth 20000 in
theorem wd_892 : Cond.instanceMethod yX0_pop ∈ lw_tbl := in_t4 _ (List.mem_of_getElem? (i := 75) rfl)
set_option maxRecDepth 20000 in
theorem wd_893 : Cond.selects RX0 yX0_pop yX0_pop ∈ lw_tbl := in_t4 _ (List.mem_of_getElem? (i := 76) rfl)
set_option maxRecDepth 20000 in
theorem wd_894 : Cond.code yX0_pop cX0_pop 2 (Option.some Jvm.ClassFile.FieldType.boolean) ∈ lw_tbl := in_t4 _ (List.mem_of_getElem? (i := 77) rfl)
set_option maxRecDepth 20000 in
theorem wd_895 : Cond.methodLink RL 173 yX11_hold ∈ lw_tbl := in_t4 _ (List.mem_of_getElem? (i := 78) rfl)
set_option maxRecDepth 20000 in
theorem wd_896 : Cond.instanceMethod yX11_hold ∈ lw_tbl := in_t4 _ (List.mem_of_getElem? (i := 79) rfl)
set_option maxRecDepth 20000 in
theorem wd_897 : Cond.selects RX11 yX11_hold yX11_hold ∈ lw_tbl := in_t4 _ (List.mem_of_getElem? (i := 80) rfl)
set_option maxRecDepth 20000 in
theorem wd_898 : Cond.code yX11_hold cX11_hold 2 (Option.some Jvm.ClassFile.FieldType.boolean) ∈ lw_tbl := in_t4 _ (List.mem_of_getElem? (i := 81) rfl)
set_option maxRecDepth 20000 in
theorem wd_899 : Cond.methodLink RX11 223 yX0_keep ∈ lw_tbl := in_t4 _ (List.mem_of_getElem? (i := 82) rfl)
set_option maxRecDepth 20000 in
theorem wd_900 : Cond.instanceMethod yX0_keep ∈ lw_tbl := in_t4 _ (List.mem_of_getElem? (i := 83) rfl)
set_option maxRecDepth 20000 in
theorem wd_901 : Cond.selects RX0 yX0_keep yX0_keep ∈ lw_tbl := in_t4 _ (List.mem_of_getElem? (i := 84) rfl)
set_option maxRecDepth 20000 in
theorem wd_902 : Cond.code yX0_keep cX0_keep 3 (Option.some Jvm.ClassFile.FieldType.boolean) ∈ lw_tbl := in_t4 _ (List.mem_of_getElem? (i := 85) rfl)
set_option maxRecDepth 20000 in
theorem wd_903 : Cond.methodLink RL 178 yX11_restore ∈ lw_tbl := in_t4 _ (List.mem_of_getElem? (i := 86) rfl)
set_option maxRecDepth 20000 in
theorem wd_904 : Cond.instanceMethod yX11_restore ∈ lw_tbl := in_t4 _ (List.mem_of_getElem? (i := 87) rfl)
set_option maxRecDepth 20000 in
theorem wd_905 : Cond.selects RX11 yX11_restore yX11_restore ∈ lw_tbl := in_t4 _ (List.mem_of_getElem? (i := 88) rfl)
set_option maxRecDepth 20000 in
theorem wd_906 : Cond.code yX11_restore cX11_restore 2 (Option.some Jvm.ClassFile.FieldType.boolean) ∈ lw_tbl := in_t4 _ (List.mem_of_getElem? (i := 89) rfl)
set_option maxRecDepth 20000 in
theorem wd_907 : Cond.methodLink RX11 227 yX0_fetch ∈ lw_tbl := in_t4 _ (List.mem_of_getElem? (i := 90) rfl)
set_option maxRecDepth 20000 in
theorem wd_908 : Cond.instanceMethod yX0_fetch ∈ lw_tbl := in_t4 _ (List.mem_of_getElem? (i := 91) rfl)
set_option maxRecDepth 20000 in
theorem wd_909 : Cond.selects RX0 yX0_fetch yX0_fetch ∈ lw_tbl := in_t4 _ (List.mem_of_getElem? (i := 92) rfl)
set_option maxRecDepth 20000 in
theorem wd_910 : Cond.code yX0_fetch cX0_fetch 3 (Option.some Jvm.ClassFile.FieldType.boolean) ∈ lw_tbl := in_t4 _ (List.mem_of_getElem? (i := 93) rfl)
set_option maxRecDepth 20000 in
theorem wd_911 : Cond.methodLink RL 67 yX11_loss ∈ lw_tbl := in_t4 _ (List.mem_of_getElem? (i := 94) rfl)
set_option maxRecDepth 20000 in
theorem wd_912 : Cond.instanceMethod yX11_loss ∈ lw_tbl := in_t4 _ (List.mem_of_getElem? (i := 95) rfl)
set_option maxRecDepth 20000 in
theorem wd_913 : Cond.selects RX11 yX11_loss yX11_loss ∈ lw_tbl := in_t4 _ (List.mem_of_getElem? (i := 96) rfl)
set_option maxRecDepth 20000 in
theorem wd_914 : Cond.code yX11_loss cX11_loss 3 (Option.some Jvm.ClassFile.FieldType.int) ∈ lw_tbl := in_t4 _ (List.mem_of_getElem? (i := 97) rfl)
set_option maxRecDepth 20000 in
theorem wd_915 : Cond.methodLink RX11 230 yX11_lossWith ∈ lw_tbl := in_t4 _ (List.mem_of_getElem? (i := 98) rfl)
set_option maxRecDepth 20000 in
theorem wd_917 : Cond.instanceMethod yX11_lossWith ∈ lw_tbl := in_t4 _ (List.mem_of_getElem? (i := 100) rfl)
set_option maxRecDepth 20000 in
theorem wd_918 : Cond.code yX11_lossWith cX11_lossWith 3 (Option.some Jvm.ClassFile.FieldType.int) ∈ lw_tbl := in_t4 _ (List.mem_of_getElem? (i := 101) rfl)
set_option maxRecDepth 20000 in
theorem wd_919 : Cond.methodLink RX11 233 yX7_copyFrom ∈ lw_tbl := in_t4 _ (List.mem_of_getElem? (i := 102) rfl)
set_option maxRecDepth 20000 in
theorem wd_920 : Cond.methodLink RL 71 yX11_share ∈ lw_tbl := in_t4 _ (List.mem_of_getElem? (i := 103) rfl)
set_option maxRecDepth 20000 in
theorem wd_921 : Cond.instanceMethod yX11_share ∈ lw_tbl := in_t4 _ (List.mem_of_getElem? (i := 104) rfl)
set_option maxRecDepth 20000 in
theorem wd_922 : Cond.selects RX11 yX11_share yX11_share ∈ lw_tbl := in_t4 _ (List.mem_of_getElem? (i := 105) rfl)
set_option maxRecDepth 20000 in
theorem wd_923 : Cond.code yX11_share cX11_share 3 (Option.some Jvm.ClassFile.FieldType.int) ∈ lw_tbl := in_t4 _ (List.mem_of_getElem? (i := 106) rfl)
set_option maxRecDepth 20000 in
theorem wd_924 : Cond.methodLink RX11 235 yX6_weigh ∈ lw_tbl := in_t4 _ (List.mem_of_getElem? (i := 107) rfl)
set_option maxRecDepth 20000 in
theorem wd_925 : Cond.instanceMethod yX6_weigh ∈ lw_tbl := in_t4 _ (List.mem_of_getElem? (i := 108) rfl)
set_option maxRecDepth 20000 in
theorem wd_926 : Cond.selects RX6 yX6_weigh yX6_weigh ∈ lw_tbl := in_t4 _ (List.mem_of_getElem? (i := 109) rfl)
set_option maxRecDepth 20000 in
theorem wd_927 : Cond.code yX6_weigh cX6_weigh 8 (Option.none : Option Jvm.ClassFile.FieldType) ∈ lw_tbl := in_t4 _ (List.mem_of_getElem? (i := 110) rfl)
set_option maxRecDepth 20000 in
theorem wd_928 : Cond.methodLink RX6 34 yJ9_min_7cf53 ∈ lw_tbl := in_t4 _ (List.mem_of_getElem? (i := 111) rfl)
set_option maxRecDepth 20000 in
theorem wd_929 : Cond.methodLink RX6 46 yX7_copyFrom ∈ lw_tbl := in_t4 _ (List.mem_of_getElem? (i := 112) rfl)
set_option maxRecDepth 20000 in
theorem wd_930 : Cond.methodLink RX6 50 yX3_burnIn ∈ lw_tbl := in_t4 _ (List.mem_of_getElem? (i := 113) rfl)
set_option maxRecDepth 20000 in
theorem wd_931 : Cond.methodLink RX6 54 yX3_fades ∈ lw_tbl := in_t4 _ (List.mem_of_getElem? (i := 114) rfl)
set_option maxRecDepth 20000 in
theorem wd_932 : Cond.methodLink RX6 58 yX6_fewestBest ∈ lw_tbl := in_t4 _ (List.mem_of_getElem? (i := 115) rfl)
set_option maxRecDepth 20000 in
theorem wd_934 : Cond.instanceMethod yX6_fewestBest ∈ lw_tbl := in_t4 _ (List.mem_of_getElem? (i := 117) rfl)
set_option maxRecDepth 20000 in
theorem wd_935 : Cond.code yX6_fewestBest cX6_fewestBest 6 (Option.some Jvm.ClassFile.FieldType.int) ∈ lw_tbl := in_t4 _ (List.mem_of_getElem? (i := 118) rfl)
set_option maxRecDepth 20000 in
theorem wd_936 : Cond.methodLink RX11 239 yX6_leastLoss ∈ lw_tbl := in_t4 _ (List.mem_of_getElem? (i := 119) rfl)
set_option maxRecDepth 20000 in
theorem wd_937 : Cond.instanceMethod yX6_leastLoss ∈ lw_tbl := in_t4 _ (List.mem_of_getElem? (i := 120) rfl)
set_option maxRecDepth 20000 in
theorem wd_938 : Cond.selects RX6 yX6_leastLoss yX6_leastLoss ∈ lw_tbl := in_t4 _ (List.mem_of_getElem? (i := 121) rfl)
set_option maxRecDepth 20000 in
theorem wd_939 : Cond.code yX6_leastLoss cX6_leastLoss 2 (Option.some Jvm.ClassFile.FieldType.int) ∈ lw_tbl := in_t4 _ (List.mem_of_getElem? (i := 122) rfl)
set_option maxRecDepth 20000 in
theorem wd_940 : Cond.methodLink RX11 242 yX6_shareOut ∈ lw_tbl := in_t4 _ (List.mem_of_getElem? (i := 123) rfl)
set_option maxRecDepth 20000 in
theorem wd_941 : Cond.instanceMethod yX6_shareOut ∈ lw_tbl := in_t4 _ (List.mem_of_getElem? (i := 124) rfl)
set_option maxRecDepth 20000 in
theorem wd_942 : Cond.selects RX6 yX6_shareOut yX6_shareOut ∈ lw_tbl := in_t4 _ (List.mem_of_getElem? (i := 125) rfl)
set_option maxRecDepth 20000 in
theorem wd_943 : Cond.code yX6_shareOut cX6_shareOut 4 (Option.none : Option Jvm.ClassFile.FieldType) ∈ lw_tbl := in_t4 _ (List.mem_of_getElem? (i := 126) rfl)
set_option maxRecDepth 20000 in
theorem wd_944 : Cond.methodLink RX11 245 yX6_givenTo ∈ lw_tbl := in_t4 _ (List.mem_of_getElem? (i := 127) rfl)
set_option maxRecDepth 20000 in
theorem wd_945 : Cond.instanceMethod yX6_givenTo ∈ lw_tbl := in_t4 _ (List.mem_of_getElem? (i := 128) rfl)
set_option maxRecDepth 20000 in
theorem wd_946 : Cond.selects RX6 yX6_givenTo yX6_givenTo ∈ lw_tbl := in_t4 _ (List.mem_of_getElem? (i := 129) rfl)
set_option maxRecDepth 20000 in
theorem wd_947 : Cond.code yX6_givenTo cX6_givenTo 2 (Option.some Jvm.ClassFile.FieldType.int) ∈ lw_tbl := in_t4 _ (List.mem_of_getElem? (i := 130) rfl)
set_option maxRecDepth 20000 in
theorem wd_948 : Cond.methodLink RL 75 yX11_enough ∈ lw_tbl := in_t4 _ (List.mem_of_getElem? (i := 131) rfl)
set_option maxRecDepth 20000 in
theorem wd_949 : Cond.instanceMethod yX11_enough ∈ lw_tbl := in_t4 _ (List.mem_of_getElem? (i := 132) rfl)
set_option maxRecDepth 20000 in
theorem wd_950 : Cond.selects RX11 yX11_enough yX11_enough ∈ lw_tbl := in_t4 _ (List.mem_of_getElem? (i := 133) rfl)
set_option maxRecDepth 20000 in
theorem wd_951 : Cond.code yX11_enough cX11_enough 4 (Option.some Jvm.ClassFile.FieldType.int) ∈ lw_tbl := in_t4 _ (List.mem_of_getElem? (i := 134) rfl)
set_option maxRecDepth 20000 in
theorem wd_952 : Cond.methodLink RX11 248 yX11_coalsNeeded ∈ lw_tbl := in_t4 _ (List.mem_of_getElem? (i := 135) rfl)
set_option maxRecDepth 20000 in
theorem wd_954 : Cond.instanceMethod yX11_coalsNeeded ∈ lw_tbl := in_t4 _ (List.mem_of_getElem? (i := 137) rfl)
set_option maxRecDepth 20000 in
theorem wd_955 : Cond.code yX11_coalsNeeded cX11_coalsNeeded 4 (Option.some Jvm.ClassFile.FieldType.int) ∈ lw_tbl := in_t4 _ (List.mem_of_getElem? (i := 138) rfl)
set_option maxRecDepth 20000 in
theorem wd_956 : Cond.methodLink RL 79 yX11_plan ∈ lw_tbl := in_t4 _ (List.mem_of_getElem? (i := 139) rfl)
set_option maxRecDepth 20000 in
theorem wd_957 : Cond.instanceMethod yX11_plan ∈ lw_tbl := in_t4 _ (List.mem_of_getElem? (i := 140) rfl)
set_option maxRecDepth 20000 in
theorem wd_958 : Cond.selects RX11 yX11_plan yX11_plan ∈ lw_tbl := in_t4 _ (List.mem_of_getElem? (i := 141) rfl)
set_option maxRecDepth 20000 in
theorem wd_959 : Cond.code yX11_plan cX11_plan 6 (Option.some Jvm.ClassFile.FieldType.int) ∈ lw_tbl := in_t4 _ (List.mem_of_getElem? (i := 142) rfl)
set_option maxRecDepth 20000 in
theorem wd_960 : Cond.methodLink RX11 251 yX6_burnGiven ∈ lw_tbl := in_t4 _ (List.mem_of_getElem? (i := 143) rfl)
set_option maxRecDepth 20000 in
theorem wd_961 : Cond.instanceMethod yX6_burnGiven ∈ lw_tbl := in_t4 _ (List.mem_of_getElem? (i := 144) rfl)
set_option maxRecDepth 20000 in
theorem wd_962 : Cond.selects RX6 yX6_burnGiven yX6_burnGiven ∈ lw_tbl := in_t4 _ (List.mem_of_getElem? (i := 145) rfl)
set_option maxRecDepth 20000 in
theorem wd_963 : Cond.code yX6_burnGiven cX6_burnGiven 5 (Option.none : Option Jvm.ClassFile.FieldType) ∈ lw_tbl := in_t4 _ (List.mem_of_getElem? (i := 146) rfl)
set_option maxRecDepth 20000 in
theorem wd_964 : Cond.methodLink RX6 61 yX3_passDay ∈ lw_tbl := in_t4 _ (List.mem_of_getElem? (i := 147) rfl)
set_option maxRecDepth 20000 in
theorem wd_965 : Cond.methodLink RX11 255 yX11_keptByPlan ∈ lw_tbl := in_t4 _ (List.mem_of_getElem? (i := 148) rfl)
set_option maxRecDepth 20000 in
theorem wd_967 : Cond.instanceMethod yX11_keptByPlan ∈ lw_tbl := in_t4 _ (List.mem_of_getElem? (i := 150) rfl)
set_option maxRecDepth 20000 in
theorem wd_968 : Cond.code yX11_keptByPlan cX11_keptByPlan 3 (Option.some Jvm.ClassFile.FieldType.int) ∈ lw_tbl := in_t4 _ (List.mem_of_getElem? (i := 151) rfl)
set_option maxRecDepth 20000 in
theorem wd_969 : Cond.methodLink RL 83 yX11_worst ∈ lw_tbl := in_t4 _ (List.mem_of_getElem? (i := 152) rfl)
set_option maxRecDepth 20000 in
theorem wd_970 : Cond.instanceMethod yX11_worst ∈ lw_tbl := in_t4 _ (List.mem_of_getElem? (i := 153) rfl)
set_option maxRecDepth 20000 in
theorem wd_971 : Cond.selects RX11 yX11_worst yX11_worst ∈ lw_tbl := in_t4 _ (List.mem_of_getElem? (i := 154) rfl)
set_option maxRecDepth 20000 in
theorem wd_972 : Cond.code yX11_worst cX11_worst 6 (Option.some Jvm.ClassFile.FieldType.int) ∈ lw_tbl := in_t4 _ (List.mem_of_getElem? (i := 155) rfl)
set_option maxRecDepth 20000 in
theorem wd_973 : Cond.methodLink RL 87 yX11_lasts ∈ lw_tbl := in_t4 _ (List.mem_of_getElem? (i := 156) rfl)
set_option maxRecDepth 20000 in
theorem wd_974 : Cond.instanceMethod yX11_lasts ∈ lw_tbl := in_t4 _ (List.mem_of_getElem? (i := 157) rfl)
set_option maxRecDepth 20000 in
theorem wd_975 : Cond.selects RX11 yX11_lasts yX11_lasts ∈ lw_tbl := in_t4 _ (List.mem_of_getElem? (i := 158) rfl)
set_option maxRecDepth 20000 in
theorem wd_976 : Cond.code yX11_lasts cX11_lasts 4 (Option.some Jvm.ClassFile.FieldType.int) ∈ lw_tbl := in_t4 _ (List.mem_of_getElem? (i := 159) rfl)
set_option maxRecDepth 20000 in
theorem wd_977 : Cond.methodLink RX11 258 yJ9_max_7cf53 ∈ lw_tbl := in_t4 _ (List.mem_of_getElem? (i := 160) rfl)
set_option maxRecDepth 20000 in
theorem wd_978 : Cond.methodLink RL 91 yX11_gone ∈ lw_tbl := in_t4 _ (List.mem_of_getElem? (i := 161) rfl)
set_option maxRecDepth 20000 in
theorem wd_979 : Cond.instanceMethod yX11_gone ∈ lw_tbl := in_t4 _ (List.mem_of_getElem? (i := 162) rfl)
set_option maxRecDepth 20000 in
theorem wd_980 : Cond.selects RX11 yX11_gone yX11_gone ∈ lw_tbl := in_t4 _ (List.mem_of_getElem? (i := 163) rfl)
set_option maxRecDepth 20000 in
theorem wd_981 : Cond.code yX11_gone cX11_gone 2 (Option.some Jvm.ClassFile.FieldType.int) ∈ lw_tbl := in_t4 _ (List.mem_of_getElem? (i := 164) rfl)
set_option maxRecDepth 20000 in
theorem wd_982 : Cond.methodLink RX11 261 yX11_daysTillNothing ∈ lw_tbl := in_t4 _ (List.mem_of_getElem? (i := 165) rfl)
set_option maxRecDepth 20000 in
theorem wd_984 : Cond.instanceMethod yX11_daysTillNothing ∈ lw_tbl := in_t4 _ (List.mem_of_getElem? (i := 167) rfl)
set_option maxRecDepth 20000 in
theorem wd_985 : Cond.code yX11_daysTillNothing cX11_daysTillNothing 4 (Option.some Jvm.ClassFile.FieldType.int) ∈ lw_tbl := in_t4 _ (List.mem_of_getElem? (i := 168) rfl)
set_option maxRecDepth 20000 in
theorem wd_986 : Cond.methodLink RX11 264 yX3_passHouse ∈ lw_tbl := in_t4 _ (List.mem_of_getElem? (i := 169) rfl)
set_option maxRecDepth 20000 in
theorem wd_987 : Cond.methodLink RL 95 yX11_cold ∈ lw_tbl := in_t4 _ (List.mem_of_getElem? (i := 170) rfl)
set_option maxRecDepth 20000 in
theorem wd_988 : Cond.instanceMethod yX11_cold ∈ lw_tbl := in_t4 _ (List.mem_of_getElem? (i := 171) rfl)
set_option maxRecDepth 20000 in
theorem wd_989 : Cond.selects RX11 yX11_cold yX11_cold ∈ lw_tbl := in_t4 _ (List.mem_of_getElem? (i := 172) rfl)
set_option maxRecDepth 20000 in
theorem wd_990 : Cond.code yX11_cold cX11_cold 2 (Option.some Jvm.ClassFile.FieldType.int) ∈ lw_tbl := in_t4 _ (List.mem_of_getElem? (i := 173) rfl)
set_option maxRecDepth 20000 in
theorem wd_991 : Cond.methodLink RL 119 yX11_saves ∈ lw_tbl := in_t4 _ (List.mem_of_getElem? (i := 174) rfl)
set_option maxRecDepth 20000 in
theorem wd_992 : Cond.instanceMethod yX11_saves ∈ lw_tbl := in_t4 _ (List.mem_of_getElem? (i := 175) rfl)
set_option maxRecDepth 20000 in
theorem wd_993 : Cond.selects RX11 yX11_saves yX11_saves ∈ lw_tbl := in_t4 _ (List.mem_of_getElem? (i := 176) rfl)
set_option maxRecDepth 20000 in
theorem wd_994 : Cond.code yX11_saves cX11_saves 2 (Option.some Jvm.ClassFile.FieldType.int) ∈ lw_tbl := in_t4 _ (List.mem_of_getElem? (i := 177) rfl)
set_option maxRecDepth 20000 in
theorem wd_995 : Cond.methodLink RX11 268 yX11_savedByOne ∈ lw_tbl := in_t4 _ (List.mem_of_getElem? (i := 178) rfl)
set_option maxRecDepth 20000 in
theorem wd_997 : Cond.instanceMethod yX11_savedByOne ∈ lw_tbl := in_t4 _ (List.mem_of_getElem? (i := 180) rfl)
set_option maxRecDepth 20000 in
theorem wd_998 : Cond.code yX11_savedByOne cX11_savedByOne 2 (Option.some Jvm.ClassFile.FieldType.int) ∈ lw_tbl := in_t4 _ (List.mem_of_getElem? (i := 181) rfl)
set_option maxRecDepth 20000 in
theorem wd_999 : Cond.constant RX11 271 (-100000 : Int32) ∈ lw_tbl := in_t4 _ (List.mem_of_getElem? (i := 182) rfl)
set_option maxRecDepth 20000 in
theorem wd_1000 : Cond.methodLink RL 123 yX11_first ∈ lw_tbl := in_t4 _ (List.mem_of_getElem? (i := 183) rfl)
set_option maxRecDepth 20000 in
theorem wd_1001 : Cond.instanceMethod yX11_first ∈ lw_tbl := in_t4 _ (List.mem_of_getElem? (i := 184) rfl)
set_option maxRecDepth 20000 in
theorem wd_1002 : Cond.selects RX11 yX11_first yX11_first ∈ lw_tbl := in_t4 _ (List.mem_of_getElem? (i := 185) rfl)
set_option maxRecDepth 20000 in
theorem wd_1003 : Cond.code yX11_first cX11_first 5 (Option.some Jvm.ClassFile.FieldType.int) ∈ lw_tbl := in_t4 _ (List.mem_of_getElem? (i := 186) rfl)
set_option maxRecDepth 20000 in
theorem wd_1004 : Cond.methodLink RL 131 yX11_draughty ∈ lw_tbl := in_t4 _ (List.mem_of_getElem? (i := 187) rfl)
set_option maxRecDepth 20000 in
theorem wd_1005 : Cond.instanceMethod yX11_draughty ∈ lw_tbl := in_t4 _ (List.mem_of_getElem? (i := 188) rfl)
set_option maxRecDepth 20000 in
theorem wd_1006 : Cond.selects RX11 yX11_draughty yX11_draughty ∈ lw_tbl := in_t4 _ (List.mem_of_getElem? (i := 189) rfl)
set_option maxRecDepth 20000 in
theorem wd_1007 : Cond.code yX11_draughty cX11_draughty 6 (Option.some Jvm.ClassFile.FieldType.int) ∈ lw_tbl := in_t4 _ (List.mem_of_getElem? (i := 190) rfl)
set_option maxRecDepth 20000 in
theorem wd_1008 : Cond.methodLink RX11 272 yX3_timesCooled ∈ lw_tbl := in_t4 _ (List.mem_of_getElem? (i := 191) rfl)
set_option maxRecDepth 20000 in
theorem wd_1009 : Cond.methodLink RL 147 yX11_then ∈ lw_tbl := in_t4 _ (List.mem_of_getElem? (i := 192) rfl)
set_option maxRecDepth 20000 in
theorem wd_1010 : Cond.instanceMethod yX11_then ∈ lw_tbl := in_t4 _ (List.mem_of_getElem? (i := 193) rfl)
set_option maxRecDepth 20000 in
theorem wd_1011 : Cond.selects RX11 yX11_then yX11_then ∈ lw_tbl := in_t4 _ (List.mem_of_getElem? (i := 194) rfl)
set_option maxRecDepth 20000 in
theorem wd_1012 : Cond.code yX11_then cX11_then 4 (Option.some Jvm.ClassFile.FieldType.int) ∈ lw_tbl := in_t4 _ (List.mem_of_getElem? (i := 195) rfl)
set_option maxRecDepth 20000 in
theorem wd_1013 : Cond.methodLink RX11 275 yX11_lookAhead ∈ lw_tbl := in_t4 _ (List.mem_of_getElem? (i := 196) rfl)
set_option maxRecDepth 20000 in
theorem wd_1015 : Cond.instanceMethod yX11_lookAhead ∈ lw_tbl := in_t4 _ (List.mem_of_getElem? (i := 198) rfl)
set_option maxRecDepth 20000 in
theorem wd_1016 : Cond.code yX11_lookAhead cX11_lookAhead 5 (Option.none : Option Jvm.ClassFile.FieldType) ∈ lw_tbl := in_t4 _ (List.mem_of_getElem? (i := 199) rfl)
set_option maxRecDepth 20000 in
theorem wd_1017 : Cond.methodLink RX11 278 yX3_struckHouse ∈ lw_tbl := in_t4 _ (List.mem_of_getElem? (i := 200) rfl)
set_option maxRecDepth 20000 in
theorem wd_1018 : Cond.methodLink RX11 281 yX3_breakPane ∈ lw_tbl := in_t4 _ (List.mem_of_getElem? (i := 201) rfl)
set_option maxRecDepth 20000 in
theorem wd_1019 : Cond.methodLink RL 152 yX11_year ∈ lw_tbl := in_t4 _ (List.mem_of_getElem? (i := 202) rfl)
set_option maxRecDepth 20000 in
theorem wd_1020 : Cond.instanceMethod yX11_year ∈ lw_tbl := in_t4 _ (List.mem_of_getElem? (i := 203) rfl)
set_option maxRecDepth 20000 in
theorem wd_1021 : Cond.selects RX11 yX11_year yX11_year ∈ lw_tbl := in_t4 _ (List.mem_of_getElem? (i := 204) rfl)
set_option maxRecDepth 20000 in
theorem wd_1022 : Cond.code yX11_year cX11_year 6 (Option.some Jvm.ClassFile.FieldType.int) ∈ lw_tbl := in_t4 _ (List.mem_of_getElem? (i := 205) rfl)
set_option maxRecDepth 20000 in
theorem wd_1023 : Cond.methodLink RL 99 yX11_far ∈ lw_tbl := in_t4 _ (List.mem_of_getElem? (i := 206) rfl)
set_option maxRecDepth 20000 in
theorem wd_1024 : Cond.instanceMethod yX11_far ∈ lw_tbl := in_t4 _ (List.mem_of_getElem? (i := 207) rfl)
set_option maxRecDepth 20000 in
theorem wd_1025 : Cond.selects RX11 yX11_far yX11_far ∈ lw_tbl := in_t4 _ (List.mem_of_getElem? (i := 208) rfl)
set_option maxRecDepth 20000 in
theorem wd_1026 : Cond.code yX11_far cX11_far 3 (Option.some Jvm.ClassFile.FieldType.int) ∈ lw_tbl := in_t4 _ (List.mem_of_getElem? (i := 209) rfl)
set_option maxRecDepth 20000 in
theorem wd_1027 : Cond.methodLink RX11 284 yX3_distance ∈ lw_tbl := in_t4 _ (List.mem_of_getElem? (i := 210) rfl)
set_option maxRecDepth 20000 in
theorem wd_1028 : Cond.instanceMethod yX3_distance ∈ lw_tbl := in_t4 _ (List.mem_of_getElem? (i := 211) rfl)
set_option maxRecDepth 20000 in
theorem wd_1029 : Cond.selects RX3 yX3_distance yX3_distance ∈ lw_tbl := in_t4 _ (List.mem_of_getElem? (i := 212) rfl)
set_option maxRecDepth 20000 in
theorem wd_1030 : Cond.code yX3_distance cX3_distance 3 (Option.some Jvm.ClassFile.FieldType.int) ∈ lw_tbl := in_t4 _ (List.mem_of_getElem? (i := 213) rfl)
set_option maxRecDepth 20000 in
theorem wd_1031 : Cond.methodLink RX3 72 yX3_xOf ∈ lw_tbl := in_t4 _ (List.mem_of_getElem? (i := 214) rfl)
set_option maxRecDepth 20000 in
theorem wd_1032 : Cond.methodLink RX3 76 yJ9_abs_0f7a4 ∈ lw_tbl := in_t4 _ (List.mem_of_getElem? (i := 215) rfl)
set_option maxRecDepth 20000 in
theorem wd_1033 : Cond.static yJ9_abs_0f7a4 ∈ lw_tbl := in_t4 _ (List.mem_of_getElem? (i := 216) rfl)
set_option maxRecDepth 20000 in
theorem wd_1034 : Cond.code yJ9_abs_0f7a4 cJ9_abs_0f7a4 1 (Option.some Jvm.ClassFile.FieldType.int) ∈ lw_tbl := in_t4 _ (List.mem_of_getElem? (i := 217) rfl)
set_option maxRecDepth 20000 in
theorem wd_1035 : Cond.methodLink RX3 81 yX3_yOf ∈ lw_tbl := in_t4 _ (List.mem_of_getElem? (i := 218) rfl)
set_option maxRecDepth 20000 in
theorem wd_1036 : Cond.methodLink RL 103 yX11_round ∈ lw_tbl := in_t4 _ (List.mem_of_getElem? (i := 219) rfl)
set_option maxRecDepth 20000 in
theorem wd_1037 : Cond.instanceMethod yX11_round ∈ lw_tbl := in_t4 _ (List.mem_of_getElem? (i := 220) rfl)
set_option maxRecDepth 20000 in
theorem wd_1038 : Cond.selects RX11 yX11_round yX11_round ∈ lw_tbl := in_t4 _ (List.mem_of_getElem? (i := 221) rfl)
set_option maxRecDepth 20000 in
theorem wd_1039 : Cond.code yX11_round cX11_round 2 (Option.some Jvm.ClassFile.FieldType.int) ∈ lw_tbl := in_t4 _ (List.mem_of_getElem? (i := 222) rfl)
set_option maxRecDepth 20000 in
theorem wd_1040 : Cond.methodLink RX11 287 yX10_search ∈ lw_tbl := in_t4 _ (List.mem_of_getElem? (i := 223) rfl)
set_option maxRecDepth 20000 in
theorem wd_1041 : Cond.instanceMethod yX10_search ∈ lw_tbl := in_t4 _ (List.mem_of_getElem? (i := 224) rfl)
set_option maxRecDepth 20000 in
theorem wd_1042 : Cond.selects RX10 yX10_search yX10_search ∈ lw_tbl := in_t4 _ (List.mem_of_getElem? (i := 225) rfl)
set_option maxRecDepth 20000 in
theorem wd_1043 : Cond.code yX10_search cX10_search 3 (Option.none : Option Jvm.ClassFile.FieldType) ∈ lw_tbl := in_t4 _ (List.mem_of_getElem? (i := 226) rfl)
set_option maxRecDepth 20000 in
theorem wd_1044 : Cond.constant RX10 18 (1000000 : Int32) ∈ lw_tbl := in_t4 _ (List.mem_of_getElem? (i := 227) rfl)
set_option maxRecDepth 20000 in
theorem wd_1045 : Cond.methodLink RX10 23 yX10_goOn ∈ lw_tbl := in_t4 _ (List.mem_of_getElem? (i := 228) rfl)
set_option maxRecDepth 20000 in
theorem wd_1047 : Cond.instanceMethod yX10_goOn ∈ lw_tbl := in_t4 _ (List.mem_of_getElem? (i := 230) rfl)
set_option maxRecDepth 20000 in
theorem wd_1048 : Cond.code yX10_goOn cX10_goOn 6 (Option.none : Option Jvm.ClassFile.FieldType) ∈ lw_tbl := in_t4 _ (List.mem_of_getElem? (i := 231) rfl)
set_option maxRecDepth 20000 in
theorem wd_1049 : Cond.methodLink RX10 32 (⟨"java/lang/System", "arraycopy", "(Ljava/lang/Object;ILjava/lang/Object;II)V"⟩ : MethodName) ∈ lw_tbl := in_t4 _ (List.mem_of_getElem? (i := 232) rfl)
set_option maxRecDepth 20000 in
theorem wd_1050 : Cond.methodLink RX10 38 yX3_distance ∈ lw_tbl := in_t4 _ (List.mem_of_getElem? (i := 233) rfl)
set_option maxRecDepth 20000 in
theorem wd_1051 : Cond.methodLink RL 107 yX11_next ∈ lw_tbl := in_t4 _ (List.mem_of_getElem? (i := 234) rfl)
set_option maxRecDepth 20000 in
theorem wd_1052 : Cond.instanceMethod yX11_next ∈ lw_tbl := in_t4 _ (List.mem_of_getElem? (i := 235) rfl)
set_option maxRecDepth 20000 in
theorem wd_1053 : Cond.selects RX11 yX11_next yX11_next ∈ lw_tbl := in_t4 _ (List.mem_of_getElem? (i := 236) rfl)
set_option maxRecDepth 20000 in
theorem wd_1054 : Cond.code yX11_next cX11_next 3 (Option.some Jvm.ClassFile.FieldType.int) ∈ lw_tbl := in_t4 _ (List.mem_of_getElem? (i := 237) rfl)
set_option maxRecDepth 20000 in
theorem wd_1055 : Cond.methodLink RL 111 yX11_pipes ∈ lw_tbl := in_t4 _ (List.mem_of_getElem? (i := 238) rfl)
set_option maxRecDepth 20000 in
theorem wd_1056 : Cond.instanceMethod yX11_pipes ∈ lw_tbl := in_t4 _ (List.mem_of_getElem? (i := 239) rfl)
set_option maxRecDepth 20000 in
theorem wd_1057 : Cond.selects RX11 yX11_pipes yX11_pipes ∈ lw_tbl := in_t5 _ (List.mem_of_getElem? (i := 0) rfl)
set_option maxRecDepth 20000 in
theorem wd_1058 : Cond.code yX11_pipes cX11_pipes 5 (Option.some Jvm.ClassFile.FieldType.int) ∈ lw_tbl := in_t5 _ (List.mem_of_getElem? (i := 1) rfl)
set_option maxRecDepth 20000 in
theorem wd_1059 : Cond.methodLink RX11 297 yX11_nearestToJoined ∈ lw_tbl := in_t5 _ (List.mem_of_getElem? (i := 2) rfl)
set_option maxRecDepth 20000 in
theorem wd_1061 : Cond.instanceMethod yX11_nearestToJoined ∈ lw_tbl := in_t5 _ (List.mem_of_getElem? (i := 4) rfl)
set_option maxRecDepth 20000 in
theorem wd_1062 : Cond.code yX11_nearestToJoined cX11_nearestToJoined 6 (Option.some Jvm.ClassFile.FieldType.int) ∈ lw_tbl := in_t5 _ (List.mem_of_getElem? (i := 5) rfl)
set_option maxRecDepth 20000 in
theorem wd_1063 : Cond.constant RX11 303 (1000000 : Int32) ∈ lw_tbl := in_t5 _ (List.mem_of_getElem? (i := 6) rfl)
set_option maxRecDepth 20000 in
theorem wd_1064 : Cond.methodLink RX11 300 yX11_distanceToJoined ∈ lw_tbl := in_t5 _ (List.mem_of_getElem? (i := 7) rfl)
set_option maxRecDepth 20000 in
theorem wd_1066 : Cond.instanceMethod yX11_distanceToJoined ∈ lw_tbl := in_t5 _ (List.mem_of_getElem? (i := 9) rfl)
set_option maxRecDepth 20000 in
theorem wd_1067 : Cond.code yX11_distanceToJoined cX11_distanceToJoined 5 (Option.some Jvm.ClassFile.FieldType.int) ∈ lw_tbl := in_t5 _ (List.mem_of_getElem? (i := 10) rfl)
set_option maxRecDepth 20000 in
theorem wd_1068 : Cond.methodLink RL 115 yX11_nearest ∈ lw_tbl := in_t5 _ (List.mem_of_getElem? (i := 11) rfl)
set_option maxRecDepth 20000 in
theorem wd_1069 : Cond.instanceMethod yX11_nearest ∈ lw_tbl := in_t5 _ (List.mem_of_getElem? (i := 12) rfl)
set_option maxRecDepth 20000 in
theorem wd_1070 : Cond.selects RX11 yX11_nearest yX11_nearest ∈ lw_tbl := in_t5 _ (List.mem_of_getElem? (i := 13) rfl)
set_option maxRecDepth 20000 in
theorem wd_1071 : Cond.code yX11_nearest cX11_nearest 5 (Option.some Jvm.ClassFile.FieldType.int) ∈ lw_tbl := in_t5 _ (List.mem_of_getElem? (i := 14) rfl)
set_option maxRecDepth 20000 in
theorem wd_1072 : Cond.methodLink RL 127 yX11_twins ∈ lw_tbl := in_t5 _ (List.mem_of_getElem? (i := 15) rfl)
set_option maxRecDepth 20000 in
theorem wd_1073 : Cond.instanceMethod yX11_twins ∈ lw_tbl := in_t5 _ (List.mem_of_getElem? (i := 16) rfl)
set_option maxRecDepth 20000 in
theorem wd_1074 : Cond.selects RX11 yX11_twins yX11_twins ∈ lw_tbl := in_t5 _ (List.mem_of_getElem? (i := 17) rfl)
set_option maxRecDepth 20000 in
theorem wd_1075 : Cond.code yX11_twins cX11_twins 7 (Option.some Jvm.ClassFile.FieldType.int) ∈ lw_tbl := in_t5 _ (List.mem_of_getElem? (i := 18) rfl)
set_option maxRecDepth 20000 in
theorem wd_1076 : Cond.methodLink RX11 304 yX7_keptApart ∈ lw_tbl := in_t5 _ (List.mem_of_getElem? (i := 19) rfl)
set_option maxRecDepth 20000 in
theorem wd_1077 : Cond.instanceMethod yX7_keptApart ∈ lw_tbl := in_t5 _ (List.mem_of_getElem? (i := 20) rfl)
set_option maxRecDepth 20000 in
theorem wd_1078 : Cond.selects RX7 yX7_keptApart yX7_keptApart ∈ lw_tbl := in_t5 _ (List.mem_of_getElem? (i := 21) rfl)
set_option maxRecDepth 20000 in
theorem wd_1079 : Cond.code yX7_keptApart cX7_keptApart 3 (Option.some Jvm.ClassFile.FieldType.int) ∈ lw_tbl := in_t5 _ (List.mem_of_getElem? (i := 22) rfl)
set_option maxRecDepth 20000 in
theorem wd_1080 : Cond.methodLink RX7 38 yJ9_abs_0f7a4 ∈ lw_tbl := in_t5 _ (List.mem_of_getElem? (i := 23) rfl)
set_option maxRecDepth 20000 in
theorem wd_1081 : Cond.methodLink RL 135 yX11_roofs ∈ lw_tbl := in_t5 _ (List.mem_of_getElem? (i := 24) rfl)
set_option maxRecDepth 20000 in
theorem wd_1082 : Cond.instanceMethod yX11_roofs ∈ lw_tbl := in_t5 _ (List.mem_of_getElem? (i := 25) rfl)
set_option maxRecDepth 20000 in
theorem wd_1083 : Cond.selects RX11 yX11_roofs yX11_roofs ∈ lw_tbl := in_t5 _ (List.mem_of_getElem? (i := 26) rfl)
set_option maxRecDepth 20000 in
theorem wd_1084 : Cond.code yX11_roofs cX11_roofs 3 (Option.some Jvm.ClassFile.FieldType.int) ∈ lw_tbl := in_t5 _ (List.mem_of_getElem? (i := 27) rfl)
set_option maxRecDepth 20000 in
theorem wd_1085 : Cond.methodLink RX11 307 yX5_search ∈ lw_tbl := in_t5 _ (List.mem_of_getElem? (i := 28) rfl)
set_option maxRecDepth 20000 in
theorem wd_1086 : Cond.instanceMethod yX5_search ∈ lw_tbl := in_t5 _ (List.mem_of_getElem? (i := 29) rfl)
set_option maxRecDepth 20000 in
theorem wd_1087 : Cond.selects RX5 yX5_search yX5_search ∈ lw_tbl := in_t5 _ (List.mem_of_getElem? (i := 30) rfl)
set_option maxRecDepth 20000 in
theorem wd_1088 : Cond.code yX5_search cX5_search 5 (Option.some Jvm.ClassFile.FieldType.int) ∈ lw_tbl := in_t5 _ (List.mem_of_getElem? (i := 31) rfl)
set_option maxRecDepth 20000 in
theorem wd_1089 : Cond.methodLink RX5 26 yX7_get ∈ lw_tbl := in_t5 _ (List.mem_of_getElem? (i := 32) rfl)
set_option maxRecDepth 20000 in
theorem wd_1090 : Cond.methodLink RX5 33 yX5_coverFrom ∈ lw_tbl := in_t5 _ (List.mem_of_getElem? (i := 33) rfl)
set_option maxRecDepth 20000 in
theorem wd_1092 : Cond.instanceMethod yX5_coverFrom ∈ lw_tbl := in_t5 _ (List.mem_of_getElem? (i := 35) rfl)
set_option maxRecDepth 20000 in
theorem wd_1093 : Cond.code yX5_coverFrom cX5_coverFrom 8 (Option.some Jvm.ClassFile.FieldType.boolean) ∈ lw_tbl := in_t5 _ (List.mem_of_getElem? (i := 36) rfl)
set_option maxRecDepth 20000 in
theorem wd_1094 : Cond.methodLink RX5 37 yJ9_max_7cf53 ∈ lw_tbl := in_t5 _ (List.mem_of_getElem? (i := 37) rfl)
set_option maxRecDepth 20000 in
theorem wd_1095 : Cond.methodLink RL 139 yX11_paired ∈ lw_tbl := in_t5 _ (List.mem_of_getElem? (i := 38) rfl)
set_option maxRecDepth 20000 in
theorem wd_1096 : Cond.instanceMethod yX11_paired ∈ lw_tbl := in_t5 _ (List.mem_of_getElem? (i := 39) rfl)
set_option maxRecDepth 20000 in
theorem wd_1097 : Cond.selects RX11 yX11_paired yX11_paired ∈ lw_tbl := in_t5 _ (List.mem_of_getElem? (i := 40) rfl)
set_option maxRecDepth 20000 in
theorem wd_1098 : Cond.code yX11_paired cX11_paired 2 (Option.some Jvm.ClassFile.FieldType.int) ∈ lw_tbl := in_t5 _ (List.mem_of_getElem? (i := 41) rfl)
set_option maxRecDepth 20000 in
theorem wd_1099 : Cond.methodLink RX11 313 yX2_search ∈ lw_tbl := in_t5 _ (List.mem_of_getElem? (i := 42) rfl)
set_option maxRecDepth 20000 in
theorem wd_1100 : Cond.instanceMethod yX2_search ∈ lw_tbl := in_t5 _ (List.mem_of_getElem? (i := 43) rfl)
set_option maxRecDepth 20000 in
theorem wd_1101 : Cond.selects RX2 yX2_search yX2_search ∈ lw_tbl := in_t5 _ (List.mem_of_getElem? (i := 44) rfl)
set_option maxRecDepth 20000 in
theorem wd_1102 : Cond.code yX2_search cX2_search 3 (Option.none : Option Jvm.ClassFile.FieldType) ∈ lw_tbl := in_t5 _ (List.mem_of_getElem? (i := 45) rfl)
set_option maxRecDepth 20000 in
theorem wd_1103 : Cond.constant RX2 18 (1000000 : Int32) ∈ lw_tbl := in_t5 _ (List.mem_of_getElem? (i := 46) rfl)
set_option maxRecDepth 20000 in
theorem wd_1104 : Cond.methodLink RX2 23 yX2_pairFrom ∈ lw_tbl := in_t5 _ (List.mem_of_getElem? (i := 47) rfl)
set_option maxRecDepth 20000 in
theorem wd_1106 : Cond.instanceMethod yX2_pairFrom ∈ lw_tbl := in_t5 _ (List.mem_of_getElem? (i := 49) rfl)
set_option maxRecDepth 20000 in
theorem wd_1107 : Cond.code yX2_pairFrom cX2_pairFrom 8 (Option.none : Option Jvm.ClassFile.FieldType) ∈ lw_tbl := in_t5 _ (List.mem_of_getElem? (i := 50) rfl)
set_option maxRecDepth 20000 in
theorem wd_1108 : Cond.methodLink RX2 27 (⟨"java/lang/System", "arraycopy", "(Ljava/lang/Object;ILjava/lang/Object;II)V"⟩ : MethodName) ∈ lw_tbl := in_t5 _ (List.mem_of_getElem? (i := 51) rfl)
set_option maxRecDepth 20000 in
theorem wd_1109 : Cond.methodLink RX2 33 yX7_keptApart ∈ lw_tbl := in_t5 _ (List.mem_of_getElem? (i := 52) rfl)
set_option maxRecDepth 20000 in
theorem wd_1110 : Cond.methodLink RX2 39 yX2_mayStayAlone ∈ lw_tbl := in_t5 _ (List.mem_of_getElem? (i := 53) rfl)
set_option maxRecDepth 20000 in
theorem wd_1111 : Cond.static yX2_mayStayAlone ∈ lw_tbl := in_t5 _ (List.mem_of_getElem? (i := 54) rfl)
set_option maxRecDepth 20000 in
theorem wd_1112 : Cond.code yX2_mayStayAlone cX2_mayStayAlone 4 (Option.some Jvm.ClassFile.FieldType.boolean) ∈ lw_tbl := in_t5 _ (List.mem_of_getElem? (i := 55) rfl)
set_option maxRecDepth 20000 in
theorem wd_1113 : Cond.methodLink RL 156 yX11_tell ∈ lw_tbl := in_t5 _ (List.mem_of_getElem? (i := 56) rfl)
set_option maxRecDepth 20000 in
theorem wd_1114 : Cond.instanceMethod yX11_tell ∈ lw_tbl := in_t5 _ (List.mem_of_getElem? (i := 57) rfl)
set_option maxRecDepth 20000 in
theorem wd_1115 : Cond.selects RX11 yX11_tell yX11_tell ∈ lw_tbl := in_t5 _ (List.mem_of_getElem? (i := 58) rfl)
set_option maxRecDepth 20000 in
theorem wd_1116 : Cond.code yX11_tell cX11_tell 4 (Option.some Jvm.ClassFile.FieldType.int) ∈ lw_tbl := in_t5 _ (List.mem_of_getElem? (i := 59) rfl)
set_option maxRecDepth 20000 in
theorem wd_1117 : Cond.methodLink RX11 319 yX9_add ∈ lw_tbl := in_t5 _ (List.mem_of_getElem? (i := 60) rfl)
set_option maxRecDepth 20000 in
theorem wd_1118 : Cond.instanceMethod yX9_add ∈ lw_tbl := in_t5 _ (List.mem_of_getElem? (i := 61) rfl)
set_option maxRecDepth 20000 in
theorem wd_1119 : Cond.selects RX9 yX9_add yX9_add ∈ lw_tbl := in_t5 _ (List.mem_of_getElem? (i := 62) rfl)
set_option maxRecDepth 20000 in
theorem wd_1120 : Cond.code yX9_add cX9_add 4 (Option.some Jvm.ClassFile.FieldType.int) ∈ lw_tbl := in_t5 _ (List.mem_of_getElem? (i := 63) rfl)
set_option maxRecDepth 20000 in
theorem wd_1121 : Cond.methodLink RL 161 yX11_forget ∈ lw_tbl := in_t5 _ (List.mem_of_getElem? (i := 64) rfl)
set_option maxRecDepth 20000 in
theorem wd_1122 : Cond.instanceMethod yX11_forget ∈ lw_tbl := in_t5 _ (List.mem_of_getElem? (i := 65) rfl)
set_option maxRecDepth 20000 in
theorem wd_1123 : Cond.selects RX11 yX11_forget yX11_forget ∈ lw_tbl := in_t5 _ (List.mem_of_getElem? (i := 66) rfl)
set_option maxRecDepth 20000 in
theorem wd_1124 : Cond.code yX11_forget cX11_forget 2 (Option.some Jvm.ClassFile.FieldType.int) ∈ lw_tbl := in_t5 _ (List.mem_of_getElem? (i := 67) rfl)
set_option maxRecDepth 20000 in
theorem wd_1125 : Cond.methodLink RL 165 yX11_whose ∈ lw_tbl := in_t5 _ (List.mem_of_getElem? (i := 68) rfl)
set_option maxRecDepth 20000 in
theorem wd_1126 : Cond.instanceMethod yX11_whose ∈ lw_tbl := in_t5 _ (List.mem_of_getElem? (i := 69) rfl)
set_option maxRecDepth 20000 in
theorem wd_1127 : Cond.selects RX11 yX11_whose yX11_whose ∈ lw_tbl := in_t5 _ (List.mem_of_getElem? (i := 70) rfl)
set_option maxRecDepth 20000 in
theorem wd_1128 : Cond.code yX11_whose cX11_whose 4 (Option.some Jvm.ClassFile.FieldType.int) ∈ lw_tbl := in_t5 _ (List.mem_of_getElem? (i := 71) rfl)
set_option maxRecDepth 20000 in
theorem wd_1129 : Cond.methodLink RX11 323 yX9_fitting ∈ lw_tbl := in_t5 _ (List.mem_of_getElem? (i := 72) rfl)
set_option maxRecDepth 20000 in
theorem wd_1130 : Cond.instanceMethod yX9_fitting ∈ lw_tbl := in_t5 _ (List.mem_of_getElem? (i := 73) rfl)
set_option maxRecDepth 20000 in
theorem wd_1131 : Cond.selects RX9 yX9_fitting yX9_fitting ∈ lw_tbl := in_t5 _ (List.mem_of_getElem? (i := 74) rfl)
set_option maxRecDepth 20000 in
theorem wd_1132 : Cond.code yX9_fitting cX9_fitting 8 (Option.some Jvm.ClassFile.FieldType.int) ∈ lw_tbl := in_t5 _ (List.mem_of_getElem? (i := 75) rfl)
set_option maxRecDepth 20000 in
theorem wd_1133 : Cond.methodLink RX9 35 yX9_isAtLeast ∈ lw_tbl := in_t5 _ (List.mem_of_getElem? (i := 76) rfl)
set_option maxRecDepth 20000 in
theorem wd_1134 : Cond.static yX9_isAtLeast ∈ lw_tbl := in_t5 _ (List.mem_of_getElem? (i := 77) rfl)
set_option maxRecDepth 20000 in
theorem wd_1135 : Cond.code yX9_isAtLeast cX9_isAtLeast 4 (Option.some Jvm.ClassFile.FieldType.boolean) ∈ lw_tbl := in_t5 _ (List.mem_of_getElem? (i := 78) rfl)
set_option maxRecDepth 20000 in
theorem wd_1136 : Cond.fieldLink RX9 26 "SummerHouses$Told" "CELL_OF_MARK" "[I" ∈ lw_tbl := in_t5 _ (List.mem_of_getElem? (i := 79) rfl)
set_option maxRecDepth 20000 in
theorem wd_1138 : Cond.methodLink RX9 29 yX7_get ∈ lw_tbl := in_t5 _ (List.mem_of_getElem? (i := 81) rfl)
set_option maxRecDepth 20000 in
theorem wd_1139 : Cond.methodLink RX11 327 yJ6_bitCount_0f7a4 ∈ lw_tbl := in_t5 _ (List.mem_of_getElem? (i := 82) rfl)
set_option maxRecDepth 20000 in
theorem wd_1140 : Cond.static yJ6_bitCount_0f7a4 ∈ lw_tbl := in_t5 _ (List.mem_of_getElem? (i := 83) rfl)
set_option maxRecDepth 20000 in
theorem wd_1141 : Cond.code yJ6_bitCount_0f7a4 cJ6_bitCount_0f7a4 1 (Option.some Jvm.ClassFile.FieldType.int) ∈ lw_tbl := in_t5 _ (List.mem_of_getElem? (i := 84) rfl)
set_option maxRecDepth 20000 in
theorem wd_1142 : Cond.constant RJ6 265 (1431655765 : Int32) ∈ lw_tbl := in_t5 _ (List.mem_of_getElem? (i := 85) rfl)
set_option maxRecDepth 20000 in
theorem wd_1143 : Cond.constant RJ6 266 (858993459 : Int32) ∈ lw_tbl := in_t5 _ (List.mem_of_getElem? (i := 86) rfl)
set_option maxRecDepth 20000 in
theorem wd_1144 : Cond.constant RJ6 267 (252645135 : Int32) ∈ lw_tbl := in_t5 _ (List.mem_of_getElem? (i := 87) rfl)
set_option maxRecDepth 20000 in
theorem wd_1145 : Cond.methodLink RL 169 yX11_look ∈ lw_tbl := in_t5 _ (List.mem_of_getElem? (i := 88) rfl)
set_option maxRecDepth 20000 in
theorem wd_1146 : Cond.instanceMethod yX11_look ∈ lw_tbl := in_t5 _ (List.mem_of_getElem? (i := 89) rfl)
set_option maxRecDepth 20000 in
theorem wd_1147 : Cond.selects RX11 yX11_look yX11_look ∈ lw_tbl := in_t5 _ (List.mem_of_getElem? (i := 90) rfl)
set_option maxRecDepth 20000 in
theorem wd_1148 : Cond.code yX11_look cX11_look 4 (Option.some Jvm.ClassFile.FieldType.int) ∈ lw_tbl := in_t5 _ (List.mem_of_getElem? (i := 91) rfl)
set_option maxRecDepth 20000 in
theorem wd_1149 : Cond.methodLink RX11 332 yX9_bestMark ∈ lw_tbl := in_t5 _ (List.mem_of_getElem? (i := 92) rfl)
set_option maxRecDepth 20000 in
theorem wd_1150 : Cond.instanceMethod yX9_bestMark ∈ lw_tbl := in_t5 _ (List.mem_of_getElem? (i := 93) rfl)
set_option maxRecDepth 20000 in
theorem wd_1151 : Cond.selects RX9 yX9_bestMark yX9_bestMark ∈ lw_tbl := in_t5 _ (List.mem_of_getElem? (i := 94) rfl)
set_option maxRecDepth 20000 in
theorem wd_1152 : Cond.code yX9_bestMark cX9_bestMark 8 (Option.some Jvm.ClassFile.FieldType.int) ∈ lw_tbl := in_t5 _ (List.mem_of_getElem? (i := 95) rfl)
set_option maxRecDepth 20000 in
theorem wd_1153 : Cond.constant RX9 39 (1000000 : Int32) ∈ lw_tbl := in_t5 _ (List.mem_of_getElem? (i := 96) rfl)
set_option maxRecDepth 20000 in
theorem wd_1154 : Cond.methodLink RX9 40 yX9_leftAtWorst ∈ lw_tbl := in_t5 _ (List.mem_of_getElem? (i := 97) rfl)
set_option maxRecDepth 20000 in
theorem wd_1155 : Cond.static yX9_leftAtWorst ∈ lw_tbl := in_t5 _ (List.mem_of_getElem? (i := 98) rfl)
set_option maxRecDepth 20000 in
theorem wd_1156 : Cond.code yX9_leftAtWorst cX9_leftAtWorst 6 (Option.some Jvm.ClassFile.FieldType.int) ∈ lw_tbl := in_t5 _ (List.mem_of_getElem? (i := 99) rfl)
set_option maxRecDepth 20000 in
theorem wd_1157 : Cond.methodLink RX9 44 yJ6_bitCount_0f7a4 ∈ lw_tbl := in_t5 _ (List.mem_of_getElem? (i := 100) rfl)
set_option maxRecDepth 20000 in
theorem wd_1158 : Cond.methodLink RX9 50 yJ9_max_7cf53 ∈ lw_tbl := in_t5 _ (List.mem_of_getElem? (i := 101) rfl)
set_option maxRecDepth 20000 in
theorem wd_1159 : Cond.classLink RL 10 RX12 ∈ lw_tbl := in_t5 _ (List.mem_of_getElem? (i := 102) rfl)
set_option maxRecDepth 20000 in
theorem wd_1160 : Cond.instantiable RX12 69 ∈ lw_tbl := in_t5 _ (List.mem_of_getElem? (i := 103) rfl)
set_option maxRecDepth 20000 in
theorem wd_1161 : Cond.methodLink RL 12 yX12_init ∈ lw_tbl := in_t5 _ (List.mem_of_getElem? (i := 104) rfl)
set_option maxRecDepth 20000 in
theorem wd_1162 : Cond.instanceMethod yX12_init ∈ lw_tbl := in_t5 _ (List.mem_of_getElem? (i := 105) rfl)
set_option maxRecDepth 20000 in
theorem wd_1163 : Cond.code yX12_init cX12_init 1 (Option.none : Option Jvm.ClassFile.FieldType) ∈ lw_tbl := in_t5 _ (List.mem_of_getElem? (i := 106) rfl)
set_option maxRecDepth 20000 in
theorem wd_1164 : Cond.methodLink RX12 7 objectInit ∈ lw_tbl := in_t5 _ (List.mem_of_getElem? (i := 107) rfl)
set_option maxRecDepth 20000 in
theorem wd_1165 : Cond.methodLink RX12 164 yX12_plain ∈ lw_tbl := in_t5 _ (List.mem_of_getElem? (i := 108) rfl)
set_option maxRecDepth 20000 in
theorem wd_1167 : Cond.instanceMethod yX12_plain ∈ lw_tbl := in_t5 _ (List.mem_of_getElem? (i := 110) rfl)
set_option maxRecDepth 20000 in
theorem wd_1168 : Cond.code yX12_plain cX12_plain 3 (Option.none : Option Jvm.ClassFile.FieldType) ∈ lw_tbl := in_t5 _ (List.mem_of_getElem? (i := 111) rfl)
set_option maxRecDepth 20000 in
theorem wd_1169 : Cond.methodLink RX12 168 yX12_word ∈ lw_tbl := in_t5 _ (List.mem_of_getElem? (i := 112) rfl)
set_option maxRecDepth 20000 in
theorem wd_1170 : Cond.static yX12_word ∈ lw_tbl := in_t5 _ (List.mem_of_getElem? (i := 113) rfl)
set_option maxRecDepth 20000 in
theorem wd_1171 : Cond.code yX12_word cX12_word 7 (Option.some Jvm.ClassFile.FieldType.long) ∈ lw_tbl := in_t5 _ (List.mem_of_getElem? (i := 114) rfl)
set_option maxRecDepth 20000 in
theorem wd_1172 : Cond.methodLink RX12 189 yX12_appends ∈ lw_tbl := in_t5 _ (List.mem_of_getElem? (i := 115) rfl)
set_option maxRecDepth 20000 in
theorem wd_1173 : Cond.static yX12_appends ∈ lw_tbl := in_t5 _ (List.mem_of_getElem? (i := 116) rfl)
set_option maxRecDepth 20000 in
theorem wd_1174 : Cond.code yX12_appends cX12_appends 3 (Option.some Jvm.ClassFile.FieldType.long) ∈ lw_tbl := in_t5 _ (List.mem_of_getElem? (i := 117) rfl)
set_option maxRecDepth 20000 in
theorem wd_1175 : Cond.constantLong RX12 187 (27 : Int64) ∈ lw_tbl := in_t5 _ (List.mem_of_getElem? (i := 118) rfl)
set_option maxRecDepth 20000 in
theorem wd_1176 : Cond.methodLink RX12 172 yX12_begins ∈ lw_tbl := in_t5 _ (List.mem_of_getElem? (i := 119) rfl)
set_option maxRecDepth 20000 in
theorem wd_1178 : Cond.instanceMethod yX12_begins ∈ lw_tbl := in_t5 _ (List.mem_of_getElem? (i := 121) rfl)
set_option maxRecDepth 20000 in
theorem wd_1179 : Cond.code yX12_begins cX12_begins 2 (Option.none : Option Jvm.ClassFile.FieldType) ∈ lw_tbl := in_t5 _ (List.mem_of_getElem? (i := 122) rfl)
set_option maxRecDepth 20000 in
theorem wd_1180 : Cond.methodLink RX12 309 yX12_many ∈ lw_tbl := in_t5 _ (List.mem_of_getElem? (i := 123) rfl)
set_option maxRecDepth 20000 in
theorem wd_1182 : Cond.instanceMethod yX12_many ∈ lw_tbl := in_t5 _ (List.mem_of_getElem? (i := 125) rfl)
set_option maxRecDepth 20000 in
theorem wd_1183 : Cond.code yX12_many cX12_many 1 (Option.some Jvm.ClassFile.FieldType.int) ∈ lw_tbl := in_t5 _ (List.mem_of_getElem? (i := 126) rfl)
set_option maxRecDepth 20000 in
theorem wd_1184 : Cond.methodLink RX12 175 yX12_keepsRow ∈ lw_tbl := in_t5 _ (List.mem_of_getElem? (i := 127) rfl)
set_option maxRecDepth 20000 in
theorem wd_1186 : Cond.instanceMethod yX12_keepsRow ∈ lw_tbl := in_t5 _ (List.mem_of_getElem? (i := 129) rfl)
set_option maxRecDepth 20000 in
theorem wd_1187 : Cond.code yX12_keepsRow cX12_keepsRow 2 (Option.none : Option Jvm.ClassFile.FieldType) ∈ lw_tbl := in_t5 _ (List.mem_of_getElem? (i := 130) rfl)
set_option maxRecDepth 20000 in
theorem wd_1188 : Cond.fieldLink RX12 13 "SummerHousesModel" "tape" "[B" ∈ lw_tbl := in_t5 _ (List.mem_of_getElem? (i := 131) rfl)
set_option maxRecDepth 20000 in
theorem wd_1189 : Cond.fieldLink RX12 178 "SummerHousesModel" "taped" "I" ∈ lw_tbl := in_t5 _ (List.mem_of_getElem? (i := 132) rfl)
set_option maxRecDepth 20000 in
theorem wd_1190 : Cond.fieldLink RX12 17 "SummerHousesModel" "text" "[B" ∈ lw_tbl := in_t5 _ (List.mem_of_getElem? (i := 133) rfl)
set_option maxRecDepth 20000 in
theorem wd_1191 : Cond.fieldLink RX12 184 "SummerHousesModel" "size" "I" ∈ lw_tbl := in_t5 _ (List.mem_of_getElem? (i := 134) rfl)
set_option maxRecDepth 20000 in
theorem wd_1192 : Cond.fieldLink RX12 20 "SummerHousesModel" "tKind" "[I" ∈ lw_tbl := in_t5 _ (List.mem_of_getElem? (i := 135) rfl)
set_option maxRecDepth 20000 in
theorem wd_1193 : Cond.fieldLink RX12 24 "SummerHousesModel" "tPlace" "[I" ∈ lw_tbl := in_t5 _ (List.mem_of_getElem? (i := 136) rfl)
set_option maxRecDepth 20000 in
theorem wd_1194 : Cond.fieldLink RX12 27 "SummerHousesModel" "tValue" "[I" ∈ lw_tbl := in_t5 _ (List.mem_of_getElem? (i := 137) rfl)
set_option maxRecDepth 20000 in
theorem wd_1195 : Cond.fieldLink RX12 30 "SummerHousesModel" "tName" "[J" ∈ lw_tbl := in_t5 _ (List.mem_of_getElem? (i := 138) rfl)
set_option maxRecDepth 20000 in
theorem wd_1196 : Cond.fieldLink RX12 34 "SummerHousesModel" "keys" "[J" ∈ lw_tbl := in_t5 _ (List.mem_of_getElem? (i := 139) rfl)
set_option maxRecDepth 20000 in
theorem wd_1197 : Cond.fieldLink RX12 193 "SummerHousesModel" "tokens" "I" ∈ lw_tbl := in_t5 _ (List.mem_of_getElem? (i := 140) rfl)
set_option maxRecDepth 20000 in
theorem wd_1198 : Cond.fieldLink RX12 218 "SummerHousesModel" "t" "I" ∈ lw_tbl := in_t5 _ (List.mem_of_getElem? (i := 141) rfl)
set_option maxRecDepth 20000 in
theorem wd_1199 : Cond.fieldLink RX12 242 "SummerHousesModel" "open" "I" ∈ lw_tbl := in_t5 _ (List.mem_of_getElem? (i := 142) rfl)
set_option maxRecDepth 20000 in
theorem wd_1200 : Cond.fieldLink RX12 215 "SummerHousesModel" "fault" "I" ∈ lw_tbl := in_t5 _ (List.mem_of_getElem? (i := 143) rfl)
set_option maxRecDepth 20000 in
theorem wd_1201 : Cond.fieldLink RX12 221 "SummerHousesModel" "faultPlace" "I" ∈ lw_tbl := in_t5 _ (List.mem_of_getElem? (i := 144) rfl)
set_option maxRecDepth 20000 in
theorem wd_1202 : Cond.fieldLink RX12 224 "SummerHousesModel" "worst" "I" ∈ lw_tbl := in_t5 _ (List.mem_of_getElem? (i := 145) rfl)
set_option maxRecDepth 20000 in
theorem wd_1203 : Cond.fieldLink RX12 227 "SummerHousesModel" "worstPlace" "I" ∈ lw_tbl := in_t5 _ (List.mem_of_getElem? (i := 146) rfl)
set_option maxRecDepth 20000 in
theorem wd_1204 : Cond.fieldLink RX12 37 "SummerHousesModel" "place" "I" ∈ lw_tbl := in_t5 _ (List.mem_of_getElem? (i := 147) rfl)
set_option maxRecDepth 20000 in
theorem wd_1205 : Cond.fieldLink RX12 245 "SummerHousesModel" "live" "I" ∈ lw_tbl := in_t5 _ (List.mem_of_getElem? (i := 148) rfl)
set_option maxRecDepth 20000 in
theorem wd_1206 : Cond.fieldLink RX12 248 "SummerHousesModel" "side" "I" ∈ lw_tbl := in_t5 _ (List.mem_of_getElem? (i := 149) rfl)
set_option maxRecDepth 20000 in
theorem wd_1207 : Cond.fieldLink RX12 40 "SummerHousesModel" "nameOf" "[J" ∈ lw_tbl := in_t5 _ (List.mem_of_getElem? (i := 150) rfl)
set_option maxRecDepth 20000 in
theorem wd_1208 : Cond.fieldLink RX12 43 "SummerHousesModel" "houses" "[I" ∈ lw_tbl := in_t5 _ (List.mem_of_getElem? (i := 151) rfl)
set_option maxRecDepth 20000 in
theorem wd_1209 : Cond.fieldLink RX12 46 "SummerHousesModel" "panesOf" "[I" ∈ lw_tbl := in_t5 _ (List.mem_of_getElem? (i := 152) rfl)
set_option maxRecDepth 20000 in
theorem wd_1210 : Cond.fieldLink RX12 49 "SummerHousesModel" "heatTold" "[I" ∈ lw_tbl := in_t5 _ (List.mem_of_getElem? (i := 153) rfl)
set_option maxRecDepth 20000 in
theorem wd_1211 : Cond.fieldLink RX12 52 "SummerHousesModel" "keptTold" "[I" ∈ lw_tbl := in_t5 _ (List.mem_of_getElem? (i := 154) rfl)
set_option maxRecDepth 20000 in
theorem wd_1212 : Cond.fieldLink RX12 55 "SummerHousesModel" "xOf" "[I" ∈ lw_tbl := in_t5 _ (List.mem_of_getElem? (i := 155) rfl)
set_option maxRecDepth 20000 in
theorem wd_1213 : Cond.fieldLink RX12 58 "SummerHousesModel" "yOf" "[I" ∈ lw_tbl := in_t5 _ (List.mem_of_getElem? (i := 156) rfl)
set_option maxRecDepth 20000 in
theorem wd_1214 : Cond.fieldLink RX12 61 "SummerHousesModel" "coalsTold" "[I" ∈ lw_tbl := in_t5 _ (List.mem_of_getElem? (i := 157) rfl)
set_option maxRecDepth 20000 in
theorem wd_1215 : Cond.fieldLink RX12 64 "SummerHousesModel" "roof" "[I" ∈ lw_tbl := in_t5 _ (List.mem_of_getElem? (i := 158) rfl)
set_option maxRecDepth 20000 in
theorem wd_1216 : Cond.fieldLink RX12 67 "SummerHousesModel" "hail" "[I" ∈ lw_tbl := in_t5 _ (List.mem_of_getElem? (i := 159) rfl)
set_option maxRecDepth 20000 in
theorem wd_1217 : Cond.fieldLink RX12 70 "SummerHousesModel" "seed" "[I" ∈ lw_tbl := in_t5 _ (List.mem_of_getElem? (i := 160) rfl)
set_option maxRecDepth 20000 in
theorem wd_1218 : Cond.fieldLink RX12 73 "SummerHousesModel" "lawFirst" "[I" ∈ lw_tbl := in_t5 _ (List.mem_of_getElem? (i := 161) rfl)
set_option maxRecDepth 20000 in
theorem wd_1219 : Cond.fieldLink RX12 76 "SummerHousesModel" "lawLast" "[I" ∈ lw_tbl := in_t5 _ (List.mem_of_getElem? (i := 162) rfl)
set_option maxRecDepth 20000 in
theorem wd_1220 : Cond.fieldLink RX12 251 "SummerHousesModel" "branches" "I" ∈ lw_tbl := in_t5 _ (List.mem_of_getElem? (i := 163) rfl)
set_option maxRecDepth 20000 in
theorem wd_1221 : Cond.fieldLink RX12 79 "SummerHousesModel" "hasTest" "[Z" ∈ lw_tbl := in_t5 _ (List.mem_of_getElem? (i := 164) rfl)
set_option maxRecDepth 20000 in
theorem wd_1222 : Cond.fieldLink RX12 83 "SummerHousesModel" "testFrom" "[I" ∈ lw_tbl := in_t5 _ (List.mem_of_getElem? (i := 165) rfl)
set_option maxRecDepth 20000 in
theorem wd_1223 : Cond.fieldLink RX12 86 "SummerHousesModel" "testMid" "[I" ∈ lw_tbl := in_t5 _ (List.mem_of_getElem? (i := 166) rfl)
set_option maxRecDepth 20000 in
theorem wd_1224 : Cond.fieldLink RX12 89 "SummerHousesModel" "testTo" "[I" ∈ lw_tbl := in_t5 _ (List.mem_of_getElem? (i := 167) rfl)
set_option maxRecDepth 20000 in
theorem wd_1225 : Cond.fieldLink RX12 92 "SummerHousesModel" "termTo" "[I" ∈ lw_tbl := in_t5 _ (List.mem_of_getElem? (i := 168) rfl)
set_option maxRecDepth 20000 in
theorem wd_1226 : Cond.fieldLink RX12 254 "SummerHousesModel" "codes" "I" ∈ lw_tbl := in_t5 _ (List.mem_of_getElem? (i := 169) rfl)
set_option maxRecDepth 20000 in
theorem wd_1227 : Cond.fieldLink RX12 95 "SummerHousesModel" "code" "[I" ∈ lw_tbl := in_t5 _ (List.mem_of_getElem? (i := 170) rfl)
set_option maxRecDepth 20000 in
theorem wd_1228 : Cond.fieldLink RX12 98 "SummerHousesModel" "codeInt" "[I" ∈ lw_tbl := in_t5 _ (List.mem_of_getElem? (i := 171) rfl)
set_option maxRecDepth 20000 in
theorem wd_1229 : Cond.fieldLink RX12 101 "SummerHousesModel" "waits" "[I" ∈ lw_tbl := in_t5 _ (List.mem_of_getElem? (i := 172) rfl)
set_option maxRecDepth 20000 in
theorem wd_1230 : Cond.fieldLink RX12 292 "SummerHousesModel" "waiting" "I" ∈ lw_tbl := in_t5 _ (List.mem_of_getElem? (i := 173) rfl)
set_option maxRecDepth 20000 in
theorem wd_1231 : Cond.fieldLink RX12 104 "SummerHousesModel" "variables" "[I" ∈ lw_tbl := in_t5 _ (List.mem_of_getElem? (i := 174) rfl)
set_option maxRecDepth 20000 in
theorem wd_1232 : Cond.fieldLink RX12 107 "SummerHousesModel" "pile" "[I" ∈ lw_tbl := in_t5 _ (List.mem_of_getElem? (i := 175) rfl)
set_option maxRecDepth 20000 in
theorem wd_1233 : Cond.fieldLink RX12 305 "SummerHousesModel" "isBroken" "Z" ∈ lw_tbl := in_t5 _ (List.mem_of_getElem? (i := 176) rfl)
set_option maxRecDepth 20000 in
theorem wd_1234 : Cond.fieldLink RX12 110 "SummerHousesModel" "now" "[I" ∈ lw_tbl := in_t5 _ (List.mem_of_getElem? (i := 177) rfl)
set_option maxRecDepth 20000 in
theorem wd_1235 : Cond.fieldLink RX12 113 "SummerHousesModel" "row" "[I" ∈ lw_tbl := in_t5 _ (List.mem_of_getElem? (i := 178) rfl)
set_option maxRecDepth 20000 in
theorem wd_1236 : Cond.fieldLink RX12 317 "SummerHousesModel" "lots" "I" ∈ lw_tbl := in_t5 _ (List.mem_of_getElem? (i := 179) rfl)
set_option maxRecDepth 20000 in
theorem wd_1237 : Cond.fieldLink RX12 320 "SummerHousesModel" "isStill" "Z" ∈ lw_tbl := in_t5 _ (List.mem_of_getElem? (i := 180) rfl)
set_option maxRecDepth 20000 in
theorem wd_1238 : Cond.fieldLink RX12 116 "SummerHousesModel" "fadesNow" "[I" ∈ lw_tbl := in_t5 _ (List.mem_of_getElem? (i := 181) rfl)
set_option maxRecDepth 20000 in
theorem wd_1239 : Cond.fieldLink RX12 119 "SummerHousesModel" "chillNow" "[I" ∈ lw_tbl := in_t5 _ (List.mem_of_getElem? (i := 182) rfl)
set_option maxRecDepth 20000 in
theorem wd_1240 : Cond.fieldLink RX12 260 "SummerHousesModel" "undos" "I" ∈ lw_tbl := in_t5 _ (List.mem_of_getElem? (i := 183) rfl)
set_option maxRecDepth 20000 in
theorem wd_1241 : Cond.fieldLink RX12 122 "SummerHousesModel" "history" "[I" ∈ lw_tbl := in_t5 _ (List.mem_of_getElem? (i := 184) rfl)
set_option maxRecDepth 20000 in
theorem wd_1242 : Cond.fieldLink RX12 125 "SummerHousesModel" "lossBy" "[I" ∈ lw_tbl := in_t5 _ (List.mem_of_getElem? (i := 185) rfl)
set_option maxRecDepth 20000 in
theorem wd_1243 : Cond.fieldLink RX12 128 "SummerHousesModel" "leastBy" "[I" ∈ lw_tbl := in_t5 _ (List.mem_of_getElem? (i := 186) rfl)
set_option maxRecDepth 20000 in
theorem wd_1244 : Cond.fieldLink RX12 131 "SummerHousesModel" "dayOne" "[I" ∈ lw_tbl := in_t5 _ (List.mem_of_getElem? (i := 187) rfl)
set_option maxRecDepth 20000 in
theorem wd_1245 : Cond.fieldLink RX12 134 "SummerHousesModel" "restBy" "[I" ∈ lw_tbl := in_t5 _ (List.mem_of_getElem? (i := 188) rfl)
set_option maxRecDepth 20000 in
theorem wd_1246 : Cond.fieldLink RX12 137 "SummerHousesModel" "roofOf" "[I" ∈ lw_tbl := in_t5 _ (List.mem_of_getElem? (i := 189) rfl)
set_option maxRecDepth 20000 in
theorem wd_1247 : Cond.fieldLink RX12 140 "SummerHousesModel" "bestRoof" "[I" ∈ lw_tbl := in_t5 _ (List.mem_of_getElem? (i := 190) rfl)
set_option maxRecDepth 20000 in
theorem wd_1248 : Cond.fieldLink RX12 143 "SummerHousesModel" "panesUnder" "[I" ∈ lw_tbl := in_t5 _ (List.mem_of_getElem? (i := 191) rfl)
set_option maxRecDepth 20000 in
theorem wd_1249 : Cond.fieldLink RX12 146 "SummerHousesModel" "pairedBy" "[I" ∈ lw_tbl := in_t5 _ (List.mem_of_getElem? (i := 192) rfl)
set_option maxRecDepth 20000 in
theorem wd_1250 : Cond.fieldLink RX12 263 "SummerHousesModel" "tolds" "I" ∈ lw_tbl := in_t5 _ (List.mem_of_getElem? (i := 193) rfl)
set_option maxRecDepth 20000 in
theorem wd_1251 : Cond.fieldLink RX12 149 "SummerHousesModel" "toldMark" "[I" ∈ lw_tbl := in_t5 _ (List.mem_of_getElem? (i := 194) rfl)
set_option maxRecDepth 20000 in
theorem wd_1252 : Cond.fieldLink RX12 152 "SummerHousesModel" "toldBy" "[I" ∈ lw_tbl := in_t5 _ (List.mem_of_getElem? (i := 195) rfl)
set_option maxRecDepth 20000 in
theorem wd_1253 : Cond.fieldLink RX12 155 "SummerHousesModel" "toldSo" "[Z" ∈ lw_tbl := in_t5 _ (List.mem_of_getElem? (i := 196) rfl)
set_option maxRecDepth 20000 in
theorem wd_1254 : Cond.fieldLink RX12 158 "SummerHousesModel" "isHeld" "[Z" ∈ lw_tbl := in_t5 _ (List.mem_of_getElem? (i := 197) rfl)
set_option maxRecDepth 20000 in
theorem wd_1255 : Cond.fieldLink RX12 161 "SummerHousesModel" "heldRows" "[I" ∈ lw_tbl := in_t5 _ (List.mem_of_getElem? (i := 198) rfl)
set_option maxRecDepth 20000 in
theorem wd_1395 : Cond.methodLink RL 17 yX12_feed ∈ lw_tbl := in_t6 _ (List.mem_of_getElem? (i := 98) rfl)
set_option maxRecDepth 20000 in
theorem wd_1396 : Cond.instanceMethod yX12_feed ∈ lw_tbl := in_t6 _ (List.mem_of_getElem? (i := 99) rfl)
set_option maxRecDepth 20000 in
theorem wd_1397 : Cond.selects RX12 yX12_feed yX12_feed ∈ lw_tbl := in_t6 _ (List.mem_of_getElem? (i := 100) rfl)
set_option maxRecDepth 20000 in
theorem wd_1398 : Cond.code yX12_feed cX12_feed 6 (Option.some Jvm.ClassFile.FieldType.int) ∈ lw_tbl := in_t6 _ (List.mem_of_getElem? (i := 101) rfl)
set_option maxRecDepth 20000 in
theorem wd_1399 : Cond.methodLink RX12 181 yX12_put ∈ lw_tbl := in_t6 _ (List.mem_of_getElem? (i := 102) rfl)
set_option maxRecDepth 20000 in
theorem wd_1401 : Cond.instanceMethod yX12_put ∈ lw_tbl := in_t6 _ (List.mem_of_getElem? (i := 104) rfl)
set_option maxRecDepth 20000 in
theorem wd_1402 : Cond.code yX12_put cX12_put 3 (Option.none : Option Jvm.ClassFile.FieldType) ∈ lw_tbl := in_t6 _ (List.mem_of_getElem? (i := 105) rfl)
set_option maxRecDepth 20000 in
theorem wd_1403 : Cond.methodLink RL 22 yX12_back ∈ lw_tbl := in_t6 _ (List.mem_of_getElem? (i := 106) rfl)
set_option maxRecDepth 20000 in
theorem wd_1404 : Cond.instanceMethod yX12_back ∈ lw_tbl := in_t6 _ (List.mem_of_getElem? (i := 107) rfl)
set_option maxRecDepth 20000 in
theorem wd_1405 : Cond.selects RX12 yX12_back yX12_back ∈ lw_tbl := in_t6 _ (List.mem_of_getElem? (i := 108) rfl)
set_option maxRecDepth 20000 in
theorem wd_1406 : Cond.code yX12_back cX12_back 2 (Option.some Jvm.ClassFile.FieldType.int) ∈ lw_tbl := in_t6 _ (List.mem_of_getElem? (i := 109) rfl)
set_option maxRecDepth 20000 in
theorem wd_1407 : Cond.methodLink RL 27 yX12_read ∈ lw_tbl := in_t6 _ (List.mem_of_getElem? (i := 110) rfl)
set_option maxRecDepth 20000 in
theorem wd_1408 : Cond.instanceMethod yX12_read ∈ lw_tbl := in_t6 _ (List.mem_of_getElem? (i := 111) rfl)
set_option maxRecDepth 20000 in
theorem wd_1409 : Cond.selects RX12 yX12_read yX12_read ∈ lw_tbl := in_t6 _ (List.mem_of_getElem? (i := 112) rfl)
set_option maxRecDepth 20000 in
theorem wd_1410 : Cond.code yX12_read cX12_read 2 (Option.some Jvm.ClassFile.FieldType.int) ∈ lw_tbl := in_t6 _ (List.mem_of_getElem? (i := 113) rfl)
set_option maxRecDepth 20000 in
theorem wd_1411 : Cond.methodLink RX12 239 yX12_cutsUp ∈ lw_tbl := in_t6 _ (List.mem_of_getElem? (i := 114) rfl)
set_option maxRecDepth 20000 in
theorem wd_1413 : Cond.instanceMethod yX12_cutsUp ∈ lw_tbl := in_t6 _ (List.mem_of_getElem? (i := 116) rfl)
set_option maxRecDepth 20000 in
theorem wd_1414 : Cond.code yX12_cutsUp cX12_cutsUp 8 (Option.none : Option Jvm.ClassFile.FieldType) ∈ lw_tbl := in_t6 _ (List.mem_of_getElem? (i := 117) rfl)
set_option maxRecDepth 20000 in
theorem wd_1415 : Cond.methodLink RX12 196 yX12_byteAt ∈ lw_tbl := in_t6 _ (List.mem_of_getElem? (i := 118) rfl)
set_option maxRecDepth 20000 in
theorem wd_1417 : Cond.instanceMethod yX12_byteAt ∈ lw_tbl := in_t6 _ (List.mem_of_getElem? (i := 120) rfl)
set_option maxRecDepth 20000 in
theorem wd_1418 : Cond.code yX12_byteAt cX12_byteAt 2 (Option.some Jvm.ClassFile.FieldType.int) ∈ lw_tbl := in_t6 _ (List.mem_of_getElem? (i := 121) rfl)
set_option maxRecDepth 20000 in
theorem wd_1419 : Cond.methodLink RX12 200 yX12_token ∈ lw_tbl := in_t6 _ (List.mem_of_getElem? (i := 122) rfl)
set_option maxRecDepth 20000 in
theorem wd_1421 : Cond.instanceMethod yX12_token ∈ lw_tbl := in_t6 _ (List.mem_of_getElem? (i := 124) rfl)
set_option maxRecDepth 20000 in
theorem wd_1422 : Cond.code yX12_token cX12_token 6 (Option.none : Option Jvm.ClassFile.FieldType) ∈ lw_tbl := in_t6 _ (List.mem_of_getElem? (i := 125) rfl)
set_option maxRecDepth 20000 in
theorem wd_1423 : Cond.methodLink RX12 204 yX12_isLetter ∈ lw_tbl := in_t6 _ (List.mem_of_getElem? (i := 126) rfl)
set_option maxRecDepth 20000 in
theorem wd_1424 : Cond.static yX12_isLetter ∈ lw_tbl := in_t6 _ (List.mem_of_getElem? (i := 127) rfl)
set_option maxRecDepth 20000 in
theorem wd_1425 : Cond.code yX12_isLetter cX12_isLetter 1 (Option.some Jvm.ClassFile.FieldType.boolean) ∈ lw_tbl := in_t6 _ (List.mem_of_getElem? (i := 128) rfl)
set_option maxRecDepth 20000 in
theorem wd_1426 : Cond.methodLink RX12 208 yX12_isDigit ∈ lw_tbl := in_t6 _ (List.mem_of_getElem? (i := 129) rfl)
set_option maxRecDepth 20000 in
theorem wd_1427 : Cond.static yX12_isDigit ∈ lw_tbl := in_t6 _ (List.mem_of_getElem? (i := 130) rfl)
set_option maxRecDepth 20000 in
theorem wd_1428 : Cond.code yX12_isDigit cX12_isDigit 1 (Option.some Jvm.ClassFile.FieldType.boolean) ∈ lw_tbl := in_t6 _ (List.mem_of_getElem? (i := 131) rfl)
set_option maxRecDepth 20000 in
theorem wd_1429 : Cond.methodLink RX12 211 yX12_sign ∈ lw_tbl := in_t6 _ (List.mem_of_getElem? (i := 132) rfl)
set_option maxRecDepth 20000 in
theorem wd_1431 : Cond.instanceMethod yX12_sign ∈ lw_tbl := in_t6 _ (List.mem_of_getElem? (i := 134) rfl)
set_option maxRecDepth 20000 in
theorem wd_1432 : Cond.code yX12_sign cX12_sign 5 (Option.some Jvm.ClassFile.FieldType.int) ∈ lw_tbl := in_t6 _ (List.mem_of_getElem? (i := 135) rfl)
set_option maxRecDepth 20000 in
theorem wd_1433 : Cond.methodLink RX12 233 yX12_is ∈ lw_tbl := in_t6 _ (List.mem_of_getElem? (i := 136) rfl)
set_option maxRecDepth 20000 in
theorem wd_1435 : Cond.instanceMethod yX12_is ∈ lw_tbl := in_t6 _ (List.mem_of_getElem? (i := 138) rfl)
set_option maxRecDepth 20000 in
theorem wd_1436 : Cond.code yX12_is cX12_is 2 (Option.some Jvm.ClassFile.FieldType.boolean) ∈ lw_tbl := in_t6 _ (List.mem_of_getElem? (i := 139) rfl)
set_option maxRecDepth 20000 in
theorem wd_1437 : Cond.methodLink RX12 257 yX12_tellOne ∈ lw_tbl := in_t6 _ (List.mem_of_getElem? (i := 140) rfl)
set_option maxRecDepth 20000 in
theorem wd_1439 : Cond.instanceMethod yX12_tellOne ∈ lw_tbl := in_t6 _ (List.mem_of_getElem? (i := 142) rfl)
set_option maxRecDepth 20000 in
theorem wd_1440 : Cond.code yX12_tellOne cX12_tellOne 2 (Option.none : Option Jvm.ClassFile.FieldType) ∈ lw_tbl := in_t6 _ (List.mem_of_getElem? (i := 143) rfl)
set_option maxRecDepth 20000 in
theorem wd_1441 : Cond.methodLink RX12 230 yX12_fail ∈ lw_tbl := in_t6 _ (List.mem_of_getElem? (i := 144) rfl)
set_option maxRecDepth 20000 in
theorem wd_1443 : Cond.instanceMethod yX12_fail ∈ lw_tbl := in_t6 _ (List.mem_of_getElem? (i := 146) rfl)
set_option maxRecDepth 20000 in
theorem wd_1444 : Cond.code yX12_fail cX12_fail 2 (Option.none : Option Jvm.ClassFile.FieldType) ∈ lw_tbl := in_t6 _ (List.mem_of_getElem? (i := 147) rfl)
set_option maxRecDepth 20000 in
theorem wd_1445 : Cond.methodLink RX12 273 yX12_tellHouse ∈ lw_tbl := in_t6 _ (List.mem_of_getElem? (i := 148) rfl)
set_option maxRecDepth 20000 in
theorem wd_1447 : Cond.instanceMethod yX12_tellHouse ∈ lw_tbl := in_t6 _ (List.mem_of_getElem? (i := 150) rfl)
set_option maxRecDepth 20000 in
theorem wd_1448 : Cond.code yX12_tellHouse cX12_tellHouse 4 (Option.none : Option Jvm.ClassFile.FieldType) ∈ lw_tbl := in_t6 _ (List.mem_of_getElem? (i := 151) rfl)
set_option maxRecDepth 20000 in
theorem wd_1449 : Cond.methodLink RX12 236 yX12_goesOn ∈ lw_tbl := in_t6 _ (List.mem_of_getElem? (i := 152) rfl)
set_option maxRecDepth 20000 in
theorem wd_1451 : Cond.instanceMethod yX12_goesOn ∈ lw_tbl := in_t6 _ (List.mem_of_getElem? (i := 154) rfl)
set_option maxRecDepth 20000 in
theorem wd_1452 : Cond.code yX12_goesOn cX12_goesOn 1 (Option.none : Option Jvm.ClassFile.FieldType) ∈ lw_tbl := in_t6 _ (List.mem_of_getElem? (i := 155) rfl)
set_option maxRecDepth 20000 in
theorem wd_1453 : Cond.methodLink RX12 270 yX12_must ∈ lw_tbl := in_t6 _ (List.mem_of_getElem? (i := 156) rfl)
set_option maxRecDepth 20000 in
theorem wd_1455 : Cond.instanceMethod yX12_must ∈ lw_tbl := in_t6 _ (List.mem_of_getElem? (i := 158) rfl)
set_option maxRecDepth 20000 in
theorem wd_1456 : Cond.code yX12_must cX12_must 2 (Option.none : Option Jvm.ClassFile.FieldType) ∈ lw_tbl := in_t6 _ (List.mem_of_getElem? (i := 159) rfl)
set_option maxRecDepth 20000 in
theorem wd_1457 : Cond.methodLink RX12 282 yX12_wrong ∈ lw_tbl := in_t6 _ (List.mem_of_getElem? (i := 160) rfl)
set_option maxRecDepth 20000 in
theorem wd_1459 : Cond.instanceMethod yX12_wrong ∈ lw_tbl := in_t6 _ (List.mem_of_getElem? (i := 162) rfl)
set_option maxRecDepth 20000 in
theorem wd_1460 : Cond.code yX12_wrong cX12_wrong 4 (Option.none : Option Jvm.ClassFile.FieldType) ∈ lw_tbl := in_t6 _ (List.mem_of_getElem? (i := 163) rfl)
set_option maxRecDepth 20000 in
theorem wd_1461 : Cond.methodLink RX12 266 yX12_bounded ∈ lw_tbl := in_t6 _ (List.mem_of_getElem? (i := 164) rfl)
set_option maxRecDepth 20000 in
theorem wd_1463 : Cond.instanceMethod yX12_bounded ∈ lw_tbl := in_t6 _ (List.mem_of_getElem? (i := 166) rfl)
set_option maxRecDepth 20000 in
theorem wd_1464 : Cond.code yX12_bounded cX12_bounded 4 (Option.some Jvm.ClassFile.FieldType.int) ∈ lw_tbl := in_t6 _ (List.mem_of_getElem? (i := 167) rfl)
set_option maxRecDepth 20000 in
theorem wd_1465 : Cond.methodLink RX12 276 yX12_toldInt ∈ lw_tbl := in_t6 _ (List.mem_of_getElem? (i := 168) rfl)
set_option maxRecDepth 20000 in
theorem wd_1467 : Cond.instanceMethod yX12_toldInt ∈ lw_tbl := in_t6 _ (List.mem_of_getElem? (i := 170) rfl)
set_option maxRecDepth 20000 in
theorem wd_1468 : Cond.code yX12_toldInt cX12_toldInt 4 (Option.some Jvm.ClassFile.FieldType.int) ∈ lw_tbl := in_t6 _ (List.mem_of_getElem? (i := 171) rfl)
set_option maxRecDepth 20000 in
theorem wd_1469 : Cond.methodLink RX12 279 yX12_tellLaw ∈ lw_tbl := in_t6 _ (List.mem_of_getElem? (i := 172) rfl)
set_option maxRecDepth 20000 in
theorem wd_1471 : Cond.instanceMethod yX12_tellLaw ∈ lw_tbl := in_t6 _ (List.mem_of_getElem? (i := 174) rfl)
set_option maxRecDepth 20000 in
theorem wd_1472 : Cond.code yX12_tellLaw cX12_tellLaw 4 (Option.none : Option Jvm.ClassFile.FieldType) ∈ lw_tbl := in_t6 _ (List.mem_of_getElem? (i := 175) rfl)
set_option maxRecDepth 20000 in
theorem wd_1473 : Cond.methodLink RX12 286 yX12_expression ∈ lw_tbl := in_t6 _ (List.mem_of_getElem? (i := 176) rfl)
set_option maxRecDepth 20000 in
theorem wd_1475 : Cond.instanceMethod yX12_expression ∈ lw_tbl := in_t6 _ (List.mem_of_getElem? (i := 178) rfl)
set_option maxRecDepth 20000 in
theorem wd_1476 : Cond.code yX12_expression cX12_expression 3 (Option.none : Option Jvm.ClassFile.FieldType) ∈ lw_tbl := in_t6 _ (List.mem_of_getElem? (i := 179) rfl)
set_option maxRecDepth 20000 in
theorem wd_1477 : Cond.methodLink RX12 298 yX12_unit ∈ lw_tbl := in_t6 _ (List.mem_of_getElem? (i := 180) rfl)
set_option maxRecDepth 20000 in
theorem wd_1479 : Cond.instanceMethod yX12_unit ∈ lw_tbl := in_t6 _ (List.mem_of_getElem? (i := 182) rfl)
set_option maxRecDepth 20000 in
theorem wd_1480 : Cond.code yX12_unit cX12_unit 1 (Option.none : Option Jvm.ClassFile.FieldType) ∈ lw_tbl := in_t6 _ (List.mem_of_getElem? (i := 183) rfl)
set_option maxRecDepth 20000 in
theorem wd_1481 : Cond.methodLink RX12 295 yX12_emit ∈ lw_tbl := in_t6 _ (List.mem_of_getElem? (i := 184) rfl)
set_option maxRecDepth 20000 in
theorem wd_1483 : Cond.instanceMethod yX12_emit ∈ lw_tbl := in_t6 _ (List.mem_of_getElem? (i := 186) rfl)
set_option maxRecDepth 20000 in
theorem wd_1484 : Cond.code yX12_emit cX12_emit 3 (Option.none : Option Jvm.ClassFile.FieldType) ∈ lw_tbl := in_t6 _ (List.mem_of_getElem? (i := 187) rfl)
set_option maxRecDepth 20000 in
theorem wd_1485 : Cond.methodLink RX12 301 yX12_comesOut ∈ lw_tbl := in_t6 _ (List.mem_of_getElem? (i := 188) rfl)
set_option maxRecDepth 20000 in
theorem wd_1487 : Cond.instanceMethod yX12_comesOut ∈ lw_tbl := in_t6 _ (List.mem_of_getElem? (i := 190) rfl)
set_option maxRecDepth 20000 in
theorem wd_1488 : Cond.code yX12_comesOut cX12_comesOut 3 (Option.none : Option Jvm.ClassFile.FieldType) ∈ lw_tbl := in_t6 _ (List.mem_of_getElem? (i := 191) rfl)
set_option maxRecDepth 20000 in
theorem wd_1489 : Cond.methodLink RX12 289 yX12_term ∈ lw_tbl := in_t6 _ (List.mem_of_getElem? (i := 192) rfl)
set_option maxRecDepth 20000 in
theorem wd_1491 : Cond.instanceMethod yX12_term ∈ lw_tbl := in_t6 _ (List.mem_of_getElem? (i := 194) rfl)
set_option maxRecDepth 20000 in
theorem wd_1492 : Cond.code yX12_term cX12_term 1 (Option.none : Option Jvm.ClassFile.FieldType) ∈ lw_tbl := in_t6 _ (List.mem_of_getElem? (i := 195) rfl)
set_option maxRecDepth 20000 in
theorem wd_1493 : Cond.methodLink RL 31 yX12_place ∈ lw_tbl := in_t6 _ (List.mem_of_getElem? (i := 196) rfl)
set_option maxRecDepth 20000 in
theorem wd_1494 : Cond.instanceMethod yX12_place ∈ lw_tbl := in_t6 _ (List.mem_of_getElem? (i := 197) rfl)
set_option maxRecDepth 20000 in
theorem wd_1495 : Cond.selects RX12 yX12_place yX12_place ∈ lw_tbl := in_t6 _ (List.mem_of_getElem? (i := 198) rfl)
set_option maxRecDepth 20000 in
theorem wd_1496 : Cond.code yX12_place cX12_place 1 (Option.some Jvm.ClassFile.FieldType.int) ∈ lw_tbl := in_t6 _ (List.mem_of_getElem? (i := 199) rfl)
set_option maxRecDepth 20000 in
theorem wd_1497 : Cond.methodLink RL 36 yX12_house ∈ lw_tbl := in_t6 _ (List.mem_of_getElem? (i := 200) rfl)
set_option maxRecDepth 20000 in
theorem wd_1498 : Cond.instanceMethod yX12_house ∈ lw_tbl := in_t6 _ (List.mem_of_getElem? (i := 201) rfl)
set_option maxRecDepth 20000 in
theorem wd_1499 : Cond.selects RX12 yX12_house yX12_house ∈ lw_tbl := in_t6 _ (List.mem_of_getElem? (i := 202) rfl)
set_option maxRecDepth 20000 in
theorem wd_1500 : Cond.code yX12_house cX12_house 3 (Option.some Jvm.ClassFile.FieldType.int) ∈ lw_tbl := in_t6 _ (List.mem_of_getElem? (i := 203) rfl)
set_option maxRecDepth 20000 in
theorem wd_1501 : Cond.methodLink RX12 371 yX12_isHouse ∈ lw_tbl := in_t6 _ (List.mem_of_getElem? (i := 204) rfl)
set_option maxRecDepth 20000 in
theorem wd_1503 : Cond.instanceMethod yX12_isHouse ∈ lw_tbl := in_t6 _ (List.mem_of_getElem? (i := 206) rfl)
set_option maxRecDepth 20000 in
theorem wd_1504 : Cond.code yX12_isHouse cX12_isHouse 2 (Option.some Jvm.ClassFile.FieldType.boolean) ∈ lw_tbl := in_t6 _ (List.mem_of_getElem? (i := 207) rfl)
set_option maxRecDepth 20000 in
theorem wd_1505 : Cond.methodLink RX12 313 yX12_in ∈ lw_tbl := in_t6 _ (List.mem_of_getElem? (i := 208) rfl)
set_option maxRecDepth 20000 in
theorem wd_1506 : Cond.static yX12_in ∈ lw_tbl := in_t6 _ (List.mem_of_getElem? (i := 209) rfl)
set_option maxRecDepth 20000 in
theorem wd_1507 : Cond.code yX12_in cX12_in 3 (Option.some Jvm.ClassFile.FieldType.boolean) ∈ lw_tbl := in_t6 _ (List.mem_of_getElem? (i := 210) rfl)
set_option maxRecDepth 20000 in
theorem wd_1508 : Cond.methodLink RX12 323 yX12_copies ∈ lw_tbl := in_t6 _ (List.mem_of_getElem? (i := 211) rfl)
set_option maxRecDepth 20000 in
theorem wd_1510 : Cond.instanceMethod yX12_copies ∈ lw_tbl := in_t6 _ (List.mem_of_getElem? (i := 213) rfl)
set_option maxRecDepth 20000 in
theorem wd_1511 : Cond.code yX12_copies cX12_copies 2 (Option.none : Option Jvm.ClassFile.FieldType) ∈ lw_tbl := in_t6 _ (List.mem_of_getElem? (i := 214) rfl)
set_option maxRecDepth 20000 in
theorem wd_1512 : Cond.methodLink RX12 336 yX12_panesAt ∈ lw_tbl := in_t6 _ (List.mem_of_getElem? (i := 215) rfl)
set_option maxRecDepth 20000 in
theorem wd_1514 : Cond.instanceMethod yX12_panesAt ∈ lw_tbl := in_t6 _ (List.mem_of_getElem? (i := 217) rfl)
set_option maxRecDepth 20000 in
theorem wd_1515 : Cond.code yX12_panesAt cX12_panesAt 2 (Option.some Jvm.ClassFile.FieldType.int) ∈ lw_tbl := in_t6 _ (List.mem_of_getElem? (i := 218) rfl)
set_option maxRecDepth 20000 in
theorem wd_1516 : Cond.methodLink RX12 349 yX12_coolsOf ∈ lw_tbl := in_t6 _ (List.mem_of_getElem? (i := 219) rfl)
set_option maxRecDepth 20000 in
theorem wd_1518 : Cond.instanceMethod yX12_coolsOf ∈ lw_tbl := in_t6 _ (List.mem_of_getElem? (i := 221) rfl)
set_option maxRecDepth 20000 in
theorem wd_1519 : Cond.code yX12_coolsOf cX12_coolsOf 2 (Option.some Jvm.ClassFile.FieldType.int) ∈ lw_tbl := in_t6 _ (List.mem_of_getElem? (i := 222) rfl)
set_option maxRecDepth 20000 in
theorem wd_1520 : Cond.methodLink RX12 345 yX12_lawOf ∈ lw_tbl := in_t6 _ (List.mem_of_getElem? (i := 223) rfl)
set_option maxRecDepth 20000 in
theorem wd_1522 : Cond.instanceMethod yX12_lawOf ∈ lw_tbl := in_t6 _ (List.mem_of_getElem? (i := 225) rfl)
set_option maxRecDepth 20000 in
theorem wd_1523 : Cond.code yX12_lawOf cX12_lawOf 6 (Option.some Jvm.ClassFile.FieldType.int) ∈ lw_tbl := in_t6 _ (List.mem_of_getElem? (i := 226) rfl)
set_option maxRecDepth 20000 in
theorem wd_1524 : Cond.methodLink RX12 339 yX12_lawTells ∈ lw_tbl := in_t6 _ (List.mem_of_getElem? (i := 227) rfl)
set_option maxRecDepth 20000 in
theorem wd_1526 : Cond.instanceMethod yX12_lawTells ∈ lw_tbl := in_t6 _ (List.mem_of_getElem? (i := 229) rfl)
set_option maxRecDepth 20000 in
theorem wd_1527 : Cond.code yX12_lawTells cX12_lawTells 7 (Option.some Jvm.ClassFile.FieldType.int) ∈ lw_tbl := in_t6 _ (List.mem_of_getElem? (i := 230) rfl)
set_option maxRecDepth 20000 in
theorem wd_1528 : Cond.methodLink RX12 333 yX12_termOf ∈ lw_tbl := in_t6 _ (List.mem_of_getElem? (i := 231) rfl)
set_option maxRecDepth 20000 in
theorem wd_1530 : Cond.instanceMethod yX12_termOf ∈ lw_tbl := in_t6 _ (List.mem_of_getElem? (i := 233) rfl)
set_option maxRecDepth 20000 in
theorem wd_1531 : Cond.code yX12_termOf cX12_termOf 8 (Option.some Jvm.ClassFile.FieldType.int) ∈ lw_tbl := in_t6 _ (List.mem_of_getElem? (i := 234) rfl)
set_option maxRecDepth 20000 in
theorem wd_1532 : Cond.methodLink RX12 342 yX12_within ∈ lw_tbl := in_t6 _ (List.mem_of_getElem? (i := 235) rfl)
set_option maxRecDepth 20000 in
theorem wd_1533 : Cond.static yX12_within ∈ lw_tbl := in_t6 _ (List.mem_of_getElem? (i := 236) rfl)
set_option maxRecDepth 20000 in
theorem wd_1534 : Cond.code yX12_within cX12_within 3 (Option.some Jvm.ClassFile.FieldType.int) ∈ lw_tbl := in_t6 _ (List.mem_of_getElem? (i := 237) rfl)
set_option maxRecDepth 20000 in
theorem wd_1535 : Cond.methodLink RX12 352 yX12_warmsOf ∈ lw_tbl := in_t6 _ (List.mem_of_getElem? (i := 238) rfl)
set_option maxRecDepth 20000 in
theorem wd_1537 : Cond.instanceMethod yX12_warmsOf ∈ lw_tbl := in_t7 _ (List.mem_of_getElem? (i := 0) rfl)
set_option maxRecDepth 20000 in
theorem wd_1538 : Cond.code yX12_warmsOf cX12_warmsOf 2 (Option.some Jvm.ClassFile.FieldType.int) ∈ lw_tbl := in_t7 _ (List.mem_of_getElem? (i := 1) rfl)
set_option maxRecDepth 20000 in
theorem wd_1539 : Cond.methodLink RX12 358 yX12_fadesOf ∈ lw_tbl := in_t7 _ (List.mem_of_getElem? (i := 2) rfl)
set_option maxRecDepth 20000 in
theorem wd_1541 : Cond.instanceMethod yX12_fadesOf ∈ lw_tbl := in_t7 _ (List.mem_of_getElem? (i := 4) rfl)
set_option maxRecDepth 20000 in
theorem wd_1542 : Cond.code yX12_fadesOf cX12_fadesOf 2 (Option.some Jvm.ClassFile.FieldType.int) ∈ lw_tbl := in_t7 _ (List.mem_of_getElem? (i := 5) rfl)
set_option maxRecDepth 20000 in
theorem wd_1543 : Cond.methodLink RX12 374 yX12_mendsOf ∈ lw_tbl := in_t7 _ (List.mem_of_getElem? (i := 6) rfl)
set_option maxRecDepth 20000 in
theorem wd_1545 : Cond.instanceMethod yX12_mendsOf ∈ lw_tbl := in_t7 _ (List.mem_of_getElem? (i := 8) rfl)
set_option maxRecDepth 20000 in
theorem wd_1546 : Cond.code yX12_mendsOf cX12_mendsOf 2 (Option.some Jvm.ClassFile.FieldType.int) ∈ lw_tbl := in_t7 _ (List.mem_of_getElem? (i := 9) rfl)
set_option maxRecDepth 20000 in
theorem wd_1547 : Cond.methodLink RL 40 yX12_burn ∈ lw_tbl := in_t7 _ (List.mem_of_getElem? (i := 10) rfl)
set_option maxRecDepth 20000 in
theorem wd_1548 : Cond.instanceMethod yX12_burn ∈ lw_tbl := in_t7 _ (List.mem_of_getElem? (i := 11) rfl)
set_option maxRecDepth 20000 in
theorem wd_1549 : Cond.selects RX12 yX12_burn yX12_burn ∈ lw_tbl := in_t7 _ (List.mem_of_getElem? (i := 12) rfl)
set_option maxRecDepth 20000 in
theorem wd_1550 : Cond.code yX12_burn cX12_burn 3 (Option.some Jvm.ClassFile.FieldType.int) ∈ lw_tbl := in_t7 _ (List.mem_of_getElem? (i := 13) rfl)
set_option maxRecDepth 20000 in
theorem wd_1551 : Cond.methodLink RX12 377 yX12_burns ∈ lw_tbl := in_t7 _ (List.mem_of_getElem? (i := 14) rfl)
set_option maxRecDepth 20000 in
theorem wd_1553 : Cond.instanceMethod yX12_burns ∈ lw_tbl := in_t7 _ (List.mem_of_getElem? (i := 16) rfl)
set_option maxRecDepth 20000 in
theorem wd_1554 : Cond.code yX12_burns cX12_burns 4 (Option.none : Option Jvm.ClassFile.FieldType) ∈ lw_tbl := in_t7 _ (List.mem_of_getElem? (i := 17) rfl)
set_option maxRecDepth 20000 in
theorem wd_1555 : Cond.methodLink RX12 355 yX12_burnsOne ∈ lw_tbl := in_t7 _ (List.mem_of_getElem? (i := 18) rfl)
set_option maxRecDepth 20000 in
theorem wd_1557 : Cond.instanceMethod yX12_burnsOne ∈ lw_tbl := in_t7 _ (List.mem_of_getElem? (i := 20) rfl)
set_option maxRecDepth 20000 in
theorem wd_1558 : Cond.code yX12_burnsOne cX12_burnsOne 2 (Option.none : Option Jvm.ClassFile.FieldType) ∈ lw_tbl := in_t7 _ (List.mem_of_getElem? (i := 21) rfl)
set_option maxRecDepth 20000 in
theorem wd_1559 : Cond.methodLink RX12 380 yX12_records ∈ lw_tbl := in_t7 _ (List.mem_of_getElem? (i := 22) rfl)
set_option maxRecDepth 20000 in
theorem wd_1561 : Cond.instanceMethod yX12_records ∈ lw_tbl := in_t7 _ (List.mem_of_getElem? (i := 24) rfl)
set_option maxRecDepth 20000 in
theorem wd_1562 : Cond.code yX12_records cX12_records 2 (Option.none : Option Jvm.ClassFile.FieldType) ∈ lw_tbl := in_t7 _ (List.mem_of_getElem? (i := 25) rfl)
set_option maxRecDepth 20000 in
theorem wd_1563 : Cond.methodLink RL 45 yX12_door ∈ lw_tbl := in_t7 _ (List.mem_of_getElem? (i := 26) rfl)
set_option maxRecDepth 20000 in
theorem wd_1564 : Cond.instanceMethod yX12_door ∈ lw_tbl := in_t7 _ (List.mem_of_getElem? (i := 27) rfl)
set_option maxRecDepth 20000 in
theorem wd_1565 : Cond.selects RX12 yX12_door yX12_door ∈ lw_tbl := in_t7 _ (List.mem_of_getElem? (i := 28) rfl)
set_option maxRecDepth 20000 in
theorem wd_1566 : Cond.code yX12_door cX12_door 3 (Option.some Jvm.ClassFile.FieldType.boolean) ∈ lw_tbl := in_t7 _ (List.mem_of_getElem? (i := 29) rfl)
set_option maxRecDepth 20000 in
theorem wd_1567 : Cond.methodLink RL 49 yX12_mend ∈ lw_tbl := in_t7 _ (List.mem_of_getElem? (i := 30) rfl)
set_option maxRecDepth 20000 in
theorem wd_1568 : Cond.instanceMethod yX12_mend ∈ lw_tbl := in_t7 _ (List.mem_of_getElem? (i := 31) rfl)
set_option maxRecDepth 20000 in
theorem wd_1569 : Cond.selects RX12 yX12_mend yX12_mend ∈ lw_tbl := in_t7 _ (List.mem_of_getElem? (i := 32) rfl)
set_option maxRecDepth 20000 in
theorem wd_1570 : Cond.code yX12_mend cX12_mend 3 (Option.some Jvm.ClassFile.FieldType.int) ∈ lw_tbl := in_t7 _ (List.mem_of_getElem? (i := 33) rfl)
set_option maxRecDepth 20000 in
theorem wd_1571 : Cond.methodLink RL 53 yX12_cut ∈ lw_tbl := in_t7 _ (List.mem_of_getElem? (i := 34) rfl)
set_option maxRecDepth 20000 in
theorem wd_1572 : Cond.instanceMethod yX12_cut ∈ lw_tbl := in_t7 _ (List.mem_of_getElem? (i := 35) rfl)
set_option maxRecDepth 20000 in
theorem wd_1573 : Cond.selects RX12 yX12_cut yX12_cut ∈ lw_tbl := in_t7 _ (List.mem_of_getElem? (i := 36) rfl)
set_option maxRecDepth 20000 in
theorem wd_1574 : Cond.code yX12_cut cX12_cut 4 (Option.some Jvm.ClassFile.FieldType.int) ∈ lw_tbl := in_t7 _ (List.mem_of_getElem? (i := 37) rfl)
set_option maxRecDepth 20000 in
theorem wd_1575 : Cond.methodLink RL 57 yX12_bring ∈ lw_tbl := in_t7 _ (List.mem_of_getElem? (i := 38) rfl)
set_option maxRecDepth 20000 in
theorem wd_1576 : Cond.instanceMethod yX12_bring ∈ lw_tbl := in_t7 _ (List.mem_of_getElem? (i := 39) rfl)
set_option maxRecDepth 20000 in
theorem wd_1577 : Cond.selects RX12 yX12_bring yX12_bring ∈ lw_tbl := in_t7 _ (List.mem_of_getElem? (i := 40) rfl)
set_option maxRecDepth 20000 in
theorem wd_1578 : Cond.code yX12_bring cX12_bring 2 (Option.some Jvm.ClassFile.FieldType.int) ∈ lw_tbl := in_t7 _ (List.mem_of_getElem? (i := 41) rfl)
set_option maxRecDepth 20000 in
theorem wd_1579 : Cond.methodLink RL 61 yX12_days ∈ lw_tbl := in_t7 _ (List.mem_of_getElem? (i := 42) rfl)
set_option maxRecDepth 20000 in
theorem wd_1580 : Cond.instanceMethod yX12_days ∈ lw_tbl := in_t7 _ (List.mem_of_getElem? (i := 43) rfl)
set_option maxRecDepth 20000 in
theorem wd_1581 : Cond.selects RX12 yX12_days yX12_days ∈ lw_tbl := in_t7 _ (List.mem_of_getElem? (i := 44) rfl)
set_option maxRecDepth 20000 in
theorem wd_1582 : Cond.code yX12_days cX12_days 2 (Option.some Jvm.ClassFile.FieldType.int) ∈ lw_tbl := in_t7 _ (List.mem_of_getElem? (i := 45) rfl)
set_option maxRecDepth 20000 in
theorem wd_1583 : Cond.methodLink RX12 383 yX12_isLong ∈ lw_tbl := in_t7 _ (List.mem_of_getElem? (i := 46) rfl)
set_option maxRecDepth 20000 in
theorem wd_1584 : Cond.static yX12_isLong ∈ lw_tbl := in_t7 _ (List.mem_of_getElem? (i := 47) rfl)
set_option maxRecDepth 20000 in
theorem wd_1585 : Cond.code yX12_isLong cX12_isLong 1 (Option.some Jvm.ClassFile.FieldType.boolean) ∈ lw_tbl := in_t7 _ (List.mem_of_getElem? (i := 48) rfl)
set_option maxRecDepth 20000 in
theorem wd_1586 : Cond.methodLink RX12 386 yX12_goes ∈ lw_tbl := in_t7 _ (List.mem_of_getElem? (i := 49) rfl)
set_option maxRecDepth 20000 in
theorem wd_1588 : Cond.instanceMethod yX12_goes ∈ lw_tbl := in_t7 _ (List.mem_of_getElem? (i := 51) rfl)
set_option maxRecDepth 20000 in
theorem wd_1589 : Cond.code yX12_goes cX12_goes 3 (Option.none : Option Jvm.ClassFile.FieldType) ∈ lw_tbl := in_t7 _ (List.mem_of_getElem? (i := 52) rfl)
set_option maxRecDepth 20000 in
theorem wd_1590 : Cond.methodLink RX12 368 yX12_dayGoes ∈ lw_tbl := in_t7 _ (List.mem_of_getElem? (i := 53) rfl)
set_option maxRecDepth 20000 in
theorem wd_1592 : Cond.instanceMethod yX12_dayGoes ∈ lw_tbl := in_t7 _ (List.mem_of_getElem? (i := 55) rfl)
set_option maxRecDepth 20000 in
theorem wd_1593 : Cond.code yX12_dayGoes cX12_dayGoes 2 (Option.none : Option Jvm.ClassFile.FieldType) ∈ lw_tbl := in_t7 _ (List.mem_of_getElem? (i := 56) rfl)
set_option maxRecDepth 20000 in
theorem wd_1594 : Cond.methodLink RX12 361 yX12_chillOf ∈ lw_tbl := in_t7 _ (List.mem_of_getElem? (i := 57) rfl)
set_option maxRecDepth 20000 in
theorem wd_1596 : Cond.instanceMethod yX12_chillOf ∈ lw_tbl := in_t7 _ (List.mem_of_getElem? (i := 59) rfl)
set_option maxRecDepth 20000 in
theorem wd_1597 : Cond.code yX12_chillOf cX12_chillOf 2 (Option.some Jvm.ClassFile.FieldType.int) ∈ lw_tbl := in_t7 _ (List.mem_of_getElem? (i := 60) rfl)
set_option maxRecDepth 20000 in
theorem wd_1598 : Cond.methodLink RX12 364 yX12_isHail ∈ lw_tbl := in_t7 _ (List.mem_of_getElem? (i := 61) rfl)
set_option maxRecDepth 20000 in
theorem wd_1600 : Cond.instanceMethod yX12_isHail ∈ lw_tbl := in_t7 _ (List.mem_of_getElem? (i := 63) rfl)
set_option maxRecDepth 20000 in
theorem wd_1601 : Cond.code yX12_isHail cX12_isHail 1 (Option.some Jvm.ClassFile.FieldType.boolean) ∈ lw_tbl := in_t7 _ (List.mem_of_getElem? (i := 64) rfl)
set_option maxRecDepth 20000 in
theorem wd_1602 : Cond.methodLink RX12 330 yX12_lotOf ∈ lw_tbl := in_t7 _ (List.mem_of_getElem? (i := 65) rfl)
set_option maxRecDepth 20000 in
theorem wd_1604 : Cond.instanceMethod yX12_lotOf ∈ lw_tbl := in_t7 _ (List.mem_of_getElem? (i := 67) rfl)
set_option maxRecDepth 20000 in
theorem wd_1605 : Cond.code yX12_lotOf cX12_lotOf 3 (Option.some Jvm.ClassFile.FieldType.int) ∈ lw_tbl := in_t7 _ (List.mem_of_getElem? (i := 68) rfl)
set_option maxRecDepth 20000 in
theorem wd_1606 : Cond.methodLink RX12 327 yX12_mixed ∈ lw_tbl := in_t7 _ (List.mem_of_getElem? (i := 69) rfl)
set_option maxRecDepth 20000 in
theorem wd_1607 : Cond.static yX12_mixed ∈ lw_tbl := in_t7 _ (List.mem_of_getElem? (i := 70) rfl)
set_option maxRecDepth 20000 in
theorem wd_1608 : Cond.code yX12_mixed cX12_mixed 3 (Option.some Jvm.ClassFile.FieldType.int) ∈ lw_tbl := in_t7 _ (List.mem_of_getElem? (i := 71) rfl)
set_option maxRecDepth 20000 in
theorem wd_1609 : Cond.constant RX12 326 (1103515245 : Int32) ∈ lw_tbl := in_t7 _ (List.mem_of_getElem? (i := 72) rfl)
set_option maxRecDepth 20000 in
theorem wd_1610 : Cond.methodLink RL 66 yX12_undo ∈ lw_tbl := in_t7 _ (List.mem_of_getElem? (i := 73) rfl)
set_option maxRecDepth 20000 in
theorem wd_1611 : Cond.instanceMethod yX12_undo ∈ lw_tbl := in_t7 _ (List.mem_of_getElem? (i := 74) rfl)
set_option maxRecDepth 20000 in
theorem wd_1612 : Cond.selects RX12 yX12_undo yX12_undo ∈ lw_tbl := in_t7 _ (List.mem_of_getElem? (i := 75) rfl)
set_option maxRecDepth 20000 in
theorem wd_1613 : Cond.code yX12_undo cX12_undo 2 (Option.some Jvm.ClassFile.FieldType.boolean) ∈ lw_tbl := in_t7 _ (List.mem_of_getElem? (i := 76) rfl)
set_option maxRecDepth 20000 in
theorem wd_1614 : Cond.methodLink RL 70 yX12_loss ∈ lw_tbl := in_t7 _ (List.mem_of_getElem? (i := 77) rfl)
set_option maxRecDepth 20000 in
theorem wd_1615 : Cond.instanceMethod yX12_loss ∈ lw_tbl := in_t7 _ (List.mem_of_getElem? (i := 78) rfl)
set_option maxRecDepth 20000 in
theorem wd_1616 : Cond.selects RX12 yX12_loss yX12_loss ∈ lw_tbl := in_t7 _ (List.mem_of_getElem? (i := 79) rfl)
set_option maxRecDepth 20000 in
theorem wd_1617 : Cond.code yX12_loss cX12_loss 3 (Option.some Jvm.ClassFile.FieldType.int) ∈ lw_tbl := in_t7 _ (List.mem_of_getElem? (i := 80) rfl)
set_option maxRecDepth 20000 in
theorem wd_1618 : Cond.methodLink RX12 395 yX12_isSmall ∈ lw_tbl := in_t7 _ (List.mem_of_getElem? (i := 81) rfl)
set_option maxRecDepth 20000 in
theorem wd_1619 : Cond.static yX12_isSmall ∈ lw_tbl := in_t7 _ (List.mem_of_getElem? (i := 82) rfl)
set_option maxRecDepth 20000 in
theorem wd_1620 : Cond.code yX12_isSmall cX12_isSmall 1 (Option.some Jvm.ClassFile.FieldType.boolean) ∈ lw_tbl := in_t7 _ (List.mem_of_getElem? (i := 83) rfl)
set_option maxRecDepth 20000 in
theorem wd_1621 : Cond.methodLink RL 74 yX12_share ∈ lw_tbl := in_t7 _ (List.mem_of_getElem? (i := 84) rfl)
set_option maxRecDepth 20000 in
theorem wd_1622 : Cond.instanceMethod yX12_share ∈ lw_tbl := in_t7 _ (List.mem_of_getElem? (i := 85) rfl)
set_option maxRecDepth 20000 in
theorem wd_1623 : Cond.selects RX12 yX12_share yX12_share ∈ lw_tbl := in_t7 _ (List.mem_of_getElem? (i := 86) rfl)
set_option maxRecDepth 20000 in
theorem wd_1624 : Cond.code yX12_share cX12_share 5 (Option.some Jvm.ClassFile.FieldType.int) ∈ lw_tbl := in_t7 _ (List.mem_of_getElem? (i := 87) rfl)
set_option maxRecDepth 20000 in
theorem wd_1625 : Cond.methodLink RX12 398 yX12_fillsShare ∈ lw_tbl := in_t7 _ (List.mem_of_getElem? (i := 88) rfl)
set_option maxRecDepth 20000 in
theorem wd_1627 : Cond.instanceMethod yX12_fillsShare ∈ lw_tbl := in_t7 _ (List.mem_of_getElem? (i := 90) rfl)
set_option maxRecDepth 20000 in
theorem wd_1628 : Cond.code yX12_fillsShare cX12_fillsShare 6 (Option.none : Option Jvm.ClassFile.FieldType) ∈ lw_tbl := in_t7 _ (List.mem_of_getElem? (i := 91) rfl)
set_option maxRecDepth 20000 in
theorem wd_1629 : Cond.methodLink RX12 389 yX12_fillsLoss ∈ lw_tbl := in_t7 _ (List.mem_of_getElem? (i := 92) rfl)
set_option maxRecDepth 20000 in
theorem wd_1631 : Cond.instanceMethod yX12_fillsLoss ∈ lw_tbl := in_t7 _ (List.mem_of_getElem? (i := 94) rfl)
set_option maxRecDepth 20000 in
theorem wd_1632 : Cond.code yX12_fillsLoss cX12_fillsLoss 6 (Option.none : Option Jvm.ClassFile.FieldType) ∈ lw_tbl := in_t7 _ (List.mem_of_getElem? (i := 95) rfl)
set_option maxRecDepth 20000 in
theorem wd_1633 : Cond.methodLink RX12 392 yX12_lossWith ∈ lw_tbl := in_t7 _ (List.mem_of_getElem? (i := 96) rfl)
set_option maxRecDepth 20000 in
theorem wd_1635 : Cond.instanceMethod yX12_lossWith ∈ lw_tbl := in_t7 _ (List.mem_of_getElem? (i := 98) rfl)
set_option maxRecDepth 20000 in
theorem wd_1636 : Cond.code yX12_lossWith cX12_lossWith 4 (Option.some Jvm.ClassFile.FieldType.int) ∈ lw_tbl := in_t7 _ (List.mem_of_getElem? (i := 99) rfl)
set_option maxRecDepth 20000 in
theorem wd_1637 : Cond.methodLink RX12 401 yX12_shareFor ∈ lw_tbl := in_t7 _ (List.mem_of_getElem? (i := 100) rfl)
set_option maxRecDepth 20000 in
theorem wd_1639 : Cond.instanceMethod yX12_shareFor ∈ lw_tbl := in_t7 _ (List.mem_of_getElem? (i := 102) rfl)
set_option maxRecDepth 20000 in
theorem wd_1640 : Cond.code yX12_shareFor cX12_shareFor 4 (Option.some Jvm.ClassFile.FieldType.int) ∈ lw_tbl := in_t7 _ (List.mem_of_getElem? (i := 103) rfl)
set_option maxRecDepth 20000 in
theorem wd_1641 : Cond.methodLink RL 78 yX12_enough ∈ lw_tbl := in_t7 _ (List.mem_of_getElem? (i := 104) rfl)
set_option maxRecDepth 20000 in
theorem wd_1642 : Cond.instanceMethod yX12_enough ∈ lw_tbl := in_t7 _ (List.mem_of_getElem? (i := 105) rfl)
set_option maxRecDepth 20000 in
theorem wd_1643 : Cond.selects RX12 yX12_enough yX12_enough ∈ lw_tbl := in_t7 _ (List.mem_of_getElem? (i := 106) rfl)
set_option maxRecDepth 20000 in
theorem wd_1644 : Cond.code yX12_enough cX12_enough 3 (Option.some Jvm.ClassFile.FieldType.int) ∈ lw_tbl := in_t7 _ (List.mem_of_getElem? (i := 107) rfl)
set_option maxRecDepth 20000 in
theorem wd_1645 : Cond.methodLink RX12 404 yX12_needsOf ∈ lw_tbl := in_t7 _ (List.mem_of_getElem? (i := 108) rfl)
set_option maxRecDepth 20000 in
theorem wd_1647 : Cond.instanceMethod yX12_needsOf ∈ lw_tbl := in_t7 _ (List.mem_of_getElem? (i := 110) rfl)
set_option maxRecDepth 20000 in
theorem wd_1648 : Cond.code yX12_needsOf cX12_needsOf 3 (Option.some Jvm.ClassFile.FieldType.int) ∈ lw_tbl := in_t7 _ (List.mem_of_getElem? (i := 111) rfl)
set_option maxRecDepth 20000 in
theorem wd_1649 : Cond.methodLink RL 82 yX12_plan ∈ lw_tbl := in_t7 _ (List.mem_of_getElem? (i := 112) rfl)
set_option maxRecDepth 20000 in
theorem wd_1650 : Cond.instanceMethod yX12_plan ∈ lw_tbl := in_t7 _ (List.mem_of_getElem? (i := 113) rfl)
set_option maxRecDepth 20000 in
theorem wd_1651 : Cond.selects RX12 yX12_plan yX12_plan ∈ lw_tbl := in_t7 _ (List.mem_of_getElem? (i := 114) rfl)
set_option maxRecDepth 20000 in
theorem wd_1652 : Cond.code yX12_plan cX12_plan 9 (Option.some Jvm.ClassFile.FieldType.int) ∈ lw_tbl := in_t7 _ (List.mem_of_getElem? (i := 115) rfl)
set_option maxRecDepth 20000 in
theorem wd_1653 : Cond.methodLink RX12 407 yX12_copiesStill ∈ lw_tbl := in_t7 _ (List.mem_of_getElem? (i := 116) rfl)
set_option maxRecDepth 20000 in
theorem wd_1655 : Cond.instanceMethod yX12_copiesStill ∈ lw_tbl := in_t7 _ (List.mem_of_getElem? (i := 118) rfl)
set_option maxRecDepth 20000 in
theorem wd_1656 : Cond.code yX12_copiesStill cX12_copiesStill 1 (Option.none : Option Jvm.ClassFile.FieldType) ∈ lw_tbl := in_t7 _ (List.mem_of_getElem? (i := 119) rfl)
set_option maxRecDepth 20000 in
theorem wd_1657 : Cond.methodLink RX12 410 yX12_burnsShared ∈ lw_tbl := in_t7 _ (List.mem_of_getElem? (i := 120) rfl)
set_option maxRecDepth 20000 in
theorem wd_1659 : Cond.instanceMethod yX12_burnsShared ∈ lw_tbl := in_t7 _ (List.mem_of_getElem? (i := 122) rfl)
set_option maxRecDepth 20000 in
theorem wd_1660 : Cond.code yX12_burnsShared cX12_burnsShared 5 (Option.none : Option Jvm.ClassFile.FieldType) ∈ lw_tbl := in_t7 _ (List.mem_of_getElem? (i := 123) rfl)
set_option maxRecDepth 20000 in
theorem wd_1661 : Cond.methodLink RX12 413 yX12_keptAll ∈ lw_tbl := in_t7 _ (List.mem_of_getElem? (i := 124) rfl)
set_option maxRecDepth 20000 in
theorem wd_1663 : Cond.instanceMethod yX12_keptAll ∈ lw_tbl := in_t7 _ (List.mem_of_getElem? (i := 126) rfl)
set_option maxRecDepth 20000 in
theorem wd_1664 : Cond.code yX12_keptAll cX12_keptAll 3 (Option.some Jvm.ClassFile.FieldType.int) ∈ lw_tbl := in_t7 _ (List.mem_of_getElem? (i := 127) rfl)
set_option maxRecDepth 20000 in
theorem wd_1665 : Cond.methodLink RL 86 yX12_worst ∈ lw_tbl := in_t7 _ (List.mem_of_getElem? (i := 128) rfl)
set_option maxRecDepth 20000 in
theorem wd_1666 : Cond.instanceMethod yX12_worst ∈ lw_tbl := in_t7 _ (List.mem_of_getElem? (i := 129) rfl)
set_option maxRecDepth 20000 in
theorem wd_1667 : Cond.selects RX12 yX12_worst yX12_worst ∈ lw_tbl := in_t7 _ (List.mem_of_getElem? (i := 130) rfl)
set_option maxRecDepth 20000 in
theorem wd_1668 : Cond.code yX12_worst cX12_worst 4 (Option.some Jvm.ClassFile.FieldType.int) ∈ lw_tbl := in_t7 _ (List.mem_of_getElem? (i := 131) rfl)
set_option maxRecDepth 20000 in
theorem wd_1669 : Cond.methodLink RL 90 yX12_lasts ∈ lw_tbl := in_t7 _ (List.mem_of_getElem? (i := 132) rfl)
set_option maxRecDepth 20000 in
theorem wd_1670 : Cond.instanceMethod yX12_lasts ∈ lw_tbl := in_t7 _ (List.mem_of_getElem? (i := 133) rfl)
set_option maxRecDepth 20000 in
theorem wd_1671 : Cond.selects RX12 yX12_lasts yX12_lasts ∈ lw_tbl := in_t7 _ (List.mem_of_getElem? (i := 134) rfl)
set_option maxRecDepth 20000 in
theorem wd_1672 : Cond.code yX12_lasts cX12_lasts 2 (Option.some Jvm.ClassFile.FieldType.int) ∈ lw_tbl := in_t7 _ (List.mem_of_getElem? (i := 135) rfl)
set_option maxRecDepth 20000 in
theorem wd_1673 : Cond.methodLink RX12 419 yX12_runsOut ∈ lw_tbl := in_t7 _ (List.mem_of_getElem? (i := 136) rfl)
set_option maxRecDepth 20000 in
theorem wd_1675 : Cond.instanceMethod yX12_runsOut ∈ lw_tbl := in_t7 _ (List.mem_of_getElem? (i := 138) rfl)
set_option maxRecDepth 20000 in
theorem wd_1676 : Cond.code yX12_runsOut cX12_runsOut 3 (Option.some Jvm.ClassFile.FieldType.boolean) ∈ lw_tbl := in_t7 _ (List.mem_of_getElem? (i := 139) rfl)
set_option maxRecDepth 20000 in
theorem wd_1677 : Cond.methodLink RX12 416 yX12_needsNow ∈ lw_tbl := in_t7 _ (List.mem_of_getElem? (i := 140) rfl)
set_option maxRecDepth 20000 in
theorem wd_1679 : Cond.instanceMethod yX12_needsNow ∈ lw_tbl := in_t7 _ (List.mem_of_getElem? (i := 142) rfl)
set_option maxRecDepth 20000 in
theorem wd_1680 : Cond.code yX12_needsNow cX12_needsNow 5 (Option.some Jvm.ClassFile.FieldType.int) ∈ lw_tbl := in_t7 _ (List.mem_of_getElem? (i := 143) rfl)
set_option maxRecDepth 20000 in
theorem wd_1681 : Cond.methodLink RL 94 yX12_gone ∈ lw_tbl := in_t7 _ (List.mem_of_getElem? (i := 144) rfl)
set_option maxRecDepth 20000 in
theorem wd_1682 : Cond.instanceMethod yX12_gone ∈ lw_tbl := in_t7 _ (List.mem_of_getElem? (i := 145) rfl)
set_option maxRecDepth 20000 in
theorem wd_1683 : Cond.selects RX12 yX12_gone yX12_gone ∈ lw_tbl := in_t7 _ (List.mem_of_getElem? (i := 146) rfl)
set_option maxRecDepth 20000 in
theorem wd_1684 : Cond.code yX12_gone cX12_gone 2 (Option.some Jvm.ClassFile.FieldType.int) ∈ lw_tbl := in_t7 _ (List.mem_of_getElem? (i := 147) rfl)
set_option maxRecDepth 20000 in
theorem wd_1685 : Cond.methodLink RX12 422 yX12_behindNone ∈ lw_tbl := in_t7 _ (List.mem_of_getElem? (i := 148) rfl)
set_option maxRecDepth 20000 in
theorem wd_1687 : Cond.instanceMethod yX12_behindNone ∈ lw_tbl := in_t7 _ (List.mem_of_getElem? (i := 150) rfl)
set_option maxRecDepth 20000 in
theorem wd_1688 : Cond.code yX12_behindNone cX12_behindNone 3 (Option.some Jvm.ClassFile.FieldType.int) ∈ lw_tbl := in_t7 _ (List.mem_of_getElem? (i := 151) rfl)
set_option maxRecDepth 20000 in
theorem wd_1689 : Cond.methodLink RL 98 yX12_cold ∈ lw_tbl := in_t7 _ (List.mem_of_getElem? (i := 152) rfl)
set_option maxRecDepth 20000 in
theorem wd_1690 : Cond.instanceMethod yX12_cold ∈ lw_tbl := in_t7 _ (List.mem_of_getElem? (i := 153) rfl)
set_option maxRecDepth 20000 in
theorem wd_1691 : Cond.selects RX12 yX12_cold yX12_cold ∈ lw_tbl := in_t7 _ (List.mem_of_getElem? (i := 154) rfl)
set_option maxRecDepth 20000 in
theorem wd_1692 : Cond.code yX12_cold cX12_cold 2 (Option.some Jvm.ClassFile.FieldType.int) ∈ lw_tbl := in_t7 _ (List.mem_of_getElem? (i := 155) rfl)
set_option maxRecDepth 20000 in
theorem wd_1693 : Cond.methodLink RL 122 yX12_saves ∈ lw_tbl := in_t7 _ (List.mem_of_getElem? (i := 156) rfl)
set_option maxRecDepth 20000 in
theorem wd_1694 : Cond.instanceMethod yX12_saves ∈ lw_tbl := in_t7 _ (List.mem_of_getElem? (i := 157) rfl)
set_option maxRecDepth 20000 in
theorem wd_1695 : Cond.selects RX12 yX12_saves yX12_saves ∈ lw_tbl := in_t7 _ (List.mem_of_getElem? (i := 158) rfl)
set_option maxRecDepth 20000 in
theorem wd_1696 : Cond.code yX12_saves cX12_saves 2 (Option.some Jvm.ClassFile.FieldType.int) ∈ lw_tbl := in_t7 _ (List.mem_of_getElem? (i := 159) rfl)
set_option maxRecDepth 20000 in
theorem wd_1697 : Cond.methodLink RX12 428 yX12_savesOf ∈ lw_tbl := in_t7 _ (List.mem_of_getElem? (i := 160) rfl)
set_option maxRecDepth 20000 in
theorem wd_1699 : Cond.instanceMethod yX12_savesOf ∈ lw_tbl := in_t7 _ (List.mem_of_getElem? (i := 162) rfl)
set_option maxRecDepth 20000 in
theorem wd_1700 : Cond.code yX12_savesOf cX12_savesOf 2 (Option.some Jvm.ClassFile.FieldType.int) ∈ lw_tbl := in_t7 _ (List.mem_of_getElem? (i := 163) rfl)
set_option maxRecDepth 20000 in
theorem wd_1701 : Cond.methodLink RX12 425 yX12_lossOf ∈ lw_tbl := in_t7 _ (List.mem_of_getElem? (i := 164) rfl)
set_option maxRecDepth 20000 in
theorem wd_1703 : Cond.instanceMethod yX12_lossOf ∈ lw_tbl := in_t7 _ (List.mem_of_getElem? (i := 166) rfl)
set_option maxRecDepth 20000 in
theorem wd_1704 : Cond.code yX12_lossOf cX12_lossOf 3 (Option.some Jvm.ClassFile.FieldType.int) ∈ lw_tbl := in_t7 _ (List.mem_of_getElem? (i := 167) rfl)
set_option maxRecDepth 20000 in
theorem wd_1705 : Cond.constant RX12 431 (-100000 : Int32) ∈ lw_tbl := in_t7 _ (List.mem_of_getElem? (i := 168) rfl)
set_option maxRecDepth 20000 in
theorem wd_1706 : Cond.methodLink RL 126 yX12_first ∈ lw_tbl := in_t7 _ (List.mem_of_getElem? (i := 169) rfl)
set_option maxRecDepth 20000 in
theorem wd_1707 : Cond.instanceMethod yX12_first ∈ lw_tbl := in_t7 _ (List.mem_of_getElem? (i := 170) rfl)
set_option maxRecDepth 20000 in
theorem wd_1708 : Cond.selects RX12 yX12_first yX12_first ∈ lw_tbl := in_t7 _ (List.mem_of_getElem? (i := 171) rfl)
set_option maxRecDepth 20000 in
theorem wd_1709 : Cond.code yX12_first cX12_first 3 (Option.some Jvm.ClassFile.FieldType.int) ∈ lw_tbl := in_t7 _ (List.mem_of_getElem? (i := 172) rfl)
set_option maxRecDepth 20000 in
theorem wd_1710 : Cond.methodLink RL 102 yX12_far ∈ lw_tbl := in_t7 _ (List.mem_of_getElem? (i := 173) rfl)
set_option maxRecDepth 20000 in
theorem wd_1711 : Cond.instanceMethod yX12_far ∈ lw_tbl := in_t7 _ (List.mem_of_getElem? (i := 174) rfl)
set_option maxRecDepth 20000 in
theorem wd_1712 : Cond.selects RX12 yX12_far yX12_far ∈ lw_tbl := in_t7 _ (List.mem_of_getElem? (i := 175) rfl)
set_option maxRecDepth 20000 in
theorem wd_1713 : Cond.code yX12_far cX12_far 3 (Option.some Jvm.ClassFile.FieldType.int) ∈ lw_tbl := in_t7 _ (List.mem_of_getElem? (i := 176) rfl)
set_option maxRecDepth 20000 in
theorem wd_1714 : Cond.methodLink RX12 435 yX12_farOf ∈ lw_tbl := in_t7 _ (List.mem_of_getElem? (i := 177) rfl)
set_option maxRecDepth 20000 in
theorem wd_1716 : Cond.instanceMethod yX12_farOf ∈ lw_tbl := in_t7 _ (List.mem_of_getElem? (i := 179) rfl)
set_option maxRecDepth 20000 in
theorem wd_1717 : Cond.code yX12_farOf cX12_farOf 3 (Option.some Jvm.ClassFile.FieldType.int) ∈ lw_tbl := in_t7 _ (List.mem_of_getElem? (i := 180) rfl)
set_option maxRecDepth 20000 in
theorem wd_1718 : Cond.methodLink RX12 432 yX12_off ∈ lw_tbl := in_t7 _ (List.mem_of_getElem? (i := 181) rfl)
set_option maxRecDepth 20000 in
theorem wd_1719 : Cond.static yX12_off ∈ lw_tbl := in_t7 _ (List.mem_of_getElem? (i := 182) rfl)
set_option maxRecDepth 20000 in
theorem wd_1720 : Cond.code yX12_off cX12_off 2 (Option.some Jvm.ClassFile.FieldType.int) ∈ lw_tbl := in_t7 _ (List.mem_of_getElem? (i := 183) rfl)
set_option maxRecDepth 20000 in
theorem wd_1721 : Cond.methodLink RL 106 yX12_round ∈ lw_tbl := in_t7 _ (List.mem_of_getElem? (i := 184) rfl)
set_option maxRecDepth 20000 in
theorem wd_1722 : Cond.instanceMethod yX12_round ∈ lw_tbl := in_t7 _ (List.mem_of_getElem? (i := 185) rfl)
set_option maxRecDepth 20000 in
theorem wd_1723 : Cond.selects RX12 yX12_round yX12_round ∈ lw_tbl := in_t7 _ (List.mem_of_getElem? (i := 186) rfl)
set_option maxRecDepth 20000 in
theorem wd_1724 : Cond.code yX12_round cX12_round 2 (Option.some Jvm.ClassFile.FieldType.int) ∈ lw_tbl := in_t7 _ (List.mem_of_getElem? (i := 187) rfl)
set_option maxRecDepth 20000 in
theorem wd_1725 : Cond.methodLink RX12 441 yX12_fillsRest ∈ lw_tbl := in_t7 _ (List.mem_of_getElem? (i := 188) rfl)
set_option maxRecDepth 20000 in
theorem wd_1727 : Cond.instanceMethod yX12_fillsRest ∈ lw_tbl := in_t7 _ (List.mem_of_getElem? (i := 190) rfl)
set_option maxRecDepth 20000 in
theorem wd_1728 : Cond.code yX12_fillsRest cX12_fillsRest 5 (Option.none : Option Jvm.ClassFile.FieldType) ∈ lw_tbl := in_t7 _ (List.mem_of_getElem? (i := 191) rfl)
set_option maxRecDepth 20000 in
theorem wd_1729 : Cond.methodLink RX12 438 yX12_restWith ∈ lw_tbl := in_t7 _ (List.mem_of_getElem? (i := 192) rfl)
set_option maxRecDepth 20000 in
theorem wd_1731 : Cond.instanceMethod yX12_restWith ∈ lw_tbl := in_t7 _ (List.mem_of_getElem? (i := 194) rfl)
set_option maxRecDepth 20000 in
theorem wd_1732 : Cond.code yX12_restWith cX12_restWith 4 (Option.some Jvm.ClassFile.FieldType.int) ∈ lw_tbl := in_t7 _ (List.mem_of_getElem? (i := 195) rfl)
set_option maxRecDepth 20000 in
theorem wd_1733 : Cond.methodLink RL 110 yX12_next ∈ lw_tbl := in_t7 _ (List.mem_of_getElem? (i := 196) rfl)
set_option maxRecDepth 20000 in
theorem wd_1734 : Cond.instanceMethod yX12_next ∈ lw_tbl := in_t7 _ (List.mem_of_getElem? (i := 197) rfl)
set_option maxRecDepth 20000 in
theorem wd_1735 : Cond.selects RX12 yX12_next yX12_next ∈ lw_tbl := in_t7 _ (List.mem_of_getElem? (i := 198) rfl)
set_option maxRecDepth 20000 in
theorem wd_1736 : Cond.code yX12_next cX12_next 7 (Option.some Jvm.ClassFile.FieldType.int) ∈ lw_tbl := in_t7 _ (List.mem_of_getElem? (i := 199) rfl)
set_option maxRecDepth 20000 in
theorem wd_1737 : Cond.methodLink RL 114 yX12_pipes ∈ lw_tbl := in_t7 _ (List.mem_of_getElem? (i := 200) rfl)
set_option maxRecDepth 20000 in
theorem wd_1738 : Cond.instanceMethod yX12_pipes ∈ lw_tbl := in_t7 _ (List.mem_of_getElem? (i := 201) rfl)
set_option maxRecDepth 20000 in
theorem wd_1739 : Cond.selects RX12 yX12_pipes yX12_pipes ∈ lw_tbl := in_t7 _ (List.mem_of_getElem? (i := 202) rfl)
set_option maxRecDepth 20000 in
theorem wd_1740 : Cond.code yX12_pipes cX12_pipes 6 (Option.some Jvm.ClassFile.FieldType.int) ∈ lw_tbl := in_t7 _ (List.mem_of_getElem? (i := 203) rfl)
set_option maxRecDepth 20000 in
theorem wd_1741 : Cond.methodLink RX12 444 yX12_nearestIn ∈ lw_tbl := in_t7 _ (List.mem_of_getElem? (i := 204) rfl)
set_option maxRecDepth 20000 in
theorem wd_1743 : Cond.instanceMethod yX12_nearestIn ∈ lw_tbl := in_t7 _ (List.mem_of_getElem? (i := 206) rfl)
set_option maxRecDepth 20000 in
theorem wd_1744 : Cond.code yX12_nearestIn cX12_nearestIn 5 (Option.some Jvm.ClassFile.FieldType.int) ∈ lw_tbl := in_t7 _ (List.mem_of_getElem? (i := 207) rfl)
set_option maxRecDepth 20000 in
theorem wd_1745 : Cond.methodLink RL 118 yX12_nearest ∈ lw_tbl := in_t7 _ (List.mem_of_getElem? (i := 208) rfl)
set_option maxRecDepth 20000 in
theorem wd_1746 : Cond.instanceMethod yX12_nearest ∈ lw_tbl := in_t7 _ (List.mem_of_getElem? (i := 209) rfl)
set_option maxRecDepth 20000 in
theorem wd_1747 : Cond.selects RX12 yX12_nearest yX12_nearest ∈ lw_tbl := in_t7 _ (List.mem_of_getElem? (i := 210) rfl)
set_option maxRecDepth 20000 in
theorem wd_1748 : Cond.code yX12_nearest cX12_nearest 2 (Option.some Jvm.ClassFile.FieldType.int) ∈ lw_tbl := in_t7 _ (List.mem_of_getElem? (i := 211) rfl)
set_option maxRecDepth 20000 in
theorem wd_1749 : Cond.methodLink RL 130 yX12_twins ∈ lw_tbl := in_t7 _ (List.mem_of_getElem? (i := 212) rfl)
set_option maxRecDepth 20000 in
theorem wd_1750 : Cond.instanceMethod yX12_twins ∈ lw_tbl := in_t7 _ (List.mem_of_getElem? (i := 213) rfl)
set_option maxRecDepth 20000 in
theorem wd_1751 : Cond.selects RX12 yX12_twins yX12_twins ∈ lw_tbl := in_t7 _ (List.mem_of_getElem? (i := 214) rfl)
set_option maxRecDepth 20000 in
theorem wd_1752 : Cond.code yX12_twins cX12_twins 6 (Option.some Jvm.ClassFile.FieldType.int) ∈ lw_tbl := in_t7 _ (List.mem_of_getElem? (i := 215) rfl)
set_option maxRecDepth 20000 in
theorem wd_1753 : Cond.methodLink RX12 447 yX12_unlike ∈ lw_tbl := in_t7 _ (List.mem_of_getElem? (i := 216) rfl)
set_option maxRecDepth 20000 in
theorem wd_1755 : Cond.instanceMethod yX12_unlike ∈ lw_tbl := in_t7 _ (List.mem_of_getElem? (i := 218) rfl)
set_option maxRecDepth 20000 in
theorem wd_1756 : Cond.code yX12_unlike cX12_unlike 3 (Option.some Jvm.ClassFile.FieldType.int) ∈ lw_tbl := in_t7 _ (List.mem_of_getElem? (i := 219) rfl)
set_option maxRecDepth 20000 in
theorem wd_1757 : Cond.methodLink RL 134 yX12_draughty ∈ lw_tbl := in_t7 _ (List.mem_of_getElem? (i := 220) rfl)
set_option maxRecDepth 20000 in
theorem wd_1758 : Cond.instanceMethod yX12_draughty ∈ lw_tbl := in_t7 _ (List.mem_of_getElem? (i := 221) rfl)
set_option maxRecDepth 20000 in
theorem wd_1759 : Cond.selects RX12 yX12_draughty yX12_draughty ∈ lw_tbl := in_t7 _ (List.mem_of_getElem? (i := 222) rfl)
set_option maxRecDepth 20000 in
theorem wd_1760 : Cond.code yX12_draughty cX12_draughty 4 (Option.some Jvm.ClassFile.FieldType.int) ∈ lw_tbl := in_t7 _ (List.mem_of_getElem? (i := 223) rfl)
set_option maxRecDepth 20000 in
theorem wd_1761 : Cond.methodLink RL 138 yX12_roofs ∈ lw_tbl := in_t7 _ (List.mem_of_getElem? (i := 224) rfl)
set_option maxRecDepth 20000 in
theorem wd_1762 : Cond.instanceMethod yX12_roofs ∈ lw_tbl := in_t7 _ (List.mem_of_getElem? (i := 225) rfl)
set_option maxRecDepth 20000 in
theorem wd_1763 : Cond.selects RX12 yX12_roofs yX12_roofs ∈ lw_tbl := in_t7 _ (List.mem_of_getElem? (i := 226) rfl)
set_option maxRecDepth 20000 in
theorem wd_1764 : Cond.code yX12_roofs cX12_roofs 7 (Option.some Jvm.ClassFile.FieldType.int) ∈ lw_tbl := in_t7 _ (List.mem_of_getElem? (i := 227) rfl)
set_option maxRecDepth 20000 in
theorem wd_1765 : Cond.methodLink RX12 450 yX12_roofsBy ∈ lw_tbl := in_t7 _ (List.mem_of_getElem? (i := 228) rfl)
set_option maxRecDepth 20000 in
theorem wd_1767 : Cond.instanceMethod yX12_roofsBy ∈ lw_tbl := in_t7 _ (List.mem_of_getElem? (i := 230) rfl)
set_option maxRecDepth 20000 in
theorem wd_1768 : Cond.code yX12_roofsBy cX12_roofsBy 6 (Option.some Jvm.ClassFile.FieldType.int) ∈ lw_tbl := in_t7 _ (List.mem_of_getElem? (i := 231) rfl)
set_option maxRecDepth 20000 in
theorem wd_1769 : Cond.methodLink RL 142 yX12_paired ∈ lw_tbl := in_t7 _ (List.mem_of_getElem? (i := 232) rfl)
set_option maxRecDepth 20000 in
theorem wd_1770 : Cond.instanceMethod yX12_paired ∈ lw_tbl := in_t7 _ (List.mem_of_getElem? (i := 233) rfl)
set_option maxRecDepth 20000 in
theorem wd_1771 : Cond.selects RX12 yX12_paired yX12_paired ∈ lw_tbl := in_t7 _ (List.mem_of_getElem? (i := 234) rfl)
set_option maxRecDepth 20000 in
theorem wd_1772 : Cond.code yX12_paired cX12_paired 5 (Option.some Jvm.ClassFile.FieldType.int) ∈ lw_tbl := in_t7 _ (List.mem_of_getElem? (i := 235) rfl)
set_option maxRecDepth 20000 in
theorem wd_1773 : Cond.methodLink RX12 459 yX12_fillsPaired ∈ lw_tbl := in_t7 _ (List.mem_of_getElem? (i := 236) rfl)
set_option maxRecDepth 20000 in
theorem wd_1775 : Cond.instanceMethod yX12_fillsPaired ∈ lw_tbl := in_t7 _ (List.mem_of_getElem? (i := 238) rfl)
set_option maxRecDepth 20000 in
theorem wd_1776 : Cond.code yX12_fillsPaired cX12_fillsPaired 5 (Option.none : Option Jvm.ClassFile.FieldType) ∈ lw_tbl := in_t7 _ (List.mem_of_getElem? (i := 239) rfl)
set_option maxRecDepth 20000 in
theorem wd_1777 : Cond.methodLink RX12 453 yX12_lowestOf ∈ lw_tbl := in_t8 _ (List.mem_of_getElem? (i := 0) rfl)
set_option maxRecDepth 20000 in
theorem wd_1778 : Cond.static yX12_lowestOf ∈ lw_tbl := in_t8 _ (List.mem_of_getElem? (i := 1) rfl)
set_option maxRecDepth 20000 in
theorem wd_1779 : Cond.code yX12_lowestOf cX12_lowestOf 2 (Option.some Jvm.ClassFile.FieldType.int) ∈ lw_tbl := in_t8 _ (List.mem_of_getElem? (i := 2) rfl)
set_option maxRecDepth 20000 in
theorem wd_1780 : Cond.methodLink RX12 456 yX12_pairedWith ∈ lw_tbl := in_t8 _ (List.mem_of_getElem? (i := 3) rfl)
set_option maxRecDepth 20000 in
theorem wd_1782 : Cond.instanceMethod yX12_pairedWith ∈ lw_tbl := in_t8 _ (List.mem_of_getElem? (i := 5) rfl)
set_option maxRecDepth 20000 in
theorem wd_1783 : Cond.code yX12_pairedWith cX12_pairedWith 4 (Option.some Jvm.ClassFile.FieldType.int) ∈ lw_tbl := in_t8 _ (List.mem_of_getElem? (i := 6) rfl)
set_option maxRecDepth 20000 in
theorem wd_1784 : Cond.methodLink RX12 462 yX12_pairedOf ∈ lw_tbl := in_t8 _ (List.mem_of_getElem? (i := 7) rfl)
set_option maxRecDepth 20000 in
theorem wd_1786 : Cond.instanceMethod yX12_pairedOf ∈ lw_tbl := in_t8 _ (List.mem_of_getElem? (i := 9) rfl)
set_option maxRecDepth 20000 in
theorem wd_1787 : Cond.code yX12_pairedOf cX12_pairedOf 5 (Option.some Jvm.ClassFile.FieldType.int) ∈ lw_tbl := in_t8 _ (List.mem_of_getElem? (i := 10) rfl)
set_option maxRecDepth 20000 in
theorem wd_1788 : Cond.methodLink RL 146 yX12_summers ∈ lw_tbl := in_t8 _ (List.mem_of_getElem? (i := 11) rfl)
set_option maxRecDepth 20000 in
theorem wd_1789 : Cond.instanceMethod yX12_summers ∈ lw_tbl := in_t8 _ (List.mem_of_getElem? (i := 12) rfl)
set_option maxRecDepth 20000 in
theorem wd_1790 : Cond.selects RX12 yX12_summers yX12_summers ∈ lw_tbl := in_t8 _ (List.mem_of_getElem? (i := 13) rfl)
set_option maxRecDepth 20000 in
theorem wd_1791 : Cond.code yX12_summers cX12_summers 4 (Option.some Jvm.ClassFile.FieldType.int) ∈ lw_tbl := in_t8 _ (List.mem_of_getElem? (i := 14) rfl)
set_option maxRecDepth 20000 in
theorem wd_1792 : Cond.methodLink RL 151 yX12_then ∈ lw_tbl := in_t8 _ (List.mem_of_getElem? (i := 15) rfl)
set_option maxRecDepth 20000 in
theorem wd_1793 : Cond.instanceMethod yX12_then ∈ lw_tbl := in_t8 _ (List.mem_of_getElem? (i := 16) rfl)
set_option maxRecDepth 20000 in
theorem wd_1794 : Cond.selects RX12 yX12_then yX12_then ∈ lw_tbl := in_t8 _ (List.mem_of_getElem? (i := 17) rfl)
set_option maxRecDepth 20000 in
theorem wd_1795 : Cond.code yX12_then cX12_then 4 (Option.some Jvm.ClassFile.FieldType.int) ∈ lw_tbl := in_t8 _ (List.mem_of_getElem? (i := 18) rfl)
set_option maxRecDepth 20000 in
theorem wd_1796 : Cond.methodLink RL 155 yX12_year ∈ lw_tbl := in_t8 _ (List.mem_of_getElem? (i := 19) rfl)
set_option maxRecDepth 20000 in
theorem wd_1797 : Cond.instanceMethod yX12_year ∈ lw_tbl := in_t8 _ (List.mem_of_getElem? (i := 20) rfl)
set_option maxRecDepth 20000 in
theorem wd_1798 : Cond.selects RX12 yX12_year yX12_year ∈ lw_tbl := in_t8 _ (List.mem_of_getElem? (i := 21) rfl)
set_option maxRecDepth 20000 in
theorem wd_1799 : Cond.code yX12_year cX12_year 6 (Option.some Jvm.ClassFile.FieldType.int) ∈ lw_tbl := in_t8 _ (List.mem_of_getElem? (i := 22) rfl)
set_option maxRecDepth 20000 in
theorem wd_1800 : Cond.methodLink RL 160 yX12_tell ∈ lw_tbl := in_t8 _ (List.mem_of_getElem? (i := 23) rfl)
set_option maxRecDepth 20000 in
theorem wd_1801 : Cond.instanceMethod yX12_tell ∈ lw_tbl := in_t8 _ (List.mem_of_getElem? (i := 24) rfl)
set_option maxRecDepth 20000 in
theorem wd_1802 : Cond.selects RX12 yX12_tell yX12_tell ∈ lw_tbl := in_t8 _ (List.mem_of_getElem? (i := 25) rfl)
set_option maxRecDepth 20000 in
theorem wd_1803 : Cond.code yX12_tell cX12_tell 4 (Option.some Jvm.ClassFile.FieldType.int) ∈ lw_tbl := in_t8 _ (List.mem_of_getElem? (i := 26) rfl)
set_option maxRecDepth 20000 in
theorem wd_1804 : Cond.methodLink RL 164 yX12_forget ∈ lw_tbl := in_t8 _ (List.mem_of_getElem? (i := 27) rfl)
set_option maxRecDepth 20000 in
theorem wd_1805 : Cond.instanceMethod yX12_forget ∈ lw_tbl := in_t8 _ (List.mem_of_getElem? (i := 28) rfl)
set_option maxRecDepth 20000 in
theorem wd_1806 : Cond.selects RX12 yX12_forget yX12_forget ∈ lw_tbl := in_t8 _ (List.mem_of_getElem? (i := 29) rfl)
set_option maxRecDepth 20000 in
theorem wd_1807 : Cond.code yX12_forget cX12_forget 2 (Option.some Jvm.ClassFile.FieldType.int) ∈ lw_tbl := in_t8 _ (List.mem_of_getElem? (i := 30) rfl)
set_option maxRecDepth 20000 in
theorem wd_1808 : Cond.methodLink RL 168 yX12_whose ∈ lw_tbl := in_t8 _ (List.mem_of_getElem? (i := 31) rfl)
set_option maxRecDepth 20000 in
theorem wd_1809 : Cond.instanceMethod yX12_whose ∈ lw_tbl := in_t8 _ (List.mem_of_getElem? (i := 32) rfl)
set_option maxRecDepth 20000 in
theorem wd_1810 : Cond.selects RX12 yX12_whose yX12_whose ∈ lw_tbl := in_t8 _ (List.mem_of_getElem? (i := 33) rfl)
set_option maxRecDepth 20000 in
theorem wd_1811 : Cond.code yX12_whose cX12_whose 4 (Option.some Jvm.ClassFile.FieldType.int) ∈ lw_tbl := in_t8 _ (List.mem_of_getElem? (i := 34) rfl)
set_option maxRecDepth 20000 in
theorem wd_1812 : Cond.methodLink RX12 468 yX12_whoseBits ∈ lw_tbl := in_t8 _ (List.mem_of_getElem? (i := 35) rfl)
set_option maxRecDepth 20000 in
theorem wd_1814 : Cond.instanceMethod yX12_whoseBits ∈ lw_tbl := in_t8 _ (List.mem_of_getElem? (i := 37) rfl)
set_option maxRecDepth 20000 in
theorem wd_1815 : Cond.code yX12_whoseBits cX12_whoseBits 6 (Option.some Jvm.ClassFile.FieldType.int) ∈ lw_tbl := in_t8 _ (List.mem_of_getElem? (i := 38) rfl)
set_option maxRecDepth 20000 in
theorem wd_1816 : Cond.methodLink RX12 465 yX12_markOf ∈ lw_tbl := in_t8 _ (List.mem_of_getElem? (i := 39) rfl)
set_option maxRecDepth 20000 in
theorem wd_1818 : Cond.instanceMethod yX12_markOf ∈ lw_tbl := in_t8 _ (List.mem_of_getElem? (i := 41) rfl)
set_option maxRecDepth 20000 in
theorem wd_1819 : Cond.code yX12_markOf cX12_markOf 3 (Option.some Jvm.ClassFile.FieldType.int) ∈ lw_tbl := in_t8 _ (List.mem_of_getElem? (i := 42) rfl)
set_option maxRecDepth 20000 in
theorem wd_1820 : Cond.methodLink RX12 471 yX12_bits ∈ lw_tbl := in_t8 _ (List.mem_of_getElem? (i := 43) rfl)
set_option maxRecDepth 20000 in
theorem wd_1821 : Cond.static yX12_bits ∈ lw_tbl := in_t8 _ (List.mem_of_getElem? (i := 44) rfl)
set_option maxRecDepth 20000 in
theorem wd_1822 : Cond.code yX12_bits cX12_bits 3 (Option.some Jvm.ClassFile.FieldType.int) ∈ lw_tbl := in_t8 _ (List.mem_of_getElem? (i := 45) rfl)
set_option maxRecDepth 20000 in
theorem wd_1823 : Cond.methodLink RL 172 yX12_look ∈ lw_tbl := in_t8 _ (List.mem_of_getElem? (i := 46) rfl)
set_option maxRecDepth 20000 in
theorem wd_1824 : Cond.instanceMethod yX12_look ∈ lw_tbl := in_t8 _ (List.mem_of_getElem? (i := 47) rfl)
set_option maxRecDepth 20000 in
theorem wd_1825 : Cond.selects RX12 yX12_look yX12_look ∈ lw_tbl := in_t8 _ (List.mem_of_getElem? (i := 48) rfl)
set_option maxRecDepth 20000 in
theorem wd_1826 : Cond.code yX12_look cX12_look 9 (Option.some Jvm.ClassFile.FieldType.int) ∈ lw_tbl := in_t8 _ (List.mem_of_getElem? (i := 49) rfl)
set_option maxRecDepth 20000 in
theorem wd_1827 : Cond.methodLink RL 177 yX12_hold ∈ lw_tbl := in_t8 _ (List.mem_of_getElem? (i := 50) rfl)
set_option maxRecDepth 20000 in
theorem wd_1828 : Cond.instanceMethod yX12_hold ∈ lw_tbl := in_t8 _ (List.mem_of_getElem? (i := 51) rfl)
set_option maxRecDepth 20000 in
theorem wd_1829 : Cond.selects RX12 yX12_hold yX12_hold ∈ lw_tbl := in_t8 _ (List.mem_of_getElem? (i := 52) rfl)
set_option maxRecDepth 20000 in
theorem wd_1830 : Cond.code yX12_hold cX12_hold 3 (Option.some Jvm.ClassFile.FieldType.boolean) ∈ lw_tbl := in_t8 _ (List.mem_of_getElem? (i := 53) rfl)
set_option maxRecDepth 20000 in
theorem wd_1831 : Cond.methodLink RL 181 yX12_restore ∈ lw_tbl := in_t8 _ (List.mem_of_getElem? (i := 54) rfl)
set_option maxRecDepth 20000 in
theorem wd_1832 : Cond.instanceMethod yX12_restore ∈ lw_tbl := in_t8 _ (List.mem_of_getElem? (i := 55) rfl)
set_option maxRecDepth 20000 in
theorem wd_1833 : Cond.selects RX12 yX12_restore yX12_restore ∈ lw_tbl := in_t8 _ (List.mem_of_getElem? (i := 56) rfl)
set_option maxRecDepth 20000 in
theorem wd_1834 : Cond.code yX12_restore cX12_restore 3 (Option.some Jvm.ClassFile.FieldType.boolean) ∈ lw_tbl := in_t8 _ (List.mem_of_getElem? (i := 57) rfl)
set_option maxRecDepth 20000 in
theorem wd_1835 : Cond.methodLink RL 185 yX12_count ∈ lw_tbl := in_t8 _ (List.mem_of_getElem? (i := 58) rfl)
set_option maxRecDepth 20000 in
theorem wd_1836 : Cond.instanceMethod yX12_count ∈ lw_tbl := in_t8 _ (List.mem_of_getElem? (i := 59) rfl)
set_option maxRecDepth 20000 in
theorem wd_1837 : Cond.selects RX12 yX12_count yX12_count ∈ lw_tbl := in_t8 _ (List.mem_of_getElem? (i := 60) rfl)
set_option maxRecDepth 20000 in
theorem wd_1838 : Cond.code yX12_count cX12_count 4 (Option.some Jvm.ClassFile.FieldType.int) ∈ lw_tbl := in_t8 _ (List.mem_of_getElem? (i := 61) rfl)
set_option maxRecDepth 20000 in
theorem wd_1839 : Cond.methodLink RX12 474 yX12_sumNow ∈ lw_tbl := in_t8 _ (List.mem_of_getElem? (i := 62) rfl)
set_option maxRecDepth 20000 in
theorem wd_1841 : Cond.instanceMethod yX12_sumNow ∈ lw_tbl := in_t8 _ (List.mem_of_getElem? (i := 64) rfl)
set_option maxRecDepth 20000 in
theorem wd_1842 : Cond.code yX12_sumNow cX12_sumNow 4 (Option.some Jvm.ClassFile.FieldType.int) ∈ lw_tbl := in_t8 _ (List.mem_of_getElem? (i := 65) rfl)
set_option maxRecDepth 20000 in
theorem wd_1843 : Cond.methodLink RX12 477 yX12_noneBits ∈ lw_tbl := in_t8 _ (List.mem_of_getElem? (i := 66) rfl)
set_option maxRecDepth 20000 in
theorem wd_1845 : Cond.instanceMethod yX12_noneBits ∈ lw_tbl := in_t8 _ (List.mem_of_getElem? (i := 68) rfl)
set_option maxRecDepth 20000 in
theorem wd_1846 : Cond.code yX12_noneBits cX12_noneBits 4 (Option.some Jvm.ClassFile.FieldType.int) ∈ lw_tbl := in_t8 _ (List.mem_of_getElem? (i := 69) rfl)
set_option maxRecDepth 20000 in
theorem wd_1847 : Cond.fieldLink RJ0 9 "java/lang/String" "value" "[B" ∈ lw_tbl := in_t8 _ (List.mem_of_getElem? (i := 70) rfl)
set_option maxRecDepth 20000 in
theorem wd_1848 : Cond.fieldLink RJ0 15 "java/lang/String" "coder" "B" ∈ lw_tbl := in_t8 _ (List.mem_of_getElem? (i := 71) rfl)
