/-! the words that the methods link, and the methods' table: printed by program -/
theorem zz_in0 {w : Cond} (h : w ∈ k2_sels lw_privs) : w ∈ lw_tbl := List.mem_append_left _ h
theorem zz_in1 {w : Cond} (h : w ∈ tables_1_1) : w ∈ lw_tbl := List.mem_append_right _ (List.mem_append_left _ h)
theorem zz_in2 {w : Cond} (h : w ∈ tables_1_2) : w ∈ lw_tbl := List.mem_append_right _ (List.mem_append_right _ (List.mem_append_left _ h))
theorem zz_in3 {w : Cond} (h : w ∈ tables_1_3) : w ∈ lw_tbl := List.mem_append_right _ (List.mem_append_right _ (List.mem_append_right _ (List.mem_append_left _ h)))
theorem zz_in4 {w : Cond} (h : w ∈ tables_1_4) : w ∈ lw_tbl := List.mem_append_right _ (List.mem_append_right _ (List.mem_append_right _ (List.mem_append_right _ (List.mem_append_left _ h))))
theorem zz_in5 {w : Cond} (h : w ∈ tables_1_5) : w ∈ lw_tbl := List.mem_append_right _ (List.mem_append_right _ (List.mem_append_right _ (List.mem_append_right _ (List.mem_append_right _ (List.mem_append_left _ h)))))
theorem zz_in6 {w : Cond} (h : w ∈ tables_1_6) : w ∈ lw_tbl := List.mem_append_right _ (List.mem_append_right _ (List.mem_append_right _ (List.mem_append_right _ (List.mem_append_right _ (List.mem_append_right _ (h))))))
set_option maxRecDepth 20000 in
theorem wd_0 : Cond.selects "NeverTogether" yX7_found yX7_found ∈ zz_TG := List.mem_filter.mpr ⟨zz_in0 (List.mem_of_getElem? (i := 0) rfl), rfl⟩
set_option maxRecDepth 20000 in
theorem wd_1 : Cond.selects "NeverTogether" yX7_refusalOfPlace yX7_refusalOfPlace ∈ zz_TG := List.mem_filter.mpr ⟨zz_in0 (List.mem_of_getElem? (i := 1) rfl), rfl⟩
set_option maxRecDepth 20000 in
theorem wd_2 : Cond.selects "NeverTogether" yX7_refusalOfShelf yX7_refusalOfShelf ∈ zz_TG := List.mem_filter.mpr ⟨zz_in0 (List.mem_of_getElem? (i := 2) rfl), rfl⟩
set_option maxRecDepth 20000 in
theorem wd_3 : Cond.selects "NeverTogether$Reader" yX5_skipBlanks yX5_skipBlanks ∈ zz_TG := List.mem_filter.mpr ⟨zz_in0 (List.mem_of_getElem? (i := 3) rfl), rfl⟩
set_option maxRecDepth 20000 in
theorem wd_4 : Cond.selects "NeverTogether$Reader" yX5_takeHeats yX5_takeHeats ∈ zz_TG := List.mem_filter.mpr ⟨zz_in0 (List.mem_of_getElem? (i := 4) rfl), rfl⟩
set_option maxRecDepth 20000 in
theorem wd_5 : Cond.selects "NeverTogether$Reader" yX5_takeFigure yX5_takeFigure ∈ zz_TG := List.mem_filter.mpr ⟨zz_in0 (List.mem_of_getElem? (i := 5) rfl), rfl⟩
set_option maxRecDepth 20000 in
theorem wd_6 : Cond.selects "NeverTogether$Reader" yX5_takePiece yX5_takePiece ∈ zz_TG := List.mem_filter.mpr ⟨zz_in0 (List.mem_of_getElem? (i := 6) rfl), rfl⟩
set_option maxRecDepth 20000 in
theorem wd_7 : Cond.selects "NeverTogether$House" yX2_perform yX2_perform ∈ zz_TG := List.mem_filter.mpr ⟨zz_in0 (List.mem_of_getElem? (i := 7) rfl), rfl⟩
set_option maxRecDepth 20000 in
theorem wd_8 : Cond.selects "NeverTogether$House" yX2_gainAll yX2_gainAll ∈ zz_TG := List.mem_filter.mpr ⟨zz_in0 (List.mem_of_getElem? (i := 8) rfl), rfl⟩
set_option maxRecDepth 20000 in
theorem wd_9 : Cond.selects "NeverTogether$Moment" yX4_doMeet yX4_doMeet ∈ zz_TG := List.mem_filter.mpr ⟨zz_in0 (List.mem_of_getElem? (i := 9) rfl), rfl⟩
set_option maxRecDepth 20000 in
theorem wd_10 : Cond.selects "NeverTogether$Moment" yX4_isSeen yX4_isSeen ∈ zz_TG := List.mem_filter.mpr ⟨zz_in0 (List.mem_of_getElem? (i := 10) rfl), rfl⟩
set_option maxRecDepth 20000 in
theorem wd_11 : Cond.selects "NeverTogether" yX7_pairsNow yX7_pairsNow ∈ zz_TG := List.mem_filter.mpr ⟨zz_in0 (List.mem_of_getElem? (i := 11) rfl), rfl⟩
set_option maxRecDepth 20000 in
theorem wd_12 : Cond.selects "NeverTogether$Keeper" yX3_noteGaps yX3_noteGaps ∈ zz_TG := List.mem_filter.mpr ⟨zz_in0 (List.mem_of_getElem? (i := 12) rfl), rfl⟩
set_option maxRecDepth 20000 in
theorem wd_13 : Cond.selects "NeverTogether$Keeper" yX3_search yX3_search ∈ zz_TG := List.mem_filter.mpr ⟨zz_in0 (List.mem_of_getElem? (i := 13) rfl), rfl⟩
set_option maxRecDepth 20000 in
theorem wd_14 : Cond.selects "NeverTogether$Keeper" yX3_fits yX3_fits ∈ zz_TG := List.mem_filter.mpr ⟨zz_in0 (List.mem_of_getElem? (i := 14) rfl), rfl⟩
set_option maxRecDepth 20000 in
theorem wd_15 : Cond.selects "NeverTogether$Keeper" yX3_meetBy yX3_meetBy ∈ zz_TG := List.mem_filter.mpr ⟨zz_in0 (List.mem_of_getElem? (i := 15) rfl), rfl⟩
set_option maxRecDepth 20000 in
theorem wd_16 : Cond.selects "NeverTogether$Keeper" yX3_costWith yX3_costWith ∈ zz_TG := List.mem_filter.mpr ⟨zz_in0 (List.mem_of_getElem? (i := 16) rfl), rfl⟩
set_option maxRecDepth 20000 in
theorem wd_17 : Cond.selects "NeverTogether$Keeper" yX3_agreeWithout yX3_agreeWithout ∈ zz_TG := List.mem_filter.mpr ⟨zz_in0 (List.mem_of_getElem? (i := 17) rfl), rfl⟩
set_option maxRecDepth 20000 in
theorem wd_18 : Cond.selects "NeverTogether" yX7_lateOnes yX7_lateOnes ∈ zz_TG := List.mem_filter.mpr ⟨zz_in0 (List.mem_of_getElem? (i := 18) rfl), rfl⟩
set_option maxRecDepth 20000 in
theorem wd_19 : Cond.selects "NeverTogether" yX7_refusalOfHeard yX7_refusalOfHeard ∈ zz_TG := List.mem_filter.mpr ⟨zz_in0 (List.mem_of_getElem? (i := 19) rfl), rfl⟩
set_option maxRecDepth 20000 in
theorem wd_20 : Cond.selects "NeverTogether" yX7_agrees yX7_agrees ∈ zz_TG := List.mem_filter.mpr ⟨zz_in0 (List.mem_of_getElem? (i := 20) rfl), rfl⟩
set_option maxRecDepth 20000 in
theorem wd_21 : Cond.selects "NeverTogether$Game" yX1_endsApart yX1_endsApart ∈ zz_TG := List.mem_filter.mpr ⟨zz_in0 (List.mem_of_getElem? (i := 21) rfl), rfl⟩
set_option maxRecDepth 20000 in
theorem wd_22 : Cond.selects "NeverTogether$Game" yX1_endsApartBy yX1_endsApartBy ∈ zz_TG := List.mem_filter.mpr ⟨zz_in0 (List.mem_of_getElem? (i := 22) rfl), rfl⟩
set_option maxRecDepth 20000 in
theorem wd_23 : Cond.selects "NeverTogether" yX7_tally yX7_tally ∈ zz_TG := List.mem_filter.mpr ⟨zz_in0 (List.mem_of_getElem? (i := 23) rfl), rfl⟩
set_option maxRecDepth 20000 in
theorem wd_24 : Cond.selects "NeverTogetherModel" yX8_found yX8_found ∈ zz_TG := List.mem_filter.mpr ⟨zz_in0 (List.mem_of_getElem? (i := 24) rfl), rfl⟩
set_option maxRecDepth 20000 in
theorem wd_25 : Cond.selects "NeverTogetherModel" yX8_anew yX8_anew ∈ zz_TG := List.mem_filter.mpr ⟨zz_in0 (List.mem_of_getElem? (i := 25) rfl), rfl⟩
set_option maxRecDepth 20000 in
theorem wd_26 : Cond.selects "NeverTogetherModel" yX8_tells yX8_tells ∈ zz_TG := List.mem_filter.mpr ⟨zz_in0 (List.mem_of_getElem? (i := 26) rfl), rfl⟩
set_option maxRecDepth 20000 in
theorem wd_27 : Cond.selects "NeverTogetherModel" yX8_faultOf yX8_faultOf ∈ zz_TG := List.mem_filter.mpr ⟨zz_in0 (List.mem_of_getElem? (i := 27) rfl), rfl⟩
set_option maxRecDepth 20000 in
theorem wd_28 : Cond.selects "NeverTogetherModel" yX8_blanks yX8_blanks ∈ zz_TG := List.mem_filter.mpr ⟨zz_in0 (List.mem_of_getElem? (i := 28) rfl), rfl⟩
set_option maxRecDepth 20000 in
theorem wd_29 : Cond.selects "NeverTogetherModel" yX8_byteAt yX8_byteAt ∈ zz_TG := List.mem_filter.mpr ⟨zz_in0 (List.mem_of_getElem? (i := 29) rfl), rfl⟩
set_option maxRecDepth 20000 in
theorem wd_30 : Cond.selects "NeverTogetherModel" yX8_takesHeat yX8_takesHeat ∈ zz_TG := List.mem_filter.mpr ⟨zz_in0 (List.mem_of_getElem? (i := 30) rfl), rfl⟩
set_option maxRecDepth 20000 in
theorem wd_31 : Cond.selects "NeverTogetherModel" yX8_figure yX8_figure ∈ zz_TG := List.mem_filter.mpr ⟨zz_in0 (List.mem_of_getElem? (i := 31) rfl), rfl⟩
set_option maxRecDepth 20000 in
theorem wd_32 : Cond.selects "NeverTogetherModel" yX8_takesPiece yX8_takesPiece ∈ zz_TG := List.mem_filter.mpr ⟨zz_in0 (List.mem_of_getElem? (i := 32) rfl), rfl⟩
set_option maxRecDepth 20000 in
theorem wd_33 : Cond.selects "NeverTogetherModel" yX8_copyAll yX8_copyAll ∈ zz_TG := List.mem_filter.mpr ⟨zz_in0 (List.mem_of_getElem? (i := 33) rfl), rfl⟩
set_option maxRecDepth 20000 in
theorem wd_34 : Cond.selects "NeverTogetherModel" yX8_isPiece yX8_isPiece ∈ zz_TG := List.mem_filter.mpr ⟨zz_in0 (List.mem_of_getElem? (i := 34) rfl), rfl⟩
set_option maxRecDepth 20000 in
theorem wd_35 : Cond.selects "NeverTogetherModel" yX8_pieceTells yX8_pieceTells ∈ zz_TG := List.mem_filter.mpr ⟨zz_in0 (List.mem_of_getElem? (i := 35) rfl), rfl⟩
set_option maxRecDepth 20000 in
theorem wd_36 : Cond.selects "NeverTogetherModel" yX8_markOf yX8_markOf ∈ zz_TG := List.mem_filter.mpr ⟨zz_in0 (List.mem_of_getElem? (i := 36) rfl), rfl⟩
set_option maxRecDepth 20000 in
theorem wd_37 : Cond.selects "NeverTogetherModel" yX8_gainOf yX8_gainOf ∈ zz_TG := List.mem_filter.mpr ⟨zz_in0 (List.mem_of_getElem? (i := 37) rfl), rfl⟩
set_option maxRecDepth 20000 in
theorem wd_38 : Cond.selects "NeverTogetherModel" yX8_heatOf yX8_heatOf ∈ zz_TG := List.mem_filter.mpr ⟨zz_in0 (List.mem_of_getElem? (i := 38) rfl), rfl⟩
set_option maxRecDepth 20000 in
theorem wd_39 : Cond.selects "NeverTogetherModel" yX8_minuteIn yX8_minuteIn ∈ zz_TG := List.mem_filter.mpr ⟨zz_in0 (List.mem_of_getElem? (i := 39) rfl), rfl⟩
set_option maxRecDepth 20000 in
theorem wd_40 : Cond.selects "NeverTogetherModel" yX8_gainsIn yX8_gainsIn ∈ zz_TG := List.mem_filter.mpr ⟨zz_in0 (List.mem_of_getElem? (i := 40) rfl), rfl⟩
set_option maxRecDepth 20000 in
theorem wd_41 : Cond.selects "NeverTogetherModel" yX8_areMet yX8_areMet ∈ zz_TG := List.mem_filter.mpr ⟨zz_in0 (List.mem_of_getElem? (i := 41) rfl), rfl⟩
set_option maxRecDepth 20000 in
theorem wd_42 : Cond.selects "NeverTogetherModel" yX8_minds yX8_minds ∈ zz_TG := List.mem_filter.mpr ⟨zz_in0 (List.mem_of_getElem? (i := 42) rfl), rfl⟩
set_option maxRecDepth 20000 in
theorem wd_43 : Cond.selects "NeverTogetherModel" yX8_passes yX8_passes ∈ zz_TG := List.mem_filter.mpr ⟨zz_in0 (List.mem_of_getElem? (i := 43) rfl), rfl⟩
set_option maxRecDepth 20000 in
theorem wd_44 : Cond.selects "NeverTogetherModel" yX8_pairsNow yX8_pairsNow ∈ zz_TG := List.mem_filter.mpr ⟨zz_in0 (List.mem_of_getElem? (i := 44) rfl), rfl⟩
set_option maxRecDepth 20000 in
theorem wd_45 : Cond.selects "NeverTogetherModel" yX8_standsIn yX8_standsIn ∈ zz_TG := List.mem_filter.mpr ⟨zz_in0 (List.mem_of_getElem? (i := 45) rfl), rfl⟩
set_option maxRecDepth 20000 in
theorem wd_46 : Cond.selects "NeverTogetherModel" yX8_pairs yX8_pairs ∈ zz_TG := List.mem_filter.mpr ⟨zz_in0 (List.mem_of_getElem? (i := 46) rfl), rfl⟩
set_option maxRecDepth 20000 in
theorem wd_47 : Cond.selects "NeverTogetherModel" yX8_touches yX8_touches ∈ zz_TG := List.mem_filter.mpr ⟨zz_in0 (List.mem_of_getElem? (i := 47) rfl), rfl⟩
set_option maxRecDepth 20000 in
theorem wd_48 : Cond.selects "NeverTogetherModel" yX8_areTwo yX8_areTwo ∈ zz_TG := List.mem_filter.mpr ⟨zz_in0 (List.mem_of_getElem? (i := 48) rfl), rfl⟩
set_option maxRecDepth 20000 in
theorem wd_49 : Cond.selects "NeverTogetherModel" yX8_meetOf yX8_meetOf ∈ zz_TG := List.mem_filter.mpr ⟨zz_in0 (List.mem_of_getElem? (i := 49) rfl), rfl⟩
set_option maxRecDepth 20000 in
theorem wd_50 : Cond.selects "NeverTogetherModel" yX8_begins yX8_begins ∈ zz_TG := List.mem_filter.mpr ⟨zz_in0 (List.mem_of_getElem? (i := 50) rfl), rfl⟩
set_option maxRecDepth 20000 in
theorem wd_51 : Cond.selects "NeverTogetherModel" yX8_goes yX8_goes ∈ zz_TG := List.mem_filter.mpr ⟨zz_in0 (List.mem_of_getElem? (i := 51) rfl), rfl⟩
set_option maxRecDepth 20000 in
theorem wd_52 : Cond.selects "NeverTogetherModel" yX8_rings yX8_rings ∈ zz_TG := List.mem_filter.mpr ⟨zz_in0 (List.mem_of_getElem? (i := 52) rfl), rfl⟩
set_option maxRecDepth 20000 in
theorem wd_53 : Cond.selects "NeverTogetherModel" yX8_layClashes yX8_layClashes ∈ zz_TG := List.mem_filter.mpr ⟨zz_in0 (List.mem_of_getElem? (i := 53) rfl), rfl⟩
set_option maxRecDepth 20000 in
theorem wd_54 : Cond.selects "NeverTogetherModel" yX8_clash yX8_clash ∈ zz_TG := List.mem_filter.mpr ⟨zz_in0 (List.mem_of_getElem? (i := 54) rfl), rfl⟩
set_option maxRecDepth 20000 in
theorem wd_55 : Cond.selects "NeverTogetherModel" yX8_codes yX8_codes ∈ zz_TG := List.mem_filter.mpr ⟨zz_in0 (List.mem_of_getElem? (i := 55) rfl), rfl⟩
set_option maxRecDepth 20000 in
theorem wd_56 : Cond.selects "NeverTogetherModel" yX8_isApart yX8_isApart ∈ zz_TG := List.mem_filter.mpr ⟨zz_in0 (List.mem_of_getElem? (i := 56) rfl), rfl⟩
set_option maxRecDepth 20000 in
theorem wd_57 : Cond.selects "NeverTogetherModel" yX8_stairsOf yX8_stairsOf ∈ zz_TG := List.mem_filter.mpr ⟨zz_in0 (List.mem_of_getElem? (i := 57) rfl), rfl⟩
set_option maxRecDepth 20000 in
theorem wd_58 : Cond.selects "NeverTogetherModel" yX8_against yX8_against ∈ zz_TG := List.mem_filter.mpr ⟨zz_in0 (List.mem_of_getElem? (i := 58) rfl), rfl⟩
set_option maxRecDepth 20000 in
theorem wd_59 : Cond.selects "NeverTogetherModel" yX8_isSo yX8_isSo ∈ zz_TG := List.mem_filter.mpr ⟨zz_in0 (List.mem_of_getElem? (i := 59) rfl), rfl⟩
set_option maxRecDepth 20000 in
theorem wd_60 : Cond.selects "NeverTogetherModel" yX8_firstOf yX8_firstOf ∈ zz_TG := List.mem_filter.mpr ⟨zz_in0 (List.mem_of_getElem? (i := 60) rfl), rfl⟩
set_option maxRecDepth 20000 in
theorem wd_61 : Cond.selects "NeverTogetherModel" yX8_winsBy yX8_winsBy ∈ zz_TG := List.mem_filter.mpr ⟨zz_in0 (List.mem_of_getElem? (i := 61) rfl), rfl⟩
set_option maxRecDepth 20000 in
theorem wd_62 : Cond.selects "NeverTogetherModel" yX8_turns yX8_turns ∈ zz_TG := List.mem_filter.mpr ⟨zz_in0 (List.mem_of_getElem? (i := 62) rfl), rfl⟩
set_option maxRecDepth 20000 in
theorem wd_63 : Cond.selects "NeverTogetherModel" yX8_isSafe yX8_isSafe ∈ zz_TG := List.mem_filter.mpr ⟨zz_in0 (List.mem_of_getElem? (i := 63) rfl), rfl⟩
set_option maxRecDepth 20000 in
theorem wd_64 : Cond.selects "NeverTogetherModel" yX8_winsOnce yX8_winsOnce ∈ zz_TG := List.mem_filter.mpr ⟨zz_in0 (List.mem_of_getElem? (i := 64) rfl), rfl⟩
set_option maxRecDepth 20000 in
theorem wd_65 : Cond.selects "NeverTogetherModel" yX8_chance yX8_chance ∈ zz_TG := List.mem_filter.mpr ⟨zz_in0 (List.mem_of_getElem? (i := 65) rfl), rfl⟩
set_option maxRecDepth 20000 in
theorem wd_66 : Cond.selects "NeverTogetherModel" yX8_ofKind yX8_ofKind ∈ zz_TG := List.mem_filter.mpr ⟨zz_in0 (List.mem_of_getElem? (i := 66) rfl), rfl⟩
set_option maxRecDepth 20000 in
theorem wd_67 : Cond.selects "NeverTogetherModel" yX8_mix yX8_mix ∈ zz_TG := List.mem_filter.mpr ⟨zz_in0 (List.mem_of_getElem? (i := 67) rfl), rfl⟩
set_option maxRecDepth 20000 in
theorem wd_69 : Cond.initialized "NeverTogether" ∈ zz_TG := List.mem_filter.mpr ⟨zz_in1 (List.mem_of_getElem? (i := 1) rfl), rfl⟩
set_option maxRecDepth 20000 in
theorem wd_70 : Cond.initialized "NeverTogether$Shelf" ∈ zz_TG := List.mem_filter.mpr ⟨zz_in1 (List.mem_of_getElem? (i := 2) rfl), rfl⟩
set_option maxRecDepth 20000 in
theorem wd_71 : Cond.initialized "NeverTogether$Reader" ∈ zz_TG := List.mem_filter.mpr ⟨zz_in1 (List.mem_of_getElem? (i := 3) rfl), rfl⟩
set_option maxRecDepth 20000 in
theorem wd_72 : Cond.initialized "NeverTogether$House" ∈ zz_TG := List.mem_filter.mpr ⟨zz_in1 (List.mem_of_getElem? (i := 4) rfl), rfl⟩
set_option maxRecDepth 20000 in
theorem wd_73 : Cond.initialized "NeverTogether$Moment" ∈ zz_TG := List.mem_filter.mpr ⟨zz_in1 (List.mem_of_getElem? (i := 5) rfl), rfl⟩
set_option maxRecDepth 20000 in
theorem wd_74 : Cond.initialized "NeverTogether$Keeper" ∈ zz_TG := List.mem_filter.mpr ⟨zz_in1 (List.mem_of_getElem? (i := 6) rfl), rfl⟩
set_option maxRecDepth 20000 in
theorem wd_75 : Cond.initialized "NeverTogether$Game" ∈ zz_TG := List.mem_filter.mpr ⟨zz_in1 (List.mem_of_getElem? (i := 7) rfl), rfl⟩
set_option maxRecDepth 20000 in
theorem wd_76 : Cond.initialized "NeverTogether$Draughts" ∈ zz_TG := List.mem_filter.mpr ⟨zz_in1 (List.mem_of_getElem? (i := 8) rfl), rfl⟩
set_option maxRecDepth 20000 in
theorem wd_77 : Cond.initialized "NeverTogetherModel" ∈ zz_TG := List.mem_filter.mpr ⟨zz_in1 (List.mem_of_getElem? (i := 9) rfl), rfl⟩
set_option maxRecDepth 20000 in
theorem wd_78 : Cond.initialized "java/lang/System" ∈ zz_TG := List.mem_filter.mpr ⟨zz_in1 (List.mem_of_getElem? (i := 10) rfl), rfl⟩
set_option maxRecDepth 20000 in
theorem wd_79 : Cond.initialized "java/lang/Integer" ∈ zz_TG := List.mem_filter.mpr ⟨zz_in1 (List.mem_of_getElem? (i := 11) rfl), rfl⟩
set_option maxRecDepth 20000 in
theorem wd_80 : Cond.initialized "java/lang/Long" ∈ zz_TG := List.mem_filter.mpr ⟨zz_in1 (List.mem_of_getElem? (i := 12) rfl), rfl⟩
set_option maxRecDepth 20000 in
theorem wd_81 : Cond.initialized "java/lang/Math" ∈ zz_TG := List.mem_filter.mpr ⟨zz_in1 (List.mem_of_getElem? (i := 13) rfl), rfl⟩
set_option maxRecDepth 20000 in
theorem wd_82 : Cond.classLink "NeverTogetherLaw" 7 "NeverTogether" ∈ zz_TG := List.mem_filter.mpr ⟨zz_in1 (List.mem_of_getElem? (i := 14) rfl), rfl⟩
set_option maxRecDepth 20000 in
theorem wd_84 : Cond.methodLink "NeverTogetherLaw" 9 yX7_init ∈ zz_TG := List.mem_filter.mpr ⟨zz_in1 (List.mem_of_getElem? (i := 16) rfl), rfl⟩
set_option maxRecDepth 20000 in
theorem wd_85 : Cond.instanceMethod yX7_init ∈ zz_TG := List.mem_filter.mpr ⟨zz_in1 (List.mem_of_getElem? (i := 17) rfl), rfl⟩
set_option maxRecDepth 20000 in
theorem wd_86 : Cond.code yX7_init cX7_init 1 none ∈ zz_TG := List.mem_filter.mpr ⟨zz_in1 (List.mem_of_getElem? (i := 18) rfl), rfl⟩
set_option maxRecDepth 20000 in
theorem wd_87 : Cond.methodLink "NeverTogether" 3 objectInit ∈ zz_TG := List.mem_filter.mpr ⟨zz_in1 (List.mem_of_getElem? (i := 19) rfl), rfl⟩
set_option maxRecDepth 20000 in
theorem wd_88 : Cond.instanceMethod objectInit ∈ zz_TG := List.mem_filter.mpr ⟨zz_in1 (List.mem_of_getElem? (i := 20) rfl), rfl⟩
set_option maxRecDepth 20000 in
theorem wd_89 : Cond.code objectInit ⟨#[0xb1]⟩ 1 none ∈ zz_TG := List.mem_filter.mpr ⟨zz_in1 (List.mem_of_getElem? (i := 21) rfl), rfl⟩
set_option maxRecDepth 20000 in
theorem wd_90 : Cond.classLink "NeverTogether" 9 "NeverTogether$Shelf" ∈ zz_TG := List.mem_filter.mpr ⟨zz_in1 (List.mem_of_getElem? (i := 22) rfl), rfl⟩
set_option maxRecDepth 20000 in
theorem wd_92 : Cond.classLink "NeverTogether" 11 "[[I" ∈ zz_TG := List.mem_filter.mpr ⟨zz_in1 (List.mem_of_getElem? (i := 24) rfl), rfl⟩
set_option maxRecDepth 20000 in
theorem wd_94 : Cond.methodLink "NeverTogether" 13 yX6_init ∈ zz_TG := List.mem_filter.mpr ⟨zz_in1 (List.mem_of_getElem? (i := 26) rfl), rfl⟩
set_option maxRecDepth 20000 in
theorem wd_95 : Cond.instanceMethod yX6_init ∈ zz_TG := List.mem_filter.mpr ⟨zz_in1 (List.mem_of_getElem? (i := 27) rfl), rfl⟩
set_option maxRecDepth 20000 in
theorem wd_96 : Cond.code yX6_init cX6_init 3 none ∈ zz_TG := List.mem_filter.mpr ⟨zz_in1 (List.mem_of_getElem? (i := 28) rfl), rfl⟩
set_option maxRecDepth 20000 in
theorem wd_97 : Cond.methodLink "NeverTogether$Shelf" 1 objectInit ∈ zz_TG := List.mem_filter.mpr ⟨zz_in1 (List.mem_of_getElem? (i := 29) rfl), rfl⟩
set_option maxRecDepth 20000 in
theorem wd_98 : Cond.fieldLink "NeverTogether$Shelf" 7 "NeverTogether$Shelf" "places" "[[I" ∈ zz_TG := List.mem_filter.mpr ⟨zz_in1 (List.mem_of_getElem? (i := 30) rfl), rfl⟩
set_option maxRecDepth 20000 in
theorem wd_99 : Cond.fieldLink "NeverTogether$Shelf" 13 "NeverTogether$Shelf" "sizes" "[I" ∈ zz_TG := List.mem_filter.mpr ⟨zz_in1 (List.mem_of_getElem? (i := 31) rfl), rfl⟩
set_option maxRecDepth 20000 in
theorem wd_105 : Cond.arrayClass .int ∈ zz_TG := List.mem_filter.mpr ⟨zz_in1 (List.mem_of_getElem? (i := 37) rfl), rfl⟩
set_option maxRecDepth 20000 in
theorem wd_106 : Cond.classLink "NeverTogether" 23 "NeverTogether$Reader" ∈ zz_TG := List.mem_filter.mpr ⟨zz_in1 (List.mem_of_getElem? (i := 38) rfl), rfl⟩
set_option maxRecDepth 20000 in
theorem wd_109 : Cond.instanceMethod yX5_init ∈ zz_TG := List.mem_filter.mpr ⟨zz_in1 (List.mem_of_getElem? (i := 41) rfl), rfl⟩
set_option maxRecDepth 20000 in
theorem wd_110 : Cond.code yX5_init cX5_init 1 none ∈ zz_TG := List.mem_filter.mpr ⟨zz_in1 (List.mem_of_getElem? (i := 42) rfl), rfl⟩
set_option maxRecDepth 20000 in
theorem wd_111 : Cond.methodLink "NeverTogether$Reader" 3 objectInit ∈ zz_TG := List.mem_filter.mpr ⟨zz_in1 (List.mem_of_getElem? (i := 43) rfl), rfl⟩
set_option maxRecDepth 20000 in
theorem wd_112 : Cond.fieldLink "NeverTogether$Reader" 9 "NeverTogether$Reader" "heats" "[I" ∈ zz_TG := List.mem_filter.mpr ⟨zz_in1 (List.mem_of_getElem? (i := 44) rfl), rfl⟩
set_option maxRecDepth 20000 in
theorem wd_114 : Cond.fieldLink "NeverTogether$Reader" 15 "NeverTogether$Reader" "kinds" "[I" ∈ zz_TG := List.mem_filter.mpr ⟨zz_in1 (List.mem_of_getElem? (i := 46) rfl), rfl⟩
set_option maxRecDepth 20000 in
theorem wd_116 : Cond.fieldLink "NeverTogether$Reader" 18 "NeverTogether$Reader" "minutes" "[I" ∈ zz_TG := List.mem_filter.mpr ⟨zz_in1 (List.mem_of_getElem? (i := 48) rfl), rfl⟩
set_option maxRecDepth 20000 in
theorem wd_118 : Cond.fieldLink "NeverTogether$Reader" 21 "NeverTogether$Reader" "rates" "[I" ∈ zz_TG := List.mem_filter.mpr ⟨zz_in1 (List.mem_of_getElem? (i := 50) rfl), rfl⟩
set_option maxRecDepth 20000 in
theorem wd_120 : Cond.fieldLink "NeverTogether$Reader" 24 "NeverTogether$Reader" "floors" "[I" ∈ zz_TG := List.mem_filter.mpr ⟨zz_in1 (List.mem_of_getElem? (i := 52) rfl), rfl⟩
set_option maxRecDepth 20000 in
theorem wd_123 : Cond.fieldLink "NeverTogether$Reader" 37 "NeverTogether$Reader" "heatCount" "I" ∈ zz_TG := List.mem_filter.mpr ⟨zz_in1 (List.mem_of_getElem? (i := 55) rfl), rfl⟩
set_option maxRecDepth 20000 in
theorem wd_125 : Cond.fieldLink "NeverTogether$Reader" 40 "NeverTogether$Reader" "pieces" "I" ∈ zz_TG := List.mem_filter.mpr ⟨zz_in1 (List.mem_of_getElem? (i := 57) rfl), rfl⟩
set_option maxRecDepth 20000 in
theorem wd_126 : Cond.fieldLink "NeverTogether$Reader" 33 "NeverTogether$Reader" "place" "I" ∈ zz_TG := List.mem_filter.mpr ⟨zz_in1 (List.mem_of_getElem? (i := 58) rfl), rfl⟩
set_option maxRecDepth 20000 in
theorem wd_144 : Cond.classLink "NeverTogether" 30 "NeverTogether$House" ∈ zz_TG := List.mem_filter.mpr ⟨zz_in1 (List.mem_of_getElem? (i := 76) rfl), rfl⟩
set_option maxRecDepth 20000 in
theorem wd_146 : Cond.methodLink "NeverTogether" 32 yX2_init ∈ zz_TG := List.mem_filter.mpr ⟨zz_in1 (List.mem_of_getElem? (i := 78) rfl), rfl⟩
set_option maxRecDepth 20000 in
theorem wd_147 : Cond.instanceMethod yX2_init ∈ zz_TG := List.mem_filter.mpr ⟨zz_in1 (List.mem_of_getElem? (i := 79) rfl), rfl⟩
set_option maxRecDepth 20000 in
theorem wd_148 : Cond.code yX2_init cX2_init 2 none ∈ zz_TG := List.mem_filter.mpr ⟨zz_in1 (List.mem_of_getElem? (i := 80) rfl), rfl⟩
set_option maxRecDepth 20000 in
theorem wd_149 : Cond.methodLink "NeverTogether$House" 3 objectInit ∈ zz_TG := List.mem_filter.mpr ⟨zz_in1 (List.mem_of_getElem? (i := 81) rfl), rfl⟩
set_option maxRecDepth 20000 in
theorem wd_150 : Cond.classLink "NeverTogether$House" 33 "[[I" ∈ zz_TG := List.mem_filter.mpr ⟨zz_in1 (List.mem_of_getElem? (i := 82) rfl), rfl⟩
set_option maxRecDepth 20000 in
theorem wd_151 : Cond.fieldLink "NeverTogether$House" 9 "NeverTogether$House" "heats" "[I" ∈ zz_TG := List.mem_filter.mpr ⟨zz_in1 (List.mem_of_getElem? (i := 83) rfl), rfl⟩
set_option maxRecDepth 20000 in
theorem wd_152 : Cond.fieldLink "NeverTogether$House" 15 "NeverTogether$House" "kinds" "[I" ∈ zz_TG := List.mem_filter.mpr ⟨zz_in1 (List.mem_of_getElem? (i := 84) rfl), rfl⟩
set_option maxRecDepth 20000 in
theorem wd_153 : Cond.fieldLink "NeverTogether$House" 18 "NeverTogether$House" "starts" "[I" ∈ zz_TG := List.mem_filter.mpr ⟨zz_in1 (List.mem_of_getElem? (i := 85) rfl), rfl⟩
set_option maxRecDepth 20000 in
theorem wd_154 : Cond.fieldLink "NeverTogether$House" 21 "NeverTogether$House" "rates" "[I" ∈ zz_TG := List.mem_filter.mpr ⟨zz_in1 (List.mem_of_getElem? (i := 86) rfl), rfl⟩
set_option maxRecDepth 20000 in
theorem wd_155 : Cond.fieldLink "NeverTogether$House" 24 "NeverTogether$House" "floors" "[I" ∈ zz_TG := List.mem_filter.mpr ⟨zz_in1 (List.mem_of_getElem? (i := 87) rfl), rfl⟩
set_option maxRecDepth 20000 in
theorem wd_156 : Cond.fieldLink "NeverTogether$House" 27 "NeverTogether$House" "minutes" "[I" ∈ zz_TG := List.mem_filter.mpr ⟨zz_in1 (List.mem_of_getElem? (i := 88) rfl), rfl⟩
set_option maxRecDepth 20000 in
theorem wd_157 : Cond.fieldLink "NeverTogether$House" 30 "NeverTogether$House" "done" "[I" ∈ zz_TG := List.mem_filter.mpr ⟨zz_in1 (List.mem_of_getElem? (i := 89) rfl), rfl⟩
set_option maxRecDepth 20000 in
theorem wd_158 : Cond.fieldLink "NeverTogether$House" 35 "NeverTogether$House" "kept" "[[I" ∈ zz_TG := List.mem_filter.mpr ⟨zz_in1 (List.mem_of_getElem? (i := 90) rfl), rfl⟩
set_option maxRecDepth 20000 in
theorem wd_159 : Cond.fieldLink "NeverTogether$House" 38 "NeverTogether$House" "keptSizes" "[I" ∈ zz_TG := List.mem_filter.mpr ⟨zz_in1 (List.mem_of_getElem? (i := 91) rfl), rfl⟩
set_option maxRecDepth 20000 in
theorem wd_160 : Cond.fieldLink "NeverTogether$House" 47 "NeverTogether$House" "heatCount" "I" ∈ zz_TG := List.mem_filter.mpr ⟨zz_in1 (List.mem_of_getElem? (i := 92) rfl), rfl⟩
set_option maxRecDepth 20000 in
theorem wd_163 : Cond.fieldLink "NeverTogether$House" 51 "NeverTogether$House" "pieces" "I" ∈ zz_TG := List.mem_filter.mpr ⟨zz_in1 (List.mem_of_getElem? (i := 95) rfl), rfl⟩
set_option maxRecDepth 20000 in
theorem wd_165 : Cond.fieldLink "NeverTogether$House" 101 "NeverTogether$House" "today" "I" ∈ zz_TG := List.mem_filter.mpr ⟨zz_in1 (List.mem_of_getElem? (i := 97) rfl), rfl⟩
set_option maxRecDepth 20000 in
theorem wd_167 : Cond.fieldLink "NeverTogether$House" 74 "NeverTogether$House" "touchedToday" "I" ∈ zz_TG := List.mem_filter.mpr ⟨zz_in1 (List.mem_of_getElem? (i := 99) rfl), rfl⟩
set_option maxRecDepth 20000 in
theorem wd_169 : Cond.fieldLink "NeverTogether$House" 130 "NeverTogether$House" "deeds" "I" ∈ zz_TG := List.mem_filter.mpr ⟨zz_in1 (List.mem_of_getElem? (i := 101) rfl), rfl⟩
set_option maxRecDepth 20000 in
theorem wd_199 : Cond.classLink "NeverTogether" 37 "NeverTogether$Moment" ∈ zz_TG := List.mem_filter.mpr ⟨zz_in1 (List.mem_of_getElem? (i := 131) rfl), rfl⟩
set_option maxRecDepth 20000 in
theorem wd_202 : Cond.instanceMethod yX4_init ∈ zz_TG := List.mem_filter.mpr ⟨zz_in1 (List.mem_of_getElem? (i := 134) rfl), rfl⟩
set_option maxRecDepth 20000 in
theorem wd_203 : Cond.code yX4_init cX4_init 1 none ∈ zz_TG := List.mem_filter.mpr ⟨zz_in1 (List.mem_of_getElem? (i := 135) rfl), rfl⟩
set_option maxRecDepth 20000 in
theorem wd_204 : Cond.methodLink "NeverTogether$Moment" 3 objectInit ∈ zz_TG := List.mem_filter.mpr ⟨zz_in1 (List.mem_of_getElem? (i := 136) rfl), rfl⟩
set_option maxRecDepth 20000 in
theorem wd_205 : Cond.fieldLink "NeverTogether$Moment" 9 "NeverTogether$Moment" "striking" "[J" ∈ zz_TG := List.mem_filter.mpr ⟨zz_in1 (List.mem_of_getElem? (i := 137) rfl), rfl⟩
set_option maxRecDepth 20000 in
theorem wd_206 : Cond.fieldLink "NeverTogether$Moment" 21 "NeverTogether$Moment" "pieces" "I" ∈ zz_TG := List.mem_filter.mpr ⟨zz_in1 (List.mem_of_getElem? (i := 138) rfl), rfl⟩
set_option maxRecDepth 20000 in
theorem wd_213 : Cond.arrayClass .long ∈ zz_TG := List.mem_filter.mpr ⟨zz_in1 (List.mem_of_getElem? (i := 145) rfl), rfl⟩
set_option maxRecDepth 20000 in
theorem wd_214 : Cond.classLink "NeverTogether" 44 "NeverTogether$Keeper" ∈ zz_TG := List.mem_filter.mpr ⟨zz_in1 (List.mem_of_getElem? (i := 146) rfl), rfl⟩
set_option maxRecDepth 20000 in
theorem wd_217 : Cond.instanceMethod yX3_init ∈ zz_TG := List.mem_filter.mpr ⟨zz_in1 (List.mem_of_getElem? (i := 149) rfl), rfl⟩
set_option maxRecDepth 20000 in
theorem wd_218 : Cond.code yX3_init cX3_init 1 none ∈ zz_TG := List.mem_filter.mpr ⟨zz_in1 (List.mem_of_getElem? (i := 150) rfl), rfl⟩
set_option maxRecDepth 20000 in
theorem wd_219 : Cond.methodLink "NeverTogether$Keeper" 5 objectInit ∈ zz_TG := List.mem_filter.mpr ⟨zz_in1 (List.mem_of_getElem? (i := 151) rfl), rfl⟩
set_option maxRecDepth 20000 in
theorem wd_220 : Cond.fieldLink "NeverTogether$Keeper" 11 "NeverTogether$Keeper" "minutes" "[I" ∈ zz_TG := List.mem_filter.mpr ⟨zz_in1 (List.mem_of_getElem? (i := 152) rfl), rfl⟩
set_option maxRecDepth 20000 in
theorem wd_221 : Cond.fieldLink "NeverTogether$Keeper" 15 "NeverTogether$Keeper" "floors" "[I" ∈ zz_TG := List.mem_filter.mpr ⟨zz_in1 (List.mem_of_getElem? (i := 153) rfl), rfl⟩
set_option maxRecDepth 20000 in
theorem wd_222 : Cond.fieldLink "NeverTogether$Keeper" 18 "NeverTogether$Keeper" "gaps" "[J" ∈ zz_TG := List.mem_filter.mpr ⟨zz_in1 (List.mem_of_getElem? (i := 154) rfl), rfl⟩
set_option maxRecDepth 20000 in
theorem wd_223 : Cond.fieldLink "NeverTogether$Keeper" 22 "NeverTogether$Keeper" "barred" "[I" ∈ zz_TG := List.mem_filter.mpr ⟨zz_in1 (List.mem_of_getElem? (i := 155) rfl), rfl⟩
set_option maxRecDepth 20000 in
theorem wd_224 : Cond.fieldLink "NeverTogether$Keeper" 25 "NeverTogether$Keeper" "touches" "[I" ∈ zz_TG := List.mem_filter.mpr ⟨zz_in1 (List.mem_of_getElem? (i := 156) rfl), rfl⟩
set_option maxRecDepth 20000 in
theorem wd_225 : Cond.fieldLink "NeverTogether$Keeper" 28 "NeverTogether$Keeper" "best" "[I" ∈ zz_TG := List.mem_filter.mpr ⟨zz_in1 (List.mem_of_getElem? (i := 157) rfl), rfl⟩
set_option maxRecDepth 20000 in
theorem wd_226 : Cond.fieldLink "NeverTogether$Keeper" 43 "NeverTogether$Keeper" "pieces" "I" ∈ zz_TG := List.mem_filter.mpr ⟨zz_in1 (List.mem_of_getElem? (i := 158) rfl), rfl⟩
set_option maxRecDepth 20000 in
theorem wd_227 : Cond.fieldLink "NeverTogether$Keeper" 90 "NeverTogether$Keeper" "byStairs" "Z" ∈ zz_TG := List.mem_filter.mpr ⟨zz_in1 (List.mem_of_getElem? (i := 159) rfl), rfl⟩
set_option maxRecDepth 20000 in
theorem wd_228 : Cond.fieldLink "NeverTogether$Keeper" 95 "NeverTogether$Keeper" "bestCost" "I" ∈ zz_TG := List.mem_filter.mpr ⟨zz_in1 (List.mem_of_getElem? (i := 160) rfl), rfl⟩
set_option maxRecDepth 20000 in
theorem wd_248 : Cond.classLink "NeverTogether" 51 "NeverTogether$Game" ∈ zz_TG := List.mem_filter.mpr ⟨zz_in1 (List.mem_of_getElem? (i := 180) rfl), rfl⟩
set_option maxRecDepth 20000 in
theorem wd_251 : Cond.instanceMethod yX1_init ∈ zz_TG := List.mem_filter.mpr ⟨zz_in1 (List.mem_of_getElem? (i := 183) rfl), rfl⟩
set_option maxRecDepth 20000 in
theorem wd_252 : Cond.code yX1_init cX1_init 1 none ∈ zz_TG := List.mem_filter.mpr ⟨zz_in1 (List.mem_of_getElem? (i := 184) rfl), rfl⟩
set_option maxRecDepth 20000 in
theorem wd_253 : Cond.methodLink "NeverTogether$Game" 3 objectInit ∈ zz_TG := List.mem_filter.mpr ⟨zz_in1 (List.mem_of_getElem? (i := 185) rfl), rfl⟩
set_option maxRecDepth 20000 in
theorem wd_254 : Cond.classLink "NeverTogether$Game" 9 "NeverTogether$Moment" ∈ zz_TG := List.mem_filter.mpr ⟨zz_in1 (List.mem_of_getElem? (i := 186) rfl), rfl⟩
set_option maxRecDepth 20000 in
theorem wd_256 : Cond.fieldLink "NeverTogether$Game" 12 "NeverTogether$Game" "board" "LNeverTogether$Moment;" ∈ zz_TG := List.mem_filter.mpr ⟨zz_in1 (List.mem_of_getElem? (i := 188) rfl), rfl⟩
set_option maxRecDepth 20000 in
theorem wd_260 : Cond.classLink "NeverTogether" 58 "NeverTogether$Draughts" ∈ zz_TG := List.mem_filter.mpr ⟨zz_in1 (List.mem_of_getElem? (i := 192) rfl), rfl⟩
set_option maxRecDepth 20000 in
theorem wd_263 : Cond.instanceMethod yX0_init ∈ zz_TG := List.mem_filter.mpr ⟨zz_in1 (List.mem_of_getElem? (i := 195) rfl), rfl⟩
set_option maxRecDepth 20000 in
theorem wd_264 : Cond.code yX0_init cX0_init 1 none ∈ zz_TG := List.mem_filter.mpr ⟨zz_in1 (List.mem_of_getElem? (i := 196) rfl), rfl⟩
set_option maxRecDepth 20000 in
theorem wd_265 : Cond.methodLink "NeverTogether$Draughts" 3 objectInit ∈ zz_TG := List.mem_filter.mpr ⟨zz_in1 (List.mem_of_getElem? (i := 197) rfl), rfl⟩
set_option maxRecDepth 20000 in
theorem wd_266 : Cond.fieldLink "NeverTogether$Draughts" 11 "NeverTogether$Draughts" "ways" "[J" ∈ zz_TG := List.mem_filter.mpr ⟨zz_in1 (List.mem_of_getElem? (i := 198) rfl), rfl⟩
set_option maxRecDepth 20000 in
theorem wd_267 : Cond.fieldLink "NeverTogether$Draughts" 15 "NeverTogether$Draughts" "otherWays" "[J" ∈ zz_TG := List.mem_filter.mpr ⟨zz_in1 (List.mem_of_getElem? (i := 199) rfl), rfl⟩
set_option maxRecDepth 20000 in
theorem wd_268 : Cond.fieldLink "NeverTogether$Draughts" 18 "NeverTogether$Draughts" "upperNumber" "J" ∈ zz_TG := List.mem_filter.mpr ⟨zz_in1 (List.mem_of_getElem? (i := 200) rfl), rfl⟩
set_option maxRecDepth 20000 in
theorem wd_270 : Cond.fieldLink "NeverTogether$Draughts" 22 "NeverTogether$Draughts" "lowerNumber" "J" ∈ zz_TG := List.mem_filter.mpr ⟨zz_in1 (List.mem_of_getElem? (i := 202) rfl), rfl⟩
set_option maxRecDepth 20000 in
theorem wd_281 : Cond.fieldLink "NeverTogether" 16 "NeverTogether" "rows" "LNeverTogether$Shelf;" ∈ zz_TG := List.mem_filter.mpr ⟨zz_in1 (List.mem_of_getElem? (i := 213) rfl), rfl⟩
set_option maxRecDepth 20000 in
theorem wd_282 : Cond.fieldLink "NeverTogether" 20 "NeverTogether" "texts" "LNeverTogether$Shelf;" ∈ zz_TG := List.mem_filter.mpr ⟨zz_in1 (List.mem_of_getElem? (i := 214) rfl), rfl⟩
set_option maxRecDepth 20000 in
theorem wd_283 : Cond.fieldLink "NeverTogether" 26 "NeverTogether" "reader" "LNeverTogether$Reader;" ∈ zz_TG := List.mem_filter.mpr ⟨zz_in1 (List.mem_of_getElem? (i := 215) rfl), rfl⟩
set_option maxRecDepth 20000 in
theorem wd_284 : Cond.fieldLink "NeverTogether" 33 "NeverTogether" "home" "LNeverTogether$House;" ∈ zz_TG := List.mem_filter.mpr ⟨zz_in1 (List.mem_of_getElem? (i := 216) rfl), rfl⟩
set_option maxRecDepth 20000 in
theorem wd_285 : Cond.fieldLink "NeverTogether" 40 "NeverTogether" "moment" "LNeverTogether$Moment;" ∈ zz_TG := List.mem_filter.mpr ⟨zz_in1 (List.mem_of_getElem? (i := 217) rfl), rfl⟩
set_option maxRecDepth 20000 in
theorem wd_286 : Cond.fieldLink "NeverTogether" 47 "NeverTogether" "keeper" "LNeverTogether$Keeper;" ∈ zz_TG := List.mem_filter.mpr ⟨zz_in1 (List.mem_of_getElem? (i := 218) rfl), rfl⟩
set_option maxRecDepth 20000 in
theorem wd_287 : Cond.fieldLink "NeverTogether" 54 "NeverTogether" "game" "LNeverTogether$Game;" ∈ zz_TG := List.mem_filter.mpr ⟨zz_in1 (List.mem_of_getElem? (i := 219) rfl), rfl⟩
set_option maxRecDepth 20000 in
theorem wd_288 : Cond.fieldLink "NeverTogether" 61 "NeverTogether" "draughts" "LNeverTogether$Draughts;" ∈ zz_TG := List.mem_filter.mpr ⟨zz_in1 (List.mem_of_getElem? (i := 220) rfl), rfl⟩
set_option maxRecDepth 20000 in
theorem wd_289 : Cond.fieldLink "NeverTogether" 65 "NeverTogether" "timesFound" "[I" ∈ zz_TG := List.mem_filter.mpr ⟨zz_in1 (List.mem_of_getElem? (i := 221) rfl), rfl⟩
set_option maxRecDepth 20000 in
theorem wd_290 : Cond.fieldLink "NeverTogether" 69 "NeverTogether" "latestFound" "I" ∈ zz_TG := List.mem_filter.mpr ⟨zz_in1 (List.mem_of_getElem? (i := 222) rfl), rfl⟩
set_option maxRecDepth 20000 in
theorem wd_291 : Cond.fieldLink "NeverTogether" 73 "NeverTogether" "told" "I" ∈ zz_TG := List.mem_filter.mpr ⟨zz_in1 (List.mem_of_getElem? (i := 223) rfl), rfl⟩
set_option maxRecDepth 20000 in
theorem wd_315 : Cond.methodLink "NeverTogetherLaw" 13 yX7_row ∈ zz_TG := List.mem_filter.mpr ⟨zz_in2 (List.mem_of_getElem? (i := 7) rfl), rfl⟩
set_option maxRecDepth 20000 in
theorem wd_316 : Cond.instanceMethod yX7_row ∈ zz_TG := List.mem_filter.mpr ⟨zz_in2 (List.mem_of_getElem? (i := 8) rfl), rfl⟩
set_option maxRecDepth 20000 in
theorem wd_317 : Cond.selects "NeverTogether" yX7_row yX7_row ∈ zz_TG := List.mem_filter.mpr ⟨zz_in2 (List.mem_of_getElem? (i := 9) rfl), rfl⟩
set_option maxRecDepth 20000 in
theorem wd_318 : Cond.code yX7_row cX7_row 3 (some .int) ∈ zz_TG := List.mem_filter.mpr ⟨zz_in2 (List.mem_of_getElem? (i := 10) rfl), rfl⟩
set_option maxRecDepth 20000 in
theorem wd_319 : Cond.methodLink "NeverTogether" 76 yX6_isNumber ∈ zz_TG := List.mem_filter.mpr ⟨zz_in2 (List.mem_of_getElem? (i := 11) rfl), rfl⟩
set_option maxRecDepth 20000 in
theorem wd_320 : Cond.instanceMethod yX6_isNumber ∈ zz_TG := List.mem_filter.mpr ⟨zz_in2 (List.mem_of_getElem? (i := 12) rfl), rfl⟩
set_option maxRecDepth 20000 in
theorem wd_321 : Cond.selects "NeverTogether$Shelf" yX6_isNumber yX6_isNumber ∈ zz_TG := List.mem_filter.mpr ⟨zz_in2 (List.mem_of_getElem? (i := 13) rfl), rfl⟩
set_option maxRecDepth 20000 in
theorem wd_322 : Cond.code yX6_isNumber cX6_isNumber 2 (some .boolean) ∈ zz_TG := List.mem_filter.mpr ⟨zz_in2 (List.mem_of_getElem? (i := 14) rfl), rfl⟩
set_option maxRecDepth 20000 in
theorem wd_323 : Cond.methodLink "NeverTogether" 80 yX7_found ∈ zz_TG := List.mem_filter.mpr ⟨zz_in2 (List.mem_of_getElem? (i := 15) rfl), rfl⟩
set_option maxRecDepth 20000 in
theorem wd_325 : Cond.instanceMethod yX7_found ∈ zz_TG := List.mem_filter.mpr ⟨zz_in2 (List.mem_of_getElem? (i := 17) rfl), rfl⟩
set_option maxRecDepth 20000 in
theorem wd_326 : Cond.code yX7_found cX7_found 2 (some .int) ∈ zz_TG := List.mem_filter.mpr ⟨zz_in2 (List.mem_of_getElem? (i := 18) rfl), rfl⟩
set_option maxRecDepth 20000 in
theorem wd_327 : Cond.methodLink "NeverTogether" 84 yX6_renew ∈ zz_TG := List.mem_filter.mpr ⟨zz_in2 (List.mem_of_getElem? (i := 19) rfl), rfl⟩
set_option maxRecDepth 20000 in
theorem wd_328 : Cond.instanceMethod yX6_renew ∈ zz_TG := List.mem_filter.mpr ⟨zz_in2 (List.mem_of_getElem? (i := 20) rfl), rfl⟩
set_option maxRecDepth 20000 in
theorem wd_329 : Cond.selects "NeverTogether$Shelf" yX6_renew yX6_renew ∈ zz_TG := List.mem_filter.mpr ⟨zz_in2 (List.mem_of_getElem? (i := 21) rfl), rfl⟩
set_option maxRecDepth 20000 in
theorem wd_330 : Cond.code yX6_renew cX6_renew 5 none ∈ zz_TG := List.mem_filter.mpr ⟨zz_in2 (List.mem_of_getElem? (i := 22) rfl), rfl⟩
set_option maxRecDepth 20000 in
theorem wd_331 : Cond.methodLink "NeverTogether$Shelf" 17 yX6_isNumber ∈ zz_TG := List.mem_filter.mpr ⟨zz_in2 (List.mem_of_getElem? (i := 23) rfl), rfl⟩
set_option maxRecDepth 20000 in
theorem wd_332 : Cond.methodLink "NeverTogetherLaw" 18 yX7_lay ∈ zz_TG := List.mem_filter.mpr ⟨zz_in2 (List.mem_of_getElem? (i := 24) rfl), rfl⟩
set_option maxRecDepth 20000 in
theorem wd_333 : Cond.instanceMethod yX7_lay ∈ zz_TG := List.mem_filter.mpr ⟨zz_in2 (List.mem_of_getElem? (i := 25) rfl), rfl⟩
set_option maxRecDepth 20000 in
theorem wd_334 : Cond.selects "NeverTogether" yX7_lay yX7_lay ∈ zz_TG := List.mem_filter.mpr ⟨zz_in2 (List.mem_of_getElem? (i := 26) rfl), rfl⟩
set_option maxRecDepth 20000 in
theorem wd_335 : Cond.code yX7_lay cX7_lay 5 (some .int) ∈ zz_TG := List.mem_filter.mpr ⟨zz_in2 (List.mem_of_getElem? (i := 27) rfl), rfl⟩
set_option maxRecDepth 20000 in
theorem wd_336 : Cond.methodLink "NeverTogether" 88 yX7_refusalOfPlace ∈ zz_TG := List.mem_filter.mpr ⟨zz_in2 (List.mem_of_getElem? (i := 28) rfl), rfl⟩
set_option maxRecDepth 20000 in
theorem wd_338 : Cond.instanceMethod yX7_refusalOfPlace ∈ zz_TG := List.mem_filter.mpr ⟨zz_in2 (List.mem_of_getElem? (i := 30) rfl), rfl⟩
set_option maxRecDepth 20000 in
theorem wd_339 : Cond.code yX7_refusalOfPlace cX7_refusalOfPlace 5 (some .int) ∈ zz_TG := List.mem_filter.mpr ⟨zz_in2 (List.mem_of_getElem? (i := 31) rfl), rfl⟩
set_option maxRecDepth 20000 in
theorem wd_340 : Cond.methodLink "NeverTogether" 100 yX7_refusalOfShelf ∈ zz_TG := List.mem_filter.mpr ⟨zz_in2 (List.mem_of_getElem? (i := 32) rfl), rfl⟩
set_option maxRecDepth 20000 in
theorem wd_342 : Cond.instanceMethod yX7_refusalOfShelf ∈ zz_TG := List.mem_filter.mpr ⟨zz_in2 (List.mem_of_getElem? (i := 34) rfl), rfl⟩
set_option maxRecDepth 20000 in
theorem wd_343 : Cond.code yX7_refusalOfShelf cX7_refusalOfShelf 3 (some .int) ∈ zz_TG := List.mem_filter.mpr ⟨zz_in2 (List.mem_of_getElem? (i := 35) rfl), rfl⟩
set_option maxRecDepth 20000 in
theorem wd_344 : Cond.methodLink "NeverTogether" 108 yX6_isThere ∈ zz_TG := List.mem_filter.mpr ⟨zz_in2 (List.mem_of_getElem? (i := 36) rfl), rfl⟩
set_option maxRecDepth 20000 in
theorem wd_345 : Cond.instanceMethod yX6_isThere ∈ zz_TG := List.mem_filter.mpr ⟨zz_in2 (List.mem_of_getElem? (i := 37) rfl), rfl⟩
set_option maxRecDepth 20000 in
theorem wd_346 : Cond.selects "NeverTogether$Shelf" yX6_isThere yX6_isThere ∈ zz_TG := List.mem_filter.mpr ⟨zz_in2 (List.mem_of_getElem? (i := 38) rfl), rfl⟩
set_option maxRecDepth 20000 in
theorem wd_347 : Cond.code yX6_isThere cX6_isThere 2 (some .boolean) ∈ zz_TG := List.mem_filter.mpr ⟨zz_in2 (List.mem_of_getElem? (i := 39) rfl), rfl⟩
set_option maxRecDepth 20000 in
theorem wd_348 : Cond.methodLink "NeverTogether" 349 yX6_isPlace ∈ zz_TG := List.mem_filter.mpr ⟨zz_in2 (List.mem_of_getElem? (i := 40) rfl), rfl⟩
set_option maxRecDepth 20000 in
theorem wd_349 : Cond.instanceMethod yX6_isPlace ∈ zz_TG := List.mem_filter.mpr ⟨zz_in2 (List.mem_of_getElem? (i := 41) rfl), rfl⟩
set_option maxRecDepth 20000 in
theorem wd_350 : Cond.selects "NeverTogether$Shelf" yX6_isPlace yX6_isPlace ∈ zz_TG := List.mem_filter.mpr ⟨zz_in2 (List.mem_of_getElem? (i := 42) rfl), rfl⟩
set_option maxRecDepth 20000 in
theorem wd_351 : Cond.code yX6_isPlace cX6_isPlace 3 (some .boolean) ∈ zz_TG := List.mem_filter.mpr ⟨zz_in2 (List.mem_of_getElem? (i := 43) rfl), rfl⟩
set_option maxRecDepth 20000 in
theorem wd_352 : Cond.methodLink "NeverTogether" 92 yX6_replace ∈ zz_TG := List.mem_filter.mpr ⟨zz_in2 (List.mem_of_getElem? (i := 44) rfl), rfl⟩
set_option maxRecDepth 20000 in
theorem wd_353 : Cond.instanceMethod yX6_replace ∈ zz_TG := List.mem_filter.mpr ⟨zz_in2 (List.mem_of_getElem? (i := 45) rfl), rfl⟩
set_option maxRecDepth 20000 in
theorem wd_354 : Cond.selects "NeverTogether$Shelf" yX6_replace yX6_replace ∈ zz_TG := List.mem_filter.mpr ⟨zz_in2 (List.mem_of_getElem? (i := 46) rfl), rfl⟩
set_option maxRecDepth 20000 in
theorem wd_355 : Cond.code yX6_replace cX6_replace 5 (some .int) ∈ zz_TG := List.mem_filter.mpr ⟨zz_in2 (List.mem_of_getElem? (i := 47) rfl), rfl⟩
set_option maxRecDepth 20000 in
theorem wd_356 : Cond.methodLink "NeverTogether$Shelf" 24 yX6_isPlace ∈ zz_TG := List.mem_filter.mpr ⟨zz_in2 (List.mem_of_getElem? (i := 48) rfl), rfl⟩
set_option maxRecDepth 20000 in
theorem wd_357 : Cond.methodLink "NeverTogetherLaw" 23 yX7_at ∈ zz_TG := List.mem_filter.mpr ⟨zz_in2 (List.mem_of_getElem? (i := 49) rfl), rfl⟩
set_option maxRecDepth 20000 in
theorem wd_358 : Cond.instanceMethod yX7_at ∈ zz_TG := List.mem_filter.mpr ⟨zz_in2 (List.mem_of_getElem? (i := 50) rfl), rfl⟩
set_option maxRecDepth 20000 in
theorem wd_359 : Cond.selects "NeverTogether" yX7_at yX7_at ∈ zz_TG := List.mem_filter.mpr ⟨zz_in2 (List.mem_of_getElem? (i := 51) rfl), rfl⟩
set_option maxRecDepth 20000 in
theorem wd_360 : Cond.code yX7_at cX7_at 4 (some .int) ∈ zz_TG := List.mem_filter.mpr ⟨zz_in2 (List.mem_of_getElem? (i := 52) rfl), rfl⟩
set_option maxRecDepth 20000 in
theorem wd_361 : Cond.methodLink "NeverTogether" 96 yX6_placeOf ∈ zz_TG := List.mem_filter.mpr ⟨zz_in2 (List.mem_of_getElem? (i := 53) rfl), rfl⟩
set_option maxRecDepth 20000 in
theorem wd_362 : Cond.instanceMethod yX6_placeOf ∈ zz_TG := List.mem_filter.mpr ⟨zz_in2 (List.mem_of_getElem? (i := 54) rfl), rfl⟩
set_option maxRecDepth 20000 in
theorem wd_363 : Cond.selects "NeverTogether$Shelf" yX6_placeOf yX6_placeOf ∈ zz_TG := List.mem_filter.mpr ⟨zz_in2 (List.mem_of_getElem? (i := 55) rfl), rfl⟩
set_option maxRecDepth 20000 in
theorem wd_364 : Cond.code yX6_placeOf cX6_placeOf 3 (some .int) ∈ zz_TG := List.mem_filter.mpr ⟨zz_in2 (List.mem_of_getElem? (i := 56) rfl), rfl⟩
set_option maxRecDepth 20000 in
theorem wd_365 : Cond.methodLink "NeverTogetherLaw" 27 yX7_tear ∈ zz_TG := List.mem_filter.mpr ⟨zz_in2 (List.mem_of_getElem? (i := 57) rfl), rfl⟩
set_option maxRecDepth 20000 in
theorem wd_366 : Cond.instanceMethod yX7_tear ∈ zz_TG := List.mem_filter.mpr ⟨zz_in2 (List.mem_of_getElem? (i := 58) rfl), rfl⟩
set_option maxRecDepth 20000 in
theorem wd_367 : Cond.selects "NeverTogether" yX7_tear yX7_tear ∈ zz_TG := List.mem_filter.mpr ⟨zz_in2 (List.mem_of_getElem? (i := 59) rfl), rfl⟩
set_option maxRecDepth 20000 in
theorem wd_368 : Cond.code yX7_tear cX7_tear 3 (some .int) ∈ zz_TG := List.mem_filter.mpr ⟨zz_in2 (List.mem_of_getElem? (i := 60) rfl), rfl⟩
set_option maxRecDepth 20000 in
theorem wd_369 : Cond.methodLink "NeverTogether" 104 yX6_remove ∈ zz_TG := List.mem_filter.mpr ⟨zz_in2 (List.mem_of_getElem? (i := 61) rfl), rfl⟩
set_option maxRecDepth 20000 in
theorem wd_370 : Cond.instanceMethod yX6_remove ∈ zz_TG := List.mem_filter.mpr ⟨zz_in2 (List.mem_of_getElem? (i := 62) rfl), rfl⟩
set_option maxRecDepth 20000 in
theorem wd_371 : Cond.selects "NeverTogether$Shelf" yX6_remove yX6_remove ∈ zz_TG := List.mem_filter.mpr ⟨zz_in2 (List.mem_of_getElem? (i := 63) rfl), rfl⟩
set_option maxRecDepth 20000 in
theorem wd_372 : Cond.code yX6_remove cX6_remove 2 none ∈ zz_TG := List.mem_filter.mpr ⟨zz_in2 (List.mem_of_getElem? (i := 64) rfl), rfl⟩
set_option maxRecDepth 20000 in
theorem wd_373 : Cond.methodLink "NeverTogetherLaw" 32 yX7_copy ∈ zz_TG := List.mem_filter.mpr ⟨zz_in2 (List.mem_of_getElem? (i := 65) rfl), rfl⟩
set_option maxRecDepth 20000 in
theorem wd_374 : Cond.instanceMethod yX7_copy ∈ zz_TG := List.mem_filter.mpr ⟨zz_in2 (List.mem_of_getElem? (i := 66) rfl), rfl⟩
set_option maxRecDepth 20000 in
theorem wd_375 : Cond.selects "NeverTogether" yX7_copy yX7_copy ∈ zz_TG := List.mem_filter.mpr ⟨zz_in2 (List.mem_of_getElem? (i := 67) rfl), rfl⟩
set_option maxRecDepth 20000 in
theorem wd_376 : Cond.code yX7_copy cX7_copy 6 (some .int) ∈ zz_TG := List.mem_filter.mpr ⟨zz_in2 (List.mem_of_getElem? (i := 68) rfl), rfl⟩
set_option maxRecDepth 20000 in
theorem wd_377 : Cond.methodLink "NeverTogether" 111 yX6_holds ∈ zz_TG := List.mem_filter.mpr ⟨zz_in2 (List.mem_of_getElem? (i := 69) rfl), rfl⟩
set_option maxRecDepth 20000 in
theorem wd_378 : Cond.instanceMethod yX6_holds ∈ zz_TG := List.mem_filter.mpr ⟨zz_in2 (List.mem_of_getElem? (i := 70) rfl), rfl⟩
set_option maxRecDepth 20000 in
theorem wd_379 : Cond.selects "NeverTogether$Shelf" yX6_holds yX6_holds ∈ zz_TG := List.mem_filter.mpr ⟨zz_in2 (List.mem_of_getElem? (i := 71) rfl), rfl⟩
set_option maxRecDepth 20000 in
theorem wd_380 : Cond.code yX6_holds cX6_holds 4 (some .boolean) ∈ zz_TG := List.mem_filter.mpr ⟨zz_in2 (List.mem_of_getElem? (i := 72) rfl), rfl⟩
set_option maxRecDepth 20000 in
theorem wd_381 : Cond.methodLink "NeverTogether$Shelf" 21 yX6_isThere ∈ zz_TG := List.mem_filter.mpr ⟨zz_in2 (List.mem_of_getElem? (i := 73) rfl), rfl⟩
set_option maxRecDepth 20000 in
theorem wd_382 : Cond.methodLink "NeverTogether" 115 yX6_carry ∈ zz_TG := List.mem_filter.mpr ⟨zz_in2 (List.mem_of_getElem? (i := 74) rfl), rfl⟩
set_option maxRecDepth 20000 in
theorem wd_383 : Cond.instanceMethod yX6_carry ∈ zz_TG := List.mem_filter.mpr ⟨zz_in2 (List.mem_of_getElem? (i := 75) rfl), rfl⟩
set_option maxRecDepth 20000 in
theorem wd_384 : Cond.selects "NeverTogether$Shelf" yX6_carry yX6_carry ∈ zz_TG := List.mem_filter.mpr ⟨zz_in2 (List.mem_of_getElem? (i := 76) rfl), rfl⟩
set_option maxRecDepth 20000 in
theorem wd_385 : Cond.code yX6_carry cX6_carry 6 none ∈ zz_TG := List.mem_filter.mpr ⟨zz_in2 (List.mem_of_getElem? (i := 77) rfl), rfl⟩
set_option maxRecDepth 20000 in
theorem wd_386 : Cond.methodLink "NeverTogether$Shelf" 28 yX6_holds ∈ zz_TG := List.mem_filter.mpr ⟨zz_in2 (List.mem_of_getElem? (i := 78) rfl), rfl⟩
set_option maxRecDepth 20000 in
theorem wd_387 : Cond.methodLink "NeverTogether$Shelf" 32 arraycopyName ∈ zz_TG := List.mem_filter.mpr ⟨zz_in2 (List.mem_of_getElem? (i := 79) rfl), rfl⟩
set_option maxRecDepth 20000 in
theorem wd_388 : Cond.static arraycopyName ∈ zz_TG := List.mem_filter.mpr ⟨zz_in2 (List.mem_of_getElem? (i := 80) rfl), rfl⟩
set_option maxRecDepth 20000 in
theorem wd_389 : Cond.native arraycopyName ∈ zz_TG := List.mem_filter.mpr ⟨zz_in2 (List.mem_of_getElem? (i := 81) rfl), rfl⟩
set_option maxRecDepth 20000 in
theorem wd_390 : Cond.methodLink "NeverTogetherLaw" 37 yX7_mean ∈ zz_TG := List.mem_filter.mpr ⟨zz_in2 (List.mem_of_getElem? (i := 82) rfl), rfl⟩
set_option maxRecDepth 20000 in
theorem wd_391 : Cond.instanceMethod yX7_mean ∈ zz_TG := List.mem_filter.mpr ⟨zz_in2 (List.mem_of_getElem? (i := 83) rfl), rfl⟩
set_option maxRecDepth 20000 in
theorem wd_392 : Cond.selects "NeverTogether" yX7_mean yX7_mean ∈ zz_TG := List.mem_filter.mpr ⟨zz_in2 (List.mem_of_getElem? (i := 84) rfl), rfl⟩
set_option maxRecDepth 20000 in
theorem wd_393 : Cond.code yX7_mean cX7_mean 4 (some .int) ∈ zz_TG := List.mem_filter.mpr ⟨zz_in2 (List.mem_of_getElem? (i := 85) rfl), rfl⟩
set_option maxRecDepth 20000 in
theorem wd_394 : Cond.methodLink "NeverTogether" 119 yX6_sizeOf ∈ zz_TG := List.mem_filter.mpr ⟨zz_in2 (List.mem_of_getElem? (i := 86) rfl), rfl⟩
set_option maxRecDepth 20000 in
theorem wd_395 : Cond.instanceMethod yX6_sizeOf ∈ zz_TG := List.mem_filter.mpr ⟨zz_in2 (List.mem_of_getElem? (i := 87) rfl), rfl⟩
set_option maxRecDepth 20000 in
theorem wd_396 : Cond.selects "NeverTogether$Shelf" yX6_sizeOf yX6_sizeOf ∈ zz_TG := List.mem_filter.mpr ⟨zz_in2 (List.mem_of_getElem? (i := 88) rfl), rfl⟩
set_option maxRecDepth 20000 in
theorem wd_397 : Cond.code yX6_sizeOf cX6_sizeOf 2 (some .int) ∈ zz_TG := List.mem_filter.mpr ⟨zz_in2 (List.mem_of_getElem? (i := 89) rfl), rfl⟩
set_option maxRecDepth 20000 in
theorem wd_398 : Cond.methodLink "NeverTogether" 122 yX6_sumOf ∈ zz_TG := List.mem_filter.mpr ⟨zz_in2 (List.mem_of_getElem? (i := 90) rfl), rfl⟩
set_option maxRecDepth 20000 in
theorem wd_399 : Cond.instanceMethod yX6_sumOf ∈ zz_TG := List.mem_filter.mpr ⟨zz_in2 (List.mem_of_getElem? (i := 91) rfl), rfl⟩
set_option maxRecDepth 20000 in
theorem wd_400 : Cond.selects "NeverTogether$Shelf" yX6_sumOf yX6_sumOf ∈ zz_TG := List.mem_filter.mpr ⟨zz_in2 (List.mem_of_getElem? (i := 92) rfl), rfl⟩
set_option maxRecDepth 20000 in
theorem wd_401 : Cond.code yX6_sumOf cX6_sumOf 6 (some .long) ∈ zz_TG := List.mem_filter.mpr ⟨zz_in2 (List.mem_of_getElem? (i := 93) rfl), rfl⟩
set_option maxRecDepth 20000 in
theorem wd_402 : Cond.methodLink "NeverTogether$Shelf" 38 yX6_sizeOf ∈ zz_TG := List.mem_filter.mpr ⟨zz_in2 (List.mem_of_getElem? (i := 94) rfl), rfl⟩
set_option maxRecDepth 20000 in
theorem wd_403 : Cond.methodLink "NeverTogether$Shelf" 42 yX6_placeOf ∈ zz_TG := List.mem_filter.mpr ⟨zz_in2 (List.mem_of_getElem? (i := 95) rfl), rfl⟩
set_option maxRecDepth 20000 in
theorem wd_404 : Cond.methodLink "NeverTogetherLaw" 41 yX7_text ∈ zz_TG := List.mem_filter.mpr ⟨zz_in2 (List.mem_of_getElem? (i := 96) rfl), rfl⟩
set_option maxRecDepth 20000 in
theorem wd_405 : Cond.instanceMethod yX7_text ∈ zz_TG := List.mem_filter.mpr ⟨zz_in2 (List.mem_of_getElem? (i := 97) rfl), rfl⟩
set_option maxRecDepth 20000 in
theorem wd_406 : Cond.selects "NeverTogether" yX7_text yX7_text ∈ zz_TG := List.mem_filter.mpr ⟨zz_in2 (List.mem_of_getElem? (i := 98) rfl), rfl⟩
set_option maxRecDepth 20000 in
theorem wd_407 : Cond.code yX7_text cX7_text 3 (some .int) ∈ zz_TG := List.mem_filter.mpr ⟨zz_in2 (List.mem_of_getElem? (i := 99) rfl), rfl⟩
set_option maxRecDepth 20000 in
theorem wd_408 : Cond.methodLink "NeverTogetherLaw" 45 yX7_put ∈ zz_TG := List.mem_filter.mpr ⟨zz_in2 (List.mem_of_getElem? (i := 100) rfl), rfl⟩
set_option maxRecDepth 20000 in
theorem wd_409 : Cond.instanceMethod yX7_put ∈ zz_TG := List.mem_filter.mpr ⟨zz_in2 (List.mem_of_getElem? (i := 101) rfl), rfl⟩
set_option maxRecDepth 20000 in
theorem wd_410 : Cond.selects "NeverTogether" yX7_put yX7_put ∈ zz_TG := List.mem_filter.mpr ⟨zz_in2 (List.mem_of_getElem? (i := 102) rfl), rfl⟩
set_option maxRecDepth 20000 in
theorem wd_411 : Cond.code yX7_put cX7_put 5 (some .int) ∈ zz_TG := List.mem_filter.mpr ⟨zz_in2 (List.mem_of_getElem? (i := 103) rfl), rfl⟩
set_option maxRecDepth 20000 in
theorem wd_412 : Cond.methodLink "NeverTogetherLaw" 49 yX7_fault ∈ zz_TG := List.mem_filter.mpr ⟨zz_in2 (List.mem_of_getElem? (i := 104) rfl), rfl⟩
set_option maxRecDepth 20000 in
theorem wd_413 : Cond.instanceMethod yX7_fault ∈ zz_TG := List.mem_filter.mpr ⟨zz_in2 (List.mem_of_getElem? (i := 105) rfl), rfl⟩
set_option maxRecDepth 20000 in
theorem wd_414 : Cond.selects "NeverTogether" yX7_fault yX7_fault ∈ zz_TG := List.mem_filter.mpr ⟨zz_in2 (List.mem_of_getElem? (i := 106) rfl), rfl⟩
set_option maxRecDepth 20000 in
theorem wd_415 : Cond.code yX7_fault cX7_fault 3 (some .int) ∈ zz_TG := List.mem_filter.mpr ⟨zz_in2 (List.mem_of_getElem? (i := 107) rfl), rfl⟩
set_option maxRecDepth 20000 in
theorem wd_416 : Cond.methodLink "NeverTogether" 126 yX5_read ∈ zz_TG := List.mem_filter.mpr ⟨zz_in2 (List.mem_of_getElem? (i := 108) rfl), rfl⟩
set_option maxRecDepth 20000 in
theorem wd_417 : Cond.instanceMethod yX5_read ∈ zz_TG := List.mem_filter.mpr ⟨zz_in2 (List.mem_of_getElem? (i := 109) rfl), rfl⟩
set_option maxRecDepth 20000 in
theorem wd_418 : Cond.selects "NeverTogether$Reader" yX5_read yX5_read ∈ zz_TG := List.mem_filter.mpr ⟨zz_in2 (List.mem_of_getElem? (i := 110) rfl), rfl⟩
set_option maxRecDepth 20000 in
theorem wd_419 : Cond.code yX5_read cX5_read 5 (some .int) ∈ zz_TG := List.mem_filter.mpr ⟨zz_in2 (List.mem_of_getElem? (i := 111) rfl), rfl⟩
set_option maxRecDepth 20000 in
theorem wd_420 : Cond.methodLink "NeverTogether$Reader" 27 yX6_sizeOf ∈ zz_TG := List.mem_filter.mpr ⟨zz_in2 (List.mem_of_getElem? (i := 112) rfl), rfl⟩
set_option maxRecDepth 20000 in
theorem wd_421 : Cond.methodLink "NeverTogether$Reader" 43 yX5_skipBlanks ∈ zz_TG := List.mem_filter.mpr ⟨zz_in2 (List.mem_of_getElem? (i := 113) rfl), rfl⟩
set_option maxRecDepth 20000 in
theorem wd_423 : Cond.instanceMethod yX5_skipBlanks ∈ zz_TG := List.mem_filter.mpr ⟨zz_in2 (List.mem_of_getElem? (i := 115) rfl), rfl⟩
set_option maxRecDepth 20000 in
theorem wd_424 : Cond.code yX5_skipBlanks cX5_skipBlanks 4 none ∈ zz_TG := List.mem_filter.mpr ⟨zz_in2 (List.mem_of_getElem? (i := 116) rfl), rfl⟩
set_option maxRecDepth 20000 in
theorem wd_425 : Cond.methodLink "NeverTogether$Reader" 55 yX6_placeOf ∈ zz_TG := List.mem_filter.mpr ⟨zz_in2 (List.mem_of_getElem? (i := 117) rfl), rfl⟩
set_option maxRecDepth 20000 in
theorem wd_426 : Cond.methodLink "NeverTogether$Reader" 47 yX5_takeHeats ∈ zz_TG := List.mem_filter.mpr ⟨zz_in2 (List.mem_of_getElem? (i := 118) rfl), rfl⟩
set_option maxRecDepth 20000 in
theorem wd_428 : Cond.instanceMethod yX5_takeHeats ∈ zz_TG := List.mem_filter.mpr ⟨zz_in2 (List.mem_of_getElem? (i := 120) rfl), rfl⟩
set_option maxRecDepth 20000 in
theorem wd_429 : Cond.code yX5_takeHeats cX5_takeHeats 5 (some .boolean) ∈ zz_TG := List.mem_filter.mpr ⟨zz_in2 (List.mem_of_getElem? (i := 121) rfl), rfl⟩
set_option maxRecDepth 20000 in
theorem wd_430 : Cond.methodLink "NeverTogether$Reader" 59 yX6_isPlace ∈ zz_TG := List.mem_filter.mpr ⟨zz_in2 (List.mem_of_getElem? (i := 122) rfl), rfl⟩
set_option maxRecDepth 20000 in
theorem wd_431 : Cond.methodLink "NeverTogether$Reader" 63 yX5_takeFigure ∈ zz_TG := List.mem_filter.mpr ⟨zz_in2 (List.mem_of_getElem? (i := 123) rfl), rfl⟩
set_option maxRecDepth 20000 in
theorem wd_433 : Cond.instanceMethod yX5_takeFigure ∈ zz_TG := List.mem_filter.mpr ⟨zz_in2 (List.mem_of_getElem? (i := 125) rfl), rfl⟩
set_option maxRecDepth 20000 in
theorem wd_434 : Cond.code yX5_takeFigure cX5_takeFigure 5 (some .int) ∈ zz_TG := List.mem_filter.mpr ⟨zz_in2 (List.mem_of_getElem? (i := 126) rfl), rfl⟩
set_option maxRecDepth 20000 in
theorem wd_435 : Cond.methodLink "NeverTogether$Reader" 51 yX5_takePiece ∈ zz_TG := List.mem_filter.mpr ⟨zz_in2 (List.mem_of_getElem? (i := 127) rfl), rfl⟩
set_option maxRecDepth 20000 in
theorem wd_437 : Cond.instanceMethod yX5_takePiece ∈ zz_TG := List.mem_filter.mpr ⟨zz_in2 (List.mem_of_getElem? (i := 129) rfl), rfl⟩
set_option maxRecDepth 20000 in
theorem wd_438 : Cond.code yX5_takePiece cX5_takePiece 9 (some .boolean) ∈ zz_TG := List.mem_filter.mpr ⟨zz_in2 (List.mem_of_getElem? (i := 130) rfl), rfl⟩
set_option maxRecDepth 20000 in
theorem wd_439 : Cond.methodLink "NeverTogether$Reader" 67 yX5_kindOf ∈ zz_TG := List.mem_filter.mpr ⟨zz_in2 (List.mem_of_getElem? (i := 131) rfl), rfl⟩
set_option maxRecDepth 20000 in
theorem wd_440 : Cond.static yX5_kindOf ∈ zz_TG := List.mem_filter.mpr ⟨zz_in2 (List.mem_of_getElem? (i := 132) rfl), rfl⟩
set_option maxRecDepth 20000 in
theorem wd_441 : Cond.code yX5_kindOf cX5_kindOf 2 (some .int) ∈ zz_TG := List.mem_filter.mpr ⟨zz_in2 (List.mem_of_getElem? (i := 133) rfl), rfl⟩
set_option maxRecDepth 20000 in
theorem wd_444 : Cond.methodLink "NeverTogetherLaw" 53 yX7_house ∈ zz_TG := List.mem_filter.mpr ⟨zz_in2 (List.mem_of_getElem? (i := 136) rfl), rfl⟩
set_option maxRecDepth 20000 in
theorem wd_445 : Cond.instanceMethod yX7_house ∈ zz_TG := List.mem_filter.mpr ⟨zz_in2 (List.mem_of_getElem? (i := 137) rfl), rfl⟩
set_option maxRecDepth 20000 in
theorem wd_446 : Cond.selects "NeverTogether" yX7_house yX7_house ∈ zz_TG := List.mem_filter.mpr ⟨zz_in2 (List.mem_of_getElem? (i := 138) rfl), rfl⟩
set_option maxRecDepth 20000 in
theorem wd_447 : Cond.code yX7_house cX7_house 3 (some .int) ∈ zz_TG := List.mem_filter.mpr ⟨zz_in2 (List.mem_of_getElem? (i := 139) rfl), rfl⟩
set_option maxRecDepth 20000 in
theorem wd_448 : Cond.methodLink "NeverTogether" 129 yX2_furnish ∈ zz_TG := List.mem_filter.mpr ⟨zz_in2 (List.mem_of_getElem? (i := 140) rfl), rfl⟩
set_option maxRecDepth 20000 in
theorem wd_449 : Cond.instanceMethod yX2_furnish ∈ zz_TG := List.mem_filter.mpr ⟨zz_in2 (List.mem_of_getElem? (i := 141) rfl), rfl⟩
set_option maxRecDepth 20000 in
theorem wd_450 : Cond.selects "NeverTogether$House" yX2_furnish yX2_furnish ∈ zz_TG := List.mem_filter.mpr ⟨zz_in2 (List.mem_of_getElem? (i := 142) rfl), rfl⟩
set_option maxRecDepth 20000 in
theorem wd_451 : Cond.code yX2_furnish cX2_furnish 3 none ∈ zz_TG := List.mem_filter.mpr ⟨zz_in2 (List.mem_of_getElem? (i := 143) rfl), rfl⟩
set_option maxRecDepth 20000 in
theorem wd_452 : Cond.methodLink "NeverTogether$House" 57 yX2_goBackTo ∈ zz_TG := List.mem_filter.mpr ⟨zz_in2 (List.mem_of_getElem? (i := 144) rfl), rfl⟩
set_option maxRecDepth 20000 in
theorem wd_453 : Cond.instanceMethod yX2_goBackTo ∈ zz_TG := List.mem_filter.mpr ⟨zz_in2 (List.mem_of_getElem? (i := 145) rfl), rfl⟩
set_option maxRecDepth 20000 in
theorem wd_454 : Cond.selects "NeverTogether$House" yX2_goBackTo yX2_goBackTo ∈ zz_TG := List.mem_filter.mpr ⟨zz_in2 (List.mem_of_getElem? (i := 146) rfl), rfl⟩
set_option maxRecDepth 20000 in
theorem wd_455 : Cond.code yX2_goBackTo cX2_goBackTo 3 none ∈ zz_TG := List.mem_filter.mpr ⟨zz_in2 (List.mem_of_getElem? (i := 147) rfl), rfl⟩
set_option maxRecDepth 20000 in
theorem wd_456 : Cond.methodLink "NeverTogether$House" 133 yX2_perform ∈ zz_TG := List.mem_filter.mpr ⟨zz_in2 (List.mem_of_getElem? (i := 148) rfl), rfl⟩
set_option maxRecDepth 20000 in
theorem wd_458 : Cond.instanceMethod yX2_perform ∈ zz_TG := List.mem_filter.mpr ⟨zz_in2 (List.mem_of_getElem? (i := 150) rfl), rfl⟩
set_option maxRecDepth 20000 in
theorem wd_459 : Cond.code yX2_perform cX2_perform 3 none ∈ zz_TG := List.mem_filter.mpr ⟨zz_in2 (List.mem_of_getElem? (i := 151) rfl), rfl⟩
set_option maxRecDepth 20000 in
theorem wd_460 : Cond.methodLink "NeverTogether$House" 144 yX2_gainAll ∈ zz_TG := List.mem_filter.mpr ⟨zz_in2 (List.mem_of_getElem? (i := 152) rfl), rfl⟩
set_option maxRecDepth 20000 in
theorem wd_462 : Cond.instanceMethod yX2_gainAll ∈ zz_TG := List.mem_filter.mpr ⟨zz_in2 (List.mem_of_getElem? (i := 154) rfl), rfl⟩
set_option maxRecDepth 20000 in
theorem wd_463 : Cond.code yX2_gainAll cX2_gainAll 3 none ∈ zz_TG := List.mem_filter.mpr ⟨zz_in2 (List.mem_of_getElem? (i := 155) rfl), rfl⟩
set_option maxRecDepth 20000 in
theorem wd_464 : Cond.methodLink "NeverTogether$House" 107 yX2_heatAfter ∈ zz_TG := List.mem_filter.mpr ⟨zz_in2 (List.mem_of_getElem? (i := 156) rfl), rfl⟩
set_option maxRecDepth 20000 in
theorem wd_465 : Cond.instanceMethod yX2_heatAfter ∈ zz_TG := List.mem_filter.mpr ⟨zz_in2 (List.mem_of_getElem? (i := 157) rfl), rfl⟩
set_option maxRecDepth 20000 in
theorem wd_466 : Cond.selects "NeverTogether$House" yX2_heatAfter yX2_heatAfter ∈ zz_TG := List.mem_filter.mpr ⟨zz_in2 (List.mem_of_getElem? (i := 158) rfl), rfl⟩
set_option maxRecDepth 20000 in
theorem wd_467 : Cond.code yX2_heatAfter cX2_heatAfter 2 (some .int) ∈ zz_TG := List.mem_filter.mpr ⟨zz_in2 (List.mem_of_getElem? (i := 159) rfl), rfl⟩
set_option maxRecDepth 20000 in
theorem wd_468 : Cond.methodLink "NeverTogether$House" 104 yX2_heatOf ∈ zz_TG := List.mem_filter.mpr ⟨zz_in2 (List.mem_of_getElem? (i := 160) rfl), rfl⟩
set_option maxRecDepth 20000 in
theorem wd_469 : Cond.instanceMethod yX2_heatOf ∈ zz_TG := List.mem_filter.mpr ⟨zz_in2 (List.mem_of_getElem? (i := 161) rfl), rfl⟩
set_option maxRecDepth 20000 in
theorem wd_470 : Cond.selects "NeverTogether$House" yX2_heatOf yX2_heatOf ∈ zz_TG := List.mem_filter.mpr ⟨zz_in2 (List.mem_of_getElem? (i := 162) rfl), rfl⟩
set_option maxRecDepth 20000 in
theorem wd_471 : Cond.code yX2_heatOf cX2_heatOf 2 (some .int) ∈ zz_TG := List.mem_filter.mpr ⟨zz_in2 (List.mem_of_getElem? (i := 163) rfl), rfl⟩
set_option maxRecDepth 20000 in
theorem wd_472 : Cond.methodLink "NeverTogether$House" 81 yX2_minuteAfter ∈ zz_TG := List.mem_filter.mpr ⟨zz_in2 (List.mem_of_getElem? (i := 164) rfl), rfl⟩
set_option maxRecDepth 20000 in
theorem wd_473 : Cond.instanceMethod yX2_minuteAfter ∈ zz_TG := List.mem_filter.mpr ⟨zz_in2 (List.mem_of_getElem? (i := 165) rfl), rfl⟩
set_option maxRecDepth 20000 in
theorem wd_474 : Cond.selects "NeverTogether$House" yX2_minuteAfter yX2_minuteAfter ∈ zz_TG := List.mem_filter.mpr ⟨zz_in2 (List.mem_of_getElem? (i := 166) rfl), rfl⟩
set_option maxRecDepth 20000 in
theorem wd_475 : Cond.code yX2_minuteAfter cX2_minuteAfter 4 (some .int) ∈ zz_TG := List.mem_filter.mpr ⟨zz_in2 (List.mem_of_getElem? (i := 167) rfl), rfl⟩
set_option maxRecDepth 20000 in
theorem wd_476 : Cond.methodLink "NeverTogether$House" 61 yX2_isPiece ∈ zz_TG := List.mem_filter.mpr ⟨zz_in2 (List.mem_of_getElem? (i := 168) rfl), rfl⟩
set_option maxRecDepth 20000 in
theorem wd_477 : Cond.instanceMethod yX2_isPiece ∈ zz_TG := List.mem_filter.mpr ⟨zz_in2 (List.mem_of_getElem? (i := 169) rfl), rfl⟩
set_option maxRecDepth 20000 in
theorem wd_478 : Cond.selects "NeverTogether$House" yX2_isPiece yX2_isPiece ∈ zz_TG := List.mem_filter.mpr ⟨zz_in2 (List.mem_of_getElem? (i := 170) rfl), rfl⟩
set_option maxRecDepth 20000 in
theorem wd_479 : Cond.code yX2_isPiece cX2_isPiece 2 (some .boolean) ∈ zz_TG := List.mem_filter.mpr ⟨zz_in2 (List.mem_of_getElem? (i := 171) rfl), rfl⟩
set_option maxRecDepth 20000 in
theorem wd_481 : Cond.static yX7_gainOver ∈ zz_TG := List.mem_filter.mpr ⟨zz_in2 (List.mem_of_getElem? (i := 173) rfl), rfl⟩
set_option maxRecDepth 20000 in
theorem wd_482 : Cond.code yX7_gainOver cX7_gainOver 4 (some .int) ∈ zz_TG := List.mem_filter.mpr ⟨zz_in2 (List.mem_of_getElem? (i := 174) rfl), rfl⟩
set_option maxRecDepth 20000 in
theorem wd_483 : Cond.fieldLink "NeverTogether" 375 "NeverTogether" "HEAT_SIGN" "[I" ∈ zz_TG := List.mem_filter.mpr ⟨zz_in2 (List.mem_of_getElem? (i := 175) rfl), rfl⟩
set_option maxRecDepth 20000 in
theorem wd_486 : Cond.static yX7_ring ∈ zz_TG := List.mem_filter.mpr ⟨zz_in2 (List.mem_of_getElem? (i := 178) rfl), rfl⟩
set_option maxRecDepth 20000 in
theorem wd_487 : Cond.code yX7_ring cX7_ring 2 (some .int) ∈ zz_TG := List.mem_filter.mpr ⟨zz_in2 (List.mem_of_getElem? (i := 179) rfl), rfl⟩
set_option maxRecDepth 20000 in
theorem wd_488 : Cond.methodLink "NeverTogetherLaw" 57 yX7_piece ∈ zz_TG := List.mem_filter.mpr ⟨zz_in2 (List.mem_of_getElem? (i := 180) rfl), rfl⟩
set_option maxRecDepth 20000 in
theorem wd_489 : Cond.instanceMethod yX7_piece ∈ zz_TG := List.mem_filter.mpr ⟨zz_in2 (List.mem_of_getElem? (i := 181) rfl), rfl⟩
set_option maxRecDepth 20000 in
theorem wd_490 : Cond.selects "NeverTogether" yX7_piece yX7_piece ∈ zz_TG := List.mem_filter.mpr ⟨zz_in2 (List.mem_of_getElem? (i := 182) rfl), rfl⟩
set_option maxRecDepth 20000 in
theorem wd_491 : Cond.code yX7_piece cX7_piece 3 (some .int) ∈ zz_TG := List.mem_filter.mpr ⟨zz_in2 (List.mem_of_getElem? (i := 183) rfl), rfl⟩
set_option maxRecDepth 20000 in
theorem wd_492 : Cond.methodLink "NeverTogether" 136 yX2_isPiece ∈ zz_TG := List.mem_filter.mpr ⟨zz_in2 (List.mem_of_getElem? (i := 184) rfl), rfl⟩
set_option maxRecDepth 20000 in
theorem wd_493 : Cond.methodLink "NeverTogether" 139 yX2_partOf ∈ zz_TG := List.mem_filter.mpr ⟨zz_in2 (List.mem_of_getElem? (i := 185) rfl), rfl⟩
set_option maxRecDepth 20000 in
theorem wd_494 : Cond.instanceMethod yX2_partOf ∈ zz_TG := List.mem_filter.mpr ⟨zz_in2 (List.mem_of_getElem? (i := 186) rfl), rfl⟩
set_option maxRecDepth 20000 in
theorem wd_495 : Cond.selects "NeverTogether$House" yX2_partOf yX2_partOf ∈ zz_TG := List.mem_filter.mpr ⟨zz_in2 (List.mem_of_getElem? (i := 187) rfl), rfl⟩
set_option maxRecDepth 20000 in
theorem wd_496 : Cond.code yX2_partOf cX2_partOf 3 (some .int) ∈ zz_TG := List.mem_filter.mpr ⟨zz_in2 (List.mem_of_getElem? (i := 188) rfl), rfl⟩
set_option maxRecDepth 20000 in
theorem wd_497 : Cond.methodLink "NeverTogether$House" 77 yX2_kindOf ∈ zz_TG := List.mem_filter.mpr ⟨zz_in2 (List.mem_of_getElem? (i := 189) rfl), rfl⟩
set_option maxRecDepth 20000 in
theorem wd_498 : Cond.instanceMethod yX2_kindOf ∈ zz_TG := List.mem_filter.mpr ⟨zz_in2 (List.mem_of_getElem? (i := 190) rfl), rfl⟩
set_option maxRecDepth 20000 in
theorem wd_499 : Cond.selects "NeverTogether$House" yX2_kindOf yX2_kindOf ∈ zz_TG := List.mem_filter.mpr ⟨zz_in2 (List.mem_of_getElem? (i := 191) rfl), rfl⟩
set_option maxRecDepth 20000 in
theorem wd_500 : Cond.code yX2_kindOf cX2_kindOf 2 (some .int) ∈ zz_TG := List.mem_filter.mpr ⟨zz_in2 (List.mem_of_getElem? (i := 192) rfl), rfl⟩
set_option maxRecDepth 20000 in
theorem wd_501 : Cond.methodLink "NeverTogether$House" 85 yX2_rateOf ∈ zz_TG := List.mem_filter.mpr ⟨zz_in2 (List.mem_of_getElem? (i := 193) rfl), rfl⟩
set_option maxRecDepth 20000 in
theorem wd_502 : Cond.instanceMethod yX2_rateOf ∈ zz_TG := List.mem_filter.mpr ⟨zz_in2 (List.mem_of_getElem? (i := 194) rfl), rfl⟩
set_option maxRecDepth 20000 in
theorem wd_503 : Cond.selects "NeverTogether$House" yX2_rateOf yX2_rateOf ∈ zz_TG := List.mem_filter.mpr ⟨zz_in2 (List.mem_of_getElem? (i := 195) rfl), rfl⟩
set_option maxRecDepth 20000 in
theorem wd_504 : Cond.code yX2_rateOf cX2_rateOf 2 (some .int) ∈ zz_TG := List.mem_filter.mpr ⟨zz_in2 (List.mem_of_getElem? (i := 196) rfl), rfl⟩
set_option maxRecDepth 20000 in
theorem wd_505 : Cond.methodLink "NeverTogether$House" 88 yX2_floorOf ∈ zz_TG := List.mem_filter.mpr ⟨zz_in2 (List.mem_of_getElem? (i := 197) rfl), rfl⟩
set_option maxRecDepth 20000 in
theorem wd_506 : Cond.instanceMethod yX2_floorOf ∈ zz_TG := List.mem_filter.mpr ⟨zz_in2 (List.mem_of_getElem? (i := 198) rfl), rfl⟩
set_option maxRecDepth 20000 in
theorem wd_507 : Cond.selects "NeverTogether$House" yX2_floorOf yX2_floorOf ∈ zz_TG := List.mem_filter.mpr ⟨zz_in2 (List.mem_of_getElem? (i := 199) rfl), rfl⟩
set_option maxRecDepth 20000 in
theorem wd_508 : Cond.code yX2_floorOf cX2_floorOf 2 (some .int) ∈ zz_TG := List.mem_filter.mpr ⟨zz_in2 (List.mem_of_getElem? (i := 200) rfl), rfl⟩
set_option maxRecDepth 20000 in
theorem wd_509 : Cond.methodLink "NeverTogether$House" 91 yX2_strikesOf ∈ zz_TG := List.mem_filter.mpr ⟨zz_in2 (List.mem_of_getElem? (i := 201) rfl), rfl⟩
set_option maxRecDepth 20000 in
theorem wd_510 : Cond.instanceMethod yX2_strikesOf ∈ zz_TG := List.mem_filter.mpr ⟨zz_in2 (List.mem_of_getElem? (i := 202) rfl), rfl⟩
set_option maxRecDepth 20000 in
theorem wd_511 : Cond.selects "NeverTogether$House" yX2_strikesOf yX2_strikesOf ∈ zz_TG := List.mem_filter.mpr ⟨zz_in2 (List.mem_of_getElem? (i := 203) rfl), rfl⟩
set_option maxRecDepth 20000 in
theorem wd_512 : Cond.code yX2_strikesOf cX2_strikesOf 2 (some .int) ∈ zz_TG := List.mem_filter.mpr ⟨zz_in2 (List.mem_of_getElem? (i := 204) rfl), rfl⟩
set_option maxRecDepth 20000 in
theorem wd_514 : Cond.static yX7_isKind ∈ zz_TG := List.mem_filter.mpr ⟨zz_in2 (List.mem_of_getElem? (i := 206) rfl), rfl⟩
set_option maxRecDepth 20000 in
theorem wd_515 : Cond.code yX7_isKind cX7_isKind 1 (some .boolean) ∈ zz_TG := List.mem_filter.mpr ⟨zz_in2 (List.mem_of_getElem? (i := 207) rfl), rfl⟩
set_option maxRecDepth 20000 in
theorem wd_518 : Cond.methodLink "NeverTogether$House" 94 yX2_wasTouched ∈ zz_TG := List.mem_filter.mpr ⟨zz_in2 (List.mem_of_getElem? (i := 210) rfl), rfl⟩
set_option maxRecDepth 20000 in
theorem wd_519 : Cond.instanceMethod yX2_wasTouched ∈ zz_TG := List.mem_filter.mpr ⟨zz_in2 (List.mem_of_getElem? (i := 211) rfl), rfl⟩
set_option maxRecDepth 20000 in
theorem wd_520 : Cond.selects "NeverTogether$House" yX2_wasTouched yX2_wasTouched ∈ zz_TG := List.mem_filter.mpr ⟨zz_in2 (List.mem_of_getElem? (i := 212) rfl), rfl⟩
set_option maxRecDepth 20000 in
theorem wd_521 : Cond.code yX2_wasTouched cX2_wasTouched 2 (some .boolean) ∈ zz_TG := List.mem_filter.mpr ⟨zz_in2 (List.mem_of_getElem? (i := 213) rfl), rfl⟩
set_option maxRecDepth 20000 in
theorem wd_522 : Cond.methodLink "NeverTogetherLaw" 61 yX7_mark ∈ zz_TG := List.mem_filter.mpr ⟨zz_in2 (List.mem_of_getElem? (i := 214) rfl), rfl⟩
set_option maxRecDepth 20000 in
theorem wd_523 : Cond.instanceMethod yX7_mark ∈ zz_TG := List.mem_filter.mpr ⟨zz_in2 (List.mem_of_getElem? (i := 215) rfl), rfl⟩
set_option maxRecDepth 20000 in
theorem wd_524 : Cond.selects "NeverTogether" yX7_mark yX7_mark ∈ zz_TG := List.mem_filter.mpr ⟨zz_in2 (List.mem_of_getElem? (i := 216) rfl), rfl⟩
set_option maxRecDepth 20000 in
theorem wd_525 : Cond.code yX7_mark cX7_mark 3 (some .int) ∈ zz_TG := List.mem_filter.mpr ⟨zz_in2 (List.mem_of_getElem? (i := 217) rfl), rfl⟩
set_option maxRecDepth 20000 in
theorem wd_526 : Cond.methodLink "NeverTogether" 142 yX2_isOf ∈ zz_TG := List.mem_filter.mpr ⟨zz_in2 (List.mem_of_getElem? (i := 218) rfl), rfl⟩
set_option maxRecDepth 20000 in
theorem wd_527 : Cond.instanceMethod yX2_isOf ∈ zz_TG := List.mem_filter.mpr ⟨zz_in2 (List.mem_of_getElem? (i := 219) rfl), rfl⟩
set_option maxRecDepth 20000 in
theorem wd_528 : Cond.selects "NeverTogether$House" yX2_isOf yX2_isOf ∈ zz_TG := List.mem_filter.mpr ⟨zz_in2 (List.mem_of_getElem? (i := 220) rfl), rfl⟩
set_option maxRecDepth 20000 in
theorem wd_529 : Cond.code yX2_isOf cX2_isOf 3 (some .boolean) ∈ zz_TG := List.mem_filter.mpr ⟨zz_in2 (List.mem_of_getElem? (i := 221) rfl), rfl⟩
set_option maxRecDepth 20000 in
theorem wd_532 : Cond.methodLink "NeverTogether" 146 yX2_lastStrike ∈ zz_TG := List.mem_filter.mpr ⟨zz_in2 (List.mem_of_getElem? (i := 224) rfl), rfl⟩
set_option maxRecDepth 20000 in
theorem wd_533 : Cond.instanceMethod yX2_lastStrike ∈ zz_TG := List.mem_filter.mpr ⟨zz_in2 (List.mem_of_getElem? (i := 225) rfl), rfl⟩
set_option maxRecDepth 20000 in
theorem wd_534 : Cond.selects "NeverTogether$House" yX2_lastStrike yX2_lastStrike ∈ zz_TG := List.mem_filter.mpr ⟨zz_in2 (List.mem_of_getElem? (i := 226) rfl), rfl⟩
set_option maxRecDepth 20000 in
theorem wd_535 : Cond.code yX2_lastStrike cX2_lastStrike 2 (some .int) ∈ zz_TG := List.mem_filter.mpr ⟨zz_in2 (List.mem_of_getElem? (i := 227) rfl), rfl⟩
set_option maxRecDepth 20000 in
theorem wd_536 : Cond.methodLink "NeverTogether" 149 yX2_gainToday ∈ zz_TG := List.mem_filter.mpr ⟨zz_in2 (List.mem_of_getElem? (i := 228) rfl), rfl⟩
set_option maxRecDepth 20000 in
theorem wd_537 : Cond.instanceMethod yX2_gainToday ∈ zz_TG := List.mem_filter.mpr ⟨zz_in2 (List.mem_of_getElem? (i := 229) rfl), rfl⟩
set_option maxRecDepth 20000 in
theorem wd_538 : Cond.selects "NeverTogether$House" yX2_gainToday yX2_gainToday ∈ zz_TG := List.mem_filter.mpr ⟨zz_in2 (List.mem_of_getElem? (i := 230) rfl), rfl⟩
set_option maxRecDepth 20000 in
theorem wd_539 : Cond.code yX2_gainToday cX2_gainToday 2 (some .int) ∈ zz_TG := List.mem_filter.mpr ⟨zz_in2 (List.mem_of_getElem? (i := 231) rfl), rfl⟩
set_option maxRecDepth 20000 in
theorem wd_540 : Cond.methodLink "NeverTogether" 152 yX2_visitorsOf ∈ zz_TG := List.mem_filter.mpr ⟨zz_in2 (List.mem_of_getElem? (i := 232) rfl), rfl⟩
set_option maxRecDepth 20000 in
theorem wd_541 : Cond.instanceMethod yX2_visitorsOf ∈ zz_TG := List.mem_filter.mpr ⟨zz_in2 (List.mem_of_getElem? (i := 233) rfl), rfl⟩
set_option maxRecDepth 20000 in
theorem wd_542 : Cond.selects "NeverTogether$House" yX2_visitorsOf yX2_visitorsOf ∈ zz_TG := List.mem_filter.mpr ⟨zz_in2 (List.mem_of_getElem? (i := 234) rfl), rfl⟩
set_option maxRecDepth 20000 in
theorem wd_543 : Cond.code yX2_visitorsOf cX2_visitorsOf 6 (some .int) ∈ zz_TG := List.mem_filter.mpr ⟨zz_in2 (List.mem_of_getElem? (i := 235) rfl), rfl⟩
set_option maxRecDepth 20000 in
theorem wd_544 : Cond.methodLink "NeverTogether$House" 125 yJ6_bitCount_0f7a4 ∈ zz_TG := List.mem_filter.mpr ⟨zz_in2 (List.mem_of_getElem? (i := 236) rfl), rfl⟩
set_option maxRecDepth 20000 in
theorem wd_545 : Cond.static yJ6_bitCount_0f7a4 ∈ zz_TG := List.mem_filter.mpr ⟨zz_in2 (List.mem_of_getElem? (i := 237) rfl), rfl⟩
set_option maxRecDepth 20000 in
theorem wd_546 : Cond.code yJ6_bitCount_0f7a4 cJ6_bitCount_0f7a4 1 (some .int) ∈ zz_TG := List.mem_filter.mpr ⟨zz_in2 (List.mem_of_getElem? (i := 238) rfl), rfl⟩
set_option maxRecDepth 20000 in
theorem wd_547 : Jvm.Cond.constant "java/lang/Integer" 265 1431655765 ∈ zz_TG := List.mem_filter.mpr ⟨zz_in2 (List.mem_of_getElem? (i := 239) rfl), rfl⟩
set_option maxRecDepth 20000 in
theorem wd_548 : Jvm.Cond.constant "java/lang/Integer" 266 858993459 ∈ zz_TG := List.mem_filter.mpr ⟨zz_in3 (List.mem_of_getElem? (i := 0) rfl), rfl⟩
set_option maxRecDepth 20000 in
theorem wd_549 : Jvm.Cond.constant "java/lang/Integer" 267 252645135 ∈ zz_TG := List.mem_filter.mpr ⟨zz_in3 (List.mem_of_getElem? (i := 1) rfl), rfl⟩
set_option maxRecDepth 20000 in
theorem wd_550 : Cond.methodLink "NeverTogether" 155 yX4_see ∈ zz_TG := List.mem_filter.mpr ⟨zz_in3 (List.mem_of_getElem? (i := 2) rfl), rfl⟩
set_option maxRecDepth 20000 in
theorem wd_551 : Cond.instanceMethod yX4_see ∈ zz_TG := List.mem_filter.mpr ⟨zz_in3 (List.mem_of_getElem? (i := 3) rfl), rfl⟩
set_option maxRecDepth 20000 in
theorem wd_552 : Cond.selects "NeverTogether$Moment" yX4_see yX4_see ∈ zz_TG := List.mem_filter.mpr ⟨zz_in3 (List.mem_of_getElem? (i := 4) rfl), rfl⟩
set_option maxRecDepth 20000 in
theorem wd_553 : Cond.code yX4_see cX4_see 5 none ∈ zz_TG := List.mem_filter.mpr ⟨zz_in3 (List.mem_of_getElem? (i := 5) rfl), rfl⟩
set_option maxRecDepth 20000 in
theorem wd_554 : Cond.methodLink "NeverTogether$Moment" 22 yX2_strikingAfter ∈ zz_TG := List.mem_filter.mpr ⟨zz_in3 (List.mem_of_getElem? (i := 6) rfl), rfl⟩
set_option maxRecDepth 20000 in
theorem wd_555 : Cond.instanceMethod yX2_strikingAfter ∈ zz_TG := List.mem_filter.mpr ⟨zz_in3 (List.mem_of_getElem? (i := 7) rfl), rfl⟩
set_option maxRecDepth 20000 in
theorem wd_556 : Cond.selects "NeverTogether$House" yX2_strikingAfter yX2_strikingAfter ∈ zz_TG := List.mem_filter.mpr ⟨zz_in3 (List.mem_of_getElem? (i := 8) rfl), rfl⟩
set_option maxRecDepth 20000 in
theorem wd_557 : Cond.code yX2_strikingAfter cX2_strikingAfter 4 (some .long) ∈ zz_TG := List.mem_filter.mpr ⟨zz_in3 (List.mem_of_getElem? (i := 9) rfl), rfl⟩
set_option maxRecDepth 20000 in
theorem wd_559 : Cond.static yX7_run ∈ zz_TG := List.mem_filter.mpr ⟨zz_in3 (List.mem_of_getElem? (i := 11) rfl), rfl⟩
set_option maxRecDepth 20000 in
theorem wd_560 : Cond.code yX7_run cX7_run 2 (some .long) ∈ zz_TG := List.mem_filter.mpr ⟨zz_in3 (List.mem_of_getElem? (i := 12) rfl), rfl⟩
set_option maxRecDepth 20000 in
theorem wd_561 : Cond.methodLink "NeverTogether" 371 yX7_turned ∈ zz_TG := List.mem_filter.mpr ⟨zz_in3 (List.mem_of_getElem? (i := 13) rfl), rfl⟩
set_option maxRecDepth 20000 in
theorem wd_562 : Cond.static yX7_turned ∈ zz_TG := List.mem_filter.mpr ⟨zz_in3 (List.mem_of_getElem? (i := 14) rfl), rfl⟩
set_option maxRecDepth 20000 in
theorem wd_563 : Cond.code yX7_turned cX7_turned 3 (some .long) ∈ zz_TG := List.mem_filter.mpr ⟨zz_in3 (List.mem_of_getElem? (i := 15) rfl), rfl⟩
set_option maxRecDepth 20000 in
theorem wd_564 : Jvm.Cond.constantLong "NeverTogether" 242 1152921504606846975 ∈ zz_TG := List.mem_filter.mpr ⟨zz_in3 (List.mem_of_getElem? (i := 16) rfl), rfl⟩
set_option maxRecDepth 20000 in
theorem wd_565 : Cond.methodLink "NeverTogether" 159 yX4_companyOf ∈ zz_TG := List.mem_filter.mpr ⟨zz_in3 (List.mem_of_getElem? (i := 17) rfl), rfl⟩
set_option maxRecDepth 20000 in
theorem wd_566 : Cond.instanceMethod yX4_companyOf ∈ zz_TG := List.mem_filter.mpr ⟨zz_in3 (List.mem_of_getElem? (i := 18) rfl), rfl⟩
set_option maxRecDepth 20000 in
theorem wd_567 : Cond.selects "NeverTogether$Moment" yX4_companyOf yX4_companyOf ∈ zz_TG := List.mem_filter.mpr ⟨zz_in3 (List.mem_of_getElem? (i := 19) rfl), rfl⟩
set_option maxRecDepth 20000 in
theorem wd_568 : Cond.code yX4_companyOf cX4_companyOf 4 (some .int) ∈ zz_TG := List.mem_filter.mpr ⟨zz_in3 (List.mem_of_getElem? (i := 20) rfl), rfl⟩
set_option maxRecDepth 20000 in
theorem wd_569 : Cond.methodLink "NeverTogether$Moment" 30 yX4_doMeet ∈ zz_TG := List.mem_filter.mpr ⟨zz_in3 (List.mem_of_getElem? (i := 21) rfl), rfl⟩
set_option maxRecDepth 20000 in
theorem wd_571 : Cond.instanceMethod yX4_doMeet ∈ zz_TG := List.mem_filter.mpr ⟨zz_in3 (List.mem_of_getElem? (i := 23) rfl), rfl⟩
set_option maxRecDepth 20000 in
theorem wd_572 : Cond.code yX4_doMeet cX4_doMeet 3 (some .boolean) ∈ zz_TG := List.mem_filter.mpr ⟨zz_in3 (List.mem_of_getElem? (i := 24) rfl), rfl⟩
set_option maxRecDepth 20000 in
theorem wd_573 : Cond.methodLink "NeverTogether$Moment" 26 yX4_isSeen ∈ zz_TG := List.mem_filter.mpr ⟨zz_in3 (List.mem_of_getElem? (i := 25) rfl), rfl⟩
set_option maxRecDepth 20000 in
theorem wd_575 : Cond.instanceMethod yX4_isSeen ∈ zz_TG := List.mem_filter.mpr ⟨zz_in3 (List.mem_of_getElem? (i := 27) rfl), rfl⟩
set_option maxRecDepth 20000 in
theorem wd_576 : Cond.code yX4_isSeen cX4_isSeen 2 (some .boolean) ∈ zz_TG := List.mem_filter.mpr ⟨zz_in3 (List.mem_of_getElem? (i := 28) rfl), rfl⟩
set_option maxRecDepth 20000 in
theorem wd_577 : Cond.methodLink "NeverTogether" 162 yX2_idleDays ∈ zz_TG := List.mem_filter.mpr ⟨zz_in3 (List.mem_of_getElem? (i := 29) rfl), rfl⟩
set_option maxRecDepth 20000 in
theorem wd_578 : Cond.instanceMethod yX2_idleDays ∈ zz_TG := List.mem_filter.mpr ⟨zz_in3 (List.mem_of_getElem? (i := 30) rfl), rfl⟩
set_option maxRecDepth 20000 in
theorem wd_579 : Cond.selects "NeverTogether$House" yX2_idleDays yX2_idleDays ∈ zz_TG := List.mem_filter.mpr ⟨zz_in3 (List.mem_of_getElem? (i := 31) rfl), rfl⟩
set_option maxRecDepth 20000 in
theorem wd_580 : Cond.code yX2_idleDays cX2_idleDays 4 (some .int) ∈ zz_TG := List.mem_filter.mpr ⟨zz_in3 (List.mem_of_getElem? (i := 32) rfl), rfl⟩
set_option maxRecDepth 20000 in
theorem wd_581 : Cond.methodLink "NeverTogetherLaw" 65 yX7_heat ∈ zz_TG := List.mem_filter.mpr ⟨zz_in3 (List.mem_of_getElem? (i := 33) rfl), rfl⟩
set_option maxRecDepth 20000 in
theorem wd_582 : Cond.instanceMethod yX7_heat ∈ zz_TG := List.mem_filter.mpr ⟨zz_in3 (List.mem_of_getElem? (i := 34) rfl), rfl⟩
set_option maxRecDepth 20000 in
theorem wd_583 : Cond.selects "NeverTogether" yX7_heat yX7_heat ∈ zz_TG := List.mem_filter.mpr ⟨zz_in3 (List.mem_of_getElem? (i := 35) rfl), rfl⟩
set_option maxRecDepth 20000 in
theorem wd_584 : Cond.code yX7_heat cX7_heat 2 (some .int) ∈ zz_TG := List.mem_filter.mpr ⟨zz_in3 (List.mem_of_getElem? (i := 36) rfl), rfl⟩
set_option maxRecDepth 20000 in
theorem wd_585 : Cond.methodLink "NeverTogether" 165 yX2_heatOf ∈ zz_TG := List.mem_filter.mpr ⟨zz_in3 (List.mem_of_getElem? (i := 37) rfl), rfl⟩
set_option maxRecDepth 20000 in
theorem wd_586 : Cond.methodLink "NeverTogetherLaw" 69 yX7_day ∈ zz_TG := List.mem_filter.mpr ⟨zz_in3 (List.mem_of_getElem? (i := 38) rfl), rfl⟩
set_option maxRecDepth 20000 in
theorem wd_587 : Cond.instanceMethod yX7_day ∈ zz_TG := List.mem_filter.mpr ⟨zz_in3 (List.mem_of_getElem? (i := 39) rfl), rfl⟩
set_option maxRecDepth 20000 in
theorem wd_588 : Cond.selects "NeverTogether" yX7_day yX7_day ∈ zz_TG := List.mem_filter.mpr ⟨zz_in3 (List.mem_of_getElem? (i := 40) rfl), rfl⟩
set_option maxRecDepth 20000 in
theorem wd_589 : Cond.code yX7_day cX7_day 1 (some .int) ∈ zz_TG := List.mem_filter.mpr ⟨zz_in3 (List.mem_of_getElem? (i := 41) rfl), rfl⟩
set_option maxRecDepth 20000 in
theorem wd_590 : Cond.methodLink "NeverTogether" 168 yX2_hasPlaceForDeeds ∈ zz_TG := List.mem_filter.mpr ⟨zz_in3 (List.mem_of_getElem? (i := 42) rfl), rfl⟩
set_option maxRecDepth 20000 in
theorem wd_591 : Cond.instanceMethod yX2_hasPlaceForDeeds ∈ zz_TG := List.mem_filter.mpr ⟨zz_in3 (List.mem_of_getElem? (i := 43) rfl), rfl⟩
set_option maxRecDepth 20000 in
theorem wd_592 : Cond.selects "NeverTogether$House" yX2_hasPlaceForDeeds yX2_hasPlaceForDeeds ∈ zz_TG := List.mem_filter.mpr ⟨zz_in3 (List.mem_of_getElem? (i := 44) rfl), rfl⟩
set_option maxRecDepth 20000 in
theorem wd_593 : Cond.code yX2_hasPlaceForDeeds cX2_hasPlaceForDeeds 2 (some .boolean) ∈ zz_TG := List.mem_filter.mpr ⟨zz_in3 (List.mem_of_getElem? (i := 45) rfl), rfl⟩
set_option maxRecDepth 20000 in
theorem wd_594 : Cond.methodLink "NeverTogether" 171 yX2_passDay ∈ zz_TG := List.mem_filter.mpr ⟨zz_in3 (List.mem_of_getElem? (i := 46) rfl), rfl⟩
set_option maxRecDepth 20000 in
theorem wd_595 : Cond.instanceMethod yX2_passDay ∈ zz_TG := List.mem_filter.mpr ⟨zz_in3 (List.mem_of_getElem? (i := 47) rfl), rfl⟩
set_option maxRecDepth 20000 in
theorem wd_596 : Cond.selects "NeverTogether$House" yX2_passDay yX2_passDay ∈ zz_TG := List.mem_filter.mpr ⟨zz_in3 (List.mem_of_getElem? (i := 48) rfl), rfl⟩
set_option maxRecDepth 20000 in
theorem wd_597 : Cond.code yX2_passDay cX2_passDay 1 none ∈ zz_TG := List.mem_filter.mpr ⟨zz_in3 (List.mem_of_getElem? (i := 49) rfl), rfl⟩
set_option maxRecDepth 20000 in
theorem wd_598 : Cond.methodLink "NeverTogether" 174 yX7_pairsNow ∈ zz_TG := List.mem_filter.mpr ⟨zz_in3 (List.mem_of_getElem? (i := 50) rfl), rfl⟩
set_option maxRecDepth 20000 in
theorem wd_600 : Cond.instanceMethod yX7_pairsNow ∈ zz_TG := List.mem_filter.mpr ⟨zz_in3 (List.mem_of_getElem? (i := 52) rfl), rfl⟩
set_option maxRecDepth 20000 in
theorem wd_601 : Cond.code yX7_pairsNow cX7_pairsNow 1 (some .int) ∈ zz_TG := List.mem_filter.mpr ⟨zz_in3 (List.mem_of_getElem? (i := 53) rfl), rfl⟩
set_option maxRecDepth 20000 in
theorem wd_602 : Cond.methodLink "NeverTogether" 222 yX4_pairs ∈ zz_TG := List.mem_filter.mpr ⟨zz_in3 (List.mem_of_getElem? (i := 54) rfl), rfl⟩
set_option maxRecDepth 20000 in
theorem wd_603 : Cond.instanceMethod yX4_pairs ∈ zz_TG := List.mem_filter.mpr ⟨zz_in3 (List.mem_of_getElem? (i := 55) rfl), rfl⟩
set_option maxRecDepth 20000 in
theorem wd_604 : Cond.selects "NeverTogether$Moment" yX4_pairs yX4_pairs ∈ zz_TG := List.mem_filter.mpr ⟨zz_in3 (List.mem_of_getElem? (i := 56) rfl), rfl⟩
set_option maxRecDepth 20000 in
theorem wd_605 : Cond.code yX4_pairs cX4_pairs 3 (some .int) ∈ zz_TG := List.mem_filter.mpr ⟨zz_in3 (List.mem_of_getElem? (i := 57) rfl), rfl⟩
set_option maxRecDepth 20000 in
theorem wd_606 : Cond.methodLink "NeverTogether$Moment" 34 yX4_companyOf ∈ zz_TG := List.mem_filter.mpr ⟨zz_in3 (List.mem_of_getElem? (i := 58) rfl), rfl⟩
set_option maxRecDepth 20000 in
theorem wd_607 : Cond.methodLink "NeverTogetherLaw" 74 yX7_touch ∈ zz_TG := List.mem_filter.mpr ⟨zz_in3 (List.mem_of_getElem? (i := 59) rfl), rfl⟩
set_option maxRecDepth 20000 in
theorem wd_608 : Cond.instanceMethod yX7_touch ∈ zz_TG := List.mem_filter.mpr ⟨zz_in3 (List.mem_of_getElem? (i := 60) rfl), rfl⟩
set_option maxRecDepth 20000 in
theorem wd_609 : Cond.selects "NeverTogether" yX7_touch yX7_touch ∈ zz_TG := List.mem_filter.mpr ⟨zz_in3 (List.mem_of_getElem? (i := 61) rfl), rfl⟩
set_option maxRecDepth 20000 in
theorem wd_610 : Cond.code yX7_touch cX7_touch 3 (some .int) ∈ zz_TG := List.mem_filter.mpr ⟨zz_in3 (List.mem_of_getElem? (i := 62) rfl), rfl⟩
set_option maxRecDepth 20000 in
theorem wd_611 : Cond.methodLink "NeverTogether" 178 yX2_wasTouched ∈ zz_TG := List.mem_filter.mpr ⟨zz_in3 (List.mem_of_getElem? (i := 63) rfl), rfl⟩
set_option maxRecDepth 20000 in
theorem wd_612 : Cond.methodLink "NeverTogether" 181 yX2_turn ∈ zz_TG := List.mem_filter.mpr ⟨zz_in3 (List.mem_of_getElem? (i := 64) rfl), rfl⟩
set_option maxRecDepth 20000 in
theorem wd_613 : Cond.instanceMethod yX2_turn ∈ zz_TG := List.mem_filter.mpr ⟨zz_in3 (List.mem_of_getElem? (i := 65) rfl), rfl⟩
set_option maxRecDepth 20000 in
theorem wd_614 : Cond.selects "NeverTogether$House" yX2_turn yX2_turn ∈ zz_TG := List.mem_filter.mpr ⟨zz_in3 (List.mem_of_getElem? (i := 66) rfl), rfl⟩
set_option maxRecDepth 20000 in
theorem wd_615 : Cond.code yX2_turn cX2_turn 3 none ∈ zz_TG := List.mem_filter.mpr ⟨zz_in3 (List.mem_of_getElem? (i := 67) rfl), rfl⟩
set_option maxRecDepth 20000 in
theorem wd_616 : Cond.methodLink "NeverTogether" 185 yX2_minuteAfter ∈ zz_TG := List.mem_filter.mpr ⟨zz_in3 (List.mem_of_getElem? (i := 68) rfl), rfl⟩
set_option maxRecDepth 20000 in
theorem wd_617 : Cond.methodLink "NeverTogetherLaw" 78 yX7_undo ∈ zz_TG := List.mem_filter.mpr ⟨zz_in3 (List.mem_of_getElem? (i := 69) rfl), rfl⟩
set_option maxRecDepth 20000 in
theorem wd_618 : Cond.instanceMethod yX7_undo ∈ zz_TG := List.mem_filter.mpr ⟨zz_in3 (List.mem_of_getElem? (i := 70) rfl), rfl⟩
set_option maxRecDepth 20000 in
theorem wd_619 : Cond.selects "NeverTogether" yX7_undo yX7_undo ∈ zz_TG := List.mem_filter.mpr ⟨zz_in3 (List.mem_of_getElem? (i := 71) rfl), rfl⟩
set_option maxRecDepth 20000 in
theorem wd_620 : Cond.code yX7_undo cX7_undo 3 (some .int) ∈ zz_TG := List.mem_filter.mpr ⟨zz_in3 (List.mem_of_getElem? (i := 72) rfl), rfl⟩
set_option maxRecDepth 20000 in
theorem wd_621 : Cond.methodLink "NeverTogether" 191 yX2_goBackTo ∈ zz_TG := List.mem_filter.mpr ⟨zz_in3 (List.mem_of_getElem? (i := 73) rfl), rfl⟩
set_option maxRecDepth 20000 in
theorem wd_622 : Cond.methodLink "NeverTogetherLaw" 82 yX7_keep ∈ zz_TG := List.mem_filter.mpr ⟨zz_in3 (List.mem_of_getElem? (i := 74) rfl), rfl⟩
set_option maxRecDepth 20000 in
theorem wd_623 : Cond.instanceMethod yX7_keep ∈ zz_TG := List.mem_filter.mpr ⟨zz_in3 (List.mem_of_getElem? (i := 75) rfl), rfl⟩
set_option maxRecDepth 20000 in
theorem wd_624 : Cond.selects "NeverTogether" yX7_keep yX7_keep ∈ zz_TG := List.mem_filter.mpr ⟨zz_in3 (List.mem_of_getElem? (i := 76) rfl), rfl⟩
set_option maxRecDepth 20000 in
theorem wd_625 : Cond.code yX7_keep cX7_keep 2 (some .int) ∈ zz_TG := List.mem_filter.mpr ⟨zz_in3 (List.mem_of_getElem? (i := 77) rfl), rfl⟩
set_option maxRecDepth 20000 in
theorem wd_626 : Cond.methodLink "NeverTogether" 194 yX2_keepIn ∈ zz_TG := List.mem_filter.mpr ⟨zz_in3 (List.mem_of_getElem? (i := 78) rfl), rfl⟩
set_option maxRecDepth 20000 in
theorem wd_627 : Cond.instanceMethod yX2_keepIn ∈ zz_TG := List.mem_filter.mpr ⟨zz_in3 (List.mem_of_getElem? (i := 79) rfl), rfl⟩
set_option maxRecDepth 20000 in
theorem wd_628 : Cond.selects "NeverTogether$House" yX2_keepIn yX2_keepIn ∈ zz_TG := List.mem_filter.mpr ⟨zz_in3 (List.mem_of_getElem? (i := 80) rfl), rfl⟩
set_option maxRecDepth 20000 in
theorem wd_629 : Cond.code yX2_keepIn cX2_keepIn 3 none ∈ zz_TG := List.mem_filter.mpr ⟨zz_in3 (List.mem_of_getElem? (i := 81) rfl), rfl⟩
set_option maxRecDepth 20000 in
theorem wd_630 : Cond.methodLink "NeverTogetherLaw" 86 yX7_on ∈ zz_TG := List.mem_filter.mpr ⟨zz_in3 (List.mem_of_getElem? (i := 82) rfl), rfl⟩
set_option maxRecDepth 20000 in
theorem wd_631 : Cond.instanceMethod yX7_on ∈ zz_TG := List.mem_filter.mpr ⟨zz_in3 (List.mem_of_getElem? (i := 83) rfl), rfl⟩
set_option maxRecDepth 20000 in
theorem wd_632 : Cond.selects "NeverTogether" yX7_on yX7_on ∈ zz_TG := List.mem_filter.mpr ⟨zz_in3 (List.mem_of_getElem? (i := 84) rfl), rfl⟩
set_option maxRecDepth 20000 in
theorem wd_633 : Cond.code yX7_on cX7_on 2 (some .int) ∈ zz_TG := List.mem_filter.mpr ⟨zz_in3 (List.mem_of_getElem? (i := 85) rfl), rfl⟩
set_option maxRecDepth 20000 in
theorem wd_634 : Cond.methodLink "NeverTogether" 197 yX2_keptDeeds ∈ zz_TG := List.mem_filter.mpr ⟨zz_in3 (List.mem_of_getElem? (i := 86) rfl), rfl⟩
set_option maxRecDepth 20000 in
theorem wd_635 : Cond.instanceMethod yX2_keptDeeds ∈ zz_TG := List.mem_filter.mpr ⟨zz_in3 (List.mem_of_getElem? (i := 87) rfl), rfl⟩
set_option maxRecDepth 20000 in
theorem wd_636 : Cond.selects "NeverTogether$House" yX2_keptDeeds yX2_keptDeeds ∈ zz_TG := List.mem_filter.mpr ⟨zz_in3 (List.mem_of_getElem? (i := 88) rfl), rfl⟩
set_option maxRecDepth 20000 in
theorem wd_637 : Cond.code yX2_keptDeeds cX2_keptDeeds 2 (some .int) ∈ zz_TG := List.mem_filter.mpr ⟨zz_in3 (List.mem_of_getElem? (i := 89) rfl), rfl⟩
set_option maxRecDepth 20000 in
theorem wd_638 : Cond.methodLink "NeverTogether" 200 yX2_goOnFrom ∈ zz_TG := List.mem_filter.mpr ⟨zz_in3 (List.mem_of_getElem? (i := 90) rfl), rfl⟩
set_option maxRecDepth 20000 in
theorem wd_639 : Cond.instanceMethod yX2_goOnFrom ∈ zz_TG := List.mem_filter.mpr ⟨zz_in3 (List.mem_of_getElem? (i := 91) rfl), rfl⟩
set_option maxRecDepth 20000 in
theorem wd_640 : Cond.selects "NeverTogether$House" yX2_goOnFrom yX2_goOnFrom ∈ zz_TG := List.mem_filter.mpr ⟨zz_in3 (List.mem_of_getElem? (i := 92) rfl), rfl⟩
set_option maxRecDepth 20000 in
theorem wd_641 : Cond.code yX2_goOnFrom cX2_goOnFrom 3 none ∈ zz_TG := List.mem_filter.mpr ⟨zz_in3 (List.mem_of_getElem? (i := 93) rfl), rfl⟩
set_option maxRecDepth 20000 in
theorem wd_642 : Cond.methodLink "NeverTogether$House" 147 yX2_keptDeeds ∈ zz_TG := List.mem_filter.mpr ⟨zz_in3 (List.mem_of_getElem? (i := 94) rfl), rfl⟩
set_option maxRecDepth 20000 in
theorem wd_643 : Cond.methodLink "NeverTogetherLaw" 90 yX7_minute ∈ zz_TG := List.mem_filter.mpr ⟨zz_in3 (List.mem_of_getElem? (i := 95) rfl), rfl⟩
set_option maxRecDepth 20000 in
theorem wd_644 : Cond.instanceMethod yX7_minute ∈ zz_TG := List.mem_filter.mpr ⟨zz_in3 (List.mem_of_getElem? (i := 96) rfl), rfl⟩
set_option maxRecDepth 20000 in
theorem wd_645 : Cond.selects "NeverTogether" yX7_minute yX7_minute ∈ zz_TG := List.mem_filter.mpr ⟨zz_in3 (List.mem_of_getElem? (i := 97) rfl), rfl⟩
set_option maxRecDepth 20000 in
theorem wd_646 : Cond.code yX7_minute cX7_minute 3 (some .int) ∈ zz_TG := List.mem_filter.mpr ⟨zz_in3 (List.mem_of_getElem? (i := 98) rfl), rfl⟩
set_option maxRecDepth 20000 in
theorem wd_647 : Cond.methodLink "NeverTogether" 203 yX7_isFuture ∈ zz_TG := List.mem_filter.mpr ⟨zz_in3 (List.mem_of_getElem? (i := 99) rfl), rfl⟩
set_option maxRecDepth 20000 in
theorem wd_648 : Cond.static yX7_isFuture ∈ zz_TG := List.mem_filter.mpr ⟨zz_in3 (List.mem_of_getElem? (i := 100) rfl), rfl⟩
set_option maxRecDepth 20000 in
theorem wd_649 : Cond.code yX7_isFuture cX7_isFuture 1 (some .boolean) ∈ zz_TG := List.mem_filter.mpr ⟨zz_in3 (List.mem_of_getElem? (i := 101) rfl), rfl⟩
set_option maxRecDepth 20000 in
theorem wd_650 : Cond.methodLink "NeverTogether" 206 yX2_warmthOver ∈ zz_TG := List.mem_filter.mpr ⟨zz_in3 (List.mem_of_getElem? (i := 102) rfl), rfl⟩
set_option maxRecDepth 20000 in
theorem wd_651 : Cond.instanceMethod yX2_warmthOver ∈ zz_TG := List.mem_filter.mpr ⟨zz_in3 (List.mem_of_getElem? (i := 103) rfl), rfl⟩
set_option maxRecDepth 20000 in
theorem wd_652 : Cond.selects "NeverTogether$House" yX2_warmthOver yX2_warmthOver ∈ zz_TG := List.mem_filter.mpr ⟨zz_in3 (List.mem_of_getElem? (i := 104) rfl), rfl⟩
set_option maxRecDepth 20000 in
theorem wd_653 : Cond.code yX2_warmthOver cX2_warmthOver 5 (some .int) ∈ zz_TG := List.mem_filter.mpr ⟨zz_in3 (List.mem_of_getElem? (i := 105) rfl), rfl⟩
set_option maxRecDepth 20000 in
theorem wd_654 : Cond.methodLink "NeverTogetherLaw" 94 yX7_meet ∈ zz_TG := List.mem_filter.mpr ⟨zz_in3 (List.mem_of_getElem? (i := 106) rfl), rfl⟩
set_option maxRecDepth 20000 in
theorem wd_655 : Cond.instanceMethod yX7_meet ∈ zz_TG := List.mem_filter.mpr ⟨zz_in3 (List.mem_of_getElem? (i := 107) rfl), rfl⟩
set_option maxRecDepth 20000 in
theorem wd_656 : Cond.selects "NeverTogether" yX7_meet yX7_meet ∈ zz_TG := List.mem_filter.mpr ⟨zz_in3 (List.mem_of_getElem? (i := 108) rfl), rfl⟩
set_option maxRecDepth 20000 in
theorem wd_657 : Cond.code yX7_meet cX7_meet 5 (some .int) ∈ zz_TG := List.mem_filter.mpr ⟨zz_in3 (List.mem_of_getElem? (i := 109) rfl), rfl⟩
set_option maxRecDepth 20000 in
theorem wd_658 : Cond.methodLink "NeverTogether" 209 yX2_isPair ∈ zz_TG := List.mem_filter.mpr ⟨zz_in3 (List.mem_of_getElem? (i := 110) rfl), rfl⟩
set_option maxRecDepth 20000 in
theorem wd_659 : Cond.instanceMethod yX2_isPair ∈ zz_TG := List.mem_filter.mpr ⟨zz_in3 (List.mem_of_getElem? (i := 111) rfl), rfl⟩
set_option maxRecDepth 20000 in
theorem wd_660 : Cond.selects "NeverTogether$House" yX2_isPair yX2_isPair ∈ zz_TG := List.mem_filter.mpr ⟨zz_in3 (List.mem_of_getElem? (i := 112) rfl), rfl⟩
set_option maxRecDepth 20000 in
theorem wd_661 : Cond.code yX2_isPair cX2_isPair 3 (some .boolean) ∈ zz_TG := List.mem_filter.mpr ⟨zz_in3 (List.mem_of_getElem? (i := 113) rfl), rfl⟩
set_option maxRecDepth 20000 in
theorem wd_662 : Cond.methodLink "NeverTogether" 212 yX2_willMeet ∈ zz_TG := List.mem_filter.mpr ⟨zz_in3 (List.mem_of_getElem? (i := 114) rfl), rfl⟩
set_option maxRecDepth 20000 in
theorem wd_663 : Cond.instanceMethod yX2_willMeet ∈ zz_TG := List.mem_filter.mpr ⟨zz_in3 (List.mem_of_getElem? (i := 115) rfl), rfl⟩
set_option maxRecDepth 20000 in
theorem wd_664 : Cond.selects "NeverTogether$House" yX2_willMeet yX2_willMeet ∈ zz_TG := List.mem_filter.mpr ⟨zz_in3 (List.mem_of_getElem? (i := 116) rfl), rfl⟩
set_option maxRecDepth 20000 in
theorem wd_665 : Cond.code yX2_willMeet cX2_willMeet 5 (some .boolean) ∈ zz_TG := List.mem_filter.mpr ⟨zz_in3 (List.mem_of_getElem? (i := 117) rfl), rfl⟩
set_option maxRecDepth 20000 in
theorem wd_666 : Cond.methodLink "NeverTogether$House" 121 yX2_strikingAfter ∈ zz_TG := List.mem_filter.mpr ⟨zz_in3 (List.mem_of_getElem? (i := 118) rfl), rfl⟩
set_option maxRecDepth 20000 in
theorem wd_667 : Cond.methodLink "NeverTogether" 216 yX2_heatAfter ∈ zz_TG := List.mem_filter.mpr ⟨zz_in3 (List.mem_of_getElem? (i := 119) rfl), rfl⟩
set_option maxRecDepth 20000 in
theorem wd_668 : Cond.methodLink "NeverTogetherLaw" 98 yX7_meets ∈ zz_TG := List.mem_filter.mpr ⟨zz_in3 (List.mem_of_getElem? (i := 120) rfl), rfl⟩
set_option maxRecDepth 20000 in
theorem wd_669 : Cond.instanceMethod yX7_meets ∈ zz_TG := List.mem_filter.mpr ⟨zz_in3 (List.mem_of_getElem? (i := 121) rfl), rfl⟩
set_option maxRecDepth 20000 in
theorem wd_670 : Cond.selects "NeverTogether" yX7_meets yX7_meets ∈ zz_TG := List.mem_filter.mpr ⟨zz_in3 (List.mem_of_getElem? (i := 122) rfl), rfl⟩
set_option maxRecDepth 20000 in
theorem wd_671 : Cond.code yX7_meets cX7_meets 2 (some .int) ∈ zz_TG := List.mem_filter.mpr ⟨zz_in3 (List.mem_of_getElem? (i := 123) rfl), rfl⟩
set_option maxRecDepth 20000 in
theorem wd_672 : Cond.methodLink "NeverTogether" 219 yX4_whoMeets ∈ zz_TG := List.mem_filter.mpr ⟨zz_in3 (List.mem_of_getElem? (i := 124) rfl), rfl⟩
set_option maxRecDepth 20000 in
theorem wd_673 : Cond.instanceMethod yX4_whoMeets ∈ zz_TG := List.mem_filter.mpr ⟨zz_in3 (List.mem_of_getElem? (i := 125) rfl), rfl⟩
set_option maxRecDepth 20000 in
theorem wd_674 : Cond.selects "NeverTogether$Moment" yX4_whoMeets yX4_whoMeets ∈ zz_TG := List.mem_filter.mpr ⟨zz_in3 (List.mem_of_getElem? (i := 126) rfl), rfl⟩
set_option maxRecDepth 20000 in
theorem wd_675 : Cond.code yX4_whoMeets cX4_whoMeets 3 (some .int) ∈ zz_TG := List.mem_filter.mpr ⟨zz_in3 (List.mem_of_getElem? (i := 127) rfl), rfl⟩
set_option maxRecDepth 20000 in
theorem wd_676 : Cond.methodLink "NeverTogetherLaw" 102 yX7_soon ∈ zz_TG := List.mem_filter.mpr ⟨zz_in3 (List.mem_of_getElem? (i := 128) rfl), rfl⟩
set_option maxRecDepth 20000 in
theorem wd_677 : Cond.instanceMethod yX7_soon ∈ zz_TG := List.mem_filter.mpr ⟨zz_in3 (List.mem_of_getElem? (i := 129) rfl), rfl⟩
set_option maxRecDepth 20000 in
theorem wd_678 : Cond.selects "NeverTogether" yX7_soon yX7_soon ∈ zz_TG := List.mem_filter.mpr ⟨zz_in3 (List.mem_of_getElem? (i := 130) rfl), rfl⟩
set_option maxRecDepth 20000 in
theorem wd_679 : Cond.code yX7_soon cX7_soon 3 (some .int) ∈ zz_TG := List.mem_filter.mpr ⟨zz_in3 (List.mem_of_getElem? (i := 131) rfl), rfl⟩
set_option maxRecDepth 20000 in
theorem wd_680 : Cond.methodLink "NeverTogether" 225 yX4_anyMeet ∈ zz_TG := List.mem_filter.mpr ⟨zz_in3 (List.mem_of_getElem? (i := 132) rfl), rfl⟩
set_option maxRecDepth 20000 in
theorem wd_681 : Cond.instanceMethod yX4_anyMeet ∈ zz_TG := List.mem_filter.mpr ⟨zz_in3 (List.mem_of_getElem? (i := 133) rfl), rfl⟩
set_option maxRecDepth 20000 in
theorem wd_682 : Cond.selects "NeverTogether$Moment" yX4_anyMeet yX4_anyMeet ∈ zz_TG := List.mem_filter.mpr ⟨zz_in3 (List.mem_of_getElem? (i := 134) rfl), rfl⟩
set_option maxRecDepth 20000 in
theorem wd_683 : Cond.code yX4_anyMeet cX4_anyMeet 4 (some .boolean) ∈ zz_TG := List.mem_filter.mpr ⟨zz_in3 (List.mem_of_getElem? (i := 135) rfl), rfl⟩
set_option maxRecDepth 20000 in
theorem wd_684 : Cond.methodLink "NeverTogether" 229 yX4_leastPair ∈ zz_TG := List.mem_filter.mpr ⟨zz_in3 (List.mem_of_getElem? (i := 136) rfl), rfl⟩
set_option maxRecDepth 20000 in
theorem wd_685 : Cond.instanceMethod yX4_leastPair ∈ zz_TG := List.mem_filter.mpr ⟨zz_in3 (List.mem_of_getElem? (i := 137) rfl), rfl⟩
set_option maxRecDepth 20000 in
theorem wd_686 : Cond.selects "NeverTogether$Moment" yX4_leastPair yX4_leastPair ∈ zz_TG := List.mem_filter.mpr ⟨zz_in3 (List.mem_of_getElem? (i := 138) rfl), rfl⟩
set_option maxRecDepth 20000 in
theorem wd_687 : Cond.code yX4_leastPair cX4_leastPair 3 (some .int) ∈ zz_TG := List.mem_filter.mpr ⟨zz_in3 (List.mem_of_getElem? (i := 139) rfl), rfl⟩
set_option maxRecDepth 20000 in
theorem wd_688 : Cond.methodLink "NeverTogetherLaw" 106 yX7_often ∈ zz_TG := List.mem_filter.mpr ⟨zz_in3 (List.mem_of_getElem? (i := 140) rfl), rfl⟩
set_option maxRecDepth 20000 in
theorem wd_689 : Cond.instanceMethod yX7_often ∈ zz_TG := List.mem_filter.mpr ⟨zz_in3 (List.mem_of_getElem? (i := 141) rfl), rfl⟩
set_option maxRecDepth 20000 in
theorem wd_690 : Cond.selects "NeverTogether" yX7_often yX7_often ∈ zz_TG := List.mem_filter.mpr ⟨zz_in3 (List.mem_of_getElem? (i := 142) rfl), rfl⟩
set_option maxRecDepth 20000 in
theorem wd_691 : Cond.code yX7_often cX7_often 7 (some .int) ∈ zz_TG := List.mem_filter.mpr ⟨zz_in3 (List.mem_of_getElem? (i := 143) rfl), rfl⟩
set_option maxRecDepth 20000 in
theorem wd_692 : Cond.methodLink "NeverTogetherLaw" 110 yX7_sounds ∈ zz_TG := List.mem_filter.mpr ⟨zz_in3 (List.mem_of_getElem? (i := 144) rfl), rfl⟩
set_option maxRecDepth 20000 in
theorem wd_693 : Cond.instanceMethod yX7_sounds ∈ zz_TG := List.mem_filter.mpr ⟨zz_in3 (List.mem_of_getElem? (i := 145) rfl), rfl⟩
set_option maxRecDepth 20000 in
theorem wd_694 : Cond.selects "NeverTogether" yX7_sounds yX7_sounds ∈ zz_TG := List.mem_filter.mpr ⟨zz_in3 (List.mem_of_getElem? (i := 146) rfl), rfl⟩
set_option maxRecDepth 20000 in
theorem wd_695 : Cond.code yX7_sounds cX7_sounds 2 (some .int) ∈ zz_TG := List.mem_filter.mpr ⟨zz_in3 (List.mem_of_getElem? (i := 147) rfl), rfl⟩
set_option maxRecDepth 20000 in
theorem wd_696 : Cond.methodLink "NeverTogether" 232 yX4_sounding ∈ zz_TG := List.mem_filter.mpr ⟨zz_in3 (List.mem_of_getElem? (i := 148) rfl), rfl⟩
set_option maxRecDepth 20000 in
theorem wd_697 : Cond.instanceMethod yX4_sounding ∈ zz_TG := List.mem_filter.mpr ⟨zz_in3 (List.mem_of_getElem? (i := 149) rfl), rfl⟩
set_option maxRecDepth 20000 in
theorem wd_698 : Cond.selects "NeverTogether$Moment" yX4_sounding yX4_sounding ∈ zz_TG := List.mem_filter.mpr ⟨zz_in3 (List.mem_of_getElem? (i := 150) rfl), rfl⟩
set_option maxRecDepth 20000 in
theorem wd_699 : Cond.code yX4_sounding cX4_sounding 4 (some .long) ∈ zz_TG := List.mem_filter.mpr ⟨zz_in3 (List.mem_of_getElem? (i := 151) rfl), rfl⟩
set_option maxRecDepth 20000 in
theorem wd_700 : Cond.methodLink "NeverTogether" 236 yJ13_bitCount_95d88 ∈ zz_TG := List.mem_filter.mpr ⟨zz_in3 (List.mem_of_getElem? (i := 152) rfl), rfl⟩
set_option maxRecDepth 20000 in
theorem wd_701 : Cond.static yJ13_bitCount_95d88 ∈ zz_TG := List.mem_filter.mpr ⟨zz_in3 (List.mem_of_getElem? (i := 153) rfl), rfl⟩
set_option maxRecDepth 20000 in
theorem wd_702 : Cond.code yJ13_bitCount_95d88 cJ13_bitCount_95d88 2 (some .int) ∈ zz_TG := List.mem_filter.mpr ⟨zz_in3 (List.mem_of_getElem? (i := 154) rfl), rfl⟩
set_option maxRecDepth 20000 in
theorem wd_703 : Jvm.Cond.constantLong "java/lang/Long" 314 6148914691236517205 ∈ zz_TG := List.mem_filter.mpr ⟨zz_in3 (List.mem_of_getElem? (i := 155) rfl), rfl⟩
set_option maxRecDepth 20000 in
theorem wd_704 : Jvm.Cond.constantLong "java/lang/Long" 316 3689348814741910323 ∈ zz_TG := List.mem_filter.mpr ⟨zz_in3 (List.mem_of_getElem? (i := 156) rfl), rfl⟩
set_option maxRecDepth 20000 in
theorem wd_705 : Jvm.Cond.constantLong "java/lang/Long" 318 1085102592571150095 ∈ zz_TG := List.mem_filter.mpr ⟨zz_in3 (List.mem_of_getElem? (i := 157) rfl), rfl⟩
set_option maxRecDepth 20000 in
theorem wd_706 : Cond.methodLink "NeverTogetherLaw" 114 yX7_room ∈ zz_TG := List.mem_filter.mpr ⟨zz_in3 (List.mem_of_getElem? (i := 158) rfl), rfl⟩
set_option maxRecDepth 20000 in
theorem wd_707 : Cond.instanceMethod yX7_room ∈ zz_TG := List.mem_filter.mpr ⟨zz_in3 (List.mem_of_getElem? (i := 159) rfl), rfl⟩
set_option maxRecDepth 20000 in
theorem wd_708 : Cond.selects "NeverTogether" yX7_room yX7_room ∈ zz_TG := List.mem_filter.mpr ⟨zz_in3 (List.mem_of_getElem? (i := 160) rfl), rfl⟩
set_option maxRecDepth 20000 in
theorem wd_709 : Cond.code yX7_room cX7_room 8 (some .int) ∈ zz_TG := List.mem_filter.mpr ⟨zz_in3 (List.mem_of_getElem? (i := 161) rfl), rfl⟩
set_option maxRecDepth 20000 in
theorem wd_710 : Jvm.Cond.constantLong "NeverTogether" 244 (-1) ∈ zz_TG := List.mem_filter.mpr ⟨zz_in3 (List.mem_of_getElem? (i := 162) rfl), rfl⟩
set_option maxRecDepth 20000 in
theorem wd_711 : Cond.methodLink "NeverTogether" 246 yX7_run ∈ zz_TG := List.mem_filter.mpr ⟨zz_in3 (List.mem_of_getElem? (i := 163) rfl), rfl⟩
set_option maxRecDepth 20000 in
theorem wd_712 : Cond.methodLink "NeverTogetherLaw" 118 yX7_right ∈ zz_TG := List.mem_filter.mpr ⟨zz_in3 (List.mem_of_getElem? (i := 164) rfl), rfl⟩
set_option maxRecDepth 20000 in
theorem wd_713 : Cond.instanceMethod yX7_right ∈ zz_TG := List.mem_filter.mpr ⟨zz_in3 (List.mem_of_getElem? (i := 165) rfl), rfl⟩
set_option maxRecDepth 20000 in
theorem wd_714 : Cond.selects "NeverTogether" yX7_right yX7_right ∈ zz_TG := List.mem_filter.mpr ⟨zz_in3 (List.mem_of_getElem? (i := 166) rfl), rfl⟩
set_option maxRecDepth 20000 in
theorem wd_715 : Cond.code yX7_right cX7_right 7 (some .int) ∈ zz_TG := List.mem_filter.mpr ⟨zz_in3 (List.mem_of_getElem? (i := 167) rfl), rfl⟩
set_option maxRecDepth 20000 in
theorem wd_716 : Cond.methodLink "NeverTogether" 250 yX7_isMinute ∈ zz_TG := List.mem_filter.mpr ⟨zz_in3 (List.mem_of_getElem? (i := 168) rfl), rfl⟩
set_option maxRecDepth 20000 in
theorem wd_717 : Cond.static yX7_isMinute ∈ zz_TG := List.mem_filter.mpr ⟨zz_in3 (List.mem_of_getElem? (i := 169) rfl), rfl⟩
set_option maxRecDepth 20000 in
theorem wd_718 : Cond.code yX7_isMinute cX7_isMinute 1 (some .boolean) ∈ zz_TG := List.mem_filter.mpr ⟨zz_in3 (List.mem_of_getElem? (i := 170) rfl), rfl⟩
set_option maxRecDepth 20000 in
theorem wd_719 : Cond.methodLink "NeverTogetherLaw" 122 yX7_apart ∈ zz_TG := List.mem_filter.mpr ⟨zz_in3 (List.mem_of_getElem? (i := 171) rfl), rfl⟩
set_option maxRecDepth 20000 in
theorem wd_720 : Cond.instanceMethod yX7_apart ∈ zz_TG := List.mem_filter.mpr ⟨zz_in3 (List.mem_of_getElem? (i := 172) rfl), rfl⟩
set_option maxRecDepth 20000 in
theorem wd_721 : Cond.selects "NeverTogether" yX7_apart yX7_apart ∈ zz_TG := List.mem_filter.mpr ⟨zz_in3 (List.mem_of_getElem? (i := 173) rfl), rfl⟩
set_option maxRecDepth 20000 in
theorem wd_722 : Cond.code yX7_apart cX7_apart 4 (some .int) ∈ zz_TG := List.mem_filter.mpr ⟨zz_in3 (List.mem_of_getElem? (i := 174) rfl), rfl⟩
set_option maxRecDepth 20000 in
theorem wd_723 : Cond.methodLink "NeverTogether" 253 yX3_look ∈ zz_TG := List.mem_filter.mpr ⟨zz_in3 (List.mem_of_getElem? (i := 175) rfl), rfl⟩
set_option maxRecDepth 20000 in
theorem wd_724 : Cond.instanceMethod yX3_look ∈ zz_TG := List.mem_filter.mpr ⟨zz_in3 (List.mem_of_getElem? (i := 176) rfl), rfl⟩
set_option maxRecDepth 20000 in
theorem wd_725 : Cond.selects "NeverTogether$Keeper" yX3_look yX3_look ∈ zz_TG := List.mem_filter.mpr ⟨zz_in3 (List.mem_of_getElem? (i := 177) rfl), rfl⟩
set_option maxRecDepth 20000 in
theorem wd_726 : Cond.code yX3_look cX3_look 6 none ∈ zz_TG := List.mem_filter.mpr ⟨zz_in3 (List.mem_of_getElem? (i := 178) rfl), rfl⟩
set_option maxRecDepth 20000 in
theorem wd_727 : Cond.methodLink "NeverTogether$Keeper" 37 Lib.Math.min.name ∈ zz_TG := List.mem_filter.mpr ⟨zz_in3 (List.mem_of_getElem? (i := 179) rfl), rfl⟩
set_option maxRecDepth 20000 in
theorem wd_728 : Cond.static Lib.Math.min.name ∈ zz_TG := List.mem_filter.mpr ⟨zz_in3 (List.mem_of_getElem? (i := 180) rfl), rfl⟩
set_option maxRecDepth 20000 in
theorem wd_729 : Cond.code Lib.Math.min.name Lib.Math.min.code 2 (some .int) ∈ zz_TG := List.mem_filter.mpr ⟨zz_in3 (List.mem_of_getElem? (i := 181) rfl), rfl⟩
set_option maxRecDepth 20000 in
theorem wd_730 : Cond.methodLink "NeverTogether$Keeper" 44 yX3_noteGaps ∈ zz_TG := List.mem_filter.mpr ⟨zz_in3 (List.mem_of_getElem? (i := 182) rfl), rfl⟩
set_option maxRecDepth 20000 in
theorem wd_732 : Cond.instanceMethod yX3_noteGaps ∈ zz_TG := List.mem_filter.mpr ⟨zz_in3 (List.mem_of_getElem? (i := 184) rfl), rfl⟩
set_option maxRecDepth 20000 in
theorem wd_733 : Cond.code yX3_noteGaps cX3_noteGaps 6 none ∈ zz_TG := List.mem_filter.mpr ⟨zz_in3 (List.mem_of_getElem? (i := 185) rfl), rfl⟩
set_option maxRecDepth 20000 in
theorem wd_734 : Cond.methodLink "NeverTogether$Keeper" 62 yX2_minuteAfter ∈ zz_TG := List.mem_filter.mpr ⟨zz_in3 (List.mem_of_getElem? (i := 186) rfl), rfl⟩
set_option maxRecDepth 20000 in
theorem wd_736 : Cond.methodLink "NeverTogether$Keeper" 48 yX2_heatAfter ∈ zz_TG := List.mem_filter.mpr ⟨zz_in3 (List.mem_of_getElem? (i := 188) rfl), rfl⟩
set_option maxRecDepth 20000 in
theorem wd_737 : Cond.methodLink "NeverTogether$Keeper" 52 yX2_floorOf ∈ zz_TG := List.mem_filter.mpr ⟨zz_in3 (List.mem_of_getElem? (i := 189) rfl), rfl⟩
set_option maxRecDepth 20000 in
theorem wd_738 : Cond.methodLink "NeverTogether$Keeper" 55 yX2_strikesOf ∈ zz_TG := List.mem_filter.mpr ⟨zz_in3 (List.mem_of_getElem? (i := 190) rfl), rfl⟩
set_option maxRecDepth 20000 in
theorem wd_739 : Cond.methodLink "NeverTogether$Keeper" 58 yX3_barredShifts ∈ zz_TG := List.mem_filter.mpr ⟨zz_in3 (List.mem_of_getElem? (i := 191) rfl), rfl⟩
set_option maxRecDepth 20000 in
theorem wd_740 : Cond.static yX3_barredShifts ∈ zz_TG := List.mem_filter.mpr ⟨zz_in3 (List.mem_of_getElem? (i := 192) rfl), rfl⟩
set_option maxRecDepth 20000 in
theorem wd_741 : Cond.code yX3_barredShifts cX3_barredShifts 8 (some .int) ∈ zz_TG := List.mem_filter.mpr ⟨zz_in3 (List.mem_of_getElem? (i := 193) rfl), rfl⟩
set_option maxRecDepth 20000 in
theorem wd_744 : Cond.methodLink "NeverTogether" 257 yX3_findTouches ∈ zz_TG := List.mem_filter.mpr ⟨zz_in3 (List.mem_of_getElem? (i := 196) rfl), rfl⟩
set_option maxRecDepth 20000 in
theorem wd_745 : Cond.instanceMethod yX3_findTouches ∈ zz_TG := List.mem_filter.mpr ⟨zz_in3 (List.mem_of_getElem? (i := 197) rfl), rfl⟩
set_option maxRecDepth 20000 in
theorem wd_746 : Cond.selects "NeverTogether$Keeper" yX3_findTouches yX3_findTouches ∈ zz_TG := List.mem_filter.mpr ⟨zz_in3 (List.mem_of_getElem? (i := 198) rfl), rfl⟩
set_option maxRecDepth 20000 in
theorem wd_747 : Cond.code yX3_findTouches cX3_findTouches 2 (some .boolean) ∈ zz_TG := List.mem_filter.mpr ⟨zz_in3 (List.mem_of_getElem? (i := 199) rfl), rfl⟩
set_option maxRecDepth 20000 in
theorem wd_748 : Jvm.Cond.constant "NeverTogether$Keeper" 94 1073741824 ∈ zz_TG := List.mem_filter.mpr ⟨zz_in3 (List.mem_of_getElem? (i := 200) rfl), rfl⟩
set_option maxRecDepth 20000 in
theorem wd_749 : Cond.methodLink "NeverTogether$Keeper" 98 yX3_doomedPairs ∈ zz_TG := List.mem_filter.mpr ⟨zz_in3 (List.mem_of_getElem? (i := 201) rfl), rfl⟩
set_option maxRecDepth 20000 in
theorem wd_750 : Cond.instanceMethod yX3_doomedPairs ∈ zz_TG := List.mem_filter.mpr ⟨zz_in3 (List.mem_of_getElem? (i := 202) rfl), rfl⟩
set_option maxRecDepth 20000 in
theorem wd_751 : Cond.selects "NeverTogether$Keeper" yX3_doomedPairs yX3_doomedPairs ∈ zz_TG := List.mem_filter.mpr ⟨zz_in3 (List.mem_of_getElem? (i := 203) rfl), rfl⟩
set_option maxRecDepth 20000 in
theorem wd_752 : Cond.code yX3_doomedPairs cX3_doomedPairs 3 (some .int) ∈ zz_TG := List.mem_filter.mpr ⟨zz_in3 (List.mem_of_getElem? (i := 204) rfl), rfl⟩
set_option maxRecDepth 20000 in
theorem wd_753 : Cond.methodLink "NeverTogether$Keeper" 102 yX3_search ∈ zz_TG := List.mem_filter.mpr ⟨zz_in3 (List.mem_of_getElem? (i := 205) rfl), rfl⟩
set_option maxRecDepth 20000 in
theorem wd_755 : Cond.instanceMethod yX3_search ∈ zz_TG := List.mem_filter.mpr ⟨zz_in3 (List.mem_of_getElem? (i := 207) rfl), rfl⟩
set_option maxRecDepth 20000 in
theorem wd_756 : Cond.code yX3_search cX3_search 4 none ∈ zz_TG := List.mem_filter.mpr ⟨zz_in3 (List.mem_of_getElem? (i := 208) rfl), rfl⟩
set_option maxRecDepth 20000 in
theorem wd_757 : Cond.methodLink "NeverTogether$Keeper" 106 yX3_fits ∈ zz_TG := List.mem_filter.mpr ⟨zz_in3 (List.mem_of_getElem? (i := 209) rfl), rfl⟩
set_option maxRecDepth 20000 in
theorem wd_759 : Cond.instanceMethod yX3_fits ∈ zz_TG := List.mem_filter.mpr ⟨zz_in3 (List.mem_of_getElem? (i := 211) rfl), rfl⟩
set_option maxRecDepth 20000 in
theorem wd_760 : Cond.code yX3_fits cX3_fits 4 (some .boolean) ∈ zz_TG := List.mem_filter.mpr ⟨zz_in3 (List.mem_of_getElem? (i := 212) rfl), rfl⟩
set_option maxRecDepth 20000 in
theorem wd_761 : Cond.methodLink "NeverTogether$Keeper" 86 yX3_meetBy ∈ zz_TG := List.mem_filter.mpr ⟨zz_in3 (List.mem_of_getElem? (i := 213) rfl), rfl⟩
set_option maxRecDepth 20000 in
theorem wd_763 : Cond.instanceMethod yX3_meetBy ∈ zz_TG := List.mem_filter.mpr ⟨zz_in3 (List.mem_of_getElem? (i := 215) rfl), rfl⟩
set_option maxRecDepth 20000 in
theorem wd_764 : Cond.code yX3_meetBy cX3_meetBy 5 (some .boolean) ∈ zz_TG := List.mem_filter.mpr ⟨zz_in3 (List.mem_of_getElem? (i := 216) rfl), rfl⟩
set_option maxRecDepth 20000 in
theorem wd_765 : Cond.methodLink "NeverTogether$Keeper" 110 yX3_costWith ∈ zz_TG := List.mem_filter.mpr ⟨zz_in3 (List.mem_of_getElem? (i := 217) rfl), rfl⟩
set_option maxRecDepth 20000 in
theorem wd_767 : Cond.instanceMethod yX3_costWith ∈ zz_TG := List.mem_filter.mpr ⟨zz_in3 (List.mem_of_getElem? (i := 219) rfl), rfl⟩
set_option maxRecDepth 20000 in
theorem wd_768 : Cond.code yX3_costWith cX3_costWith 4 (some .int) ∈ zz_TG := List.mem_filter.mpr ⟨zz_in3 (List.mem_of_getElem? (i := 220) rfl), rfl⟩
set_option maxRecDepth 20000 in
theorem wd_769 : Cond.methodLink "NeverTogether$Keeper" 113 Lib.Math.max.name ∈ zz_TG := List.mem_filter.mpr ⟨zz_in3 (List.mem_of_getElem? (i := 221) rfl), rfl⟩
set_option maxRecDepth 20000 in
theorem wd_770 : Cond.static Lib.Math.max.name ∈ zz_TG := List.mem_filter.mpr ⟨zz_in3 (List.mem_of_getElem? (i := 222) rfl), rfl⟩
set_option maxRecDepth 20000 in
theorem wd_771 : Cond.code Lib.Math.max.name Lib.Math.max.code 2 (some .int) ∈ zz_TG := List.mem_filter.mpr ⟨zz_in3 (List.mem_of_getElem? (i := 223) rfl), rfl⟩
set_option maxRecDepth 20000 in
theorem wd_772 : Cond.methodLink "NeverTogether" 261 yX3_bestTouch ∈ zz_TG := List.mem_filter.mpr ⟨zz_in3 (List.mem_of_getElem? (i := 224) rfl), rfl⟩
set_option maxRecDepth 20000 in
theorem wd_773 : Cond.instanceMethod yX3_bestTouch ∈ zz_TG := List.mem_filter.mpr ⟨zz_in3 (List.mem_of_getElem? (i := 225) rfl), rfl⟩
set_option maxRecDepth 20000 in
theorem wd_774 : Cond.selects "NeverTogether$Keeper" yX3_bestTouch yX3_bestTouch ∈ zz_TG := List.mem_filter.mpr ⟨zz_in3 (List.mem_of_getElem? (i := 226) rfl), rfl⟩
set_option maxRecDepth 20000 in
theorem wd_775 : Cond.code yX3_bestTouch cX3_bestTouch 2 (some .int) ∈ zz_TG := List.mem_filter.mpr ⟨zz_in3 (List.mem_of_getElem? (i := 227) rfl), rfl⟩
set_option maxRecDepth 20000 in
theorem wd_776 : Cond.methodLink "NeverTogether" 264 yX3_bestTouched ∈ zz_TG := List.mem_filter.mpr ⟨zz_in3 (List.mem_of_getElem? (i := 228) rfl), rfl⟩
set_option maxRecDepth 20000 in
theorem wd_777 : Cond.instanceMethod yX3_bestTouched ∈ zz_TG := List.mem_filter.mpr ⟨zz_in3 (List.mem_of_getElem? (i := 229) rfl), rfl⟩
set_option maxRecDepth 20000 in
theorem wd_778 : Cond.selects "NeverTogether$Keeper" yX3_bestTouched yX3_bestTouched ∈ zz_TG := List.mem_filter.mpr ⟨zz_in3 (List.mem_of_getElem? (i := 230) rfl), rfl⟩
set_option maxRecDepth 20000 in
theorem wd_779 : Cond.code yX3_bestTouched cX3_bestTouched 1 (some .int) ∈ zz_TG := List.mem_filter.mpr ⟨zz_in3 (List.mem_of_getElem? (i := 231) rfl), rfl⟩
set_option maxRecDepth 20000 in
theorem wd_780 : Cond.methodLink "NeverTogetherLaw" 126 yX7_stairs ∈ zz_TG := List.mem_filter.mpr ⟨zz_in3 (List.mem_of_getElem? (i := 232) rfl), rfl⟩
set_option maxRecDepth 20000 in
theorem wd_781 : Cond.instanceMethod yX7_stairs ∈ zz_TG := List.mem_filter.mpr ⟨zz_in3 (List.mem_of_getElem? (i := 233) rfl), rfl⟩
set_option maxRecDepth 20000 in
theorem wd_782 : Cond.selects "NeverTogether" yX7_stairs yX7_stairs ∈ zz_TG := List.mem_filter.mpr ⟨zz_in3 (List.mem_of_getElem? (i := 234) rfl), rfl⟩
set_option maxRecDepth 20000 in
theorem wd_783 : Cond.code yX7_stairs cX7_stairs 2 (some .int) ∈ zz_TG := List.mem_filter.mpr ⟨zz_in3 (List.mem_of_getElem? (i := 235) rfl), rfl⟩
set_option maxRecDepth 20000 in
theorem wd_784 : Cond.methodLink "NeverTogether" 267 yX3_bestSet ∈ zz_TG := List.mem_filter.mpr ⟨zz_in3 (List.mem_of_getElem? (i := 236) rfl), rfl⟩
set_option maxRecDepth 20000 in
theorem wd_785 : Cond.instanceMethod yX3_bestSet ∈ zz_TG := List.mem_filter.mpr ⟨zz_in3 (List.mem_of_getElem? (i := 237) rfl), rfl⟩
set_option maxRecDepth 20000 in
theorem wd_786 : Cond.selects "NeverTogether$Keeper" yX3_bestSet yX3_bestSet ∈ zz_TG := List.mem_filter.mpr ⟨zz_in3 (List.mem_of_getElem? (i := 238) rfl), rfl⟩
set_option maxRecDepth 20000 in
theorem wd_787 : Cond.code yX3_bestSet cX3_bestSet 1 (some .int) ∈ zz_TG := List.mem_filter.mpr ⟨zz_in3 (List.mem_of_getElem? (i := 239) rfl), rfl⟩
set_option maxRecDepth 20000 in
theorem wd_788 : Cond.methodLink "NeverTogether" 270 yX3_bestStairs ∈ zz_TG := List.mem_filter.mpr ⟨zz_in4 (List.mem_of_getElem? (i := 0) rfl), rfl⟩
set_option maxRecDepth 20000 in
theorem wd_789 : Cond.instanceMethod yX3_bestStairs ∈ zz_TG := List.mem_filter.mpr ⟨zz_in4 (List.mem_of_getElem? (i := 1) rfl), rfl⟩
set_option maxRecDepth 20000 in
theorem wd_790 : Cond.selects "NeverTogether$Keeper" yX3_bestStairs yX3_bestStairs ∈ zz_TG := List.mem_filter.mpr ⟨zz_in4 (List.mem_of_getElem? (i := 2) rfl), rfl⟩
set_option maxRecDepth 20000 in
theorem wd_791 : Cond.code yX3_bestStairs cX3_bestStairs 1 (some .int) ∈ zz_TG := List.mem_filter.mpr ⟨zz_in4 (List.mem_of_getElem? (i := 3) rfl), rfl⟩
set_option maxRecDepth 20000 in
theorem wd_792 : Cond.methodLink "NeverTogetherLaw" 130 yX7_doomed ∈ zz_TG := List.mem_filter.mpr ⟨zz_in4 (List.mem_of_getElem? (i := 4) rfl), rfl⟩
set_option maxRecDepth 20000 in
theorem wd_793 : Cond.instanceMethod yX7_doomed ∈ zz_TG := List.mem_filter.mpr ⟨zz_in4 (List.mem_of_getElem? (i := 5) rfl), rfl⟩
set_option maxRecDepth 20000 in
theorem wd_794 : Cond.selects "NeverTogether" yX7_doomed yX7_doomed ∈ zz_TG := List.mem_filter.mpr ⟨zz_in4 (List.mem_of_getElem? (i := 6) rfl), rfl⟩
set_option maxRecDepth 20000 in
theorem wd_795 : Cond.code yX7_doomed cX7_doomed 2 (some .int) ∈ zz_TG := List.mem_filter.mpr ⟨zz_in4 (List.mem_of_getElem? (i := 7) rfl), rfl⟩
set_option maxRecDepth 20000 in
theorem wd_796 : Cond.methodLink "NeverTogether" 273 yX3_leastDoomed ∈ zz_TG := List.mem_filter.mpr ⟨zz_in4 (List.mem_of_getElem? (i := 8) rfl), rfl⟩
set_option maxRecDepth 20000 in
theorem wd_797 : Cond.instanceMethod yX3_leastDoomed ∈ zz_TG := List.mem_filter.mpr ⟨zz_in4 (List.mem_of_getElem? (i := 9) rfl), rfl⟩
set_option maxRecDepth 20000 in
theorem wd_798 : Cond.selects "NeverTogether$Keeper" yX3_leastDoomed yX3_leastDoomed ∈ zz_TG := List.mem_filter.mpr ⟨zz_in4 (List.mem_of_getElem? (i := 10) rfl), rfl⟩
set_option maxRecDepth 20000 in
theorem wd_799 : Cond.code yX3_leastDoomed cX3_leastDoomed 2 (some .int) ∈ zz_TG := List.mem_filter.mpr ⟨zz_in4 (List.mem_of_getElem? (i := 11) rfl), rfl⟩
set_option maxRecDepth 20000 in
theorem wd_800 : Cond.methodLink "NeverTogether" 276 yX3_doomedPairs ∈ zz_TG := List.mem_filter.mpr ⟨zz_in4 (List.mem_of_getElem? (i := 12) rfl), rfl⟩
set_option maxRecDepth 20000 in
theorem wd_801 : Cond.methodLink "NeverTogetherLaw" 134 yX7_out ∈ zz_TG := List.mem_filter.mpr ⟨zz_in4 (List.mem_of_getElem? (i := 13) rfl), rfl⟩
set_option maxRecDepth 20000 in
theorem wd_802 : Cond.instanceMethod yX7_out ∈ zz_TG := List.mem_filter.mpr ⟨zz_in4 (List.mem_of_getElem? (i := 14) rfl), rfl⟩
set_option maxRecDepth 20000 in
theorem wd_803 : Cond.selects "NeverTogether" yX7_out yX7_out ∈ zz_TG := List.mem_filter.mpr ⟨zz_in4 (List.mem_of_getElem? (i := 15) rfl), rfl⟩
set_option maxRecDepth 20000 in
theorem wd_804 : Cond.code yX7_out cX7_out 2 (some .int) ∈ zz_TG := List.mem_filter.mpr ⟨zz_in4 (List.mem_of_getElem? (i := 16) rfl), rfl⟩
set_option maxRecDepth 20000 in
theorem wd_805 : Cond.methodLink "NeverTogether" 279 yX3_fewestOut ∈ zz_TG := List.mem_filter.mpr ⟨zz_in4 (List.mem_of_getElem? (i := 17) rfl), rfl⟩
set_option maxRecDepth 20000 in
theorem wd_806 : Cond.instanceMethod yX3_fewestOut ∈ zz_TG := List.mem_filter.mpr ⟨zz_in4 (List.mem_of_getElem? (i := 18) rfl), rfl⟩
set_option maxRecDepth 20000 in
theorem wd_807 : Cond.selects "NeverTogether$Keeper" yX3_fewestOut yX3_fewestOut ∈ zz_TG := List.mem_filter.mpr ⟨zz_in4 (List.mem_of_getElem? (i := 19) rfl), rfl⟩
set_option maxRecDepth 20000 in
theorem wd_808 : Cond.code yX3_fewestOut cX3_fewestOut 3 (some .int) ∈ zz_TG := List.mem_filter.mpr ⟨zz_in4 (List.mem_of_getElem? (i := 20) rfl), rfl⟩
set_option maxRecDepth 20000 in
theorem wd_809 : Cond.methodLink "NeverTogether$Keeper" 77 yJ6_bitCount_0f7a4 ∈ zz_TG := List.mem_filter.mpr ⟨zz_in4 (List.mem_of_getElem? (i := 21) rfl), rfl⟩
set_option maxRecDepth 20000 in
theorem wd_810 : Cond.methodLink "NeverTogether$Keeper" 82 yX3_agreeWithout ∈ zz_TG := List.mem_filter.mpr ⟨zz_in4 (List.mem_of_getElem? (i := 22) rfl), rfl⟩
set_option maxRecDepth 20000 in
theorem wd_812 : Cond.instanceMethod yX3_agreeWithout ∈ zz_TG := List.mem_filter.mpr ⟨zz_in4 (List.mem_of_getElem? (i := 24) rfl), rfl⟩
set_option maxRecDepth 20000 in
theorem wd_813 : Cond.code yX3_agreeWithout cX3_agreeWithout 4 (some .boolean) ∈ zz_TG := List.mem_filter.mpr ⟨zz_in4 (List.mem_of_getElem? (i := 25) rfl), rfl⟩
set_option maxRecDepth 20000 in
theorem wd_814 : Cond.methodLink "NeverTogether" 282 yJ6_bitCount_0f7a4 ∈ zz_TG := List.mem_filter.mpr ⟨zz_in4 (List.mem_of_getElem? (i := 26) rfl), rfl⟩
set_option maxRecDepth 20000 in
theorem wd_815 : Cond.methodLink "NeverTogetherLaw" 138 yX7_late ∈ zz_TG := List.mem_filter.mpr ⟨zz_in4 (List.mem_of_getElem? (i := 27) rfl), rfl⟩
set_option maxRecDepth 20000 in
theorem wd_816 : Cond.instanceMethod yX7_late ∈ zz_TG := List.mem_filter.mpr ⟨zz_in4 (List.mem_of_getElem? (i := 28) rfl), rfl⟩
set_option maxRecDepth 20000 in
theorem wd_817 : Cond.selects "NeverTogether" yX7_late yX7_late ∈ zz_TG := List.mem_filter.mpr ⟨zz_in4 (List.mem_of_getElem? (i := 29) rfl), rfl⟩
set_option maxRecDepth 20000 in
theorem wd_818 : Cond.code yX7_late cX7_late 3 (some .int) ∈ zz_TG := List.mem_filter.mpr ⟨zz_in4 (List.mem_of_getElem? (i := 30) rfl), rfl⟩
set_option maxRecDepth 20000 in
theorem wd_819 : Cond.methodLink "NeverTogether" 286 yX7_lateOnes ∈ zz_TG := List.mem_filter.mpr ⟨zz_in4 (List.mem_of_getElem? (i := 31) rfl), rfl⟩
set_option maxRecDepth 20000 in
theorem wd_821 : Cond.instanceMethod yX7_lateOnes ∈ zz_TG := List.mem_filter.mpr ⟨zz_in4 (List.mem_of_getElem? (i := 33) rfl), rfl⟩
set_option maxRecDepth 20000 in
theorem wd_822 : Cond.code yX7_lateOnes cX7_lateOnes 6 (some .int) ∈ zz_TG := List.mem_filter.mpr ⟨zz_in4 (List.mem_of_getElem? (i := 34) rfl), rfl⟩
set_option maxRecDepth 20000 in
theorem wd_823 : Cond.methodLink "NeverTogether" 356 yX7_ring ∈ zz_TG := List.mem_filter.mpr ⟨zz_in4 (List.mem_of_getElem? (i := 35) rfl), rfl⟩
set_option maxRecDepth 20000 in
theorem wd_824 : Cond.methodLink "NeverTogetherLaw" 142 yX7_rates ∈ zz_TG := List.mem_filter.mpr ⟨zz_in4 (List.mem_of_getElem? (i := 36) rfl), rfl⟩
set_option maxRecDepth 20000 in
theorem wd_825 : Cond.instanceMethod yX7_rates ∈ zz_TG := List.mem_filter.mpr ⟨zz_in4 (List.mem_of_getElem? (i := 37) rfl), rfl⟩
set_option maxRecDepth 20000 in
theorem wd_826 : Cond.selects "NeverTogether" yX7_rates yX7_rates ∈ zz_TG := List.mem_filter.mpr ⟨zz_in4 (List.mem_of_getElem? (i := 38) rfl), rfl⟩
set_option maxRecDepth 20000 in
theorem wd_827 : Cond.code yX7_rates cX7_rates 6 (some .int) ∈ zz_TG := List.mem_filter.mpr ⟨zz_in4 (List.mem_of_getElem? (i := 39) rfl), rfl⟩
set_option maxRecDepth 20000 in
theorem wd_828 : Cond.methodLink "NeverTogether" 289 yX7_refusalOfHeard ∈ zz_TG := List.mem_filter.mpr ⟨zz_in4 (List.mem_of_getElem? (i := 40) rfl), rfl⟩
set_option maxRecDepth 20000 in
theorem wd_830 : Cond.instanceMethod yX7_refusalOfHeard ∈ zz_TG := List.mem_filter.mpr ⟨zz_in4 (List.mem_of_getElem? (i := 42) rfl), rfl⟩
set_option maxRecDepth 20000 in
theorem wd_831 : Cond.code yX7_refusalOfHeard cX7_refusalOfHeard 7 (some .int) ∈ zz_TG := List.mem_filter.mpr ⟨zz_in4 (List.mem_of_getElem? (i := 43) rfl), rfl⟩
set_option maxRecDepth 20000 in
theorem wd_832 : Cond.methodLink "NeverTogether" 292 yX2_kindOf ∈ zz_TG := List.mem_filter.mpr ⟨zz_in4 (List.mem_of_getElem? (i := 44) rfl), rfl⟩
set_option maxRecDepth 20000 in
theorem wd_833 : Cond.methodLink "NeverTogether" 295 yX7_agrees ∈ zz_TG := List.mem_filter.mpr ⟨zz_in4 (List.mem_of_getElem? (i := 45) rfl), rfl⟩
set_option maxRecDepth 20000 in
theorem wd_835 : Cond.instanceMethod yX7_agrees ∈ zz_TG := List.mem_filter.mpr ⟨zz_in4 (List.mem_of_getElem? (i := 47) rfl), rfl⟩
set_option maxRecDepth 20000 in
theorem wd_836 : Cond.code yX7_agrees cX7_agrees 9 (some .boolean) ∈ zz_TG := List.mem_filter.mpr ⟨zz_in4 (List.mem_of_getElem? (i := 48) rfl), rfl⟩
set_option maxRecDepth 20000 in
theorem wd_837 : Cond.methodLink "NeverTogether" 352 yX7_gainOver ∈ zz_TG := List.mem_filter.mpr ⟨zz_in4 (List.mem_of_getElem? (i := 49) rfl), rfl⟩
set_option maxRecDepth 20000 in
theorem wd_838 : Cond.methodLink "NeverTogetherLaw" 146 yX7_kinds ∈ zz_TG := List.mem_filter.mpr ⟨zz_in4 (List.mem_of_getElem? (i := 50) rfl), rfl⟩
set_option maxRecDepth 20000 in
theorem wd_839 : Cond.instanceMethod yX7_kinds ∈ zz_TG := List.mem_filter.mpr ⟨zz_in4 (List.mem_of_getElem? (i := 51) rfl), rfl⟩
set_option maxRecDepth 20000 in
theorem wd_840 : Cond.selects "NeverTogether" yX7_kinds yX7_kinds ∈ zz_TG := List.mem_filter.mpr ⟨zz_in4 (List.mem_of_getElem? (i := 52) rfl), rfl⟩
set_option maxRecDepth 20000 in
theorem wd_841 : Cond.code yX7_kinds cX7_kinds 6 (some .int) ∈ zz_TG := List.mem_filter.mpr ⟨zz_in4 (List.mem_of_getElem? (i := 53) rfl), rfl⟩
set_option maxRecDepth 20000 in
theorem wd_842 : Cond.methodLink "NeverTogether" 298 yX2_rateOf ∈ zz_TG := List.mem_filter.mpr ⟨zz_in4 (List.mem_of_getElem? (i := 54) rfl), rfl⟩
set_option maxRecDepth 20000 in
theorem wd_843 : Cond.methodLink "NeverTogetherLaw" 150 yX7_from ∈ zz_TG := List.mem_filter.mpr ⟨zz_in4 (List.mem_of_getElem? (i := 55) rfl), rfl⟩
set_option maxRecDepth 20000 in
theorem wd_844 : Cond.instanceMethod yX7_from ∈ zz_TG := List.mem_filter.mpr ⟨zz_in4 (List.mem_of_getElem? (i := 56) rfl), rfl⟩
set_option maxRecDepth 20000 in
theorem wd_845 : Cond.selects "NeverTogether" yX7_from yX7_from ∈ zz_TG := List.mem_filter.mpr ⟨zz_in4 (List.mem_of_getElem? (i := 57) rfl), rfl⟩
set_option maxRecDepth 20000 in
theorem wd_846 : Cond.code yX7_from cX7_from 7 (some .int) ∈ zz_TG := List.mem_filter.mpr ⟨zz_in4 (List.mem_of_getElem? (i := 58) rfl), rfl⟩
set_option maxRecDepth 20000 in
theorem wd_847 : Cond.methodLink "NeverTogetherLaw" 154 yX7_cat ∈ zz_TG := List.mem_filter.mpr ⟨zz_in4 (List.mem_of_getElem? (i := 59) rfl), rfl⟩
set_option maxRecDepth 20000 in
theorem wd_848 : Cond.instanceMethod yX7_cat ∈ zz_TG := List.mem_filter.mpr ⟨zz_in4 (List.mem_of_getElem? (i := 60) rfl), rfl⟩
set_option maxRecDepth 20000 in
theorem wd_849 : Cond.selects "NeverTogether" yX7_cat yX7_cat ∈ zz_TG := List.mem_filter.mpr ⟨zz_in4 (List.mem_of_getElem? (i := 61) rfl), rfl⟩
set_option maxRecDepth 20000 in
theorem wd_850 : Cond.code yX7_cat cX7_cat 2 (some .int) ∈ zz_TG := List.mem_filter.mpr ⟨zz_in4 (List.mem_of_getElem? (i := 62) rfl), rfl⟩
set_option maxRecDepth 20000 in
theorem wd_851 : Cond.methodLink "NeverTogether" 301 yX1_isKeptApart ∈ zz_TG := List.mem_filter.mpr ⟨zz_in4 (List.mem_of_getElem? (i := 63) rfl), rfl⟩
set_option maxRecDepth 20000 in
theorem wd_852 : Cond.instanceMethod yX1_isKeptApart ∈ zz_TG := List.mem_filter.mpr ⟨zz_in4 (List.mem_of_getElem? (i := 64) rfl), rfl⟩
set_option maxRecDepth 20000 in
theorem wd_853 : Cond.selects "NeverTogether$Game" yX1_isKeptApart yX1_isKeptApart ∈ zz_TG := List.mem_filter.mpr ⟨zz_in4 (List.mem_of_getElem? (i := 65) rfl), rfl⟩
set_option maxRecDepth 20000 in
theorem wd_854 : Cond.code yX1_isKeptApart cX1_isKeptApart 3 (some .boolean) ∈ zz_TG := List.mem_filter.mpr ⟨zz_in4 (List.mem_of_getElem? (i := 66) rfl), rfl⟩
set_option maxRecDepth 20000 in
theorem wd_855 : Cond.methodLink "NeverTogether$Game" 18 yX4_see ∈ zz_TG := List.mem_filter.mpr ⟨zz_in4 (List.mem_of_getElem? (i := 67) rfl), rfl⟩
set_option maxRecDepth 20000 in
theorem wd_856 : Cond.methodLink "NeverTogether$Game" 22 yX1_endsApart ∈ zz_TG := List.mem_filter.mpr ⟨zz_in4 (List.mem_of_getElem? (i := 68) rfl), rfl⟩
set_option maxRecDepth 20000 in
theorem wd_858 : Cond.instanceMethod yX1_endsApart ∈ zz_TG := List.mem_filter.mpr ⟨zz_in4 (List.mem_of_getElem? (i := 70) rfl), rfl⟩
set_option maxRecDepth 20000 in
theorem wd_859 : Cond.code yX1_endsApart cX1_endsApart 4 (some .boolean) ∈ zz_TG := List.mem_filter.mpr ⟨zz_in4 (List.mem_of_getElem? (i := 71) rfl), rfl⟩
set_option maxRecDepth 20000 in
theorem wd_860 : Cond.methodLink "NeverTogether$Game" 34 yX4_anyMeet ∈ zz_TG := List.mem_filter.mpr ⟨zz_in4 (List.mem_of_getElem? (i := 72) rfl), rfl⟩
set_option maxRecDepth 20000 in
theorem wd_861 : Cond.methodLink "NeverTogether$Game" 30 yX1_endsApartBy ∈ zz_TG := List.mem_filter.mpr ⟨zz_in4 (List.mem_of_getElem? (i := 73) rfl), rfl⟩
set_option maxRecDepth 20000 in
theorem wd_863 : Cond.instanceMethod yX1_endsApartBy ∈ zz_TG := List.mem_filter.mpr ⟨zz_in4 (List.mem_of_getElem? (i := 75) rfl), rfl⟩
set_option maxRecDepth 20000 in
theorem wd_864 : Cond.code yX1_endsApartBy cX1_endsApartBy 5 (some .boolean) ∈ zz_TG := List.mem_filter.mpr ⟨zz_in4 (List.mem_of_getElem? (i := 76) rfl), rfl⟩
set_option maxRecDepth 20000 in
theorem wd_865 : Cond.methodLink "NeverTogether$Game" 38 yX4_shift ∈ zz_TG := List.mem_filter.mpr ⟨zz_in4 (List.mem_of_getElem? (i := 77) rfl), rfl⟩
set_option maxRecDepth 20000 in
theorem wd_866 : Cond.instanceMethod yX4_shift ∈ zz_TG := List.mem_filter.mpr ⟨zz_in4 (List.mem_of_getElem? (i := 78) rfl), rfl⟩
set_option maxRecDepth 20000 in
theorem wd_867 : Cond.selects "NeverTogether$Moment" yX4_shift yX4_shift ∈ zz_TG := List.mem_filter.mpr ⟨zz_in4 (List.mem_of_getElem? (i := 79) rfl), rfl⟩
set_option maxRecDepth 20000 in
theorem wd_868 : Cond.code yX4_shift cX4_shift 3 none ∈ zz_TG := List.mem_filter.mpr ⟨zz_in4 (List.mem_of_getElem? (i := 80) rfl), rfl⟩
set_option maxRecDepth 20000 in
theorem wd_871 : Cond.methodLink "NeverTogetherLaw" 158 yX7_first ∈ zz_TG := List.mem_filter.mpr ⟨zz_in4 (List.mem_of_getElem? (i := 83) rfl), rfl⟩
set_option maxRecDepth 20000 in
theorem wd_872 : Cond.instanceMethod yX7_first ∈ zz_TG := List.mem_filter.mpr ⟨zz_in4 (List.mem_of_getElem? (i := 84) rfl), rfl⟩
set_option maxRecDepth 20000 in
theorem wd_873 : Cond.selects "NeverTogether" yX7_first yX7_first ∈ zz_TG := List.mem_filter.mpr ⟨zz_in4 (List.mem_of_getElem? (i := 85) rfl), rfl⟩
set_option maxRecDepth 20000 in
theorem wd_874 : Cond.code yX7_first cX7_first 2 (some .int) ∈ zz_TG := List.mem_filter.mpr ⟨zz_in4 (List.mem_of_getElem? (i := 86) rfl), rfl⟩
set_option maxRecDepth 20000 in
theorem wd_875 : Cond.methodLink "NeverTogether" 305 yX1_keepingMove ∈ zz_TG := List.mem_filter.mpr ⟨zz_in4 (List.mem_of_getElem? (i := 87) rfl), rfl⟩
set_option maxRecDepth 20000 in
theorem wd_876 : Cond.instanceMethod yX1_keepingMove ∈ zz_TG := List.mem_filter.mpr ⟨zz_in4 (List.mem_of_getElem? (i := 88) rfl), rfl⟩
set_option maxRecDepth 20000 in
theorem wd_877 : Cond.selects "NeverTogether$Game" yX1_keepingMove yX1_keepingMove ∈ zz_TG := List.mem_filter.mpr ⟨zz_in4 (List.mem_of_getElem? (i := 89) rfl), rfl⟩
set_option maxRecDepth 20000 in
theorem wd_878 : Cond.code yX1_keepingMove cX1_keepingMove 4 (some .int) ∈ zz_TG := List.mem_filter.mpr ⟨zz_in4 (List.mem_of_getElem? (i := 90) rfl), rfl⟩
set_option maxRecDepth 20000 in
theorem wd_879 : Cond.methodLink "NeverTogetherLaw" 162 yX7_odds ∈ zz_TG := List.mem_filter.mpr ⟨zz_in4 (List.mem_of_getElem? (i := 91) rfl), rfl⟩
set_option maxRecDepth 20000 in
theorem wd_880 : Cond.instanceMethod yX7_odds ∈ zz_TG := List.mem_filter.mpr ⟨zz_in4 (List.mem_of_getElem? (i := 92) rfl), rfl⟩
set_option maxRecDepth 20000 in
theorem wd_881 : Cond.selects "NeverTogether" yX7_odds yX7_odds ∈ zz_TG := List.mem_filter.mpr ⟨zz_in4 (List.mem_of_getElem? (i := 93) rfl), rfl⟩
set_option maxRecDepth 20000 in
theorem wd_882 : Cond.code yX7_odds cX7_odds 5 (some .int) ∈ zz_TG := List.mem_filter.mpr ⟨zz_in4 (List.mem_of_getElem? (i := 94) rfl), rfl⟩
set_option maxRecDepth 20000 in
theorem wd_883 : Cond.methodLink "NeverTogether" 309 yX7_isDraught ∈ zz_TG := List.mem_filter.mpr ⟨zz_in4 (List.mem_of_getElem? (i := 95) rfl), rfl⟩
set_option maxRecDepth 20000 in
theorem wd_884 : Cond.static yX7_isDraught ∈ zz_TG := List.mem_filter.mpr ⟨zz_in4 (List.mem_of_getElem? (i := 96) rfl), rfl⟩
set_option maxRecDepth 20000 in
theorem wd_885 : Cond.code yX7_isDraught cX7_isDraught 1 (some .boolean) ∈ zz_TG := List.mem_filter.mpr ⟨zz_in4 (List.mem_of_getElem? (i := 97) rfl), rfl⟩
set_option maxRecDepth 20000 in
theorem wd_886 : Cond.methodLink "NeverTogether" 312 yX0_tellMeeting ∈ zz_TG := List.mem_filter.mpr ⟨zz_in4 (List.mem_of_getElem? (i := 98) rfl), rfl⟩
set_option maxRecDepth 20000 in
theorem wd_887 : Cond.instanceMethod yX0_tellMeeting ∈ zz_TG := List.mem_filter.mpr ⟨zz_in4 (List.mem_of_getElem? (i := 99) rfl), rfl⟩
set_option maxRecDepth 20000 in
theorem wd_888 : Cond.selects "NeverTogether$Draughts" yX0_tellMeeting yX0_tellMeeting ∈ zz_TG := List.mem_filter.mpr ⟨zz_in4 (List.mem_of_getElem? (i := 100) rfl), rfl⟩
set_option maxRecDepth 20000 in
theorem wd_889 : Cond.code yX0_tellMeeting cX0_tellMeeting 16 none ∈ zz_TG := List.mem_filter.mpr ⟨zz_in4 (List.mem_of_getElem? (i := 101) rfl), rfl⟩
set_option maxRecDepth 20000 in
theorem wd_890 : Cond.methodLink "NeverTogether$Draughts" 25 yX2_kindOf ∈ zz_TG := List.mem_filter.mpr ⟨zz_in4 (List.mem_of_getElem? (i := 102) rfl), rfl⟩
set_option maxRecDepth 20000 in
theorem wd_891 : Cond.methodLink "NeverTogether$Draughts" 31 yX0_countWays ∈ zz_TG := List.mem_filter.mpr ⟨zz_in4 (List.mem_of_getElem? (i := 103) rfl), rfl⟩
set_option maxRecDepth 20000 in
theorem wd_892 : Cond.static yX0_countWays ∈ zz_TG := List.mem_filter.mpr ⟨zz_in4 (List.mem_of_getElem? (i := 104) rfl), rfl⟩
set_option maxRecDepth 20000 in
theorem wd_893 : Cond.code yX0_countWays cX0_countWays 5 none ∈ zz_TG := List.mem_filter.mpr ⟨zz_in4 (List.mem_of_getElem? (i := 105) rfl), rfl⟩
set_option maxRecDepth 20000 in
theorem wd_894 : Cond.methodLink "NeverTogether$Draughts" 35 yX2_warmthOver ∈ zz_TG := List.mem_filter.mpr ⟨zz_in4 (List.mem_of_getElem? (i := 106) rfl), rfl⟩
set_option maxRecDepth 20000 in
theorem wd_895 : Cond.methodLink "NeverTogether$Draughts" 38 yX2_strikingAfter ∈ zz_TG := List.mem_filter.mpr ⟨zz_in4 (List.mem_of_getElem? (i := 107) rfl), rfl⟩
set_option maxRecDepth 20000 in
theorem wd_897 : Jvm.Cond.constantLong "NeverTogether$Draughts" 46 144 ∈ zz_TG := List.mem_filter.mpr ⟨zz_in4 (List.mem_of_getElem? (i := 109) rfl), rfl⟩
set_option maxRecDepth 20000 in
theorem wd_898 : Cond.methodLink "NeverTogether$Draughts" 48 yX0_tell ∈ zz_TG := List.mem_filter.mpr ⟨zz_in4 (List.mem_of_getElem? (i := 110) rfl), rfl⟩
set_option maxRecDepth 20000 in
theorem wd_899 : Cond.instanceMethod yX0_tell ∈ zz_TG := List.mem_filter.mpr ⟨zz_in4 (List.mem_of_getElem? (i := 111) rfl), rfl⟩
set_option maxRecDepth 20000 in
theorem wd_900 : Cond.selects "NeverTogether$Draughts" yX0_tell yX0_tell ∈ zz_TG := List.mem_filter.mpr ⟨zz_in4 (List.mem_of_getElem? (i := 112) rfl), rfl⟩
set_option maxRecDepth 20000 in
theorem wd_901 : Cond.code yX0_tell cX0_tell 12 none ∈ zz_TG := List.mem_filter.mpr ⟨zz_in4 (List.mem_of_getElem? (i := 113) rfl), rfl⟩
set_option maxRecDepth 20000 in
theorem wd_902 : Cond.methodLink "NeverTogetherLaw" 167 yX7_mid ∈ zz_TG := List.mem_filter.mpr ⟨zz_in4 (List.mem_of_getElem? (i := 114) rfl), rfl⟩
set_option maxRecDepth 20000 in
theorem wd_903 : Cond.instanceMethod yX7_mid ∈ zz_TG := List.mem_filter.mpr ⟨zz_in4 (List.mem_of_getElem? (i := 115) rfl), rfl⟩
set_option maxRecDepth 20000 in
theorem wd_904 : Cond.selects "NeverTogether" yX7_mid yX7_mid ∈ zz_TG := List.mem_filter.mpr ⟨zz_in4 (List.mem_of_getElem? (i := 116) rfl), rfl⟩
set_option maxRecDepth 20000 in
theorem wd_905 : Cond.code yX7_mid cX7_mid 4 (some .int) ∈ zz_TG := List.mem_filter.mpr ⟨zz_in4 (List.mem_of_getElem? (i := 117) rfl), rfl⟩
set_option maxRecDepth 20000 in
theorem wd_906 : Jvm.Cond.constantLong "NeverTogether" 316 12 ∈ zz_TG := List.mem_filter.mpr ⟨zz_in4 (List.mem_of_getElem? (i := 118) rfl), rfl⟩
set_option maxRecDepth 20000 in
theorem wd_907 : Cond.methodLink "NeverTogether" 318 yX0_tell ∈ zz_TG := List.mem_filter.mpr ⟨zz_in4 (List.mem_of_getElem? (i := 119) rfl), rfl⟩
set_option maxRecDepth 20000 in
theorem wd_908 : Cond.methodLink "NeverTogetherLaw" 171 yX7_lots ∈ zz_TG := List.mem_filter.mpr ⟨zz_in4 (List.mem_of_getElem? (i := 120) rfl), rfl⟩
set_option maxRecDepth 20000 in
theorem wd_909 : Cond.instanceMethod yX7_lots ∈ zz_TG := List.mem_filter.mpr ⟨zz_in4 (List.mem_of_getElem? (i := 121) rfl), rfl⟩
set_option maxRecDepth 20000 in
theorem wd_910 : Cond.selects "NeverTogether" yX7_lots yX7_lots ∈ zz_TG := List.mem_filter.mpr ⟨zz_in4 (List.mem_of_getElem? (i := 122) rfl), rfl⟩
set_option maxRecDepth 20000 in
theorem wd_911 : Cond.code yX7_lots cX7_lots 6 (some .int) ∈ zz_TG := List.mem_filter.mpr ⟨zz_in4 (List.mem_of_getElem? (i := 123) rfl), rfl⟩
set_option maxRecDepth 20000 in
theorem wd_912 : Jvm.Cond.constant "NeverTogether" 322 2147483646 ∈ zz_TG := List.mem_filter.mpr ⟨zz_in4 (List.mem_of_getElem? (i := 124) rfl), rfl⟩
set_option maxRecDepth 20000 in
theorem wd_913 : Jvm.Cond.constantLong "NeverTogether" 323 48271 ∈ zz_TG := List.mem_filter.mpr ⟨zz_in4 (List.mem_of_getElem? (i := 125) rfl), rfl⟩
set_option maxRecDepth 20000 in
theorem wd_914 : Jvm.Cond.constantLong "NeverTogether" 325 2147483647 ∈ zz_TG := List.mem_filter.mpr ⟨zz_in4 (List.mem_of_getElem? (i := 126) rfl), rfl⟩
set_option maxRecDepth 20000 in
theorem wd_915 : Cond.methodLink "NeverTogether" 327 yX2_turnByLot ∈ zz_TG := List.mem_filter.mpr ⟨zz_in4 (List.mem_of_getElem? (i := 127) rfl), rfl⟩
set_option maxRecDepth 20000 in
theorem wd_916 : Cond.instanceMethod yX2_turnByLot ∈ zz_TG := List.mem_filter.mpr ⟨zz_in4 (List.mem_of_getElem? (i := 128) rfl), rfl⟩
set_option maxRecDepth 20000 in
theorem wd_917 : Cond.selects "NeverTogether$House" yX2_turnByLot yX2_turnByLot ∈ zz_TG := List.mem_filter.mpr ⟨zz_in4 (List.mem_of_getElem? (i := 129) rfl), rfl⟩
set_option maxRecDepth 20000 in
theorem wd_918 : Cond.code yX2_turnByLot cX2_turnByLot 4 none ∈ zz_TG := List.mem_filter.mpr ⟨zz_in4 (List.mem_of_getElem? (i := 130) rfl), rfl⟩
set_option maxRecDepth 20000 in
theorem wd_919 : Jvm.Cond.constantLong "NeverTogether$House" 136 8 ∈ zz_TG := List.mem_filter.mpr ⟨zz_in4 (List.mem_of_getElem? (i := 131) rfl), rfl⟩
set_option maxRecDepth 20000 in
theorem wd_920 : Jvm.Cond.constantLong "NeverTogether$House" 138 2 ∈ zz_TG := List.mem_filter.mpr ⟨zz_in4 (List.mem_of_getElem? (i := 132) rfl), rfl⟩
set_option maxRecDepth 20000 in
theorem wd_921 : Cond.methodLink "NeverTogether$House" 140 yX2_turn ∈ zz_TG := List.mem_filter.mpr ⟨zz_in4 (List.mem_of_getElem? (i := 133) rfl), rfl⟩
set_option maxRecDepth 20000 in
theorem wd_922 : Cond.methodLink "NeverTogetherLaw" 175 yX7_asked ∈ zz_TG := List.mem_filter.mpr ⟨zz_in4 (List.mem_of_getElem? (i := 134) rfl), rfl⟩
set_option maxRecDepth 20000 in
theorem wd_923 : Cond.instanceMethod yX7_asked ∈ zz_TG := List.mem_filter.mpr ⟨zz_in4 (List.mem_of_getElem? (i := 135) rfl), rfl⟩
set_option maxRecDepth 20000 in
theorem wd_924 : Cond.selects "NeverTogether" yX7_asked yX7_asked ∈ zz_TG := List.mem_filter.mpr ⟨zz_in4 (List.mem_of_getElem? (i := 136) rfl), rfl⟩
set_option maxRecDepth 20000 in
theorem wd_925 : Cond.code yX7_asked cX7_asked 1 (some .int) ∈ zz_TG := List.mem_filter.mpr ⟨zz_in4 (List.mem_of_getElem? (i := 137) rfl), rfl⟩
set_option maxRecDepth 20000 in
theorem wd_926 : Cond.methodLink "NeverTogetherLaw" 179 yX7_upper ∈ zz_TG := List.mem_filter.mpr ⟨zz_in4 (List.mem_of_getElem? (i := 138) rfl), rfl⟩
set_option maxRecDepth 20000 in
theorem wd_927 : Cond.instanceMethod yX7_upper ∈ zz_TG := List.mem_filter.mpr ⟨zz_in4 (List.mem_of_getElem? (i := 139) rfl), rfl⟩
set_option maxRecDepth 20000 in
theorem wd_928 : Cond.selects "NeverTogether" yX7_upper yX7_upper ∈ zz_TG := List.mem_filter.mpr ⟨zz_in4 (List.mem_of_getElem? (i := 140) rfl), rfl⟩
set_option maxRecDepth 20000 in
theorem wd_929 : Cond.code yX7_upper cX7_upper 1 (some .long) ∈ zz_TG := List.mem_filter.mpr ⟨zz_in4 (List.mem_of_getElem? (i := 141) rfl), rfl⟩
set_option maxRecDepth 20000 in
theorem wd_930 : Cond.methodLink "NeverTogetherLaw" 184 yX7_lower ∈ zz_TG := List.mem_filter.mpr ⟨zz_in4 (List.mem_of_getElem? (i := 142) rfl), rfl⟩
set_option maxRecDepth 20000 in
theorem wd_931 : Cond.instanceMethod yX7_lower ∈ zz_TG := List.mem_filter.mpr ⟨zz_in4 (List.mem_of_getElem? (i := 143) rfl), rfl⟩
set_option maxRecDepth 20000 in
theorem wd_932 : Cond.selects "NeverTogether" yX7_lower yX7_lower ∈ zz_TG := List.mem_filter.mpr ⟨zz_in4 (List.mem_of_getElem? (i := 144) rfl), rfl⟩
set_option maxRecDepth 20000 in
theorem wd_933 : Cond.code yX7_lower cX7_lower 1 (some .long) ∈ zz_TG := List.mem_filter.mpr ⟨zz_in4 (List.mem_of_getElem? (i := 145) rfl), rfl⟩
set_option maxRecDepth 20000 in
theorem wd_934 : Cond.methodLink "NeverTogetherLaw" 188 yX7_count ∈ zz_TG := List.mem_filter.mpr ⟨zz_in4 (List.mem_of_getElem? (i := 146) rfl), rfl⟩
set_option maxRecDepth 20000 in
theorem wd_935 : Cond.instanceMethod yX7_count ∈ zz_TG := List.mem_filter.mpr ⟨zz_in4 (List.mem_of_getElem? (i := 147) rfl), rfl⟩
set_option maxRecDepth 20000 in
theorem wd_936 : Cond.selects "NeverTogether" yX7_count yX7_count ∈ zz_TG := List.mem_filter.mpr ⟨zz_in4 (List.mem_of_getElem? (i := 148) rfl), rfl⟩
set_option maxRecDepth 20000 in
theorem wd_937 : Cond.code yX7_count cX7_count 2 (some .int) ∈ zz_TG := List.mem_filter.mpr ⟨zz_in4 (List.mem_of_getElem? (i := 149) rfl), rfl⟩
set_option maxRecDepth 20000 in
theorem wd_938 : Cond.methodLink "NeverTogether" 338 yX7_tally ∈ zz_TG := List.mem_filter.mpr ⟨zz_in4 (List.mem_of_getElem? (i := 150) rfl), rfl⟩
set_option maxRecDepth 20000 in
theorem wd_940 : Cond.instanceMethod yX7_tally ∈ zz_TG := List.mem_filter.mpr ⟨zz_in4 (List.mem_of_getElem? (i := 152) rfl), rfl⟩
set_option maxRecDepth 20000 in
theorem wd_941 : Cond.code yX7_tally cX7_tally 2 (some .int) ∈ zz_TG := List.mem_filter.mpr ⟨zz_in4 (List.mem_of_getElem? (i := 153) rfl), rfl⟩
set_option maxRecDepth 20000 in
theorem wd_942 : Cond.methodLink "NeverTogether" 362 yX2_howManyAre ∈ zz_TG := List.mem_filter.mpr ⟨zz_in4 (List.mem_of_getElem? (i := 154) rfl), rfl⟩
set_option maxRecDepth 20000 in
theorem wd_943 : Cond.instanceMethod yX2_howManyAre ∈ zz_TG := List.mem_filter.mpr ⟨zz_in4 (List.mem_of_getElem? (i := 155) rfl), rfl⟩
set_option maxRecDepth 20000 in
theorem wd_944 : Cond.selects "NeverTogether$House" yX2_howManyAre yX2_howManyAre ∈ zz_TG := List.mem_filter.mpr ⟨zz_in4 (List.mem_of_getElem? (i := 156) rfl), rfl⟩
set_option maxRecDepth 20000 in
theorem wd_945 : Cond.code yX2_howManyAre cX2_howManyAre 4 (some .int) ∈ zz_TG := List.mem_filter.mpr ⟨zz_in4 (List.mem_of_getElem? (i := 157) rfl), rfl⟩
set_option maxRecDepth 20000 in
theorem wd_946 : Cond.methodLink "NeverTogether$House" 97 yX2_isOf ∈ zz_TG := List.mem_filter.mpr ⟨zz_in4 (List.mem_of_getElem? (i := 158) rfl), rfl⟩
set_option maxRecDepth 20000 in
theorem wd_947 : Cond.methodLink "NeverTogether" 365 yX6_howManyThere ∈ zz_TG := List.mem_filter.mpr ⟨zz_in4 (List.mem_of_getElem? (i := 159) rfl), rfl⟩
set_option maxRecDepth 20000 in
theorem wd_948 : Cond.instanceMethod yX6_howManyThere ∈ zz_TG := List.mem_filter.mpr ⟨zz_in4 (List.mem_of_getElem? (i := 160) rfl), rfl⟩
set_option maxRecDepth 20000 in
theorem wd_949 : Cond.selects "NeverTogether$Shelf" yX6_howManyThere yX6_howManyThere ∈ zz_TG := List.mem_filter.mpr ⟨zz_in4 (List.mem_of_getElem? (i := 161) rfl), rfl⟩
set_option maxRecDepth 20000 in
theorem wd_950 : Cond.code yX6_howManyThere cX6_howManyThere 3 (some .int) ∈ zz_TG := List.mem_filter.mpr ⟨zz_in4 (List.mem_of_getElem? (i := 162) rfl), rfl⟩
set_option maxRecDepth 20000 in
theorem wd_951 : Cond.methodLink "NeverTogether" 368 yX2_howManyKept ∈ zz_TG := List.mem_filter.mpr ⟨zz_in4 (List.mem_of_getElem? (i := 163) rfl), rfl⟩
set_option maxRecDepth 20000 in
theorem wd_952 : Cond.instanceMethod yX2_howManyKept ∈ zz_TG := List.mem_filter.mpr ⟨zz_in4 (List.mem_of_getElem? (i := 164) rfl), rfl⟩
set_option maxRecDepth 20000 in
theorem wd_953 : Cond.selects "NeverTogether$House" yX2_howManyKept yX2_howManyKept ∈ zz_TG := List.mem_filter.mpr ⟨zz_in4 (List.mem_of_getElem? (i := 165) rfl), rfl⟩
set_option maxRecDepth 20000 in
theorem wd_954 : Cond.code yX2_howManyKept cX2_howManyKept 3 (some .int) ∈ zz_TG := List.mem_filter.mpr ⟨zz_in4 (List.mem_of_getElem? (i := 166) rfl), rfl⟩
set_option maxRecDepth 20000 in
theorem wd_955 : Cond.methodLink "NeverTogetherLaw" 192 yX7_finding ∈ zz_TG := List.mem_filter.mpr ⟨zz_in4 (List.mem_of_getElem? (i := 167) rfl), rfl⟩
set_option maxRecDepth 20000 in
theorem wd_956 : Cond.instanceMethod yX7_finding ∈ zz_TG := List.mem_filter.mpr ⟨zz_in4 (List.mem_of_getElem? (i := 168) rfl), rfl⟩
set_option maxRecDepth 20000 in
theorem wd_957 : Cond.selects "NeverTogether" yX7_finding yX7_finding ∈ zz_TG := List.mem_filter.mpr ⟨zz_in4 (List.mem_of_getElem? (i := 169) rfl), rfl⟩
set_option maxRecDepth 20000 in
theorem wd_958 : Cond.code yX7_finding cX7_finding 1 (some .int) ∈ zz_TG := List.mem_filter.mpr ⟨zz_in4 (List.mem_of_getElem? (i := 170) rfl), rfl⟩
set_option maxRecDepth 20000 in
theorem wd_959 : Cond.methodLink "NeverTogetherLaw" 196 yX7_findings ∈ zz_TG := List.mem_filter.mpr ⟨zz_in4 (List.mem_of_getElem? (i := 171) rfl), rfl⟩
set_option maxRecDepth 20000 in
theorem wd_960 : Cond.instanceMethod yX7_findings ∈ zz_TG := List.mem_filter.mpr ⟨zz_in4 (List.mem_of_getElem? (i := 172) rfl), rfl⟩
set_option maxRecDepth 20000 in
theorem wd_961 : Cond.selects "NeverTogether" yX7_findings yX7_findings ∈ zz_TG := List.mem_filter.mpr ⟨zz_in4 (List.mem_of_getElem? (i := 173) rfl), rfl⟩
set_option maxRecDepth 20000 in
theorem wd_962 : Cond.code yX7_findings cX7_findings 2 (some .int) ∈ zz_TG := List.mem_filter.mpr ⟨zz_in4 (List.mem_of_getElem? (i := 174) rfl), rfl⟩
set_option maxRecDepth 20000 in
theorem wd_963 : Cond.methodLink "NeverTogetherLaw" 200 yX7_digest ∈ zz_TG := List.mem_filter.mpr ⟨zz_in4 (List.mem_of_getElem? (i := 175) rfl), rfl⟩
set_option maxRecDepth 20000 in
theorem wd_964 : Cond.instanceMethod yX7_digest ∈ zz_TG := List.mem_filter.mpr ⟨zz_in4 (List.mem_of_getElem? (i := 176) rfl), rfl⟩
set_option maxRecDepth 20000 in
theorem wd_965 : Cond.selects "NeverTogether" yX7_digest yX7_digest ∈ zz_TG := List.mem_filter.mpr ⟨zz_in4 (List.mem_of_getElem? (i := 177) rfl), rfl⟩
set_option maxRecDepth 20000 in
theorem wd_966 : Cond.code yX7_digest cX7_digest 5 (some .long) ∈ zz_TG := List.mem_filter.mpr ⟨zz_in4 (List.mem_of_getElem? (i := 178) rfl), rfl⟩
set_option maxRecDepth 20000 in
theorem wd_967 : Jvm.Cond.constantLong "NeverTogether" 341 17 ∈ zz_TG := List.mem_filter.mpr ⟨zz_in4 (List.mem_of_getElem? (i := 179) rfl), rfl⟩
set_option maxRecDepth 20000 in
theorem wd_968 : Jvm.Cond.constantLong "NeverTogether" 343 31 ∈ zz_TG := List.mem_filter.mpr ⟨zz_in4 (List.mem_of_getElem? (i := 180) rfl), rfl⟩
set_option maxRecDepth 20000 in
theorem wd_969 : Cond.methodLink "NeverTogether" 345 yX6_mixInto ∈ zz_TG := List.mem_filter.mpr ⟨zz_in4 (List.mem_of_getElem? (i := 181) rfl), rfl⟩
set_option maxRecDepth 20000 in
theorem wd_970 : Cond.instanceMethod yX6_mixInto ∈ zz_TG := List.mem_filter.mpr ⟨zz_in4 (List.mem_of_getElem? (i := 182) rfl), rfl⟩
set_option maxRecDepth 20000 in
theorem wd_971 : Cond.selects "NeverTogether$Shelf" yX6_mixInto yX6_mixInto ∈ zz_TG := List.mem_filter.mpr ⟨zz_in4 (List.mem_of_getElem? (i := 183) rfl), rfl⟩
set_option maxRecDepth 20000 in
theorem wd_972 : Cond.code yX6_mixInto cX6_mixInto 7 (some .long) ∈ zz_TG := List.mem_filter.mpr ⟨zz_in4 (List.mem_of_getElem? (i := 184) rfl), rfl⟩
set_option maxRecDepth 20000 in
theorem wd_973 : Jvm.Cond.constantLong "NeverTogether$Shelf" 46 31 ∈ zz_TG := List.mem_filter.mpr ⟨zz_in4 (List.mem_of_getElem? (i := 185) rfl), rfl⟩
set_option maxRecDepth 20000 in
theorem wd_974 : Cond.classLink "NeverTogetherLaw" 10 "NeverTogetherModel" ∈ zz_TG := List.mem_filter.mpr ⟨zz_in4 (List.mem_of_getElem? (i := 186) rfl), rfl⟩
set_option maxRecDepth 20000 in
theorem wd_976 : Cond.methodLink "NeverTogetherLaw" 12 yX8_init ∈ zz_TG := List.mem_filter.mpr ⟨zz_in4 (List.mem_of_getElem? (i := 188) rfl), rfl⟩
set_option maxRecDepth 20000 in
theorem wd_977 : Cond.instanceMethod yX8_init ∈ zz_TG := List.mem_filter.mpr ⟨zz_in4 (List.mem_of_getElem? (i := 189) rfl), rfl⟩
set_option maxRecDepth 20000 in
theorem wd_978 : Cond.code yX8_init cX8_init 2 none ∈ zz_TG := List.mem_filter.mpr ⟨zz_in4 (List.mem_of_getElem? (i := 190) rfl), rfl⟩
set_option maxRecDepth 20000 in
theorem wd_979 : Cond.methodLink "NeverTogetherModel" 1 objectInit ∈ zz_TG := List.mem_filter.mpr ⟨zz_in4 (List.mem_of_getElem? (i := 191) rfl), rfl⟩
set_option maxRecDepth 20000 in
theorem wd_980 : Cond.fieldLink "NeverTogetherModel" 7 "NeverTogetherModel" "w" "[I" ∈ zz_TG := List.mem_filter.mpr ⟨zz_in4 (List.mem_of_getElem? (i := 192) rfl), rfl⟩
set_option maxRecDepth 20000 in
theorem wd_981 : Cond.fieldLink "NeverTogetherModel" 121 "NeverTogetherModel" "deeds" "I" ∈ zz_TG := List.mem_filter.mpr ⟨zz_in4 (List.mem_of_getElem? (i := 193) rfl), rfl⟩
set_option maxRecDepth 20000 in
theorem wd_982 : Cond.fieldLink "NeverTogetherModel" 13 "NeverTogetherModel" "keptDeeds" "[I" ∈ zz_TG := List.mem_filter.mpr ⟨zz_in4 (List.mem_of_getElem? (i := 194) rfl), rfl⟩
set_option maxRecDepth 20000 in
theorem wd_983 : Cond.fieldLink "NeverTogetherModel" 16 "NeverTogetherModel" "rows" "[I" ∈ zz_TG := List.mem_filter.mpr ⟨zz_in4 (List.mem_of_getElem? (i := 195) rfl), rfl⟩
set_option maxRecDepth 20000 in
theorem wd_984 : Cond.fieldLink "NeverTogetherModel" 19 "NeverTogetherModel" "rowSize" "[I" ∈ zz_TG := List.mem_filter.mpr ⟨zz_in4 (List.mem_of_getElem? (i := 196) rfl), rfl⟩
set_option maxRecDepth 20000 in
theorem wd_985 : Cond.fieldLink "NeverTogetherModel" 22 "NeverTogetherModel" "texts" "[I" ∈ zz_TG := List.mem_filter.mpr ⟨zz_in4 (List.mem_of_getElem? (i := 197) rfl), rfl⟩
set_option maxRecDepth 20000 in
theorem wd_986 : Cond.fieldLink "NeverTogetherModel" 25 "NeverTogetherModel" "textSize" "[I" ∈ zz_TG := List.mem_filter.mpr ⟨zz_in4 (List.mem_of_getElem? (i := 198) rfl), rfl⟩
set_option maxRecDepth 20000 in
theorem wd_987 : Cond.fieldLink "NeverTogetherModel" 28 "NeverTogetherModel" "held" "[I" ∈ zz_TG := List.mem_filter.mpr ⟨zz_in4 (List.mem_of_getElem? (i := 199) rfl), rfl⟩
set_option maxRecDepth 20000 in
theorem wd_988 : Cond.fieldLink "NeverTogetherModel" 51 "NeverTogetherModel" "finding" "I" ∈ zz_TG := List.mem_filter.mpr ⟨zz_in4 (List.mem_of_getElem? (i := 200) rfl), rfl⟩
set_option maxRecDepth 20000 in
theorem wd_989 : Cond.fieldLink "NeverTogetherModel" 31 "NeverTogetherModel" "findings" "[I" ∈ zz_TG := List.mem_filter.mpr ⟨zz_in4 (List.mem_of_getElem? (i := 201) rfl), rfl⟩
set_option maxRecDepth 20000 in
theorem wd_990 : Cond.fieldLink "NeverTogetherModel" 55 "NeverTogetherModel" "asked" "I" ∈ zz_TG := List.mem_filter.mpr ⟨zz_in4 (List.mem_of_getElem? (i := 202) rfl), rfl⟩
set_option maxRecDepth 20000 in
theorem wd_991 : Cond.fieldLink "NeverTogetherModel" 273 "NeverTogetherModel" "upper" "J" ∈ zz_TG := List.mem_filter.mpr ⟨zz_in4 (List.mem_of_getElem? (i := 203) rfl), rfl⟩
set_option maxRecDepth 20000 in
theorem wd_992 : Cond.fieldLink "NeverTogetherModel" 34 "NeverTogetherModel" "lower" "J" ∈ zz_TG := List.mem_filter.mpr ⟨zz_in4 (List.mem_of_getElem? (i := 204) rfl), rfl⟩
set_option maxRecDepth 20000 in
theorem wd_993 : Cond.fieldLink "NeverTogetherModel" 92 "NeverTogetherModel" "position" "I" ∈ zz_TG := List.mem_filter.mpr ⟨zz_in4 (List.mem_of_getElem? (i := 205) rfl), rfl⟩
set_option maxRecDepth 20000 in
theorem wd_994 : Cond.fieldLink "NeverTogetherModel" 38 "NeverTogetherModel" "stands" "[I" ∈ zz_TG := List.mem_filter.mpr ⟨zz_in4 (List.mem_of_getElem? (i := 206) rfl), rfl⟩
set_option maxRecDepth 20000 in
theorem wd_995 : Cond.fieldLink "NeverTogetherModel" 161 "NeverTogetherModel" "pairSet" "I" ∈ zz_TG := List.mem_filter.mpr ⟨zz_in4 (List.mem_of_getElem? (i := 207) rfl), rfl⟩
set_option maxRecDepth 20000 in
theorem wd_996 : Cond.fieldLink "NeverTogetherModel" 164 "NeverTogetherModel" "firstPair" "I" ∈ zz_TG := List.mem_filter.mpr ⟨zz_in4 (List.mem_of_getElem? (i := 208) rfl), rfl⟩
set_option maxRecDepth 20000 in
theorem wd_997 : Cond.fieldLink "NeverTogetherModel" 195 "NeverTogetherModel" "one" "I" ∈ zz_TG := List.mem_filter.mpr ⟨zz_in4 (List.mem_of_getElem? (i := 209) rfl), rfl⟩
set_option maxRecDepth 20000 in
theorem wd_998 : Cond.fieldLink "NeverTogetherModel" 198 "NeverTogetherModel" "two" "I" ∈ zz_TG := List.mem_filter.mpr ⟨zz_in4 (List.mem_of_getElem? (i := 210) rfl), rfl⟩
set_option maxRecDepth 20000 in
theorem wd_999 : Cond.fieldLink "NeverTogetherModel" 41 "NeverTogetherModel" "loud" "[Z" ∈ zz_TG := List.mem_filter.mpr ⟨zz_in4 (List.mem_of_getElem? (i := 211) rfl), rfl⟩
set_option maxRecDepth 20000 in
theorem wd_1000 : Cond.fieldLink "NeverTogetherModel" 45 "NeverTogetherModel" "clashes" "[Z" ∈ zz_TG := List.mem_filter.mpr ⟨zz_in4 (List.mem_of_getElem? (i := 212) rfl), rfl⟩
set_option maxRecDepth 20000 in
theorem wd_1001 : Cond.fieldLink "NeverTogetherModel" 48 "NeverTogetherModel" "by" "[I" ∈ zz_TG := List.mem_filter.mpr ⟨zz_in4 (List.mem_of_getElem? (i := 213) rfl), rfl⟩
set_option maxRecDepth 20000 in
theorem wd_1002 : Cond.fieldLink "NeverTogetherModel" 226 "NeverTogetherModel" "touchSet" "I" ∈ zz_TG := List.mem_filter.mpr ⟨zz_in4 (List.mem_of_getElem? (i := 214) rfl), rfl⟩
set_option maxRecDepth 20000 in
theorem wd_1003 : Cond.fieldLink "NeverTogetherModel" 307 "NeverTogetherModel" "h" "J" ∈ zz_TG := List.mem_filter.mpr ⟨zz_in4 (List.mem_of_getElem? (i := 215) rfl), rfl⟩
set_option maxRecDepth 20000 in
theorem wd_1053 : Cond.arrayClass .boolean ∈ zz_TG := List.mem_filter.mpr ⟨zz_in5 (List.mem_of_getElem? (i := 25) rfl), rfl⟩
set_option maxRecDepth 20000 in
theorem wd_1054 : Cond.methodLink "NeverTogetherLaw" 17 yX8_row ∈ zz_TG := List.mem_filter.mpr ⟨zz_in5 (List.mem_of_getElem? (i := 26) rfl), rfl⟩
set_option maxRecDepth 20000 in
theorem wd_1055 : Cond.instanceMethod yX8_row ∈ zz_TG := List.mem_filter.mpr ⟨zz_in5 (List.mem_of_getElem? (i := 27) rfl), rfl⟩
set_option maxRecDepth 20000 in
theorem wd_1056 : Cond.selects "NeverTogetherModel" yX8_row yX8_row ∈ zz_TG := List.mem_filter.mpr ⟨zz_in5 (List.mem_of_getElem? (i := 28) rfl), rfl⟩
set_option maxRecDepth 20000 in
theorem wd_1057 : Cond.code yX8_row cX8_row 3 (some .int) ∈ zz_TG := List.mem_filter.mpr ⟨zz_in5 (List.mem_of_getElem? (i := 29) rfl), rfl⟩
set_option maxRecDepth 20000 in
theorem wd_1058 : Cond.methodLink "NeverTogetherModel" 66 yX8_isRow ∈ zz_TG := List.mem_filter.mpr ⟨zz_in5 (List.mem_of_getElem? (i := 30) rfl), rfl⟩
set_option maxRecDepth 20000 in
theorem wd_1059 : Cond.static yX8_isRow ∈ zz_TG := List.mem_filter.mpr ⟨zz_in5 (List.mem_of_getElem? (i := 31) rfl), rfl⟩
set_option maxRecDepth 20000 in
theorem wd_1060 : Cond.code yX8_isRow cX8_isRow 1 (some .boolean) ∈ zz_TG := List.mem_filter.mpr ⟨zz_in5 (List.mem_of_getElem? (i := 32) rfl), rfl⟩
set_option maxRecDepth 20000 in
theorem wd_1061 : Jvm.Cond.constantLong "NeverTogetherModel" 58 5 ∈ zz_TG := List.mem_filter.mpr ⟨zz_in5 (List.mem_of_getElem? (i := 33) rfl), rfl⟩
set_option maxRecDepth 20000 in
theorem wd_1062 : Cond.methodLink "NeverTogetherModel" 60 yX8_in ∈ zz_TG := List.mem_filter.mpr ⟨zz_in5 (List.mem_of_getElem? (i := 34) rfl), rfl⟩
set_option maxRecDepth 20000 in
theorem wd_1063 : Cond.static yX8_in ∈ zz_TG := List.mem_filter.mpr ⟨zz_in5 (List.mem_of_getElem? (i := 35) rfl), rfl⟩
set_option maxRecDepth 20000 in
theorem wd_1064 : Cond.code yX8_in cX8_in 6 (some .boolean) ∈ zz_TG := List.mem_filter.mpr ⟨zz_in5 (List.mem_of_getElem? (i := 36) rfl), rfl⟩
set_option maxRecDepth 20000 in
theorem wd_1065 : Cond.methodLink "NeverTogetherModel" 70 yX8_found ∈ zz_TG := List.mem_filter.mpr ⟨zz_in5 (List.mem_of_getElem? (i := 37) rfl), rfl⟩
set_option maxRecDepth 20000 in
theorem wd_1067 : Cond.instanceMethod yX8_found ∈ zz_TG := List.mem_filter.mpr ⟨zz_in5 (List.mem_of_getElem? (i := 39) rfl), rfl⟩
set_option maxRecDepth 20000 in
theorem wd_1068 : Cond.code yX8_found cX8_found 2 (some .int) ∈ zz_TG := List.mem_filter.mpr ⟨zz_in5 (List.mem_of_getElem? (i := 40) rfl), rfl⟩
set_option maxRecDepth 20000 in
theorem wd_1069 : Cond.methodLink "NeverTogetherModel" 74 yX8_anew ∈ zz_TG := List.mem_filter.mpr ⟨zz_in5 (List.mem_of_getElem? (i := 41) rfl), rfl⟩
set_option maxRecDepth 20000 in
theorem wd_1071 : Cond.instanceMethod yX8_anew ∈ zz_TG := List.mem_filter.mpr ⟨zz_in5 (List.mem_of_getElem? (i := 43) rfl), rfl⟩
set_option maxRecDepth 20000 in
theorem wd_1072 : Cond.code yX8_anew cX8_anew 4 none ∈ zz_TG := List.mem_filter.mpr ⟨zz_in5 (List.mem_of_getElem? (i := 44) rfl), rfl⟩
set_option maxRecDepth 20000 in
theorem wd_1073 : Cond.methodLink "NeverTogetherLaw" 22 yX8_lay ∈ zz_TG := List.mem_filter.mpr ⟨zz_in5 (List.mem_of_getElem? (i := 45) rfl), rfl⟩
set_option maxRecDepth 20000 in
theorem wd_1074 : Cond.instanceMethod yX8_lay ∈ zz_TG := List.mem_filter.mpr ⟨zz_in5 (List.mem_of_getElem? (i := 46) rfl), rfl⟩
set_option maxRecDepth 20000 in
theorem wd_1075 : Cond.selects "NeverTogetherModel" yX8_lay yX8_lay ∈ zz_TG := List.mem_filter.mpr ⟨zz_in5 (List.mem_of_getElem? (i := 47) rfl), rfl⟩
set_option maxRecDepth 20000 in
theorem wd_1076 : Cond.code yX8_lay cX8_lay 5 (some .int) ∈ zz_TG := List.mem_filter.mpr ⟨zz_in5 (List.mem_of_getElem? (i := 48) rfl), rfl⟩
set_option maxRecDepth 20000 in
theorem wd_1077 : Cond.methodLink "NeverTogetherModel" 78 yX8_at ∈ zz_TG := List.mem_filter.mpr ⟨zz_in5 (List.mem_of_getElem? (i := 49) rfl), rfl⟩
set_option maxRecDepth 20000 in
theorem wd_1078 : Cond.instanceMethod yX8_at ∈ zz_TG := List.mem_filter.mpr ⟨zz_in5 (List.mem_of_getElem? (i := 50) rfl), rfl⟩
set_option maxRecDepth 20000 in
theorem wd_1079 : Cond.selects "NeverTogetherModel" yX8_at yX8_at ∈ zz_TG := List.mem_filter.mpr ⟨zz_in5 (List.mem_of_getElem? (i := 51) rfl), rfl⟩
set_option maxRecDepth 20000 in
theorem wd_1080 : Cond.code yX8_at cX8_at 3 (some .int) ∈ zz_TG := List.mem_filter.mpr ⟨zz_in5 (List.mem_of_getElem? (i := 52) rfl), rfl⟩
set_option maxRecDepth 20000 in
theorem wd_1081 : Cond.methodLink "NeverTogetherModel" 82 yX8_tells ∈ zz_TG := List.mem_filter.mpr ⟨zz_in5 (List.mem_of_getElem? (i := 53) rfl), rfl⟩
set_option maxRecDepth 20000 in
theorem wd_1083 : Cond.instanceMethod yX8_tells ∈ zz_TG := List.mem_filter.mpr ⟨zz_in5 (List.mem_of_getElem? (i := 55) rfl), rfl⟩
set_option maxRecDepth 20000 in
theorem wd_1084 : Cond.code yX8_tells cX8_tells 3 (some .int) ∈ zz_TG := List.mem_filter.mpr ⟨zz_in5 (List.mem_of_getElem? (i := 56) rfl), rfl⟩
set_option maxRecDepth 20000 in
theorem wd_1085 : Cond.methodLink "NeverTogetherLaw" 26 yX8_at ∈ zz_TG := List.mem_filter.mpr ⟨zz_in5 (List.mem_of_getElem? (i := 57) rfl), rfl⟩
set_option maxRecDepth 20000 in
theorem wd_1086 : Cond.methodLink "NeverTogetherLaw" 31 yX8_tear ∈ zz_TG := List.mem_filter.mpr ⟨zz_in5 (List.mem_of_getElem? (i := 58) rfl), rfl⟩
set_option maxRecDepth 20000 in
theorem wd_1087 : Cond.instanceMethod yX8_tear ∈ zz_TG := List.mem_filter.mpr ⟨zz_in5 (List.mem_of_getElem? (i := 59) rfl), rfl⟩
set_option maxRecDepth 20000 in
theorem wd_1088 : Cond.selects "NeverTogetherModel" yX8_tear yX8_tear ∈ zz_TG := List.mem_filter.mpr ⟨zz_in5 (List.mem_of_getElem? (i := 60) rfl), rfl⟩
set_option maxRecDepth 20000 in
theorem wd_1089 : Cond.code yX8_tear cX8_tear 2 (some .int) ∈ zz_TG := List.mem_filter.mpr ⟨zz_in5 (List.mem_of_getElem? (i := 61) rfl), rfl⟩
set_option maxRecDepth 20000 in
theorem wd_1090 : Cond.methodLink "NeverTogetherLaw" 36 yX8_copy ∈ zz_TG := List.mem_filter.mpr ⟨zz_in5 (List.mem_of_getElem? (i := 62) rfl), rfl⟩
set_option maxRecDepth 20000 in
theorem wd_1091 : Cond.instanceMethod yX8_copy ∈ zz_TG := List.mem_filter.mpr ⟨zz_in5 (List.mem_of_getElem? (i := 63) rfl), rfl⟩
set_option maxRecDepth 20000 in
theorem wd_1092 : Cond.selects "NeverTogetherModel" yX8_copy yX8_copy ∈ zz_TG := List.mem_filter.mpr ⟨zz_in5 (List.mem_of_getElem? (i := 64) rfl), rfl⟩
set_option maxRecDepth 20000 in
theorem wd_1093 : Cond.code yX8_copy cX8_copy 7 (some .int) ∈ zz_TG := List.mem_filter.mpr ⟨zz_in5 (List.mem_of_getElem? (i := 65) rfl), rfl⟩
set_option maxRecDepth 20000 in
theorem wd_1094 : Cond.methodLink "NeverTogetherModel" 85 yX8_fits ∈ zz_TG := List.mem_filter.mpr ⟨zz_in5 (List.mem_of_getElem? (i := 66) rfl), rfl⟩
set_option maxRecDepth 20000 in
theorem wd_1095 : Cond.static yX8_fits ∈ zz_TG := List.mem_filter.mpr ⟨zz_in5 (List.mem_of_getElem? (i := 67) rfl), rfl⟩
set_option maxRecDepth 20000 in
theorem wd_1096 : Cond.code yX8_fits cX8_fits 3 (some .boolean) ∈ zz_TG := List.mem_filter.mpr ⟨zz_in5 (List.mem_of_getElem? (i := 68) rfl), rfl⟩
set_option maxRecDepth 20000 in
theorem wd_1097 : Cond.methodLink "NeverTogetherLaw" 40 yX8_mean ∈ zz_TG := List.mem_filter.mpr ⟨zz_in5 (List.mem_of_getElem? (i := 69) rfl), rfl⟩
set_option maxRecDepth 20000 in
theorem wd_1098 : Cond.instanceMethod yX8_mean ∈ zz_TG := List.mem_filter.mpr ⟨zz_in5 (List.mem_of_getElem? (i := 70) rfl), rfl⟩
set_option maxRecDepth 20000 in
theorem wd_1099 : Cond.selects "NeverTogetherModel" yX8_mean yX8_mean ∈ zz_TG := List.mem_filter.mpr ⟨zz_in5 (List.mem_of_getElem? (i := 71) rfl), rfl⟩
set_option maxRecDepth 20000 in
theorem wd_1100 : Cond.code yX8_mean cX8_mean 5 (some .int) ∈ zz_TG := List.mem_filter.mpr ⟨zz_in5 (List.mem_of_getElem? (i := 72) rfl), rfl⟩
set_option maxRecDepth 20000 in
theorem wd_1101 : Cond.methodLink "NeverTogetherLaw" 44 yX8_text ∈ zz_TG := List.mem_filter.mpr ⟨zz_in5 (List.mem_of_getElem? (i := 73) rfl), rfl⟩
set_option maxRecDepth 20000 in
theorem wd_1102 : Cond.instanceMethod yX8_text ∈ zz_TG := List.mem_filter.mpr ⟨zz_in5 (List.mem_of_getElem? (i := 74) rfl), rfl⟩
set_option maxRecDepth 20000 in
theorem wd_1103 : Cond.selects "NeverTogetherModel" yX8_text yX8_text ∈ zz_TG := List.mem_filter.mpr ⟨zz_in5 (List.mem_of_getElem? (i := 75) rfl), rfl⟩
set_option maxRecDepth 20000 in
theorem wd_1104 : Cond.code yX8_text cX8_text 4 (some .int) ∈ zz_TG := List.mem_filter.mpr ⟨zz_in5 (List.mem_of_getElem? (i := 76) rfl), rfl⟩
set_option maxRecDepth 20000 in
theorem wd_1105 : Cond.methodLink "NeverTogetherModel" 89 yX8_isText ∈ zz_TG := List.mem_filter.mpr ⟨zz_in5 (List.mem_of_getElem? (i := 77) rfl), rfl⟩
set_option maxRecDepth 20000 in
theorem wd_1106 : Cond.static yX8_isText ∈ zz_TG := List.mem_filter.mpr ⟨zz_in5 (List.mem_of_getElem? (i := 78) rfl), rfl⟩
set_option maxRecDepth 20000 in
theorem wd_1107 : Cond.code yX8_isText cX8_isText 1 (some .boolean) ∈ zz_TG := List.mem_filter.mpr ⟨zz_in5 (List.mem_of_getElem? (i := 79) rfl), rfl⟩
set_option maxRecDepth 20000 in
theorem wd_1108 : Jvm.Cond.constantLong "NeverTogetherModel" 64 3 ∈ zz_TG := List.mem_filter.mpr ⟨zz_in5 (List.mem_of_getElem? (i := 80) rfl), rfl⟩
set_option maxRecDepth 20000 in
theorem wd_1109 : Cond.methodLink "NeverTogetherLaw" 48 yX8_put ∈ zz_TG := List.mem_filter.mpr ⟨zz_in5 (List.mem_of_getElem? (i := 81) rfl), rfl⟩
set_option maxRecDepth 20000 in
theorem wd_1110 : Cond.instanceMethod yX8_put ∈ zz_TG := List.mem_filter.mpr ⟨zz_in5 (List.mem_of_getElem? (i := 82) rfl), rfl⟩
set_option maxRecDepth 20000 in
theorem wd_1111 : Cond.selects "NeverTogetherModel" yX8_put yX8_put ∈ zz_TG := List.mem_filter.mpr ⟨zz_in5 (List.mem_of_getElem? (i := 83) rfl), rfl⟩
set_option maxRecDepth 20000 in
theorem wd_1112 : Cond.code yX8_put cX8_put 5 (some .int) ∈ zz_TG := List.mem_filter.mpr ⟨zz_in5 (List.mem_of_getElem? (i := 84) rfl), rfl⟩
set_option maxRecDepth 20000 in
theorem wd_1113 : Cond.methodLink "NeverTogetherLaw" 52 yX8_fault ∈ zz_TG := List.mem_filter.mpr ⟨zz_in5 (List.mem_of_getElem? (i := 85) rfl), rfl⟩
set_option maxRecDepth 20000 in
theorem wd_1114 : Cond.instanceMethod yX8_fault ∈ zz_TG := List.mem_filter.mpr ⟨zz_in5 (List.mem_of_getElem? (i := 86) rfl), rfl⟩
set_option maxRecDepth 20000 in
theorem wd_1115 : Cond.selects "NeverTogetherModel" yX8_fault yX8_fault ∈ zz_TG := List.mem_filter.mpr ⟨zz_in5 (List.mem_of_getElem? (i := 87) rfl), rfl⟩
set_option maxRecDepth 20000 in
theorem wd_1116 : Cond.code yX8_fault cX8_fault 2 (some .int) ∈ zz_TG := List.mem_filter.mpr ⟨zz_in5 (List.mem_of_getElem? (i := 88) rfl), rfl⟩
set_option maxRecDepth 20000 in
theorem wd_1117 : Cond.methodLink "NeverTogetherModel" 114 yX8_faultOf ∈ zz_TG := List.mem_filter.mpr ⟨zz_in5 (List.mem_of_getElem? (i := 89) rfl), rfl⟩
set_option maxRecDepth 20000 in
theorem wd_1119 : Cond.instanceMethod yX8_faultOf ∈ zz_TG := List.mem_filter.mpr ⟨zz_in5 (List.mem_of_getElem? (i := 91) rfl), rfl⟩
set_option maxRecDepth 20000 in
theorem wd_1120 : Cond.code yX8_faultOf cX8_faultOf 3 (some .int) ∈ zz_TG := List.mem_filter.mpr ⟨zz_in5 (List.mem_of_getElem? (i := 92) rfl), rfl⟩
set_option maxRecDepth 20000 in
theorem wd_1121 : Cond.methodLink "NeverTogetherModel" 104 yX8_blanks ∈ zz_TG := List.mem_filter.mpr ⟨zz_in5 (List.mem_of_getElem? (i := 93) rfl), rfl⟩
set_option maxRecDepth 20000 in
theorem wd_1123 : Cond.instanceMethod yX8_blanks ∈ zz_TG := List.mem_filter.mpr ⟨zz_in5 (List.mem_of_getElem? (i := 95) rfl), rfl⟩
set_option maxRecDepth 20000 in
theorem wd_1124 : Cond.code yX8_blanks cX8_blanks 2 none ∈ zz_TG := List.mem_filter.mpr ⟨zz_in5 (List.mem_of_getElem? (i := 96) rfl), rfl⟩
set_option maxRecDepth 20000 in
theorem wd_1125 : Cond.methodLink "NeverTogetherModel" 95 yX8_byteAt ∈ zz_TG := List.mem_filter.mpr ⟨zz_in5 (List.mem_of_getElem? (i := 97) rfl), rfl⟩
set_option maxRecDepth 20000 in
theorem wd_1127 : Cond.instanceMethod yX8_byteAt ∈ zz_TG := List.mem_filter.mpr ⟨zz_in5 (List.mem_of_getElem? (i := 99) rfl), rfl⟩
set_option maxRecDepth 20000 in
theorem wd_1128 : Cond.code yX8_byteAt cX8_byteAt 3 (some .int) ∈ zz_TG := List.mem_filter.mpr ⟨zz_in5 (List.mem_of_getElem? (i := 100) rfl), rfl⟩
set_option maxRecDepth 20000 in
theorem wd_1129 : Cond.methodLink "NeverTogetherModel" 108 yX8_takesHeat ∈ zz_TG := List.mem_filter.mpr ⟨zz_in5 (List.mem_of_getElem? (i := 101) rfl), rfl⟩
set_option maxRecDepth 20000 in
theorem wd_1131 : Cond.instanceMethod yX8_takesHeat ∈ zz_TG := List.mem_filter.mpr ⟨zz_in5 (List.mem_of_getElem? (i := 103) rfl), rfl⟩
set_option maxRecDepth 20000 in
theorem wd_1132 : Cond.code yX8_takesHeat cX8_takesHeat 3 (some .boolean) ∈ zz_TG := List.mem_filter.mpr ⟨zz_in5 (List.mem_of_getElem? (i := 104) rfl), rfl⟩
set_option maxRecDepth 20000 in
theorem wd_1133 : Cond.methodLink "NeverTogetherModel" 98 yX8_figure ∈ zz_TG := List.mem_filter.mpr ⟨zz_in5 (List.mem_of_getElem? (i := 105) rfl), rfl⟩
set_option maxRecDepth 20000 in
theorem wd_1135 : Cond.instanceMethod yX8_figure ∈ zz_TG := List.mem_filter.mpr ⟨zz_in5 (List.mem_of_getElem? (i := 107) rfl), rfl⟩
set_option maxRecDepth 20000 in
theorem wd_1136 : Cond.code yX8_figure cX8_figure 4 (some .int) ∈ zz_TG := List.mem_filter.mpr ⟨zz_in5 (List.mem_of_getElem? (i := 108) rfl), rfl⟩
set_option maxRecDepth 20000 in
theorem wd_1137 : Cond.methodLink "NeverTogetherModel" 111 yX8_takesPiece ∈ zz_TG := List.mem_filter.mpr ⟨zz_in5 (List.mem_of_getElem? (i := 109) rfl), rfl⟩
set_option maxRecDepth 20000 in
theorem wd_1139 : Cond.instanceMethod yX8_takesPiece ∈ zz_TG := List.mem_filter.mpr ⟨zz_in5 (List.mem_of_getElem? (i := 111) rfl), rfl⟩
set_option maxRecDepth 20000 in
theorem wd_1140 : Cond.code yX8_takesPiece cX8_takesPiece 8 (some .boolean) ∈ zz_TG := List.mem_filter.mpr ⟨zz_in5 (List.mem_of_getElem? (i := 112) rfl), rfl⟩
set_option maxRecDepth 20000 in
theorem wd_1141 : Cond.methodLink "NeverTogetherModel" 101 yX8_kindOf ∈ zz_TG := List.mem_filter.mpr ⟨zz_in5 (List.mem_of_getElem? (i := 113) rfl), rfl⟩
set_option maxRecDepth 20000 in
theorem wd_1142 : Cond.static yX8_kindOf ∈ zz_TG := List.mem_filter.mpr ⟨zz_in5 (List.mem_of_getElem? (i := 114) rfl), rfl⟩
set_option maxRecDepth 20000 in
theorem wd_1143 : Cond.code yX8_kindOf cX8_kindOf 1 (some .int) ∈ zz_TG := List.mem_filter.mpr ⟨zz_in5 (List.mem_of_getElem? (i := 115) rfl), rfl⟩
set_option maxRecDepth 20000 in
theorem wd_1144 : Cond.methodLink "NeverTogetherLaw" 56 yX8_house ∈ zz_TG := List.mem_filter.mpr ⟨zz_in5 (List.mem_of_getElem? (i := 116) rfl), rfl⟩
set_option maxRecDepth 20000 in
theorem wd_1145 : Cond.instanceMethod yX8_house ∈ zz_TG := List.mem_filter.mpr ⟨zz_in5 (List.mem_of_getElem? (i := 117) rfl), rfl⟩
set_option maxRecDepth 20000 in
theorem wd_1146 : Cond.selects "NeverTogetherModel" yX8_house yX8_house ∈ zz_TG := List.mem_filter.mpr ⟨zz_in5 (List.mem_of_getElem? (i := 118) rfl), rfl⟩
set_option maxRecDepth 20000 in
theorem wd_1147 : Cond.code yX8_house cX8_house 3 (some .int) ∈ zz_TG := List.mem_filter.mpr ⟨zz_in5 (List.mem_of_getElem? (i := 119) rfl), rfl⟩
set_option maxRecDepth 20000 in
theorem wd_1148 : Cond.methodLink "NeverTogetherModel" 117 yX8_copyAll ∈ zz_TG := List.mem_filter.mpr ⟨zz_in5 (List.mem_of_getElem? (i := 120) rfl), rfl⟩
set_option maxRecDepth 20000 in
theorem wd_1150 : Cond.instanceMethod yX8_copyAll ∈ zz_TG := List.mem_filter.mpr ⟨zz_in5 (List.mem_of_getElem? (i := 122) rfl), rfl⟩
set_option maxRecDepth 20000 in
theorem wd_1151 : Cond.code yX8_copyAll cX8_copyAll 5 none ∈ zz_TG := List.mem_filter.mpr ⟨zz_in5 (List.mem_of_getElem? (i := 123) rfl), rfl⟩
set_option maxRecDepth 20000 in
theorem wd_1152 : Cond.methodLink "NeverTogetherLaw" 60 yX8_piece ∈ zz_TG := List.mem_filter.mpr ⟨zz_in5 (List.mem_of_getElem? (i := 124) rfl), rfl⟩
set_option maxRecDepth 20000 in
theorem wd_1153 : Cond.instanceMethod yX8_piece ∈ zz_TG := List.mem_filter.mpr ⟨zz_in5 (List.mem_of_getElem? (i := 125) rfl), rfl⟩
set_option maxRecDepth 20000 in
theorem wd_1154 : Cond.selects "NeverTogetherModel" yX8_piece yX8_piece ∈ zz_TG := List.mem_filter.mpr ⟨zz_in5 (List.mem_of_getElem? (i := 126) rfl), rfl⟩
set_option maxRecDepth 20000 in
theorem wd_1155 : Cond.code yX8_piece cX8_piece 3 (some .int) ∈ zz_TG := List.mem_filter.mpr ⟨zz_in5 (List.mem_of_getElem? (i := 127) rfl), rfl⟩
set_option maxRecDepth 20000 in
theorem wd_1156 : Cond.methodLink "NeverTogetherModel" 144 yX8_isPiece ∈ zz_TG := List.mem_filter.mpr ⟨zz_in5 (List.mem_of_getElem? (i := 128) rfl), rfl⟩
set_option maxRecDepth 20000 in
theorem wd_1158 : Cond.instanceMethod yX8_isPiece ∈ zz_TG := List.mem_filter.mpr ⟨zz_in5 (List.mem_of_getElem? (i := 130) rfl), rfl⟩
set_option maxRecDepth 20000 in
theorem wd_1159 : Cond.code yX8_isPiece cX8_isPiece 2 (some .boolean) ∈ zz_TG := List.mem_filter.mpr ⟨zz_in5 (List.mem_of_getElem? (i := 131) rfl), rfl⟩
set_option maxRecDepth 20000 in
theorem wd_1160 : Cond.methodLink "NeverTogetherModel" 147 yX8_pieceTells ∈ zz_TG := List.mem_filter.mpr ⟨zz_in5 (List.mem_of_getElem? (i := 132) rfl), rfl⟩
set_option maxRecDepth 20000 in
theorem wd_1162 : Cond.instanceMethod yX8_pieceTells ∈ zz_TG := List.mem_filter.mpr ⟨zz_in5 (List.mem_of_getElem? (i := 134) rfl), rfl⟩
set_option maxRecDepth 20000 in
theorem wd_1163 : Cond.code yX8_pieceTells cX8_pieceTells 3 (some .int) ∈ zz_TG := List.mem_filter.mpr ⟨zz_in5 (List.mem_of_getElem? (i := 135) rfl), rfl⟩
set_option maxRecDepth 20000 in
theorem wd_1164 : Cond.methodLink "NeverTogetherModel" 137 yX8_spanOf ∈ zz_TG := List.mem_filter.mpr ⟨zz_in5 (List.mem_of_getElem? (i := 136) rfl), rfl⟩
set_option maxRecDepth 20000 in
theorem wd_1165 : Cond.static yX8_spanOf ∈ zz_TG := List.mem_filter.mpr ⟨zz_in5 (List.mem_of_getElem? (i := 137) rfl), rfl⟩
set_option maxRecDepth 20000 in
theorem wd_1166 : Cond.code yX8_spanOf cX8_spanOf 1 (some .int) ∈ zz_TG := List.mem_filter.mpr ⟨zz_in5 (List.mem_of_getElem? (i := 138) rfl), rfl⟩
set_option maxRecDepth 20000 in
theorem wd_1167 : Cond.methodLink "NeverTogetherLaw" 64 yX8_mark ∈ zz_TG := List.mem_filter.mpr ⟨zz_in5 (List.mem_of_getElem? (i := 139) rfl), rfl⟩
set_option maxRecDepth 20000 in
theorem wd_1168 : Cond.instanceMethod yX8_mark ∈ zz_TG := List.mem_filter.mpr ⟨zz_in5 (List.mem_of_getElem? (i := 140) rfl), rfl⟩
set_option maxRecDepth 20000 in
theorem wd_1169 : Cond.selects "NeverTogetherModel" yX8_mark yX8_mark ∈ zz_TG := List.mem_filter.mpr ⟨zz_in5 (List.mem_of_getElem? (i := 141) rfl), rfl⟩
set_option maxRecDepth 20000 in
theorem wd_1170 : Cond.code yX8_mark cX8_mark 5 (some .int) ∈ zz_TG := List.mem_filter.mpr ⟨zz_in5 (List.mem_of_getElem? (i := 142) rfl), rfl⟩
set_option maxRecDepth 20000 in
theorem wd_1171 : Cond.methodLink "NeverTogetherModel" 156 yX8_markOf ∈ zz_TG := List.mem_filter.mpr ⟨zz_in5 (List.mem_of_getElem? (i := 143) rfl), rfl⟩
set_option maxRecDepth 20000 in
theorem wd_1173 : Cond.instanceMethod yX8_markOf ∈ zz_TG := List.mem_filter.mpr ⟨zz_in5 (List.mem_of_getElem? (i := 145) rfl), rfl⟩
set_option maxRecDepth 20000 in
theorem wd_1174 : Cond.code yX8_markOf cX8_markOf 7 (some .int) ∈ zz_TG := List.mem_filter.mpr ⟨zz_in5 (List.mem_of_getElem? (i := 146) rfl), rfl⟩
set_option maxRecDepth 20000 in
theorem wd_1175 : Cond.methodLink "NeverTogetherModel" 134 yX8_round ∈ zz_TG := List.mem_filter.mpr ⟨zz_in5 (List.mem_of_getElem? (i := 147) rfl), rfl⟩
set_option maxRecDepth 20000 in
theorem wd_1176 : Cond.static yX8_round ∈ zz_TG := List.mem_filter.mpr ⟨zz_in5 (List.mem_of_getElem? (i := 148) rfl), rfl⟩
set_option maxRecDepth 20000 in
theorem wd_1177 : Cond.code yX8_round cX8_round 1 (some .int) ∈ zz_TG := List.mem_filter.mpr ⟨zz_in5 (List.mem_of_getElem? (i := 149) rfl), rfl⟩
set_option maxRecDepth 20000 in
theorem wd_1178 : Cond.methodLink "NeverTogetherModel" 127 yX8_gainOf ∈ zz_TG := List.mem_filter.mpr ⟨zz_in5 (List.mem_of_getElem? (i := 150) rfl), rfl⟩
set_option maxRecDepth 20000 in
theorem wd_1180 : Cond.instanceMethod yX8_gainOf ∈ zz_TG := List.mem_filter.mpr ⟨zz_in5 (List.mem_of_getElem? (i := 152) rfl), rfl⟩
set_option maxRecDepth 20000 in
theorem wd_1181 : Cond.code yX8_gainOf cX8_gainOf 4 (some .int) ∈ zz_TG := List.mem_filter.mpr ⟨zz_in5 (List.mem_of_getElem? (i := 153) rfl), rfl⟩
set_option maxRecDepth 20000 in
theorem wd_1182 : Cond.methodLink "NeverTogetherModel" 124 yX8_heatOf ∈ zz_TG := List.mem_filter.mpr ⟨zz_in5 (List.mem_of_getElem? (i := 154) rfl), rfl⟩
set_option maxRecDepth 20000 in
theorem wd_1184 : Cond.instanceMethod yX8_heatOf ∈ zz_TG := List.mem_filter.mpr ⟨zz_in5 (List.mem_of_getElem? (i := 156) rfl), rfl⟩
set_option maxRecDepth 20000 in
theorem wd_1185 : Cond.code yX8_heatOf cX8_heatOf 2 (some .int) ∈ zz_TG := List.mem_filter.mpr ⟨zz_in5 (List.mem_of_getElem? (i := 157) rfl), rfl⟩
set_option maxRecDepth 20000 in
theorem wd_1186 : Cond.methodLink "NeverTogetherModel" 150 yX8_minuteIn ∈ zz_TG := List.mem_filter.mpr ⟨zz_in5 (List.mem_of_getElem? (i := 158) rfl), rfl⟩
set_option maxRecDepth 20000 in
theorem wd_1188 : Cond.instanceMethod yX8_minuteIn ∈ zz_TG := List.mem_filter.mpr ⟨zz_in5 (List.mem_of_getElem? (i := 160) rfl), rfl⟩
set_option maxRecDepth 20000 in
theorem wd_1189 : Cond.code yX8_minuteIn cX8_minuteIn 3 (some .int) ∈ zz_TG := List.mem_filter.mpr ⟨zz_in5 (List.mem_of_getElem? (i := 161) rfl), rfl⟩
set_option maxRecDepth 20000 in
theorem wd_1190 : Cond.methodLink "NeverTogetherModel" 131 yX8_gainsIn ∈ zz_TG := List.mem_filter.mpr ⟨zz_in5 (List.mem_of_getElem? (i := 162) rfl), rfl⟩
set_option maxRecDepth 20000 in
theorem wd_1192 : Cond.instanceMethod yX8_gainsIn ∈ zz_TG := List.mem_filter.mpr ⟨zz_in5 (List.mem_of_getElem? (i := 164) rfl), rfl⟩
set_option maxRecDepth 20000 in
theorem wd_1193 : Cond.code yX8_gainsIn cX8_gainsIn 6 (some .int) ∈ zz_TG := List.mem_filter.mpr ⟨zz_in5 (List.mem_of_getElem? (i := 165) rfl), rfl⟩
set_option maxRecDepth 20000 in
theorem wd_1194 : Cond.methodLink "NeverTogetherModel" 153 yX8_areMet ∈ zz_TG := List.mem_filter.mpr ⟨zz_in5 (List.mem_of_getElem? (i := 166) rfl), rfl⟩
set_option maxRecDepth 20000 in
theorem wd_1196 : Cond.instanceMethod yX8_areMet ∈ zz_TG := List.mem_filter.mpr ⟨zz_in5 (List.mem_of_getElem? (i := 168) rfl), rfl⟩
set_option maxRecDepth 20000 in
theorem wd_1197 : Cond.code yX8_areMet cX8_areMet 5 (some .boolean) ∈ zz_TG := List.mem_filter.mpr ⟨zz_in5 (List.mem_of_getElem? (i := 169) rfl), rfl⟩
set_option maxRecDepth 20000 in
theorem wd_1198 : Cond.methodLink "NeverTogetherModel" 140 yX8_both ∈ zz_TG := List.mem_filter.mpr ⟨zz_in5 (List.mem_of_getElem? (i := 170) rfl), rfl⟩
set_option maxRecDepth 20000 in
theorem wd_1199 : Cond.static yX8_both ∈ zz_TG := List.mem_filter.mpr ⟨zz_in5 (List.mem_of_getElem? (i := 171) rfl), rfl⟩
set_option maxRecDepth 20000 in
theorem wd_1200 : Cond.code yX8_both cX8_both 5 (some .boolean) ∈ zz_TG := List.mem_filter.mpr ⟨zz_in5 (List.mem_of_getElem? (i := 172) rfl), rfl⟩
set_option maxRecDepth 20000 in
theorem wd_1201 : Cond.methodLink "NeverTogetherLaw" 68 yX8_heat ∈ zz_TG := List.mem_filter.mpr ⟨zz_in5 (List.mem_of_getElem? (i := 173) rfl), rfl⟩
set_option maxRecDepth 20000 in
theorem wd_1202 : Cond.instanceMethod yX8_heat ∈ zz_TG := List.mem_filter.mpr ⟨zz_in5 (List.mem_of_getElem? (i := 174) rfl), rfl⟩
set_option maxRecDepth 20000 in
theorem wd_1203 : Cond.selects "NeverTogetherModel" yX8_heat yX8_heat ∈ zz_TG := List.mem_filter.mpr ⟨zz_in5 (List.mem_of_getElem? (i := 175) rfl), rfl⟩
set_option maxRecDepth 20000 in
theorem wd_1204 : Cond.code yX8_heat cX8_heat 2 (some .int) ∈ zz_TG := List.mem_filter.mpr ⟨zz_in5 (List.mem_of_getElem? (i := 176) rfl), rfl⟩
set_option maxRecDepth 20000 in
theorem wd_1205 : Jvm.Cond.constantLong "NeverTogetherModel" 159 999 ∈ zz_TG := List.mem_filter.mpr ⟨zz_in5 (List.mem_of_getElem? (i := 177) rfl), rfl⟩
set_option maxRecDepth 20000 in
theorem wd_1206 : Cond.methodLink "NeverTogetherLaw" 73 yX8_day ∈ zz_TG := List.mem_filter.mpr ⟨zz_in5 (List.mem_of_getElem? (i := 178) rfl), rfl⟩
set_option maxRecDepth 20000 in
theorem wd_1207 : Cond.instanceMethod yX8_day ∈ zz_TG := List.mem_filter.mpr ⟨zz_in5 (List.mem_of_getElem? (i := 179) rfl), rfl⟩
set_option maxRecDepth 20000 in
theorem wd_1208 : Cond.selects "NeverTogetherModel" yX8_day yX8_day ∈ zz_TG := List.mem_filter.mpr ⟨zz_in5 (List.mem_of_getElem? (i := 180) rfl), rfl⟩
set_option maxRecDepth 20000 in
theorem wd_1209 : Cond.code yX8_day cX8_day 1 (some .int) ∈ zz_TG := List.mem_filter.mpr ⟨zz_in5 (List.mem_of_getElem? (i := 181) rfl), rfl⟩
set_option maxRecDepth 20000 in
theorem wd_1210 : Cond.methodLink "NeverTogetherModel" 174 yX8_minds ∈ zz_TG := List.mem_filter.mpr ⟨zz_in5 (List.mem_of_getElem? (i := 182) rfl), rfl⟩
set_option maxRecDepth 20000 in
theorem wd_1212 : Cond.instanceMethod yX8_minds ∈ zz_TG := List.mem_filter.mpr ⟨zz_in5 (List.mem_of_getElem? (i := 184) rfl), rfl⟩
set_option maxRecDepth 20000 in
theorem wd_1213 : Cond.code yX8_minds cX8_minds 1 none ∈ zz_TG := List.mem_filter.mpr ⟨zz_in5 (List.mem_of_getElem? (i := 185) rfl), rfl⟩
set_option maxRecDepth 20000 in
theorem wd_1214 : Cond.methodLink "NeverTogetherModel" 177 yX8_passes ∈ zz_TG := List.mem_filter.mpr ⟨zz_in5 (List.mem_of_getElem? (i := 186) rfl), rfl⟩
set_option maxRecDepth 20000 in
theorem wd_1216 : Cond.instanceMethod yX8_passes ∈ zz_TG := List.mem_filter.mpr ⟨zz_in5 (List.mem_of_getElem? (i := 188) rfl), rfl⟩
set_option maxRecDepth 20000 in
theorem wd_1217 : Cond.code yX8_passes cX8_passes 2 none ∈ zz_TG := List.mem_filter.mpr ⟨zz_in5 (List.mem_of_getElem? (i := 189) rfl), rfl⟩
set_option maxRecDepth 20000 in
theorem wd_1218 : Cond.methodLink "NeverTogetherModel" 180 yX8_pairsNow ∈ zz_TG := List.mem_filter.mpr ⟨zz_in5 (List.mem_of_getElem? (i := 190) rfl), rfl⟩
set_option maxRecDepth 20000 in
theorem wd_1220 : Cond.instanceMethod yX8_pairsNow ∈ zz_TG := List.mem_filter.mpr ⟨zz_in5 (List.mem_of_getElem? (i := 192) rfl), rfl⟩
set_option maxRecDepth 20000 in
theorem wd_1221 : Cond.code yX8_pairsNow cX8_pairsNow 1 (some .int) ∈ zz_TG := List.mem_filter.mpr ⟨zz_in5 (List.mem_of_getElem? (i := 193) rfl), rfl⟩
set_option maxRecDepth 20000 in
theorem wd_1222 : Cond.methodLink "NeverTogetherModel" 167 yX8_standsIn ∈ zz_TG := List.mem_filter.mpr ⟨zz_in5 (List.mem_of_getElem? (i := 194) rfl), rfl⟩
set_option maxRecDepth 20000 in
theorem wd_1224 : Cond.instanceMethod yX8_standsIn ∈ zz_TG := List.mem_filter.mpr ⟨zz_in5 (List.mem_of_getElem? (i := 196) rfl), rfl⟩
set_option maxRecDepth 20000 in
theorem wd_1225 : Cond.code yX8_standsIn cX8_standsIn 3 none ∈ zz_TG := List.mem_filter.mpr ⟨zz_in5 (List.mem_of_getElem? (i := 197) rfl), rfl⟩
set_option maxRecDepth 20000 in
theorem wd_1226 : Cond.methodLink "NeverTogetherModel" 170 yX8_pairs ∈ zz_TG := List.mem_filter.mpr ⟨zz_in5 (List.mem_of_getElem? (i := 198) rfl), rfl⟩
set_option maxRecDepth 20000 in
theorem wd_1228 : Cond.instanceMethod yX8_pairs ∈ zz_TG := List.mem_filter.mpr ⟨zz_in5 (List.mem_of_getElem? (i := 200) rfl), rfl⟩
set_option maxRecDepth 20000 in
theorem wd_1229 : Cond.code yX8_pairs cX8_pairs 4 (some .int) ∈ zz_TG := List.mem_filter.mpr ⟨zz_in5 (List.mem_of_getElem? (i := 201) rfl), rfl⟩
set_option maxRecDepth 20000 in
theorem wd_1230 : Cond.methodLink "NeverTogetherLaw" 77 yX8_touch ∈ zz_TG := List.mem_filter.mpr ⟨zz_in5 (List.mem_of_getElem? (i := 202) rfl), rfl⟩
set_option maxRecDepth 20000 in
theorem wd_1231 : Cond.instanceMethod yX8_touch ∈ zz_TG := List.mem_filter.mpr ⟨zz_in5 (List.mem_of_getElem? (i := 203) rfl), rfl⟩
set_option maxRecDepth 20000 in
theorem wd_1232 : Cond.selects "NeverTogetherModel" yX8_touch yX8_touch ∈ zz_TG := List.mem_filter.mpr ⟨zz_in5 (List.mem_of_getElem? (i := 204) rfl), rfl⟩
set_option maxRecDepth 20000 in
theorem wd_1233 : Cond.code yX8_touch cX8_touch 3 (some .int) ∈ zz_TG := List.mem_filter.mpr ⟨zz_in5 (List.mem_of_getElem? (i := 205) rfl), rfl⟩
set_option maxRecDepth 20000 in
theorem wd_1234 : Jvm.Cond.constantLong "NeverTogetherModel" 183 (-5) ∈ zz_TG := List.mem_filter.mpr ⟨zz_in5 (List.mem_of_getElem? (i := 206) rfl), rfl⟩
set_option maxRecDepth 20000 in
theorem wd_1235 : Cond.methodLink "NeverTogetherModel" 185 yX8_touches ∈ zz_TG := List.mem_filter.mpr ⟨zz_in5 (List.mem_of_getElem? (i := 207) rfl), rfl⟩
set_option maxRecDepth 20000 in
theorem wd_1237 : Cond.instanceMethod yX8_touches ∈ zz_TG := List.mem_filter.mpr ⟨zz_in5 (List.mem_of_getElem? (i := 209) rfl), rfl⟩
set_option maxRecDepth 20000 in
theorem wd_1238 : Cond.code yX8_touches cX8_touches 3 none ∈ zz_TG := List.mem_filter.mpr ⟨zz_in5 (List.mem_of_getElem? (i := 210) rfl), rfl⟩
set_option maxRecDepth 20000 in
theorem wd_1239 : Cond.methodLink "NeverTogetherLaw" 81 yX8_undo ∈ zz_TG := List.mem_filter.mpr ⟨zz_in5 (List.mem_of_getElem? (i := 211) rfl), rfl⟩
set_option maxRecDepth 20000 in
theorem wd_1240 : Cond.instanceMethod yX8_undo ∈ zz_TG := List.mem_filter.mpr ⟨zz_in5 (List.mem_of_getElem? (i := 212) rfl), rfl⟩
set_option maxRecDepth 20000 in
theorem wd_1241 : Cond.selects "NeverTogetherModel" yX8_undo yX8_undo ∈ zz_TG := List.mem_filter.mpr ⟨zz_in5 (List.mem_of_getElem? (i := 213) rfl), rfl⟩
set_option maxRecDepth 20000 in
theorem wd_1242 : Cond.code yX8_undo cX8_undo 3 (some .int) ∈ zz_TG := List.mem_filter.mpr ⟨zz_in5 (List.mem_of_getElem? (i := 214) rfl), rfl⟩
set_option maxRecDepth 20000 in
theorem wd_1243 : Cond.methodLink "NeverTogetherLaw" 85 yX8_keep ∈ zz_TG := List.mem_filter.mpr ⟨zz_in5 (List.mem_of_getElem? (i := 215) rfl), rfl⟩
set_option maxRecDepth 20000 in
theorem wd_1244 : Cond.instanceMethod yX8_keep ∈ zz_TG := List.mem_filter.mpr ⟨zz_in5 (List.mem_of_getElem? (i := 216) rfl), rfl⟩
set_option maxRecDepth 20000 in
theorem wd_1245 : Cond.selects "NeverTogetherModel" yX8_keep yX8_keep ∈ zz_TG := List.mem_filter.mpr ⟨zz_in5 (List.mem_of_getElem? (i := 217) rfl), rfl⟩
set_option maxRecDepth 20000 in
theorem wd_1246 : Cond.code yX8_keep cX8_keep 2 (some .int) ∈ zz_TG := List.mem_filter.mpr ⟨zz_in5 (List.mem_of_getElem? (i := 218) rfl), rfl⟩
set_option maxRecDepth 20000 in
theorem wd_1247 : Jvm.Cond.constantLong "NeverTogetherModel" 188 2 ∈ zz_TG := List.mem_filter.mpr ⟨zz_in5 (List.mem_of_getElem? (i := 219) rfl), rfl⟩
set_option maxRecDepth 20000 in
theorem wd_1248 : Cond.methodLink "NeverTogetherLaw" 89 yX8_on ∈ zz_TG := List.mem_filter.mpr ⟨zz_in5 (List.mem_of_getElem? (i := 220) rfl), rfl⟩
set_option maxRecDepth 20000 in
theorem wd_1249 : Cond.instanceMethod yX8_on ∈ zz_TG := List.mem_filter.mpr ⟨zz_in5 (List.mem_of_getElem? (i := 221) rfl), rfl⟩
set_option maxRecDepth 20000 in
theorem wd_1250 : Cond.selects "NeverTogetherModel" yX8_on yX8_on ∈ zz_TG := List.mem_filter.mpr ⟨zz_in5 (List.mem_of_getElem? (i := 222) rfl), rfl⟩
set_option maxRecDepth 20000 in
theorem wd_1251 : Cond.code yX8_on cX8_on 2 (some .int) ∈ zz_TG := List.mem_filter.mpr ⟨zz_in5 (List.mem_of_getElem? (i := 223) rfl), rfl⟩
set_option maxRecDepth 20000 in
theorem wd_1252 : Cond.methodLink "NeverTogetherLaw" 93 yX8_minute ∈ zz_TG := List.mem_filter.mpr ⟨zz_in5 (List.mem_of_getElem? (i := 224) rfl), rfl⟩
set_option maxRecDepth 20000 in
theorem wd_1253 : Cond.instanceMethod yX8_minute ∈ zz_TG := List.mem_filter.mpr ⟨zz_in5 (List.mem_of_getElem? (i := 225) rfl), rfl⟩
set_option maxRecDepth 20000 in
theorem wd_1254 : Cond.selects "NeverTogetherModel" yX8_minute yX8_minute ∈ zz_TG := List.mem_filter.mpr ⟨zz_in5 (List.mem_of_getElem? (i := 226) rfl), rfl⟩
set_option maxRecDepth 20000 in
theorem wd_1255 : Cond.code yX8_minute cX8_minute 3 (some .int) ∈ zz_TG := List.mem_filter.mpr ⟨zz_in5 (List.mem_of_getElem? (i := 227) rfl), rfl⟩
set_option maxRecDepth 20000 in
theorem wd_1256 : Cond.methodLink "NeverTogetherModel" 192 yX8_isSpan ∈ zz_TG := List.mem_filter.mpr ⟨zz_in5 (List.mem_of_getElem? (i := 228) rfl), rfl⟩
set_option maxRecDepth 20000 in
theorem wd_1257 : Cond.static yX8_isSpan ∈ zz_TG := List.mem_filter.mpr ⟨zz_in5 (List.mem_of_getElem? (i := 229) rfl), rfl⟩
set_option maxRecDepth 20000 in
theorem wd_1258 : Cond.code yX8_isSpan cX8_isSpan 1 (some .boolean) ∈ zz_TG := List.mem_filter.mpr ⟨zz_in5 (List.mem_of_getElem? (i := 230) rfl), rfl⟩
set_option maxRecDepth 20000 in
theorem wd_1259 : Jvm.Cond.constantLong "NeverTogetherModel" 190 420 ∈ zz_TG := List.mem_filter.mpr ⟨zz_in5 (List.mem_of_getElem? (i := 231) rfl), rfl⟩
set_option maxRecDepth 20000 in
theorem wd_1260 : Cond.methodLink "NeverTogetherLaw" 97 yX8_meet ∈ zz_TG := List.mem_filter.mpr ⟨zz_in5 (List.mem_of_getElem? (i := 232) rfl), rfl⟩
set_option maxRecDepth 20000 in
theorem wd_1261 : Cond.instanceMethod yX8_meet ∈ zz_TG := List.mem_filter.mpr ⟨zz_in5 (List.mem_of_getElem? (i := 233) rfl), rfl⟩
set_option maxRecDepth 20000 in
theorem wd_1262 : Cond.selects "NeverTogetherModel" yX8_meet yX8_meet ∈ zz_TG := List.mem_filter.mpr ⟨zz_in5 (List.mem_of_getElem? (i := 234) rfl), rfl⟩
set_option maxRecDepth 20000 in
theorem wd_1263 : Cond.code yX8_meet cX8_meet 3 (some .int) ∈ zz_TG := List.mem_filter.mpr ⟨zz_in5 (List.mem_of_getElem? (i := 235) rfl), rfl⟩
set_option maxRecDepth 20000 in
theorem wd_1264 : Cond.methodLink "NeverTogetherModel" 207 yX8_areTwo ∈ zz_TG := List.mem_filter.mpr ⟨zz_in5 (List.mem_of_getElem? (i := 236) rfl), rfl⟩
set_option maxRecDepth 20000 in
theorem wd_1266 : Cond.instanceMethod yX8_areTwo ∈ zz_TG := List.mem_filter.mpr ⟨zz_in5 (List.mem_of_getElem? (i := 238) rfl), rfl⟩
set_option maxRecDepth 20000 in
theorem wd_1267 : Cond.code yX8_areTwo cX8_areTwo 3 (some .boolean) ∈ zz_TG := List.mem_filter.mpr ⟨zz_in5 (List.mem_of_getElem? (i := 239) rfl), rfl⟩
set_option maxRecDepth 20000 in
theorem wd_1268 : Cond.methodLink "NeverTogetherModel" 211 yX8_meetOf ∈ zz_TG := List.mem_filter.mpr ⟨zz_in6 (List.mem_of_getElem? (i := 0) rfl), rfl⟩
set_option maxRecDepth 20000 in
theorem wd_1270 : Cond.instanceMethod yX8_meetOf ∈ zz_TG := List.mem_filter.mpr ⟨zz_in6 (List.mem_of_getElem? (i := 2) rfl), rfl⟩
set_option maxRecDepth 20000 in
theorem wd_1271 : Cond.code yX8_meetOf cX8_meetOf 4 (some .int) ∈ zz_TG := List.mem_filter.mpr ⟨zz_in6 (List.mem_of_getElem? (i := 3) rfl), rfl⟩
set_option maxRecDepth 20000 in
theorem wd_1272 : Cond.methodLink "NeverTogetherModel" 201 yX8_begins ∈ zz_TG := List.mem_filter.mpr ⟨zz_in6 (List.mem_of_getElem? (i := 4) rfl), rfl⟩
set_option maxRecDepth 20000 in
theorem wd_1274 : Cond.instanceMethod yX8_begins ∈ zz_TG := List.mem_filter.mpr ⟨zz_in6 (List.mem_of_getElem? (i := 6) rfl), rfl⟩
set_option maxRecDepth 20000 in
theorem wd_1275 : Cond.code yX8_begins cX8_begins 3 none ∈ zz_TG := List.mem_filter.mpr ⟨zz_in6 (List.mem_of_getElem? (i := 7) rfl), rfl⟩
set_option maxRecDepth 20000 in
theorem wd_1276 : Cond.methodLink "NeverTogetherModel" 204 yX8_goes ∈ zz_TG := List.mem_filter.mpr ⟨zz_in6 (List.mem_of_getElem? (i := 8) rfl), rfl⟩
set_option maxRecDepth 20000 in
theorem wd_1278 : Cond.instanceMethod yX8_goes ∈ zz_TG := List.mem_filter.mpr ⟨zz_in6 (List.mem_of_getElem? (i := 10) rfl), rfl⟩
set_option maxRecDepth 20000 in
theorem wd_1279 : Cond.code yX8_goes cX8_goes 4 none ∈ zz_TG := List.mem_filter.mpr ⟨zz_in6 (List.mem_of_getElem? (i := 11) rfl), rfl⟩
set_option maxRecDepth 20000 in
theorem wd_1280 : Cond.methodLink "NeverTogetherLaw" 101 yX8_meets ∈ zz_TG := List.mem_filter.mpr ⟨zz_in6 (List.mem_of_getElem? (i := 12) rfl), rfl⟩
set_option maxRecDepth 20000 in
theorem wd_1281 : Cond.instanceMethod yX8_meets ∈ zz_TG := List.mem_filter.mpr ⟨zz_in6 (List.mem_of_getElem? (i := 13) rfl), rfl⟩
set_option maxRecDepth 20000 in
theorem wd_1282 : Cond.selects "NeverTogetherModel" yX8_meets yX8_meets ∈ zz_TG := List.mem_filter.mpr ⟨zz_in6 (List.mem_of_getElem? (i := 14) rfl), rfl⟩
set_option maxRecDepth 20000 in
theorem wd_1283 : Cond.code yX8_meets cX8_meets 3 (some .int) ∈ zz_TG := List.mem_filter.mpr ⟨zz_in6 (List.mem_of_getElem? (i := 15) rfl), rfl⟩
set_option maxRecDepth 20000 in
theorem wd_1284 : Cond.methodLink "NeverTogetherLaw" 105 yX8_soon ∈ zz_TG := List.mem_filter.mpr ⟨zz_in6 (List.mem_of_getElem? (i := 16) rfl), rfl⟩
set_option maxRecDepth 20000 in
theorem wd_1285 : Cond.instanceMethod yX8_soon ∈ zz_TG := List.mem_filter.mpr ⟨zz_in6 (List.mem_of_getElem? (i := 17) rfl), rfl⟩
set_option maxRecDepth 20000 in
theorem wd_1286 : Cond.selects "NeverTogetherModel" yX8_soon yX8_soon ∈ zz_TG := List.mem_filter.mpr ⟨zz_in6 (List.mem_of_getElem? (i := 18) rfl), rfl⟩
set_option maxRecDepth 20000 in
theorem wd_1287 : Cond.code yX8_soon cX8_soon 6 (some .int) ∈ zz_TG := List.mem_filter.mpr ⟨zz_in6 (List.mem_of_getElem? (i := 19) rfl), rfl⟩
set_option maxRecDepth 20000 in
theorem wd_1288 : Jvm.Cond.constant "NeverTogetherModel" 214 1000000 ∈ zz_TG := List.mem_filter.mpr ⟨zz_in6 (List.mem_of_getElem? (i := 20) rfl), rfl⟩
set_option maxRecDepth 20000 in
theorem wd_1289 : Cond.methodLink "NeverTogetherLaw" 109 yX8_often ∈ zz_TG := List.mem_filter.mpr ⟨zz_in6 (List.mem_of_getElem? (i := 21) rfl), rfl⟩
set_option maxRecDepth 20000 in
theorem wd_1290 : Cond.instanceMethod yX8_often ∈ zz_TG := List.mem_filter.mpr ⟨zz_in6 (List.mem_of_getElem? (i := 22) rfl), rfl⟩
set_option maxRecDepth 20000 in
theorem wd_1291 : Cond.selects "NeverTogetherModel" yX8_often yX8_often ∈ zz_TG := List.mem_filter.mpr ⟨zz_in6 (List.mem_of_getElem? (i := 23) rfl), rfl⟩
set_option maxRecDepth 20000 in
theorem wd_1292 : Cond.code yX8_often cX8_often 6 (some .int) ∈ zz_TG := List.mem_filter.mpr ⟨zz_in6 (List.mem_of_getElem? (i := 24) rfl), rfl⟩
set_option maxRecDepth 20000 in
theorem wd_1293 : Cond.methodLink "NeverTogetherLaw" 113 yX8_sounds ∈ zz_TG := List.mem_filter.mpr ⟨zz_in6 (List.mem_of_getElem? (i := 25) rfl), rfl⟩
set_option maxRecDepth 20000 in
theorem wd_1294 : Cond.instanceMethod yX8_sounds ∈ zz_TG := List.mem_filter.mpr ⟨zz_in6 (List.mem_of_getElem? (i := 26) rfl), rfl⟩
set_option maxRecDepth 20000 in
theorem wd_1295 : Cond.selects "NeverTogetherModel" yX8_sounds yX8_sounds ∈ zz_TG := List.mem_filter.mpr ⟨zz_in6 (List.mem_of_getElem? (i := 27) rfl), rfl⟩
set_option maxRecDepth 20000 in
theorem wd_1296 : Cond.code yX8_sounds cX8_sounds 4 (some .int) ∈ zz_TG := List.mem_filter.mpr ⟨zz_in6 (List.mem_of_getElem? (i := 28) rfl), rfl⟩
set_option maxRecDepth 20000 in
theorem wd_1297 : Cond.methodLink "NeverTogetherModel" 215 yX8_rings ∈ zz_TG := List.mem_filter.mpr ⟨zz_in6 (List.mem_of_getElem? (i := 29) rfl), rfl⟩
set_option maxRecDepth 20000 in
theorem wd_1299 : Cond.instanceMethod yX8_rings ∈ zz_TG := List.mem_filter.mpr ⟨zz_in6 (List.mem_of_getElem? (i := 31) rfl), rfl⟩
set_option maxRecDepth 20000 in
theorem wd_1300 : Cond.code yX8_rings cX8_rings 5 none ∈ zz_TG := List.mem_filter.mpr ⟨zz_in6 (List.mem_of_getElem? (i := 32) rfl), rfl⟩
set_option maxRecDepth 20000 in
theorem wd_1301 : Cond.methodLink "NeverTogetherLaw" 117 yX8_room ∈ zz_TG := List.mem_filter.mpr ⟨zz_in6 (List.mem_of_getElem? (i := 33) rfl), rfl⟩
set_option maxRecDepth 20000 in
theorem wd_1302 : Cond.instanceMethod yX8_room ∈ zz_TG := List.mem_filter.mpr ⟨zz_in6 (List.mem_of_getElem? (i := 34) rfl), rfl⟩
set_option maxRecDepth 20000 in
theorem wd_1303 : Cond.selects "NeverTogetherModel" yX8_room yX8_room ∈ zz_TG := List.mem_filter.mpr ⟨zz_in6 (List.mem_of_getElem? (i := 35) rfl), rfl⟩
set_option maxRecDepth 20000 in
theorem wd_1304 : Cond.code yX8_room cX8_room 8 (some .int) ∈ zz_TG := List.mem_filter.mpr ⟨zz_in6 (List.mem_of_getElem? (i := 36) rfl), rfl⟩
set_option maxRecDepth 20000 in
theorem wd_1305 : Jvm.Cond.constantLong "NeverTogetherModel" 218 9 ∈ zz_TG := List.mem_filter.mpr ⟨zz_in6 (List.mem_of_getElem? (i := 37) rfl), rfl⟩
set_option maxRecDepth 20000 in
theorem wd_1306 : Cond.methodLink "NeverTogetherLaw" 121 yX8_right ∈ zz_TG := List.mem_filter.mpr ⟨zz_in6 (List.mem_of_getElem? (i := 38) rfl), rfl⟩
set_option maxRecDepth 20000 in
theorem wd_1307 : Cond.instanceMethod yX8_right ∈ zz_TG := List.mem_filter.mpr ⟨zz_in6 (List.mem_of_getElem? (i := 39) rfl), rfl⟩
set_option maxRecDepth 20000 in
theorem wd_1308 : Cond.selects "NeverTogetherModel" yX8_right yX8_right ∈ zz_TG := List.mem_filter.mpr ⟨zz_in6 (List.mem_of_getElem? (i := 40) rfl), rfl⟩
set_option maxRecDepth 20000 in
theorem wd_1309 : Cond.code yX8_right cX8_right 7 (some .int) ∈ zz_TG := List.mem_filter.mpr ⟨zz_in6 (List.mem_of_getElem? (i := 41) rfl), rfl⟩
set_option maxRecDepth 20000 in
theorem wd_1310 : Jvm.Cond.constantLong "NeverTogetherModel" 220 59 ∈ zz_TG := List.mem_filter.mpr ⟨zz_in6 (List.mem_of_getElem? (i := 42) rfl), rfl⟩
set_option maxRecDepth 20000 in
theorem wd_1311 : Cond.methodLink "NeverTogetherLaw" 125 yX8_apart ∈ zz_TG := List.mem_filter.mpr ⟨zz_in6 (List.mem_of_getElem? (i := 43) rfl), rfl⟩
set_option maxRecDepth 20000 in
theorem wd_1312 : Cond.instanceMethod yX8_apart ∈ zz_TG := List.mem_filter.mpr ⟨zz_in6 (List.mem_of_getElem? (i := 44) rfl), rfl⟩
set_option maxRecDepth 20000 in
theorem wd_1313 : Cond.selects "NeverTogetherModel" yX8_apart yX8_apart ∈ zz_TG := List.mem_filter.mpr ⟨zz_in6 (List.mem_of_getElem? (i := 45) rfl), rfl⟩
set_option maxRecDepth 20000 in
theorem wd_1314 : Cond.code yX8_apart cX8_apart 6 (some .int) ∈ zz_TG := List.mem_filter.mpr ⟨zz_in6 (List.mem_of_getElem? (i := 46) rfl), rfl⟩
set_option maxRecDepth 20000 in
theorem wd_1315 : Jvm.Cond.constantLong "NeverTogetherModel" 229 7 ∈ zz_TG := List.mem_filter.mpr ⟨zz_in6 (List.mem_of_getElem? (i := 47) rfl), rfl⟩
set_option maxRecDepth 20000 in
theorem wd_1316 : Cond.methodLink "NeverTogetherModel" 231 yX8_layClashes ∈ zz_TG := List.mem_filter.mpr ⟨zz_in6 (List.mem_of_getElem? (i := 48) rfl), rfl⟩
set_option maxRecDepth 20000 in
theorem wd_1318 : Cond.instanceMethod yX8_layClashes ∈ zz_TG := List.mem_filter.mpr ⟨zz_in6 (List.mem_of_getElem? (i := 50) rfl), rfl⟩
set_option maxRecDepth 20000 in
theorem wd_1319 : Cond.code yX8_layClashes cX8_layClashes 5 none ∈ zz_TG := List.mem_filter.mpr ⟨zz_in6 (List.mem_of_getElem? (i := 51) rfl), rfl⟩
set_option maxRecDepth 20000 in
theorem wd_1320 : Cond.methodLink "NeverTogetherModel" 222 yX8_clash ∈ zz_TG := List.mem_filter.mpr ⟨zz_in6 (List.mem_of_getElem? (i := 52) rfl), rfl⟩
set_option maxRecDepth 20000 in
theorem wd_1322 : Cond.instanceMethod yX8_clash ∈ zz_TG := List.mem_filter.mpr ⟨zz_in6 (List.mem_of_getElem? (i := 54) rfl), rfl⟩
set_option maxRecDepth 20000 in
theorem wd_1323 : Cond.code yX8_clash cX8_clash 8 (some .boolean) ∈ zz_TG := List.mem_filter.mpr ⟨zz_in6 (List.mem_of_getElem? (i := 55) rfl), rfl⟩
set_option maxRecDepth 20000 in
theorem wd_1324 : Cond.methodLink "NeverTogetherModel" 234 yX8_codes ∈ zz_TG := List.mem_filter.mpr ⟨zz_in6 (List.mem_of_getElem? (i := 56) rfl), rfl⟩
set_option maxRecDepth 20000 in
theorem wd_1326 : Cond.instanceMethod yX8_codes ∈ zz_TG := List.mem_filter.mpr ⟨zz_in6 (List.mem_of_getElem? (i := 58) rfl), rfl⟩
set_option maxRecDepth 20000 in
theorem wd_1327 : Cond.code yX8_codes cX8_codes 3 (some .int) ∈ zz_TG := List.mem_filter.mpr ⟨zz_in6 (List.mem_of_getElem? (i := 59) rfl), rfl⟩
set_option maxRecDepth 20000 in
theorem wd_1328 : Cond.methodLink "NeverTogetherModel" 237 yX8_isApart ∈ zz_TG := List.mem_filter.mpr ⟨zz_in6 (List.mem_of_getElem? (i := 60) rfl), rfl⟩
set_option maxRecDepth 20000 in
theorem wd_1330 : Cond.instanceMethod yX8_isApart ∈ zz_TG := List.mem_filter.mpr ⟨zz_in6 (List.mem_of_getElem? (i := 62) rfl), rfl⟩
set_option maxRecDepth 20000 in
theorem wd_1331 : Cond.code yX8_isApart cX8_isApart 6 (some .boolean) ∈ zz_TG := List.mem_filter.mpr ⟨zz_in6 (List.mem_of_getElem? (i := 63) rfl), rfl⟩
set_option maxRecDepth 20000 in
theorem wd_1332 : Cond.methodLink "NeverTogetherModel" 240 yX8_ones ∈ zz_TG := List.mem_filter.mpr ⟨zz_in6 (List.mem_of_getElem? (i := 64) rfl), rfl⟩
set_option maxRecDepth 20000 in
theorem wd_1333 : Cond.static yX8_ones ∈ zz_TG := List.mem_filter.mpr ⟨zz_in6 (List.mem_of_getElem? (i := 65) rfl), rfl⟩
set_option maxRecDepth 20000 in
theorem wd_1334 : Cond.code yX8_ones cX8_ones 3 (some .int) ∈ zz_TG := List.mem_filter.mpr ⟨zz_in6 (List.mem_of_getElem? (i := 66) rfl), rfl⟩
set_option maxRecDepth 20000 in
theorem wd_1335 : Cond.methodLink "NeverTogetherLaw" 129 yX8_stairs ∈ zz_TG := List.mem_filter.mpr ⟨zz_in6 (List.mem_of_getElem? (i := 67) rfl), rfl⟩
set_option maxRecDepth 20000 in
theorem wd_1336 : Cond.instanceMethod yX8_stairs ∈ zz_TG := List.mem_filter.mpr ⟨zz_in6 (List.mem_of_getElem? (i := 68) rfl), rfl⟩
set_option maxRecDepth 20000 in
theorem wd_1337 : Cond.selects "NeverTogetherModel" yX8_stairs yX8_stairs ∈ zz_TG := List.mem_filter.mpr ⟨zz_in6 (List.mem_of_getElem? (i := 69) rfl), rfl⟩
set_option maxRecDepth 20000 in
theorem wd_1338 : Cond.code yX8_stairs cX8_stairs 6 (some .int) ∈ zz_TG := List.mem_filter.mpr ⟨zz_in6 (List.mem_of_getElem? (i := 70) rfl), rfl⟩
set_option maxRecDepth 20000 in
theorem wd_1339 : Cond.methodLink "NeverTogetherModel" 246 yX8_stairsOf ∈ zz_TG := List.mem_filter.mpr ⟨zz_in6 (List.mem_of_getElem? (i := 71) rfl), rfl⟩
set_option maxRecDepth 20000 in
theorem wd_1341 : Cond.instanceMethod yX8_stairsOf ∈ zz_TG := List.mem_filter.mpr ⟨zz_in6 (List.mem_of_getElem? (i := 73) rfl), rfl⟩
set_option maxRecDepth 20000 in
theorem wd_1342 : Cond.code yX8_stairsOf cX8_stairsOf 4 (some .int) ∈ zz_TG := List.mem_filter.mpr ⟨zz_in6 (List.mem_of_getElem? (i := 74) rfl), rfl⟩
set_option maxRecDepth 20000 in
theorem wd_1343 : Cond.methodLink "NeverTogetherModel" 243 yX8_has ∈ zz_TG := List.mem_filter.mpr ⟨zz_in6 (List.mem_of_getElem? (i := 75) rfl), rfl⟩
set_option maxRecDepth 20000 in
theorem wd_1344 : Cond.static yX8_has ∈ zz_TG := List.mem_filter.mpr ⟨zz_in6 (List.mem_of_getElem? (i := 76) rfl), rfl⟩
set_option maxRecDepth 20000 in
theorem wd_1345 : Cond.code yX8_has cX8_has 2 (some .boolean) ∈ zz_TG := List.mem_filter.mpr ⟨zz_in6 (List.mem_of_getElem? (i := 77) rfl), rfl⟩
set_option maxRecDepth 20000 in
theorem wd_1346 : Cond.methodLink "NeverTogetherLaw" 133 yX8_doomed ∈ zz_TG := List.mem_filter.mpr ⟨zz_in6 (List.mem_of_getElem? (i := 78) rfl), rfl⟩
set_option maxRecDepth 20000 in
theorem wd_1347 : Cond.instanceMethod yX8_doomed ∈ zz_TG := List.mem_filter.mpr ⟨zz_in6 (List.mem_of_getElem? (i := 79) rfl), rfl⟩
set_option maxRecDepth 20000 in
theorem wd_1348 : Cond.selects "NeverTogetherModel" yX8_doomed yX8_doomed ∈ zz_TG := List.mem_filter.mpr ⟨zz_in6 (List.mem_of_getElem? (i := 80) rfl), rfl⟩
set_option maxRecDepth 20000 in
theorem wd_1349 : Cond.code yX8_doomed cX8_doomed 8 (some .int) ∈ zz_TG := List.mem_filter.mpr ⟨zz_in6 (List.mem_of_getElem? (i := 81) rfl), rfl⟩
set_option maxRecDepth 20000 in
theorem wd_1350 : Jvm.Cond.constantLong "NeverTogetherModel" 249 60 ∈ zz_TG := List.mem_filter.mpr ⟨zz_in6 (List.mem_of_getElem? (i := 82) rfl), rfl⟩
set_option maxRecDepth 20000 in
theorem wd_1351 : Cond.methodLink "NeverTogetherLaw" 137 yX8_out ∈ zz_TG := List.mem_filter.mpr ⟨zz_in6 (List.mem_of_getElem? (i := 83) rfl), rfl⟩
set_option maxRecDepth 20000 in
theorem wd_1352 : Cond.instanceMethod yX8_out ∈ zz_TG := List.mem_filter.mpr ⟨zz_in6 (List.mem_of_getElem? (i := 84) rfl), rfl⟩
set_option maxRecDepth 20000 in
theorem wd_1353 : Cond.selects "NeverTogetherModel" yX8_out yX8_out ∈ zz_TG := List.mem_filter.mpr ⟨zz_in6 (List.mem_of_getElem? (i := 85) rfl), rfl⟩
set_option maxRecDepth 20000 in
theorem wd_1354 : Cond.code yX8_out cX8_out 7 (some .int) ∈ zz_TG := List.mem_filter.mpr ⟨zz_in6 (List.mem_of_getElem? (i := 86) rfl), rfl⟩
set_option maxRecDepth 20000 in
theorem wd_1355 : Cond.methodLink "NeverTogetherLaw" 141 yX8_late ∈ zz_TG := List.mem_filter.mpr ⟨zz_in6 (List.mem_of_getElem? (i := 87) rfl), rfl⟩
set_option maxRecDepth 20000 in
theorem wd_1356 : Cond.instanceMethod yX8_late ∈ zz_TG := List.mem_filter.mpr ⟨zz_in6 (List.mem_of_getElem? (i := 88) rfl), rfl⟩
set_option maxRecDepth 20000 in
theorem wd_1357 : Cond.selects "NeverTogetherModel" yX8_late yX8_late ∈ zz_TG := List.mem_filter.mpr ⟨zz_in6 (List.mem_of_getElem? (i := 89) rfl), rfl⟩
set_option maxRecDepth 20000 in
theorem wd_1358 : Cond.code yX8_late cX8_late 7 (some .int) ∈ zz_TG := List.mem_filter.mpr ⟨zz_in6 (List.mem_of_getElem? (i := 90) rfl), rfl⟩
set_option maxRecDepth 20000 in
theorem wd_1359 : Cond.methodLink "NeverTogetherLaw" 145 yX8_rates ∈ zz_TG := List.mem_filter.mpr ⟨zz_in6 (List.mem_of_getElem? (i := 91) rfl), rfl⟩
set_option maxRecDepth 20000 in
theorem wd_1360 : Cond.instanceMethod yX8_rates ∈ zz_TG := List.mem_filter.mpr ⟨zz_in6 (List.mem_of_getElem? (i := 92) rfl), rfl⟩
set_option maxRecDepth 20000 in
theorem wd_1361 : Cond.selects "NeverTogetherModel" yX8_rates yX8_rates ∈ zz_TG := List.mem_filter.mpr ⟨zz_in6 (List.mem_of_getElem? (i := 93) rfl), rfl⟩
set_option maxRecDepth 20000 in
theorem wd_1362 : Cond.code yX8_rates cX8_rates 6 (some .int) ∈ zz_TG := List.mem_filter.mpr ⟨zz_in6 (List.mem_of_getElem? (i := 94) rfl), rfl⟩
set_option maxRecDepth 20000 in
theorem wd_1363 : Cond.methodLink "NeverTogetherModel" 251 yX8_against ∈ zz_TG := List.mem_filter.mpr ⟨zz_in6 (List.mem_of_getElem? (i := 95) rfl), rfl⟩
set_option maxRecDepth 20000 in
theorem wd_1365 : Cond.instanceMethod yX8_against ∈ zz_TG := List.mem_filter.mpr ⟨zz_in6 (List.mem_of_getElem? (i := 97) rfl), rfl⟩
set_option maxRecDepth 20000 in
theorem wd_1366 : Cond.code yX8_against cX8_against 4 (some .int) ∈ zz_TG := List.mem_filter.mpr ⟨zz_in6 (List.mem_of_getElem? (i := 98) rfl), rfl⟩
set_option maxRecDepth 20000 in
theorem wd_1367 : Cond.methodLink "NeverTogetherModel" 254 yX8_isSo ∈ zz_TG := List.mem_filter.mpr ⟨zz_in6 (List.mem_of_getElem? (i := 99) rfl), rfl⟩
set_option maxRecDepth 20000 in
theorem wd_1369 : Cond.instanceMethod yX8_isSo ∈ zz_TG := List.mem_filter.mpr ⟨zz_in6 (List.mem_of_getElem? (i := 101) rfl), rfl⟩
set_option maxRecDepth 20000 in
theorem wd_1370 : Cond.code yX8_isSo cX8_isSo 7 (some .boolean) ∈ zz_TG := List.mem_filter.mpr ⟨zz_in6 (List.mem_of_getElem? (i := 102) rfl), rfl⟩
set_option maxRecDepth 20000 in
theorem wd_1371 : Cond.methodLink "NeverTogetherLaw" 149 yX8_kinds ∈ zz_TG := List.mem_filter.mpr ⟨zz_in6 (List.mem_of_getElem? (i := 103) rfl), rfl⟩
set_option maxRecDepth 20000 in
theorem wd_1372 : Cond.instanceMethod yX8_kinds ∈ zz_TG := List.mem_filter.mpr ⟨zz_in6 (List.mem_of_getElem? (i := 104) rfl), rfl⟩
set_option maxRecDepth 20000 in
theorem wd_1373 : Cond.selects "NeverTogetherModel" yX8_kinds yX8_kinds ∈ zz_TG := List.mem_filter.mpr ⟨zz_in6 (List.mem_of_getElem? (i := 105) rfl), rfl⟩
set_option maxRecDepth 20000 in
theorem wd_1374 : Cond.code yX8_kinds cX8_kinds 6 (some .int) ∈ zz_TG := List.mem_filter.mpr ⟨zz_in6 (List.mem_of_getElem? (i := 106) rfl), rfl⟩
set_option maxRecDepth 20000 in
theorem wd_1375 : Cond.methodLink "NeverTogetherLaw" 153 yX8_from ∈ zz_TG := List.mem_filter.mpr ⟨zz_in6 (List.mem_of_getElem? (i := 107) rfl), rfl⟩
set_option maxRecDepth 20000 in
theorem wd_1376 : Cond.instanceMethod yX8_from ∈ zz_TG := List.mem_filter.mpr ⟨zz_in6 (List.mem_of_getElem? (i := 108) rfl), rfl⟩
set_option maxRecDepth 20000 in
theorem wd_1377 : Cond.selects "NeverTogetherModel" yX8_from yX8_from ∈ zz_TG := List.mem_filter.mpr ⟨zz_in6 (List.mem_of_getElem? (i := 109) rfl), rfl⟩
set_option maxRecDepth 20000 in
theorem wd_1378 : Cond.code yX8_from cX8_from 8 (some .int) ∈ zz_TG := List.mem_filter.mpr ⟨zz_in6 (List.mem_of_getElem? (i := 110) rfl), rfl⟩
set_option maxRecDepth 20000 in
theorem wd_1379 : Cond.methodLink "NeverTogetherLaw" 157 yX8_cat ∈ zz_TG := List.mem_filter.mpr ⟨zz_in6 (List.mem_of_getElem? (i := 111) rfl), rfl⟩
set_option maxRecDepth 20000 in
theorem wd_1380 : Cond.instanceMethod yX8_cat ∈ zz_TG := List.mem_filter.mpr ⟨zz_in6 (List.mem_of_getElem? (i := 112) rfl), rfl⟩
set_option maxRecDepth 20000 in
theorem wd_1381 : Cond.selects "NeverTogetherModel" yX8_cat yX8_cat ∈ zz_TG := List.mem_filter.mpr ⟨zz_in6 (List.mem_of_getElem? (i := 113) rfl), rfl⟩
set_option maxRecDepth 20000 in
theorem wd_1382 : Cond.code yX8_cat cX8_cat 2 (some .int) ∈ zz_TG := List.mem_filter.mpr ⟨zz_in6 (List.mem_of_getElem? (i := 114) rfl), rfl⟩
set_option maxRecDepth 20000 in
theorem wd_1383 : Cond.methodLink "NeverTogetherModel" 270 yX8_firstOf ∈ zz_TG := List.mem_filter.mpr ⟨zz_in6 (List.mem_of_getElem? (i := 115) rfl), rfl⟩
set_option maxRecDepth 20000 in
theorem wd_1385 : Cond.instanceMethod yX8_firstOf ∈ zz_TG := List.mem_filter.mpr ⟨zz_in6 (List.mem_of_getElem? (i := 117) rfl), rfl⟩
set_option maxRecDepth 20000 in
theorem wd_1386 : Cond.code yX8_firstOf cX8_firstOf 3 (some .int) ∈ zz_TG := List.mem_filter.mpr ⟨zz_in6 (List.mem_of_getElem? (i := 118) rfl), rfl⟩
set_option maxRecDepth 20000 in
theorem wd_1387 : Cond.methodLink "NeverTogetherModel" 267 yX8_winsBy ∈ zz_TG := List.mem_filter.mpr ⟨zz_in6 (List.mem_of_getElem? (i := 119) rfl), rfl⟩
set_option maxRecDepth 20000 in
theorem wd_1389 : Cond.instanceMethod yX8_winsBy ∈ zz_TG := List.mem_filter.mpr ⟨zz_in6 (List.mem_of_getElem? (i := 121) rfl), rfl⟩
set_option maxRecDepth 20000 in
theorem wd_1390 : Cond.code yX8_winsBy cX8_winsBy 5 (some .boolean) ∈ zz_TG := List.mem_filter.mpr ⟨zz_in6 (List.mem_of_getElem? (i := 122) rfl), rfl⟩
set_option maxRecDepth 20000 in
theorem wd_1391 : Cond.methodLink "NeverTogetherModel" 257 yX8_turns ∈ zz_TG := List.mem_filter.mpr ⟨zz_in6 (List.mem_of_getElem? (i := 123) rfl), rfl⟩
set_option maxRecDepth 20000 in
theorem wd_1393 : Cond.instanceMethod yX8_turns ∈ zz_TG := List.mem_filter.mpr ⟨zz_in6 (List.mem_of_getElem? (i := 125) rfl), rfl⟩
set_option maxRecDepth 20000 in
theorem wd_1394 : Cond.code yX8_turns cX8_turns 4 none ∈ zz_TG := List.mem_filter.mpr ⟨zz_in6 (List.mem_of_getElem? (i := 126) rfl), rfl⟩
set_option maxRecDepth 20000 in
theorem wd_1395 : Cond.methodLink "NeverTogetherModel" 260 yX8_isSafe ∈ zz_TG := List.mem_filter.mpr ⟨zz_in6 (List.mem_of_getElem? (i := 127) rfl), rfl⟩
set_option maxRecDepth 20000 in
theorem wd_1397 : Cond.instanceMethod yX8_isSafe ∈ zz_TG := List.mem_filter.mpr ⟨zz_in6 (List.mem_of_getElem? (i := 129) rfl), rfl⟩
set_option maxRecDepth 20000 in
theorem wd_1398 : Cond.code yX8_isSafe cX8_isSafe 3 (some .boolean) ∈ zz_TG := List.mem_filter.mpr ⟨zz_in6 (List.mem_of_getElem? (i := 130) rfl), rfl⟩
set_option maxRecDepth 20000 in
theorem wd_1399 : Cond.methodLink "NeverTogetherModel" 264 yX8_winsOnce ∈ zz_TG := List.mem_filter.mpr ⟨zz_in6 (List.mem_of_getElem? (i := 131) rfl), rfl⟩
set_option maxRecDepth 20000 in
theorem wd_1401 : Cond.instanceMethod yX8_winsOnce ∈ zz_TG := List.mem_filter.mpr ⟨zz_in6 (List.mem_of_getElem? (i := 133) rfl), rfl⟩
set_option maxRecDepth 20000 in
theorem wd_1402 : Cond.code yX8_winsOnce cX8_winsOnce 3 (some .boolean) ∈ zz_TG := List.mem_filter.mpr ⟨zz_in6 (List.mem_of_getElem? (i := 134) rfl), rfl⟩
set_option maxRecDepth 20000 in
theorem wd_1403 : Cond.methodLink "NeverTogetherLaw" 161 yX8_first ∈ zz_TG := List.mem_filter.mpr ⟨zz_in6 (List.mem_of_getElem? (i := 135) rfl), rfl⟩
set_option maxRecDepth 20000 in
theorem wd_1404 : Cond.instanceMethod yX8_first ∈ zz_TG := List.mem_filter.mpr ⟨zz_in6 (List.mem_of_getElem? (i := 136) rfl), rfl⟩
set_option maxRecDepth 20000 in
theorem wd_1405 : Cond.selects "NeverTogetherModel" yX8_first yX8_first ∈ zz_TG := List.mem_filter.mpr ⟨zz_in6 (List.mem_of_getElem? (i := 137) rfl), rfl⟩
set_option maxRecDepth 20000 in
theorem wd_1406 : Cond.code yX8_first cX8_first 2 (some .int) ∈ zz_TG := List.mem_filter.mpr ⟨zz_in6 (List.mem_of_getElem? (i := 138) rfl), rfl⟩
set_option maxRecDepth 20000 in
theorem wd_1407 : Cond.methodLink "NeverTogetherLaw" 166 yX8_odds ∈ zz_TG := List.mem_filter.mpr ⟨zz_in6 (List.mem_of_getElem? (i := 139) rfl), rfl⟩
set_option maxRecDepth 20000 in
theorem wd_1408 : Cond.instanceMethod yX8_odds ∈ zz_TG := List.mem_filter.mpr ⟨zz_in6 (List.mem_of_getElem? (i := 140) rfl), rfl⟩
set_option maxRecDepth 20000 in
theorem wd_1409 : Cond.selects "NeverTogetherModel" yX8_odds yX8_odds ∈ zz_TG := List.mem_filter.mpr ⟨zz_in6 (List.mem_of_getElem? (i := 141) rfl), rfl⟩
set_option maxRecDepth 20000 in
theorem wd_1410 : Cond.code yX8_odds cX8_odds 15 (some .int) ∈ zz_TG := List.mem_filter.mpr ⟨zz_in6 (List.mem_of_getElem? (i := 142) rfl), rfl⟩
set_option maxRecDepth 20000 in
theorem wd_1411 : Jvm.Cond.constantLong "NeverTogetherModel" 276 6 ∈ zz_TG := List.mem_filter.mpr ⟨zz_in6 (List.mem_of_getElem? (i := 143) rfl), rfl⟩
set_option maxRecDepth 20000 in
theorem wd_1412 : Jvm.Cond.constantLong "NeverTogetherModel" 278 12 ∈ zz_TG := List.mem_filter.mpr ⟨zz_in6 (List.mem_of_getElem? (i := 144) rfl), rfl⟩
set_option maxRecDepth 20000 in
theorem wd_1413 : Cond.methodLink "NeverTogetherModel" 280 yX8_waysOf ∈ zz_TG := List.mem_filter.mpr ⟨zz_in6 (List.mem_of_getElem? (i := 145) rfl), rfl⟩
set_option maxRecDepth 20000 in
theorem wd_1414 : Cond.static yX8_waysOf ∈ zz_TG := List.mem_filter.mpr ⟨zz_in6 (List.mem_of_getElem? (i := 146) rfl), rfl⟩
set_option maxRecDepth 20000 in
theorem wd_1415 : Cond.code yX8_waysOf cX8_waysOf 8 (some .long) ∈ zz_TG := List.mem_filter.mpr ⟨zz_in6 (List.mem_of_getElem? (i := 147) rfl), rfl⟩
set_option maxRecDepth 20000 in
theorem wd_1416 : Cond.methodLink "NeverTogetherModel" 284 yX8_chance ∈ zz_TG := List.mem_filter.mpr ⟨zz_in6 (List.mem_of_getElem? (i := 148) rfl), rfl⟩
set_option maxRecDepth 20000 in
theorem wd_1418 : Cond.instanceMethod yX8_chance ∈ zz_TG := List.mem_filter.mpr ⟨zz_in6 (List.mem_of_getElem? (i := 150) rfl), rfl⟩
set_option maxRecDepth 20000 in
theorem wd_1419 : Cond.code yX8_chance cX8_chance 11 (some .int) ∈ zz_TG := List.mem_filter.mpr ⟨zz_in6 (List.mem_of_getElem? (i := 151) rfl), rfl⟩
set_option maxRecDepth 20000 in
theorem wd_1420 : Cond.methodLink "NeverTogetherLaw" 170 yX8_mid ∈ zz_TG := List.mem_filter.mpr ⟨zz_in6 (List.mem_of_getElem? (i := 152) rfl), rfl⟩
set_option maxRecDepth 20000 in
theorem wd_1421 : Cond.instanceMethod yX8_mid ∈ zz_TG := List.mem_filter.mpr ⟨zz_in6 (List.mem_of_getElem? (i := 153) rfl), rfl⟩
set_option maxRecDepth 20000 in
theorem wd_1422 : Cond.selects "NeverTogetherModel" yX8_mid yX8_mid ∈ zz_TG := List.mem_filter.mpr ⟨zz_in6 (List.mem_of_getElem? (i := 154) rfl), rfl⟩
set_option maxRecDepth 20000 in
theorem wd_1423 : Cond.code yX8_mid cX8_mid 4 (some .int) ∈ zz_TG := List.mem_filter.mpr ⟨zz_in6 (List.mem_of_getElem? (i := 155) rfl), rfl⟩
set_option maxRecDepth 20000 in
theorem wd_1424 : Cond.methodLink "NeverTogetherLaw" 174 yX8_lots ∈ zz_TG := List.mem_filter.mpr ⟨zz_in6 (List.mem_of_getElem? (i := 156) rfl), rfl⟩
set_option maxRecDepth 20000 in
theorem wd_1425 : Cond.instanceMethod yX8_lots ∈ zz_TG := List.mem_filter.mpr ⟨zz_in6 (List.mem_of_getElem? (i := 157) rfl), rfl⟩
set_option maxRecDepth 20000 in
theorem wd_1426 : Cond.selects "NeverTogetherModel" yX8_lots yX8_lots ∈ zz_TG := List.mem_filter.mpr ⟨zz_in6 (List.mem_of_getElem? (i := 158) rfl), rfl⟩
set_option maxRecDepth 20000 in
theorem wd_1427 : Cond.code yX8_lots cX8_lots 7 (some .int) ∈ zz_TG := List.mem_filter.mpr ⟨zz_in6 (List.mem_of_getElem? (i := 159) rfl), rfl⟩
set_option maxRecDepth 20000 in
theorem wd_1428 : Jvm.Cond.constantLong "NeverTogetherModel" 288 20 ∈ zz_TG := List.mem_filter.mpr ⟨zz_in6 (List.mem_of_getElem? (i := 160) rfl), rfl⟩
set_option maxRecDepth 20000 in
theorem wd_1429 : Jvm.Cond.constantLong "NeverTogetherModel" 290 2147483646 ∈ zz_TG := List.mem_filter.mpr ⟨zz_in6 (List.mem_of_getElem? (i := 161) rfl), rfl⟩
set_option maxRecDepth 20000 in
theorem wd_1430 : Jvm.Cond.constantLong "NeverTogetherModel" 292 48271 ∈ zz_TG := List.mem_filter.mpr ⟨zz_in6 (List.mem_of_getElem? (i := 162) rfl), rfl⟩
set_option maxRecDepth 20000 in
theorem wd_1431 : Jvm.Cond.constantLong "NeverTogetherModel" 294 2147483647 ∈ zz_TG := List.mem_filter.mpr ⟨zz_in6 (List.mem_of_getElem? (i := 163) rfl), rfl⟩
set_option maxRecDepth 20000 in
theorem wd_1432 : Jvm.Cond.constantLong "NeverTogetherModel" 296 8 ∈ zz_TG := List.mem_filter.mpr ⟨zz_in6 (List.mem_of_getElem? (i := 164) rfl), rfl⟩
set_option maxRecDepth 20000 in
theorem wd_1433 : Cond.methodLink "NeverTogetherLaw" 178 yX8_asked ∈ zz_TG := List.mem_filter.mpr ⟨zz_in6 (List.mem_of_getElem? (i := 165) rfl), rfl⟩
set_option maxRecDepth 20000 in
theorem wd_1434 : Cond.instanceMethod yX8_asked ∈ zz_TG := List.mem_filter.mpr ⟨zz_in6 (List.mem_of_getElem? (i := 166) rfl), rfl⟩
set_option maxRecDepth 20000 in
theorem wd_1435 : Cond.selects "NeverTogetherModel" yX8_asked yX8_asked ∈ zz_TG := List.mem_filter.mpr ⟨zz_in6 (List.mem_of_getElem? (i := 167) rfl), rfl⟩
set_option maxRecDepth 20000 in
theorem wd_1436 : Cond.code yX8_asked cX8_asked 1 (some .int) ∈ zz_TG := List.mem_filter.mpr ⟨zz_in6 (List.mem_of_getElem? (i := 168) rfl), rfl⟩
set_option maxRecDepth 20000 in
theorem wd_1437 : Cond.methodLink "NeverTogetherLaw" 183 yX8_upper ∈ zz_TG := List.mem_filter.mpr ⟨zz_in6 (List.mem_of_getElem? (i := 169) rfl), rfl⟩
set_option maxRecDepth 20000 in
theorem wd_1438 : Cond.instanceMethod yX8_upper ∈ zz_TG := List.mem_filter.mpr ⟨zz_in6 (List.mem_of_getElem? (i := 170) rfl), rfl⟩
set_option maxRecDepth 20000 in
theorem wd_1439 : Cond.selects "NeverTogetherModel" yX8_upper yX8_upper ∈ zz_TG := List.mem_filter.mpr ⟨zz_in6 (List.mem_of_getElem? (i := 171) rfl), rfl⟩
set_option maxRecDepth 20000 in
theorem wd_1440 : Cond.code yX8_upper cX8_upper 1 (some .long) ∈ zz_TG := List.mem_filter.mpr ⟨zz_in6 (List.mem_of_getElem? (i := 172) rfl), rfl⟩
set_option maxRecDepth 20000 in
theorem wd_1441 : Cond.methodLink "NeverTogetherLaw" 187 yX8_lower ∈ zz_TG := List.mem_filter.mpr ⟨zz_in6 (List.mem_of_getElem? (i := 173) rfl), rfl⟩
set_option maxRecDepth 20000 in
theorem wd_1442 : Cond.instanceMethod yX8_lower ∈ zz_TG := List.mem_filter.mpr ⟨zz_in6 (List.mem_of_getElem? (i := 174) rfl), rfl⟩
set_option maxRecDepth 20000 in
theorem wd_1443 : Cond.selects "NeverTogetherModel" yX8_lower yX8_lower ∈ zz_TG := List.mem_filter.mpr ⟨zz_in6 (List.mem_of_getElem? (i := 175) rfl), rfl⟩
set_option maxRecDepth 20000 in
theorem wd_1444 : Cond.code yX8_lower cX8_lower 1 (some .long) ∈ zz_TG := List.mem_filter.mpr ⟨zz_in6 (List.mem_of_getElem? (i := 176) rfl), rfl⟩
set_option maxRecDepth 20000 in
theorem wd_1445 : Cond.methodLink "NeverTogetherLaw" 191 yX8_count ∈ zz_TG := List.mem_filter.mpr ⟨zz_in6 (List.mem_of_getElem? (i := 177) rfl), rfl⟩
set_option maxRecDepth 20000 in
theorem wd_1446 : Cond.instanceMethod yX8_count ∈ zz_TG := List.mem_filter.mpr ⟨zz_in6 (List.mem_of_getElem? (i := 178) rfl), rfl⟩
set_option maxRecDepth 20000 in
theorem wd_1447 : Cond.selects "NeverTogetherModel" yX8_count yX8_count ∈ zz_TG := List.mem_filter.mpr ⟨zz_in6 (List.mem_of_getElem? (i := 179) rfl), rfl⟩
set_option maxRecDepth 20000 in
theorem wd_1448 : Cond.code yX8_count cX8_count 2 (some .int) ∈ zz_TG := List.mem_filter.mpr ⟨zz_in6 (List.mem_of_getElem? (i := 180) rfl), rfl⟩
set_option maxRecDepth 20000 in
theorem wd_1449 : Cond.methodLink "NeverTogetherModel" 298 yX8_ofKind ∈ zz_TG := List.mem_filter.mpr ⟨zz_in6 (List.mem_of_getElem? (i := 181) rfl), rfl⟩
set_option maxRecDepth 20000 in
theorem wd_1451 : Cond.instanceMethod yX8_ofKind ∈ zz_TG := List.mem_filter.mpr ⟨zz_in6 (List.mem_of_getElem? (i := 183) rfl), rfl⟩
set_option maxRecDepth 20000 in
theorem wd_1452 : Cond.code yX8_ofKind cX8_ofKind 5 (some .int) ∈ zz_TG := List.mem_filter.mpr ⟨zz_in6 (List.mem_of_getElem? (i := 184) rfl), rfl⟩
set_option maxRecDepth 20000 in
theorem wd_1453 : Cond.methodLink "NeverTogetherModel" 301 yX8_thereOf ∈ zz_TG := List.mem_filter.mpr ⟨zz_in6 (List.mem_of_getElem? (i := 185) rfl), rfl⟩
set_option maxRecDepth 20000 in
theorem wd_1454 : Cond.static yX8_thereOf ∈ zz_TG := List.mem_filter.mpr ⟨zz_in6 (List.mem_of_getElem? (i := 186) rfl), rfl⟩
set_option maxRecDepth 20000 in
theorem wd_1455 : Cond.code yX8_thereOf cX8_thereOf 4 (some .int) ∈ zz_TG := List.mem_filter.mpr ⟨zz_in6 (List.mem_of_getElem? (i := 187) rfl), rfl⟩
set_option maxRecDepth 20000 in
theorem wd_1456 : Cond.methodLink "NeverTogetherLaw" 195 yX8_finding ∈ zz_TG := List.mem_filter.mpr ⟨zz_in6 (List.mem_of_getElem? (i := 188) rfl), rfl⟩
set_option maxRecDepth 20000 in
theorem wd_1457 : Cond.instanceMethod yX8_finding ∈ zz_TG := List.mem_filter.mpr ⟨zz_in6 (List.mem_of_getElem? (i := 189) rfl), rfl⟩
set_option maxRecDepth 20000 in
theorem wd_1458 : Cond.selects "NeverTogetherModel" yX8_finding yX8_finding ∈ zz_TG := List.mem_filter.mpr ⟨zz_in6 (List.mem_of_getElem? (i := 190) rfl), rfl⟩
set_option maxRecDepth 20000 in
theorem wd_1459 : Cond.code yX8_finding cX8_finding 1 (some .int) ∈ zz_TG := List.mem_filter.mpr ⟨zz_in6 (List.mem_of_getElem? (i := 191) rfl), rfl⟩
set_option maxRecDepth 20000 in
theorem wd_1460 : Cond.methodLink "NeverTogetherLaw" 199 yX8_findings ∈ zz_TG := List.mem_filter.mpr ⟨zz_in6 (List.mem_of_getElem? (i := 192) rfl), rfl⟩
set_option maxRecDepth 20000 in
theorem wd_1461 : Cond.instanceMethod yX8_findings ∈ zz_TG := List.mem_filter.mpr ⟨zz_in6 (List.mem_of_getElem? (i := 193) rfl), rfl⟩
set_option maxRecDepth 20000 in
theorem wd_1462 : Cond.selects "NeverTogetherModel" yX8_findings yX8_findings ∈ zz_TG := List.mem_filter.mpr ⟨zz_in6 (List.mem_of_getElem? (i := 194) rfl), rfl⟩
set_option maxRecDepth 20000 in
theorem wd_1463 : Cond.code yX8_findings cX8_findings 2 (some .int) ∈ zz_TG := List.mem_filter.mpr ⟨zz_in6 (List.mem_of_getElem? (i := 195) rfl), rfl⟩
set_option maxRecDepth 20000 in
theorem wd_1464 : Cond.methodLink "NeverTogetherLaw" 203 yX8_digest ∈ zz_TG := List.mem_filter.mpr ⟨zz_in6 (List.mem_of_getElem? (i := 196) rfl), rfl⟩
set_option maxRecDepth 20000 in
theorem wd_1465 : Cond.instanceMethod yX8_digest ∈ zz_TG := List.mem_filter.mpr ⟨zz_in6 (List.mem_of_getElem? (i := 197) rfl), rfl⟩
set_option maxRecDepth 20000 in
theorem wd_1466 : Cond.selects "NeverTogetherModel" yX8_digest yX8_digest ∈ zz_TG := List.mem_filter.mpr ⟨zz_in6 (List.mem_of_getElem? (i := 198) rfl), rfl⟩
set_option maxRecDepth 20000 in
theorem wd_1467 : Cond.code yX8_digest cX8_digest 3 (some .long) ∈ zz_TG := List.mem_filter.mpr ⟨zz_in6 (List.mem_of_getElem? (i := 199) rfl), rfl⟩
set_option maxRecDepth 20000 in
theorem wd_1468 : Jvm.Cond.constantLong "NeverTogetherModel" 310 17 ∈ zz_TG := List.mem_filter.mpr ⟨zz_in6 (List.mem_of_getElem? (i := 200) rfl), rfl⟩
set_option maxRecDepth 20000 in
theorem wd_1469 : Cond.methodLink "NeverTogetherModel" 312 yX8_count ∈ zz_TG := List.mem_filter.mpr ⟨zz_in6 (List.mem_of_getElem? (i := 201) rfl), rfl⟩
set_option maxRecDepth 20000 in
theorem wd_1470 : Cond.methodLink "NeverTogetherModel" 315 yX8_mix ∈ zz_TG := List.mem_filter.mpr ⟨zz_in6 (List.mem_of_getElem? (i := 202) rfl), rfl⟩
set_option maxRecDepth 20000 in
theorem wd_1472 : Cond.instanceMethod yX8_mix ∈ zz_TG := List.mem_filter.mpr ⟨zz_in6 (List.mem_of_getElem? (i := 204) rfl), rfl⟩
set_option maxRecDepth 20000 in
theorem wd_1473 : Cond.code yX8_mix cX8_mix 3 none ∈ zz_TG := List.mem_filter.mpr ⟨zz_in6 (List.mem_of_getElem? (i := 205) rfl), rfl⟩
set_option maxRecDepth 20000 in
theorem wd_1474 : Jvm.Cond.constantLong "NeverTogetherModel" 305 31 ∈ zz_TG := List.mem_filter.mpr ⟨zz_in6 (List.mem_of_getElem? (i := 206) rfl), rfl⟩
set_option maxRecDepth 20000 in
theorem wn_108 : Cond.methodLinkNest "NeverTogether" 25 yX5_init "NeverTogether" ∈ lw_tbl := zz_in1 (List.mem_of_getElem? (i := 40) rfl)
set_option maxRecDepth 20000 in
theorem wn_113 : Cond.fieldLinkNest "NeverTogether$House" 52 "NeverTogether$Reader" "heats" "[I" "NeverTogether" ∈ lw_tbl := zz_in1 (List.mem_of_getElem? (i := 45) rfl)
set_option maxRecDepth 20000 in
theorem wn_115 : Cond.fieldLinkNest "NeverTogether$House" 53 "NeverTogether$Reader" "kinds" "[I" "NeverTogether" ∈ lw_tbl := zz_in1 (List.mem_of_getElem? (i := 47) rfl)
set_option maxRecDepth 20000 in
theorem wn_117 : Cond.fieldLinkNest "NeverTogether$House" 54 "NeverTogether$Reader" "minutes" "[I" "NeverTogether" ∈ lw_tbl := zz_in1 (List.mem_of_getElem? (i := 49) rfl)
set_option maxRecDepth 20000 in
theorem wn_119 : Cond.fieldLinkNest "NeverTogether$House" 55 "NeverTogether$Reader" "rates" "[I" "NeverTogether" ∈ lw_tbl := zz_in1 (List.mem_of_getElem? (i := 51) rfl)
set_option maxRecDepth 20000 in
theorem wn_121 : Cond.fieldLinkNest "NeverTogether$House" 56 "NeverTogether$Reader" "floors" "[I" "NeverTogether" ∈ lw_tbl := zz_in1 (List.mem_of_getElem? (i := 53) rfl)
set_option maxRecDepth 20000 in
theorem wn_122 : Cond.fieldLinkNest "NeverTogether$House" 41 "NeverTogether$Reader" "heatCount" "I" "NeverTogether" ∈ lw_tbl := zz_in1 (List.mem_of_getElem? (i := 54) rfl)
set_option maxRecDepth 20000 in
theorem wn_124 : Cond.fieldLinkNest "NeverTogether$House" 48 "NeverTogether$Reader" "pieces" "I" "NeverTogether" ∈ lw_tbl := zz_in1 (List.mem_of_getElem? (i := 56) rfl)
set_option maxRecDepth 20000 in
theorem wn_161 : Cond.fieldLinkNest "NeverTogether$Moment" 15 "NeverTogether$House" "pieces" "I" "NeverTogether" ∈ lw_tbl := zz_in1 (List.mem_of_getElem? (i := 93) rfl)
set_option maxRecDepth 20000 in
theorem wn_162 : Cond.fieldLinkNest "NeverTogether$Keeper" 31 "NeverTogether$House" "pieces" "I" "NeverTogether" ∈ lw_tbl := zz_in1 (List.mem_of_getElem? (i := 94) rfl)
set_option maxRecDepth 20000 in
theorem wn_164 : Cond.fieldLinkNest "NeverTogether" 133 "NeverTogether$House" "pieces" "I" "NeverTogether" ∈ lw_tbl := zz_in1 (List.mem_of_getElem? (i := 96) rfl)
set_option maxRecDepth 20000 in
theorem wn_166 : Cond.fieldLinkNest "NeverTogether" 359 "NeverTogether$House" "today" "I" "NeverTogether" ∈ lw_tbl := zz_in1 (List.mem_of_getElem? (i := 98) rfl)
set_option maxRecDepth 20000 in
theorem wn_168 : Cond.fieldLinkNest "NeverTogether" 188 "NeverTogether$House" "deeds" "I" "NeverTogether" ∈ lw_tbl := zz_in1 (List.mem_of_getElem? (i := 100) rfl)
set_option maxRecDepth 20000 in
theorem wn_201 : Cond.methodLinkNest "NeverTogether" 39 yX4_init "NeverTogether" ∈ lw_tbl := zz_in1 (List.mem_of_getElem? (i := 133) rfl)
set_option maxRecDepth 20000 in
theorem wn_207 : Cond.fieldLinkNest "NeverTogether$Game" 26 "NeverTogether$Moment" "pieces" "I" "NeverTogether" ∈ lw_tbl := zz_in1 (List.mem_of_getElem? (i := 139) rfl)
set_option maxRecDepth 20000 in
theorem wn_216 : Cond.methodLinkNest "NeverTogether" 46 yX3_init "NeverTogether" ∈ lw_tbl := zz_in1 (List.mem_of_getElem? (i := 148) rfl)
set_option maxRecDepth 20000 in
theorem wn_250 : Cond.methodLinkNest "NeverTogether" 53 yX1_init "NeverTogether" ∈ lw_tbl := zz_in1 (List.mem_of_getElem? (i := 182) rfl)
set_option maxRecDepth 20000 in
theorem wn_255 : Cond.methodLinkNest "NeverTogether$Game" 11 yX4_init "NeverTogether" ∈ lw_tbl := zz_in1 (List.mem_of_getElem? (i := 187) rfl)
set_option maxRecDepth 20000 in
theorem wn_262 : Cond.methodLinkNest "NeverTogether" 60 yX0_init "NeverTogether" ∈ lw_tbl := zz_in1 (List.mem_of_getElem? (i := 194) rfl)
set_option maxRecDepth 20000 in
theorem wn_269 : Cond.fieldLinkNest "NeverTogether" 331 "NeverTogether$Draughts" "upperNumber" "J" "NeverTogether" ∈ lw_tbl := zz_in1 (List.mem_of_getElem? (i := 201) rfl)
set_option maxRecDepth 20000 in
theorem wn_271 : Cond.fieldLinkNest "NeverTogether" 335 "NeverTogether$Draughts" "lowerNumber" "J" "NeverTogether" ∈ lw_tbl := zz_in1 (List.mem_of_getElem? (i := 203) rfl)
set_option maxRecDepth 20000 in
theorem wn_442 : Cond.fieldLinkNest "NeverTogether$Reader" 70 "NeverTogether" "LETTERS" "[I" "NeverTogether" ∈ lw_tbl := zz_in2 (List.mem_of_getElem? (i := 134) rfl)
set_option maxRecDepth 20000 in
theorem wn_480 : Cond.methodLinkNest "NeverTogether$House" 110 yX7_gainOver "NeverTogether" ∈ lw_tbl := zz_in2 (List.mem_of_getElem? (i := 172) rfl)
set_option maxRecDepth 20000 in
theorem wn_485 : Cond.methodLinkNest "NeverTogether$House" 114 yX7_ring "NeverTogether" ∈ lw_tbl := zz_in2 (List.mem_of_getElem? (i := 177) rfl)
set_option maxRecDepth 20000 in
theorem wn_513 : Cond.methodLinkNest "NeverTogether$House" 65 yX7_isKind "NeverTogether" ∈ lw_tbl := zz_in2 (List.mem_of_getElem? (i := 205) rfl)
set_option maxRecDepth 20000 in
theorem wn_516 : Cond.fieldLinkNest "NeverTogether$House" 71 "NeverTogether" "STRIKES" "[I" "NeverTogether" ∈ lw_tbl := zz_in2 (List.mem_of_getElem? (i := 208) rfl)
set_option maxRecDepth 20000 in
theorem wn_530 : Cond.fieldLinkNest "NeverTogether$House" 68 "NeverTogether" "IS" "[I" "NeverTogether" ∈ lw_tbl := zz_in2 (List.mem_of_getElem? (i := 222) rfl)
set_option maxRecDepth 20000 in
theorem wn_558 : Cond.methodLinkNest "NeverTogether$House" 117 yX7_run "NeverTogether" ∈ lw_tbl := zz_in3 (List.mem_of_getElem? (i := 10) rfl)
set_option maxRecDepth 20000 in
theorem wn_735 : Cond.methodLinkNest "NeverTogether$Keeper" 66 yX7_ring "NeverTogether" ∈ lw_tbl := zz_in3 (List.mem_of_getElem? (i := 187) rfl)
set_option maxRecDepth 20000 in
theorem wn_742 : Cond.methodLinkNest "NeverTogether$Keeper" 69 yX7_run "NeverTogether" ∈ lw_tbl := zz_in3 (List.mem_of_getElem? (i := 194) rfl)
set_option maxRecDepth 20000 in
theorem wn_743 : Cond.methodLinkNest "NeverTogether$Keeper" 73 yX7_turned "NeverTogether" ∈ lw_tbl := zz_in3 (List.mem_of_getElem? (i := 195) rfl)
set_option maxRecDepth 20000 in
theorem wn_869 : Cond.methodLinkNest "NeverTogether$Moment" 38 yX7_ring "NeverTogether" ∈ lw_tbl := zz_in4 (List.mem_of_getElem? (i := 81) rfl)
set_option maxRecDepth 20000 in
theorem wn_870 : Cond.methodLinkNest "NeverTogether$Moment" 41 yX7_turned "NeverTogether" ∈ lw_tbl := zz_in4 (List.mem_of_getElem? (i := 82) rfl)
set_option maxRecDepth 20000 in
theorem wn_896 : Cond.methodLinkNest "NeverTogether$Draughts" 42 yX7_turned "NeverTogether" ∈ lw_tbl := zz_in4 (List.mem_of_getElem? (i := 108) rfl)
