/-! our methods: name, code, locals, answer; what the tables say of them; links by owner and pool place; depths -/
theorem jmt1 {w : Cond} (h : w ∈ tables_1_1) (hg : goodWord w = true) : w ∈ jTbl := jmem2 (List.mem_append_right _ (List.mem_append_left _ h)) hg
theorem jmt2 {w : Cond} (h : w ∈ tables_1_2) (hg : goodWord w = true) : w ∈ jTbl := jmem2 (List.mem_append_right _ (List.mem_append_right _ (List.mem_append_left _ h))) hg
theorem jmt3 {w : Cond} (h : w ∈ tables_1_3) (hg : goodWord w = true) : w ∈ jTbl := jmem2 (List.mem_append_right _ (List.mem_append_right _ (List.mem_append_right _ (List.mem_append_left _ h)))) hg
theorem jmt4 {w : Cond} (h : w ∈ tables_1_4) (hg : goodWord w = true) : w ∈ jTbl := jmem2 (List.mem_append_right _ (List.mem_append_right _ (List.mem_append_right _ (List.mem_append_right _ (List.mem_append_left _ h))))) hg
theorem jmt5 {w : Cond} (h : w ∈ tables_1_5) (hg : goodWord w = true) : w ∈ jTbl := jmem2 (List.mem_append_right _ (List.mem_append_right _ (List.mem_append_right _ (List.mem_append_right _ (List.mem_append_right _ (List.mem_append_left _ h)))))) hg
theorem jmt6 {w : Cond} (h : w ∈ tables_1_6) (hg : goodWord w = true) : w ∈ jTbl := jmem2 (List.mem_append_right _ (List.mem_append_right _ (List.mem_append_right _ (List.mem_append_right _ (List.mem_append_right _ (List.mem_append_right _ (List.mem_append_left _ h))))))) hg
theorem jmt7 {w : Cond} (h : w ∈ tables_1_7) (hg : goodWord w = true) : w ∈ jTbl := jmem2 (List.mem_append_right _ (List.mem_append_right _ (List.mem_append_right _ (List.mem_append_right _ (List.mem_append_right _ (List.mem_append_right _ (List.mem_append_right _ (h)))))))) hg
theorem ji_0 : Cond.initialized (jcn 0) ∈ jTbl := jmem 110 (by decide +kernel) (by decide +kernel)
theorem ji_1 : Cond.initialized (jcn 1) ∈ jTbl := jmem 109 (by decide +kernel) (by decide +kernel)
theorem ji_2 : Cond.initialized (jcn 2) ∈ jTbl := jmem 107 (by decide +kernel) (by decide +kernel)
theorem ji_3 : Cond.initialized (jcn 3) ∈ jTbl := jmem 104 (by decide +kernel) (by decide +kernel)
theorem ji_4 : Cond.initialized (jcn 4) ∈ jTbl := jmem 112 (by decide +kernel) (by decide +kernel)
theorem ji_5 : Cond.initialized (jcn 5) ∈ jTbl := jmem 111 (by decide +kernel) (by decide +kernel)
theorem ji_6 : Cond.initialized (jcn 6) ∈ jTbl := jmem 103 (by decide +kernel) (by decide +kernel)
theorem ji_7 : Cond.initialized (jcn 7) ∈ jTbl := jmem 108 (by decide +kernel) (by decide +kernel)
theorem ji_8 : Cond.initialized (jcn 8) ∈ jTbl := jmem 106 (by decide +kernel) (by decide +kernel)
theorem ji_9 : Cond.initialized (jcn 9) ∈ jTbl := jmem 102 (by decide +kernel) (by decide +kernel)
theorem ji_10 : Cond.initialized (jcn 10) ∈ jTbl := jmem 113 (by decide +kernel) (by decide +kernel)
abbrev y_Rows_init : jM := (⟨"CountTreaty$Rows", "<init>", "(II)V"⟩, prog_5_method_1_code, 3, none)
abbrev d_Rows_init : Nat := 1
theorem jcm_Rows_init : Cond.code y_Rows_init.1 y_Rows_init.2.1 y_Rows_init.2.2.1 y_Rows_init.2.2.2 ∈ jTbl := jmt1 (List.mem_of_getElem? (i := 36) rfl) rfl
theorem mo_Rows_init : jMo y_Rows_init 2 := ⟨jcm_Rows_init, ji_3, ⟨by decide, by decide⟩, by decide +kernel⟩
theorem mi_Rows_init : Cond.instanceMethod y_Rows_init.1 ∈ jTbl ∧ y_Rows_init.1.name = "<init>" ∧ y_Rows_init.2.2.2 = none := ⟨jmem 136 (by decide +kernel) (by decide +kernel), rfl, rfl⟩
abbrev y_Treaty_init : jM := (⟨"CountTreaty$Treaty", "<init>", "()V"⟩, prog_10_method_1_code, 1, none)
abbrev d_Treaty_init : Nat := 2
theorem jcm_Treaty_init : Cond.code y_Treaty_init.1 y_Treaty_init.2.1 y_Treaty_init.2.2.1 y_Treaty_init.2.2.2 ∈ jTbl := jmt1 (List.mem_of_getElem? (i := 56) rfl) rfl
theorem mo_Treaty_init : jMo y_Treaty_init 0 := ⟨jcm_Treaty_init, ji_8, ⟨by decide, by decide⟩, by decide +kernel⟩
theorem mi_Treaty_init : Cond.instanceMethod y_Treaty_init.1 ∈ jTbl ∧ y_Treaty_init.1.name = "<init>" ∧ y_Treaty_init.2.2.2 = none := ⟨jmem 156 (by decide +kernel) (by decide +kernel), rfl, rfl⟩
abbrev y_Rows_open : jM := (⟨"CountTreaty$Rows", "open", "(I)I"⟩, prog_5_method_7_code, 4, some .int)
abbrev d_Rows_open : Nat := 0
theorem jcm_Rows_open : Cond.code y_Rows_open.1 y_Rows_open.2.1 y_Rows_open.2.2.1 y_Rows_open.2.2.2 ∈ jTbl := jmt1 (List.mem_of_getElem? (i := 77) rfl) rfl
theorem mo_Rows_open : jMo y_Rows_open 1 := ⟨jcm_Rows_open, ji_3, ⟨by decide, by decide⟩, by decide +kernel⟩
theorem mv_Rows_open : Cond.instanceMethod y_Rows_open.1 ∈ jTbl ∧ Cond.selects y_Rows_open.1.cls y_Rows_open.1 y_Rows_open.1 ∈ jTbl := ⟨jmem 176 (by decide +kernel) (by decide +kernel), jmem 177 (by decide +kernel) (by decide +kernel)⟩
abbrev y_Rows_put : jM := (⟨"CountTreaty$Rows", "put", "(III)V"⟩, prog_5_method_6_code, 5, none)
abbrev d_Rows_put : Nat := 0
theorem jcm_Rows_put : Cond.code y_Rows_put.1 y_Rows_put.2.1 y_Rows_put.2.2.1 y_Rows_put.2.2.2 ∈ jTbl := jmt1 (List.mem_of_getElem? (i := 81) rfl) rfl
theorem mo_Rows_put : jMo y_Rows_put 3 := ⟨jcm_Rows_put, ji_3, ⟨by decide, by decide⟩, by decide +kernel⟩
theorem mv_Rows_put : Cond.instanceMethod y_Rows_put.1 ∈ jTbl ∧ Cond.selects y_Rows_put.1.cls y_Rows_put.1 y_Rows_put.1 ∈ jTbl := ⟨jmem 180 (by decide +kernel) (by decide +kernel), jmem 181 (by decide +kernel) (by decide +kernel)⟩
abbrev y_State_init : jM := (⟨"CountTreaty$State", "<init>", "()V"⟩, prog_8_method_1_code, 2, none)
abbrev d_State_init : Nat := 3
theorem jcm_State_init : Cond.code y_State_init.1 y_State_init.2.1 y_State_init.2.2.1 y_State_init.2.2.2 ∈ jTbl := jmt1 (List.mem_of_getElem? (i := 30) rfl) rfl
theorem mo_State_init : jMo y_State_init 0 := ⟨jcm_State_init, ji_6, ⟨by decide, by decide⟩, by decide +kernel⟩
theorem mi_State_init : Cond.instanceMethod y_State_init.1 ∈ jTbl ∧ y_State_init.1.name = "<init>" ∧ y_State_init.2.2.2 = none := ⟨jmem 130 (by decide +kernel) (by decide +kernel), rfl, rfl⟩
abbrev y_Tokens_init : jM := (⟨"CountTreaty$Tokens", "<init>", "()V"⟩, prog_9_method_1_code, 1, none)
abbrev d_Tokens_init : Nat := 2
theorem jcm_Tokens_init : Cond.code y_Tokens_init.1 y_Tokens_init.2.1 y_Tokens_init.2.2.1 y_Tokens_init.2.2.2 ∈ jTbl := jmt1 (List.mem_of_getElem? (i := 195) rfl) rfl
theorem mo_Tokens_init : jMo y_Tokens_init 0 := ⟨jcm_Tokens_init, ji_7, ⟨by decide, by decide⟩, by decide +kernel⟩
theorem mi_Tokens_init : Cond.instanceMethod y_Tokens_init.1 ∈ jTbl ∧ y_Tokens_init.1.name = "<init>" ∧ y_Tokens_init.2.2.2 = none := ⟨jmem 295 (by decide +kernel) (by decide +kernel), rfl, rfl⟩
abbrev y_Reader_init : jM := (⟨"CountTreaty$Reader", "<init>", "()V"⟩, prog_4_method_1_code, 1, none)
abbrev d_Reader_init : Nat := 3
theorem jcm_Reader_init : Cond.code y_Reader_init.1 y_Reader_init.2.1 y_Reader_init.2.2.1 y_Reader_init.2.2.2 ∈ jTbl := jmt1 (List.mem_of_getElem? (i := 187) rfl) rfl
theorem mo_Reader_init : jMo y_Reader_init 0 := ⟨jcm_Reader_init, ji_2, ⟨by decide, by decide⟩, by decide +kernel⟩
theorem mi_Reader_init : Cond.instanceMethod y_Reader_init.1 ∈ jTbl ∧ y_Reader_init.1.name = "<init>" ∧ y_Reader_init.2.2.2 = none := ⟨jmem 287 (by decide +kernel) (by decide +kernel), rfl, rfl⟩
abbrev y_Knowing_init : jM := (⟨"CountTreaty$Knowing", "<init>", "()V"⟩, prog_3_method_1_code, 1, none)
abbrev d_Knowing_init : Nat := 1
theorem jcm_Knowing_init : Cond.code y_Knowing_init.1 y_Knowing_init.2.1 y_Knowing_init.2.2.1 y_Knowing_init.2.2.2 ∈ jTbl := jmt2 (List.mem_of_getElem? (i := 6) rfl) rfl
theorem mo_Knowing_init : jMo y_Knowing_init 0 := ⟨jcm_Knowing_init, ji_1, ⟨by decide, by decide⟩, by decide +kernel⟩
theorem mi_Knowing_init : Cond.instanceMethod y_Knowing_init.1 ∈ jTbl ∧ y_Knowing_init.1.name = "<init>" ∧ y_Knowing_init.2.2.2 = none := ⟨jmem 346 (by decide +kernel) (by decide +kernel), rfl, rfl⟩
abbrev y_Judge_init : jM := (⟨"CountTreaty$Judge", "<init>", "()V"⟩, prog_2_method_1_code, 1, none)
abbrev d_Judge_init : Nat := 1
theorem jcm_Judge_init : Cond.code y_Judge_init.1 y_Judge_init.2.1 y_Judge_init.2.2.1 y_Judge_init.2.2.2 ∈ jTbl := jmt2 (List.mem_of_getElem? (i := 20) rfl) rfl
theorem mo_Judge_init : jMo y_Judge_init 0 := ⟨jcm_Judge_init, ji_0, ⟨by decide, by decide⟩, by decide +kernel⟩
theorem mi_Judge_init : Cond.instanceMethod y_Judge_init.1 ∈ jTbl ∧ y_Judge_init.1.name = "<init>" ∧ y_Judge_init.2.2.2 = none := ⟨jmem 360 (by decide +kernel) (by decide +kernel), rfl, rfl⟩
abbrev y_Shares_init : jM := (⟨"CountTreaty$Shares", "<init>", "()V"⟩, prog_7_method_1_code, 1, none)
abbrev d_Shares_init : Nat := 1
theorem jcm_Shares_init : Cond.code y_Shares_init.1 y_Shares_init.2.1 y_Shares_init.2.2.1 y_Shares_init.2.2.2 ∈ jTbl := jmt2 (List.mem_of_getElem? (i := 36) rfl) rfl
theorem mo_Shares_init : jMo y_Shares_init 0 := ⟨jcm_Shares_init, ji_5, ⟨by decide, by decide⟩, by decide +kernel⟩
theorem mi_Shares_init : Cond.instanceMethod y_Shares_init.1 ∈ jTbl ∧ y_Shares_init.1.name = "<init>" ∧ y_Shares_init.2.2.2 = none := ⟨jmem 376 (by decide +kernel) (by decide +kernel), rfl, rfl⟩
abbrev y_Search_init : jM := (⟨"CountTreaty$Search", "<init>", "()V"⟩, prog_6_method_1_code, 1, none)
abbrev d_Search_init : Nat := 1
theorem jcm_Search_init : Cond.code y_Search_init.1 y_Search_init.2.1 y_Search_init.2.2.1 y_Search_init.2.2.2 ∈ jTbl := jmt2 (List.mem_of_getElem? (i := 63) rfl) rfl
theorem mo_Search_init : jMo y_Search_init 0 := ⟨jcm_Search_init, ji_4, ⟨by decide, by decide⟩, by decide +kernel⟩
theorem mi_Search_init : Cond.instanceMethod y_Search_init.1 ∈ jTbl ∧ y_Search_init.1.name = "<init>" ∧ y_Search_init.2.2.2 = none := ⟨jmem 403 (by decide +kernel) (by decide +kernel), rfl, rfl⟩
abbrev y_Count_init : jM := (⟨"CountTreaty", "<init>", "()V"⟩, prog_1_method_1_code, 1, none)
abbrev d_Count_init : Nat := 4
theorem jcm_Count_init : Cond.code y_Count_init.1 y_Count_init.2.1 y_Count_init.2.2.1 y_Count_init.2.2.2 ∈ jTbl := jmt1 (List.mem_of_getElem? (i := 22) rfl) rfl
theorem mo_Count_init : jMo y_Count_init 0 := ⟨jcm_Count_init, ji_9, ⟨by decide, by decide⟩, by decide +kernel⟩
theorem mi_Count_init : Cond.instanceMethod y_Count_init.1 ∈ jTbl ∧ y_Count_init.1.name = "<init>" ∧ y_Count_init.2.2.2 = none := ⟨jmem 122 (by decide +kernel) (by decide +kernel), rfl, rfl⟩
abbrev y_State_isLand : jM := (⟨"CountTreaty$State", "isLand", "(I)Z"⟩, prog_8_method_3_code, 1, some .boolean)
abbrev d_State_isLand : Nat := 0
theorem jcm_State_isLand : Cond.code y_State_isLand.1 y_State_isLand.2.1 y_State_isLand.2.2.1 y_State_isLand.2.2.2 ∈ jTbl := jmt2 (List.mem_of_getElem? (i := 116) rfl) rfl
theorem mo_State_isLand : jMo y_State_isLand 1 := ⟨jcm_State_isLand, ji_6, ⟨by decide, by decide⟩, by decide +kernel⟩
theorem ms_State_isLand : Cond.static y_State_isLand.1 ∈ jTbl := jmem 456 (by decide +kernel) (by decide +kernel)
abbrev y_Rows_isFull : jM := (⟨"CountTreaty$Rows", "isFull", "()Z"⟩, prog_5_method_4_code, 1, some .boolean)
abbrev d_Rows_isFull : Nat := 0
theorem jcm_Rows_isFull : Cond.code y_Rows_isFull.1 y_Rows_isFull.2.1 y_Rows_isFull.2.2.1 y_Rows_isFull.2.2.2 ∈ jTbl := jmt2 (List.mem_of_getElem? (i := 120) rfl) rfl
theorem mo_Rows_isFull : jMo y_Rows_isFull 0 := ⟨jcm_Rows_isFull, ji_3, ⟨by decide, by decide⟩, by decide +kernel⟩
theorem mv_Rows_isFull : Cond.instanceMethod y_Rows_isFull.1 ∈ jTbl ∧ Cond.selects y_Rows_isFull.1.cls y_Rows_isFull.1 y_Rows_isFull.1 ∈ jTbl := ⟨jmem 459 (by decide +kernel) (by decide +kernel), jmem 460 (by decide +kernel) (by decide +kernel)⟩
abbrev y_State_openWays : jM := (⟨"CountTreaty$State", "openWays", "(I)V"⟩, prog_8_method_8_code, 3, none)
abbrev d_State_openWays : Nat := 1
theorem jcm_State_openWays : Cond.code y_State_openWays.1 y_State_openWays.2.1 y_State_openWays.2.2.1 y_State_openWays.2.2.2 ∈ jTbl := jmt2 (List.mem_of_getElem? (i := 126) rfl) rfl
theorem mo_State_openWays : jMo y_State_openWays 1 := ⟨jcm_State_openWays, ji_6, ⟨by decide, by decide⟩, by decide +kernel⟩
theorem mv_State_openWays : Cond.instanceMethod y_State_openWays.1 ∈ jTbl ∧ Cond.selects y_State_openWays.1.cls y_State_openWays.1 y_State_openWays.1 ∈ jTbl := ⟨jmem 465 (by decide +kernel) (by decide +kernel), jmem 466 (by decide +kernel) (by decide +kernel)⟩
abbrev y_Count_site : jM := (⟨"CountTreaty", "site", "(IIZZ)I"⟩, prog_1_method_2_code, 6, some .int)
abbrev d_Count_site : Nat := 2
theorem jcm_Count_site : Cond.code y_Count_site.1 y_Count_site.2.1 y_Count_site.2.2.1 y_Count_site.2.2.2 ∈ jTbl := jmt2 (List.mem_of_getElem? (i := 113) rfl) rfl
theorem mo_Count_site : jMo y_Count_site 4 := ⟨jcm_Count_site, ji_9, ⟨by decide, by decide⟩, by decide +kernel⟩
theorem mv_Count_site : Cond.instanceMethod y_Count_site.1 ∈ jTbl ∧ Cond.selects y_Count_site.1.cls y_Count_site.1 y_Count_site.1 ∈ jTbl := ⟨jmem 452 (by decide +kernel) (by decide +kernel), jmem 453 (by decide +kernel) (by decide +kernel)⟩
abbrev y_Rows_has : jM := (⟨"CountTreaty$Rows", "has", "(I)Z"⟩, prog_5_method_3_code, 2, some .boolean)
abbrev d_Rows_has : Nat := 0
theorem jcm_Rows_has : Cond.code y_Rows_has.1 y_Rows_has.2.1 y_Rows_has.2.2.1 y_Rows_has.2.2.2 ∈ jTbl := jmt2 (List.mem_of_getElem? (i := 134) rfl) rfl
theorem mo_Rows_has : jMo y_Rows_has 1 := ⟨jcm_Rows_has, ji_3, ⟨by decide, by decide⟩, by decide +kernel⟩
theorem mv_Rows_has : Cond.instanceMethod y_Rows_has.1 ∈ jTbl ∧ Cond.selects y_Rows_has.1.cls y_Rows_has.1 y_Rows_has.1 ∈ jTbl := ⟨jmem 473 (by decide +kernel) (by decide +kernel), jmem 474 (by decide +kernel) (by decide +kernel)⟩
abbrev y_Rows_at : jM := (⟨"CountTreaty$Rows", "at", "(II)I"⟩, prog_5_method_5_code, 4, some .int)
abbrev d_Rows_at : Nat := 0
theorem jcm_Rows_at : Cond.code y_Rows_at.1 y_Rows_at.2.1 y_Rows_at.2.2.1 y_Rows_at.2.2.2 ∈ jTbl := jmt2 (List.mem_of_getElem? (i := 138) rfl) rfl
theorem mo_Rows_at : jMo y_Rows_at 2 := ⟨jcm_Rows_at, ji_3, ⟨by decide, by decide⟩, by decide +kernel⟩
theorem mv_Rows_at : Cond.instanceMethod y_Rows_at.1 ∈ jTbl ∧ Cond.selects y_Rows_at.1.cls y_Rows_at.1 y_Rows_at.1 ∈ jTbl := ⟨jmem 477 (by decide +kernel) (by decide +kernel), jmem 478 (by decide +kernel) (by decide +kernel)⟩
abbrev y_Rows_count : jM := (⟨"CountTreaty$Rows", "count", "()I"⟩, prog_5_method_2_code, 1, some .int)
abbrev d_Rows_count : Nat := 0
theorem jcm_Rows_count : Cond.code y_Rows_count.1 y_Rows_count.2.1 y_Rows_count.2.2.1 y_Rows_count.2.2.2 ∈ jTbl := jmt2 (List.mem_of_getElem? (i := 146) rfl) rfl
theorem mo_Rows_count : jMo y_Rows_count 0 := ⟨jcm_Rows_count, ji_3, ⟨by decide, by decide⟩, by decide +kernel⟩
theorem mv_Rows_count : Cond.instanceMethod y_Rows_count.1 ∈ jTbl ∧ Cond.selects y_Rows_count.1.cls y_Rows_count.1 y_Rows_count.1 ∈ jTbl := ⟨jmem 485 (by decide +kernel) (by decide +kernel), jmem 486 (by decide +kernel) (by decide +kernel)⟩
abbrev y_State_shorten : jM := (⟨"CountTreaty$State", "shorten", "(IIIII)V"⟩, prog_8_method_10_code, 9, none)
abbrev d_State_shorten : Nat := 1
theorem jcm_State_shorten : Cond.code y_State_shorten.1 y_State_shorten.2.1 y_State_shorten.2.2.1 y_State_shorten.2.2.2 ∈ jTbl := jmt2 (List.mem_of_getElem? (i := 150) rfl) rfl
theorem mo_State_shorten : jMo y_State_shorten 5 := ⟨jcm_State_shorten, ji_6, ⟨by decide, by decide⟩, by decide +kernel⟩
theorem mv_State_shorten : Cond.instanceMethod y_State_shorten.1 ∈ jTbl ∧ Cond.selects y_State_shorten.1.cls y_State_shorten.1 y_State_shorten.1 ∈ jTbl := ⟨jmem 490 (by decide +kernel) (by decide +kernel), jmem 0 (by decide +kernel) (by decide +kernel)⟩
abbrev y_State_shortenWays : jM := (⟨"CountTreaty$State", "shortenWays", "(III)V"⟩, prog_8_method_9_code, 6, none)
abbrev d_State_shortenWays : Nat := 2
theorem jcm_State_shortenWays : Cond.code y_State_shortenWays.1 y_State_shortenWays.2.1 y_State_shortenWays.2.2.1 y_State_shortenWays.2.2.2 ∈ jTbl := jmt2 (List.mem_of_getElem? (i := 142) rfl) rfl
theorem mo_State_shortenWays : jMo y_State_shortenWays 3 := ⟨jcm_State_shortenWays, ji_6, ⟨by decide, by decide⟩, by decide +kernel⟩
theorem mv_State_shortenWays : Cond.instanceMethod y_State_shortenWays.1 ∈ jTbl ∧ Cond.selects y_State_shortenWays.1.cls y_State_shortenWays.1 y_State_shortenWays.1 ∈ jTbl := ⟨jmem 481 (by decide +kernel) (by decide +kernel), jmem 482 (by decide +kernel) (by decide +kernel)⟩
abbrev y_Count_road : jM := (⟨"CountTreaty", "road", "(III)I"⟩, prog_1_method_3_code, 4, some .int)
abbrev d_Count_road : Nat := 3
theorem jcm_Count_road : Cond.code y_Count_road.1 y_Count_road.2.1 y_Count_road.2.2.1 y_Count_road.2.2.2 ∈ jTbl := jmt2 (List.mem_of_getElem? (i := 130) rfl) rfl
theorem mo_Count_road : jMo y_Count_road 3 := ⟨jcm_Count_road, ji_9, ⟨by decide, by decide⟩, by decide +kernel⟩
theorem mv_Count_road : Cond.instanceMethod y_Count_road.1 ∈ jTbl ∧ Cond.selects y_Count_road.1.cls y_Count_road.1 y_Count_road.1 ∈ jTbl := ⟨jmem 469 (by decide +kernel) (by decide +kernel), jmem 470 (by decide +kernel) (by decide +kernel)⟩
abbrev y_Count_way : jM := (⟨"CountTreaty", "way", "(II)I"⟩, prog_1_method_4_code, 3, some .int)
abbrev d_Count_way : Nat := 1
theorem jcm_Count_way : Cond.code y_Count_way.1 y_Count_way.2.1 y_Count_way.2.2.1 y_Count_way.2.2.2 ∈ jTbl := jmt2 (List.mem_of_getElem? (i := 155) rfl) rfl
theorem mo_Count_way : jMo y_Count_way 2 := ⟨jcm_Count_way, ji_9, ⟨by decide, by decide⟩, by decide +kernel⟩
theorem mv_Count_way : Cond.instanceMethod y_Count_way.1 ∈ jTbl ∧ Cond.selects y_Count_way.1.cls y_Count_way.1 y_Count_way.1 ∈ jTbl := ⟨jmem 494 (by decide +kernel) (by decide +kernel), jmem 495 (by decide +kernel) (by decide +kernel)⟩
abbrev y_State_isSort : jM := (⟨"CountTreaty$State", "isSort", "(I)Z"⟩, prog_8_method_4_code, 1, some .boolean)
abbrev d_State_isSort : Nat := 0
theorem jcm_State_isSort : Cond.code y_State_isSort.1 y_State_isSort.2.1 y_State_isSort.2.2.1 y_State_isSort.2.2.2 ∈ jTbl := jmt2 (List.mem_of_getElem? (i := 162) rfl) rfl
theorem mo_State_isSort : jMo y_State_isSort 1 := ⟨jcm_State_isSort, ji_6, ⟨by decide, by decide⟩, by decide +kernel⟩
theorem ms_State_isSort : Cond.static y_State_isSort.1 ∈ jTbl := jmem 502 (by decide +kernel) (by decide +kernel)
abbrev y_Count_sort : jM := (⟨"CountTreaty", "sort", "(IIIII)Z"⟩, prog_1_method_5_code, 6, some .boolean)
abbrev d_Count_sort : Nat := 1
theorem jcm_Count_sort : Cond.code y_Count_sort.1 y_Count_sort.2.1 y_Count_sort.2.2.1 y_Count_sort.2.2.2 ∈ jTbl := jmt2 (List.mem_of_getElem? (i := 159) rfl) rfl
theorem mo_Count_sort : jMo y_Count_sort 5 := ⟨jcm_Count_sort, ji_9, ⟨by decide, by decide⟩, by decide +kernel⟩
theorem mv_Count_sort : Cond.instanceMethod y_Count_sort.1 ∈ jTbl ∧ Cond.selects y_Count_sort.1.cls y_Count_sort.1 y_Count_sort.1 ∈ jTbl := ⟨jmem 498 (by decide +kernel) (by decide +kernel), jmem 499 (by decide +kernel) (by decide +kernel)⟩
abbrev y_Count_rules : jM := (⟨"CountTreaty", "rules", "(III)Z"⟩, prog_1_method_6_code, 4, some .boolean)
abbrev d_Count_rules : Nat := 1
theorem jcm_Count_rules : Cond.code y_Count_rules.1 y_Count_rules.2.1 y_Count_rules.2.2.1 y_Count_rules.2.2.2 ∈ jTbl := jmt2 (List.mem_of_getElem? (i := 167) rfl) rfl
theorem mo_Count_rules : jMo y_Count_rules 3 := ⟨jcm_Count_rules, ji_9, ⟨by decide, by decide⟩, by decide +kernel⟩
theorem mv_Count_rules : Cond.instanceMethod y_Count_rules.1 ∈ jTbl ∧ Cond.selects y_Count_rules.1.cls y_Count_rules.1 y_Count_rules.1 ∈ jTbl := ⟨jmem 506 (by decide +kernel) (by decide +kernel), jmem 507 (by decide +kernel) (by decide +kernel)⟩
abbrev y_State_addAct : jM := (⟨"CountTreaty$State", "addAct", "(IIII)V"⟩, prog_8_method_7_code, 6, none)
abbrev d_State_addAct : Nat := 1
theorem jcm_State_addAct : Cond.code y_State_addAct.1 y_State_addAct.2.1 y_State_addAct.2.2.1 y_State_addAct.2.2.2 ∈ jTbl := jmt2 (List.mem_of_getElem? (i := 175) rfl) rfl
theorem mo_State_addAct : jMo y_State_addAct 4 := ⟨jcm_State_addAct, ji_6, ⟨by decide, by decide⟩, by decide +kernel⟩
theorem mv_State_addAct : Cond.instanceMethod y_State_addAct.1 ∈ jTbl ∧ Cond.selects y_State_addAct.1.cls y_State_addAct.1 y_State_addAct.1 ∈ jTbl := ⟨jmem 514 (by decide +kernel) (by decide +kernel), jmem 515 (by decide +kernel) (by decide +kernel)⟩
abbrev y_Count_make : jM := (⟨"CountTreaty", "make", "(IIII)I"⟩, prog_1_method_7_code, 6, some .int)
abbrev d_Count_make : Nat := 2
theorem jcm_Count_make : Cond.code y_Count_make.1 y_Count_make.2.1 y_Count_make.2.2.1 y_Count_make.2.2.2 ∈ jTbl := jmt2 (List.mem_of_getElem? (i := 171) rfl) rfl
theorem mo_Count_make : jMo y_Count_make 4 := ⟨jcm_Count_make, ji_9, ⟨by decide, by decide⟩, by decide +kernel⟩
theorem mv_Count_make : Cond.instanceMethod y_Count_make.1 ∈ jTbl ∧ Cond.selects y_Count_make.1.cls y_Count_make.1 y_Count_make.1 ∈ jTbl := ⟨jmem 510 (by decide +kernel) (by decide +kernel), jmem 511 (by decide +kernel) (by decide +kernel)⟩
abbrev y_State_placeOn : jM := (⟨"CountTreaty$State", "placeOn", "(II)I"⟩, prog_8_method_11_code, 6, some .int)
abbrev d_State_placeOn : Nat := 1
theorem jcm_State_placeOn : Cond.code y_State_placeOn.1 y_State_placeOn.2.1 y_State_placeOn.2.2.1 y_State_placeOn.2.2.2 ∈ jTbl := jmt2 (List.mem_of_getElem? (i := 183) rfl) rfl
theorem mo_State_placeOn : jMo y_State_placeOn 2 := ⟨jcm_State_placeOn, ji_6, ⟨by decide, by decide⟩, by decide +kernel⟩
theorem mv_State_placeOn : Cond.instanceMethod y_State_placeOn.1 ∈ jTbl ∧ Cond.selects y_State_placeOn.1.cls y_State_placeOn.1 y_State_placeOn.1 ∈ jTbl := ⟨jmem 522 (by decide +kernel) (by decide +kernel), jmem 523 (by decide +kernel) (by decide +kernel)⟩
abbrev y_Count_move : jM := (⟨"CountTreaty", "move", "(II)I"⟩, prog_1_method_8_code, 6, some .int)
abbrev d_Count_move : Nat := 2
theorem jcm_Count_move : Cond.code y_Count_move.1 y_Count_move.2.1 y_Count_move.2.2.1 y_Count_move.2.2.2 ∈ jTbl := jmt2 (List.mem_of_getElem? (i := 179) rfl) rfl
theorem mo_Count_move : jMo y_Count_move 2 := ⟨jcm_Count_move, ji_9, ⟨by decide, by decide⟩, by decide +kernel⟩
theorem mv_Count_move : Cond.instanceMethod y_Count_move.1 ∈ jTbl ∧ Cond.selects y_Count_move.1.cls y_Count_move.1 y_Count_move.1 ∈ jTbl := ⟨jmem 518 (by decide +kernel) (by decide +kernel), jmem 519 (by decide +kernel) (by decide +kernel)⟩
abbrev y_Treaty_textFor : jM := (⟨"CountTreaty$Treaty", "textFor", "(II)I"⟩, prog_10_method_4_code, 6, some .int)
abbrev d_Treaty_textFor : Nat := 1
theorem jcm_Treaty_textFor : Cond.code y_Treaty_textFor.1 y_Treaty_textFor.2.1 y_Treaty_textFor.2.2.1 y_Treaty_textFor.2.2.2 ∈ jTbl := jmt2 (List.mem_of_getElem? (i := 199) rfl) rfl
theorem mo_Treaty_textFor : jMo y_Treaty_textFor 2 := ⟨jcm_Treaty_textFor, ji_8, ⟨by decide, by decide⟩, by decide +kernel⟩
theorem mv_Treaty_textFor : Cond.instanceMethod y_Treaty_textFor.1 ∈ jTbl ∧ Cond.selects y_Treaty_textFor.1.cls y_Treaty_textFor.1 y_Treaty_textFor.1 ∈ jTbl := ⟨jmem 538 (by decide +kernel) (by decide +kernel), jmem 539 (by decide +kernel) (by decide +kernel)⟩
abbrev y_Treaty_limitOn : jM := (⟨"CountTreaty$Treaty", "limitOn", "(I)I"⟩, prog_10_method_6_code, 6, some .int)
abbrev d_Treaty_limitOn : Nat := 2
theorem jcm_Treaty_limitOn : Cond.code y_Treaty_limitOn.1 y_Treaty_limitOn.2.1 y_Treaty_limitOn.2.2.1 y_Treaty_limitOn.2.2.2 ∈ jTbl := jmt2 (List.mem_of_getElem? (i := 195) rfl) rfl
theorem mo_Treaty_limitOn : jMo y_Treaty_limitOn 1 := ⟨jcm_Treaty_limitOn, ji_8, ⟨by decide, by decide⟩, by decide +kernel⟩
theorem mv_Treaty_limitOn : Cond.instanceMethod y_Treaty_limitOn.1 ∈ jTbl ∧ Cond.selects y_Treaty_limitOn.1.cls y_Treaty_limitOn.1 y_Treaty_limitOn.1 ∈ jTbl := ⟨jmem 535 (by decide +kernel) (by decide +kernel), jmem 1 (by decide +kernel) (by decide +kernel)⟩
abbrev y_Treaty_first : jM := (⟨"CountTreaty$Treaty", "first", "(IIII)I"⟩, prog_10_method_7_code, 7, some .int)
abbrev d_Treaty_first : Nat := 2
theorem jcm_Treaty_first : Cond.code y_Treaty_first.1 y_Treaty_first.2.1 y_Treaty_first.2.2.1 y_Treaty_first.2.2.2 ∈ jTbl := jmt2 (List.mem_of_getElem? (i := 208) rfl) rfl
theorem mo_Treaty_first : jMo y_Treaty_first 4 := ⟨jcm_Treaty_first, ji_8, ⟨by decide, by decide⟩, by decide +kernel⟩
theorem mv_Treaty_first : Cond.instanceMethod y_Treaty_first.1 ∈ jTbl ∧ Cond.selects y_Treaty_first.1.cls y_Treaty_first.1 y_Treaty_first.1 ∈ jTbl := ⟨jmem 548 (by decide +kernel) (by decide +kernel), jmem 2 (by decide +kernel) (by decide +kernel)⟩
abbrev y_Treaty_tells : jM := (⟨"CountTreaty$Treaty", "tells", "(II)I"⟩, prog_10_method_5_code, 3, some .int)
abbrev d_Treaty_tells : Nat := 3
theorem jcm_Treaty_tells : Cond.code y_Treaty_tells.1 y_Treaty_tells.2.1 y_Treaty_tells.2.2.1 y_Treaty_tells.2.2.2 ∈ jTbl := jmt2 (List.mem_of_getElem? (i := 191) rfl) rfl
theorem mo_Treaty_tells : jMo y_Treaty_tells 2 := ⟨jcm_Treaty_tells, ji_8, ⟨by decide, by decide⟩, by decide +kernel⟩
theorem mv_Treaty_tells : Cond.instanceMethod y_Treaty_tells.1 ∈ jTbl ∧ Cond.selects y_Treaty_tells.1.cls y_Treaty_tells.1 y_Treaty_tells.1 ∈ jTbl := ⟨jmem 530 (by decide +kernel) (by decide +kernel), jmem 531 (by decide +kernel) (by decide +kernel)⟩
abbrev y_Count_step : jM := (⟨"CountTreaty", "step", "(I)I"⟩, prog_1_method_9_code, 5, some .int)
abbrev d_Count_step : Nat := 4
theorem jcm_Count_step : Cond.code y_Count_step.1 y_Count_step.2.1 y_Count_step.2.2.1 y_Count_step.2.2.2 ∈ jTbl := jmt2 (List.mem_of_getElem? (i := 187) rfl) rfl
theorem mo_Count_step : jMo y_Count_step 1 := ⟨jcm_Count_step, ji_9, ⟨by decide, by decide⟩, by decide +kernel⟩
theorem mv_Count_step : Cond.instanceMethod y_Count_step.1 ∈ jTbl ∧ Cond.selects y_Count_step.1.cls y_Count_step.1 y_Count_step.1 ∈ jTbl := ⟨jmem 526 (by decide +kernel) (by decide +kernel), jmem 527 (by decide +kernel) (by decide +kernel)⟩
abbrev y_State_latestSeal : jM := (⟨"CountTreaty$State", "latestSeal", "(II)I"⟩, prog_8_method_13_code, 4, some .int)
abbrev d_State_latestSeal : Nat := 1
theorem jcm_State_latestSeal : Cond.code y_State_latestSeal.1 y_State_latestSeal.2.1 y_State_latestSeal.2.2.1 y_State_latestSeal.2.2.2 ∈ jTbl := jmt2 (List.mem_of_getElem? (i := 220) rfl) rfl
theorem mo_State_latestSeal : jMo y_State_latestSeal 2 := ⟨jcm_State_latestSeal, ji_6, ⟨by decide, by decide⟩, by decide +kernel⟩
theorem mv_State_latestSeal : Cond.instanceMethod y_State_latestSeal.1 ∈ jTbl ∧ Cond.selects y_State_latestSeal.1.cls y_State_latestSeal.1 y_State_latestSeal.1 ∈ jTbl := ⟨jmem 559 (by decide +kernel) (by decide +kernel), jmem 560 (by decide +kernel) (by decide +kernel)⟩
abbrev y_State_isWhole : jM := (⟨"CountTreaty$State", "isWhole", "(II)Z"⟩, prog_8_method_12_code, 8, some .boolean)
abbrev d_State_isWhole : Nat := 1
theorem jcm_State_isWhole : Cond.code y_State_isWhole.1 y_State_isWhole.2.1 y_State_isWhole.2.2.1 y_State_isWhole.2.2.2 ∈ jTbl := jmt2 (List.mem_of_getElem? (i := 224) rfl) rfl
theorem mo_State_isWhole : jMo y_State_isWhole 2 := ⟨jcm_State_isWhole, ji_6, ⟨by decide, by decide⟩, by decide +kernel⟩
theorem mv_State_isWhole : Cond.instanceMethod y_State_isWhole.1 ∈ jTbl ∧ Cond.selects y_State_isWhole.1.cls y_State_isWhole.1 y_State_isWhole.1 ∈ jTbl := ⟨jmem 563 (by decide +kernel) (by decide +kernel), jmem 564 (by decide +kernel) (by decide +kernel)⟩
abbrev y_State_isSealed : jM := (⟨"CountTreaty$State", "isSealed", "(I)Z"⟩, prog_8_method_14_code, 3, some .boolean)
abbrev d_State_isSealed : Nat := 2
theorem jcm_State_isSealed : Cond.code y_State_isSealed.1 y_State_isSealed.2.1 y_State_isSealed.2.2.1 y_State_isSealed.2.2.2 ∈ jTbl := jmt2 (List.mem_of_getElem? (i := 216) rfl) rfl
theorem mo_State_isSealed : jMo y_State_isSealed 1 := ⟨jcm_State_isSealed, ji_6, ⟨by decide, by decide⟩, by decide +kernel⟩
theorem mv_State_isSealed : Cond.instanceMethod y_State_isSealed.1 ∈ jTbl ∧ Cond.selects y_State_isSealed.1.cls y_State_isSealed.1 y_State_isSealed.1 ∈ jTbl := ⟨jmem 555 (by decide +kernel) (by decide +kernel), jmem 556 (by decide +kernel) (by decide +kernel)⟩
abbrev y_State_addSpot : jM := (⟨"CountTreaty$State", "addSpot", "(LCountTreaty$Rows;II)I"⟩, prog_8_method_5_code, 4, some .int)
abbrev d_State_addSpot : Nat := 1
theorem jcm_State_addSpot : Cond.code y_State_addSpot.1 y_State_addSpot.2.1 y_State_addSpot.2.2.1 y_State_addSpot.2.2.2 ∈ jTbl := jmt2 (List.mem_of_getElem? (i := 227) rfl) rfl
theorem mo_State_addSpot : jMo y_State_addSpot 3 := ⟨jcm_State_addSpot, ji_6, ⟨by decide, by decide⟩, by decide +kernel⟩
theorem ms_State_addSpot : Cond.static y_State_addSpot.1 ∈ jTbl := jmem 567 (by decide +kernel) (by decide +kernel)
abbrev y_Count_seal : jM := (⟨"CountTreaty", "seal", "(I)I"⟩, prog_1_method_10_code, 2, some .int)
abbrev d_Count_seal : Nat := 3
theorem jcm_Count_seal : Cond.code y_Count_seal.1 y_Count_seal.2.1 y_Count_seal.2.2.1 y_Count_seal.2.2.2 ∈ jTbl := jmt2 (List.mem_of_getElem? (i := 212) rfl) rfl
theorem mo_Count_seal : jMo y_Count_seal 1 := ⟨jcm_Count_seal, ji_9, ⟨by decide, by decide⟩, by decide +kernel⟩
theorem mv_Count_seal : Cond.instanceMethod y_Count_seal.1 ∈ jTbl ∧ Cond.selects y_Count_seal.1.cls y_Count_seal.1 y_Count_seal.1 ∈ jTbl := ⟨jmem 551 (by decide +kernel) (by decide +kernel), jmem 552 (by decide +kernel) (by decide +kernel)⟩
abbrev y_Count_days : jM := (⟨"CountTreaty", "days", "(I)I"⟩, prog_1_method_11_code, 2, some .int)
abbrev d_Count_days : Nat := 0
theorem jcm_Count_days : Cond.code y_Count_days.1 y_Count_days.2.1 y_Count_days.2.2.1 y_Count_days.2.2.2 ∈ jTbl := jmt2 (List.mem_of_getElem? (i := 231) rfl) rfl
theorem mo_Count_days : jMo y_Count_days 1 := ⟨jcm_Count_days, ji_9, ⟨by decide, by decide⟩, by decide +kernel⟩
theorem mv_Count_days : Cond.instanceMethod y_Count_days.1 ∈ jTbl ∧ Cond.selects y_Count_days.1.cls y_Count_days.1 y_Count_days.1 ∈ jTbl := ⟨jmem 570 (by decide +kernel) (by decide +kernel), jmem 571 (by decide +kernel) (by decide +kernel)⟩
abbrev y_State_isDay : jM := (⟨"CountTreaty$State", "isDay", "(I)Z"⟩, prog_8_method_2_code, 1, some .boolean)
abbrev d_State_isDay : Nat := 0
theorem jcm_State_isDay : Cond.code y_State_isDay.1 y_State_isDay.2.1 y_State_isDay.2.2.1 y_State_isDay.2.2.2 ∈ jTbl := jmt2 (List.mem_of_getElem? (i := 238) rfl) rfl
theorem mo_State_isDay : jMo y_State_isDay 1 := ⟨jcm_State_isDay, ji_6, ⟨by decide, by decide⟩, by decide +kernel⟩
theorem ms_State_isDay : Cond.static y_State_isDay.1 ∈ jTbl := jmem 578 (by decide +kernel) (by decide +kernel)
abbrev y_Count_where : jM := (⟨"CountTreaty", "where", "(II)I"⟩, prog_1_method_12_code, 3, some .int)
abbrev d_Count_where : Nat := 2
theorem jcm_Count_where : Cond.code y_Count_where.1 y_Count_where.2.1 y_Count_where.2.2.1 y_Count_where.2.2.2 ∈ jTbl := jmt2 (List.mem_of_getElem? (i := 235) rfl) rfl
theorem mo_Count_where : jMo y_Count_where 2 := ⟨jcm_Count_where, ji_9, ⟨by decide, by decide⟩, by decide +kernel⟩
theorem mv_Count_where : Cond.instanceMethod y_Count_where.1 ∈ jTbl ∧ Cond.selects y_Count_where.1.cls y_Count_where.1 y_Count_where.1 ∈ jTbl := ⟨jmem 574 (by decide +kernel) (by decide +kernel), jmem 575 (by decide +kernel) (by decide +kernel)⟩
abbrev y_Count_thing : jM := (⟨"CountTreaty", "thing", "(II)I"⟩, prog_1_method_13_code, 3, some .int)
abbrev d_Count_thing : Nat := 1
theorem jcm_Count_thing : Cond.code y_Count_thing.1 y_Count_thing.2.1 y_Count_thing.2.2.1 y_Count_thing.2.2.2 ∈ jTbl := jmt3 (List.mem_of_getElem? (i := 2) rfl) rfl
theorem mo_Count_thing : jMo y_Count_thing 2 := ⟨jcm_Count_thing, ji_9, ⟨by decide, by decide⟩, by decide +kernel⟩
theorem mv_Count_thing : Cond.instanceMethod y_Count_thing.1 ∈ jTbl ∧ Cond.selects y_Count_thing.1.cls y_Count_thing.1 y_Count_thing.1 ∈ jTbl := ⟨jmem 581 (by decide +kernel) (by decide +kernel), jmem 582 (by decide +kernel) (by decide +kernel)⟩
abbrev y_Count_whole : jM := (⟨"CountTreaty", "whole", "(II)I"⟩, prog_1_method_14_code, 3, some .int)
abbrev d_Count_whole : Nat := 2
theorem jcm_Count_whole : Cond.code y_Count_whole.1 y_Count_whole.2.1 y_Count_whole.2.2.1 y_Count_whole.2.2.2 ∈ jTbl := jmt3 (List.mem_of_getElem? (i := 6) rfl) rfl
theorem mo_Count_whole : jMo y_Count_whole 2 := ⟨jcm_Count_whole, ji_9, ⟨by decide, by decide⟩, by decide +kernel⟩
theorem mv_Count_whole : Cond.instanceMethod y_Count_whole.1 ∈ jTbl ∧ Cond.selects y_Count_whole.1.cls y_Count_whole.1 y_Count_whole.1 ∈ jTbl := ⟨jmem 585 (by decide +kernel) (by decide +kernel), jmem 586 (by decide +kernel) (by decide +kernel)⟩
abbrev y_Tokens_addWord : jM := (⟨"CountTreaty$Tokens", "addWord", "(I)V"⟩, prog_9_method_2_code, 3, none)
abbrev d_Tokens_addWord : Nat := 1
theorem jcm_Tokens_addWord : Cond.code y_Tokens_addWord.1 y_Tokens_addWord.2.1 y_Tokens_addWord.2.2.1 y_Tokens_addWord.2.2.2 ∈ jTbl := jmt3 (List.mem_of_getElem? (i := 15) rfl) rfl
theorem mo_Tokens_addWord : jMo y_Tokens_addWord 1 := ⟨jcm_Tokens_addWord, ji_7, ⟨by decide, by decide⟩, by decide +kernel⟩
theorem mv_Tokens_addWord : Cond.instanceMethod y_Tokens_addWord.1 ∈ jTbl ∧ Cond.selects y_Tokens_addWord.1.cls y_Tokens_addWord.1 y_Tokens_addWord.1 ∈ jTbl := ⟨jmem 594 (by decide +kernel) (by decide +kernel), jmem 595 (by decide +kernel) (by decide +kernel)⟩
abbrev y_Count_feed : jM := (⟨"CountTreaty", "feed", "(IIIII)I"⟩, prog_1_method_15_code, 7, some .int)
abbrev d_Count_feed : Nat := 2
theorem jcm_Count_feed : Cond.code y_Count_feed.1 y_Count_feed.2.1 y_Count_feed.2.2.1 y_Count_feed.2.2.2 ∈ jTbl := jmt3 (List.mem_of_getElem? (i := 11) rfl) rfl
theorem mo_Count_feed : jMo y_Count_feed 5 := ⟨jcm_Count_feed, ji_9, ⟨by decide, by decide⟩, by decide +kernel⟩
theorem mv_Count_feed : Cond.instanceMethod y_Count_feed.1 ∈ jTbl ∧ Cond.selects y_Count_feed.1.cls y_Count_feed.1 y_Count_feed.1 ∈ jTbl := ⟨jmem 590 (by decide +kernel) (by decide +kernel), jmem 591 (by decide +kernel) (by decide +kernel)⟩
abbrev y_Rows_cut : jM := (⟨"CountTreaty$Rows", "cut", "(I)V"⟩, prog_5_method_8_code, 2, none)
abbrev d_Rows_cut : Nat := 1
theorem jcm_Rows_cut : Cond.code y_Rows_cut.1 y_Rows_cut.2.1 y_Rows_cut.2.2.1 y_Rows_cut.2.2.2 ∈ jTbl := jmt3 (List.mem_of_getElem? (i := 24) rfl) rfl
theorem mo_Rows_cut : jMo y_Rows_cut 1 := ⟨jcm_Rows_cut, ji_3, ⟨by decide, by decide⟩, by decide +kernel⟩
theorem mv_Rows_cut : Cond.instanceMethod y_Rows_cut.1 ∈ jTbl ∧ Cond.selects y_Rows_cut.1.cls y_Rows_cut.1 y_Rows_cut.1 ∈ jTbl := ⟨jmem 603 (by decide +kernel) (by decide +kernel), jmem 604 (by decide +kernel) (by decide +kernel)⟩
abbrev y_Count_end : jM := (⟨"CountTreaty", "end", "(I)I"⟩, prog_1_method_16_code, 2, some .int)
abbrev d_Count_end : Nat := 2
theorem jcm_Count_end : Cond.code y_Count_end.1 y_Count_end.2.1 y_Count_end.2.2.1 y_Count_end.2.2.2 ∈ jTbl := jmt3 (List.mem_of_getElem? (i := 20) rfl) rfl
theorem mo_Count_end : jMo y_Count_end 1 := ⟨jcm_Count_end, ji_9, ⟨by decide, by decide⟩, by decide +kernel⟩
theorem mv_Count_end : Cond.instanceMethod y_Count_end.1 ∈ jTbl ∧ Cond.selects y_Count_end.1.cls y_Count_end.1 y_Count_end.1 ∈ jTbl := ⟨jmem 599 (by decide +kernel) (by decide +kernel), jmem 600 (by decide +kernel) (by decide +kernel)⟩
abbrev y_Tokens_isLetter : jM := (⟨"CountTreaty$Tokens", "isLetter", "(I)Z"⟩, prog_9_method_4_code, 1, some .boolean)
abbrev d_Tokens_isLetter : Nat := 0
theorem jcm_Tokens_isLetter : Cond.code y_Tokens_isLetter.1 y_Tokens_isLetter.2.1 y_Tokens_isLetter.2.2.1 y_Tokens_isLetter.2.2.2 ∈ jTbl := jmt3 (List.mem_of_getElem? (i := 43) rfl) rfl
theorem mo_Tokens_isLetter : jMo y_Tokens_isLetter 1 := ⟨jcm_Tokens_isLetter, ji_7, ⟨by decide, by decide⟩, by decide +kernel⟩
theorem ms_Tokens_isLetter : Cond.static y_Tokens_isLetter.1 ∈ jTbl := jmem 623 (by decide +kernel) (by decide +kernel)
abbrev y_Tokens_takeWord : jM := (⟨"CountTreaty$Tokens", "takeWord", "()I"⟩, prog_9_method_6_code, 6, some .int)
abbrev d_Tokens_takeWord : Nat := 1
theorem jcm_Tokens_takeWord : Cond.code y_Tokens_takeWord.1 y_Tokens_takeWord.2.1 y_Tokens_takeWord.2.2.1 y_Tokens_takeWord.2.2.2 ∈ jTbl := jmt3 (List.mem_of_getElem? (i := 47) rfl) rfl
theorem mo_Tokens_takeWord : jMo y_Tokens_takeWord 0 := ⟨jcm_Tokens_takeWord, ji_7, ⟨by decide, by decide⟩, by decide +kernel⟩
theorem mv_Tokens_takeWord : Cond.instanceMethod y_Tokens_takeWord.1 ∈ jTbl ∧ Cond.selects y_Tokens_takeWord.1.cls y_Tokens_takeWord.1 y_Tokens_takeWord.1 ∈ jTbl := ⟨jmem 627 (by decide +kernel) (by decide +kernel), jmem 3 (by decide +kernel) (by decide +kernel)⟩
abbrev y_Tokens_isDigit : jM := (⟨"CountTreaty$Tokens", "isDigit", "(I)Z"⟩, prog_9_method_5_code, 1, some .boolean)
abbrev d_Tokens_isDigit : Nat := 0
theorem jcm_Tokens_isDigit : Cond.code y_Tokens_isDigit.1 y_Tokens_isDigit.2.1 y_Tokens_isDigit.2.2.1 y_Tokens_isDigit.2.2.2 ∈ jTbl := jmt3 (List.mem_of_getElem? (i := 99) rfl) rfl
theorem mo_Tokens_isDigit : jMo y_Tokens_isDigit 1 := ⟨jcm_Tokens_isDigit, ji_7, ⟨by decide, by decide⟩, by decide +kernel⟩
theorem ms_Tokens_isDigit : Cond.static y_Tokens_isDigit.1 ∈ jTbl := jmem 679 (by decide +kernel) (by decide +kernel)
abbrev y_Tokens_takeNumber : jM := (⟨"CountTreaty$Tokens", "takeNumber", "()I"⟩, prog_9_method_7_code, 3, some .int)
abbrev d_Tokens_takeNumber : Nat := 1
theorem jcm_Tokens_takeNumber : Cond.code y_Tokens_takeNumber.1 y_Tokens_takeNumber.2.1 y_Tokens_takeNumber.2.2.1 y_Tokens_takeNumber.2.2.2 ∈ jTbl := jmt3 (List.mem_of_getElem? (i := 103) rfl) rfl
theorem mo_Tokens_takeNumber : jMo y_Tokens_takeNumber 0 := ⟨jcm_Tokens_takeNumber, ji_7, ⟨by decide, by decide⟩, by decide +kernel⟩
theorem mv_Tokens_takeNumber : Cond.instanceMethod y_Tokens_takeNumber.1 ∈ jTbl ∧ Cond.selects y_Tokens_takeNumber.1.cls y_Tokens_takeNumber.1 y_Tokens_takeNumber.1 ∈ jTbl := ⟨jmem 683 (by decide +kernel) (by decide +kernel), jmem 4 (by decide +kernel) (by decide +kernel)⟩
abbrev y_Tokens_takeSign : jM := (⟨"CountTreaty$Tokens", "takeSign", "(I)I"⟩, prog_9_method_8_code, 3, some .int)
abbrev d_Tokens_takeSign : Nat := 1
theorem jcm_Tokens_takeSign : Cond.code y_Tokens_takeSign.1 y_Tokens_takeSign.2.1 y_Tokens_takeSign.2.2.1 y_Tokens_takeSign.2.2.2 ∈ jTbl := jmt3 (List.mem_of_getElem? (i := 108) rfl) rfl
theorem mo_Tokens_takeSign : jMo y_Tokens_takeSign 1 := ⟨jcm_Tokens_takeSign, ji_7, ⟨by decide, by decide⟩, by decide +kernel⟩
theorem mv_Tokens_takeSign : Cond.instanceMethod y_Tokens_takeSign.1 ∈ jTbl ∧ Cond.selects y_Tokens_takeSign.1.cls y_Tokens_takeSign.1 y_Tokens_takeSign.1 ∈ jTbl := ⟨jmem 688 (by decide +kernel) (by decide +kernel), jmem 5 (by decide +kernel) (by decide +kernel)⟩
abbrev y_Tokens_split : jM := (⟨"CountTreaty$Tokens", "split", "()V"⟩, prog_9_method_3_code, 4, none)
abbrev d_Tokens_split : Nat := 2
theorem jcm_Tokens_split : Cond.code y_Tokens_split.1 y_Tokens_split.2.1 y_Tokens_split.2.2.1 y_Tokens_split.2.2.2 ∈ jTbl := jmt3 (List.mem_of_getElem? (i := 37) rfl) rfl
theorem mo_Tokens_split : jMo y_Tokens_split 0 := ⟨jcm_Tokens_split, ji_7, ⟨by decide, by decide⟩, by decide +kernel⟩
theorem mv_Tokens_split : Cond.instanceMethod y_Tokens_split.1 ∈ jTbl ∧ Cond.selects y_Tokens_split.1.cls y_Tokens_split.1 y_Tokens_split.1 ∈ jTbl := ⟨jmem 616 (by decide +kernel) (by decide +kernel), jmem 617 (by decide +kernel) (by decide +kernel)⟩
abbrev y_Reader_fail : jM := (⟨"CountTreaty$Reader", "fail", "(I)Z"⟩, prog_4_method_3_code, 2, some .boolean)
abbrev d_Reader_fail : Nat := 0
theorem jcm_Reader_fail : Cond.code y_Reader_fail.1 y_Reader_fail.2.1 y_Reader_fail.2.2.1 y_Reader_fail.2.2.2 ∈ jTbl := jmt3 (List.mem_of_getElem? (i := 118) rfl) rfl
theorem mo_Reader_fail : jMo y_Reader_fail 1 := ⟨jcm_Reader_fail, ji_2, ⟨by decide, by decide⟩, by decide +kernel⟩
theorem mv_Reader_fail : Cond.instanceMethod y_Reader_fail.1 ∈ jTbl ∧ Cond.selects y_Reader_fail.1.cls y_Reader_fail.1 y_Reader_fail.1 ∈ jTbl := ⟨jmem 698 (by decide +kernel) (by decide +kernel), jmem 7 (by decide +kernel) (by decide +kernel)⟩
abbrev y_Reader_among : jM := (⟨"CountTreaty$Reader", "among", "(IIII)Z"⟩, prog_4_method_6_code, 6, some .boolean)
abbrev d_Reader_among : Nat := 1
theorem jcm_Reader_among : Cond.code y_Reader_among.1 y_Reader_among.2.1 y_Reader_among.2.2.1 y_Reader_among.2.2.2 ∈ jTbl := jmt3 (List.mem_of_getElem? (i := 123) rfl) rfl
theorem mo_Reader_among : jMo y_Reader_among 4 := ⟨jcm_Reader_among, ji_2, ⟨by decide, by decide⟩, by decide +kernel⟩
theorem mv_Reader_among : Cond.instanceMethod y_Reader_among.1 ∈ jTbl ∧ Cond.selects y_Reader_among.1.cls y_Reader_among.1 y_Reader_among.1 ∈ jTbl := ⟨jmem 703 (by decide +kernel) (by decide +kernel), jmem 8 (by decide +kernel) (by decide +kernel)⟩
abbrev y_Reader_expect : jM := (⟨"CountTreaty$Reader", "expect", "(I)Z"⟩, prog_4_method_5_code, 2, some .boolean)
abbrev d_Reader_expect : Nat := 1
theorem jcm_Reader_expect : Cond.code y_Reader_expect.1 y_Reader_expect.2.1 y_Reader_expect.2.2.1 y_Reader_expect.2.2.2 ∈ jTbl := jmt3 (List.mem_of_getElem? (i := 128) rfl) rfl
theorem mo_Reader_expect : jMo y_Reader_expect 1 := ⟨jcm_Reader_expect, ji_2, ⟨by decide, by decide⟩, by decide +kernel⟩
theorem mv_Reader_expect : Cond.instanceMethod y_Reader_expect.1 ∈ jTbl ∧ Cond.selects y_Reader_expect.1.cls y_Reader_expect.1 y_Reader_expect.1 ∈ jTbl := ⟨jmem 708 (by decide +kernel) (by decide +kernel), jmem 9 (by decide +kernel) (by decide +kernel)⟩
abbrev y_Reader_one : jM := (⟨"CountTreaty$Reader", "one", "()Z"⟩, prog_4_method_10_code, 3, some .boolean)
abbrev d_Reader_one : Nat := 1
theorem jcm_Reader_one : Cond.code y_Reader_one.1 y_Reader_one.2.1 y_Reader_one.2.2.1 y_Reader_one.2.2.2 ∈ jTbl := jmt3 (List.mem_of_getElem? (i := 145) rfl) rfl
theorem mo_Reader_one : jMo y_Reader_one 0 := ⟨jcm_Reader_one, ji_2, ⟨by decide, by decide⟩, by decide +kernel⟩
theorem mv_Reader_one : Cond.instanceMethod y_Reader_one.1 ∈ jTbl ∧ Cond.selects y_Reader_one.1.cls y_Reader_one.1 y_Reader_one.1 ∈ jTbl := ⟨jmem 725 (by decide +kernel) (by decide +kernel), jmem 13 (by decide +kernel) (by decide +kernel)⟩
abbrev y_Reader_relation : jM := (⟨"CountTreaty$Reader", "relation", "()Z"⟩, prog_4_method_11_code, 2, some .boolean)
abbrev d_Reader_relation : Nat := 1
theorem jcm_Reader_relation : Cond.code y_Reader_relation.1 y_Reader_relation.2.1 y_Reader_relation.2.2.1 y_Reader_relation.2.2.2 ∈ jTbl := jmt3 (List.mem_of_getElem? (i := 149) rfl) rfl
theorem mo_Reader_relation : jMo y_Reader_relation 0 := ⟨jcm_Reader_relation, ji_2, ⟨by decide, by decide⟩, by decide +kernel⟩
theorem mv_Reader_relation : Cond.instanceMethod y_Reader_relation.1 ∈ jTbl ∧ Cond.selects y_Reader_relation.1.cls y_Reader_relation.1 y_Reader_relation.1 ∈ jTbl := ⟨jmem 729 (by decide +kernel) (by decide +kernel), jmem 14 (by decide +kernel) (by decide +kernel)⟩
abbrev y_Reader_single : jM := (⟨"CountTreaty$Reader", "single", "(I)Z"⟩, prog_4_method_9_code, 4, some .boolean)
abbrev d_Reader_single : Nat := 2
theorem jcm_Reader_single : Cond.code y_Reader_single.1 y_Reader_single.2.1 y_Reader_single.2.2.1 y_Reader_single.2.2.2 ∈ jTbl := jmt3 (List.mem_of_getElem? (i := 141) rfl) rfl
theorem mo_Reader_single : jMo y_Reader_single 1 := ⟨jcm_Reader_single, ji_2, ⟨by decide, by decide⟩, by decide +kernel⟩
theorem mv_Reader_single : Cond.instanceMethod y_Reader_single.1 ∈ jTbl ∧ Cond.selects y_Reader_single.1.cls y_Reader_single.1 y_Reader_single.1 ∈ jTbl := ⟨jmem 721 (by decide +kernel) (by decide +kernel), jmem 12 (by decide +kernel) (by decide +kernel)⟩
abbrev y_Reader_both : jM := (⟨"CountTreaty$Reader", "both", "(I)Z"⟩, prog_4_method_8_code, 3, some .boolean)
abbrev d_Reader_both : Nat := 3
theorem jcm_Reader_both : Cond.code y_Reader_both.1 y_Reader_both.2.1 y_Reader_both.2.2.1 y_Reader_both.2.2.2 ∈ jTbl := jmt3 (List.mem_of_getElem? (i := 137) rfl) rfl
theorem mo_Reader_both : jMo y_Reader_both 1 := ⟨jcm_Reader_both, ji_2, ⟨by decide, by decide⟩, by decide +kernel⟩
theorem mv_Reader_both : Cond.instanceMethod y_Reader_both.1 ∈ jTbl ∧ Cond.selects y_Reader_both.1.cls y_Reader_both.1 y_Reader_both.1 ∈ jTbl := ⟨jmem 717 (by decide +kernel) (by decide +kernel), jmem 11 (by decide +kernel) (by decide +kernel)⟩
abbrev y_Reader_either : jM := (⟨"CountTreaty$Reader", "either", "(I)Z"⟩, prog_4_method_7_code, 3, some .boolean)
abbrev d_Reader_either : Nat := 4
theorem jcm_Reader_either : Cond.code y_Reader_either.1 y_Reader_either.2.1 y_Reader_either.2.2.1 y_Reader_either.2.2.2 ∈ jTbl := jmt3 (List.mem_of_getElem? (i := 133) rfl) rfl
theorem mo_Reader_either : jMo y_Reader_either 1 := ⟨jcm_Reader_either, ji_2, ⟨by decide, by decide⟩, by decide +kernel⟩
theorem mv_Reader_either : Cond.instanceMethod y_Reader_either.1 ∈ jTbl ∧ Cond.selects y_Reader_either.1.cls y_Reader_either.1 y_Reader_either.1 ∈ jTbl := ⟨jmem 713 (by decide +kernel) (by decide +kernel), jmem 10 (by decide +kernel) (by decide +kernel)⟩
abbrev y_Reader_clause : jM := (⟨"CountTreaty$Reader", "clause", "(I)Z"⟩, prog_4_method_4_code, 5, some .boolean)
abbrev d_Reader_clause : Nat := 5
theorem jcm_Reader_clause : Cond.code y_Reader_clause.1 y_Reader_clause.2.1 y_Reader_clause.2.2.1 y_Reader_clause.2.2.2 ∈ jTbl := jmt3 (List.mem_of_getElem? (i := 114) rfl) rfl
theorem mo_Reader_clause : jMo y_Reader_clause 1 := ⟨jcm_Reader_clause, ji_2, ⟨by decide, by decide⟩, by decide +kernel⟩
theorem mv_Reader_clause : Cond.instanceMethod y_Reader_clause.1 ∈ jTbl ∧ Cond.selects y_Reader_clause.1.cls y_Reader_clause.1 y_Reader_clause.1 ∈ jTbl := ⟨jmem 694 (by decide +kernel) (by decide +kernel), jmem 6 (by decide +kernel) (by decide +kernel)⟩
abbrev y_Reader_read : jM := (⟨"CountTreaty$Reader", "read", "()Z"⟩, prog_4_method_2_code, 2, some .boolean)
abbrev d_Reader_read : Nat := 6
theorem jcm_Reader_read : Cond.code y_Reader_read.1 y_Reader_read.2.1 y_Reader_read.2.2.1 y_Reader_read.2.2.2 ∈ jTbl := jmt3 (List.mem_of_getElem? (i := 33) rfl) rfl
theorem mo_Reader_read : jMo y_Reader_read 0 := ⟨jcm_Reader_read, ji_2, ⟨by decide, by decide⟩, by decide +kernel⟩
theorem mv_Reader_read : Cond.instanceMethod y_Reader_read.1 ∈ jTbl ∧ Cond.selects y_Reader_read.1.cls y_Reader_read.1 y_Reader_read.1 ∈ jTbl := ⟨jmem 612 (by decide +kernel) (by decide +kernel), jmem 613 (by decide +kernel) (by decide +kernel)⟩
abbrev y_Treaty_adopt : jM := (⟨"CountTreaty$Treaty", "adopt", "(LCountTreaty$Reader;I)I"⟩, prog_10_method_3_code, 10, some .int)
abbrev d_Treaty_adopt : Nat := 1
theorem jcm_Treaty_adopt : Cond.code y_Treaty_adopt.1 y_Treaty_adopt.2.1 y_Treaty_adopt.2.2.1 y_Treaty_adopt.2.2.2 ∈ jTbl := jmt3 (List.mem_of_getElem? (i := 153) rfl) rfl
theorem mo_Treaty_adopt : jMo y_Treaty_adopt 2 := ⟨jcm_Treaty_adopt, ji_8, ⟨by decide, by decide⟩, by decide +kernel⟩
theorem mv_Treaty_adopt : Cond.instanceMethod y_Treaty_adopt.1 ∈ jTbl ∧ Cond.selects y_Treaty_adopt.1.cls y_Treaty_adopt.1 y_Treaty_adopt.1 ∈ jTbl := ⟨jmem 732 (by decide +kernel) (by decide +kernel), jmem 733 (by decide +kernel) (by decide +kernel)⟩
abbrev y_Count_text : jM := (⟨"CountTreaty", "text", "(I)I"⟩, prog_1_method_17_code, 3, some .int)
abbrev d_Count_text : Nat := 7
theorem jcm_Count_text : Cond.code y_Count_text.1 y_Count_text.2.1 y_Count_text.2.2.1 y_Count_text.2.2.2 ∈ jTbl := jmt3 (List.mem_of_getElem? (i := 29) rfl) rfl
theorem mo_Count_text : jMo y_Count_text 1 := ⟨jcm_Count_text, ji_9, ⟨by decide, by decide⟩, by decide +kernel⟩
theorem mv_Count_text : Cond.instanceMethod y_Count_text.1 ∈ jTbl ∧ Cond.selects y_Count_text.1.cls y_Count_text.1 y_Count_text.1 ∈ jTbl := ⟨jmem 608 (by decide +kernel) (by decide +kernel), jmem 609 (by decide +kernel) (by decide +kernel)⟩
abbrev y_Count_fault : jM := (⟨"CountTreaty", "fault", "(I)I"⟩, prog_1_method_18_code, 2, some .int)
abbrev d_Count_fault : Nat := 0
theorem jcm_Count_fault : Cond.code y_Count_fault.1 y_Count_fault.2.1 y_Count_fault.2.2.1 y_Count_fault.2.2.2 ∈ jTbl := jmt3 (List.mem_of_getElem? (i := 160) rfl) rfl
theorem mo_Count_fault : jMo y_Count_fault 1 := ⟨jcm_Count_fault, ji_9, ⟨by decide, by decide⟩, by decide +kernel⟩
theorem mv_Count_fault : Cond.instanceMethod y_Count_fault.1 ∈ jTbl ∧ Cond.selects y_Count_fault.1.cls y_Count_fault.1 y_Count_fault.1 ∈ jTbl := ⟨jmem 739 (by decide +kernel) (by decide +kernel), jmem 740 (by decide +kernel) (by decide +kernel)⟩
abbrev y_Count_says : jM := (⟨"CountTreaty", "says", "(II)I"⟩, prog_1_method_19_code, 3, some .int)
abbrev d_Count_says : Nat := 4
theorem jcm_Count_says : Cond.code y_Count_says.1 y_Count_says.2.1 y_Count_says.2.2.1 y_Count_says.2.2.2 ∈ jTbl := jmt3 (List.mem_of_getElem? (i := 164) rfl) rfl
theorem mo_Count_says : jMo y_Count_says 2 := ⟨jcm_Count_says, ji_9, ⟨by decide, by decide⟩, by decide +kernel⟩
theorem mv_Count_says : Cond.instanceMethod y_Count_says.1 ∈ jTbl ∧ Cond.selects y_Count_says.1.cls y_Count_says.1 y_Count_says.1 ∈ jTbl := ⟨jmem 743 (by decide +kernel) (by decide +kernel), jmem 744 (by decide +kernel) (by decide +kernel)⟩
abbrev y_Treaty_see : jM := (⟨"CountTreaty$Treaty", "see", "(II)V"⟩, prog_10_method_9_code, 4, none)
abbrev d_Treaty_see : Nat := 0
theorem jcm_Treaty_see : Cond.code y_Treaty_see.1 y_Treaty_see.2.1 y_Treaty_see.2.2.1 y_Treaty_see.2.2.2 ∈ jTbl := jmt3 (List.mem_of_getElem? (i := 181) rfl) rfl
theorem mo_Treaty_see : jMo y_Treaty_see 2 := ⟨jcm_Treaty_see, ji_8, ⟨by decide, by decide⟩, by decide +kernel⟩
theorem mv_Treaty_see : Cond.instanceMethod y_Treaty_see.1 ∈ jTbl ∧ Cond.selects y_Treaty_see.1.cls y_Treaty_see.1 y_Treaty_see.1 ∈ jTbl := ⟨jmem 761 (by decide +kernel) (by decide +kernel), jmem 15 (by decide +kernel) (by decide +kernel)⟩
abbrev y_Treaty_look : jM := (⟨"CountTreaty$Treaty", "look", "(LCountTreaty$Rows;II)V"⟩, prog_10_method_8_code, 4, none)
abbrev d_Treaty_look : Nat := 1
theorem jcm_Treaty_look : Cond.code y_Treaty_look.1 y_Treaty_look.2.1 y_Treaty_look.2.2.1 y_Treaty_look.2.2.2 ∈ jTbl := jmt3 (List.mem_of_getElem? (i := 177) rfl) rfl
theorem mo_Treaty_look : jMo y_Treaty_look 3 := ⟨jcm_Treaty_look, ji_8, ⟨by decide, by decide⟩, by decide +kernel⟩
theorem mv_Treaty_look : Cond.instanceMethod y_Treaty_look.1 ∈ jTbl ∧ Cond.selects y_Treaty_look.1.cls y_Treaty_look.1 y_Treaty_look.1 ∈ jTbl := ⟨jmem 756 (by decide +kernel) (by decide +kernel), jmem 757 (by decide +kernel) (by decide +kernel)⟩
abbrev y_Treaty_operand : jM := (⟨"CountTreaty$Treaty", "operand", "(I)I"⟩, prog_10_method_12_code, 3, some .int)
abbrev d_Treaty_operand : Nat := 0
theorem jcm_Treaty_operand : Cond.code y_Treaty_operand.1 y_Treaty_operand.2.1 y_Treaty_operand.2.2.1 y_Treaty_operand.2.2.2 ∈ jTbl := jmt3 (List.mem_of_getElem? (i := 194) rfl) rfl
theorem mo_Treaty_operand : jMo y_Treaty_operand 1 := ⟨jcm_Treaty_operand, ji_8, ⟨by decide, by decide⟩, by decide +kernel⟩
theorem mv_Treaty_operand : Cond.instanceMethod y_Treaty_operand.1 ∈ jTbl ∧ Cond.selects y_Treaty_operand.1.cls y_Treaty_operand.1 y_Treaty_operand.1 ∈ jTbl := ⟨jmem 774 (by decide +kernel) (by decide +kernel), jmem 17 (by decide +kernel) (by decide +kernel)⟩
abbrev y_Treaty_compares : jM := (⟨"CountTreaty$Treaty", "compares", "(III)Z"⟩, prog_10_method_13_code, 3, some .boolean)
abbrev d_Treaty_compares : Nat := 0
theorem jcm_Treaty_compares : Cond.code y_Treaty_compares.1 y_Treaty_compares.2.1 y_Treaty_compares.2.2.1 y_Treaty_compares.2.2.2 ∈ jTbl := jmt3 (List.mem_of_getElem? (i := 197) rfl) rfl
theorem mo_Treaty_compares : jMo y_Treaty_compares 3 := ⟨jcm_Treaty_compares, ji_8, ⟨by decide, by decide⟩, by decide +kernel⟩
theorem ms_Treaty_compares : Cond.static y_Treaty_compares.1 ∈ jTbl := jmem 777 (by decide +kernel) (by decide +kernel)
abbrev y_Treaty_holds : jM := (⟨"CountTreaty$Treaty", "holds", "(I)Z"⟩, prog_10_method_11_code, 8, some .boolean)
abbrev d_Treaty_holds : Nat := 1
theorem jcm_Treaty_holds : Cond.code y_Treaty_holds.1 y_Treaty_holds.2.1 y_Treaty_holds.2.2.1 y_Treaty_holds.2.2.2 ∈ jTbl := jmt3 (List.mem_of_getElem? (i := 189) rfl) rfl
theorem mo_Treaty_holds : jMo y_Treaty_holds 1 := ⟨jcm_Treaty_holds, ji_8, ⟨by decide, by decide⟩, by decide +kernel⟩
theorem mv_Treaty_holds : Cond.instanceMethod y_Treaty_holds.1 ∈ jTbl ∧ Cond.selects y_Treaty_holds.1.cls y_Treaty_holds.1 y_Treaty_holds.1 ∈ jTbl := ⟨jmem 769 (by decide +kernel) (by decide +kernel), jmem 16 (by decide +kernel) (by decide +kernel)⟩
abbrev y_Treaty_someHolds : jM := (⟨"CountTreaty$Treaty", "someHolds", "(II)Z"⟩, prog_10_method_10_code, 4, some .boolean)
abbrev d_Treaty_someHolds : Nat := 2
theorem jcm_Treaty_someHolds : Cond.code y_Treaty_someHolds.1 y_Treaty_someHolds.2.1 y_Treaty_someHolds.2.2.1 y_Treaty_someHolds.2.2.2 ∈ jTbl := jmt3 (List.mem_of_getElem? (i := 185) rfl) rfl
theorem mo_Treaty_someHolds : jMo y_Treaty_someHolds 2 := ⟨jcm_Treaty_someHolds, ji_8, ⟨by decide, by decide⟩, by decide +kernel⟩
theorem mv_Treaty_someHolds : Cond.instanceMethod y_Treaty_someHolds.1 ∈ jTbl ∧ Cond.selects y_Treaty_someHolds.1.cls y_Treaty_someHolds.1 y_Treaty_someHolds.1 ∈ jTbl := ⟨jmem 764 (by decide +kernel) (by decide +kernel), jmem 765 (by decide +kernel) (by decide +kernel)⟩
abbrev y_State_isCounting : jM := (⟨"CountTreaty$State", "isCounting", "(III)Z"⟩, prog_8_method_15_code, 4, some .boolean)
abbrev d_State_isCounting : Nat := 3
theorem jcm_State_isCounting : Cond.code y_State_isCounting.1 y_State_isCounting.2.1 y_State_isCounting.2.2.1 y_State_isCounting.2.2.2 ∈ jTbl := jmt3 (List.mem_of_getElem? (i := 173) rfl) rfl
theorem mo_State_isCounting : jMo y_State_isCounting 3 := ⟨jcm_State_isCounting, ji_6, ⟨by decide, by decide⟩, by decide +kernel⟩
theorem mv_State_isCounting : Cond.instanceMethod y_State_isCounting.1 ∈ jTbl ∧ Cond.selects y_State_isCounting.1.cls y_State_isCounting.1 y_State_isCounting.1 ∈ jTbl := ⟨jmem 752 (by decide +kernel) (by decide +kernel), jmem 753 (by decide +kernel) (by decide +kernel)⟩
abbrev y_Count_counts : jM := (⟨"CountTreaty", "counts", "(III)I"⟩, prog_1_method_20_code, 4, some .int)
abbrev d_Count_counts : Nat := 4
theorem jcm_Count_counts : Cond.code y_Count_counts.1 y_Count_counts.2.1 y_Count_counts.2.2.1 y_Count_counts.2.2.2 ∈ jTbl := jmt3 (List.mem_of_getElem? (i := 168) rfl) rfl
theorem mo_Count_counts : jMo y_Count_counts 3 := ⟨jcm_Count_counts, ji_9, ⟨by decide, by decide⟩, by decide +kernel⟩
theorem mv_Count_counts : Cond.instanceMethod y_Count_counts.1 ∈ jTbl ∧ Cond.selects y_Count_counts.1.cls y_Count_counts.1 y_Count_counts.1 ∈ jTbl := ⟨jmem 747 (by decide +kernel) (by decide +kernel), jmem 748 (by decide +kernel) (by decide +kernel)⟩
abbrev y_State_numberCounting : jM := (⟨"CountTreaty$State", "numberCounting", "(II)I"⟩, prog_8_method_16_code, 7, some .int)
abbrev d_State_numberCounting : Nat := 4
theorem jcm_State_numberCounting : Cond.code y_State_numberCounting.1 y_State_numberCounting.2.1 y_State_numberCounting.2.2.1 y_State_numberCounting.2.2.2 ∈ jTbl := jmt3 (List.mem_of_getElem? (i := 205) rfl) rfl
theorem mo_State_numberCounting : jMo y_State_numberCounting 2 := ⟨jcm_State_numberCounting, ji_6, ⟨by decide, by decide⟩, by decide +kernel⟩
theorem mv_State_numberCounting : Cond.instanceMethod y_State_numberCounting.1 ∈ jTbl ∧ Cond.selects y_State_numberCounting.1.cls y_State_numberCounting.1 y_State_numberCounting.1 ∈ jTbl := ⟨jmem 784 (by decide +kernel) (by decide +kernel), jmem 785 (by decide +kernel) (by decide +kernel)⟩
abbrev y_Count_counted : jM := (⟨"CountTreaty", "counted", "(II)I"⟩, prog_1_method_21_code, 3, some .int)
abbrev d_Count_counted : Nat := 5
theorem jcm_Count_counted : Cond.code y_Count_counted.1 y_Count_counted.2.1 y_Count_counted.2.2.1 y_Count_counted.2.2.2 ∈ jTbl := jmt3 (List.mem_of_getElem? (i := 201) rfl) rfl
theorem mo_Count_counted : jMo y_Count_counted 2 := ⟨jcm_Count_counted, ji_9, ⟨by decide, by decide⟩, by decide +kernel⟩
theorem mv_Count_counted : Cond.instanceMethod y_Count_counted.1 ∈ jTbl ∧ Cond.selects y_Count_counted.1.cls y_Count_counted.1 y_Count_counted.1 ∈ jTbl := ⟨jmem 780 (by decide +kernel) (by decide +kernel), jmem 781 (by decide +kernel) (by decide +kernel)⟩
abbrev y_Count_tell : jM := (⟨"CountTreaty", "tell", "(III)I"⟩, prog_1_method_22_code, 6, some .int)
abbrev d_Count_tell : Nat := 2
theorem jcm_Count_tell : Cond.code y_Count_tell.1 y_Count_tell.2.1 y_Count_tell.2.2.1 y_Count_tell.2.2.2 ∈ jTbl := jmt3 (List.mem_of_getElem? (i := 212) rfl) rfl
theorem mo_Count_tell : jMo y_Count_tell 3 := ⟨jcm_Count_tell, ji_9, ⟨by decide, by decide⟩, by decide +kernel⟩
theorem mv_Count_tell : Cond.instanceMethod y_Count_tell.1 ∈ jTbl ∧ Cond.selects y_Count_tell.1.cls y_Count_tell.1 y_Count_tell.1 ∈ jTbl := ⟨jmem 791 (by decide +kernel) (by decide +kernel), jmem 792 (by decide +kernel) (by decide +kernel)⟩
abbrev y_Knowing_hear : jM := (⟨"CountTreaty$Knowing", "hear", "(LCountTreaty$State;II)V"⟩, prog_3_method_2_code, 7, none)
abbrev d_Knowing_hear : Nat := 1
theorem jcm_Knowing_hear : Cond.code y_Knowing_hear.1 y_Knowing_hear.2.1 y_Knowing_hear.2.2.1 y_Knowing_hear.2.2.2 ∈ jTbl := jmt3 (List.mem_of_getElem? (i := 220) rfl) rfl
theorem mo_Knowing_hear : jMo y_Knowing_hear 3 := ⟨jcm_Knowing_hear, ji_1, ⟨by decide, by decide⟩, by decide +kernel⟩
theorem mv_Knowing_hear : Cond.instanceMethod y_Knowing_hear.1 ∈ jTbl ∧ Cond.selects y_Knowing_hear.1.cls y_Knowing_hear.1 y_Knowing_hear.1 ∈ jTbl := ⟨jmem 799 (by decide +kernel) (by decide +kernel), jmem 800 (by decide +kernel) (by decide +kernel)⟩
abbrev y_Knowing_placeTold : jM := (⟨"CountTreaty$Knowing", "placeTold", "(LCountTreaty$State;I)I"⟩, prog_3_method_3_code, 3, some .int)
abbrev d_Knowing_placeTold : Nat := 1
theorem jcm_Knowing_placeTold : Cond.code y_Knowing_placeTold.1 y_Knowing_placeTold.2.1 y_Knowing_placeTold.2.2.1 y_Knowing_placeTold.2.2.2 ∈ jTbl := jmt3 (List.mem_of_getElem? (i := 226) rfl) rfl
theorem mo_Knowing_placeTold : jMo y_Knowing_placeTold 2 := ⟨jcm_Knowing_placeTold, ji_1, ⟨by decide, by decide⟩, by decide +kernel⟩
theorem mv_Knowing_placeTold : Cond.instanceMethod y_Knowing_placeTold.1 ∈ jTbl ∧ Cond.selects y_Knowing_placeTold.1.cls y_Knowing_placeTold.1 y_Knowing_placeTold.1 ∈ jTbl := ⟨jmem 805 (by decide +kernel) (by decide +kernel), jmem 806 (by decide +kernel) (by decide +kernel)⟩
abbrev y_Count_told : jM := (⟨"CountTreaty", "told", "(III)I"⟩, prog_1_method_23_code, 4, some .int)
abbrev d_Count_told : Nat := 2
theorem jcm_Count_told : Cond.code y_Count_told.1 y_Count_told.2.1 y_Count_told.2.2.1 y_Count_told.2.2.2 ∈ jTbl := jmt3 (List.mem_of_getElem? (i := 216) rfl) rfl
theorem mo_Count_told : jMo y_Count_told 3 := ⟨jcm_Count_told, ji_9, ⟨by decide, by decide⟩, by decide +kernel⟩
theorem mv_Count_told : Cond.instanceMethod y_Count_told.1 ∈ jTbl ∧ Cond.selects y_Count_told.1.cls y_Count_told.1 y_Count_told.1 ∈ jTbl := ⟨jmem 795 (by decide +kernel) (by decide +kernel), jmem 796 (by decide +kernel) (by decide +kernel)⟩
abbrev y_Knowing_numberTold : jM := (⟨"CountTreaty$Knowing", "numberTold", "(LCountTreaty$State;II)I"⟩, prog_3_method_4_code, 6, some .int)
abbrev d_Knowing_numberTold : Nat := 2
theorem jcm_Knowing_numberTold : Cond.code y_Knowing_numberTold.1 y_Knowing_numberTold.2.1 y_Knowing_numberTold.2.2.1 y_Knowing_numberTold.2.2.2 ∈ jTbl := jmt3 (List.mem_of_getElem? (i := 234) rfl) rfl
theorem mo_Knowing_numberTold : jMo y_Knowing_numberTold 3 := ⟨jcm_Knowing_numberTold, ji_1, ⟨by decide, by decide⟩, by decide +kernel⟩
theorem mv_Knowing_numberTold : Cond.instanceMethod y_Knowing_numberTold.1 ∈ jTbl ∧ Cond.selects y_Knowing_numberTold.1.cls y_Knowing_numberTold.1 y_Knowing_numberTold.1 ∈ jTbl := ⟨jmem 813 (by decide +kernel) (by decide +kernel), jmem 814 (by decide +kernel) (by decide +kernel)⟩
abbrev y_Count_toldAt : jM := (⟨"CountTreaty", "toldAt", "(IIII)I"⟩, prog_1_method_24_code, 5, some .int)
abbrev d_Count_toldAt : Nat := 3
theorem jcm_Count_toldAt : Cond.code y_Count_toldAt.1 y_Count_toldAt.2.1 y_Count_toldAt.2.2.1 y_Count_toldAt.2.2.2 ∈ jTbl := jmt3 (List.mem_of_getElem? (i := 230) rfl) rfl
theorem mo_Count_toldAt : jMo y_Count_toldAt 4 := ⟨jcm_Count_toldAt, ji_9, ⟨by decide, by decide⟩, by decide +kernel⟩
theorem mv_Count_toldAt : Cond.instanceMethod y_Count_toldAt.1 ∈ jTbl ∧ Cond.selects y_Count_toldAt.1.cls y_Count_toldAt.1 y_Count_toldAt.1 ∈ jTbl := ⟨jmem 809 (by decide +kernel) (by decide +kernel), jmem 810 (by decide +kernel) (by decide +kernel)⟩
abbrev y_Count_isAbroad : jM := (⟨"CountTreaty", "isAbroad", "(II)Z"⟩, prog_1_method_26_code, 3, some .boolean)
abbrev d_Count_isAbroad : Nat := 1
theorem jcm_Count_isAbroad : Cond.code y_Count_isAbroad.1 y_Count_isAbroad.2.1 y_Count_isAbroad.2.2.1 y_Count_isAbroad.2.2.2 ∈ jTbl := jmt4 (List.mem_of_getElem? (i := 3) rfl) rfl
theorem mo_Count_isAbroad : jMo y_Count_isAbroad 2 := ⟨jcm_Count_isAbroad, ji_9, ⟨by decide, by decide⟩, by decide +kernel⟩
theorem mv_Count_isAbroad : Cond.instanceMethod y_Count_isAbroad.1 ∈ jTbl ∧ Cond.selects y_Count_isAbroad.1.cls y_Count_isAbroad.1 y_Count_isAbroad.1 ∈ jTbl := ⟨jmem 823 (by decide +kernel) (by decide +kernel), jmem 18 (by decide +kernel) (by decide +kernel)⟩
abbrev y_State_lookAround : jM := (⟨"CountTreaty$State", "lookAround", "(III)V"⟩, prog_8_method_18_code, 8, none)
abbrev d_State_lookAround : Nat := 3
theorem jcm_State_lookAround : Cond.code y_State_lookAround.1 y_State_lookAround.2.1 y_State_lookAround.2.2.1 y_State_lookAround.2.2.2 ∈ jTbl := jmt4 (List.mem_of_getElem? (i := 7) rfl) rfl
theorem mo_State_lookAround : jMo y_State_lookAround 3 := ⟨jcm_State_lookAround, ji_6, ⟨by decide, by decide⟩, by decide +kernel⟩
theorem mv_State_lookAround : Cond.instanceMethod y_State_lookAround.1 ∈ jTbl ∧ Cond.selects y_State_lookAround.1.cls y_State_lookAround.1 y_State_lookAround.1 ∈ jTbl := ⟨jmem 826 (by decide +kernel) (by decide +kernel), jmem 827 (by decide +kernel) (by decide +kernel)⟩
abbrev y_State_lookAtSeal : jM := (⟨"CountTreaty$State", "lookAtSeal", "(III)V"⟩, prog_8_method_19_code, 6, none)
abbrev d_State_lookAtSeal : Nat := 2
theorem jcm_State_lookAtSeal : Cond.code y_State_lookAtSeal.1 y_State_lookAtSeal.2.1 y_State_lookAtSeal.2.2.1 y_State_lookAtSeal.2.2.2 ∈ jTbl := jmt4 (List.mem_of_getElem? (i := 11) rfl) rfl
theorem mo_State_lookAtSeal : jMo y_State_lookAtSeal 3 := ⟨jcm_State_lookAtSeal, ji_6, ⟨by decide, by decide⟩, by decide +kernel⟩
theorem mv_State_lookAtSeal : Cond.instanceMethod y_State_lookAtSeal.1 ∈ jTbl ∧ Cond.selects y_State_lookAtSeal.1.cls y_State_lookAtSeal.1 y_State_lookAtSeal.1 ∈ jTbl := ⟨jmem 830 (by decide +kernel) (by decide +kernel), jmem 831 (by decide +kernel) (by decide +kernel)⟩
abbrev y_Count_visit : jM := (⟨"CountTreaty", "visit", "(II)I"⟩, prog_1_method_25_code, 4, some .int)
abbrev d_Count_visit : Nat := 4
theorem jcm_Count_visit : Cond.code y_Count_visit.1 y_Count_visit.2.1 y_Count_visit.2.2.1 y_Count_visit.2.2.2 ∈ jTbl := jmt3 (List.mem_of_getElem? (i := 239) rfl) rfl
theorem mo_Count_visit : jMo y_Count_visit 2 := ⟨jcm_Count_visit, ji_9, ⟨by decide, by decide⟩, by decide +kernel⟩
theorem mv_Count_visit : Cond.instanceMethod y_Count_visit.1 ∈ jTbl ∧ Cond.selects y_Count_visit.1.cls y_Count_visit.1 y_Count_visit.1 ∈ jTbl := ⟨jmem 818 (by decide +kernel) (by decide +kernel), jmem 819 (by decide +kernel) (by decide +kernel)⟩
abbrev y_Count_saw : jM := (⟨"CountTreaty", "saw", "(II)I"⟩, prog_1_method_27_code, 3, some .int)
abbrev d_Count_saw : Nat := 1
theorem jcm_Count_saw : Cond.code y_Count_saw.1 y_Count_saw.2.1 y_Count_saw.2.2.1 y_Count_saw.2.2.2 ∈ jTbl := jmt4 (List.mem_of_getElem? (i := 15) rfl) rfl
theorem mo_Count_saw : jMo y_Count_saw 2 := ⟨jcm_Count_saw, ji_9, ⟨by decide, by decide⟩, by decide +kernel⟩
theorem mv_Count_saw : Cond.instanceMethod y_Count_saw.1 ∈ jTbl ∧ Cond.selects y_Count_saw.1.cls y_Count_saw.1 y_Count_saw.1 ∈ jTbl := ⟨jmem 834 (by decide +kernel) (by decide +kernel), jmem 835 (by decide +kernel) (by decide +kernel)⟩
abbrev y_State_hasSpot : jM := (⟨"CountTreaty$State", "hasSpot", "(LCountTreaty$Rows;II)Z"⟩, prog_8_method_6_code, 4, some .boolean)
abbrev d_State_hasSpot : Nat := 1
theorem jcm_State_hasSpot : Cond.code y_State_hasSpot.1 y_State_hasSpot.2.1 y_State_hasSpot.2.2.1 y_State_hasSpot.2.2.2 ∈ jTbl := jmt4 (List.mem_of_getElem? (i := 22) rfl) rfl
theorem mo_State_hasSpot : jMo y_State_hasSpot 3 := ⟨jcm_State_hasSpot, ji_6, ⟨by decide, by decide⟩, by decide +kernel⟩
theorem ms_State_hasSpot : Cond.static y_State_hasSpot.1 ∈ jTbl := jmem 842 (by decide +kernel) (by decide +kernel)
abbrev y_Count_cloud : jM := (⟨"CountTreaty", "cloud", "(II)I"⟩, prog_1_method_28_code, 3, some .int)
abbrev d_Count_cloud : Nat := 2
theorem jcm_Count_cloud : Cond.code y_Count_cloud.1 y_Count_cloud.2.1 y_Count_cloud.2.2.1 y_Count_cloud.2.2.2 ∈ jTbl := jmt4 (List.mem_of_getElem? (i := 19) rfl) rfl
theorem mo_Count_cloud : jMo y_Count_cloud 2 := ⟨jcm_Count_cloud, ji_9, ⟨by decide, by decide⟩, by decide +kernel⟩
theorem mv_Count_cloud : Cond.instanceMethod y_Count_cloud.1 ∈ jTbl ∧ Cond.selects y_Count_cloud.1.cls y_Count_cloud.1 y_Count_cloud.1 ∈ jTbl := ⟨jmem 838 (by decide +kernel) (by decide +kernel), jmem 839 (by decide +kernel) (by decide +kernel)⟩
abbrev y_State_numberLarge : jM := (⟨"CountTreaty$State", "numberLarge", "(II)I"⟩, prog_8_method_17_code, 5, some .int)
abbrev d_State_numberLarge : Nat := 2
theorem jcm_State_numberLarge : Cond.code y_State_numberLarge.1 y_State_numberLarge.2.1 y_State_numberLarge.2.2.1 y_State_numberLarge.2.2.2 ∈ jTbl := jmt4 (List.mem_of_getElem? (i := 30) rfl) rfl
theorem mo_State_numberLarge : jMo y_State_numberLarge 2 := ⟨jcm_State_numberLarge, ji_6, ⟨by decide, by decide⟩, by decide +kernel⟩
theorem mv_State_numberLarge : Cond.instanceMethod y_State_numberLarge.1 ∈ jTbl ∧ Cond.selects y_State_numberLarge.1.cls y_State_numberLarge.1 y_State_numberLarge.1 ∈ jTbl := ⟨jmem 849 (by decide +kernel) (by decide +kernel), jmem 850 (by decide +kernel) (by decide +kernel)⟩
abbrev y_Count_picture : jM := (⟨"CountTreaty", "picture", "(I)I"⟩, prog_1_method_29_code, 4, some .int)
abbrev d_Count_picture : Nat := 3
theorem jcm_Count_picture : Cond.code y_Count_picture.1 y_Count_picture.2.1 y_Count_picture.2.2.1 y_Count_picture.2.2.2 ∈ jTbl := jmt4 (List.mem_of_getElem? (i := 26) rfl) rfl
theorem mo_Count_picture : jMo y_Count_picture 1 := ⟨jcm_Count_picture, ji_9, ⟨by decide, by decide⟩, by decide +kernel⟩
theorem mv_Count_picture : Cond.instanceMethod y_Count_picture.1 ∈ jTbl ∧ Cond.selects y_Count_picture.1.cls y_Count_picture.1 y_Count_picture.1 ∈ jTbl := ⟨jmem 845 (by decide +kernel) (by decide +kernel), jmem 846 (by decide +kernel) (by decide +kernel)⟩
abbrev y_Count_isKnowable : jM := (⟨"CountTreaty", "isKnowable", "(IIII)Z"⟩, prog_1_method_31_code, 5, some .boolean)
abbrev d_Count_isKnowable : Nat := 1
theorem jcm_Count_isKnowable : Cond.code y_Count_isKnowable.1 y_Count_isKnowable.2.1 y_Count_isKnowable.2.2.1 y_Count_isKnowable.2.2.2 ∈ jTbl := jmt4 (List.mem_of_getElem? (i := 38) rfl) rfl
theorem mo_Count_isKnowable : jMo y_Count_isKnowable 4 := ⟨jcm_Count_isKnowable, ji_9, ⟨by decide, by decide⟩, by decide +kernel⟩
theorem mv_Count_isKnowable : Cond.instanceMethod y_Count_isKnowable.1 ∈ jTbl ∧ Cond.selects y_Count_isKnowable.1.cls y_Count_isKnowable.1 y_Count_isKnowable.1 ∈ jTbl := ⟨jmem 858 (by decide +kernel) (by decide +kernel), jmem 19 (by decide +kernel) (by decide +kernel)⟩
abbrev y_Knowing_isQuiet : jM := (⟨"CountTreaty$Knowing", "isQuiet", "(LCountTreaty$State;III)Z"⟩, prog_3_method_9_code, 6, some .boolean)
abbrev d_Knowing_isQuiet : Nat := 1
theorem jcm_Knowing_isQuiet : Cond.code y_Knowing_isQuiet.1 y_Knowing_isQuiet.2.1 y_Knowing_isQuiet.2.2.1 y_Knowing_isQuiet.2.2.2 ∈ jTbl := jmt4 (List.mem_of_getElem? (i := 46) rfl) rfl
theorem mo_Knowing_isQuiet : jMo y_Knowing_isQuiet 4 := ⟨jcm_Knowing_isQuiet, ji_1, ⟨by decide, by decide⟩, by decide +kernel⟩
theorem ms_Knowing_isQuiet : Cond.static y_Knowing_isQuiet.1 ∈ jTbl := jmem 866 (by decide +kernel) (by decide +kernel)
abbrev y_Knowing_fits : jM := (⟨"CountTreaty$Knowing", "fits", "(LCountTreaty$State;II)Z"⟩, prog_3_method_12_code, 5, some .boolean)
abbrev d_Knowing_fits : Nat := 1
theorem jcm_Knowing_fits : Cond.code y_Knowing_fits.1 y_Knowing_fits.2.1 y_Knowing_fits.2.2.1 y_Knowing_fits.2.2.2 ∈ jTbl := jmt4 (List.mem_of_getElem? (i := 57) rfl) rfl
theorem mo_Knowing_fits : jMo y_Knowing_fits 3 := ⟨jcm_Knowing_fits, ji_1, ⟨by decide, by decide⟩, by decide +kernel⟩
theorem ms_Knowing_fits : Cond.static y_Knowing_fits.1 ∈ jTbl := jmem 877 (by decide +kernel) (by decide +kernel)
abbrev y_Knowing_passPortal : jM := (⟨"CountTreaty$Knowing", "passPortal", "(LCountTreaty$State;IZ)V"⟩, prog_3_method_11_code, 8, none)
abbrev d_Knowing_passPortal : Nat := 2
theorem jcm_Knowing_passPortal : Cond.code y_Knowing_passPortal.1 y_Knowing_passPortal.2.1 y_Knowing_passPortal.2.2.1 y_Knowing_passPortal.2.2.2 ∈ jTbl := jmt4 (List.mem_of_getElem? (i := 54) rfl) rfl
theorem mo_Knowing_passPortal : jMo y_Knowing_passPortal 3 := ⟨jcm_Knowing_passPortal, ji_1, ⟨by decide, by decide⟩, by decide +kernel⟩
theorem mv_Knowing_passPortal : Cond.instanceMethod y_Knowing_passPortal.1 ∈ jTbl ∧ Cond.selects y_Knowing_passPortal.1.cls y_Knowing_passPortal.1 y_Knowing_passPortal.1 ∈ jTbl := ⟨jmem 874 (by decide +kernel) (by decide +kernel), jmem 21 (by decide +kernel) (by decide +kernel)⟩
abbrev y_Knowing_comeAndGo : jM := (⟨"CountTreaty$Knowing", "comeAndGo", "(LCountTreaty$State;II)V"⟩, prog_3_method_10_code, 5, none)
abbrev d_Knowing_comeAndGo : Nat := 3
theorem jcm_Knowing_comeAndGo : Cond.code y_Knowing_comeAndGo.1 y_Knowing_comeAndGo.2.1 y_Knowing_comeAndGo.2.2.1 y_Knowing_comeAndGo.2.2.2 ∈ jTbl := jmt4 (List.mem_of_getElem? (i := 50) rfl) rfl
theorem mo_Knowing_comeAndGo : jMo y_Knowing_comeAndGo 3 := ⟨jcm_Knowing_comeAndGo, ji_1, ⟨by decide, by decide⟩, by decide +kernel⟩
theorem mv_Knowing_comeAndGo : Cond.instanceMethod y_Knowing_comeAndGo.1 ∈ jTbl ∧ Cond.selects y_Knowing_comeAndGo.1.cls y_Knowing_comeAndGo.1 y_Knowing_comeAndGo.1 ∈ jTbl := ⟨jmem 870 (by decide +kernel) (by decide +kernel), jmem 20 (by decide +kernel) (by decide +kernel)⟩
abbrev y_Knowing_isPossible : jM := (⟨"CountTreaty$Knowing", "isPossible", "(II)Z"⟩, prog_3_method_5_code, 3, some .boolean)
abbrev d_Knowing_isPossible : Nat := 0
theorem jcm_Knowing_isPossible : Cond.code y_Knowing_isPossible.1 y_Knowing_isPossible.2.1 y_Knowing_isPossible.2.2.1 y_Knowing_isPossible.2.2.2 ∈ jTbl := jmt4 (List.mem_of_getElem? (i := 69) rfl) rfl
theorem mo_Knowing_isPossible : jMo y_Knowing_isPossible 2 := ⟨jcm_Knowing_isPossible, ji_1, ⟨by decide, by decide⟩, by decide +kernel⟩
theorem mv_Knowing_isPossible : Cond.instanceMethod y_Knowing_isPossible.1 ∈ jTbl ∧ Cond.selects y_Knowing_isPossible.1.cls y_Knowing_isPossible.1 y_Knowing_isPossible.1 ∈ jTbl := ⟨jmem 888 (by decide +kernel) (by decide +kernel), jmem 889 (by decide +kernel) (by decide +kernel)⟩
abbrev y_Knowing_least : jM := (⟨"CountTreaty$Knowing", "least", "(I)I"⟩, prog_3_method_6_code, 3, some .int)
abbrev d_Knowing_least : Nat := 1
theorem jcm_Knowing_least : Cond.code y_Knowing_least.1 y_Knowing_least.2.1 y_Knowing_least.2.2.1 y_Knowing_least.2.2.2 ∈ jTbl := jmt4 (List.mem_of_getElem? (i := 65) rfl) rfl
theorem mo_Knowing_least : jMo y_Knowing_least 1 := ⟨jcm_Knowing_least, ji_1, ⟨by decide, by decide⟩, by decide +kernel⟩
theorem mv_Knowing_least : Cond.instanceMethod y_Knowing_least.1 ∈ jTbl ∧ Cond.selects y_Knowing_least.1.cls y_Knowing_least.1 y_Knowing_least.1 ∈ jTbl := ⟨jmem 884 (by decide +kernel) (by decide +kernel), jmem 885 (by decide +kernel) (by decide +kernel)⟩
abbrev y_Knowing_between : jM := (⟨"CountTreaty$Knowing", "between", "(II)J"⟩, prog_3_method_14_code, 6, some .long)
abbrev d_Knowing_between : Nat := 1
theorem jcm_Knowing_between : Cond.code y_Knowing_between.1 y_Knowing_between.2.1 y_Knowing_between.2.2.1 y_Knowing_between.2.2.2 ∈ jTbl := jmt4 (List.mem_of_getElem? (i := 72) rfl) rfl
theorem mo_Knowing_between : jMo y_Knowing_between 2 := ⟨jcm_Knowing_between, ji_1, ⟨by decide, by decide⟩, by decide +kernel⟩
theorem ms_Knowing_between : Cond.static y_Knowing_between.1 ∈ jTbl := jmem 892 (by decide +kernel) (by decide +kernel)
abbrev y_Knowing_greatest : jM := (⟨"CountTreaty$Knowing", "greatest", "(I)I"⟩, prog_3_method_7_code, 3, some .int)
abbrev d_Knowing_greatest : Nat := 1
theorem jcm_Knowing_greatest : Cond.code y_Knowing_greatest.1 y_Knowing_greatest.2.1 y_Knowing_greatest.2.2.1 y_Knowing_greatest.2.2.2 ∈ jTbl := jmt4 (List.mem_of_getElem? (i := 79) rfl) rfl
theorem mo_Knowing_greatest : jMo y_Knowing_greatest 1 := ⟨jcm_Knowing_greatest, ji_1, ⟨by decide, by decide⟩, by decide +kernel⟩
theorem mv_Knowing_greatest : Cond.instanceMethod y_Knowing_greatest.1 ∈ jTbl ∧ Cond.selects y_Knowing_greatest.1.cls y_Knowing_greatest.1 y_Knowing_greatest.1 ∈ jTbl := ⟨jmem 898 (by decide +kernel) (by decide +kernel), jmem 899 (by decide +kernel) (by decide +kernel)⟩
abbrev y_Knowing_spread : jM := (⟨"CountTreaty$Knowing", "spread", "(I)V"⟩, prog_3_method_13_code, 3, none)
abbrev d_Knowing_spread : Nat := 2
theorem jcm_Knowing_spread : Cond.code y_Knowing_spread.1 y_Knowing_spread.2.1 y_Knowing_spread.2.2.1 y_Knowing_spread.2.2.2 ∈ jTbl := jmt4 (List.mem_of_getElem? (i := 61) rfl) rfl
theorem mo_Knowing_spread : jMo y_Knowing_spread 1 := ⟨jcm_Knowing_spread, ji_1, ⟨by decide, by decide⟩, by decide +kernel⟩
theorem mv_Knowing_spread : Cond.instanceMethod y_Knowing_spread.1 ∈ jTbl ∧ Cond.selects y_Knowing_spread.1.cls y_Knowing_spread.1 y_Knowing_spread.1 ∈ jTbl := ⟨jmem 881 (by decide +kernel) (by decide +kernel), jmem 22 (by decide +kernel) (by decide +kernel)⟩
abbrev y_Knowing_keep : jM := (⟨"CountTreaty$Knowing", "keep", "(III)V"⟩, prog_3_method_15_code, 4, none)
abbrev d_Knowing_keep : Nat := 2
theorem jcm_Knowing_keep : Cond.code y_Knowing_keep.1 y_Knowing_keep.2.1 y_Knowing_keep.2.2.1 y_Knowing_keep.2.2.2 ∈ jTbl := jmt4 (List.mem_of_getElem? (i := 87) rfl) rfl
theorem mo_Knowing_keep : jMo y_Knowing_keep 3 := ⟨jcm_Knowing_keep, ji_1, ⟨by decide, by decide⟩, by decide +kernel⟩
theorem mv_Knowing_keep : Cond.instanceMethod y_Knowing_keep.1 ∈ jTbl ∧ Cond.selects y_Knowing_keep.1.cls y_Knowing_keep.1 y_Knowing_keep.1 ∈ jTbl := ⟨jmem 907 (by decide +kernel) (by decide +kernel), jmem 24 (by decide +kernel) (by decide +kernel)⟩
abbrev y_Knowing_visitedOn : jM := (⟨"CountTreaty$Knowing", "visitedOn", "(LCountTreaty$State;II)V"⟩, prog_3_method_16_code, 7, none)
abbrev d_Knowing_visitedOn : Nat := 3
theorem jcm_Knowing_visitedOn : Cond.code y_Knowing_visitedOn.1 y_Knowing_visitedOn.2.1 y_Knowing_visitedOn.2.2.1 y_Knowing_visitedOn.2.2.2 ∈ jTbl := jmt4 (List.mem_of_getElem? (i := 83) rfl) rfl
theorem mo_Knowing_visitedOn : jMo y_Knowing_visitedOn 3 := ⟨jcm_Knowing_visitedOn, ji_1, ⟨by decide, by decide⟩, by decide +kernel⟩
theorem mv_Knowing_visitedOn : Cond.instanceMethod y_Knowing_visitedOn.1 ∈ jTbl ∧ Cond.selects y_Knowing_visitedOn.1.cls y_Knowing_visitedOn.1 y_Knowing_visitedOn.1 ∈ jTbl := ⟨jmem 903 (by decide +kernel) (by decide +kernel), jmem 23 (by decide +kernel) (by decide +kernel)⟩
abbrev y_Knowing_picturedOn : jM := (⟨"CountTreaty$Knowing", "picturedOn", "(LCountTreaty$State;II)V"⟩, prog_3_method_17_code, 6, none)
abbrev d_Knowing_picturedOn : Nat := 3
theorem jcm_Knowing_picturedOn : Cond.code y_Knowing_picturedOn.1 y_Knowing_picturedOn.2.1 y_Knowing_picturedOn.2.2.1 y_Knowing_picturedOn.2.2.2 ∈ jTbl := jmt4 (List.mem_of_getElem? (i := 91) rfl) rfl
theorem mo_Knowing_picturedOn : jMo y_Knowing_picturedOn 3 := ⟨jcm_Knowing_picturedOn, ji_1, ⟨by decide, by decide⟩, by decide +kernel⟩
theorem mv_Knowing_picturedOn : Cond.instanceMethod y_Knowing_picturedOn.1 ∈ jTbl ∧ Cond.selects y_Knowing_picturedOn.1.cls y_Knowing_picturedOn.1 y_Knowing_picturedOn.1 ∈ jTbl := ⟨jmem 911 (by decide +kernel) (by decide +kernel), jmem 25 (by decide +kernel) (by decide +kernel)⟩
abbrev y_Knowing_sooner : jM := (⟨"CountTreaty$Knowing", "sooner", "(III)I"⟩, prog_3_method_19_code, 4, some .int)
abbrev d_Knowing_sooner : Nat := 1
theorem jcm_Knowing_sooner : Cond.code y_Knowing_sooner.1 y_Knowing_sooner.2.1 y_Knowing_sooner.2.2.1 y_Knowing_sooner.2.2.2 ∈ jTbl := jmt4 (List.mem_of_getElem? (i := 97) rfl) rfl
theorem mo_Knowing_sooner : jMo y_Knowing_sooner 3 := ⟨jcm_Knowing_sooner, ji_1, ⟨by decide, by decide⟩, by decide +kernel⟩
theorem ms_Knowing_sooner : Cond.static y_Knowing_sooner.1 ∈ jTbl := jmem 917 (by decide +kernel) (by decide +kernel)
abbrev y_Knowing_nextDay : jM := (⟨"CountTreaty$Knowing", "nextDay", "(LCountTreaty$State;III)I"⟩, prog_3_method_18_code, 7, some .int)
abbrev d_Knowing_nextDay : Nat := 2
theorem jcm_Knowing_nextDay : Cond.code y_Knowing_nextDay.1 y_Knowing_nextDay.2.1 y_Knowing_nextDay.2.2.1 y_Knowing_nextDay.2.2.2 ∈ jTbl := jmt4 (List.mem_of_getElem? (i := 94) rfl) rfl
theorem mo_Knowing_nextDay : jMo y_Knowing_nextDay 4 := ⟨jcm_Knowing_nextDay, ji_1, ⟨by decide, by decide⟩, by decide +kernel⟩
theorem ms_Knowing_nextDay : Cond.static y_Knowing_nextDay.1 ∈ jTbl := jmem 914 (by decide +kernel) (by decide +kernel)
abbrev y_Knowing_walk : jM := (⟨"CountTreaty$Knowing", "walk", "(LCountTreaty$State;III)V"⟩, prog_3_method_8_code, 7, none)
abbrev d_Knowing_walk : Nat := 4
theorem jcm_Knowing_walk : Cond.code y_Knowing_walk.1 y_Knowing_walk.2.1 y_Knowing_walk.2.2.1 y_Knowing_walk.2.2.2 ∈ jTbl := jmt4 (List.mem_of_getElem? (i := 42) rfl) rfl
theorem mo_Knowing_walk : jMo y_Knowing_walk 4 := ⟨jcm_Knowing_walk, ji_1, ⟨by decide, by decide⟩, by decide +kernel⟩
theorem mv_Knowing_walk : Cond.instanceMethod y_Knowing_walk.1 ∈ jTbl ∧ Cond.selects y_Knowing_walk.1.cls y_Knowing_walk.1 y_Knowing_walk.1 ∈ jTbl := ⟨jmem 861 (by decide +kernel) (by decide +kernel), jmem 862 (by decide +kernel) (by decide +kernel)⟩
abbrev y_Count_possible : jM := (⟨"CountTreaty", "possible", "(IIIIZ)I"⟩, prog_1_method_30_code, 6, some .int)
abbrev d_Count_possible : Nat := 5
theorem jcm_Count_possible : Cond.code y_Count_possible.1 y_Count_possible.2.1 y_Count_possible.2.2.1 y_Count_possible.2.2.2 ∈ jTbl := jmt4 (List.mem_of_getElem? (i := 34) rfl) rfl
theorem mo_Count_possible : jMo y_Count_possible 5 := ⟨jcm_Count_possible, ji_9, ⟨by decide, by decide⟩, by decide +kernel⟩
theorem mv_Count_possible : Cond.instanceMethod y_Count_possible.1 ∈ jTbl ∧ Cond.selects y_Count_possible.1.cls y_Count_possible.1 y_Count_possible.1 ∈ jTbl := ⟨jmem 853 (by decide +kernel) (by decide +kernel), jmem 854 (by decide +kernel) (by decide +kernel)⟩
abbrev y_Count_doubted : jM := (⟨"CountTreaty", "doubted", "(IIII)I"⟩, prog_1_method_32_code, 5, some .int)
abbrev d_Count_doubted : Nat := 5
theorem jcm_Count_doubted : Cond.code y_Count_doubted.1 y_Count_doubted.2.1 y_Count_doubted.2.2.1 y_Count_doubted.2.2.2 ∈ jTbl := jmt4 (List.mem_of_getElem? (i := 103) rfl) rfl
theorem mo_Count_doubted : jMo y_Count_doubted 4 := ⟨jcm_Count_doubted, ji_9, ⟨by decide, by decide⟩, by decide +kernel⟩
theorem mv_Count_doubted : Cond.instanceMethod y_Count_doubted.1 ∈ jTbl ∧ Cond.selects y_Count_doubted.1.cls y_Count_doubted.1 y_Count_doubted.1 ∈ jTbl := ⟨jmem 922 (by decide +kernel) (by decide +kernel), jmem 923 (by decide +kernel) (by decide +kernel)⟩
abbrev y_Count_doubt : jM := (⟨"CountTreaty", "doubt", "(III)I"⟩, prog_1_method_33_code, 7, some .int)
abbrev d_Count_doubt : Nat := 5
theorem jcm_Count_doubt : Cond.code y_Count_doubt.1 y_Count_doubt.2.1 y_Count_doubt.2.2.1 y_Count_doubt.2.2.2 ∈ jTbl := jmt4 (List.mem_of_getElem? (i := 108) rfl) rfl
theorem mo_Count_doubt : jMo y_Count_doubt 3 := ⟨jcm_Count_doubt, ji_9, ⟨by decide, by decide⟩, by decide +kernel⟩
theorem mv_Count_doubt : Cond.instanceMethod y_Count_doubt.1 ∈ jTbl ∧ Cond.selects y_Count_doubt.1.cls y_Count_doubt.1 y_Count_doubt.1 ∈ jTbl := ⟨jmem 927 (by decide +kernel) (by decide +kernel), jmem 928 (by decide +kernel) (by decide +kernel)⟩
abbrev y_Count_ask : jM := (⟨"CountTreaty", "ask", "(II)I"⟩, prog_1_method_34_code, 4, some .int)
abbrev d_Count_ask : Nat := 2
theorem jcm_Count_ask : Cond.code y_Count_ask.1 y_Count_ask.2.1 y_Count_ask.2.2.1 y_Count_ask.2.2.2 ∈ jTbl := jmt4 (List.mem_of_getElem? (i := 112) rfl) rfl
theorem mo_Count_ask : jMo y_Count_ask 2 := ⟨jcm_Count_ask, ji_9, ⟨by decide, by decide⟩, by decide +kernel⟩
theorem mv_Count_ask : Cond.instanceMethod y_Count_ask.1 ∈ jTbl ∧ Cond.selects y_Count_ask.1.cls y_Count_ask.1 y_Count_ask.1 ∈ jTbl := ⟨jmem 931 (by decide +kernel) (by decide +kernel), jmem 932 (by decide +kernel) (by decide +kernel)⟩
abbrev y_Count_answer : jM := (⟨"CountTreaty", "answer", "(I)Z"⟩, prog_1_method_35_code, 2, some .boolean)
abbrev d_Count_answer : Nat := 2
theorem jcm_Count_answer : Cond.code y_Count_answer.1 y_Count_answer.2.1 y_Count_answer.2.2.1 y_Count_answer.2.2.2 ∈ jTbl := jmt4 (List.mem_of_getElem? (i := 116) rfl) rfl
theorem mo_Count_answer : jMo y_Count_answer 1 := ⟨jcm_Count_answer, ji_9, ⟨by decide, by decide⟩, by decide +kernel⟩
theorem mv_Count_answer : Cond.instanceMethod y_Count_answer.1 ∈ jTbl ∧ Cond.selects y_Count_answer.1.cls y_Count_answer.1 y_Count_answer.1 ∈ jTbl := ⟨jmem 935 (by decide +kernel) (by decide +kernel), jmem 936 (by decide +kernel) (by decide +kernel)⟩
abbrev y_Count_act : jM := (⟨"CountTreaty", "act", "(II)I"⟩, prog_1_method_36_code, 3, some .int)
abbrev d_Count_act : Nat := 1
theorem jcm_Count_act : Cond.code y_Count_act.1 y_Count_act.2.1 y_Count_act.2.2.1 y_Count_act.2.2.2 ∈ jTbl := jmt4 (List.mem_of_getElem? (i := 120) rfl) rfl
theorem mo_Count_act : jMo y_Count_act 2 := ⟨jcm_Count_act, ji_9, ⟨by decide, by decide⟩, by decide +kernel⟩
theorem mv_Count_act : Cond.instanceMethod y_Count_act.1 ∈ jTbl ∧ Cond.selects y_Count_act.1.cls y_Count_act.1 y_Count_act.1 ∈ jTbl := ⟨jmem 939 (by decide +kernel) (by decide +kernel), jmem 940 (by decide +kernel) (by decide +kernel)⟩
abbrev y_Judge_begin : jM := (⟨"CountTreaty$Judge", "begin", "()V"⟩, prog_2_method_2_code, 1, none)
abbrev d_Judge_begin : Nat := 0
theorem jcm_Judge_begin : Cond.code y_Judge_begin.1 y_Judge_begin.2.1 y_Judge_begin.2.2.1 y_Judge_begin.2.2.2 ∈ jTbl := jmt4 (List.mem_of_getElem? (i := 128) rfl) rfl
theorem mo_Judge_begin : jMo y_Judge_begin 0 := ⟨jcm_Judge_begin, ji_0, ⟨by decide, by decide⟩, by decide +kernel⟩
theorem mv_Judge_begin : Cond.instanceMethod y_Judge_begin.1 ∈ jTbl ∧ Cond.selects y_Judge_begin.1.cls y_Judge_begin.1 y_Judge_begin.1 ∈ jTbl := ⟨jmem 947 (by decide +kernel) (by decide +kernel), jmem 948 (by decide +kernel) (by decide +kernel)⟩
abbrev y_Judge_isOver : jM := (⟨"CountTreaty$Judge", "isOver", "(LCountTreaty$State;I)Z"⟩, prog_2_method_4_code, 5, some .boolean)
abbrev d_Judge_isOver : Nat := 5
theorem jcm_Judge_isOver : Cond.code y_Judge_isOver.1 y_Judge_isOver.2.1 y_Judge_isOver.2.2.1 y_Judge_isOver.2.2.2 ∈ jTbl := jmt4 (List.mem_of_getElem? (i := 137) rfl) rfl
theorem mo_Judge_isOver : jMo y_Judge_isOver 2 := ⟨jcm_Judge_isOver, ji_0, ⟨by decide, by decide⟩, by decide +kernel⟩
theorem mv_Judge_isOver : Cond.instanceMethod y_Judge_isOver.1 ∈ jTbl ∧ Cond.selects y_Judge_isOver.1.cls y_Judge_isOver.1 y_Judge_isOver.1 ∈ jTbl := ⟨jmem 957 (by decide +kernel) (by decide +kernel), jmem 26 (by decide +kernel) (by decide +kernel)⟩
abbrev y_Judge_judgeMove : jM := (⟨"CountTreaty$Judge", "judgeMove", "(LCountTreaty$State;II)I"⟩, prog_2_method_5_code, 8, some .int)
abbrev d_Judge_judgeMove : Nat := 4
theorem jcm_Judge_judgeMove : Cond.code y_Judge_judgeMove.1 y_Judge_judgeMove.2.1 y_Judge_judgeMove.2.2.1 y_Judge_judgeMove.2.2.2 ∈ jTbl := jmt4 (List.mem_of_getElem? (i := 142) rfl) rfl
theorem mo_Judge_judgeMove : jMo y_Judge_judgeMove 3 := ⟨jcm_Judge_judgeMove, ji_0, ⟨by decide, by decide⟩, by decide +kernel⟩
theorem ms_Judge_judgeMove : Cond.static y_Judge_judgeMove.1 ∈ jTbl := jmem 962 (by decide +kernel) (by decide +kernel)
abbrev y_Judge_isHasty : jM := (⟨"CountTreaty$Judge", "isHasty", "(LCountTreaty$State;I)Z"⟩, prog_2_method_6_code, 4, some .boolean)
abbrev d_Judge_isHasty : Nat := 4
theorem jcm_Judge_isHasty : Cond.code y_Judge_isHasty.1 y_Judge_isHasty.2.1 y_Judge_isHasty.2.2.1 y_Judge_isHasty.2.2.2 ∈ jTbl := jmt4 (List.mem_of_getElem? (i := 146) rfl) rfl
theorem mo_Judge_isHasty : jMo y_Judge_isHasty 2 := ⟨jcm_Judge_isHasty, ji_0, ⟨by decide, by decide⟩, by decide +kernel⟩
theorem ms_Judge_isHasty : Cond.static y_Judge_isHasty.1 ∈ jTbl := jmem 966 (by decide +kernel) (by decide +kernel)
abbrev y_Judge_isWrong : jM := (⟨"CountTreaty$Judge", "isWrong", "(LCountTreaty$State;I)Z"⟩, prog_2_method_7_code, 3, some .boolean)
abbrev d_Judge_isWrong : Nat := 2
theorem jcm_Judge_isWrong : Cond.code y_Judge_isWrong.1 y_Judge_isWrong.2.1 y_Judge_isWrong.2.2.1 y_Judge_isWrong.2.2.2 ∈ jTbl := jmt4 (List.mem_of_getElem? (i := 149) rfl) rfl
theorem mo_Judge_isWrong : jMo y_Judge_isWrong 2 := ⟨jcm_Judge_isWrong, ji_0, ⟨by decide, by decide⟩, by decide +kernel⟩
theorem ms_Judge_isWrong : Cond.static y_Judge_isWrong.1 ∈ jTbl := jmem 969 (by decide +kernel) (by decide +kernel)
abbrev y_Judge_isTooMany : jM := (⟨"CountTreaty$Judge", "isTooMany", "(LCountTreaty$State;I)Z"⟩, prog_2_method_8_code, 5, some .boolean)
abbrev d_Judge_isTooMany : Nat := 4
theorem jcm_Judge_isTooMany : Cond.code y_Judge_isTooMany.1 y_Judge_isTooMany.2.1 y_Judge_isTooMany.2.2.1 y_Judge_isTooMany.2.2.2 ∈ jTbl := jmt4 (List.mem_of_getElem? (i := 153) rfl) rfl
theorem mo_Judge_isTooMany : jMo y_Judge_isTooMany 2 := ⟨jcm_Judge_isTooMany, ji_0, ⟨by decide, by decide⟩, by decide +kernel⟩
theorem ms_Judge_isTooMany : Cond.static y_Judge_isTooMany.1 ∈ jTbl := jmem 973 (by decide +kernel) (by decide +kernel)
abbrev y_Judge_judgeQuestion : jM := (⟨"CountTreaty$Judge", "judgeQuestion", "(LCountTreaty$State;II)I"⟩, prog_2_method_9_code, 6, some .int)
abbrev d_Judge_judgeQuestion : Nat := 4
theorem jcm_Judge_judgeQuestion : Cond.code y_Judge_judgeQuestion.1 y_Judge_judgeQuestion.2.1 y_Judge_judgeQuestion.2.2.1 y_Judge_judgeQuestion.2.2.2 ∈ jTbl := jmt4 (List.mem_of_getElem? (i := 156) rfl) rfl
theorem mo_Judge_judgeQuestion : jMo y_Judge_judgeQuestion 3 := ⟨jcm_Judge_judgeQuestion, ji_0, ⟨by decide, by decide⟩, by decide +kernel⟩
theorem ms_Judge_judgeQuestion : Cond.static y_Judge_judgeQuestion.1 ∈ jTbl := jmem 976 (by decide +kernel) (by decide +kernel)
abbrev y_Judge_judge : jM := (⟨"CountTreaty$Judge", "judge", "(LCountTreaty$State;II)I"⟩, prog_2_method_3_code, 5, some .int)
abbrev d_Judge_judge : Nat := 6
theorem jcm_Judge_judge : Cond.code y_Judge_judge.1 y_Judge_judge.2.1 y_Judge_judge.2.2.1 y_Judge_judge.2.2.2 ∈ jTbl := jmt4 (List.mem_of_getElem? (i := 132) rfl) rfl
theorem mo_Judge_judge : jMo y_Judge_judge 3 := ⟨jcm_Judge_judge, ji_0, ⟨by decide, by decide⟩, by decide +kernel⟩
theorem mv_Judge_judge : Cond.instanceMethod y_Judge_judge.1 ∈ jTbl ∧ Cond.selects y_Judge_judge.1.cls y_Judge_judge.1 y_Judge_judge.1 ∈ jTbl := ⟨jmem 951 (by decide +kernel) (by decide +kernel), jmem 952 (by decide +kernel) (by decide +kernel)⟩
abbrev y_Count_judged : jM := (⟨"CountTreaty", "judged", "(II)I"⟩, prog_1_method_37_code, 3, some .int)
abbrev d_Count_judged : Nat := 7
theorem jcm_Count_judged : Cond.code y_Count_judged.1 y_Count_judged.2.1 y_Count_judged.2.2.1 y_Count_judged.2.2.2 ∈ jTbl := jmt4 (List.mem_of_getElem? (i := 124) rfl) rfl
theorem mo_Count_judged : jMo y_Count_judged 2 := ⟨jcm_Count_judged, ji_9, ⟨by decide, by decide⟩, by decide +kernel⟩
theorem mv_Count_judged : Cond.instanceMethod y_Count_judged.1 ∈ jTbl ∧ Cond.selects y_Count_judged.1.cls y_Count_judged.1 y_Count_judged.1 ∈ jTbl := ⟨jmem 943 (by decide +kernel) (by decide +kernel), jmem 944 (by decide +kernel) (by decide +kernel)⟩
abbrev y_Count_fails : jM := (⟨"CountTreaty", "fails", "(III)I"⟩, prog_1_method_38_code, 6, some .int)
abbrev d_Count_fails : Nat := 7
theorem jcm_Count_fails : Cond.code y_Count_fails.1 y_Count_fails.2.1 y_Count_fails.2.2.1 y_Count_fails.2.2.2 ∈ jTbl := jmt4 (List.mem_of_getElem? (i := 160) rfl) rfl
theorem mo_Count_fails : jMo y_Count_fails 3 := ⟨jcm_Count_fails, ji_9, ⟨by decide, by decide⟩, by decide +kernel⟩
theorem mv_Count_fails : Cond.instanceMethod y_Count_fails.1 ∈ jTbl ∧ Cond.selects y_Count_fails.1.cls y_Count_fails.1 y_Count_fails.1 ∈ jTbl := ⟨jmem 979 (by decide +kernel) (by decide +kernel), jmem 980 (by decide +kernel) (by decide +kernel)⟩
abbrev y_Count_chance : jM := (⟨"CountTreaty", "chance", "(II)Z"⟩, prog_1_method_39_code, 3, some .boolean)
abbrev d_Count_chance : Nat := 1
theorem jcm_Count_chance : Cond.code y_Count_chance.1 y_Count_chance.2.1 y_Count_chance.2.2.1 y_Count_chance.2.2.2 ∈ jTbl := jmt4 (List.mem_of_getElem? (i := 164) rfl) rfl
theorem mo_Count_chance : jMo y_Count_chance 2 := ⟨jcm_Count_chance, ji_9, ⟨by decide, by decide⟩, by decide +kernel⟩
theorem mv_Count_chance : Cond.instanceMethod y_Count_chance.1 ∈ jTbl ∧ Cond.selects y_Count_chance.1.cls y_Count_chance.1 y_Count_chance.1 ∈ jTbl := ⟨jmem 983 (by decide +kernel) (by decide +kernel), jmem 984 (by decide +kernel) (by decide +kernel)⟩
abbrev y_Shares_reduce : jM := (⟨"CountTreaty$Shares", "reduce", "(JJ)V"⟩, prog_7_method_5_code, 12, none)
abbrev d_Shares_reduce : Nat := 0
theorem jcm_Shares_reduce : Cond.code y_Shares_reduce.1 y_Shares_reduce.2.1 y_Shares_reduce.2.2.1 y_Shares_reduce.2.2.2 ∈ jTbl := jmt4 (List.mem_of_getElem? (i := 183) rfl) rfl
theorem mo_Shares_reduce : jMo y_Shares_reduce 2 := ⟨jcm_Shares_reduce, ji_5, ⟨by decide, by decide⟩, by decide +kernel⟩
theorem mv_Shares_reduce : Cond.instanceMethod y_Shares_reduce.1 ∈ jTbl ∧ Cond.selects y_Shares_reduce.1.cls y_Shares_reduce.1 y_Shares_reduce.1 ∈ jTbl := ⟨jmem 1003 (by decide +kernel) (by decide +kernel), jmem 28 (by decide +kernel) (by decide +kernel)⟩
abbrev y_Shares_evaluate : jM := (⟨"CountTreaty$Shares", "evaluate", "()V"⟩, prog_7_method_3_code, 7, none)
abbrev d_Shares_evaluate : Nat := 1
theorem jcm_Shares_evaluate : Cond.code y_Shares_evaluate.1 y_Shares_evaluate.2.1 y_Shares_evaluate.2.2.1 y_Shares_evaluate.2.2.2 ∈ jTbl := jmt4 (List.mem_of_getElem? (i := 178) rfl) rfl
theorem mo_Shares_evaluate : jMo y_Shares_evaluate 0 := ⟨jcm_Shares_evaluate, ji_5, ⟨by decide, by decide⟩, by decide +kernel⟩
theorem mv_Shares_evaluate : Cond.instanceMethod y_Shares_evaluate.1 ∈ jTbl ∧ Cond.selects y_Shares_evaluate.1.cls y_Shares_evaluate.1 y_Shares_evaluate.1 ∈ jTbl := ⟨jmem 998 (by decide +kernel) (by decide +kernel), jmem 27 (by decide +kernel) (by decide +kernel)⟩
abbrev y_Shares_take : jM := (⟨"CountTreaty$Shares", "take", "(LCountTreaty$State;II)Z"⟩, prog_7_method_2_code, 5, some .boolean)
abbrev d_Shares_take : Nat := 2
theorem jcm_Shares_take : Cond.code y_Shares_take.1 y_Shares_take.2.1 y_Shares_take.2.2.1 y_Shares_take.2.2.2 ∈ jTbl := jmt4 (List.mem_of_getElem? (i := 172) rfl) rfl
theorem mo_Shares_take : jMo y_Shares_take 3 := ⟨jcm_Shares_take, ji_5, ⟨by decide, by decide⟩, by decide +kernel⟩
theorem mv_Shares_take : Cond.instanceMethod y_Shares_take.1 ∈ jTbl ∧ Cond.selects y_Shares_take.1.cls y_Shares_take.1 y_Shares_take.1 ∈ jTbl := ⟨jmem 991 (by decide +kernel) (by decide +kernel), jmem 992 (by decide +kernel) (by decide +kernel)⟩
abbrev y_Count_value : jM := (⟨"CountTreaty", "value", "(IIZ)J"⟩, prog_1_method_40_code, 4, some .long)
abbrev d_Count_value : Nat := 3
theorem jcm_Count_value : Cond.code y_Count_value.1 y_Count_value.2.1 y_Count_value.2.2.1 y_Count_value.2.2.2 ∈ jTbl := jmt4 (List.mem_of_getElem? (i := 168) rfl) rfl
theorem mo_Count_value : jMo y_Count_value 3 := ⟨jcm_Count_value, ji_9, ⟨by decide, by decide⟩, by decide +kernel⟩
theorem mv_Count_value : Cond.instanceMethod y_Count_value.1 ∈ jTbl ∧ Cond.selects y_Count_value.1.cls y_Count_value.1 y_Count_value.1 ∈ jTbl := ⟨jmem 987 (by decide +kernel) (by decide +kernel), jmem 988 (by decide +kernel) (by decide +kernel)⟩
abbrev y_Shares_divide : jM := (⟨"CountTreaty$Shares", "divide", "(I)V"⟩, prog_7_method_4_code, 2, none)
abbrev d_Shares_divide : Nat := 1
theorem jcm_Shares_divide : Cond.code y_Shares_divide.1 y_Shares_divide.2.1 y_Shares_divide.2.2.1 y_Shares_divide.2.2.2 ∈ jTbl := jmt4 (List.mem_of_getElem? (i := 192) rfl) rfl
theorem mo_Shares_divide : jMo y_Shares_divide 1 := ⟨jcm_Shares_divide, ji_5, ⟨by decide, by decide⟩, by decide +kernel⟩
theorem mv_Shares_divide : Cond.instanceMethod y_Shares_divide.1 ∈ jTbl ∧ Cond.selects y_Shares_divide.1.cls y_Shares_divide.1 y_Shares_divide.1 ∈ jTbl := ⟨jmem 1011 (by decide +kernel) (by decide +kernel), jmem 1012 (by decide +kernel) (by decide +kernel)⟩
abbrev y_Count_share : jM := (⟨"CountTreaty", "share", "(IIIZ)J"⟩, prog_1_method_41_code, 5, some .long)
abbrev d_Count_share : Nat := 3
theorem jcm_Count_share : Cond.code y_Count_share.1 y_Count_share.2.1 y_Count_share.2.2.1 y_Count_share.2.2.2 ∈ jTbl := jmt4 (List.mem_of_getElem? (i := 188) rfl) rfl
theorem mo_Count_share : jMo y_Count_share 4 := ⟨jcm_Count_share, ji_9, ⟨by decide, by decide⟩, by decide +kernel⟩
theorem mv_Count_share : Cond.instanceMethod y_Count_share.1 ∈ jTbl ∧ Cond.selects y_Count_share.1.cls y_Count_share.1 y_Count_share.1 ∈ jTbl := ⟨jmem 1007 (by decide +kernel) (by decide +kernel), jmem 1008 (by decide +kernel) (by decide +kernel)⟩
abbrev y_Shares_weigh : jM := (⟨"CountTreaty$Shares", "weigh", "(II)V"⟩, prog_7_method_6_code, 3, none)
abbrev d_Shares_weigh : Nat := 0
theorem jcm_Shares_weigh : Cond.code y_Shares_weigh.1 y_Shares_weigh.2.1 y_Shares_weigh.2.2.1 y_Shares_weigh.2.2.2 ∈ jTbl := jmt4 (List.mem_of_getElem? (i := 200) rfl) rfl
theorem mo_Shares_weigh : jMo y_Shares_weigh 2 := ⟨jcm_Shares_weigh, ji_5, ⟨by decide, by decide⟩, by decide +kernel⟩
theorem mv_Shares_weigh : Cond.instanceMethod y_Shares_weigh.1 ∈ jTbl ∧ Cond.selects y_Shares_weigh.1.cls y_Shares_weigh.1 y_Shares_weigh.1 ∈ jTbl := ⟨jmem 1019 (by decide +kernel) (by decide +kernel), jmem 1020 (by decide +kernel) (by decide +kernel)⟩
abbrev y_Shares_greatestTogether : jM := (⟨"CountTreaty$Shares", "greatestTogether", "()J"⟩, prog_7_method_8_code, 6, some .long)
abbrev d_Shares_greatestTogether : Nat := 0
theorem jcm_Shares_greatestTogether : Cond.code y_Shares_greatestTogether.1 y_Shares_greatestTogether.2.1 y_Shares_greatestTogether.2.2.1 y_Shares_greatestTogether.2.2.2 ∈ jTbl := jmt4 (List.mem_of_getElem? (i := 208) rfl) rfl
theorem mo_Shares_greatestTogether : jMo y_Shares_greatestTogether 0 := ⟨jcm_Shares_greatestTogether, ji_5, ⟨by decide, by decide⟩, by decide +kernel⟩
theorem mv_Shares_greatestTogether : Cond.instanceMethod y_Shares_greatestTogether.1 ∈ jTbl ∧ Cond.selects y_Shares_greatestTogether.1.cls y_Shares_greatestTogether.1 y_Shares_greatestTogether.1 ∈ jTbl := ⟨jmem 1028 (by decide +kernel) (by decide +kernel), jmem 29 (by decide +kernel) (by decide +kernel)⟩
abbrev y_Shares_prove : jM := (⟨"CountTreaty$Shares", "prove", "()I"⟩, prog_7_method_7_code, 4, some .int)
abbrev d_Shares_prove : Nat := 1
theorem jcm_Shares_prove : Cond.code y_Shares_prove.1 y_Shares_prove.2.1 y_Shares_prove.2.2.1 y_Shares_prove.2.2.2 ∈ jTbl := jmt4 (List.mem_of_getElem? (i := 204) rfl) rfl
theorem mo_Shares_prove : jMo y_Shares_prove 0 := ⟨jcm_Shares_prove, ji_5, ⟨by decide, by decide⟩, by decide +kernel⟩
theorem mv_Shares_prove : Cond.instanceMethod y_Shares_prove.1 ∈ jTbl ∧ Cond.selects y_Shares_prove.1.cls y_Shares_prove.1 y_Shares_prove.1 ∈ jTbl := ⟨jmem 1023 (by decide +kernel) (by decide +kernel), jmem 1024 (by decide +kernel) (by decide +kernel)⟩
abbrev y_Count_proof : jM := (⟨"CountTreaty", "proof", "(IIIIIII)I"⟩, prog_1_method_42_code, 8, some .int)
abbrev d_Count_proof : Nat := 3
theorem jcm_Count_proof : Cond.code y_Count_proof.1 y_Count_proof.2.1 y_Count_proof.2.2.1 y_Count_proof.2.2.2 ∈ jTbl := jmt4 (List.mem_of_getElem? (i := 196) rfl) rfl
theorem mo_Count_proof : jMo y_Count_proof 7 := ⟨jcm_Count_proof, ji_9, ⟨by decide, by decide⟩, by decide +kernel⟩
theorem mv_Count_proof : Cond.instanceMethod y_Count_proof.1 ∈ jTbl ∧ Cond.selects y_Count_proof.1.cls y_Count_proof.1 y_Count_proof.1 ∈ jTbl := ⟨jmem 1015 (by decide +kernel) (by decide +kernel), jmem 1016 (by decide +kernel) (by decide +kernel)⟩
abbrev y_Count_watch : jM := (⟨"CountTreaty", "watch", "(II)I"⟩, prog_1_method_43_code, 3, some .int)
abbrev d_Count_watch : Nat := 2
theorem jcm_Count_watch : Cond.code y_Count_watch.1 y_Count_watch.2.1 y_Count_watch.2.2.1 y_Count_watch.2.2.2 ∈ jTbl := jmt4 (List.mem_of_getElem? (i := 212) rfl) rfl
theorem mo_Count_watch : jMo y_Count_watch 2 := ⟨jcm_Count_watch, ji_9, ⟨by decide, by decide⟩, by decide +kernel⟩
theorem mv_Count_watch : Cond.instanceMethod y_Count_watch.1 ∈ jTbl ∧ Cond.selects y_Count_watch.1.cls y_Count_watch.1 y_Count_watch.1 ∈ jTbl := ⟨jmem 1031 (by decide +kernel) (by decide +kernel), jmem 1032 (by decide +kernel) (by decide +kernel)⟩
abbrev y_Search_markClosed : jM := (⟨"CountTreaty$Search", "markClosed", "(LCountTreaty$State;)V"⟩, prog_6_method_4_code, 3, none)
abbrev d_Search_markClosed : Nat := 3
theorem jcm_Search_markClosed : Cond.code y_Search_markClosed.1 y_Search_markClosed.2.1 y_Search_markClosed.2.2.1 y_Search_markClosed.2.2.2 ∈ jTbl := jmt4 (List.mem_of_getElem? (i := 225) rfl) rfl
theorem mo_Search_markClosed : jMo y_Search_markClosed 1 := ⟨jcm_Search_markClosed, ji_4, ⟨by decide, by decide⟩, by decide +kernel⟩
theorem mv_Search_markClosed : Cond.instanceMethod y_Search_markClosed.1 ∈ jTbl ∧ Cond.selects y_Search_markClosed.1.cls y_Search_markClosed.1 y_Search_markClosed.1 ∈ jTbl := ⟨jmem 1045 (by decide +kernel) (by decide +kernel), jmem 30 (by decide +kernel) (by decide +kernel)⟩
abbrev y_Search_markEyes : jM := (⟨"CountTreaty$Search", "markEyes", "(LCountTreaty$State;I)V"⟩, prog_6_method_6_code, 8, none)
abbrev d_Search_markEyes : Nat := 2
theorem jcm_Search_markEyes : Cond.code y_Search_markEyes.1 y_Search_markEyes.2.1 y_Search_markEyes.2.2.1 y_Search_markEyes.2.2.2 ∈ jTbl := jmt4 (List.mem_of_getElem? (i := 232) rfl) rfl
theorem mo_Search_markEyes : jMo y_Search_markEyes 2 := ⟨jcm_Search_markEyes, ji_4, ⟨by decide, by decide⟩, by decide +kernel⟩
theorem mv_Search_markEyes : Cond.instanceMethod y_Search_markEyes.1 ∈ jTbl ∧ Cond.selects y_Search_markEyes.1.cls y_Search_markEyes.1 y_Search_markEyes.1 ∈ jTbl := ⟨jmem 1052 (by decide +kernel) (by decide +kernel), jmem 31 (by decide +kernel) (by decide +kernel)⟩
abbrev y_Search_isClosed : jM := (⟨"CountTreaty$Search", "isClosed", "(I)Z"⟩, prog_6_method_5_code, 2, some .boolean)
abbrev d_Search_isClosed : Nat := 0
theorem jcm_Search_isClosed : Cond.code y_Search_isClosed.1 y_Search_isClosed.2.1 y_Search_isClosed.2.2.1 y_Search_isClosed.2.2.2 ∈ jTbl := jmt4 (List.mem_of_getElem? (i := 238) rfl) rfl
theorem mo_Search_isClosed : jMo y_Search_isClosed 1 := ⟨jcm_Search_isClosed, ji_4, ⟨by decide, by decide⟩, by decide +kernel⟩
theorem mv_Search_isClosed : Cond.instanceMethod y_Search_isClosed.1 ∈ jTbl ∧ Cond.selects y_Search_isClosed.1.cls y_Search_isClosed.1 y_Search_isClosed.1 ∈ jTbl := ⟨jmem 1058 (by decide +kernel) (by decide +kernel), jmem 32 (by decide +kernel) (by decide +kernel)⟩
abbrev y_Search_isEyed : jM := (⟨"CountTreaty$Search", "isEyed", "(II)Z"⟩, prog_6_method_7_code, 4, some .boolean)
abbrev d_Search_isEyed : Nat := 0
theorem jcm_Search_isEyed : Cond.code y_Search_isEyed.1 y_Search_isEyed.2.1 y_Search_isEyed.2.2.1 y_Search_isEyed.2.2.2 ∈ jTbl := jmt5 (List.mem_of_getElem? (i := 6) rfl) rfl
theorem mo_Search_isEyed : jMo y_Search_isEyed 2 := ⟨jcm_Search_isEyed, ji_4, ⟨by decide, by decide⟩, by decide +kernel⟩
theorem mv_Search_isEyed : Cond.instanceMethod y_Search_isEyed.1 ∈ jTbl ∧ Cond.selects y_Search_isEyed.1.cls y_Search_isEyed.1 y_Search_isEyed.1 ∈ jTbl := ⟨jmem 1066 (by decide +kernel) (by decide +kernel), jmem 34 (by decide +kernel) (by decide +kernel)⟩
abbrev y_Search_findDays : jM := (⟨"CountTreaty$Search", "findDays", "(LCountTreaty$State;IIIII)V"⟩, prog_6_method_3_code, 9, none)
abbrev d_Search_findDays : Nat := 1
theorem jcm_Search_findDays : Cond.code y_Search_findDays.1 y_Search_findDays.2.1 y_Search_findDays.2.2.1 y_Search_findDays.2.2.2 ∈ jTbl := jmt5 (List.mem_of_getElem? (i := 2) rfl) rfl
theorem mo_Search_findDays : jMo y_Search_findDays 6 := ⟨jcm_Search_findDays, ji_4, ⟨by decide, by decide⟩, by decide +kernel⟩
theorem mv_Search_findDays : Cond.instanceMethod y_Search_findDays.1 ∈ jTbl ∧ Cond.selects y_Search_findDays.1.cls y_Search_findDays.1 y_Search_findDays.1 ∈ jTbl := ⟨jmem 1062 (by decide +kernel) (by decide +kernel), jmem 33 (by decide +kernel) (by decide +kernel)⟩
abbrev y_Search_find : jM := (⟨"CountTreaty$Search", "find", "(LCountTreaty$State;III)I"⟩, prog_6_method_2_code, 9, some .int)
abbrev d_Search_find : Nat := 4
theorem jcm_Search_find : Cond.code y_Search_find.1 y_Search_find.2.1 y_Search_find.2.2.1 y_Search_find.2.2.2 ∈ jTbl := jmt4 (List.mem_of_getElem? (i := 220) rfl) rfl
theorem mo_Search_find : jMo y_Search_find 4 := ⟨jcm_Search_find, ji_4, ⟨by decide, by decide⟩, by decide +kernel⟩
theorem mv_Search_find : Cond.instanceMethod y_Search_find.1 ∈ jTbl ∧ Cond.selects y_Search_find.1.cls y_Search_find.1 y_Search_find.1 ∈ jTbl := ⟨jmem 1039 (by decide +kernel) (by decide +kernel), jmem 1040 (by decide +kernel) (by decide +kernel)⟩
abbrev y_Count_unseen : jM := (⟨"CountTreaty", "unseen", "(II)I"⟩, prog_1_method_44_code, 3, some .int)
abbrev d_Count_unseen : Nat := 5
theorem jcm_Count_unseen : Cond.code y_Count_unseen.1 y_Count_unseen.2.1 y_Count_unseen.2.2.1 y_Count_unseen.2.2.2 ∈ jTbl := jmt4 (List.mem_of_getElem? (i := 216) rfl) rfl
theorem mo_Count_unseen : jMo y_Count_unseen 2 := ⟨jcm_Count_unseen, ji_9, ⟨by decide, by decide⟩, by decide +kernel⟩
theorem mv_Count_unseen : Cond.instanceMethod y_Count_unseen.1 ∈ jTbl ∧ Cond.selects y_Count_unseen.1.cls y_Count_unseen.1 y_Count_unseen.1 ∈ jTbl := ⟨jmem 1035 (by decide +kernel) (by decide +kernel), jmem 1036 (by decide +kernel) (by decide +kernel)⟩
abbrev y_Count_trick : jM := (⟨"CountTreaty", "trick", "(IIII)I"⟩, prog_1_method_45_code, 5, some .int)
abbrev d_Count_trick : Nat := 5
theorem jcm_Count_trick : Cond.code y_Count_trick.1 y_Count_trick.2.1 y_Count_trick.2.2.1 y_Count_trick.2.2.2 ∈ jTbl := jmt5 (List.mem_of_getElem? (i := 10) rfl) rfl
theorem mo_Count_trick : jMo y_Count_trick 4 := ⟨jcm_Count_trick, ji_9, ⟨by decide, by decide⟩, by decide +kernel⟩
theorem mv_Count_trick : Cond.instanceMethod y_Count_trick.1 ∈ jTbl ∧ Cond.selects y_Count_trick.1.cls y_Count_trick.1 y_Count_trick.1 ∈ jTbl := ⟨jmem 1069 (by decide +kernel) (by decide +kernel), jmem 1070 (by decide +kernel) (by decide +kernel)⟩
abbrev y_Rows_copy : jM := (⟨"CountTreaty$Rows", "copy", "(LCountTreaty$Rows;)V"⟩, prog_5_method_9_code, 2, none)
abbrev d_Rows_copy : Nat := 1
theorem jcm_Rows_copy : Cond.code y_Rows_copy.1 y_Rows_copy.2.1 y_Rows_copy.2.2.1 y_Rows_copy.2.2.2 ∈ jTbl := jmt5 (List.mem_of_getElem? (i := 22) rfl) rfl
theorem mo_Rows_copy : jMo y_Rows_copy 1 := ⟨jcm_Rows_copy, ji_3, ⟨by decide, by decide⟩, by decide +kernel⟩
theorem mv_Rows_copy : Cond.instanceMethod y_Rows_copy.1 ∈ jTbl ∧ Cond.selects y_Rows_copy.1.cls y_Rows_copy.1 y_Rows_copy.1 ∈ jTbl := ⟨jmem 1081 (by decide +kernel) (by decide +kernel), jmem 1082 (by decide +kernel) (by decide +kernel)⟩
abbrev y_Treaty_copy : jM := (⟨"CountTreaty$Treaty", "copy", "(LCountTreaty$Treaty;)V"⟩, prog_10_method_2_code, 2, none)
abbrev d_Treaty_copy : Nat := 2
theorem jcm_Treaty_copy : Cond.code y_Treaty_copy.1 y_Treaty_copy.2.1 y_Treaty_copy.2.2.1 y_Treaty_copy.2.2.2 ∈ jTbl := jmt5 (List.mem_of_getElem? (i := 29) rfl) rfl
theorem mo_Treaty_copy : jMo y_Treaty_copy 1 := ⟨jcm_Treaty_copy, ji_8, ⟨by decide, by decide⟩, by decide +kernel⟩
theorem mv_Treaty_copy : Cond.instanceMethod y_Treaty_copy.1 ∈ jTbl ∧ Cond.selects y_Treaty_copy.1.cls y_Treaty_copy.1 y_Treaty_copy.1 ∈ jTbl := ⟨jmem 1088 (by decide +kernel) (by decide +kernel), jmem 1089 (by decide +kernel) (by decide +kernel)⟩
abbrev y_State_copy : jM := (⟨"CountTreaty$State", "copy", "(LCountTreaty$State;)V"⟩, prog_8_method_20_code, 2, none)
abbrev d_State_copy : Nat := 3
theorem jcm_State_copy : Cond.code y_State_copy.1 y_State_copy.2.1 y_State_copy.2.2.1 y_State_copy.2.2.2 ∈ jTbl := jmt5 (List.mem_of_getElem? (i := 18) rfl) rfl
theorem mo_State_copy : jMo y_State_copy 1 := ⟨jcm_State_copy, ji_6, ⟨by decide, by decide⟩, by decide +kernel⟩
theorem mv_State_copy : Cond.instanceMethod y_State_copy.1 ∈ jTbl ∧ Cond.selects y_State_copy.1.cls y_State_copy.1 y_State_copy.1 ∈ jTbl := ⟨jmem 1077 (by decide +kernel) (by decide +kernel), jmem 1078 (by decide +kernel) (by decide +kernel)⟩
abbrev y_Count_image : jM := (⟨"CountTreaty", "image", "()I"⟩, prog_1_method_46_code, 1, some .int)
abbrev d_Count_image : Nat := 4
theorem jcm_Count_image : Cond.code y_Count_image.1 y_Count_image.2.1 y_Count_image.2.2.1 y_Count_image.2.2.2 ∈ jTbl := jmt5 (List.mem_of_getElem? (i := 14) rfl) rfl
theorem mo_Count_image : jMo y_Count_image 0 := ⟨jcm_Count_image, ji_9, ⟨by decide, by decide⟩, by decide +kernel⟩
theorem mv_Count_image : Cond.instanceMethod y_Count_image.1 ∈ jTbl ∧ Cond.selects y_Count_image.1.cls y_Count_image.1 y_Count_image.1 ∈ jTbl := ⟨jmem 1073 (by decide +kernel) (by decide +kernel), jmem 1074 (by decide +kernel) (by decide +kernel)⟩
abbrev y_Count_back : jM := (⟨"CountTreaty", "back", "()I"⟩, prog_1_method_47_code, 1, some .int)
abbrev d_Count_back : Nat := 4
theorem jcm_Count_back : Cond.code y_Count_back.1 y_Count_back.2.1 y_Count_back.2.2.1 y_Count_back.2.2.2 ∈ jTbl := jmt5 (List.mem_of_getElem? (i := 34) rfl) rfl
theorem mo_Count_back : jMo y_Count_back 0 := ⟨jcm_Count_back, ji_9, ⟨by decide, by decide⟩, by decide +kernel⟩
theorem mv_Count_back : Cond.instanceMethod y_Count_back.1 ∈ jTbl ∧ Cond.selects y_Count_back.1.cls y_Count_back.1 y_Count_back.1 ∈ jTbl := ⟨jmem 1093 (by decide +kernel) (by decide +kernel), jmem 1094 (by decide +kernel) (by decide +kernel)⟩
abbrev y_Count_about : jM := (⟨"CountTreaty", "about", "(I)I"⟩, prog_1_method_48_code, 2, some .int)
abbrev d_Count_about : Nat := 1
theorem jcm_Count_about : Cond.code y_Count_about.1 y_Count_about.2.1 y_Count_about.2.2.1 y_Count_about.2.2.2 ∈ jTbl := jmt5 (List.mem_of_getElem? (i := 38) rfl) rfl
theorem mo_Count_about : jMo y_Count_about 1 := ⟨jcm_Count_about, ji_9, ⟨by decide, by decide⟩, by decide +kernel⟩
theorem mv_Count_about : Cond.instanceMethod y_Count_about.1 ∈ jTbl ∧ Cond.selects y_Count_about.1.cls y_Count_about.1 y_Count_about.1 ∈ jTbl := ⟨jmem 1097 (by decide +kernel) (by decide +kernel), jmem 1098 (by decide +kernel) (by decide +kernel)⟩
abbrev y_Model_copy : jM := (⟨"CountTreatyModel", "copy", "([I[I)V"⟩, prog_12_method_2_code, 3, none)
abbrev d_Model_copy : Nat := 0
theorem jcm_Model_copy : Cond.code y_Model_copy.1 y_Model_copy.2.1 y_Model_copy.2.2.1 y_Model_copy.2.2.2 ∈ jTbl := jmt5 (List.mem_of_getElem? (i := 47) rfl) rfl
theorem mo_Model_copy : jMo y_Model_copy 2 := ⟨jcm_Model_copy, ji_10, ⟨by decide, by decide⟩, by decide +kernel⟩
theorem ms_Model_copy : Cond.static y_Model_copy.1 ∈ jTbl := jmem 1107 (by decide +kernel) (by decide +kernel)
abbrev y_Model_init : jM := (⟨"CountTreatyModel", "<init>", "()V"⟩, prog_12_method_1_code, 2, none)
abbrev d_Model_init : Nat := 1
theorem jcm_Model_init : Cond.code y_Model_init.1 y_Model_init.2.1 y_Model_init.2.2.1 y_Model_init.2.2.2 ∈ jTbl := jmt5 (List.mem_of_getElem? (i := 43) rfl) rfl
theorem mo_Model_init : jMo y_Model_init 0 := ⟨jcm_Model_init, ji_10, ⟨by decide, by decide⟩, by decide +kernel⟩
theorem mi_Model_init : Cond.instanceMethod y_Model_init.1 ∈ jTbl ∧ y_Model_init.1.name = "<init>" ∧ y_Model_init.2.2.2 = none := ⟨jmem 1103 (by decide +kernel) (by decide +kernel), rfl, rfl⟩
abbrev y_Model_isIn : jM := (⟨"CountTreatyModel", "isIn", "(III)Z"⟩, prog_12_method_3_code, 3, some .boolean)
abbrev d_Model_isIn : Nat := 0
theorem jcm_Model_isIn : Cond.code y_Model_isIn.1 y_Model_isIn.2.1 y_Model_isIn.2.2.1 y_Model_isIn.2.2.2 ∈ jTbl := jmt5 (List.mem_of_getElem? (i := 133) rfl) rfl
theorem mo_Model_isIn : jMo y_Model_isIn 3 := ⟨jcm_Model_isIn, ji_10, ⟨by decide, by decide⟩, by decide +kernel⟩
theorem ms_Model_isIn : Cond.static y_Model_isIn.1 ∈ jTbl := jmem 1193 (by decide +kernel) (by decide +kernel)
abbrev y_Model_isDay : jM := (⟨"CountTreatyModel", "isDay", "(I)Z"⟩, prog_12_method_4_code, 1, some .boolean)
abbrev d_Model_isDay : Nat := 1
theorem jcm_Model_isDay : Cond.code y_Model_isDay.1 y_Model_isDay.2.1 y_Model_isDay.2.2.1 y_Model_isDay.2.2.2 ∈ jTbl := jmt5 (List.mem_of_getElem? (i := 181) rfl) rfl
theorem mo_Model_isDay : jMo y_Model_isDay 1 := ⟨jcm_Model_isDay, ji_10, ⟨by decide, by decide⟩, by decide +kernel⟩
theorem ms_Model_isDay : Cond.static y_Model_isDay.1 ∈ jTbl := jmem 1241 (by decide +kernel) (by decide +kernel)
abbrev y_Model_isSite : jM := (⟨"CountTreatyModel", "isSite", "(I)Z"⟩, prog_12_method_5_code, 2, some .boolean)
abbrev d_Model_isSite : Nat := 1
theorem jcm_Model_isSite : Cond.code y_Model_isSite.1 y_Model_isSite.2.1 y_Model_isSite.2.2.1 y_Model_isSite.2.2.2 ∈ jTbl := jmt5 (List.mem_of_getElem? (i := 141) rfl) rfl
theorem mo_Model_isSite : jMo y_Model_isSite 1 := ⟨jcm_Model_isSite, ji_10, ⟨by decide, by decide⟩, by decide +kernel⟩
theorem mv_Model_isSite : Cond.instanceMethod y_Model_isSite.1 ∈ jTbl ∧ Cond.selects y_Model_isSite.1.cls y_Model_isSite.1 y_Model_isSite.1 ∈ jTbl := ⟨jmem 1201 (by decide +kernel) (by decide +kernel), jmem 35 (by decide +kernel) (by decide +kernel)⟩
abbrev y_Model_isThing : jM := (⟨"CountTreatyModel", "isThing", "(I)Z"⟩, prog_12_method_6_code, 2, some .boolean)
abbrev d_Model_isThing : Nat := 1
theorem jcm_Model_isThing : Cond.code y_Model_isThing.1 y_Model_isThing.2.1 y_Model_isThing.2.2.1 y_Model_isThing.2.2.2 ∈ jTbl := jmt5 (List.mem_of_getElem? (i := 178) rfl) rfl
theorem mo_Model_isThing : jMo y_Model_isThing 1 := ⟨jcm_Model_isThing, ji_10, ⟨by decide, by decide⟩, by decide +kernel⟩
theorem mv_Model_isThing : Cond.instanceMethod y_Model_isThing.1 ∈ jTbl ∧ Cond.selects y_Model_isThing.1.cls y_Model_isThing.1 y_Model_isThing.1 ∈ jTbl := ⟨jmem 1238 (by decide +kernel) (by decide +kernel), jmem 39 (by decide +kernel) (by decide +kernel)⟩
abbrev y_Model_siteAt : jM := (⟨"CountTreatyModel", "siteAt", "(II)I"⟩, prog_12_method_7_code, 3, some .int)
abbrev d_Model_siteAt : Nat := 0
theorem jcm_Model_siteAt : Cond.code y_Model_siteAt.1 y_Model_siteAt.2.1 y_Model_siteAt.2.2.1 y_Model_siteAt.2.2.2 ∈ jTbl := jmt5 (List.mem_of_getElem? (i := 145) rfl) rfl
theorem mo_Model_siteAt : jMo y_Model_siteAt 2 := ⟨jcm_Model_siteAt, ji_10, ⟨by decide, by decide⟩, by decide +kernel⟩
theorem mv_Model_siteAt : Cond.instanceMethod y_Model_siteAt.1 ∈ jTbl ∧ Cond.selects y_Model_siteAt.1.cls y_Model_siteAt.1 y_Model_siteAt.1 ∈ jTbl := ⟨jmem 1205 (by decide +kernel) (by decide +kernel), jmem 36 (by decide +kernel) (by decide +kernel)⟩
abbrev y_Model_thingAt : jM := (⟨"CountTreatyModel", "thingAt", "(II)I"⟩, prog_12_method_8_code, 3, some .int)
abbrev d_Model_thingAt : Nat := 0
theorem jcm_Model_thingAt : Cond.code y_Model_thingAt.1 y_Model_thingAt.2.1 y_Model_thingAt.2.2.1 y_Model_thingAt.2.2.2 ∈ jTbl := jmt5 (List.mem_of_getElem? (i := 189) rfl) rfl
theorem mo_Model_thingAt : jMo y_Model_thingAt 2 := ⟨jcm_Model_thingAt, ji_10, ⟨by decide, by decide⟩, by decide +kernel⟩
theorem mv_Model_thingAt : Cond.instanceMethod y_Model_thingAt.1 ∈ jTbl ∧ Cond.selects y_Model_thingAt.1.cls y_Model_thingAt.1 y_Model_thingAt.1 ∈ jTbl := ⟨jmem 1249 (by decide +kernel) (by decide +kernel), jmem 41 (by decide +kernel) (by decide +kernel)⟩
abbrev y_Model_moveAt : jM := (⟨"CountTreatyModel", "moveAt", "(II)I"⟩, prog_12_method_9_code, 3, some .int)
abbrev d_Model_moveAt : Nat := 0
theorem jcm_Model_moveAt : Cond.code y_Model_moveAt.1 y_Model_moveAt.2.1 y_Model_moveAt.2.2.1 y_Model_moveAt.2.2.2 ∈ jTbl := jmt5 (List.mem_of_getElem? (i := 193) rfl) rfl
theorem mo_Model_moveAt : jMo y_Model_moveAt 2 := ⟨jcm_Model_moveAt, ji_10, ⟨by decide, by decide⟩, by decide +kernel⟩
theorem mv_Model_moveAt : Cond.instanceMethod y_Model_moveAt.1 ∈ jTbl ∧ Cond.selects y_Model_moveAt.1.cls y_Model_moveAt.1 y_Model_moveAt.1 ∈ jTbl := ⟨jmem 1253 (by decide +kernel) (by decide +kernel), jmem 42 (by decide +kernel) (by decide +kernel)⟩
abbrev y_Model_site : jM := (⟨"CountTreatyModel", "site", "(IIZZ)I"⟩, prog_12_method_10_code, 6, some .int)
abbrev d_Model_site : Nat := 1
theorem jcm_Model_site : Cond.code y_Model_site.1 y_Model_site.2.1 y_Model_site.2.2.1 y_Model_site.2.2.2 ∈ jTbl := jmt5 (List.mem_of_getElem? (i := 130) rfl) rfl
theorem mo_Model_site : jMo y_Model_site 4 := ⟨jcm_Model_site, ji_10, ⟨by decide, by decide⟩, by decide +kernel⟩
theorem mv_Model_site : Cond.instanceMethod y_Model_site.1 ∈ jTbl ∧ Cond.selects y_Model_site.1.cls y_Model_site.1 y_Model_site.1 ∈ jTbl := ⟨jmem 1189 (by decide +kernel) (by decide +kernel), jmem 1190 (by decide +kernel) (by decide +kernel)⟩
abbrev y_Model_road : jM := (⟨"CountTreatyModel", "road", "(III)I"⟩, prog_12_method_11_code, 5, some .int)
abbrev d_Model_road : Nat := 2
theorem jcm_Model_road : Cond.code y_Model_road.1 y_Model_road.2.1 y_Model_road.2.2.1 y_Model_road.2.2.2 ∈ jTbl := jmt5 (List.mem_of_getElem? (i := 137) rfl) rfl
theorem mo_Model_road : jMo y_Model_road 3 := ⟨jcm_Model_road, ji_10, ⟨by decide, by decide⟩, by decide +kernel⟩
theorem mv_Model_road : Cond.instanceMethod y_Model_road.1 ∈ jTbl ∧ Cond.selects y_Model_road.1.cls y_Model_road.1 y_Model_road.1 ∈ jTbl := ⟨jmem 1196 (by decide +kernel) (by decide +kernel), jmem 1197 (by decide +kernel) (by decide +kernel)⟩
abbrev y_Model_wayOf : jM := (⟨"CountTreatyModel", "wayOf", "(II)I"⟩, prog_12_method_12_code, 8, some .int)
abbrev d_Model_wayOf : Nat := 0
theorem jcm_Model_wayOf : Cond.code y_Model_wayOf.1 y_Model_wayOf.2.1 y_Model_wayOf.2.2.1 y_Model_wayOf.2.2.2 ∈ jTbl := jmt5 (List.mem_of_getElem? (i := 153) rfl) rfl
theorem mo_Model_wayOf : jMo y_Model_wayOf 2 := ⟨jcm_Model_wayOf, ji_10, ⟨by decide, by decide⟩, by decide +kernel⟩
theorem mv_Model_wayOf : Cond.instanceMethod y_Model_wayOf.1 ∈ jTbl ∧ Cond.selects y_Model_wayOf.1.cls y_Model_wayOf.1 y_Model_wayOf.1 ∈ jTbl := ⟨jmem 1213 (by decide +kernel) (by decide +kernel), jmem 37 (by decide +kernel) (by decide +kernel)⟩
abbrev y_Model_way : jM := (⟨"CountTreatyModel", "way", "(II)I"⟩, prog_12_method_13_code, 3, some .int)
abbrev d_Model_way : Nat := 2
theorem jcm_Model_way : Cond.code y_Model_way.1 y_Model_way.2.1 y_Model_way.2.2.1 y_Model_way.2.2.2 ∈ jTbl := jmt5 (List.mem_of_getElem? (i := 149) rfl) rfl
theorem mo_Model_way : jMo y_Model_way 2 := ⟨jcm_Model_way, ji_10, ⟨by decide, by decide⟩, by decide +kernel⟩
theorem mv_Model_way : Cond.instanceMethod y_Model_way.1 ∈ jTbl ∧ Cond.selects y_Model_way.1.cls y_Model_way.1 y_Model_way.1 ∈ jTbl := ⟨jmem 1208 (by decide +kernel) (by decide +kernel), jmem 1209 (by decide +kernel) (by decide +kernel)⟩
abbrev y_Model_sort : jM := (⟨"CountTreatyModel", "sort", "(IIIII)Z"⟩, prog_12_method_14_code, 6, some .boolean)
abbrev d_Model_sort : Nat := 1
theorem jcm_Model_sort : Cond.code y_Model_sort.1 y_Model_sort.2.1 y_Model_sort.2.2.1 y_Model_sort.2.2.2 ∈ jTbl := jmt5 (List.mem_of_getElem? (i := 158) rfl) rfl
theorem mo_Model_sort : jMo y_Model_sort 5 := ⟨jcm_Model_sort, ji_10, ⟨by decide, by decide⟩, by decide +kernel⟩
theorem mv_Model_sort : Cond.instanceMethod y_Model_sort.1 ∈ jTbl ∧ Cond.selects y_Model_sort.1.cls y_Model_sort.1 y_Model_sort.1 ∈ jTbl := ⟨jmem 1217 (by decide +kernel) (by decide +kernel), jmem 1218 (by decide +kernel) (by decide +kernel)⟩
abbrev y_Model_rules : jM := (⟨"CountTreatyModel", "rules", "(III)Z"⟩, prog_12_method_15_code, 4, some .boolean)
abbrev d_Model_rules : Nat := 1
theorem jcm_Model_rules : Cond.code y_Model_rules.1 y_Model_rules.2.1 y_Model_rules.2.2.1 y_Model_rules.2.2.2 ∈ jTbl := jmt5 (List.mem_of_getElem? (i := 162) rfl) rfl
theorem mo_Model_rules : jMo y_Model_rules 3 := ⟨jcm_Model_rules, ji_10, ⟨by decide, by decide⟩, by decide +kernel⟩
theorem mv_Model_rules : Cond.instanceMethod y_Model_rules.1 ∈ jTbl ∧ Cond.selects y_Model_rules.1.cls y_Model_rules.1 y_Model_rules.1 ∈ jTbl := ⟨jmem 1221 (by decide +kernel) (by decide +kernel), jmem 1222 (by decide +kernel) (by decide +kernel)⟩
abbrev y_Model_noted : jM := (⟨"CountTreatyModel", "noted", "(IIII)V"⟩, prog_12_method_16_code, 6, none)
abbrev d_Model_noted : Nat := 0
theorem jcm_Model_noted : Cond.code y_Model_noted.1 y_Model_noted.2.1 y_Model_noted.2.2.1 y_Model_noted.2.2.2 ∈ jTbl := jmt5 (List.mem_of_getElem? (i := 170) rfl) rfl
theorem mo_Model_noted : jMo y_Model_noted 4 := ⟨jcm_Model_noted, ji_10, ⟨by decide, by decide⟩, by decide +kernel⟩
theorem mv_Model_noted : Cond.instanceMethod y_Model_noted.1 ∈ jTbl ∧ Cond.selects y_Model_noted.1.cls y_Model_noted.1 y_Model_noted.1 ∈ jTbl := ⟨jmem 1230 (by decide +kernel) (by decide +kernel), jmem 38 (by decide +kernel) (by decide +kernel)⟩
abbrev y_Model_make : jM := (⟨"CountTreatyModel", "make", "(IIII)I"⟩, prog_12_method_17_code, 6, some .int)
abbrev d_Model_make : Nat := 2
theorem jcm_Model_make : Cond.code y_Model_make.1 y_Model_make.2.1 y_Model_make.2.2.1 y_Model_make.2.2.2 ∈ jTbl := jmt5 (List.mem_of_getElem? (i := 166) rfl) rfl
theorem mo_Model_make : jMo y_Model_make 4 := ⟨jcm_Model_make, ji_10, ⟨by decide, by decide⟩, by decide +kernel⟩
theorem mv_Model_make : Cond.instanceMethod y_Model_make.1 ∈ jTbl ∧ Cond.selects y_Model_make.1.cls y_Model_make.1 y_Model_make.1 ∈ jTbl := ⟨jmem 1225 (by decide +kernel) (by decide +kernel), jmem 1226 (by decide +kernel) (by decide +kernel)⟩
abbrev y_Model_whereOf : jM := (⟨"CountTreatyModel", "whereOf", "(II)I"⟩, prog_12_method_18_code, 5, some .int)
abbrev d_Model_whereOf : Nat := 1
theorem jcm_Model_whereOf : Cond.code y_Model_whereOf.1 y_Model_whereOf.2.1 y_Model_whereOf.2.2.1 y_Model_whereOf.2.2.2 ∈ jTbl := jmt5 (List.mem_of_getElem? (i := 185) rfl) rfl
theorem mo_Model_whereOf : jMo y_Model_whereOf 2 := ⟨jcm_Model_whereOf, ji_10, ⟨by decide, by decide⟩, by decide +kernel⟩
theorem mv_Model_whereOf : Cond.instanceMethod y_Model_whereOf.1 ∈ jTbl ∧ Cond.selects y_Model_whereOf.1.cls y_Model_whereOf.1 y_Model_whereOf.1 ∈ jTbl := ⟨jmem 1245 (by decide +kernel) (by decide +kernel), jmem 40 (by decide +kernel) (by decide +kernel)⟩
abbrev y_Model_where : jM := (⟨"CountTreatyModel", "where", "(II)I"⟩, prog_12_method_19_code, 3, some .int)
abbrev d_Model_where : Nat := 2
theorem jcm_Model_where : Cond.code y_Model_where.1 y_Model_where.2.1 y_Model_where.2.2.1 y_Model_where.2.2.2 ∈ jTbl := jmt5 (List.mem_of_getElem? (i := 174) rfl) rfl
theorem mo_Model_where : jMo y_Model_where 2 := ⟨jcm_Model_where, ji_10, ⟨by decide, by decide⟩, by decide +kernel⟩
theorem mv_Model_where : Cond.instanceMethod y_Model_where.1 ∈ jTbl ∧ Cond.selects y_Model_where.1.cls y_Model_where.1 y_Model_where.1 ∈ jTbl := ⟨jmem 1233 (by decide +kernel) (by decide +kernel), jmem 1234 (by decide +kernel) (by decide +kernel)⟩
abbrev y_Model_move : jM := (⟨"CountTreatyModel", "move", "(II)I"⟩, prog_12_method_20_code, 6, some .int)
abbrev d_Model_move : Nat := 2
theorem jcm_Model_move : Cond.code y_Model_move.1 y_Model_move.2.1 y_Model_move.2.2.1 y_Model_move.2.2.2 ∈ jTbl := jmt5 (List.mem_of_getElem? (i := 197) rfl) rfl
theorem mo_Model_move : jMo y_Model_move 2 := ⟨jcm_Model_move, ji_10, ⟨by decide, by decide⟩, by decide +kernel⟩
theorem mv_Model_move : Cond.instanceMethod y_Model_move.1 ∈ jTbl ∧ Cond.selects y_Model_move.1.cls y_Model_move.1 y_Model_move.1 ∈ jTbl := ⟨jmem 1256 (by decide +kernel) (by decide +kernel), jmem 1257 (by decide +kernel) (by decide +kernel)⟩
abbrev y_Model_clausesOf : jM := (⟨"CountTreatyModel", "clausesOf", "(I)I"⟩, prog_12_method_62_code, 2, some .int)
abbrev d_Model_clausesOf : Nat := 0
theorem jcm_Model_clausesOf : Cond.code y_Model_clausesOf.1 y_Model_clausesOf.2.1 y_Model_clausesOf.2.2.1 y_Model_clausesOf.2.2.2 ∈ jTbl := jmt5 (List.mem_of_getElem? (i := 221) rfl) rfl
theorem mo_Model_clausesOf : jMo y_Model_clausesOf 1 := ⟨jcm_Model_clausesOf, ji_10, ⟨by decide, by decide⟩, by decide +kernel⟩
theorem mv_Model_clausesOf : Cond.instanceMethod y_Model_clausesOf.1 ∈ jTbl ∧ Cond.selects y_Model_clausesOf.1.cls y_Model_clausesOf.1 y_Model_clausesOf.1 ∈ jTbl := ⟨jmem 1281 (by decide +kernel) (by decide +kernel), jmem 47 (by decide +kernel) (by decide +kernel)⟩
abbrev y_Model_clauseAt : jM := (⟨"CountTreatyModel", "clauseAt", "(II)I"⟩, prog_12_method_61_code, 3, some .int)
abbrev d_Model_clauseAt : Nat := 0
theorem jcm_Model_clauseAt : Cond.code y_Model_clauseAt.1 y_Model_clauseAt.2.1 y_Model_clauseAt.2.2.1 y_Model_clauseAt.2.2.2 ∈ jTbl := jmt5 (List.mem_of_getElem? (i := 225) rfl) rfl
theorem mo_Model_clauseAt : jMo y_Model_clauseAt 2 := ⟨jcm_Model_clauseAt, ji_10, ⟨by decide, by decide⟩, by decide +kernel⟩
theorem mv_Model_clauseAt : Cond.instanceMethod y_Model_clauseAt.1 ∈ jTbl ∧ Cond.selects y_Model_clauseAt.1.cls y_Model_clauseAt.1 y_Model_clauseAt.1 ∈ jTbl := ⟨jmem 1285 (by decide +kernel) (by decide +kernel), jmem 48 (by decide +kernel) (by decide +kernel)⟩
abbrev y_Model_firstOf : jM := (⟨"CountTreatyModel", "firstOf", "(II)I"⟩, prog_12_method_63_code, 4, some .int)
abbrev d_Model_firstOf : Nat := 1
theorem jcm_Model_firstOf : Cond.code y_Model_firstOf.1 y_Model_firstOf.2.1 y_Model_firstOf.2.2.1 y_Model_firstOf.2.2.2 ∈ jTbl := jmt5 (List.mem_of_getElem? (i := 217) rfl) rfl
theorem mo_Model_firstOf : jMo y_Model_firstOf 2 := ⟨jcm_Model_firstOf, ji_10, ⟨by decide, by decide⟩, by decide +kernel⟩
theorem mv_Model_firstOf : Cond.instanceMethod y_Model_firstOf.1 ∈ jTbl ∧ Cond.selects y_Model_firstOf.1.cls y_Model_firstOf.1 y_Model_firstOf.1 ∈ jTbl := ⟨jmem 1277 (by decide +kernel) (by decide +kernel), jmem 46 (by decide +kernel) (by decide +kernel)⟩
abbrev y_Model_textFor : jM := (⟨"CountTreatyModel", "textFor", "(II)I"⟩, prog_12_method_64_code, 7, some .int)
abbrev d_Model_textFor : Nat := 2
theorem jcm_Model_textFor : Cond.code y_Model_textFor.1 y_Model_textFor.2.1 y_Model_textFor.2.2.1 y_Model_textFor.2.2.2 ∈ jTbl := jmt5 (List.mem_of_getElem? (i := 213) rfl) rfl
theorem mo_Model_textFor : jMo y_Model_textFor 2 := ⟨jcm_Model_textFor, ji_10, ⟨by decide, by decide⟩, by decide +kernel⟩
theorem mv_Model_textFor : Cond.instanceMethod y_Model_textFor.1 ∈ jTbl ∧ Cond.selects y_Model_textFor.1.cls y_Model_textFor.1 y_Model_textFor.1 ∈ jTbl := ⟨jmem 1273 (by decide +kernel) (by decide +kernel), jmem 45 (by decide +kernel) (by decide +kernel)⟩
abbrev y_Model_limitOf : jM := (⟨"CountTreatyModel", "limitOf", "(I)I"⟩, prog_12_method_66_code, 6, some .int)
abbrev d_Model_limitOf : Nat := 3
theorem jcm_Model_limitOf : Cond.code y_Model_limitOf.1 y_Model_limitOf.2.1 y_Model_limitOf.2.2.1 y_Model_limitOf.2.2.2 ∈ jTbl := jmt5 (List.mem_of_getElem? (i := 209) rfl) rfl
theorem mo_Model_limitOf : jMo y_Model_limitOf 1 := ⟨jcm_Model_limitOf, ji_10, ⟨by decide, by decide⟩, by decide +kernel⟩
theorem mv_Model_limitOf : Cond.instanceMethod y_Model_limitOf.1 ∈ jTbl ∧ Cond.selects y_Model_limitOf.1.cls y_Model_limitOf.1 y_Model_limitOf.1 ∈ jTbl := ⟨jmem 1269 (by decide +kernel) (by decide +kernel), jmem 44 (by decide +kernel) (by decide +kernel)⟩
abbrev y_Model_numberOf : jM := (⟨"CountTreatyModel", "numberOf", "(IIII)I"⟩, prog_12_method_65_code, 6, some .int)
abbrev d_Model_numberOf : Nat := 3
theorem jcm_Model_numberOf : Cond.code y_Model_numberOf.1 y_Model_numberOf.2.1 y_Model_numberOf.2.2.1 y_Model_numberOf.2.2.2 ∈ jTbl := jmt5 (List.mem_of_getElem? (i := 229) rfl) rfl
theorem mo_Model_numberOf : jMo y_Model_numberOf 4 := ⟨jcm_Model_numberOf, ji_10, ⟨by decide, by decide⟩, by decide +kernel⟩
theorem mv_Model_numberOf : Cond.instanceMethod y_Model_numberOf.1 ∈ jTbl ∧ Cond.selects y_Model_numberOf.1.cls y_Model_numberOf.1 y_Model_numberOf.1 ∈ jTbl := ⟨jmem 1289 (by decide +kernel) (by decide +kernel), jmem 49 (by decide +kernel) (by decide +kernel)⟩
abbrev y_Model_saysOf : jM := (⟨"CountTreatyModel", "saysOf", "(II)I"⟩, prog_12_method_67_code, 3, some .int)
abbrev d_Model_saysOf : Nat := 4
theorem jcm_Model_saysOf : Cond.code y_Model_saysOf.1 y_Model_saysOf.2.1 y_Model_saysOf.2.2.1 y_Model_saysOf.2.2.2 ∈ jTbl := jmt5 (List.mem_of_getElem? (i := 205) rfl) rfl
theorem mo_Model_saysOf : jMo y_Model_saysOf 2 := ⟨jcm_Model_saysOf, ji_10, ⟨by decide, by decide⟩, by decide +kernel⟩
theorem mv_Model_saysOf : Cond.instanceMethod y_Model_saysOf.1 ∈ jTbl ∧ Cond.selects y_Model_saysOf.1.cls y_Model_saysOf.1 y_Model_saysOf.1 ∈ jTbl := ⟨jmem 1265 (by decide +kernel) (by decide +kernel), jmem 43 (by decide +kernel) (by decide +kernel)⟩
abbrev y_Model_step : jM := (⟨"CountTreatyModel", "step", "(I)I"⟩, prog_12_method_21_code, 4, some .int)
abbrev d_Model_step : Nat := 5
theorem jcm_Model_step : Cond.code y_Model_step.1 y_Model_step.2.1 y_Model_step.2.2.1 y_Model_step.2.2.2 ∈ jTbl := jmt5 (List.mem_of_getElem? (i := 201) rfl) rfl
theorem mo_Model_step : jMo y_Model_step 1 := ⟨jcm_Model_step, ji_10, ⟨by decide, by decide⟩, by decide +kernel⟩
theorem mv_Model_step : Cond.instanceMethod y_Model_step.1 ∈ jTbl ∧ Cond.selects y_Model_step.1.cls y_Model_step.1 y_Model_step.1 ∈ jTbl := ⟨jmem 1260 (by decide +kernel) (by decide +kernel), jmem 1261 (by decide +kernel) (by decide +kernel)⟩
abbrev y_Model_isBroken : jM := (⟨"CountTreatyModel", "isBroken", "(III)Z"⟩, prog_12_method_22_code, 5, some .boolean)
abbrev d_Model_isBroken : Nat := 1
theorem jcm_Model_isBroken : Cond.code y_Model_isBroken.1 y_Model_isBroken.2.1 y_Model_isBroken.2.2.1 y_Model_isBroken.2.2.2 ∈ jTbl := jmt6 (List.mem_of_getElem? (i := 9) rfl) rfl
theorem mo_Model_isBroken : jMo y_Model_isBroken 3 := ⟨jcm_Model_isBroken, ji_10, ⟨by decide, by decide⟩, by decide +kernel⟩
theorem mv_Model_isBroken : Cond.instanceMethod y_Model_isBroken.1 ∈ jTbl ∧ Cond.selects y_Model_isBroken.1.cls y_Model_isBroken.1 y_Model_isBroken.1 ∈ jTbl := ⟨jmem 1309 (by decide +kernel) (by decide +kernel), jmem 53 (by decide +kernel) (by decide +kernel)⟩
abbrev y_Model_sealOf : jM := (⟨"CountTreatyModel", "sealOf", "(I)I"⟩, prog_12_method_23_code, 4, some .int)
abbrev d_Model_sealOf : Nat := 0
theorem jcm_Model_sealOf : Cond.code y_Model_sealOf.1 y_Model_sealOf.2.1 y_Model_sealOf.2.2.1 y_Model_sealOf.2.2.2 ∈ jTbl := jmt6 (List.mem_of_getElem? (i := 1) rfl) rfl
theorem mo_Model_sealOf : jMo y_Model_sealOf 1 := ⟨jcm_Model_sealOf, ji_10, ⟨by decide, by decide⟩, by decide +kernel⟩
theorem mv_Model_sealOf : Cond.instanceMethod y_Model_sealOf.1 ∈ jTbl ∧ Cond.selects y_Model_sealOf.1.cls y_Model_sealOf.1 y_Model_sealOf.1 ∈ jTbl := ⟨jmem 1301 (by decide +kernel) (by decide +kernel), jmem 51 (by decide +kernel) (by decide +kernel)⟩
abbrev y_Model_isWhole : jM := (⟨"CountTreatyModel", "isWhole", "(II)Z"⟩, prog_12_method_24_code, 3, some .boolean)
abbrev d_Model_isWhole : Nat := 2
theorem jcm_Model_isWhole : Cond.code y_Model_isWhole.1 y_Model_isWhole.2.1 y_Model_isWhole.2.2.1 y_Model_isWhole.2.2.2 ∈ jTbl := jmt6 (List.mem_of_getElem? (i := 5) rfl) rfl
theorem mo_Model_isWhole : jMo y_Model_isWhole 2 := ⟨jcm_Model_isWhole, ji_10, ⟨by decide, by decide⟩, by decide +kernel⟩
theorem mv_Model_isWhole : Cond.instanceMethod y_Model_isWhole.1 ∈ jTbl ∧ Cond.selects y_Model_isWhole.1.cls y_Model_isWhole.1 y_Model_isWhole.1 ∈ jTbl := ⟨jmem 1305 (by decide +kernel) (by decide +kernel), jmem 52 (by decide +kernel) (by decide +kernel)⟩
abbrev y_Model_isSealed : jM := (⟨"CountTreatyModel", "isSealed", "(I)Z"⟩, prog_12_method_25_code, 2, some .boolean)
abbrev d_Model_isSealed : Nat := 3
theorem jcm_Model_isSealed : Cond.code y_Model_isSealed.1 y_Model_isSealed.2.1 y_Model_isSealed.2.2.1 y_Model_isSealed.2.2.2 ∈ jTbl := jmt5 (List.mem_of_getElem? (i := 237) rfl) rfl
theorem mo_Model_isSealed : jMo y_Model_isSealed 1 := ⟨jcm_Model_isSealed, ji_10, ⟨by decide, by decide⟩, by decide +kernel⟩
theorem mv_Model_isSealed : Cond.instanceMethod y_Model_isSealed.1 ∈ jTbl ∧ Cond.selects y_Model_isSealed.1.cls y_Model_isSealed.1 y_Model_isSealed.1 ∈ jTbl := ⟨jmem 1297 (by decide +kernel) (by decide +kernel), jmem 50 (by decide +kernel) (by decide +kernel)⟩
abbrev y_Model_seal : jM := (⟨"CountTreatyModel", "seal", "(I)I"⟩, prog_12_method_26_code, 2, some .int)
abbrev d_Model_seal : Nat := 4
theorem jcm_Model_seal : Cond.code y_Model_seal.1 y_Model_seal.2.1 y_Model_seal.2.2.1 y_Model_seal.2.2.2 ∈ jTbl := jmt5 (List.mem_of_getElem? (i := 233) rfl) rfl
theorem mo_Model_seal : jMo y_Model_seal 1 := ⟨jcm_Model_seal, ji_10, ⟨by decide, by decide⟩, by decide +kernel⟩
theorem mv_Model_seal : Cond.instanceMethod y_Model_seal.1 ∈ jTbl ∧ Cond.selects y_Model_seal.1.cls y_Model_seal.1 y_Model_seal.1 ∈ jTbl := ⟨jmem 1292 (by decide +kernel) (by decide +kernel), jmem 1293 (by decide +kernel) (by decide +kernel)⟩
abbrev y_Model_whole0 : jM := (⟨"CountTreatyModel", "whole", "(II)I"⟩, prog_12_method_27_code, 3, some .int)
abbrev d_Model_whole0 : Nat := 3
theorem jcm_Model_whole0 : Cond.code y_Model_whole0.1 y_Model_whole0.2.1 y_Model_whole0.2.2.1 y_Model_whole0.2.2.2 ∈ jTbl := jmt6 (List.mem_of_getElem? (i := 13) rfl) rfl
theorem mo_Model_whole0 : jMo y_Model_whole0 2 := ⟨jcm_Model_whole0, ji_10, ⟨by decide, by decide⟩, by decide +kernel⟩
theorem mv_Model_whole0 : Cond.instanceMethod y_Model_whole0.1 ∈ jTbl ∧ Cond.selects y_Model_whole0.1.cls y_Model_whole0.1 y_Model_whole0.1 ∈ jTbl := ⟨jmem 1312 (by decide +kernel) (by decide +kernel), jmem 1313 (by decide +kernel) (by decide +kernel)⟩
abbrev y_Model_days : jM := (⟨"CountTreatyModel", "days", "(I)I"⟩, prog_12_method_28_code, 2, some .int)
abbrev d_Model_days : Nat := 1
theorem jcm_Model_days : Cond.code y_Model_days.1 y_Model_days.2.1 y_Model_days.2.2.1 y_Model_days.2.2.2 ∈ jTbl := jmt6 (List.mem_of_getElem? (i := 17) rfl) rfl
theorem mo_Model_days : jMo y_Model_days 1 := ⟨jcm_Model_days, ji_10, ⟨by decide, by decide⟩, by decide +kernel⟩
theorem mv_Model_days : Cond.instanceMethod y_Model_days.1 ∈ jTbl ∧ Cond.selects y_Model_days.1.cls y_Model_days.1 y_Model_days.1 ∈ jTbl := ⟨jmem 1316 (by decide +kernel) (by decide +kernel), jmem 1317 (by decide +kernel) (by decide +kernel)⟩
abbrev y_Model_thing : jM := (⟨"CountTreatyModel", "thing", "(II)I"⟩, prog_12_method_29_code, 5, some .int)
abbrev d_Model_thing : Nat := 2
theorem jcm_Model_thing : Cond.code y_Model_thing.1 y_Model_thing.2.1 y_Model_thing.2.2.1 y_Model_thing.2.2.2 ∈ jTbl := jmt6 (List.mem_of_getElem? (i := 21) rfl) rfl
theorem mo_Model_thing : jMo y_Model_thing 2 := ⟨jcm_Model_thing, ji_10, ⟨by decide, by decide⟩, by decide +kernel⟩
theorem mv_Model_thing : Cond.instanceMethod y_Model_thing.1 ∈ jTbl ∧ Cond.selects y_Model_thing.1.cls y_Model_thing.1 y_Model_thing.1 ∈ jTbl := ⟨jmem 1320 (by decide +kernel) (by decide +kernel), jmem 1321 (by decide +kernel) (by decide +kernel)⟩
abbrev y_Model_four : jM := (⟨"CountTreatyModel", "four", "(I)V"⟩, prog_12_method_30_code, 3, none)
abbrev d_Model_four : Nat := 0
theorem jcm_Model_four : Cond.code y_Model_four.1 y_Model_four.2.1 y_Model_four.2.2.1 y_Model_four.2.2.2 ∈ jTbl := jmt6 (List.mem_of_getElem? (i := 29) rfl) rfl
theorem mo_Model_four : jMo y_Model_four 1 := ⟨jcm_Model_four, ji_10, ⟨by decide, by decide⟩, by decide +kernel⟩
theorem mv_Model_four : Cond.instanceMethod y_Model_four.1 ∈ jTbl ∧ Cond.selects y_Model_four.1.cls y_Model_four.1 y_Model_four.1 ∈ jTbl := ⟨jmem 1329 (by decide +kernel) (by decide +kernel), jmem 54 (by decide +kernel) (by decide +kernel)⟩
abbrev y_Model_feed : jM := (⟨"CountTreatyModel", "feed", "(IIIII)I"⟩, prog_12_method_31_code, 6, some .int)
abbrev d_Model_feed : Nat := 1
theorem jcm_Model_feed : Cond.code y_Model_feed.1 y_Model_feed.2.1 y_Model_feed.2.2.1 y_Model_feed.2.2.2 ∈ jTbl := jmt6 (List.mem_of_getElem? (i := 25) rfl) rfl
theorem mo_Model_feed : jMo y_Model_feed 5 := ⟨jcm_Model_feed, ji_10, ⟨by decide, by decide⟩, by decide +kernel⟩
theorem mv_Model_feed : Cond.instanceMethod y_Model_feed.1 ∈ jTbl ∧ Cond.selects y_Model_feed.1.cls y_Model_feed.1 y_Model_feed.1 ∈ jTbl := ⟨jmem 1324 (by decide +kernel) (by decide +kernel), jmem 1325 (by decide +kernel) (by decide +kernel)⟩
abbrev y_Model_end : jM := (⟨"CountTreatyModel", "end", "(I)I"⟩, prog_12_method_32_code, 2, some .int)
abbrev d_Model_end : Nat := 1
theorem jcm_Model_end : Cond.code y_Model_end.1 y_Model_end.2.1 y_Model_end.2.2.1 y_Model_end.2.2.2 ∈ jTbl := jmt6 (List.mem_of_getElem? (i := 33) rfl) rfl
theorem mo_Model_end : jMo y_Model_end 1 := ⟨jcm_Model_end, ji_10, ⟨by decide, by decide⟩, by decide +kernel⟩
theorem mv_Model_end : Cond.instanceMethod y_Model_end.1 ∈ jTbl ∧ Cond.selects y_Model_end.1.cls y_Model_end.1 y_Model_end.1 ∈ jTbl := ⟨jmem 1332 (by decide +kernel) (by decide +kernel), jmem 1333 (by decide +kernel) (by decide +kernel)⟩
abbrev y_Model_see : jM := (⟨"CountTreatyModel", "see", "(I)I"⟩, prog_12_method_33_code, 2, some .int)
abbrev d_Model_see : Nat := 0
theorem jcm_Model_see : Cond.code y_Model_see.1 y_Model_see.2.1 y_Model_see.2.2.1 y_Model_see.2.2.2 ∈ jTbl := jmt6 (List.mem_of_getElem? (i := 49) rfl) rfl
theorem mo_Model_see : jMo y_Model_see 1 := ⟨jcm_Model_see, ji_10, ⟨by decide, by decide⟩, by decide +kernel⟩
theorem mv_Model_see : Cond.instanceMethod y_Model_see.1 ∈ jTbl ∧ Cond.selects y_Model_see.1.cls y_Model_see.1 y_Model_see.1 ∈ jTbl := ⟨jmem 1349 (by decide +kernel) (by decide +kernel), jmem 57 (by decide +kernel) (by decide +kernel)⟩
abbrev y_Model_isLetter : jM := (⟨"CountTreatyModel", "isLetter", "(I)Z"⟩, prog_12_method_34_code, 1, some .boolean)
abbrev d_Model_isLetter : Nat := 1
theorem jcm_Model_isLetter : Cond.code y_Model_isLetter.1 y_Model_isLetter.2.1 y_Model_isLetter.2.2.1 y_Model_isLetter.2.2.2 ∈ jTbl := jmt6 (List.mem_of_getElem? (i := 56) rfl) rfl
theorem mo_Model_isLetter : jMo y_Model_isLetter 1 := ⟨jcm_Model_isLetter, ji_10, ⟨by decide, by decide⟩, by decide +kernel⟩
theorem ms_Model_isLetter : Cond.static y_Model_isLetter.1 ∈ jTbl := jmem 1356 (by decide +kernel) (by decide +kernel)
abbrev y_Model_isDigit : jM := (⟨"CountTreatyModel", "isDigit", "(I)Z"⟩, prog_12_method_35_code, 1, some .boolean)
abbrev d_Model_isDigit : Nat := 1
theorem jcm_Model_isDigit : Cond.code y_Model_isDigit.1 y_Model_isDigit.2.1 y_Model_isDigit.2.2.1 y_Model_isDigit.2.2.2 ∈ jTbl := jmt6 (List.mem_of_getElem? (i := 52) rfl) rfl
theorem mo_Model_isDigit : jMo y_Model_isDigit 1 := ⟨jcm_Model_isDigit, ji_10, ⟨by decide, by decide⟩, by decide +kernel⟩
theorem ms_Model_isDigit : Cond.static y_Model_isDigit.1 ∈ jTbl := jmem 1352 (by decide +kernel) (by decide +kernel)
abbrev y_Model_nextToken : jM := (⟨"CountTreatyModel", "nextToken", "()V"⟩, prog_12_method_36_code, 2, none)
abbrev d_Model_nextToken : Nat := 2
theorem jcm_Model_nextToken : Cond.code y_Model_nextToken.1 y_Model_nextToken.2.1 y_Model_nextToken.2.2.1 y_Model_nextToken.2.2.2 ∈ jTbl := jmt6 (List.mem_of_getElem? (i := 45) rfl) rfl
theorem mo_Model_nextToken : jMo y_Model_nextToken 0 := ⟨jcm_Model_nextToken, ji_10, ⟨by decide, by decide⟩, by decide +kernel⟩
theorem mv_Model_nextToken : Cond.instanceMethod y_Model_nextToken.1 ∈ jTbl ∧ Cond.selects y_Model_nextToken.1.cls y_Model_nextToken.1 y_Model_nextToken.1 ∈ jTbl := ⟨jmem 1345 (by decide +kernel) (by decide +kernel), jmem 56 (by decide +kernel) (by decide +kernel)⟩
abbrev y_Model_w3 : jM := (⟨"CountTreatyModel", "w3", "(III)J"⟩, prog_12_method_37_code, 3, some .long)
abbrev d_Model_w3 : Nat := 0
theorem jcm_Model_w3 : Cond.code y_Model_w3.1 y_Model_w3.2.1 y_Model_w3.2.2.1 y_Model_w3.2.2.2 ∈ jTbl := jmt6 (List.mem_of_getElem? (i := 76) rfl) rfl
theorem mo_Model_w3 : jMo y_Model_w3 3 := ⟨jcm_Model_w3, ji_10, ⟨by decide, by decide⟩, by decide +kernel⟩
theorem ms_Model_w3 : Cond.static y_Model_w3.1 ∈ jTbl := jmem 1376 (by decide +kernel) (by decide +kernel)
abbrev y_Model_w4 : jM := (⟨"CountTreatyModel", "w4", "(IIII)J"⟩, prog_12_method_38_code, 4, some .long)
abbrev d_Model_w4 : Nat := 1
theorem jcm_Model_w4 : Cond.code y_Model_w4.1 y_Model_w4.2.1 y_Model_w4.2.2.1 y_Model_w4.2.2.2 ∈ jTbl := jmt6 (List.mem_of_getElem? (i := 73) rfl) rfl
theorem mo_Model_w4 : jMo y_Model_w4 4 := ⟨jcm_Model_w4, ji_10, ⟨by decide, by decide⟩, by decide +kernel⟩
theorem ms_Model_w4 : Cond.static y_Model_w4.1 ∈ jTbl := jmem 1373 (by decide +kernel) (by decide +kernel)
abbrev y_Model_w5 : jM := (⟨"CountTreatyModel", "w5", "(IIIII)J"⟩, prog_12_method_39_code, 5, some .long)
abbrev d_Model_w5 : Nat := 2
theorem jcm_Model_w5 : Cond.code y_Model_w5.1 y_Model_w5.2.1 y_Model_w5.2.2.1 y_Model_w5.2.2.2 ∈ jTbl := jmt6 (List.mem_of_getElem? (i := 70) rfl) rfl
theorem mo_Model_w5 : jMo y_Model_w5 5 := ⟨jcm_Model_w5, ji_10, ⟨by decide, by decide⟩, by decide +kernel⟩
theorem ms_Model_w5 : Cond.static y_Model_w5.1 ∈ jTbl := jmem 1370 (by decide +kernel) (by decide +kernel)
abbrev y_Model_w6 : jM := (⟨"CountTreatyModel", "w6", "(IIIIII)J"⟩, prog_12_method_40_code, 6, some .long)
abbrev d_Model_w6 : Nat := 3
theorem jcm_Model_w6 : Cond.code y_Model_w6.1 y_Model_w6.2.1 y_Model_w6.2.2.1 y_Model_w6.2.2.2 ∈ jTbl := jmt6 (List.mem_of_getElem? (i := 67) rfl) rfl
theorem mo_Model_w6 : jMo y_Model_w6 6 := ⟨jcm_Model_w6, ji_10, ⟨by decide, by decide⟩, by decide +kernel⟩
theorem ms_Model_w6 : Cond.static y_Model_w6.1 ∈ jTbl := jmem 1367 (by decide +kernel) (by decide +kernel)
abbrev y_Model_isWord : jM := (⟨"CountTreatyModel", "isWord", "(J)Z"⟩, prog_12_method_41_code, 3, some .boolean)
abbrev d_Model_isWord : Nat := 0
theorem jcm_Model_isWord : Cond.code y_Model_isWord.1 y_Model_isWord.2.1 y_Model_isWord.2.2.1 y_Model_isWord.2.2.2 ∈ jTbl := jmt6 (List.mem_of_getElem? (i := 84) rfl) rfl
theorem mo_Model_isWord : jMo y_Model_isWord 1 := ⟨jcm_Model_isWord, ji_10, ⟨by decide, by decide⟩, by decide +kernel⟩
theorem mv_Model_isWord : Cond.instanceMethod y_Model_isWord.1 ∈ jTbl ∧ Cond.selects y_Model_isWord.1.cls y_Model_isWord.1 y_Model_isWord.1 ∈ jTbl := ⟨jmem 1384 (by decide +kernel) (by decide +kernel), jmem 61 (by decide +kernel) (by decide +kernel)⟩
abbrev y_Model_need : jM := (⟨"CountTreatyModel", "need", "(J)I"⟩, prog_12_method_42_code, 3, some .int)
abbrev d_Model_need : Nat := 3
theorem jcm_Model_need : Cond.code y_Model_need.1 y_Model_need.2.1 y_Model_need.2.2.1 y_Model_need.2.2.2 ∈ jTbl := jmt6 (List.mem_of_getElem? (i := 133) rfl) rfl
theorem mo_Model_need : jMo y_Model_need 1 := ⟨jcm_Model_need, ji_10, ⟨by decide, by decide⟩, by decide +kernel⟩
theorem mv_Model_need : Cond.instanceMethod y_Model_need.1 ∈ jTbl ∧ Cond.selects y_Model_need.1.cls y_Model_need.1 y_Model_need.1 ∈ jTbl := ⟨jmem 1433 (by decide +kernel) (by decide +kernel), jmem 73 (by decide +kernel) (by decide +kernel)⟩
abbrev y_Model_take : jM := (⟨"CountTreatyModel", "take", "(III)I"⟩, prog_12_method_43_code, 4, some .int)
abbrev d_Model_take : Nat := 3
theorem jcm_Model_take : Cond.code y_Model_take.1 y_Model_take.2.1 y_Model_take.2.2.1 y_Model_take.2.2.2 ∈ jTbl := jmt6 (List.mem_of_getElem? (i := 129) rfl) rfl
theorem mo_Model_take : jMo y_Model_take 3 := ⟨jcm_Model_take, ji_10, ⟨by decide, by decide⟩, by decide +kernel⟩
theorem mv_Model_take : Cond.instanceMethod y_Model_take.1 ∈ jTbl ∧ Cond.selects y_Model_take.1.cls y_Model_take.1 y_Model_take.1 ∈ jTbl := ⟨jmem 1429 (by decide +kernel) (by decide +kernel), jmem 72 (by decide +kernel) (by decide +kernel)⟩
abbrev y_Model_emit : jM := (⟨"CountTreatyModel", "emit", "(II)V"⟩, prog_12_method_44_code, 3, none)
abbrev d_Model_emit : Nat := 0
theorem jcm_Model_emit : Cond.code y_Model_emit.1 y_Model_emit.2.1 y_Model_emit.2.2.1 y_Model_emit.2.2.2 ∈ jTbl := jmt6 (List.mem_of_getElem? (i := 105) rfl) rfl
theorem mo_Model_emit : jMo y_Model_emit 2 := ⟨jcm_Model_emit, ji_10, ⟨by decide, by decide⟩, by decide +kernel⟩
theorem mv_Model_emit : Cond.instanceMethod y_Model_emit.1 ∈ jTbl ∧ Cond.selects y_Model_emit.1.cls y_Model_emit.1 y_Model_emit.1 ∈ jTbl := ⟨jmem 1405 (by decide +kernel) (by decide +kernel), jmem 66 (by decide +kernel) (by decide +kernel)⟩
abbrev y_Model_push : jM := (⟨"CountTreatyModel", "push", "(I)V"⟩, prog_12_method_45_code, 2, none)
abbrev d_Model_push : Nat := 0
theorem jcm_Model_push : Cond.code y_Model_push.1 y_Model_push.2.1 y_Model_push.2.2.1 y_Model_push.2.2.2 ∈ jTbl := jmt6 (List.mem_of_getElem? (i := 89) rfl) rfl
theorem mo_Model_push : jMo y_Model_push 1 := ⟨jcm_Model_push, ji_10, ⟨by decide, by decide⟩, by decide +kernel⟩
theorem mv_Model_push : Cond.instanceMethod y_Model_push.1 ∈ jTbl ∧ Cond.selects y_Model_push.1.cls y_Model_push.1 y_Model_push.1 ∈ jTbl := ⟨jmem 1389 (by decide +kernel) (by decide +kernel), jmem 62 (by decide +kernel) (by decide +kernel)⟩
abbrev y_Model_whole1 : jM := (⟨"CountTreatyModel", "whole", "()V"⟩, prog_12_method_46_code, 1, none)
abbrev d_Model_whole1 : Nat := 1
theorem jcm_Model_whole1 : Cond.code y_Model_whole1.1 y_Model_whole1.2.1 y_Model_whole1.2.2.1 y_Model_whole1.2.2.2 ∈ jTbl := jmt6 (List.mem_of_getElem? (i := 113) rfl) rfl
theorem mo_Model_whole1 : jMo y_Model_whole1 0 := ⟨jcm_Model_whole1, ji_10, ⟨by decide, by decide⟩, by decide +kernel⟩
theorem mv_Model_whole1 : Cond.instanceMethod y_Model_whole1.1 ∈ jTbl ∧ Cond.selects y_Model_whole1.1.cls y_Model_whole1.1 y_Model_whole1.1 ∈ jTbl := ⟨jmem 1413 (by decide +kernel) (by decide +kernel), jmem 68 (by decide +kernel) (by decide +kernel)⟩
abbrev y_Model_settle : jM := (⟨"CountTreatyModel", "settle", "(I)V"⟩, prog_12_method_47_code, 2, none)
abbrev d_Model_settle : Nat := 1
theorem jcm_Model_settle : Cond.code y_Model_settle.1 y_Model_settle.2.1 y_Model_settle.2.2.1 y_Model_settle.2.2.2 ∈ jTbl := jmt6 (List.mem_of_getElem? (i := 117) rfl) rfl
theorem mo_Model_settle : jMo y_Model_settle 1 := ⟨jcm_Model_settle, ji_10, ⟨by decide, by decide⟩, by decide +kernel⟩
theorem mv_Model_settle : Cond.instanceMethod y_Model_settle.1 ∈ jTbl ∧ Cond.selects y_Model_settle.1.cls y_Model_settle.1 y_Model_settle.1 ∈ jTbl := ⟨jmem 1417 (by decide +kernel) (by decide +kernel), jmem 69 (by decide +kernel) (by decide +kernel)⟩
abbrev y_Model_nameOf : jM := (⟨"CountTreatyModel", "nameOf", "()I"⟩, prog_12_method_48_code, 1, some .int)
abbrev d_Model_nameOf : Nat := 4
theorem jcm_Model_nameOf : Cond.code y_Model_nameOf.1 y_Model_nameOf.2.1 y_Model_nameOf.2.2.1 y_Model_nameOf.2.2.2 ∈ jTbl := jmt6 (List.mem_of_getElem? (i := 101) rfl) rfl
theorem mo_Model_nameOf : jMo y_Model_nameOf 0 := ⟨jcm_Model_nameOf, ji_10, ⟨by decide, by decide⟩, by decide +kernel⟩
theorem mv_Model_nameOf : Cond.instanceMethod y_Model_nameOf.1 ∈ jTbl ∧ Cond.selects y_Model_nameOf.1.cls y_Model_nameOf.1 y_Model_nameOf.1 ∈ jTbl := ⟨jmem 1401 (by decide +kernel) (by decide +kernel), jmem 65 (by decide +kernel) (by decide +kernel)⟩
abbrev y_Model_one : jM := (⟨"CountTreatyModel", "one", "()I"⟩, prog_12_method_49_code, 1, some .int)
abbrev d_Model_one : Nat := 5
theorem jcm_Model_one : Cond.code y_Model_one.1 y_Model_one.2.1 y_Model_one.2.2.1 y_Model_one.2.2.2 ∈ jTbl := jmt6 (List.mem_of_getElem? (i := 97) rfl) rfl
theorem mo_Model_one : jMo y_Model_one 0 := ⟨jcm_Model_one, ji_10, ⟨by decide, by decide⟩, by decide +kernel⟩
theorem mv_Model_one : Cond.instanceMethod y_Model_one.1 ∈ jTbl ∧ Cond.selects y_Model_one.1.cls y_Model_one.1 y_Model_one.1 ∈ jTbl := ⟨jmem 1397 (by decide +kernel) (by decide +kernel), jmem 64 (by decide +kernel) (by decide +kernel)⟩
abbrev y_Model_compareOf : jM := (⟨"CountTreatyModel", "compareOf", "()I"⟩, prog_12_method_50_code, 1, some .int)
abbrev d_Model_compareOf : Nat := 0
theorem jcm_Model_compareOf : Cond.code y_Model_compareOf.1 y_Model_compareOf.2.1 y_Model_compareOf.2.2.1 y_Model_compareOf.2.2.2 ∈ jTbl := jmt6 (List.mem_of_getElem? (i := 109) rfl) rfl
theorem mo_Model_compareOf : jMo y_Model_compareOf 0 := ⟨jcm_Model_compareOf, ji_10, ⟨by decide, by decide⟩, by decide +kernel⟩
theorem mv_Model_compareOf : Cond.instanceMethod y_Model_compareOf.1 ∈ jTbl ∧ Cond.selects y_Model_compareOf.1.cls y_Model_compareOf.1 y_Model_compareOf.1 ∈ jTbl := ⟨jmem 1409 (by decide +kernel) (by decide +kernel), jmem 67 (by decide +kernel) (by decide +kernel)⟩
abbrev y_Model_compare : jM := (⟨"CountTreatyModel", "compare", "()I"⟩, prog_12_method_51_code, 3, some .int)
abbrev d_Model_compare : Nat := 6
theorem jcm_Model_compare : Cond.code y_Model_compare.1 y_Model_compare.2.1 y_Model_compare.2.2.1 y_Model_compare.2.2.2 ∈ jTbl := jmt6 (List.mem_of_getElem? (i := 93) rfl) rfl
theorem mo_Model_compare : jMo y_Model_compare 0 := ⟨jcm_Model_compare, ji_10, ⟨by decide, by decide⟩, by decide +kernel⟩
theorem mv_Model_compare : Cond.instanceMethod y_Model_compare.1 ∈ jTbl ∧ Cond.selects y_Model_compare.1.cls y_Model_compare.1 y_Model_compare.1 ∈ jTbl := ⟨jmem 1393 (by decide +kernel) (by decide +kernel), jmem 63 (by decide +kernel) (by decide +kernel)⟩
abbrev y_Model_hasParen : jM := (⟨"CountTreatyModel", "hasParen", "()Z"⟩, prog_12_method_52_code, 2, some .boolean)
abbrev d_Model_hasParen : Nat := 0
theorem jcm_Model_hasParen : Cond.code y_Model_hasParen.1 y_Model_hasParen.2.1 y_Model_hasParen.2.2.1 y_Model_hasParen.2.2.2 ∈ jTbl := jmt6 (List.mem_of_getElem? (i := 121) rfl) rfl
theorem mo_Model_hasParen : jMo y_Model_hasParen 0 := ⟨jcm_Model_hasParen, ji_10, ⟨by decide, by decide⟩, by decide +kernel⟩
theorem mv_Model_hasParen : Cond.instanceMethod y_Model_hasParen.1 ∈ jTbl ∧ Cond.selects y_Model_hasParen.1.cls y_Model_hasParen.1 y_Model_hasParen.1 ∈ jTbl := ⟨jmem 1421 (by decide +kernel) (by decide +kernel), jmem 70 (by decide +kernel) (by decide +kernel)⟩
abbrev y_Model_either : jM := (⟨"CountTreatyModel", "either", "()I"⟩, prog_12_method_53_code, 7, some .int)
abbrev d_Model_either : Nat := 7
theorem jcm_Model_either : Cond.code y_Model_either.1 y_Model_either.2.1 y_Model_either.2.2.1 y_Model_either.2.2.2 ∈ jTbl := jmt6 (List.mem_of_getElem? (i := 80) rfl) rfl
theorem mo_Model_either : jMo y_Model_either 0 := ⟨jcm_Model_either, ji_10, ⟨by decide, by decide⟩, by decide +kernel⟩
theorem mv_Model_either : Cond.instanceMethod y_Model_either.1 ∈ jTbl ∧ Cond.selects y_Model_either.1.cls y_Model_either.1 y_Model_either.1 ∈ jTbl := ⟨jmem 1380 (by decide +kernel) (by decide +kernel), jmem 60 (by decide +kernel) (by decide +kernel)⟩
abbrev y_Model_sortOf : jM := (⟨"CountTreatyModel", "sortOf", "()I"⟩, prog_12_method_54_code, 1, some .int)
abbrev d_Model_sortOf : Nat := 4
theorem jcm_Model_sortOf : Cond.code y_Model_sortOf.1 y_Model_sortOf.2.1 y_Model_sortOf.2.2.1 y_Model_sortOf.2.2.2 ∈ jTbl := jmt6 (List.mem_of_getElem? (i := 64) rfl) rfl
theorem mo_Model_sortOf : jMo y_Model_sortOf 0 := ⟨jcm_Model_sortOf, ji_10, ⟨by decide, by decide⟩, by decide +kernel⟩
theorem mv_Model_sortOf : Cond.instanceMethod y_Model_sortOf.1 ∈ jTbl ∧ Cond.selects y_Model_sortOf.1.cls y_Model_sortOf.1 y_Model_sortOf.1 ∈ jTbl := ⟨jmem 1364 (by decide +kernel) (by decide +kernel), jmem 59 (by decide +kernel) (by decide +kernel)⟩
abbrev y_Model_limit : jM := (⟨"CountTreatyModel", "limit", "(I)I"⟩, prog_12_method_55_code, 3, some .int)
abbrev d_Model_limit : Nat := 4
theorem jcm_Model_limit : Cond.code y_Model_limit.1 y_Model_limit.2.1 y_Model_limit.2.2.1 y_Model_limit.2.2.2 ∈ jTbl := jmt6 (List.mem_of_getElem? (i := 125) rfl) rfl
theorem mo_Model_limit : jMo y_Model_limit 1 := ⟨jcm_Model_limit, ji_10, ⟨by decide, by decide⟩, by decide +kernel⟩
theorem mv_Model_limit : Cond.instanceMethod y_Model_limit.1 ∈ jTbl ∧ Cond.selects y_Model_limit.1.cls y_Model_limit.1 y_Model_limit.1 ∈ jTbl := ⟨jmem 1425 (by decide +kernel) (by decide +kernel), jmem 71 (by decide +kernel) (by decide +kernel)⟩
abbrev y_Model_stepping : jM := (⟨"CountTreatyModel", "stepping", "(I)I"⟩, prog_12_method_56_code, 3, some .int)
abbrev d_Model_stepping : Nat := 4
theorem jcm_Model_stepping : Cond.code y_Model_stepping.1 y_Model_stepping.2.1 y_Model_stepping.2.2.1 y_Model_stepping.2.2.2 ∈ jTbl := jmt6 (List.mem_of_getElem? (i := 138) rfl) rfl
theorem mo_Model_stepping : jMo y_Model_stepping 1 := ⟨jcm_Model_stepping, ji_10, ⟨by decide, by decide⟩, by decide +kernel⟩
theorem mv_Model_stepping : Cond.instanceMethod y_Model_stepping.1 ∈ jTbl ∧ Cond.selects y_Model_stepping.1.cls y_Model_stepping.1 y_Model_stepping.1 ∈ jTbl := ⟨jmem 1438 (by decide +kernel) (by decide +kernel), jmem 74 (by decide +kernel) (by decide +kernel)⟩
abbrev y_Model_clause : jM := (⟨"CountTreatyModel", "clause", "()I"⟩, prog_12_method_57_code, 4, some .int)
abbrev d_Model_clause : Nat := 8
theorem jcm_Model_clause : Cond.code y_Model_clause.1 y_Model_clause.2.1 y_Model_clause.2.2.1 y_Model_clause.2.2.2 ∈ jTbl := jmt6 (List.mem_of_getElem? (i := 60) rfl) rfl
theorem mo_Model_clause : jMo y_Model_clause 0 := ⟨jcm_Model_clause, ji_10, ⟨by decide, by decide⟩, by decide +kernel⟩
theorem mv_Model_clause : Cond.instanceMethod y_Model_clause.1 ∈ jTbl ∧ Cond.selects y_Model_clause.1.cls y_Model_clause.1 y_Model_clause.1 ∈ jTbl := ⟨jmem 1360 (by decide +kernel) (by decide +kernel), jmem 58 (by decide +kernel) (by decide +kernel)⟩
abbrev y_Model_readText : jM := (⟨"CountTreatyModel", "readText", "()I"⟩, prog_12_method_58_code, 2, some .int)
abbrev d_Model_readText : Nat := 9
theorem jcm_Model_readText : Cond.code y_Model_readText.1 y_Model_readText.2.1 y_Model_readText.2.2.1 y_Model_readText.2.2.2 ∈ jTbl := jmt6 (List.mem_of_getElem? (i := 41) rfl) rfl
theorem mo_Model_readText : jMo y_Model_readText 0 := ⟨jcm_Model_readText, ji_10, ⟨by decide, by decide⟩, by decide +kernel⟩
theorem mv_Model_readText : Cond.instanceMethod y_Model_readText.1 ∈ jTbl ∧ Cond.selects y_Model_readText.1.cls y_Model_readText.1 y_Model_readText.1 ∈ jTbl := ⟨jmem 1341 (by decide +kernel) (by decide +kernel), jmem 55 (by decide +kernel) (by decide +kernel)⟩
abbrev y_Model_text : jM := (⟨"CountTreatyModel", "text", "(I)I"⟩, prog_12_method_59_code, 2, some .int)
abbrev d_Model_text : Nat := 10
theorem jcm_Model_text : Cond.code y_Model_text.1 y_Model_text.2.1 y_Model_text.2.2.1 y_Model_text.2.2.2 ∈ jTbl := jmt6 (List.mem_of_getElem? (i := 37) rfl) rfl
theorem mo_Model_text : jMo y_Model_text 1 := ⟨jcm_Model_text, ji_10, ⟨by decide, by decide⟩, by decide +kernel⟩
theorem mv_Model_text : Cond.instanceMethod y_Model_text.1 ∈ jTbl ∧ Cond.selects y_Model_text.1.cls y_Model_text.1 y_Model_text.1 ∈ jTbl := ⟨jmem 1336 (by decide +kernel) (by decide +kernel), jmem 1337 (by decide +kernel) (by decide +kernel)⟩
abbrev y_Model_fault : jM := (⟨"CountTreatyModel", "fault", "(I)I"⟩, prog_12_method_60_code, 2, some .int)
abbrev d_Model_fault : Nat := 0
theorem jcm_Model_fault : Cond.code y_Model_fault.1 y_Model_fault.2.1 y_Model_fault.2.2.1 y_Model_fault.2.2.2 ∈ jTbl := jmt6 (List.mem_of_getElem? (i := 142) rfl) rfl
theorem mo_Model_fault : jMo y_Model_fault 1 := ⟨jcm_Model_fault, ji_10, ⟨by decide, by decide⟩, by decide +kernel⟩
theorem mv_Model_fault : Cond.instanceMethod y_Model_fault.1 ∈ jTbl ∧ Cond.selects y_Model_fault.1.cls y_Model_fault.1 y_Model_fault.1 ∈ jTbl := ⟨jmem 1441 (by decide +kernel) (by decide +kernel), jmem 1442 (by decide +kernel) (by decide +kernel)⟩
abbrev y_Model_says : jM := (⟨"CountTreatyModel", "says", "(II)I"⟩, prog_12_method_68_code, 3, some .int)
abbrev d_Model_says : Nat := 5
theorem jcm_Model_says : Cond.code y_Model_says.1 y_Model_says.2.1 y_Model_says.2.2.1 y_Model_says.2.2.2 ∈ jTbl := jmt6 (List.mem_of_getElem? (i := 146) rfl) rfl
theorem mo_Model_says : jMo y_Model_says 2 := ⟨jcm_Model_says, ji_10, ⟨by decide, by decide⟩, by decide +kernel⟩
theorem mv_Model_says : Cond.instanceMethod y_Model_says.1 ∈ jTbl ∧ Cond.selects y_Model_says.1.cls y_Model_says.1 y_Model_says.1 ∈ jTbl := ⟨jmem 1445 (by decide +kernel) (by decide +kernel), jmem 1446 (by decide +kernel) (by decide +kernel)⟩
abbrev y_Model_isAsked : jM := (⟨"CountTreatyModel", "isAsked", "(III)Z"⟩, prog_12_method_69_code, 3, some .boolean)
abbrev d_Model_isAsked : Nat := 0
theorem jcm_Model_isAsked : Cond.code y_Model_isAsked.1 y_Model_isAsked.2.1 y_Model_isAsked.2.2.1 y_Model_isAsked.2.2.2 ∈ jTbl := jmt6 (List.mem_of_getElem? (i := 169) rfl) rfl
theorem mo_Model_isAsked : jMo y_Model_isAsked 3 := ⟨jcm_Model_isAsked, ji_10, ⟨by decide, by decide⟩, by decide +kernel⟩
theorem ms_Model_isAsked : Cond.static y_Model_isAsked.1 ∈ jTbl := jmem 1469 (by decide +kernel) (by decide +kernel)
abbrev y_Model_named : jM := (⟨"CountTreatyModel", "named", "(III)I"⟩, prog_12_method_70_code, 4, some .int)
abbrev d_Model_named : Nat := 1
theorem jcm_Model_named : Cond.code y_Model_named.1 y_Model_named.2.1 y_Model_named.2.2.1 y_Model_named.2.2.2 ∈ jTbl := jmt6 (List.mem_of_getElem? (i := 166) rfl) rfl
theorem mo_Model_named : jMo y_Model_named 3 := ⟨jcm_Model_named, ji_10, ⟨by decide, by decide⟩, by decide +kernel⟩
theorem mv_Model_named : Cond.instanceMethod y_Model_named.1 ∈ jTbl ∧ Cond.selects y_Model_named.1.cls y_Model_named.1 y_Model_named.1 ∈ jTbl := ⟨jmem 1466 (by decide +kernel) (by decide +kernel), jmem 78 (by decide +kernel) (by decide +kernel)⟩
abbrev y_Model_isSo : jM := (⟨"CountTreatyModel", "isSo", "(IIII)Z"⟩, prog_12_method_71_code, 10, some .boolean)
abbrev d_Model_isSo : Nat := 2
theorem jcm_Model_isSo : Cond.code y_Model_isSo.1 y_Model_isSo.2.1 y_Model_isSo.2.2.1 y_Model_isSo.2.2.2 ∈ jTbl := jmt6 (List.mem_of_getElem? (i := 162) rfl) rfl
theorem mo_Model_isSo : jMo y_Model_isSo 4 := ⟨jcm_Model_isSo, ji_10, ⟨by decide, by decide⟩, by decide +kernel⟩
theorem mv_Model_isSo : Cond.instanceMethod y_Model_isSo.1 ∈ jTbl ∧ Cond.selects y_Model_isSo.1.cls y_Model_isSo.1 y_Model_isSo.1 ∈ jTbl := ⟨jmem 1462 (by decide +kernel) (by decide +kernel), jmem 77 (by decide +kernel) (by decide +kernel)⟩
abbrev y_Model_isOne : jM := (⟨"CountTreatyModel", "isOne", "(IIIIZ)Z"⟩, prog_12_method_72_code, 8, some .boolean)
abbrev d_Model_isOne : Nat := 3
theorem jcm_Model_isOne : Cond.code y_Model_isOne.1 y_Model_isOne.2.1 y_Model_isOne.2.2.1 y_Model_isOne.2.2.2 ∈ jTbl := jmt6 (List.mem_of_getElem? (i := 158) rfl) rfl
theorem mo_Model_isOne : jMo y_Model_isOne 5 := ⟨jcm_Model_isOne, ji_10, ⟨by decide, by decide⟩, by decide +kernel⟩
theorem mv_Model_isOne : Cond.instanceMethod y_Model_isOne.1 ∈ jTbl ∧ Cond.selects y_Model_isOne.1.cls y_Model_isOne.1 y_Model_isOne.1 ∈ jTbl := ⟨jmem 1458 (by decide +kernel) (by decide +kernel), jmem 76 (by decide +kernel) (by decide +kernel)⟩
abbrev y_Model_classOf : jM := (⟨"CountTreatyModel", "classOf", "(I)I"⟩, prog_12_method_73_code, 2, some .int)
abbrev d_Model_classOf : Nat := 1
theorem jcm_Model_classOf : Cond.code y_Model_classOf.1 y_Model_classOf.2.1 y_Model_classOf.2.2.1 y_Model_classOf.2.2.2 ∈ jTbl := jmt6 (List.mem_of_getElem? (i := 154) rfl) rfl
theorem mo_Model_classOf : jMo y_Model_classOf 1 := ⟨jcm_Model_classOf, ji_10, ⟨by decide, by decide⟩, by decide +kernel⟩
theorem mv_Model_classOf : Cond.instanceMethod y_Model_classOf.1 ∈ jTbl ∧ Cond.selects y_Model_classOf.1.cls y_Model_classOf.1 y_Model_classOf.1 ∈ jTbl := ⟨jmem 1454 (by decide +kernel) (by decide +kernel), jmem 75 (by decide +kernel) (by decide +kernel)⟩
abbrev y_Model_counts : jM := (⟨"CountTreatyModel", "counts", "(III)I"⟩, prog_12_method_74_code, 4, some .int)
abbrev d_Model_counts : Nat := 4
theorem jcm_Model_counts : Cond.code y_Model_counts.1 y_Model_counts.2.1 y_Model_counts.2.2.1 y_Model_counts.2.2.2 ∈ jTbl := jmt6 (List.mem_of_getElem? (i := 150) rfl) rfl
theorem mo_Model_counts : jMo y_Model_counts 3 := ⟨jcm_Model_counts, ji_10, ⟨by decide, by decide⟩, by decide +kernel⟩
theorem mv_Model_counts : Cond.instanceMethod y_Model_counts.1 ∈ jTbl ∧ Cond.selects y_Model_counts.1.cls y_Model_counts.1 y_Model_counts.1 ∈ jTbl := ⟨jmem 1449 (by decide +kernel) (by decide +kernel), jmem 1450 (by decide +kernel) (by decide +kernel)⟩
abbrev y_Model_countedOf : jM := (⟨"CountTreatyModel", "countedOf", "(II)I"⟩, prog_12_method_75_code, 6, some .int)
abbrev d_Model_countedOf : Nat := 4
theorem jcm_Model_countedOf : Cond.code y_Model_countedOf.1 y_Model_countedOf.2.1 y_Model_countedOf.2.2.1 y_Model_countedOf.2.2.2 ∈ jTbl := jmt6 (List.mem_of_getElem? (i := 177) rfl) rfl
theorem mo_Model_countedOf : jMo y_Model_countedOf 2 := ⟨jcm_Model_countedOf, ji_10, ⟨by decide, by decide⟩, by decide +kernel⟩
theorem mv_Model_countedOf : Cond.instanceMethod y_Model_countedOf.1 ∈ jTbl ∧ Cond.selects y_Model_countedOf.1.cls y_Model_countedOf.1 y_Model_countedOf.1 ∈ jTbl := ⟨jmem 1477 (by decide +kernel) (by decide +kernel), jmem 79 (by decide +kernel) (by decide +kernel)⟩
abbrev y_Model_counted : jM := (⟨"CountTreatyModel", "counted", "(II)I"⟩, prog_12_method_76_code, 3, some .int)
abbrev d_Model_counted : Nat := 5
theorem jcm_Model_counted : Cond.code y_Model_counted.1 y_Model_counted.2.1 y_Model_counted.2.2.1 y_Model_counted.2.2.2 ∈ jTbl := jmt6 (List.mem_of_getElem? (i := 173) rfl) rfl
theorem mo_Model_counted : jMo y_Model_counted 2 := ⟨jcm_Model_counted, ji_10, ⟨by decide, by decide⟩, by decide +kernel⟩
theorem mv_Model_counted : Cond.instanceMethod y_Model_counted.1 ∈ jTbl ∧ Cond.selects y_Model_counted.1.cls y_Model_counted.1 y_Model_counted.1 ∈ jTbl := ⟨jmem 1472 (by decide +kernel) (by decide +kernel), jmem 1473 (by decide +kernel) (by decide +kernel)⟩
abbrev y_Model_tell : jM := (⟨"CountTreatyModel", "tell", "(III)I"⟩, prog_12_method_77_code, 5, some .int)
abbrev d_Model_tell : Nat := 2
theorem jcm_Model_tell : Cond.code y_Model_tell.1 y_Model_tell.2.1 y_Model_tell.2.2.1 y_Model_tell.2.2.2 ∈ jTbl := jmt6 (List.mem_of_getElem? (i := 181) rfl) rfl
theorem mo_Model_tell : jMo y_Model_tell 3 := ⟨jcm_Model_tell, ji_10, ⟨by decide, by decide⟩, by decide +kernel⟩
theorem mv_Model_tell : Cond.instanceMethod y_Model_tell.1 ∈ jTbl ∧ Cond.selects y_Model_tell.1.cls y_Model_tell.1 y_Model_tell.1 ∈ jTbl := ⟨jmem 1480 (by decide +kernel) (by decide +kernel), jmem 1481 (by decide +kernel) (by decide +kernel)⟩
abbrev y_Model_toldOf : jM := (⟨"CountTreatyModel", "toldOf", "(III)I"⟩, prog_12_method_78_code, 7, some .int)
abbrev d_Model_toldOf : Nat := 0
theorem jcm_Model_toldOf : Cond.code y_Model_toldOf.1 y_Model_toldOf.2.1 y_Model_toldOf.2.2.1 y_Model_toldOf.2.2.2 ∈ jTbl := jmt6 (List.mem_of_getElem? (i := 189) rfl) rfl
theorem mo_Model_toldOf : jMo y_Model_toldOf 3 := ⟨jcm_Model_toldOf, ji_10, ⟨by decide, by decide⟩, by decide +kernel⟩
theorem mv_Model_toldOf : Cond.instanceMethod y_Model_toldOf.1 ∈ jTbl ∧ Cond.selects y_Model_toldOf.1.cls y_Model_toldOf.1 y_Model_toldOf.1 ∈ jTbl := ⟨jmem 1489 (by decide +kernel) (by decide +kernel), jmem 80 (by decide +kernel) (by decide +kernel)⟩
abbrev y_Model_told : jM := (⟨"CountTreatyModel", "told", "(III)I"⟩, prog_12_method_79_code, 4, some .int)
abbrev d_Model_told : Nat := 2
theorem jcm_Model_told : Cond.code y_Model_told.1 y_Model_told.2.1 y_Model_told.2.2.1 y_Model_told.2.2.2 ∈ jTbl := jmt6 (List.mem_of_getElem? (i := 185) rfl) rfl
theorem mo_Model_told : jMo y_Model_told 3 := ⟨jcm_Model_told, ji_10, ⟨by decide, by decide⟩, by decide +kernel⟩
theorem mv_Model_told : Cond.instanceMethod y_Model_told.1 ∈ jTbl ∧ Cond.selects y_Model_told.1.cls y_Model_told.1 y_Model_told.1 ∈ jTbl := ⟨jmem 1484 (by decide +kernel) (by decide +kernel), jmem 1485 (by decide +kernel) (by decide +kernel)⟩
abbrev y_Model_toldThere : jM := (⟨"CountTreatyModel", "toldThere", "(IIII)I"⟩, prog_12_method_80_code, 7, some .int)
abbrev d_Model_toldThere : Nat := 1
theorem jcm_Model_toldThere : Cond.code y_Model_toldThere.1 y_Model_toldThere.2.1 y_Model_toldThere.2.2.1 y_Model_toldThere.2.2.2 ∈ jTbl := jmt6 (List.mem_of_getElem? (i := 197) rfl) rfl
theorem mo_Model_toldThere : jMo y_Model_toldThere 4 := ⟨jcm_Model_toldThere, ji_10, ⟨by decide, by decide⟩, by decide +kernel⟩
theorem mv_Model_toldThere : Cond.instanceMethod y_Model_toldThere.1 ∈ jTbl ∧ Cond.selects y_Model_toldThere.1.cls y_Model_toldThere.1 y_Model_toldThere.1 ∈ jTbl := ⟨jmem 1497 (by decide +kernel) (by decide +kernel), jmem 81 (by decide +kernel) (by decide +kernel)⟩
abbrev y_Model_toldAt : jM := (⟨"CountTreatyModel", "toldAt", "(IIII)I"⟩, prog_12_method_81_code, 5, some .int)
abbrev d_Model_toldAt : Nat := 2
theorem jcm_Model_toldAt : Cond.code y_Model_toldAt.1 y_Model_toldAt.2.1 y_Model_toldAt.2.2.1 y_Model_toldAt.2.2.2 ∈ jTbl := jmt6 (List.mem_of_getElem? (i := 193) rfl) rfl
theorem mo_Model_toldAt : jMo y_Model_toldAt 4 := ⟨jcm_Model_toldAt, ji_10, ⟨by decide, by decide⟩, by decide +kernel⟩
theorem mv_Model_toldAt : Cond.instanceMethod y_Model_toldAt.1 ∈ jTbl ∧ Cond.selects y_Model_toldAt.1.cls y_Model_toldAt.1 y_Model_toldAt.1 ∈ jTbl := ⟨jmem 1492 (by decide +kernel) (by decide +kernel), jmem 1493 (by decide +kernel) (by decide +kernel)⟩
abbrev y_Model_visit : jM := (⟨"CountTreatyModel", "visit", "(II)I"⟩, prog_12_method_82_code, 7, some .int)
abbrev d_Model_visit : Nat := 4
theorem jcm_Model_visit : Cond.code y_Model_visit.1 y_Model_visit.2.1 y_Model_visit.2.2.1 y_Model_visit.2.2.2 ∈ jTbl := jmt6 (List.mem_of_getElem? (i := 201) rfl) rfl
theorem mo_Model_visit : jMo y_Model_visit 2 := ⟨jcm_Model_visit, ji_10, ⟨by decide, by decide⟩, by decide +kernel⟩
theorem mv_Model_visit : Cond.instanceMethod y_Model_visit.1 ∈ jTbl ∧ Cond.selects y_Model_visit.1.cls y_Model_visit.1 y_Model_visit.1 ∈ jTbl := ⟨jmem 1500 (by decide +kernel) (by decide +kernel), jmem 1501 (by decide +kernel) (by decide +kernel)⟩
abbrev y_Model_saw : jM := (⟨"CountTreatyModel", "saw", "(II)I"⟩, prog_12_method_83_code, 4, some .int)
abbrev d_Model_saw : Nat := 1
theorem jcm_Model_saw : Cond.code y_Model_saw.1 y_Model_saw.2.1 y_Model_saw.2.2.1 y_Model_saw.2.2.2 ∈ jTbl := jmt6 (List.mem_of_getElem? (i := 205) rfl) rfl
theorem mo_Model_saw : jMo y_Model_saw 2 := ⟨jcm_Model_saw, ji_10, ⟨by decide, by decide⟩, by decide +kernel⟩
theorem mv_Model_saw : Cond.instanceMethod y_Model_saw.1 ∈ jTbl ∧ Cond.selects y_Model_saw.1.cls y_Model_saw.1 y_Model_saw.1 ∈ jTbl := ⟨jmem 1504 (by decide +kernel) (by decide +kernel), jmem 1505 (by decide +kernel) (by decide +kernel)⟩
abbrev y_Model_isCloudy : jM := (⟨"CountTreatyModel", "isCloudy", "(II)Z"⟩, prog_12_method_84_code, 4, some .boolean)
abbrev d_Model_isCloudy : Nat := 0
theorem jcm_Model_isCloudy : Cond.code y_Model_isCloudy.1 y_Model_isCloudy.2.1 y_Model_isCloudy.2.2.1 y_Model_isCloudy.2.2.2 ∈ jTbl := jmt6 (List.mem_of_getElem? (i := 213) rfl) rfl
theorem mo_Model_isCloudy : jMo y_Model_isCloudy 2 := ⟨jcm_Model_isCloudy, ji_10, ⟨by decide, by decide⟩, by decide +kernel⟩
theorem mv_Model_isCloudy : Cond.instanceMethod y_Model_isCloudy.1 ∈ jTbl ∧ Cond.selects y_Model_isCloudy.1.cls y_Model_isCloudy.1 y_Model_isCloudy.1 ∈ jTbl := ⟨jmem 1513 (by decide +kernel) (by decide +kernel), jmem 82 (by decide +kernel) (by decide +kernel)⟩
abbrev y_Model_cloud : jM := (⟨"CountTreatyModel", "cloud", "(II)I"⟩, prog_12_method_85_code, 3, some .int)
abbrev d_Model_cloud : Nat := 2
theorem jcm_Model_cloud : Cond.code y_Model_cloud.1 y_Model_cloud.2.1 y_Model_cloud.2.2.1 y_Model_cloud.2.2.2 ∈ jTbl := jmt6 (List.mem_of_getElem? (i := 209) rfl) rfl
theorem mo_Model_cloud : jMo y_Model_cloud 2 := ⟨jcm_Model_cloud, ji_10, ⟨by decide, by decide⟩, by decide +kernel⟩
theorem mv_Model_cloud : Cond.instanceMethod y_Model_cloud.1 ∈ jTbl ∧ Cond.selects y_Model_cloud.1.cls y_Model_cloud.1 y_Model_cloud.1 ∈ jTbl := ⟨jmem 1508 (by decide +kernel) (by decide +kernel), jmem 1509 (by decide +kernel) (by decide +kernel)⟩
abbrev y_Model_picture : jM := (⟨"CountTreatyModel", "picture", "(I)I"⟩, prog_12_method_86_code, 4, some .int)
abbrev d_Model_picture : Nat := 2
theorem jcm_Model_picture : Cond.code y_Model_picture.1 y_Model_picture.2.1 y_Model_picture.2.2.1 y_Model_picture.2.2.2 ∈ jTbl := jmt6 (List.mem_of_getElem? (i := 217) rfl) rfl
theorem mo_Model_picture : jMo y_Model_picture 1 := ⟨jcm_Model_picture, ji_10, ⟨by decide, by decide⟩, by decide +kernel⟩
theorem mv_Model_picture : Cond.instanceMethod y_Model_picture.1 ∈ jTbl ∧ Cond.selects y_Model_picture.1.cls y_Model_picture.1 y_Model_picture.1 ∈ jTbl := ⟨jmem 1516 (by decide +kernel) (by decide +kernel), jmem 1517 (by decide +kernel) (by decide +kernel)⟩
abbrev y_Model_fits : jM := (⟨"CountTreatyModel", "fits", "(II)Z"⟩, prog_12_method_87_code, 6, some .boolean)
abbrev d_Model_fits : Nat := 1
theorem jcm_Model_fits : Cond.code y_Model_fits.1 y_Model_fits.2.1 y_Model_fits.2.2.1 y_Model_fits.2.2.2 ∈ jTbl := jmt7 (List.mem_of_getElem? (i := 6) rfl) rfl
theorem mo_Model_fits : jMo y_Model_fits 2 := ⟨jcm_Model_fits, ji_10, ⟨by decide, by decide⟩, by decide +kernel⟩
theorem mv_Model_fits : Cond.instanceMethod y_Model_fits.1 ∈ jTbl ∧ Cond.selects y_Model_fits.1.cls y_Model_fits.1 y_Model_fits.1 ∈ jTbl := ⟨jmem 1546 (by decide +kernel) (by decide +kernel), jmem 88 (by decide +kernel) (by decide +kernel)⟩
abbrev y_Model_isQuiet : jM := (⟨"CountTreatyModel", "isQuiet", "(III)Z"⟩, prog_12_method_88_code, 6, some .boolean)
abbrev d_Model_isQuiet : Nat := 1
theorem jcm_Model_isQuiet : Cond.code y_Model_isQuiet.1 y_Model_isQuiet.2.1 y_Model_isQuiet.2.2.1 y_Model_isQuiet.2.2.2 ∈ jTbl := jmt6 (List.mem_of_getElem? (i := 234) rfl) rfl
theorem mo_Model_isQuiet : jMo y_Model_isQuiet 3 := ⟨jcm_Model_isQuiet, ji_10, ⟨by decide, by decide⟩, by decide +kernel⟩
theorem mv_Model_isQuiet : Cond.instanceMethod y_Model_isQuiet.1 ∈ jTbl ∧ Cond.selects y_Model_isQuiet.1.cls y_Model_isQuiet.1 y_Model_isQuiet.1 ∈ jTbl := ⟨jmem 1534 (by decide +kernel) (by decide +kernel), jmem 85 (by decide +kernel) (by decide +kernel)⟩
abbrev y_Model_shifted : jM := (⟨"CountTreatyModel", "shifted", "(JIIZ)J"⟩, prog_12_method_89_code, 10, some .long)
abbrev d_Model_shifted : Nat := 2
theorem jcm_Model_shifted : Cond.code y_Model_shifted.1 y_Model_shifted.2.1 y_Model_shifted.2.2.1 y_Model_shifted.2.2.2 ∈ jTbl := jmt7 (List.mem_of_getElem? (i := 2) rfl) rfl
theorem mo_Model_shifted : jMo y_Model_shifted 4 := ⟨jcm_Model_shifted, ji_10, ⟨by decide, by decide⟩, by decide +kernel⟩
theorem mv_Model_shifted : Cond.instanceMethod y_Model_shifted.1 ∈ jTbl ∧ Cond.selects y_Model_shifted.1.cls y_Model_shifted.1 y_Model_shifted.1 ∈ jTbl := ⟨jmem 1542 (by decide +kernel) (by decide +kernel), jmem 87 (by decide +kernel) (by decide +kernel)⟩
abbrev y_Model_recorded : jM := (⟨"CountTreatyModel", "recorded", "(JIII)J"⟩, prog_12_method_90_code, 9, some .long)
abbrev d_Model_recorded : Nat := 3
theorem jcm_Model_recorded : Cond.code y_Model_recorded.1 y_Model_recorded.2.1 y_Model_recorded.2.2.1 y_Model_recorded.2.2.2 ∈ jTbl := jmt6 (List.mem_of_getElem? (i := 238) rfl) rfl
theorem mo_Model_recorded : jMo y_Model_recorded 4 := ⟨jcm_Model_recorded, ji_10, ⟨by decide, by decide⟩, by decide +kernel⟩
theorem mv_Model_recorded : Cond.instanceMethod y_Model_recorded.1 ∈ jTbl ∧ Cond.selects y_Model_recorded.1.cls y_Model_recorded.1 y_Model_recorded.1 ∈ jTbl := ⟨jmem 1538 (by decide +kernel) (by decide +kernel), jmem 86 (by decide +kernel) (by decide +kernel)⟩
abbrev y_Model_span : jM := (⟨"CountTreatyModel", "span", "(II)J"⟩, prog_12_method_91_code, 2, some .long)
abbrev d_Model_span : Nat := 0
theorem jcm_Model_span : Cond.code y_Model_span.1 y_Model_span.2.1 y_Model_span.2.2.1 y_Model_span.2.2.2 ∈ jTbl := jmt7 (List.mem_of_getElem? (i := 13) rfl) rfl
theorem mo_Model_span : jMo y_Model_span 2 := ⟨jcm_Model_span, ji_10, ⟨by decide, by decide⟩, by decide +kernel⟩
theorem ms_Model_span : Cond.static y_Model_span.1 ∈ jTbl := jmem 1553 (by decide +kernel) (by decide +kernel)
abbrev y_Model_seen : jM := (⟨"CountTreatyModel", "seen", "(JIIII)J"⟩, prog_12_method_92_code, 11, some .long)
abbrev d_Model_seen : Nat := 1
theorem jcm_Model_seen : Cond.code y_Model_seen.1 y_Model_seen.2.1 y_Model_seen.2.2.1 y_Model_seen.2.2.2 ∈ jTbl := jmt7 (List.mem_of_getElem? (i := 10) rfl) rfl
theorem mo_Model_seen : jMo y_Model_seen 5 := ⟨jcm_Model_seen, ji_10, ⟨by decide, by decide⟩, by decide +kernel⟩
theorem mv_Model_seen : Cond.instanceMethod y_Model_seen.1 ∈ jTbl ∧ Cond.selects y_Model_seen.1.cls y_Model_seen.1 y_Model_seen.1 ∈ jTbl := ⟨jmem 1550 (by decide +kernel) (by decide +kernel), jmem 89 (by decide +kernel) (by decide +kernel)⟩
abbrev y_Model_possibleOf : jM := (⟨"CountTreatyModel", "possibleOf", "(IIII)J"⟩, prog_12_method_93_code, 9, some .long)
abbrev d_Model_possibleOf : Nat := 4
theorem jcm_Model_possibleOf : Cond.code y_Model_possibleOf.1 y_Model_possibleOf.2.1 y_Model_possibleOf.2.2.1 y_Model_possibleOf.2.2.2 ∈ jTbl := jmt6 (List.mem_of_getElem? (i := 229) rfl) rfl
theorem mo_Model_possibleOf : jMo y_Model_possibleOf 4 := ⟨jcm_Model_possibleOf, ji_10, ⟨by decide, by decide⟩, by decide +kernel⟩
theorem mv_Model_possibleOf : Cond.instanceMethod y_Model_possibleOf.1 ∈ jTbl ∧ Cond.selects y_Model_possibleOf.1.cls y_Model_possibleOf.1 y_Model_possibleOf.1 ∈ jTbl := ⟨jmem 1529 (by decide +kernel) (by decide +kernel), jmem 84 (by decide +kernel) (by decide +kernel)⟩
abbrev y_Model_isPossible : jM := (⟨"CountTreatyModel", "isPossible", "(IIII)Z"⟩, prog_12_method_94_code, 5, some .boolean)
abbrev d_Model_isPossible : Nat := 2
theorem jcm_Model_isPossible : Cond.code y_Model_isPossible.1 y_Model_isPossible.2.1 y_Model_isPossible.2.2.1 y_Model_isPossible.2.2.2 ∈ jTbl := jmt6 (List.mem_of_getElem? (i := 225) rfl) rfl
theorem mo_Model_isPossible : jMo y_Model_isPossible 4 := ⟨jcm_Model_isPossible, ji_10, ⟨by decide, by decide⟩, by decide +kernel⟩
theorem mv_Model_isPossible : Cond.instanceMethod y_Model_isPossible.1 ∈ jTbl ∧ Cond.selects y_Model_isPossible.1.cls y_Model_isPossible.1 y_Model_isPossible.1 ∈ jTbl := ⟨jmem 1525 (by decide +kernel) (by decide +kernel), jmem 83 (by decide +kernel) (by decide +kernel)⟩
abbrev y_Model_possible : jM := (⟨"CountTreatyModel", "possible", "(IIIIZ)I"⟩, prog_12_method_95_code, 10, some .int)
abbrev d_Model_possible : Nat := 5
theorem jcm_Model_possible : Cond.code y_Model_possible.1 y_Model_possible.2.1 y_Model_possible.2.2.1 y_Model_possible.2.2.2 ∈ jTbl := jmt6 (List.mem_of_getElem? (i := 221) rfl) rfl
theorem mo_Model_possible : jMo y_Model_possible 5 := ⟨jcm_Model_possible, ji_10, ⟨by decide, by decide⟩, by decide +kernel⟩
theorem mv_Model_possible : Cond.instanceMethod y_Model_possible.1 ∈ jTbl ∧ Cond.selects y_Model_possible.1.cls y_Model_possible.1 y_Model_possible.1 ∈ jTbl := ⟨jmem 1520 (by decide +kernel) (by decide +kernel), jmem 1521 (by decide +kernel) (by decide +kernel)⟩
abbrev y_Model_isDoubted : jM := (⟨"CountTreatyModel", "isDoubted", "(IIII)Z"⟩, prog_12_method_96_code, 5, some .boolean)
abbrev d_Model_isDoubted : Nat := 5
theorem jcm_Model_isDoubted : Cond.code y_Model_isDoubted.1 y_Model_isDoubted.2.1 y_Model_isDoubted.2.2.1 y_Model_isDoubted.2.2.2 ∈ jTbl := jmt7 (List.mem_of_getElem? (i := 21) rfl) rfl
theorem mo_Model_isDoubted : jMo y_Model_isDoubted 4 := ⟨jcm_Model_isDoubted, ji_10, ⟨by decide, by decide⟩, by decide +kernel⟩
theorem mv_Model_isDoubted : Cond.instanceMethod y_Model_isDoubted.1 ∈ jTbl ∧ Cond.selects y_Model_isDoubted.1.cls y_Model_isDoubted.1 y_Model_isDoubted.1 ∈ jTbl := ⟨jmem 1561 (by decide +kernel) (by decide +kernel), jmem 90 (by decide +kernel) (by decide +kernel)⟩
abbrev y_Model_doubted : jM := (⟨"CountTreatyModel", "doubted", "(IIII)I"⟩, prog_12_method_97_code, 5, some .int)
abbrev d_Model_doubted : Nat := 6
theorem jcm_Model_doubted : Cond.code y_Model_doubted.1 y_Model_doubted.2.1 y_Model_doubted.2.2.1 y_Model_doubted.2.2.2 ∈ jTbl := jmt7 (List.mem_of_getElem? (i := 17) rfl) rfl
theorem mo_Model_doubted : jMo y_Model_doubted 4 := ⟨jcm_Model_doubted, ji_10, ⟨by decide, by decide⟩, by decide +kernel⟩
theorem mv_Model_doubted : Cond.instanceMethod y_Model_doubted.1 ∈ jTbl ∧ Cond.selects y_Model_doubted.1.cls y_Model_doubted.1 y_Model_doubted.1 ∈ jTbl := ⟨jmem 1556 (by decide +kernel) (by decide +kernel), jmem 1557 (by decide +kernel) (by decide +kernel)⟩
abbrev y_Model_doubt : jM := (⟨"CountTreatyModel", "doubt", "(III)I"⟩, prog_12_method_98_code, 6, some .int)
abbrev d_Model_doubt : Nat := 6
theorem jcm_Model_doubt : Cond.code y_Model_doubt.1 y_Model_doubt.2.1 y_Model_doubt.2.2.1 y_Model_doubt.2.2.2 ∈ jTbl := jmt7 (List.mem_of_getElem? (i := 25) rfl) rfl
theorem mo_Model_doubt : jMo y_Model_doubt 3 := ⟨jcm_Model_doubt, ji_10, ⟨by decide, by decide⟩, by decide +kernel⟩
theorem mv_Model_doubt : Cond.instanceMethod y_Model_doubt.1 ∈ jTbl ∧ Cond.selects y_Model_doubt.1.cls y_Model_doubt.1 y_Model_doubt.1 ∈ jTbl := ⟨jmem 1564 (by decide +kernel) (by decide +kernel), jmem 1565 (by decide +kernel) (by decide +kernel)⟩
abbrev y_Model_ask : jM := (⟨"CountTreatyModel", "ask", "(II)I"⟩, prog_12_method_99_code, 4, some .int)
abbrev d_Model_ask : Nat := 2
theorem jcm_Model_ask : Cond.code y_Model_ask.1 y_Model_ask.2.1 y_Model_ask.2.2.1 y_Model_ask.2.2.2 ∈ jTbl := jmt7 (List.mem_of_getElem? (i := 29) rfl) rfl
theorem mo_Model_ask : jMo y_Model_ask 2 := ⟨jcm_Model_ask, ji_10, ⟨by decide, by decide⟩, by decide +kernel⟩
theorem mv_Model_ask : Cond.instanceMethod y_Model_ask.1 ∈ jTbl ∧ Cond.selects y_Model_ask.1.cls y_Model_ask.1 y_Model_ask.1 ∈ jTbl := ⟨jmem 1568 (by decide +kernel) (by decide +kernel), jmem 1569 (by decide +kernel) (by decide +kernel)⟩
abbrev y_Model_answer : jM := (⟨"CountTreatyModel", "answer", "(I)Z"⟩, prog_12_method_100_code, 2, some .boolean)
abbrev d_Model_answer : Nat := 1
theorem jcm_Model_answer : Cond.code y_Model_answer.1 y_Model_answer.2.1 y_Model_answer.2.2.1 y_Model_answer.2.2.2 ∈ jTbl := jmt7 (List.mem_of_getElem? (i := 33) rfl) rfl
theorem mo_Model_answer : jMo y_Model_answer 1 := ⟨jcm_Model_answer, ji_10, ⟨by decide, by decide⟩, by decide +kernel⟩
theorem mv_Model_answer : Cond.instanceMethod y_Model_answer.1 ∈ jTbl ∧ Cond.selects y_Model_answer.1.cls y_Model_answer.1 y_Model_answer.1 ∈ jTbl := ⟨jmem 1572 (by decide +kernel) (by decide +kernel), jmem 1573 (by decide +kernel) (by decide +kernel)⟩
abbrev y_Model_act : jM := (⟨"CountTreatyModel", "act", "(II)I"⟩, prog_12_method_101_code, 5, some .int)
abbrev d_Model_act : Nat := 1
theorem jcm_Model_act : Cond.code y_Model_act.1 y_Model_act.2.1 y_Model_act.2.2.1 y_Model_act.2.2.2 ∈ jTbl := jmt7 (List.mem_of_getElem? (i := 37) rfl) rfl
theorem mo_Model_act : jMo y_Model_act 2 := ⟨jcm_Model_act, ji_10, ⟨by decide, by decide⟩, by decide +kernel⟩
theorem mv_Model_act : Cond.instanceMethod y_Model_act.1 ∈ jTbl ∧ Cond.selects y_Model_act.1.cls y_Model_act.1 y_Model_act.1 ∈ jTbl := ⟨jmem 1576 (by decide +kernel) (by decide +kernel), jmem 1577 (by decide +kernel) (by decide +kernel)⟩
abbrev y_Model_judgedMove : jM := (⟨"CountTreatyModel", "judgedMove", "(II)I"⟩, prog_12_method_102_code, 7, some .int)
abbrev d_Model_judgedMove : Nat := 5
theorem jcm_Model_judgedMove : Cond.code y_Model_judgedMove.1 y_Model_judgedMove.2.1 y_Model_judgedMove.2.2.1 y_Model_judgedMove.2.2.2 ∈ jTbl := jmt7 (List.mem_of_getElem? (i := 49) rfl) rfl
theorem mo_Model_judgedMove : jMo y_Model_judgedMove 2 := ⟨jcm_Model_judgedMove, ji_10, ⟨by decide, by decide⟩, by decide +kernel⟩
theorem mv_Model_judgedMove : Cond.instanceMethod y_Model_judgedMove.1 ∈ jTbl ∧ Cond.selects y_Model_judgedMove.1.cls y_Model_judgedMove.1 y_Model_judgedMove.1 ∈ jTbl := ⟨jmem 1589 (by decide +kernel) (by decide +kernel), jmem 92 (by decide +kernel) (by decide +kernel)⟩
abbrev y_Model_judgedVisit : jM := (⟨"CountTreatyModel", "judgedVisit", "(I)I"⟩, prog_12_method_103_code, 5, some .int)
abbrev d_Model_judgedVisit : Nat := 5
theorem jcm_Model_judgedVisit : Cond.code y_Model_judgedVisit.1 y_Model_judgedVisit.2.1 y_Model_judgedVisit.2.2.1 y_Model_judgedVisit.2.2.2 ∈ jTbl := jmt7 (List.mem_of_getElem? (i := 53) rfl) rfl
theorem mo_Model_judgedVisit : jMo y_Model_judgedVisit 1 := ⟨jcm_Model_judgedVisit, ji_10, ⟨by decide, by decide⟩, by decide +kernel⟩
theorem mv_Model_judgedVisit : Cond.instanceMethod y_Model_judgedVisit.1 ∈ jTbl ∧ Cond.selects y_Model_judgedVisit.1.cls y_Model_judgedVisit.1 y_Model_judgedVisit.1 ∈ jTbl := ⟨jmem 1593 (by decide +kernel) (by decide +kernel), jmem 93 (by decide +kernel) (by decide +kernel)⟩
abbrev y_Model_judgedQuestion : jM := (⟨"CountTreatyModel", "judgedQuestion", "(II)I"⟩, prog_12_method_104_code, 5, some .int)
abbrev d_Model_judgedQuestion : Nat := 5
theorem jcm_Model_judgedQuestion : Cond.code y_Model_judgedQuestion.1 y_Model_judgedQuestion.2.1 y_Model_judgedQuestion.2.2.1 y_Model_judgedQuestion.2.2.2 ∈ jTbl := jmt7 (List.mem_of_getElem? (i := 57) rfl) rfl
theorem mo_Model_judgedQuestion : jMo y_Model_judgedQuestion 2 := ⟨jcm_Model_judgedQuestion, ji_10, ⟨by decide, by decide⟩, by decide +kernel⟩
theorem mv_Model_judgedQuestion : Cond.instanceMethod y_Model_judgedQuestion.1 ∈ jTbl ∧ Cond.selects y_Model_judgedQuestion.1.cls y_Model_judgedQuestion.1 y_Model_judgedQuestion.1 ∈ jTbl := ⟨jmem 1597 (by decide +kernel) (by decide +kernel), jmem 94 (by decide +kernel) (by decide +kernel)⟩
abbrev y_Model_judgedOf : jM := (⟨"CountTreatyModel", "judgedOf", "(II)I"⟩, prog_12_method_105_code, 6, some .int)
abbrev d_Model_judgedOf : Nat := 6
theorem jcm_Model_judgedOf : Cond.code y_Model_judgedOf.1 y_Model_judgedOf.2.1 y_Model_judgedOf.2.2.1 y_Model_judgedOf.2.2.2 ∈ jTbl := jmt7 (List.mem_of_getElem? (i := 45) rfl) rfl
theorem mo_Model_judgedOf : jMo y_Model_judgedOf 2 := ⟨jcm_Model_judgedOf, ji_10, ⟨by decide, by decide⟩, by decide +kernel⟩
theorem mv_Model_judgedOf : Cond.instanceMethod y_Model_judgedOf.1 ∈ jTbl ∧ Cond.selects y_Model_judgedOf.1.cls y_Model_judgedOf.1 y_Model_judgedOf.1 ∈ jTbl := ⟨jmem 1585 (by decide +kernel) (by decide +kernel), jmem 91 (by decide +kernel) (by decide +kernel)⟩
abbrev y_Model_judged : jM := (⟨"CountTreatyModel", "judged", "(II)I"⟩, prog_12_method_106_code, 3, some .int)
abbrev d_Model_judged : Nat := 7
theorem jcm_Model_judged : Cond.code y_Model_judged.1 y_Model_judged.2.1 y_Model_judged.2.2.1 y_Model_judged.2.2.2 ∈ jTbl := jmt7 (List.mem_of_getElem? (i := 41) rfl) rfl
theorem mo_Model_judged : jMo y_Model_judged 2 := ⟨jcm_Model_judged, ji_10, ⟨by decide, by decide⟩, by decide +kernel⟩
theorem mv_Model_judged : Cond.instanceMethod y_Model_judged.1 ∈ jTbl ∧ Cond.selects y_Model_judged.1.cls y_Model_judged.1 y_Model_judged.1 ∈ jTbl := ⟨jmem 1580 (by decide +kernel) (by decide +kernel), jmem 1581 (by decide +kernel) (by decide +kernel)⟩
abbrev y_Model_fails : jM := (⟨"CountTreatyModel", "fails", "(III)I"⟩, prog_12_method_107_code, 6, some .int)
abbrev d_Model_fails : Nat := 7
theorem jcm_Model_fails : Cond.code y_Model_fails.1 y_Model_fails.2.1 y_Model_fails.2.2.1 y_Model_fails.2.2.2 ∈ jTbl := jmt7 (List.mem_of_getElem? (i := 61) rfl) rfl
theorem mo_Model_fails : jMo y_Model_fails 3 := ⟨jcm_Model_fails, ji_10, ⟨by decide, by decide⟩, by decide +kernel⟩
theorem mv_Model_fails : Cond.instanceMethod y_Model_fails.1 ∈ jTbl ∧ Cond.selects y_Model_fails.1.cls y_Model_fails.1 y_Model_fails.1 ∈ jTbl := ⟨jmem 1600 (by decide +kernel) (by decide +kernel), jmem 1601 (by decide +kernel) (by decide +kernel)⟩
abbrev y_Model_chance : jM := (⟨"CountTreatyModel", "chance", "(II)Z"⟩, prog_12_method_108_code, 3, some .boolean)
abbrev d_Model_chance : Nat := 2
theorem jcm_Model_chance : Cond.code y_Model_chance.1 y_Model_chance.2.1 y_Model_chance.2.2.1 y_Model_chance.2.2.2 ∈ jTbl := jmt7 (List.mem_of_getElem? (i := 65) rfl) rfl
theorem mo_Model_chance : jMo y_Model_chance 2 := ⟨jcm_Model_chance, ji_10, ⟨by decide, by decide⟩, by decide +kernel⟩
theorem mv_Model_chance : Cond.instanceMethod y_Model_chance.1 ∈ jTbl ∧ Cond.selects y_Model_chance.1.cls y_Model_chance.1 y_Model_chance.1 ∈ jTbl := ⟨jmem 1604 (by decide +kernel) (by decide +kernel), jmem 1605 (by decide +kernel) (by decide +kernel)⟩
abbrev y_Model_common : jM := (⟨"CountTreatyModel", "common", "(JJ)J"⟩, prog_12_method_109_code, 10, some .long)
abbrev d_Model_common : Nat := 0
theorem jcm_Model_common : Cond.code y_Model_common.1 y_Model_common.2.1 y_Model_common.2.2.1 y_Model_common.2.2.2 ∈ jTbl := jmt7 (List.mem_of_getElem? (i := 85) rfl) rfl
theorem mo_Model_common : jMo y_Model_common 2 := ⟨jcm_Model_common, ji_10, ⟨by decide, by decide⟩, by decide +kernel⟩
theorem ms_Model_common : Cond.static y_Model_common.1 ∈ jTbl := jmem 1625 (by decide +kernel) (by decide +kernel)
abbrev y_Model_manyOf : jM := (⟨"CountTreatyModel", "manyOf", "(I)I"⟩, prog_12_method_110_code, 4, some .int)
abbrev d_Model_manyOf : Nat := 0
theorem jcm_Model_manyOf : Cond.code y_Model_manyOf.1 y_Model_manyOf.2.1 y_Model_manyOf.2.2.1 y_Model_manyOf.2.2.2 ∈ jTbl := jmt7 (List.mem_of_getElem? (i := 77) rfl) rfl
theorem mo_Model_manyOf : jMo y_Model_manyOf 1 := ⟨jcm_Model_manyOf, ji_10, ⟨by decide, by decide⟩, by decide +kernel⟩
theorem mv_Model_manyOf : Cond.instanceMethod y_Model_manyOf.1 ∈ jTbl ∧ Cond.selects y_Model_manyOf.1.cls y_Model_manyOf.1 y_Model_manyOf.1 ∈ jTbl := ⟨jmem 1617 (by decide +kernel) (by decide +kernel), jmem 96 (by decide +kernel) (by decide +kernel)⟩
abbrev y_Model_isSet : jM := (⟨"CountTreatyModel", "isSet", "(II)Z"⟩, prog_12_method_111_code, 3, some .boolean)
abbrev d_Model_isSet : Nat := 1
theorem jcm_Model_isSet : Cond.code y_Model_isSet.1 y_Model_isSet.2.1 y_Model_isSet.2.2.1 y_Model_isSet.2.2.2 ∈ jTbl := jmt7 (List.mem_of_getElem? (i := 73) rfl) rfl
theorem mo_Model_isSet : jMo y_Model_isSet 2 := ⟨jcm_Model_isSet, ji_10, ⟨by decide, by decide⟩, by decide +kernel⟩
theorem mv_Model_isSet : Cond.instanceMethod y_Model_isSet.1 ∈ jTbl ∧ Cond.selects y_Model_isSet.1.cls y_Model_isSet.1 y_Model_isSet.1 ∈ jTbl := ⟨jmem 1613 (by decide +kernel) (by decide +kernel), jmem 95 (by decide +kernel) (by decide +kernel)⟩
abbrev y_Model_valueOf : jM := (⟨"CountTreatyModel", "valueOf", "(II)V"⟩, prog_12_method_112_code, 12, none)
abbrev d_Model_valueOf : Nat := 1
theorem jcm_Model_valueOf : Cond.code y_Model_valueOf.1 y_Model_valueOf.2.1 y_Model_valueOf.2.2.1 y_Model_valueOf.2.2.2 ∈ jTbl := jmt7 (List.mem_of_getElem? (i := 82) rfl) rfl
theorem mo_Model_valueOf : jMo y_Model_valueOf 2 := ⟨jcm_Model_valueOf, ji_10, ⟨by decide, by decide⟩, by decide +kernel⟩
theorem mv_Model_valueOf : Cond.instanceMethod y_Model_valueOf.1 ∈ jTbl ∧ Cond.selects y_Model_valueOf.1.cls y_Model_valueOf.1 y_Model_valueOf.1 ∈ jTbl := ⟨jmem 1622 (by decide +kernel) (by decide +kernel), jmem 97 (by decide +kernel) (by decide +kernel)⟩
abbrev y_Model_value : jM := (⟨"CountTreatyModel", "value", "(IIZ)J"⟩, prog_12_method_113_code, 4, some .long)
abbrev d_Model_value : Nat := 2
theorem jcm_Model_value : Cond.code y_Model_value.1 y_Model_value.2.1 y_Model_value.2.2.1 y_Model_value.2.2.2 ∈ jTbl := jmt7 (List.mem_of_getElem? (i := 69) rfl) rfl
theorem mo_Model_value : jMo y_Model_value 3 := ⟨jcm_Model_value, ji_10, ⟨by decide, by decide⟩, by decide +kernel⟩
theorem mv_Model_value : Cond.instanceMethod y_Model_value.1 ∈ jTbl ∧ Cond.selects y_Model_value.1.cls y_Model_value.1 y_Model_value.1 ∈ jTbl := ⟨jmem 1608 (by decide +kernel) (by decide +kernel), jmem 1609 (by decide +kernel) (by decide +kernel)⟩
abbrev y_Model_share : jM := (⟨"CountTreatyModel", "share", "(IIIZ)J"⟩, prog_12_method_114_code, 9, some .long)
abbrev d_Model_share : Nat := 2
theorem jcm_Model_share : Cond.code y_Model_share.1 y_Model_share.2.1 y_Model_share.2.2.1 y_Model_share.2.2.2 ∈ jTbl := jmt7 (List.mem_of_getElem? (i := 89) rfl) rfl
theorem mo_Model_share : jMo y_Model_share 4 := ⟨jcm_Model_share, ji_10, ⟨by decide, by decide⟩, by decide +kernel⟩
theorem mv_Model_share : Cond.instanceMethod y_Model_share.1 ∈ jTbl ∧ Cond.selects y_Model_share.1.cls y_Model_share.1 y_Model_share.1 ∈ jTbl := ⟨jmem 1628 (by decide +kernel) (by decide +kernel), jmem 1629 (by decide +kernel) (by decide +kernel)⟩
abbrev y_Model_proof : jM := (⟨"CountTreatyModel", "proof", "(IIIIIII)I"⟩, prog_12_method_115_code, 15, some .int)
abbrev d_Model_proof : Nat := 2
theorem jcm_Model_proof : Cond.code y_Model_proof.1 y_Model_proof.2.1 y_Model_proof.2.2.1 y_Model_proof.2.2.2 ∈ jTbl := jmt7 (List.mem_of_getElem? (i := 93) rfl) rfl
theorem mo_Model_proof : jMo y_Model_proof 7 := ⟨jcm_Model_proof, ji_10, ⟨by decide, by decide⟩, by decide +kernel⟩
theorem mv_Model_proof : Cond.instanceMethod y_Model_proof.1 ∈ jTbl ∧ Cond.selects y_Model_proof.1.cls y_Model_proof.1 y_Model_proof.1 ∈ jTbl := ⟨jmem 1632 (by decide +kernel) (by decide +kernel), jmem 1633 (by decide +kernel) (by decide +kernel)⟩
abbrev y_Model_isTold : jM := (⟨"CountTreatyModel", "isTold", "(II)Z"⟩, prog_12_method_117_code, 4, some .boolean)
abbrev d_Model_isTold : Nat := 0
theorem jcm_Model_isTold : Cond.code y_Model_isTold.1 y_Model_isTold.2.1 y_Model_isTold.2.2.1 y_Model_isTold.2.2.2 ∈ jTbl := jmt7 (List.mem_of_getElem? (i := 101) rfl) rfl
theorem mo_Model_isTold : jMo y_Model_isTold 2 := ⟨jcm_Model_isTold, ji_10, ⟨by decide, by decide⟩, by decide +kernel⟩
theorem mv_Model_isTold : Cond.instanceMethod y_Model_isTold.1 ∈ jTbl ∧ Cond.selects y_Model_isTold.1.cls y_Model_isTold.1 y_Model_isTold.1 ∈ jTbl := ⟨jmem 1641 (by decide +kernel) (by decide +kernel), jmem 98 (by decide +kernel) (by decide +kernel)⟩
abbrev y_Model_watch : jM := (⟨"CountTreatyModel", "watch", "(II)I"⟩, prog_12_method_116_code, 3, some .int)
abbrev d_Model_watch : Nat := 2
theorem jcm_Model_watch : Cond.code y_Model_watch.1 y_Model_watch.2.1 y_Model_watch.2.2.1 y_Model_watch.2.2.2 ∈ jTbl := jmt7 (List.mem_of_getElem? (i := 97) rfl) rfl
theorem mo_Model_watch : jMo y_Model_watch 2 := ⟨jcm_Model_watch, ji_10, ⟨by decide, by decide⟩, by decide +kernel⟩
theorem mv_Model_watch : Cond.instanceMethod y_Model_watch.1 ∈ jTbl ∧ Cond.selects y_Model_watch.1.cls y_Model_watch.1 y_Model_watch.1 ∈ jTbl := ⟨jmem 1636 (by decide +kernel) (by decide +kernel), jmem 1637 (by decide +kernel) (by decide +kernel)⟩
abbrev y_Model_isSeen : jM := (⟨"CountTreatyModel", "isSeen", "(III)Z"⟩, prog_12_method_118_code, 4, some .boolean)
abbrev d_Model_isSeen : Nat := 4
theorem jcm_Model_isSeen : Cond.code y_Model_isSeen.1 y_Model_isSeen.2.1 y_Model_isSeen.2.2.1 y_Model_isSeen.2.2.2 ∈ jTbl := jmt7 (List.mem_of_getElem? (i := 113) rfl) rfl
theorem mo_Model_isSeen : jMo y_Model_isSeen 3 := ⟨jcm_Model_isSeen, ji_10, ⟨by decide, by decide⟩, by decide +kernel⟩
theorem mv_Model_isSeen : Cond.instanceMethod y_Model_isSeen.1 ∈ jTbl ∧ Cond.selects y_Model_isSeen.1.cls y_Model_isSeen.1 y_Model_isSeen.1 ∈ jTbl := ⟨jmem 1653 (by decide +kernel) (by decide +kernel), jmem 100 (by decide +kernel) (by decide +kernel)⟩
abbrev y_Model_find : jM := (⟨"CountTreatyModel", "find", "(III)I"⟩, prog_12_method_119_code, 9, some .int)
abbrev d_Model_find : Nat := 5
theorem jcm_Model_find : Cond.code y_Model_find.1 y_Model_find.2.1 y_Model_find.2.2.1 y_Model_find.2.2.2 ∈ jTbl := jmt7 (List.mem_of_getElem? (i := 109) rfl) rfl
theorem mo_Model_find : jMo y_Model_find 3 := ⟨jcm_Model_find, ji_10, ⟨by decide, by decide⟩, by decide +kernel⟩
theorem mv_Model_find : Cond.instanceMethod y_Model_find.1 ∈ jTbl ∧ Cond.selects y_Model_find.1.cls y_Model_find.1 y_Model_find.1 ∈ jTbl := ⟨jmem 1649 (by decide +kernel) (by decide +kernel), jmem 99 (by decide +kernel) (by decide +kernel)⟩
abbrev y_Model_unseen : jM := (⟨"CountTreatyModel", "unseen", "(II)I"⟩, prog_12_method_120_code, 3, some .int)
abbrev d_Model_unseen : Nat := 6
theorem jcm_Model_unseen : Cond.code y_Model_unseen.1 y_Model_unseen.2.1 y_Model_unseen.2.2.1 y_Model_unseen.2.2.2 ∈ jTbl := jmt7 (List.mem_of_getElem? (i := 105) rfl) rfl
theorem mo_Model_unseen : jMo y_Model_unseen 2 := ⟨jcm_Model_unseen, ji_10, ⟨by decide, by decide⟩, by decide +kernel⟩
theorem mv_Model_unseen : Cond.instanceMethod y_Model_unseen.1 ∈ jTbl ∧ Cond.selects y_Model_unseen.1.cls y_Model_unseen.1 y_Model_unseen.1 ∈ jTbl := ⟨jmem 1644 (by decide +kernel) (by decide +kernel), jmem 1645 (by decide +kernel) (by decide +kernel)⟩
abbrev y_Model_trick : jM := (⟨"CountTreatyModel", "trick", "(IIII)I"⟩, prog_12_method_121_code, 5, some .int)
abbrev d_Model_trick : Nat := 6
theorem jcm_Model_trick : Cond.code y_Model_trick.1 y_Model_trick.2.1 y_Model_trick.2.2.1 y_Model_trick.2.2.2 ∈ jTbl := jmt7 (List.mem_of_getElem? (i := 117) rfl) rfl
theorem mo_Model_trick : jMo y_Model_trick 4 := ⟨jcm_Model_trick, ji_10, ⟨by decide, by decide⟩, by decide +kernel⟩
theorem mv_Model_trick : Cond.instanceMethod y_Model_trick.1 ∈ jTbl ∧ Cond.selects y_Model_trick.1.cls y_Model_trick.1 y_Model_trick.1 ∈ jTbl := ⟨jmem 1656 (by decide +kernel) (by decide +kernel), jmem 1657 (by decide +kernel) (by decide +kernel)⟩
abbrev y_Model_image : jM := (⟨"CountTreatyModel", "image", "()I"⟩, prog_12_method_122_code, 1, some .int)
abbrev d_Model_image : Nat := 1
theorem jcm_Model_image : Cond.code y_Model_image.1 y_Model_image.2.1 y_Model_image.2.2.1 y_Model_image.2.2.2 ∈ jTbl := jmt7 (List.mem_of_getElem? (i := 121) rfl) rfl
theorem mo_Model_image : jMo y_Model_image 0 := ⟨jcm_Model_image, ji_10, ⟨by decide, by decide⟩, by decide +kernel⟩
theorem mv_Model_image : Cond.instanceMethod y_Model_image.1 ∈ jTbl ∧ Cond.selects y_Model_image.1.cls y_Model_image.1 y_Model_image.1 ∈ jTbl := ⟨jmem 1660 (by decide +kernel) (by decide +kernel), jmem 1661 (by decide +kernel) (by decide +kernel)⟩
abbrev y_Model_back : jM := (⟨"CountTreatyModel", "back", "()I"⟩, prog_12_method_123_code, 1, some .int)
abbrev d_Model_back : Nat := 1
theorem jcm_Model_back : Cond.code y_Model_back.1 y_Model_back.2.1 y_Model_back.2.2.1 y_Model_back.2.2.2 ∈ jTbl := jmt7 (List.mem_of_getElem? (i := 125) rfl) rfl
theorem mo_Model_back : jMo y_Model_back 0 := ⟨jcm_Model_back, ji_10, ⟨by decide, by decide⟩, by decide +kernel⟩
theorem mv_Model_back : Cond.instanceMethod y_Model_back.1 ∈ jTbl ∧ Cond.selects y_Model_back.1.cls y_Model_back.1 y_Model_back.1 ∈ jTbl := ⟨jmem 1664 (by decide +kernel) (by decide +kernel), jmem 1665 (by decide +kernel) (by decide +kernel)⟩
abbrev y_Model_about : jM := (⟨"CountTreatyModel", "about", "(I)I"⟩, prog_12_method_124_code, 2, some .int)
abbrev d_Model_about : Nat := 1
theorem jcm_Model_about : Cond.code y_Model_about.1 y_Model_about.2.1 y_Model_about.2.2.1 y_Model_about.2.2.2 ∈ jTbl := jmt7 (List.mem_of_getElem? (i := 129) rfl) rfl
theorem mo_Model_about : jMo y_Model_about 1 := ⟨jcm_Model_about, ji_10, ⟨by decide, by decide⟩, by decide +kernel⟩
theorem mv_Model_about : Cond.instanceMethod y_Model_about.1 ∈ jTbl ∧ Cond.selects y_Model_about.1.cls y_Model_about.1 y_Model_about.1 ∈ jTbl := ⟨jmem 1668 (by decide +kernel) (by decide +kernel), jmem 1669 (by decide +kernel) (by decide +kernel)⟩
theorem lk_9_3 : Cond.methodLink (jcn 9) 3 Lib.objectInit ∈ jTbl := jmem 124 (by decide +kernel) (by decide +kernel)
theorem lk_9_11 : Cond.methodLink (jcn 9) 11 y_State_init.1 ∈ jTbl := jmem 129 (by decide +kernel) (by decide +kernel)
theorem lk_9_21 : Cond.methodLink (jcn 9) 21 y_Reader_init.1 ∈ jTbl := jmem 286 (by decide +kernel) (by decide +kernel)
theorem lk_9_28 : Cond.methodLink (jcn 9) 28 y_Knowing_init.1 ∈ jTbl := jmem 345 (by decide +kernel) (by decide +kernel)
theorem lk_9_35 : Cond.methodLink (jcn 9) 35 y_Judge_init.1 ∈ jTbl := jmem 359 (by decide +kernel) (by decide +kernel)
theorem lk_9_42 : Cond.methodLink (jcn 9) 42 y_Shares_init.1 ∈ jTbl := jmem 375 (by decide +kernel) (by decide +kernel)
theorem lk_9_49 : Cond.methodLink (jcn 9) 49 y_Search_init.1 ∈ jTbl := jmem 402 (by decide +kernel) (by decide +kernel)
theorem lk_9_54 : Cond.methodLink (jcn 9) 54 y_State_isLand.1 ∈ jTbl := jmem 455 (by decide +kernel) (by decide +kernel)
theorem lk_9_62 : Cond.methodLink (jcn 9) 62 y_Rows_isFull.1 ∈ jTbl := jmem 458 (by decide +kernel) (by decide +kernel)
theorem lk_9_68 : Cond.methodLink (jcn 9) 68 y_Rows_open.1 ∈ jTbl := jmem 462 (by decide +kernel) (by decide +kernel)
theorem lk_9_72 : Cond.methodLink (jcn 9) 72 y_Rows_put.1 ∈ jTbl := jmem 463 (by decide +kernel) (by decide +kernel)
theorem lk_9_76 : Cond.methodLink (jcn 9) 76 y_State_openWays.1 ∈ jTbl := jmem 464 (by decide +kernel) (by decide +kernel)
theorem lk_9_80 : Cond.methodLink (jcn 9) 80 y_Rows_has.1 ∈ jTbl := jmem 472 (by decide +kernel) (by decide +kernel)
theorem lk_9_83 : Cond.methodLink (jcn 9) 83 y_Rows_at.1 ∈ jTbl := jmem 476 (by decide +kernel) (by decide +kernel)
theorem lk_9_91 : Cond.methodLink (jcn 9) 91 y_State_shortenWays.1 ∈ jTbl := jmem 480 (by decide +kernel) (by decide +kernel)
theorem lk_9_97 : Cond.methodLink (jcn 9) 97 y_State_isSort.1 ∈ jTbl := jmem 501 (by decide +kernel) (by decide +kernel)
theorem lk_9_103 : Cond.methodLink (jcn 9) 103 y_Rows_count.1 ∈ jTbl := jmem 504 (by decide +kernel) (by decide +kernel)
theorem lk_9_122 : Cond.methodLink (jcn 9) 122 y_State_addAct.1 ∈ jTbl := jmem 513 (by decide +kernel) (by decide +kernel)
theorem lk_9_129 : Cond.methodLink (jcn 9) 129 y_State_placeOn.1 ∈ jTbl := jmem 521 (by decide +kernel) (by decide +kernel)
theorem lk_9_136 : Cond.methodLink (jcn 9) 136 y_Treaty_tells.1 ∈ jTbl := jmem 529 (by decide +kernel) (by decide +kernel)
theorem lk_9_144 : Cond.methodLink (jcn 9) 144 y_State_isSealed.1 ∈ jTbl := jmem 554 (by decide +kernel) (by decide +kernel)
theorem lk_9_147 : Cond.methodLink (jcn 9) 147 y_State_addSpot.1 ∈ jTbl := jmem 566 (by decide +kernel) (by decide +kernel)
theorem lk_9_151 : Cond.methodLink (jcn 9) 151 y_State_isDay.1 ∈ jTbl := jmem 577 (by decide +kernel) (by decide +kernel)
theorem lk_9_154 : Cond.methodLink (jcn 9) 154 y_State_isWhole.1 ∈ jTbl := jmem 588 (by decide +kernel) (by decide +kernel)
theorem lk_9_167 : Cond.methodLink (jcn 9) 167 y_Tokens_addWord.1 ∈ jTbl := jmem 593 (by decide +kernel) (by decide +kernel)
theorem lk_9_170 : Cond.methodLink (jcn 9) 170 y_Rows_cut.1 ∈ jTbl := jmem 602 (by decide +kernel) (by decide +kernel)
theorem lk_9_176 : Cond.methodLink (jcn 9) 176 y_Reader_read.1 ∈ jTbl := jmem 611 (by decide +kernel) (by decide +kernel)
theorem lk_9_179 : Cond.methodLink (jcn 9) 179 y_Treaty_adopt.1 ∈ jTbl := jmem 731 (by decide +kernel) (by decide +kernel)
theorem lk_9_193 : Cond.methodLink (jcn 9) 193 y_Treaty_textFor.1 ∈ jTbl := jmem 750 (by decide +kernel) (by decide +kernel)
theorem lk_9_196 : Cond.methodLink (jcn 9) 196 y_State_isCounting.1 ∈ jTbl := jmem 751 (by decide +kernel) (by decide +kernel)
theorem lk_9_200 : Cond.methodLink (jcn 9) 200 y_State_numberCounting.1 ∈ jTbl := jmem 783 (by decide +kernel) (by decide +kernel)
theorem lk_9_206 : Cond.methodLink (jcn 9) 206 y_Knowing_hear.1 ∈ jTbl := jmem 798 (by decide +kernel) (by decide +kernel)
theorem lk_9_210 : Cond.methodLink (jcn 9) 210 y_Knowing_placeTold.1 ∈ jTbl := jmem 804 (by decide +kernel) (by decide +kernel)
theorem lk_9_214 : Cond.methodLink (jcn 9) 214 y_Knowing_numberTold.1 ∈ jTbl := jmem 812 (by decide +kernel) (by decide +kernel)
theorem lk_9_218 : Cond.methodLink (jcn 9) 218 y_Count_isAbroad.1 ∈ jTbl := jmem 821 (by decide +kernel) (by decide +kernel)
theorem lk_9_224 : Cond.methodLink (jcn 9) 224 y_State_lookAround.1 ∈ jTbl := jmem 825 (by decide +kernel) (by decide +kernel)
theorem lk_9_227 : Cond.methodLink (jcn 9) 227 y_State_lookAtSeal.1 ∈ jTbl := jmem 829 (by decide +kernel) (by decide +kernel)
theorem lk_9_233 : Cond.methodLink (jcn 9) 233 y_State_hasSpot.1 ∈ jTbl := jmem 841 (by decide +kernel) (by decide +kernel)
theorem lk_9_240 : Cond.methodLink (jcn 9) 240 y_State_numberLarge.1 ∈ jTbl := jmem 848 (by decide +kernel) (by decide +kernel)
theorem lk_9_243 : Cond.methodLink (jcn 9) 243 y_Count_isKnowable.1 ∈ jTbl := jmem 856 (by decide +kernel) (by decide +kernel)
theorem lk_9_247 : Cond.methodLink (jcn 9) 247 y_Knowing_walk.1 ∈ jTbl := jmem 860 (by decide +kernel) (by decide +kernel)
theorem lk_9_251 : Cond.methodLink (jcn 9) 251 y_Knowing_greatest.1 ∈ jTbl := jmem 919 (by decide +kernel) (by decide +kernel)
theorem lk_9_254 : Cond.methodLink (jcn 9) 254 y_Knowing_least.1 ∈ jTbl := jmem 920 (by decide +kernel) (by decide +kernel)
theorem lk_9_257 : Cond.methodLink (jcn 9) 257 y_Knowing_isPossible.1 ∈ jTbl := jmem 925 (by decide +kernel) (by decide +kernel)
theorem lk_9_266 : Cond.methodLink (jcn 9) 266 y_Judge_begin.1 ∈ jTbl := jmem 946 (by decide +kernel) (by decide +kernel)
theorem lk_9_269 : Cond.methodLink (jcn 9) 269 y_Judge_judge.1 ∈ jTbl := jmem 950 (by decide +kernel) (by decide +kernel)
theorem lk_9_271 : Cond.methodLink (jcn 9) 271 y_Shares_take.1 ∈ jTbl := jmem 990 (by decide +kernel) (by decide +kernel)
theorem lk_9_284 : Cond.methodLink (jcn 9) 284 y_Shares_divide.1 ∈ jTbl := jmem 1010 (by decide +kernel) (by decide +kernel)
theorem lk_9_287 : Cond.methodLink (jcn 9) 287 y_Shares_weigh.1 ∈ jTbl := jmem 1018 (by decide +kernel) (by decide +kernel)
theorem lk_9_291 : Cond.methodLink (jcn 9) 291 y_Shares_prove.1 ∈ jTbl := jmem 1022 (by decide +kernel) (by decide +kernel)
theorem lk_9_297 : Cond.methodLink (jcn 9) 297 y_Search_find.1 ∈ jTbl := jmem 1038 (by decide +kernel) (by decide +kernel)
theorem lk_9_310 : Cond.methodLink (jcn 9) 310 y_State_copy.1 ∈ jTbl := jmem 1076 (by decide +kernel) (by decide +kernel)
theorem lk_0_3 : Cond.methodLink (jcn 0) 3 Lib.objectInit ∈ jTbl := jmem 362 (by decide +kernel) (by decide +kernel)
theorem lk_0_28 : Cond.methodLink (jcn 0) 28 y_Rows_at.1 ∈ jTbl := jmem 954 (by decide +kernel) (by decide +kernel)
theorem lk_0_34 : Cond.methodLink (jcn 0) 34 y_Judge_isOver.1 ∈ jTbl := jmem 955 (by decide +kernel) (by decide +kernel)
theorem lk_0_38 : Cond.methodLink (jcn 0) 38 y_Judge_judgeMove.1 ∈ jTbl := jmem 961 (by decide +kernel) (by decide +kernel)
theorem lk_0_42 : Cond.methodLink (jcn 0) 42 y_Judge_isHasty.1 ∈ jTbl := jmem 965 (by decide +kernel) (by decide +kernel)
theorem lk_0_45 : Cond.methodLink (jcn 0) 45 y_Judge_isWrong.1 ∈ jTbl := jmem 968 (by decide +kernel) (by decide +kernel)
theorem lk_0_48 : Cond.methodLink (jcn 0) 48 y_Judge_isTooMany.1 ∈ jTbl := jmem 972 (by decide +kernel) (by decide +kernel)
theorem lk_0_51 : Cond.methodLink (jcn 0) 51 y_Judge_judgeQuestion.1 ∈ jTbl := jmem 975 (by decide +kernel) (by decide +kernel)
theorem lk_0_54 : Cond.methodLink (jcn 0) 54 y_State_numberCounting.1 ∈ jTbl := jmem 959 (by decide +kernel) (by decide +kernel)
theorem lk_0_61 : Cond.methodLink (jcn 0) 61 y_Treaty_tells.1 ∈ jTbl := jmem 960 (by decide +kernel) (by decide +kernel)
theorem lk_0_72 : Cond.methodLink (jcn 0) 72 y_Rows_count.1 ∈ jTbl := jmem 964 (by decide +kernel) (by decide +kernel)
theorem lk_0_76 : Cond.methodLink (jcn 0) 76 y_State_placeOn.1 ∈ jTbl := jmem 971 (by decide +kernel) (by decide +kernel)
theorem lk_1_3 : Cond.methodLink (jcn 1) 3 Lib.objectInit ∈ jTbl := jmem 348 (by decide +kernel) (by decide +kernel)
theorem lk_1_25 : Cond.methodLink (jcn 1) 25 y_Rows_count.1 ∈ jTbl := jmem 802 (by decide +kernel) (by decide +kernel)
theorem lk_1_31 : Cond.methodLink (jcn 1) 31 y_Rows_at.1 ∈ jTbl := jmem 803 (by decide +kernel) (by decide +kernel)
theorem lk_1_38 : Cond.methodLink (jcn 1) 38 y_Knowing_placeTold.1 ∈ jTbl := jmem 816 (by decide +kernel) (by decide +kernel)
theorem lk_1_42 : Cond.methodLink (jcn 1) 42 y_Knowing_isPossible.1 ∈ jTbl := jmem 887 (by decide +kernel) (by decide +kernel)
theorem lk_1_48 : Cond.methodLink (jcn 1) 48 y_Knowing_isQuiet.1 ∈ jTbl := jmem 865 (by decide +kernel) (by decide +kernel)
theorem lk_1_52 : Cond.methodLink (jcn 1) 52 y_Knowing_comeAndGo.1 ∈ jTbl := jmem 868 (by decide +kernel) (by decide +kernel)
theorem lk_1_59 : Cond.methodLink (jcn 1) 59 y_Knowing_spread.1 ∈ jTbl := jmem 879 (by decide +kernel) (by decide +kernel)
theorem lk_1_63 : Cond.methodLink (jcn 1) 63 y_Knowing_visitedOn.1 ∈ jTbl := jmem 901 (by decide +kernel) (by decide +kernel)
theorem lk_1_66 : Cond.methodLink (jcn 1) 66 y_Knowing_picturedOn.1 ∈ jTbl := jmem 909 (by decide +kernel) (by decide +kernel)
theorem lk_1_69 : Cond.methodLink (jcn 1) 69 y_Knowing_nextDay.1 ∈ jTbl := jmem 913 (by decide +kernel) (by decide +kernel)
theorem lk_1_79 : Cond.methodLink (jcn 1) 79 y_Knowing_passPortal.1 ∈ jTbl := jmem 872 (by decide +kernel) (by decide +kernel)
theorem lk_1_83 : Cond.methodLink (jcn 1) 83 y_Knowing_fits.1 ∈ jTbl := jmem 876 (by decide +kernel) (by decide +kernel)
theorem lk_1_97 : Cond.methodLink (jcn 1) 97 y_Knowing_least.1 ∈ jTbl := jmem 883 (by decide +kernel) (by decide +kernel)
theorem lk_1_101 : Cond.methodLink (jcn 1) 101 y_Knowing_between.1 ∈ jTbl := jmem 891 (by decide +kernel) (by decide +kernel)
theorem lk_1_105 : Cond.methodLink (jcn 1) 105 y_Knowing_greatest.1 ∈ jTbl := jmem 897 (by decide +kernel) (by decide +kernel)
theorem lk_1_108 : Cond.methodLink (jcn 1) 108 Lib.Math.min.name ∈ jTbl := jmem 894 (by decide +kernel) (by decide +kernel)
theorem lk_1_113 : Cond.methodLink (jcn 1) 113 Lib.Math.max.name ∈ jTbl := jmem 895 (by decide +kernel) (by decide +kernel)
theorem lk_1_118 : Cond.methodLink (jcn 1) 118 y_Knowing_keep.1 ∈ jTbl := jmem 905 (by decide +kernel) (by decide +kernel)
theorem lk_1_128 : Cond.methodLink (jcn 1) 128 y_Knowing_sooner.1 ∈ jTbl := jmem 916 (by decide +kernel) (by decide +kernel)
theorem lk_2_3 : Cond.methodLink (jcn 2) 3 Lib.objectInit ∈ jTbl := jmem 289 (by decide +kernel) (by decide +kernel)
theorem lk_2_11 : Cond.methodLink (jcn 2) 11 y_Rows_init.1 ∈ jTbl := jmem 291 (by decide +kernel) (by decide +kernel)
theorem lk_2_25 : Cond.methodLink (jcn 2) 25 y_Tokens_init.1 ∈ jTbl := jmem 294 (by decide +kernel) (by decide +kernel)
theorem lk_2_48 : Cond.methodLink (jcn 2) 48 y_Tokens_split.1 ∈ jTbl := jmem 615 (by decide +kernel) (by decide +kernel)
theorem lk_2_51 : Cond.methodLink (jcn 2) 51 y_Rows_cut.1 ∈ jTbl := jmem 690 (by decide +kernel) (by decide +kernel)
theorem lk_2_55 : Cond.methodLink (jcn 2) 55 y_Rows_at.1 ∈ jTbl := jmem 691 (by decide +kernel) (by decide +kernel)
theorem lk_2_59 : Cond.methodLink (jcn 2) 59 y_Reader_clause.1 ∈ jTbl := jmem 692 (by decide +kernel) (by decide +kernel)
theorem lk_2_63 : Cond.methodLink (jcn 2) 63 y_Reader_fail.1 ∈ jTbl := jmem 696 (by decide +kernel) (by decide +kernel)
theorem lk_2_66 : Cond.methodLink (jcn 2) 66 y_Rows_open.1 ∈ jTbl := jmem 700 (by decide +kernel) (by decide +kernel)
theorem lk_2_70 : Cond.methodLink (jcn 2) 70 y_Reader_among.1 ∈ jTbl := jmem 701 (by decide +kernel) (by decide +kernel)
theorem lk_2_74 : Cond.methodLink (jcn 2) 74 y_Reader_expect.1 ∈ jTbl := jmem 706 (by decide +kernel) (by decide +kernel)
theorem lk_2_77 : Cond.methodLink (jcn 2) 77 y_Rows_count.1 ∈ jTbl := jmem 710 (by decide +kernel) (by decide +kernel)
theorem lk_2_81 : Cond.methodLink (jcn 2) 81 y_Rows_put.1 ∈ jTbl := jmem 705 (by decide +kernel) (by decide +kernel)
theorem lk_2_85 : Cond.methodLink (jcn 2) 85 y_Reader_either.1 ∈ jTbl := jmem 711 (by decide +kernel) (by decide +kernel)
theorem lk_2_88 : Cond.methodLink (jcn 2) 88 y_Reader_both.1 ∈ jTbl := jmem 715 (by decide +kernel) (by decide +kernel)
theorem lk_2_91 : Cond.methodLink (jcn 2) 91 y_Reader_single.1 ∈ jTbl := jmem 719 (by decide +kernel) (by decide +kernel)
theorem lk_2_94 : Cond.methodLink (jcn 2) 94 y_Reader_one.1 ∈ jTbl := jmem 723 (by decide +kernel) (by decide +kernel)
theorem lk_2_98 : Cond.methodLink (jcn 2) 98 y_Reader_relation.1 ∈ jTbl := jmem 727 (by decide +kernel) (by decide +kernel)
theorem lk_3_3 : Cond.methodLink (jcn 3) 3 Lib.objectInit ∈ jTbl := jmem 138 (by decide +kernel) (by decide +kernel)
theorem lk_3_9 : Cond.methodLink (jcn 3) 9 Lib.Math.max.name ∈ jTbl := jmem 139 (by decide +kernel) (by decide +kernel)
theorem lk_3_28 : Cond.methodLink (jcn 3) 28 Lib.Math.min.name ∈ jTbl := jmem 606 (by decide +kernel) (by decide +kernel)
theorem lk_4_3 : Cond.methodLink (jcn 4) 3 Lib.objectInit ∈ jTbl := jmem 405 (by decide +kernel) (by decide +kernel)
theorem lk_4_27 : Cond.methodLink (jcn 4) 27 Lib.Math.min.name ∈ jTbl := jmem 1042 (by decide +kernel) (by decide +kernel)
theorem lk_4_33 : Cond.methodLink (jcn 4) 33 y_Search_markClosed.1 ∈ jTbl := jmem 1043 (by decide +kernel) (by decide +kernel)
theorem lk_4_37 : Cond.methodLink (jcn 4) 37 y_Search_markEyes.1 ∈ jTbl := jmem 1050 (by decide +kernel) (by decide +kernel)
theorem lk_4_45 : Cond.methodLink (jcn 4) 45 y_Rows_count.1 ∈ jTbl := jmem 1047 (by decide +kernel) (by decide +kernel)
theorem lk_4_51 : Cond.methodLink (jcn 4) 51 y_State_placeOn.1 ∈ jTbl := jmem 1055 (by decide +kernel) (by decide +kernel)
theorem lk_4_54 : Cond.methodLink (jcn 4) 54 y_Rows_at.1 ∈ jTbl := jmem 1048 (by decide +kernel) (by decide +kernel)
theorem lk_4_57 : Cond.methodLink (jcn 4) 57 y_Search_isClosed.1 ∈ jTbl := jmem 1056 (by decide +kernel) (by decide +kernel)
theorem lk_4_67 : Cond.methodLink (jcn 4) 67 y_Search_findDays.1 ∈ jTbl := jmem 1060 (by decide +kernel) (by decide +kernel)
theorem lk_4_74 : Cond.methodLink (jcn 4) 74 y_Search_isEyed.1 ∈ jTbl := jmem 1064 (by decide +kernel) (by decide +kernel)
theorem lk_4_87 : Cond.methodLink (jcn 4) 87 y_State_isSealed.1 ∈ jTbl := jmem 1049 (by decide +kernel) (by decide +kernel)
theorem lk_4_96 : Cond.methodLink (jcn 4) 96 y_State_hasSpot.1 ∈ jTbl := jmem 1054 (by decide +kernel) (by decide +kernel)
theorem lk_5_3 : Cond.methodLink (jcn 5) 3 Lib.objectInit ∈ jTbl := jmem 378 (by decide +kernel) (by decide +kernel)
theorem lk_5_24 : Cond.methodLink (jcn 5) 24 y_Rows_count.1 ∈ jTbl := jmem 994 (by decide +kernel) (by decide +kernel)
theorem lk_5_34 : Cond.methodLink (jcn 5) 34 y_Rows_at.1 ∈ jTbl := jmem 995 (by decide +kernel) (by decide +kernel)
theorem lk_5_41 : Cond.methodLink (jcn 5) 41 y_Shares_evaluate.1 ∈ jTbl := jmem 996 (by decide +kernel) (by decide +kernel)
theorem lk_5_44 : Cond.methodLink (jcn 5) 44 Lib.Math.min.name ∈ jTbl := jmem 1000 (by decide +kernel) (by decide +kernel)
theorem lk_5_49 : Cond.methodLink (jcn 5) 49 y_Shares_reduce.1 ∈ jTbl := jmem 1001 (by decide +kernel) (by decide +kernel)
theorem lk_5_60 : Cond.methodLink (jcn 5) 60 y_Shares_greatestTogether.1 ∈ jTbl := jmem 1026 (by decide +kernel) (by decide +kernel)
theorem lk_6_3 : Cond.methodLink (jcn 6) 3 Lib.objectInit ∈ jTbl := jmem 132 (by decide +kernel) (by decide +kernel)
theorem lk_6_29 : Cond.methodLink (jcn 6) 29 y_Rows_init.1 ∈ jTbl := jmem 135 (by decide +kernel) (by decide +kernel)
theorem lk_6_53 : Cond.methodLink (jcn 6) 53 y_Treaty_init.1 ∈ jTbl := jmem 155 (by decide +kernel) (by decide +kernel)
theorem lk_6_79 : Cond.methodLink (jcn 6) 79 y_Rows_open.1 ∈ jTbl := jmem 175 (by decide +kernel) (by decide +kernel)
theorem lk_6_83 : Cond.methodLink (jcn 6) 83 y_Rows_put.1 ∈ jTbl := jmem 179 (by decide +kernel) (by decide +kernel)
theorem lk_6_87 : Cond.methodLink (jcn 6) 87 y_Rows_count.1 ∈ jTbl := jmem 484 (by decide +kernel) (by decide +kernel)
theorem lk_6_91 : Cond.methodLink (jcn 6) 91 y_Rows_at.1 ∈ jTbl := jmem 492 (by decide +kernel) (by decide +kernel)
theorem lk_6_95 : Cond.methodLink (jcn 6) 95 y_State_shorten.1 ∈ jTbl := jmem 488 (by decide +kernel) (by decide +kernel)
theorem lk_6_99 : Cond.methodLink (jcn 6) 99 y_State_latestSeal.1 ∈ jTbl := jmem 558 (by decide +kernel) (by decide +kernel)
theorem lk_6_102 : Cond.methodLink (jcn 6) 102 y_State_isWhole.1 ∈ jTbl := jmem 562 (by decide +kernel) (by decide +kernel)
theorem lk_6_106 : Cond.methodLink (jcn 6) 106 y_Treaty_look.1 ∈ jTbl := jmem 755 (by decide +kernel) (by decide +kernel)
theorem lk_6_110 : Cond.methodLink (jcn 6) 110 y_Treaty_someHolds.1 ∈ jTbl := jmem 763 (by decide +kernel) (by decide +kernel)
theorem lk_6_113 : Cond.methodLink (jcn 6) 113 y_Treaty_textFor.1 ∈ jTbl := jmem 787 (by decide +kernel) (by decide +kernel)
theorem lk_6_116 : Cond.methodLink (jcn 6) 116 y_State_placeOn.1 ∈ jTbl := jmem 788 (by decide +kernel) (by decide +kernel)
theorem lk_6_119 : Cond.methodLink (jcn 6) 119 y_State_isCounting.1 ∈ jTbl := jmem 789 (by decide +kernel) (by decide +kernel)
theorem lk_6_123 : Cond.methodLink (jcn 6) 123 y_Rows_copy.1 ∈ jTbl := jmem 1080 (by decide +kernel) (by decide +kernel)
theorem lk_6_127 : Cond.methodLink (jcn 6) 127 y_Treaty_copy.1 ∈ jTbl := jmem 1087 (by decide +kernel) (by decide +kernel)
theorem lk_7_3 : Cond.methodLink (jcn 7) 3 Lib.objectInit ∈ jTbl := jmem 297 (by decide +kernel) (by decide +kernel)
theorem lk_7_11 : Cond.methodLink (jcn 7) 11 y_Rows_init.1 ∈ jTbl := jmem 299 (by decide +kernel) (by decide +kernel)
theorem lk_7_27 : Cond.methodLink (jcn 7) 27 y_Rows_open.1 ∈ jTbl := jmem 597 (by decide +kernel) (by decide +kernel)
theorem lk_7_31 : Cond.methodLink (jcn 7) 31 y_Rows_cut.1 ∈ jTbl := jmem 619 (by decide +kernel) (by decide +kernel)
theorem lk_7_35 : Cond.methodLink (jcn 7) 35 y_Rows_at.1 ∈ jTbl := jmem 620 (by decide +kernel) (by decide +kernel)
theorem lk_7_39 : Cond.methodLink (jcn 7) 39 y_Rows_put.1 ∈ jTbl := jmem 621 (by decide +kernel) (by decide +kernel)
theorem lk_7_43 : Cond.methodLink (jcn 7) 43 y_Tokens_isLetter.1 ∈ jTbl := jmem 622 (by decide +kernel) (by decide +kernel)
theorem lk_7_47 : Cond.methodLink (jcn 7) 47 y_Tokens_takeWord.1 ∈ jTbl := jmem 625 (by decide +kernel) (by decide +kernel)
theorem lk_7_51 : Cond.methodLink (jcn 7) 51 y_Tokens_isDigit.1 ∈ jTbl := jmem 678 (by decide +kernel) (by decide +kernel)
theorem lk_7_54 : Cond.methodLink (jcn 7) 54 y_Tokens_takeNumber.1 ∈ jTbl := jmem 681 (by decide +kernel) (by decide +kernel)
theorem lk_7_57 : Cond.methodLink (jcn 7) 57 y_Tokens_takeSign.1 ∈ jTbl := jmem 686 (by decide +kernel) (by decide +kernel)
theorem lk_7_71 : Cond.methodLink (jcn 7) 71 Lib.Math.min.name ∈ jTbl := jmem 685 (by decide +kernel) (by decide +kernel)
theorem lk_8_3 : Cond.methodLink (jcn 8) 3 Lib.objectInit ∈ jTbl := jmem 158 (by decide +kernel) (by decide +kernel)
theorem lk_8_11 : Cond.methodLink (jcn 8) 11 y_Rows_init.1 ∈ jTbl := jmem 160 (by decide +kernel) (by decide +kernel)
theorem lk_8_30 : Cond.methodLink (jcn 8) 30 y_Rows_copy.1 ∈ jTbl := jmem 1091 (by decide +kernel) (by decide +kernel)
theorem lk_8_34 : Cond.methodLink (jcn 8) 34 y_Rows_open.1 ∈ jTbl := jmem 735 (by decide +kernel) (by decide +kernel)
theorem lk_8_38 : Cond.methodLink (jcn 8) 38 y_Rows_count.1 ∈ jTbl := jmem 541 (by decide +kernel) (by decide +kernel)
theorem lk_8_42 : Cond.methodLink (jcn 8) 42 y_Rows_put.1 ∈ jTbl := jmem 736 (by decide +kernel) (by decide +kernel)
theorem lk_8_49 : Cond.methodLink (jcn 8) 49 y_Rows_at.1 ∈ jTbl := jmem 542 (by decide +kernel) (by decide +kernel)
theorem lk_8_54 : Cond.methodLink (jcn 8) 54 y_Treaty_limitOn.1 ∈ jTbl := jmem 533 (by decide +kernel) (by decide +kernel)
theorem lk_8_57 : Cond.methodLink (jcn 8) 57 y_Treaty_first.1 ∈ jTbl := jmem 546 (by decide +kernel) (by decide +kernel)
theorem lk_8_61 : Cond.methodLink (jcn 8) 61 y_Treaty_textFor.1 ∈ jTbl := jmem 537 (by decide +kernel) (by decide +kernel)
theorem lk_8_64 : Cond.methodLink (jcn 8) 64 Lib.Math.min.name ∈ jTbl := jmem 543 (by decide +kernel) (by decide +kernel)
theorem lk_8_69 : Cond.methodLink (jcn 8) 69 y_Treaty_see.1 ∈ jTbl := jmem 759 (by decide +kernel) (by decide +kernel)
theorem lk_8_72 : Cond.methodLink (jcn 8) 72 y_Treaty_holds.1 ∈ jTbl := jmem 767 (by decide +kernel) (by decide +kernel)
theorem lk_8_78 : Cond.methodLink (jcn 8) 78 y_Treaty_operand.1 ∈ jTbl := jmem 772 (by decide +kernel) (by decide +kernel)
theorem lk_8_81 : Cond.methodLink (jcn 8) 81 y_Treaty_compares.1 ∈ jTbl := jmem 776 (by decide +kernel) (by decide +kernel)
theorem lk_10_1 : Cond.methodLink (jcn 10) 1 Lib.objectInit ∈ jTbl := jmem 1105 (by decide +kernel) (by decide +kernel)
theorem lk_10_42 : Cond.methodLink (jcn 10) 42 y_Model_copy.1 ∈ jTbl := jmem 1106 (by decide +kernel) (by decide +kernel)
theorem lk_10_46 : Cond.methodLink (jcn 10) 46 y_Model_isIn.1 ∈ jTbl := jmem 1192 (by decide +kernel) (by decide +kernel)
theorem lk_10_50 : Cond.methodLink (jcn 10) 50 y_Model_isSite.1 ∈ jTbl := jmem 1199 (by decide +kernel) (by decide +kernel)
theorem lk_10_54 : Cond.methodLink (jcn 10) 54 y_Model_siteAt.1 ∈ jTbl := jmem 1203 (by decide +kernel) (by decide +kernel)
theorem lk_10_59 : Cond.methodLink (jcn 10) 59 y_Model_wayOf.1 ∈ jTbl := jmem 1211 (by decide +kernel) (by decide +kernel)
theorem lk_10_62 : Cond.methodLink (jcn 10) 62 y_Model_noted.1 ∈ jTbl := jmem 1228 (by decide +kernel) (by decide +kernel)
theorem lk_10_66 : Cond.methodLink (jcn 10) 66 y_Model_thingAt.1 ∈ jTbl := jmem 1247 (by decide +kernel) (by decide +kernel)
theorem lk_10_69 : Cond.methodLink (jcn 10) 69 y_Model_moveAt.1 ∈ jTbl := jmem 1251 (by decide +kernel) (by decide +kernel)
theorem lk_10_72 : Cond.methodLink (jcn 10) 72 y_Model_isThing.1 ∈ jTbl := jmem 1236 (by decide +kernel) (by decide +kernel)
theorem lk_10_75 : Cond.methodLink (jcn 10) 75 y_Model_isDay.1 ∈ jTbl := jmem 1240 (by decide +kernel) (by decide +kernel)
theorem lk_10_78 : Cond.methodLink (jcn 10) 78 y_Model_whereOf.1 ∈ jTbl := jmem 1243 (by decide +kernel) (by decide +kernel)
theorem lk_10_81 : Cond.methodLink (jcn 10) 81 y_Model_saysOf.1 ∈ jTbl := jmem 1263 (by decide +kernel) (by decide +kernel)
theorem lk_10_84 : Cond.methodLink (jcn 10) 84 y_Model_isBroken.1 ∈ jTbl := jmem 1307 (by decide +kernel) (by decide +kernel)
theorem lk_10_87 : Cond.methodLink (jcn 10) 87 y_Model_sealOf.1 ∈ jTbl := jmem 1299 (by decide +kernel) (by decide +kernel)
theorem lk_10_91 : Cond.methodLink (jcn 10) 91 y_Model_isWhole.1 ∈ jTbl := jmem 1303 (by decide +kernel) (by decide +kernel)
theorem lk_10_95 : Cond.methodLink (jcn 10) 95 y_Model_isSealed.1 ∈ jTbl := jmem 1295 (by decide +kernel) (by decide +kernel)
theorem lk_10_101 : Cond.methodLink (jcn 10) 101 y_Model_four.1 ∈ jTbl := jmem 1327 (by decide +kernel) (by decide +kernel)
theorem lk_10_108 : Cond.methodLink (jcn 10) 108 y_Model_see.1 ∈ jTbl := jmem 1347 (by decide +kernel) (by decide +kernel)
theorem lk_10_117 : Cond.methodLink (jcn 10) 117 y_Model_isDigit.1 ∈ jTbl := jmem 1351 (by decide +kernel) (by decide +kernel)
theorem lk_10_124 : Cond.methodLink (jcn 10) 124 y_Model_isLetter.1 ∈ jTbl := jmem 1355 (by decide +kernel) (by decide +kernel)
theorem lk_10_131 : Cond.methodLink (jcn 10) 131 y_Model_w3.1 ∈ jTbl := jmem 1375 (by decide +kernel) (by decide +kernel)
theorem lk_10_135 : Cond.methodLink (jcn 10) 135 y_Model_w4.1 ∈ jTbl := jmem 1372 (by decide +kernel) (by decide +kernel)
theorem lk_10_139 : Cond.methodLink (jcn 10) 139 y_Model_w5.1 ∈ jTbl := jmem 1369 (by decide +kernel) (by decide +kernel)
theorem lk_10_143 : Cond.methodLink (jcn 10) 143 y_Model_isWord.1 ∈ jTbl := jmem 1382 (by decide +kernel) (by decide +kernel)
theorem lk_10_147 : Cond.methodLink (jcn 10) 147 y_Model_nextToken.1 ∈ jTbl := jmem 1343 (by decide +kernel) (by decide +kernel)
theorem lk_10_162 : Cond.methodLink (jcn 10) 162 y_Model_emit.1 ∈ jTbl := jmem 1403 (by decide +kernel) (by decide +kernel)
theorem lk_10_166 : Cond.methodLink (jcn 10) 166 y_Model_w6.1 ∈ jTbl := jmem 1366 (by decide +kernel) (by decide +kernel)
theorem lk_10_170 : Cond.methodLink (jcn 10) 170 y_Model_nameOf.1 ∈ jTbl := jmem 1399 (by decide +kernel) (by decide +kernel)
theorem lk_10_174 : Cond.methodLink (jcn 10) 174 y_Model_one.1 ∈ jTbl := jmem 1395 (by decide +kernel) (by decide +kernel)
theorem lk_10_177 : Cond.methodLink (jcn 10) 177 y_Model_compareOf.1 ∈ jTbl := jmem 1407 (by decide +kernel) (by decide +kernel)
theorem lk_10_180 : Cond.methodLink (jcn 10) 180 y_Model_whole1.1 ∈ jTbl := jmem 1411 (by decide +kernel) (by decide +kernel)
theorem lk_10_185 : Cond.methodLink (jcn 10) 185 y_Model_push.1 ∈ jTbl := jmem 1387 (by decide +kernel) (by decide +kernel)
theorem lk_10_188 : Cond.methodLink (jcn 10) 188 y_Model_compare.1 ∈ jTbl := jmem 1391 (by decide +kernel) (by decide +kernel)
theorem lk_10_191 : Cond.methodLink (jcn 10) 191 y_Model_settle.1 ∈ jTbl := jmem 1415 (by decide +kernel) (by decide +kernel)
theorem lk_10_194 : Cond.methodLink (jcn 10) 194 y_Model_hasParen.1 ∈ jTbl := jmem 1419 (by decide +kernel) (by decide +kernel)
theorem lk_10_198 : Cond.methodLink (jcn 10) 198 y_Model_take.1 ∈ jTbl := jmem 1427 (by decide +kernel) (by decide +kernel)
theorem lk_10_202 : Cond.methodLink (jcn 10) 202 y_Model_need.1 ∈ jTbl := jmem 1431 (by decide +kernel) (by decide +kernel)
theorem lk_10_208 : Cond.methodLink (jcn 10) 208 y_Model_sortOf.1 ∈ jTbl := jmem 1362 (by decide +kernel) (by decide +kernel)
theorem lk_10_214 : Cond.methodLink (jcn 10) 214 y_Model_either.1 ∈ jTbl := jmem 1378 (by decide +kernel) (by decide +kernel)
theorem lk_10_217 : Cond.methodLink (jcn 10) 217 y_Model_limit.1 ∈ jTbl := jmem 1423 (by decide +kernel) (by decide +kernel)
theorem lk_10_220 : Cond.methodLink (jcn 10) 220 y_Model_stepping.1 ∈ jTbl := jmem 1436 (by decide +kernel) (by decide +kernel)
theorem lk_10_223 : Cond.methodLink (jcn 10) 223 y_Model_clause.1 ∈ jTbl := jmem 1358 (by decide +kernel) (by decide +kernel)
theorem lk_10_226 : Cond.methodLink (jcn 10) 226 y_Model_readText.1 ∈ jTbl := jmem 1339 (by decide +kernel) (by decide +kernel)
theorem lk_10_229 : Cond.methodLink (jcn 10) 229 y_Model_clausesOf.1 ∈ jTbl := jmem 1279 (by decide +kernel) (by decide +kernel)
theorem lk_10_232 : Cond.methodLink (jcn 10) 232 y_Model_clauseAt.1 ∈ jTbl := jmem 1283 (by decide +kernel) (by decide +kernel)
theorem lk_10_235 : Cond.methodLink (jcn 10) 235 y_Model_firstOf.1 ∈ jTbl := jmem 1275 (by decide +kernel) (by decide +kernel)
theorem lk_10_238 : Cond.methodLink (jcn 10) 238 y_Model_textFor.1 ∈ jTbl := jmem 1271 (by decide +kernel) (by decide +kernel)
theorem lk_10_241 : Cond.methodLink (jcn 10) 241 y_Model_limitOf.1 ∈ jTbl := jmem 1267 (by decide +kernel) (by decide +kernel)
theorem lk_10_244 : Cond.methodLink (jcn 10) 244 y_Model_numberOf.1 ∈ jTbl := jmem 1287 (by decide +kernel) (by decide +kernel)
theorem lk_10_248 : Cond.methodLink (jcn 10) 248 y_Model_named.1 ∈ jTbl := jmem 1464 (by decide +kernel) (by decide +kernel)
theorem lk_10_251 : Cond.methodLink (jcn 10) 251 y_Model_isAsked.1 ∈ jTbl := jmem 1468 (by decide +kernel) (by decide +kernel)
theorem lk_10_254 : Cond.methodLink (jcn 10) 254 y_Model_isSo.1 ∈ jTbl := jmem 1460 (by decide +kernel) (by decide +kernel)
theorem lk_10_258 : Cond.methodLink (jcn 10) 258 y_Model_classOf.1 ∈ jTbl := jmem 1452 (by decide +kernel) (by decide +kernel)
theorem lk_10_261 : Cond.methodLink (jcn 10) 261 y_Model_isOne.1 ∈ jTbl := jmem 1456 (by decide +kernel) (by decide +kernel)
theorem lk_10_265 : Cond.methodLink (jcn 10) 265 y_Model_countedOf.1 ∈ jTbl := jmem 1475 (by decide +kernel) (by decide +kernel)
theorem lk_10_268 : Cond.methodLink (jcn 10) 268 y_Model_toldOf.1 ∈ jTbl := jmem 1487 (by decide +kernel) (by decide +kernel)
theorem lk_10_271 : Cond.methodLink (jcn 10) 271 y_Model_toldThere.1 ∈ jTbl := jmem 1495 (by decide +kernel) (by decide +kernel)
theorem lk_10_274 : Cond.methodLink (jcn 10) 274 y_Model_isCloudy.1 ∈ jTbl := jmem 1511 (by decide +kernel) (by decide +kernel)
theorem lk_10_277 : Cond.methodLink (jcn 10) 277 y_Model_fits.1 ∈ jTbl := jmem 1544 (by decide +kernel) (by decide +kernel)
theorem lk_10_282 : Cond.methodLink (jcn 10) 282 y_Model_shifted.1 ∈ jTbl := jmem 1540 (by decide +kernel) (by decide +kernel)
theorem lk_10_286 : Cond.methodLink (jcn 10) 286 y_Model_span.1 ∈ jTbl := jmem 1552 (by decide +kernel) (by decide +kernel)
theorem lk_10_290 : Cond.methodLink (jcn 10) 290 y_Model_isQuiet.1 ∈ jTbl := jmem 1532 (by decide +kernel) (by decide +kernel)
theorem lk_10_293 : Cond.methodLink (jcn 10) 293 y_Model_recorded.1 ∈ jTbl := jmem 1536 (by decide +kernel) (by decide +kernel)
theorem lk_10_297 : Cond.methodLink (jcn 10) 297 y_Model_seen.1 ∈ jTbl := jmem 1548 (by decide +kernel) (by decide +kernel)
theorem lk_10_301 : Cond.methodLink (jcn 10) 301 y_Model_isPossible.1 ∈ jTbl := jmem 1523 (by decide +kernel) (by decide +kernel)
theorem lk_10_304 : Cond.methodLink (jcn 10) 304 y_Model_possibleOf.1 ∈ jTbl := jmem 1527 (by decide +kernel) (by decide +kernel)
theorem lk_10_307 : Cond.methodLink (jcn 10) 307 y_Model_isDoubted.1 ∈ jTbl := jmem 1559 (by decide +kernel) (by decide +kernel)
theorem lk_10_310 : Cond.methodLink (jcn 10) 310 y_Model_judgedMove.1 ∈ jTbl := jmem 1587 (by decide +kernel) (by decide +kernel)
theorem lk_10_313 : Cond.methodLink (jcn 10) 313 y_Model_judgedVisit.1 ∈ jTbl := jmem 1591 (by decide +kernel) (by decide +kernel)
theorem lk_10_316 : Cond.methodLink (jcn 10) 316 y_Model_judgedQuestion.1 ∈ jTbl := jmem 1595 (by decide +kernel) (by decide +kernel)
theorem lk_10_319 : Cond.methodLink (jcn 10) 319 y_Model_judgedOf.1 ∈ jTbl := jmem 1583 (by decide +kernel) (by decide +kernel)
theorem lk_10_322 : Cond.methodLink (jcn 10) 322 y_Model_manyOf.1 ∈ jTbl := jmem 1615 (by decide +kernel) (by decide +kernel)
theorem lk_10_325 : Cond.methodLink (jcn 10) 325 y_Model_common.1 ∈ jTbl := jmem 1624 (by decide +kernel) (by decide +kernel)
theorem lk_10_335 : Cond.methodLink (jcn 10) 335 y_Model_isSet.1 ∈ jTbl := jmem 1611 (by decide +kernel) (by decide +kernel)
theorem lk_10_340 : Cond.methodLink (jcn 10) 340 y_Model_valueOf.1 ∈ jTbl := jmem 1620 (by decide +kernel) (by decide +kernel)
theorem lk_10_343 : Cond.methodLink (jcn 10) 343 y_Model_isTold.1 ∈ jTbl := jmem 1639 (by decide +kernel) (by decide +kernel)
theorem lk_10_346 : Cond.methodLink (jcn 10) 346 y_Model_isSeen.1 ∈ jTbl := jmem 1651 (by decide +kernel) (by decide +kernel)
theorem lk_10_358 : Cond.methodLink (jcn 10) 358 y_Model_find.1 ∈ jTbl := jmem 1647 (by decide +kernel) (by decide +kernel)
theorem ms_max : Cond.static Lib.Math.max.name ∈ jTbl := jmem 140 (by decide +kernel) (by decide +kernel)
theorem mc_max : Cond.code Lib.Math.max.name Lib.Math.max.code 2 (some .int) ∈ jTbl := jmem 141 (by decide +kernel) (by decide +kernel)
theorem ms_min : Cond.static Lib.Math.min.name ∈ jTbl := jmem 544 (by decide +kernel) (by decide +kernel)
theorem mc_min : Cond.code Lib.Math.min.name Lib.Math.min.code 2 (some .int) ∈ jTbl := jmem 545 (by decide +kernel) (by decide +kernel)
theorem hMath : Cond.initialized "java/lang/Math" ∈ jTbl := jmem 105 (by decide +kernel) (by decide +kernel)
