/-! our methods: name, code, locals, answer; what the tables say of them; links by owner and pool place; depths -/
theorem jmt1 {w : Cond} (h : w ∈ tables_1_1) (hg : goodWord w = true) : w ∈ jTbl := jmem2 (List.mem_append_right _ (List.mem_append_left _ h)) hg
theorem jmt2 {w : Cond} (h : w ∈ tables_1_2) (hg : goodWord w = true) : w ∈ jTbl := jmem2 (List.mem_append_right _ (List.mem_append_right _ (List.mem_append_left _ h))) hg
theorem jmt3 {w : Cond} (h : w ∈ tables_1_3) (hg : goodWord w = true) : w ∈ jTbl := jmem2 (List.mem_append_right _ (List.mem_append_right _ (List.mem_append_right _ (List.mem_append_left _ h)))) hg
theorem jmt4 {w : Cond} (h : w ∈ tables_1_4) (hg : goodWord w = true) : w ∈ jTbl := jmem2 (List.mem_append_right _ (List.mem_append_right _ (List.mem_append_right _ (List.mem_append_right _ (h))))) hg
theorem ji_0 : Cond.initialized (jcn 0) ∈ jTbl := jmem 31 (by decide +kernel) (by decide +kernel)
theorem ji_1 : Cond.initialized (jcn 1) ∈ jTbl := jmem 30 (by decide +kernel) (by decide +kernel)
theorem ji_2 : Cond.initialized (jcn 2) ∈ jTbl := jmem 28 (by decide +kernel) (by decide +kernel)
theorem ji_3 : Cond.initialized (jcn 3) ∈ jTbl := jmem 25 (by decide +kernel) (by decide +kernel)
theorem ji_4 : Cond.initialized (jcn 4) ∈ jTbl := jmem 33 (by decide +kernel) (by decide +kernel)
theorem ji_5 : Cond.initialized (jcn 5) ∈ jTbl := jmem 32 (by decide +kernel) (by decide +kernel)
theorem ji_6 : Cond.initialized (jcn 6) ∈ jTbl := jmem 24 (by decide +kernel) (by decide +kernel)
theorem ji_7 : Cond.initialized (jcn 7) ∈ jTbl := jmem 29 (by decide +kernel) (by decide +kernel)
theorem ji_8 : Cond.initialized (jcn 8) ∈ jTbl := jmem 27 (by decide +kernel) (by decide +kernel)
theorem ji_9 : Cond.initialized (jcn 9) ∈ jTbl := jmem 23 (by decide +kernel) (by decide +kernel)
theorem ji_10 : Cond.initialized (jcn 10) ∈ jTbl := jmem 22 (by decide +kernel) (by decide +kernel)
theorem ji_11 : Cond.initialized (jcn 11) ∈ jTbl := jmem 34 (by decide +kernel) (by decide +kernel)
theorem ji_12 : Cond.initialized (jcn 12) ∈ jTbl := jmem 26 (by decide +kernel) (by decide +kernel)
abbrev y_Rows_init : jM := (⟨"CountTreaty$Rows", "<init>", "(II)V"⟩, prog_5_method_1_code, 3, none)
abbrev d_Rows_init : Nat × Nat := (1, 21)
theorem jcm_Rows_init : Cond.code y_Rows_init.1 y_Rows_init.2.1 y_Rows_init.2.2.1 y_Rows_init.2.2.2 ∈ jTbl := jmt1 (List.mem_of_getElem? (i := 31) rfl) rfl
theorem mo_Rows_init : jMo y_Rows_init 2 := ⟨jcm_Rows_init, ji_3, ⟨by decide, by decide⟩, by decide +kernel⟩
theorem mi_Rows_init : Cond.instanceMethod y_Rows_init.1 ∈ jTbl ∧ y_Rows_init.1.name = "<init>" ∧ y_Rows_init.2.2.2 = none := ⟨jmem 52 (by decide +kernel) (by decide +kernel), rfl, rfl⟩
abbrev y_Treaty_init : jM := (⟨"CountTreaty$Treaty", "<init>", "()V"⟩, prog_10_method_1_code, 1, none)
abbrev d_Treaty_init : Nat × Nat := (2, 43)
theorem jcm_Treaty_init : Cond.code y_Treaty_init.1 y_Treaty_init.2.1 y_Treaty_init.2.2.1 y_Treaty_init.2.2.2 ∈ jTbl := jmt1 (List.mem_of_getElem? (i := 51) rfl) rfl
theorem mo_Treaty_init : jMo y_Treaty_init 0 := ⟨jcm_Treaty_init, ji_8, ⟨by decide, by decide⟩, by decide +kernel⟩
theorem mi_Treaty_init : Cond.instanceMethod y_Treaty_init.1 ∈ jTbl ∧ y_Treaty_init.1.name = "<init>" ∧ y_Treaty_init.2.2.2 = none := ⟨jmem 72 (by decide +kernel) (by decide +kernel), rfl, rfl⟩
abbrev y_Rows_open : jM := (⟨"CountTreaty$Rows", "open", "(I)I"⟩, prog_5_method_7_code, 4, some .int)
abbrev d_Rows_open : Nat × Nat := (0, 0)
theorem jcm_Rows_open : Cond.code y_Rows_open.1 y_Rows_open.2.1 y_Rows_open.2.2.1 y_Rows_open.2.2.2 ∈ jTbl := jmt1 (List.mem_of_getElem? (i := 72) rfl) rfl
theorem mo_Rows_open : jMo y_Rows_open 1 := ⟨jcm_Rows_open, ji_3, ⟨by decide, by decide⟩, by decide +kernel⟩
theorem mv_Rows_open : Cond.instanceMethod y_Rows_open.1 ∈ jTbl ∧ Cond.selects y_Rows_open.1.cls y_Rows_open.1 y_Rows_open.1 ∈ jTbl := ⟨jmem 92 (by decide +kernel) (by decide +kernel), jmem 93 (by decide +kernel) (by decide +kernel)⟩
abbrev y_Rows_put : jM := (⟨"CountTreaty$Rows", "put", "(III)V"⟩, prog_5_method_6_code, 5, none)
abbrev d_Rows_put : Nat × Nat := (0, 0)
theorem jcm_Rows_put : Cond.code y_Rows_put.1 y_Rows_put.2.1 y_Rows_put.2.2.1 y_Rows_put.2.2.2 ∈ jTbl := jmt1 (List.mem_of_getElem? (i := 76) rfl) rfl
theorem mo_Rows_put : jMo y_Rows_put 3 := ⟨jcm_Rows_put, ji_3, ⟨by decide, by decide⟩, by decide +kernel⟩
theorem mv_Rows_put : Cond.instanceMethod y_Rows_put.1 ∈ jTbl ∧ Cond.selects y_Rows_put.1.cls y_Rows_put.1 y_Rows_put.1 ∈ jTbl := ⟨jmem 96 (by decide +kernel) (by decide +kernel), jmem 97 (by decide +kernel) (by decide +kernel)⟩
abbrev y_State_init : jM := (⟨"CountTreaty$State", "<init>", "()V"⟩, prog_8_method_1_code, 2, none)
abbrev d_State_init : Nat × Nat := (3, 63)
theorem jcm_State_init : Cond.code y_State_init.1 y_State_init.2.1 y_State_init.2.2.1 y_State_init.2.2.2 ∈ jTbl := jmt1 (List.mem_of_getElem? (i := 25) rfl) rfl
theorem mo_State_init : jMo y_State_init 0 := ⟨jcm_State_init, ji_6, ⟨by decide, by decide⟩, by decide +kernel⟩
theorem mi_State_init : Cond.instanceMethod y_State_init.1 ∈ jTbl ∧ y_State_init.1.name = "<init>" ∧ y_State_init.2.2.2 = none := ⟨jmem 46 (by decide +kernel) (by decide +kernel), rfl, rfl⟩
abbrev y_Tokens_init : jM := (⟨"CountTreaty$Tokens", "<init>", "()V"⟩, prog_9_method_1_code, 1, none)
abbrev d_Tokens_init : Nat × Nat := (2, 43)
theorem jcm_Tokens_init : Cond.code y_Tokens_init.1 y_Tokens_init.2.1 y_Tokens_init.2.2.1 y_Tokens_init.2.2.2 ∈ jTbl := jmt1 (List.mem_of_getElem? (i := 182) rfl) rfl
theorem mo_Tokens_init : jMo y_Tokens_init 0 := ⟨jcm_Tokens_init, ji_7, ⟨by decide, by decide⟩, by decide +kernel⟩
theorem mi_Tokens_init : Cond.instanceMethod y_Tokens_init.1 ∈ jTbl ∧ y_Tokens_init.1.name = "<init>" ∧ y_Tokens_init.2.2.2 = none := ⟨jmem 203 (by decide +kernel) (by decide +kernel), rfl, rfl⟩
abbrev y_Reader_init : jM := (⟨"CountTreaty$Reader", "<init>", "()V"⟩, prog_4_method_1_code, 1, none)
abbrev d_Reader_init : Nat × Nat := (3, 63)
theorem jcm_Reader_init : Cond.code y_Reader_init.1 y_Reader_init.2.1 y_Reader_init.2.2.1 y_Reader_init.2.2.2 ∈ jTbl := jmt1 (List.mem_of_getElem? (i := 174) rfl) rfl
theorem mo_Reader_init : jMo y_Reader_init 0 := ⟨jcm_Reader_init, ji_2, ⟨by decide, by decide⟩, by decide +kernel⟩
theorem mi_Reader_init : Cond.instanceMethod y_Reader_init.1 ∈ jTbl ∧ y_Reader_init.1.name = "<init>" ∧ y_Reader_init.2.2.2 = none := ⟨jmem 195 (by decide +kernel) (by decide +kernel), rfl, rfl⟩
abbrev y_Knowing_init : jM := (⟨"CountTreaty$Knowing", "<init>", "()V"⟩, prog_3_method_1_code, 1, none)
abbrev d_Knowing_init : Nat × Nat := (1, 21)
theorem jcm_Knowing_init : Cond.code y_Knowing_init.1 y_Knowing_init.2.1 y_Knowing_init.2.2.1 y_Knowing_init.2.2.2 ∈ jTbl := jmt1 (List.mem_of_getElem? (i := 228) rfl) rfl
theorem mo_Knowing_init : jMo y_Knowing_init 0 := ⟨jcm_Knowing_init, ji_1, ⟨by decide, by decide⟩, by decide +kernel⟩
theorem mi_Knowing_init : Cond.instanceMethod y_Knowing_init.1 ∈ jTbl ∧ y_Knowing_init.1.name = "<init>" ∧ y_Knowing_init.2.2.2 = none := ⟨jmem 249 (by decide +kernel) (by decide +kernel), rfl, rfl⟩
abbrev y_Judge_init : jM := (⟨"CountTreaty$Judge", "<init>", "()V"⟩, prog_2_method_1_code, 1, none)
abbrev d_Judge_init : Nat × Nat := (1, 21)
theorem jcm_Judge_init : Cond.code y_Judge_init.1 y_Judge_init.2.1 y_Judge_init.2.2.1 y_Judge_init.2.2.2 ∈ jTbl := jmt2 (List.mem_of_getElem? (i := 2) rfl) rfl
theorem mo_Judge_init : jMo y_Judge_init 0 := ⟨jcm_Judge_init, ji_0, ⟨by decide, by decide⟩, by decide +kernel⟩
theorem mi_Judge_init : Cond.instanceMethod y_Judge_init.1 ∈ jTbl ∧ y_Judge_init.1.name = "<init>" ∧ y_Judge_init.2.2.2 = none := ⟨jmem 263 (by decide +kernel) (by decide +kernel), rfl, rfl⟩
abbrev y_Shares_init : jM := (⟨"CountTreaty$Shares", "<init>", "()V"⟩, prog_7_method_1_code, 1, none)
abbrev d_Shares_init : Nat × Nat := (1, 21)
theorem jcm_Shares_init : Cond.code y_Shares_init.1 y_Shares_init.2.1 y_Shares_init.2.2.1 y_Shares_init.2.2.2 ∈ jTbl := jmt2 (List.mem_of_getElem? (i := 18) rfl) rfl
theorem mo_Shares_init : jMo y_Shares_init 0 := ⟨jcm_Shares_init, ji_5, ⟨by decide, by decide⟩, by decide +kernel⟩
theorem mi_Shares_init : Cond.instanceMethod y_Shares_init.1 ∈ jTbl ∧ y_Shares_init.1.name = "<init>" ∧ y_Shares_init.2.2.2 = none := ⟨jmem 279 (by decide +kernel) (by decide +kernel), rfl, rfl⟩
abbrev y_Search_init : jM := (⟨"CountTreaty$Search", "<init>", "()V"⟩, prog_6_method_1_code, 1, none)
abbrev d_Search_init : Nat × Nat := (1, 21)
theorem jcm_Search_init : Cond.code y_Search_init.1 y_Search_init.2.1 y_Search_init.2.2.1 y_Search_init.2.2.2 ∈ jTbl := jmt2 (List.mem_of_getElem? (i := 45) rfl) rfl
theorem mo_Search_init : jMo y_Search_init 0 := ⟨jcm_Search_init, ji_4, ⟨by decide, by decide⟩, by decide +kernel⟩
theorem mi_Search_init : Cond.instanceMethod y_Search_init.1 ∈ jTbl ∧ y_Search_init.1.name = "<init>" ∧ y_Search_init.2.2.2 = none := ⟨jmem 306 (by decide +kernel) (by decide +kernel), rfl, rfl⟩
abbrev y_Count_init : jM := (⟨"CountTreaty", "<init>", "()V"⟩, prog_1_method_1_code, 1, none)
abbrev d_Count_init : Nat × Nat := (4, 84)
theorem jcm_Count_init : Cond.code y_Count_init.1 y_Count_init.2.1 y_Count_init.2.2.1 y_Count_init.2.2.2 ∈ jTbl := jmt1 (List.mem_of_getElem? (i := 17) rfl) rfl
theorem mo_Count_init : jMo y_Count_init 0 := ⟨jcm_Count_init, ji_9, ⟨by decide, by decide⟩, by decide +kernel⟩
theorem mi_Count_init : Cond.instanceMethod y_Count_init.1 ∈ jTbl ∧ y_Count_init.1.name = "<init>" ∧ y_Count_init.2.2.2 = none := ⟨jmem 38 (by decide +kernel) (by decide +kernel), rfl, rfl⟩
abbrev y_State_isLand : jM := (⟨"CountTreaty$State", "isLand", "(I)Z"⟩, prog_8_method_3_code, 1, some .boolean)
abbrev d_State_isLand : Nat × Nat := (0, 0)
theorem jcm_State_isLand : Cond.code y_State_isLand.1 y_State_isLand.2.1 y_State_isLand.2.2.1 y_State_isLand.2.2.2 ∈ jTbl := jmt2 (List.mem_of_getElem? (i := 98) rfl) rfl
theorem mo_State_isLand : jMo y_State_isLand 1 := ⟨jcm_State_isLand, ji_6, ⟨by decide, by decide⟩, by decide +kernel⟩
theorem ms_State_isLand : Cond.static y_State_isLand.1 ∈ jTbl := jmem 359 (by decide +kernel) (by decide +kernel)
abbrev y_Rows_isFull : jM := (⟨"CountTreaty$Rows", "isFull", "()Z"⟩, prog_5_method_4_code, 1, some .boolean)
abbrev d_Rows_isFull : Nat × Nat := (0, 0)
theorem jcm_Rows_isFull : Cond.code y_Rows_isFull.1 y_Rows_isFull.2.1 y_Rows_isFull.2.2.1 y_Rows_isFull.2.2.2 ∈ jTbl := jmt2 (List.mem_of_getElem? (i := 102) rfl) rfl
theorem mo_Rows_isFull : jMo y_Rows_isFull 0 := ⟨jcm_Rows_isFull, ji_3, ⟨by decide, by decide⟩, by decide +kernel⟩
theorem mv_Rows_isFull : Cond.instanceMethod y_Rows_isFull.1 ∈ jTbl ∧ Cond.selects y_Rows_isFull.1.cls y_Rows_isFull.1 y_Rows_isFull.1 ∈ jTbl := ⟨jmem 362 (by decide +kernel) (by decide +kernel), jmem 363 (by decide +kernel) (by decide +kernel)⟩
abbrev y_State_openWays : jM := (⟨"CountTreaty$State", "openWays", "(I)V"⟩, prog_8_method_8_code, 3, none)
abbrev d_State_openWays : Nat × Nat := (1, 24)
theorem jcm_State_openWays : Cond.code y_State_openWays.1 y_State_openWays.2.1 y_State_openWays.2.2.1 y_State_openWays.2.2.2 ∈ jTbl := jmt2 (List.mem_of_getElem? (i := 108) rfl) rfl
theorem mo_State_openWays : jMo y_State_openWays 1 := ⟨jcm_State_openWays, ji_6, ⟨by decide, by decide⟩, by decide +kernel⟩
theorem mv_State_openWays : Cond.instanceMethod y_State_openWays.1 ∈ jTbl ∧ Cond.selects y_State_openWays.1.cls y_State_openWays.1 y_State_openWays.1 ∈ jTbl := ⟨jmem 368 (by decide +kernel) (by decide +kernel), jmem 369 (by decide +kernel) (by decide +kernel)⟩
abbrev y_Count_site : jM := (⟨"CountTreaty", "site", "(IIZZ)I"⟩, prog_1_method_2_code, 6, some .int)
abbrev d_Count_site : Nat × Nat := (2, 46)
theorem jcm_Count_site : Cond.code y_Count_site.1 y_Count_site.2.1 y_Count_site.2.2.1 y_Count_site.2.2.2 ∈ jTbl := jmt2 (List.mem_of_getElem? (i := 95) rfl) rfl
theorem mo_Count_site : jMo y_Count_site 4 := ⟨jcm_Count_site, ji_9, ⟨by decide, by decide⟩, by decide +kernel⟩
theorem mv_Count_site : Cond.instanceMethod y_Count_site.1 ∈ jTbl ∧ Cond.selects y_Count_site.1.cls y_Count_site.1 y_Count_site.1 ∈ jTbl := ⟨jmem 355 (by decide +kernel) (by decide +kernel), jmem 356 (by decide +kernel) (by decide +kernel)⟩
abbrev y_Rows_has : jM := (⟨"CountTreaty$Rows", "has", "(I)Z"⟩, prog_5_method_3_code, 2, some .boolean)
abbrev d_Rows_has : Nat × Nat := (0, 0)
theorem jcm_Rows_has : Cond.code y_Rows_has.1 y_Rows_has.2.1 y_Rows_has.2.2.1 y_Rows_has.2.2.2 ∈ jTbl := jmt2 (List.mem_of_getElem? (i := 116) rfl) rfl
theorem mo_Rows_has : jMo y_Rows_has 1 := ⟨jcm_Rows_has, ji_3, ⟨by decide, by decide⟩, by decide +kernel⟩
theorem mv_Rows_has : Cond.instanceMethod y_Rows_has.1 ∈ jTbl ∧ Cond.selects y_Rows_has.1.cls y_Rows_has.1 y_Rows_has.1 ∈ jTbl := ⟨jmem 376 (by decide +kernel) (by decide +kernel), jmem 377 (by decide +kernel) (by decide +kernel)⟩
abbrev y_Rows_at : jM := (⟨"CountTreaty$Rows", "at", "(II)I"⟩, prog_5_method_5_code, 4, some .int)
abbrev d_Rows_at : Nat × Nat := (0, 0)
theorem jcm_Rows_at : Cond.code y_Rows_at.1 y_Rows_at.2.1 y_Rows_at.2.2.1 y_Rows_at.2.2.2 ∈ jTbl := jmt2 (List.mem_of_getElem? (i := 120) rfl) rfl
theorem mo_Rows_at : jMo y_Rows_at 2 := ⟨jcm_Rows_at, ji_3, ⟨by decide, by decide⟩, by decide +kernel⟩
theorem mv_Rows_at : Cond.instanceMethod y_Rows_at.1 ∈ jTbl ∧ Cond.selects y_Rows_at.1.cls y_Rows_at.1 y_Rows_at.1 ∈ jTbl := ⟨jmem 380 (by decide +kernel) (by decide +kernel), jmem 381 (by decide +kernel) (by decide +kernel)⟩
abbrev y_Rows_count : jM := (⟨"CountTreaty$Rows", "count", "()I"⟩, prog_5_method_2_code, 1, some .int)
abbrev d_Rows_count : Nat × Nat := (0, 0)
theorem jcm_Rows_count : Cond.code y_Rows_count.1 y_Rows_count.2.1 y_Rows_count.2.2.1 y_Rows_count.2.2.2 ∈ jTbl := jmt2 (List.mem_of_getElem? (i := 128) rfl) rfl
theorem mo_Rows_count : jMo y_Rows_count 0 := ⟨jcm_Rows_count, ji_3, ⟨by decide, by decide⟩, by decide +kernel⟩
theorem mv_Rows_count : Cond.instanceMethod y_Rows_count.1 ∈ jTbl ∧ Cond.selects y_Rows_count.1.cls y_Rows_count.1 y_Rows_count.1 ∈ jTbl := ⟨jmem 388 (by decide +kernel) (by decide +kernel), jmem 389 (by decide +kernel) (by decide +kernel)⟩
abbrev y_State_shorten : jM := (⟨"CountTreaty$State", "shorten", "(IIIII)V"⟩, prog_8_method_10_code, 9, none)
abbrev d_State_shorten : Nat × Nat := (1, 24)
theorem jcm_State_shorten : Cond.code y_State_shorten.1 y_State_shorten.2.1 y_State_shorten.2.2.1 y_State_shorten.2.2.2 ∈ jTbl := jmt2 (List.mem_of_getElem? (i := 132) rfl) rfl
theorem mo_State_shorten : jMo y_State_shorten 5 := ⟨jcm_State_shorten, ji_6, ⟨by decide, by decide⟩, by decide +kernel⟩
theorem mv_State_shorten : Cond.instanceMethod y_State_shorten.1 ∈ jTbl ∧ Cond.selects y_State_shorten.1.cls y_State_shorten.1 y_State_shorten.1 ∈ jTbl := ⟨jmem 393 (by decide +kernel) (by decide +kernel), jmem 0 (by decide +kernel) (by decide +kernel)⟩
abbrev y_State_shortenWays : jM := (⟨"CountTreaty$State", "shortenWays", "(III)V"⟩, prog_8_method_9_code, 6, none)
abbrev d_State_shortenWays : Nat × Nat := (2, 52)
theorem jcm_State_shortenWays : Cond.code y_State_shortenWays.1 y_State_shortenWays.2.1 y_State_shortenWays.2.2.1 y_State_shortenWays.2.2.2 ∈ jTbl := jmt2 (List.mem_of_getElem? (i := 124) rfl) rfl
theorem mo_State_shortenWays : jMo y_State_shortenWays 3 := ⟨jcm_State_shortenWays, ji_6, ⟨by decide, by decide⟩, by decide +kernel⟩
theorem mv_State_shortenWays : Cond.instanceMethod y_State_shortenWays.1 ∈ jTbl ∧ Cond.selects y_State_shortenWays.1.cls y_State_shortenWays.1 y_State_shortenWays.1 ∈ jTbl := ⟨jmem 384 (by decide +kernel) (by decide +kernel), jmem 385 (by decide +kernel) (by decide +kernel)⟩
abbrev y_Count_road : jM := (⟨"CountTreaty", "road", "(III)I"⟩, prog_1_method_3_code, 4, some .int)
abbrev d_Count_road : Nat × Nat := (3, 77)
theorem jcm_Count_road : Cond.code y_Count_road.1 y_Count_road.2.1 y_Count_road.2.2.1 y_Count_road.2.2.2 ∈ jTbl := jmt2 (List.mem_of_getElem? (i := 112) rfl) rfl
theorem mo_Count_road : jMo y_Count_road 3 := ⟨jcm_Count_road, ji_9, ⟨by decide, by decide⟩, by decide +kernel⟩
theorem mv_Count_road : Cond.instanceMethod y_Count_road.1 ∈ jTbl ∧ Cond.selects y_Count_road.1.cls y_Count_road.1 y_Count_road.1 ∈ jTbl := ⟨jmem 372 (by decide +kernel) (by decide +kernel), jmem 373 (by decide +kernel) (by decide +kernel)⟩
abbrev y_Count_way : jM := (⟨"CountTreaty", "way", "(II)I"⟩, prog_1_method_4_code, 3, some .int)
abbrev d_Count_way : Nat × Nat := (1, 23)
theorem jcm_Count_way : Cond.code y_Count_way.1 y_Count_way.2.1 y_Count_way.2.2.1 y_Count_way.2.2.2 ∈ jTbl := jmt2 (List.mem_of_getElem? (i := 137) rfl) rfl
theorem mo_Count_way : jMo y_Count_way 2 := ⟨jcm_Count_way, ji_9, ⟨by decide, by decide⟩, by decide +kernel⟩
theorem mv_Count_way : Cond.instanceMethod y_Count_way.1 ∈ jTbl ∧ Cond.selects y_Count_way.1.cls y_Count_way.1 y_Count_way.1 ∈ jTbl := ⟨jmem 397 (by decide +kernel) (by decide +kernel), jmem 398 (by decide +kernel) (by decide +kernel)⟩
abbrev y_State_isSort : jM := (⟨"CountTreaty$State", "isSort", "(I)Z"⟩, prog_8_method_4_code, 1, some .boolean)
abbrev d_State_isSort : Nat × Nat := (0, 0)
theorem jcm_State_isSort : Cond.code y_State_isSort.1 y_State_isSort.2.1 y_State_isSort.2.2.1 y_State_isSort.2.2.2 ∈ jTbl := jmt2 (List.mem_of_getElem? (i := 144) rfl) rfl
theorem mo_State_isSort : jMo y_State_isSort 1 := ⟨jcm_State_isSort, ji_6, ⟨by decide, by decide⟩, by decide +kernel⟩
theorem ms_State_isSort : Cond.static y_State_isSort.1 ∈ jTbl := jmem 405 (by decide +kernel) (by decide +kernel)
abbrev y_Count_sort : jM := (⟨"CountTreaty", "sort", "(IIIII)Z"⟩, prog_1_method_5_code, 6, some .boolean)
abbrev d_Count_sort : Nat × Nat := (1, 24)
theorem jcm_Count_sort : Cond.code y_Count_sort.1 y_Count_sort.2.1 y_Count_sort.2.2.1 y_Count_sort.2.2.2 ∈ jTbl := jmt2 (List.mem_of_getElem? (i := 141) rfl) rfl
theorem mo_Count_sort : jMo y_Count_sort 5 := ⟨jcm_Count_sort, ji_9, ⟨by decide, by decide⟩, by decide +kernel⟩
theorem mv_Count_sort : Cond.instanceMethod y_Count_sort.1 ∈ jTbl ∧ Cond.selects y_Count_sort.1.cls y_Count_sort.1 y_Count_sort.1 ∈ jTbl := ⟨jmem 401 (by decide +kernel) (by decide +kernel), jmem 402 (by decide +kernel) (by decide +kernel)⟩
abbrev y_State_addAct : jM := (⟨"CountTreaty$State", "addAct", "(IIII)V"⟩, prog_8_method_7_code, 6, none)
abbrev d_State_addAct : Nat × Nat := (1, 24)
theorem jcm_State_addAct : Cond.code y_State_addAct.1 y_State_addAct.2.1 y_State_addAct.2.2.1 y_State_addAct.2.2.2 ∈ jTbl := jmt2 (List.mem_of_getElem? (i := 153) rfl) rfl
theorem mo_State_addAct : jMo y_State_addAct 4 := ⟨jcm_State_addAct, ji_6, ⟨by decide, by decide⟩, by decide +kernel⟩
theorem mv_State_addAct : Cond.instanceMethod y_State_addAct.1 ∈ jTbl ∧ Cond.selects y_State_addAct.1.cls y_State_addAct.1 y_State_addAct.1 ∈ jTbl := ⟨jmem 413 (by decide +kernel) (by decide +kernel), jmem 414 (by decide +kernel) (by decide +kernel)⟩
abbrev y_Count_make : jM := (⟨"CountTreaty", "make", "(IIII)I"⟩, prog_1_method_7_code, 6, some .int)
abbrev d_Count_make : Nat × Nat := (2, 49)
theorem jcm_Count_make : Cond.code y_Count_make.1 y_Count_make.2.1 y_Count_make.2.2.1 y_Count_make.2.2.2 ∈ jTbl := jmt2 (List.mem_of_getElem? (i := 149) rfl) rfl
theorem mo_Count_make : jMo y_Count_make 4 := ⟨jcm_Count_make, ji_9, ⟨by decide, by decide⟩, by decide +kernel⟩
theorem mv_Count_make : Cond.instanceMethod y_Count_make.1 ∈ jTbl ∧ Cond.selects y_Count_make.1.cls y_Count_make.1 y_Count_make.1 ∈ jTbl := ⟨jmem 409 (by decide +kernel) (by decide +kernel), jmem 410 (by decide +kernel) (by decide +kernel)⟩
abbrev y_State_placeOn : jM := (⟨"CountTreaty$State", "placeOn", "(II)I"⟩, prog_8_method_11_code, 6, some .int)
abbrev d_State_placeOn : Nat × Nat := (1, 23)
theorem jcm_State_placeOn : Cond.code y_State_placeOn.1 y_State_placeOn.2.1 y_State_placeOn.2.2.1 y_State_placeOn.2.2.2 ∈ jTbl := jmt2 (List.mem_of_getElem? (i := 161) rfl) rfl
theorem mo_State_placeOn : jMo y_State_placeOn 2 := ⟨jcm_State_placeOn, ji_6, ⟨by decide, by decide⟩, by decide +kernel⟩
theorem mv_State_placeOn : Cond.instanceMethod y_State_placeOn.1 ∈ jTbl ∧ Cond.selects y_State_placeOn.1.cls y_State_placeOn.1 y_State_placeOn.1 ∈ jTbl := ⟨jmem 421 (by decide +kernel) (by decide +kernel), jmem 422 (by decide +kernel) (by decide +kernel)⟩
abbrev y_Count_move : jM := (⟨"CountTreaty", "move", "(II)I"⟩, prog_1_method_8_code, 6, some .int)
abbrev d_Count_move : Nat × Nat := (2, 49)
theorem jcm_Count_move : Cond.code y_Count_move.1 y_Count_move.2.1 y_Count_move.2.2.1 y_Count_move.2.2.2 ∈ jTbl := jmt2 (List.mem_of_getElem? (i := 157) rfl) rfl
theorem mo_Count_move : jMo y_Count_move 2 := ⟨jcm_Count_move, ji_9, ⟨by decide, by decide⟩, by decide +kernel⟩
theorem mv_Count_move : Cond.instanceMethod y_Count_move.1 ∈ jTbl ∧ Cond.selects y_Count_move.1.cls y_Count_move.1 y_Count_move.1 ∈ jTbl := ⟨jmem 417 (by decide +kernel) (by decide +kernel), jmem 418 (by decide +kernel) (by decide +kernel)⟩
abbrev y_Treaty_textFor : jM := (⟨"CountTreaty$Treaty", "textFor", "(II)I"⟩, prog_10_method_4_code, 6, some .int)
abbrev d_Treaty_textFor : Nat × Nat := (1, 23)
theorem jcm_Treaty_textFor : Cond.code y_Treaty_textFor.1 y_Treaty_textFor.2.1 y_Treaty_textFor.2.2.1 y_Treaty_textFor.2.2.2 ∈ jTbl := jmt2 (List.mem_of_getElem? (i := 177) rfl) rfl
theorem mo_Treaty_textFor : jMo y_Treaty_textFor 2 := ⟨jcm_Treaty_textFor, ji_8, ⟨by decide, by decide⟩, by decide +kernel⟩
theorem mv_Treaty_textFor : Cond.instanceMethod y_Treaty_textFor.1 ∈ jTbl ∧ Cond.selects y_Treaty_textFor.1.cls y_Treaty_textFor.1 y_Treaty_textFor.1 ∈ jTbl := ⟨jmem 437 (by decide +kernel) (by decide +kernel), jmem 438 (by decide +kernel) (by decide +kernel)⟩
abbrev y_Treaty_limitOn : jM := (⟨"CountTreaty$Treaty", "limitOn", "(I)I"⟩, prog_10_method_6_code, 6, some .int)
abbrev d_Treaty_limitOn : Nat × Nat := (2, 48)
theorem jcm_Treaty_limitOn : Cond.code y_Treaty_limitOn.1 y_Treaty_limitOn.2.1 y_Treaty_limitOn.2.2.1 y_Treaty_limitOn.2.2.2 ∈ jTbl := jmt2 (List.mem_of_getElem? (i := 173) rfl) rfl
theorem mo_Treaty_limitOn : jMo y_Treaty_limitOn 1 := ⟨jcm_Treaty_limitOn, ji_8, ⟨by decide, by decide⟩, by decide +kernel⟩
theorem mv_Treaty_limitOn : Cond.instanceMethod y_Treaty_limitOn.1 ∈ jTbl ∧ Cond.selects y_Treaty_limitOn.1.cls y_Treaty_limitOn.1 y_Treaty_limitOn.1 ∈ jTbl := ⟨jmem 434 (by decide +kernel) (by decide +kernel), jmem 1 (by decide +kernel) (by decide +kernel)⟩
abbrev y_Treaty_first : jM := (⟨"CountTreaty$Treaty", "first", "(IIII)I"⟩, prog_10_method_7_code, 7, some .int)
abbrev d_Treaty_first : Nat × Nat := (2, 48)
theorem jcm_Treaty_first : Cond.code y_Treaty_first.1 y_Treaty_first.2.1 y_Treaty_first.2.2.1 y_Treaty_first.2.2.2 ∈ jTbl := jmt2 (List.mem_of_getElem? (i := 186) rfl) rfl
theorem mo_Treaty_first : jMo y_Treaty_first 4 := ⟨jcm_Treaty_first, ji_8, ⟨by decide, by decide⟩, by decide +kernel⟩
theorem mv_Treaty_first : Cond.instanceMethod y_Treaty_first.1 ∈ jTbl ∧ Cond.selects y_Treaty_first.1.cls y_Treaty_first.1 y_Treaty_first.1 ∈ jTbl := ⟨jmem 447 (by decide +kernel) (by decide +kernel), jmem 2 (by decide +kernel) (by decide +kernel)⟩
abbrev y_Treaty_tells : jM := (⟨"CountTreaty$Treaty", "tells", "(II)I"⟩, prog_10_method_5_code, 3, some .int)
abbrev d_Treaty_tells : Nat × Nat := (3, 74)
theorem jcm_Treaty_tells : Cond.code y_Treaty_tells.1 y_Treaty_tells.2.1 y_Treaty_tells.2.2.1 y_Treaty_tells.2.2.2 ∈ jTbl := jmt2 (List.mem_of_getElem? (i := 169) rfl) rfl
theorem mo_Treaty_tells : jMo y_Treaty_tells 2 := ⟨jcm_Treaty_tells, ji_8, ⟨by decide, by decide⟩, by decide +kernel⟩
theorem mv_Treaty_tells : Cond.instanceMethod y_Treaty_tells.1 ∈ jTbl ∧ Cond.selects y_Treaty_tells.1.cls y_Treaty_tells.1 y_Treaty_tells.1 ∈ jTbl := ⟨jmem 429 (by decide +kernel) (by decide +kernel), jmem 430 (by decide +kernel) (by decide +kernel)⟩
abbrev y_Count_step : jM := (⟨"CountTreaty", "step", "(I)I"⟩, prog_1_method_9_code, 5, some .int)
abbrev d_Count_step : Nat × Nat := (4, 96)
theorem jcm_Count_step : Cond.code y_Count_step.1 y_Count_step.2.1 y_Count_step.2.2.1 y_Count_step.2.2.2 ∈ jTbl := jmt2 (List.mem_of_getElem? (i := 165) rfl) rfl
theorem mo_Count_step : jMo y_Count_step 1 := ⟨jcm_Count_step, ji_9, ⟨by decide, by decide⟩, by decide +kernel⟩
theorem mv_Count_step : Cond.instanceMethod y_Count_step.1 ∈ jTbl ∧ Cond.selects y_Count_step.1.cls y_Count_step.1 y_Count_step.1 ∈ jTbl := ⟨jmem 425 (by decide +kernel) (by decide +kernel), jmem 426 (by decide +kernel) (by decide +kernel)⟩
abbrev y_State_latestSeal : jM := (⟨"CountTreaty$State", "latestSeal", "(II)I"⟩, prog_8_method_13_code, 4, some .int)
abbrev d_State_latestSeal : Nat × Nat := (1, 23)
theorem jcm_State_latestSeal : Cond.code y_State_latestSeal.1 y_State_latestSeal.2.1 y_State_latestSeal.2.2.1 y_State_latestSeal.2.2.2 ∈ jTbl := jmt2 (List.mem_of_getElem? (i := 198) rfl) rfl
theorem mo_State_latestSeal : jMo y_State_latestSeal 2 := ⟨jcm_State_latestSeal, ji_6, ⟨by decide, by decide⟩, by decide +kernel⟩
theorem mv_State_latestSeal : Cond.instanceMethod y_State_latestSeal.1 ∈ jTbl ∧ Cond.selects y_State_latestSeal.1.cls y_State_latestSeal.1 y_State_latestSeal.1 ∈ jTbl := ⟨jmem 458 (by decide +kernel) (by decide +kernel), jmem 459 (by decide +kernel) (by decide +kernel)⟩
abbrev y_State_isWhole : jM := (⟨"CountTreaty$State", "isWhole", "(II)Z"⟩, prog_8_method_12_code, 8, some .boolean)
abbrev d_State_isWhole : Nat × Nat := (1, 23)
theorem jcm_State_isWhole : Cond.code y_State_isWhole.1 y_State_isWhole.2.1 y_State_isWhole.2.2.1 y_State_isWhole.2.2.2 ∈ jTbl := jmt2 (List.mem_of_getElem? (i := 202) rfl) rfl
theorem mo_State_isWhole : jMo y_State_isWhole 2 := ⟨jcm_State_isWhole, ji_6, ⟨by decide, by decide⟩, by decide +kernel⟩
theorem mv_State_isWhole : Cond.instanceMethod y_State_isWhole.1 ∈ jTbl ∧ Cond.selects y_State_isWhole.1.cls y_State_isWhole.1 y_State_isWhole.1 ∈ jTbl := ⟨jmem 462 (by decide +kernel) (by decide +kernel), jmem 463 (by decide +kernel) (by decide +kernel)⟩
abbrev y_State_isSealed : jM := (⟨"CountTreaty$State", "isSealed", "(I)Z"⟩, prog_8_method_14_code, 3, some .boolean)
abbrev d_State_isSealed : Nat × Nat := (2, 50)
theorem jcm_State_isSealed : Cond.code y_State_isSealed.1 y_State_isSealed.2.1 y_State_isSealed.2.2.1 y_State_isSealed.2.2.2 ∈ jTbl := jmt2 (List.mem_of_getElem? (i := 194) rfl) rfl
theorem mo_State_isSealed : jMo y_State_isSealed 1 := ⟨jcm_State_isSealed, ji_6, ⟨by decide, by decide⟩, by decide +kernel⟩
theorem mv_State_isSealed : Cond.instanceMethod y_State_isSealed.1 ∈ jTbl ∧ Cond.selects y_State_isSealed.1.cls y_State_isSealed.1 y_State_isSealed.1 ∈ jTbl := ⟨jmem 454 (by decide +kernel) (by decide +kernel), jmem 455 (by decide +kernel) (by decide +kernel)⟩
abbrev y_State_addSpot : jM := (⟨"CountTreaty$State", "addSpot", "(LCountTreaty$Rows;II)I"⟩, prog_8_method_5_code, 4, some .int)
abbrev d_State_addSpot : Nat × Nat := (1, 24)
theorem jcm_State_addSpot : Cond.code y_State_addSpot.1 y_State_addSpot.2.1 y_State_addSpot.2.2.1 y_State_addSpot.2.2.2 ∈ jTbl := jmt2 (List.mem_of_getElem? (i := 205) rfl) rfl
theorem mo_State_addSpot : jMo y_State_addSpot 3 := ⟨jcm_State_addSpot, ji_6, ⟨by decide, by decide⟩, by decide +kernel⟩
theorem ms_State_addSpot : Cond.static y_State_addSpot.1 ∈ jTbl := jmem 466 (by decide +kernel) (by decide +kernel)
abbrev y_Count_seal : jM := (⟨"CountTreaty", "seal", "(I)I"⟩, prog_1_method_10_code, 2, some .int)
abbrev d_Count_seal : Nat × Nat := (3, 72)
theorem jcm_Count_seal : Cond.code y_Count_seal.1 y_Count_seal.2.1 y_Count_seal.2.2.1 y_Count_seal.2.2.2 ∈ jTbl := jmt2 (List.mem_of_getElem? (i := 190) rfl) rfl
theorem mo_Count_seal : jMo y_Count_seal 1 := ⟨jcm_Count_seal, ji_9, ⟨by decide, by decide⟩, by decide +kernel⟩
theorem mv_Count_seal : Cond.instanceMethod y_Count_seal.1 ∈ jTbl ∧ Cond.selects y_Count_seal.1.cls y_Count_seal.1 y_Count_seal.1 ∈ jTbl := ⟨jmem 450 (by decide +kernel) (by decide +kernel), jmem 451 (by decide +kernel) (by decide +kernel)⟩
abbrev y_Count_days : jM := (⟨"CountTreaty", "days", "(I)I"⟩, prog_1_method_11_code, 2, some .int)
abbrev d_Count_days : Nat × Nat := (0, 0)
theorem jcm_Count_days : Cond.code y_Count_days.1 y_Count_days.2.1 y_Count_days.2.2.1 y_Count_days.2.2.2 ∈ jTbl := jmt2 (List.mem_of_getElem? (i := 209) rfl) rfl
theorem mo_Count_days : jMo y_Count_days 1 := ⟨jcm_Count_days, ji_9, ⟨by decide, by decide⟩, by decide +kernel⟩
theorem mv_Count_days : Cond.instanceMethod y_Count_days.1 ∈ jTbl ∧ Cond.selects y_Count_days.1.cls y_Count_days.1 y_Count_days.1 ∈ jTbl := ⟨jmem 469 (by decide +kernel) (by decide +kernel), jmem 470 (by decide +kernel) (by decide +kernel)⟩
abbrev y_State_isDay : jM := (⟨"CountTreaty$State", "isDay", "(I)Z"⟩, prog_8_method_2_code, 1, some .boolean)
abbrev d_State_isDay : Nat × Nat := (0, 0)
theorem jcm_State_isDay : Cond.code y_State_isDay.1 y_State_isDay.2.1 y_State_isDay.2.2.1 y_State_isDay.2.2.2 ∈ jTbl := jmt2 (List.mem_of_getElem? (i := 216) rfl) rfl
theorem mo_State_isDay : jMo y_State_isDay 1 := ⟨jcm_State_isDay, ji_6, ⟨by decide, by decide⟩, by decide +kernel⟩
theorem ms_State_isDay : Cond.static y_State_isDay.1 ∈ jTbl := jmem 477 (by decide +kernel) (by decide +kernel)
abbrev y_Count_where : jM := (⟨"CountTreaty", "where", "(II)I"⟩, prog_1_method_12_code, 3, some .int)
abbrev d_Count_where : Nat × Nat := (2, 48)
theorem jcm_Count_where : Cond.code y_Count_where.1 y_Count_where.2.1 y_Count_where.2.2.1 y_Count_where.2.2.2 ∈ jTbl := jmt2 (List.mem_of_getElem? (i := 213) rfl) rfl
theorem mo_Count_where : jMo y_Count_where 2 := ⟨jcm_Count_where, ji_9, ⟨by decide, by decide⟩, by decide +kernel⟩
theorem mv_Count_where : Cond.instanceMethod y_Count_where.1 ∈ jTbl ∧ Cond.selects y_Count_where.1.cls y_Count_where.1 y_Count_where.1 ∈ jTbl := ⟨jmem 473 (by decide +kernel) (by decide +kernel), jmem 474 (by decide +kernel) (by decide +kernel)⟩
abbrev y_Count_thing : jM := (⟨"CountTreaty", "thing", "(II)I"⟩, prog_1_method_13_code, 3, some .int)
abbrev d_Count_thing : Nat × Nat := (1, 23)
theorem jcm_Count_thing : Cond.code y_Count_thing.1 y_Count_thing.2.1 y_Count_thing.2.2.1 y_Count_thing.2.2.2 ∈ jTbl := jmt2 (List.mem_of_getElem? (i := 220) rfl) rfl
theorem mo_Count_thing : jMo y_Count_thing 2 := ⟨jcm_Count_thing, ji_9, ⟨by decide, by decide⟩, by decide +kernel⟩
theorem mv_Count_thing : Cond.instanceMethod y_Count_thing.1 ∈ jTbl ∧ Cond.selects y_Count_thing.1.cls y_Count_thing.1 y_Count_thing.1 ∈ jTbl := ⟨jmem 480 (by decide +kernel) (by decide +kernel), jmem 481 (by decide +kernel) (by decide +kernel)⟩
abbrev y_Count_whole : jM := (⟨"CountTreaty", "whole", "(II)I"⟩, prog_1_method_14_code, 3, some .int)
abbrev d_Count_whole : Nat × Nat := (2, 50)
theorem jcm_Count_whole : Cond.code y_Count_whole.1 y_Count_whole.2.1 y_Count_whole.2.2.1 y_Count_whole.2.2.2 ∈ jTbl := jmt2 (List.mem_of_getElem? (i := 224) rfl) rfl
theorem mo_Count_whole : jMo y_Count_whole 2 := ⟨jcm_Count_whole, ji_9, ⟨by decide, by decide⟩, by decide +kernel⟩
theorem mv_Count_whole : Cond.instanceMethod y_Count_whole.1 ∈ jTbl ∧ Cond.selects y_Count_whole.1.cls y_Count_whole.1 y_Count_whole.1 ∈ jTbl := ⟨jmem 484 (by decide +kernel) (by decide +kernel), jmem 485 (by decide +kernel) (by decide +kernel)⟩
abbrev y_Count_tell : jM := (⟨"CountTreaty", "tell", "(III)I"⟩, prog_1_method_22_code, 6, some .int)
abbrev d_Count_tell : Nat × Nat := (2, 49)
theorem jcm_Count_tell : Cond.code y_Count_tell.1 y_Count_tell.2.1 y_Count_tell.2.2.1 y_Count_tell.2.2.2 ∈ jTbl := jmt2 (List.mem_of_getElem? (i := 229) rfl) rfl
theorem mo_Count_tell : jMo y_Count_tell 3 := ⟨jcm_Count_tell, ji_9, ⟨by decide, by decide⟩, by decide +kernel⟩
theorem mv_Count_tell : Cond.instanceMethod y_Count_tell.1 ∈ jTbl ∧ Cond.selects y_Count_tell.1.cls y_Count_tell.1 y_Count_tell.1 ∈ jTbl := ⟨jmem 489 (by decide +kernel) (by decide +kernel), jmem 490 (by decide +kernel) (by decide +kernel)⟩
abbrev y_Count_isAbroad : jM := (⟨"CountTreaty", "isAbroad", "(II)Z"⟩, prog_1_method_26_code, 3, some .boolean)
abbrev d_Count_isAbroad : Nat × Nat := (1, 23)
theorem jcm_Count_isAbroad : Cond.code y_Count_isAbroad.1 y_Count_isAbroad.2.1 y_Count_isAbroad.2.2.1 y_Count_isAbroad.2.2.2 ∈ jTbl := jmt2 (List.mem_of_getElem? (i := 237) rfl) rfl
theorem mo_Count_isAbroad : jMo y_Count_isAbroad 2 := ⟨jcm_Count_isAbroad, ji_9, ⟨by decide, by decide⟩, by decide +kernel⟩
theorem mv_Count_isAbroad : Cond.instanceMethod y_Count_isAbroad.1 ∈ jTbl ∧ Cond.selects y_Count_isAbroad.1.cls y_Count_isAbroad.1 y_Count_isAbroad.1 ∈ jTbl := ⟨jmem 498 (by decide +kernel) (by decide +kernel), jmem 3 (by decide +kernel) (by decide +kernel)⟩
abbrev y_Treaty_see : jM := (⟨"CountTreaty$Treaty", "see", "(II)V"⟩, prog_10_method_9_code, 4, none)
abbrev d_Treaty_see : Nat × Nat := (0, 0)
theorem jcm_Treaty_see : Cond.code y_Treaty_see.1 y_Treaty_see.2.1 y_Treaty_see.2.2.1 y_Treaty_see.2.2.2 ∈ jTbl := jmt3 (List.mem_of_getElem? (i := 11) rfl) rfl
theorem mo_Treaty_see : jMo y_Treaty_see 2 := ⟨jcm_Treaty_see, ji_8, ⟨by decide, by decide⟩, by decide +kernel⟩
theorem mv_Treaty_see : Cond.instanceMethod y_Treaty_see.1 ∈ jTbl ∧ Cond.selects y_Treaty_see.1.cls y_Treaty_see.1 y_Treaty_see.1 ∈ jTbl := ⟨jmem 512 (by decide +kernel) (by decide +kernel), jmem 4 (by decide +kernel) (by decide +kernel)⟩
abbrev y_Treaty_look : jM := (⟨"CountTreaty$Treaty", "look", "(LCountTreaty$Rows;II)V"⟩, prog_10_method_8_code, 4, none)
abbrev d_Treaty_look : Nat × Nat := (1, 23)
theorem jcm_Treaty_look : Cond.code y_Treaty_look.1 y_Treaty_look.2.1 y_Treaty_look.2.2.1 y_Treaty_look.2.2.2 ∈ jTbl := jmt3 (List.mem_of_getElem? (i := 7) rfl) rfl
theorem mo_Treaty_look : jMo y_Treaty_look 3 := ⟨jcm_Treaty_look, ji_8, ⟨by decide, by decide⟩, by decide +kernel⟩
theorem mv_Treaty_look : Cond.instanceMethod y_Treaty_look.1 ∈ jTbl ∧ Cond.selects y_Treaty_look.1.cls y_Treaty_look.1 y_Treaty_look.1 ∈ jTbl := ⟨jmem 507 (by decide +kernel) (by decide +kernel), jmem 508 (by decide +kernel) (by decide +kernel)⟩
abbrev y_Treaty_operand : jM := (⟨"CountTreaty$Treaty", "operand", "(I)I"⟩, prog_10_method_12_code, 3, some .int)
abbrev d_Treaty_operand : Nat × Nat := (0, 0)
theorem jcm_Treaty_operand : Cond.code y_Treaty_operand.1 y_Treaty_operand.2.1 y_Treaty_operand.2.2.1 y_Treaty_operand.2.2.2 ∈ jTbl := jmt3 (List.mem_of_getElem? (i := 24) rfl) rfl
theorem mo_Treaty_operand : jMo y_Treaty_operand 1 := ⟨jcm_Treaty_operand, ji_8, ⟨by decide, by decide⟩, by decide +kernel⟩
theorem mv_Treaty_operand : Cond.instanceMethod y_Treaty_operand.1 ∈ jTbl ∧ Cond.selects y_Treaty_operand.1.cls y_Treaty_operand.1 y_Treaty_operand.1 ∈ jTbl := ⟨jmem 525 (by decide +kernel) (by decide +kernel), jmem 6 (by decide +kernel) (by decide +kernel)⟩
abbrev y_Treaty_compares : jM := (⟨"CountTreaty$Treaty", "compares", "(III)Z"⟩, prog_10_method_13_code, 3, some .boolean)
abbrev d_Treaty_compares : Nat × Nat := (0, 0)
theorem jcm_Treaty_compares : Cond.code y_Treaty_compares.1 y_Treaty_compares.2.1 y_Treaty_compares.2.2.1 y_Treaty_compares.2.2.2 ∈ jTbl := jmt3 (List.mem_of_getElem? (i := 27) rfl) rfl
theorem mo_Treaty_compares : jMo y_Treaty_compares 3 := ⟨jcm_Treaty_compares, ji_8, ⟨by decide, by decide⟩, by decide +kernel⟩
theorem ms_Treaty_compares : Cond.static y_Treaty_compares.1 ∈ jTbl := jmem 528 (by decide +kernel) (by decide +kernel)
abbrev y_Treaty_holds : jM := (⟨"CountTreaty$Treaty", "holds", "(I)Z"⟩, prog_10_method_11_code, 8, some .boolean)
abbrev d_Treaty_holds : Nat × Nat := (1, 23)
theorem jcm_Treaty_holds : Cond.code y_Treaty_holds.1 y_Treaty_holds.2.1 y_Treaty_holds.2.2.1 y_Treaty_holds.2.2.2 ∈ jTbl := jmt3 (List.mem_of_getElem? (i := 19) rfl) rfl
theorem mo_Treaty_holds : jMo y_Treaty_holds 1 := ⟨jcm_Treaty_holds, ji_8, ⟨by decide, by decide⟩, by decide +kernel⟩
theorem mv_Treaty_holds : Cond.instanceMethod y_Treaty_holds.1 ∈ jTbl ∧ Cond.selects y_Treaty_holds.1.cls y_Treaty_holds.1 y_Treaty_holds.1 ∈ jTbl := ⟨jmem 520 (by decide +kernel) (by decide +kernel), jmem 5 (by decide +kernel) (by decide +kernel)⟩
abbrev y_Treaty_someHolds : jM := (⟨"CountTreaty$Treaty", "someHolds", "(II)Z"⟩, prog_10_method_10_code, 4, some .boolean)
abbrev d_Treaty_someHolds : Nat × Nat := (2, 50)
theorem jcm_Treaty_someHolds : Cond.code y_Treaty_someHolds.1 y_Treaty_someHolds.2.1 y_Treaty_someHolds.2.2.1 y_Treaty_someHolds.2.2.2 ∈ jTbl := jmt3 (List.mem_of_getElem? (i := 15) rfl) rfl
theorem mo_Treaty_someHolds : jMo y_Treaty_someHolds 2 := ⟨jcm_Treaty_someHolds, ji_8, ⟨by decide, by decide⟩, by decide +kernel⟩
theorem mv_Treaty_someHolds : Cond.instanceMethod y_Treaty_someHolds.1 ∈ jTbl ∧ Cond.selects y_Treaty_someHolds.1.cls y_Treaty_someHolds.1 y_Treaty_someHolds.1 ∈ jTbl := ⟨jmem 515 (by decide +kernel) (by decide +kernel), jmem 516 (by decide +kernel) (by decide +kernel)⟩
abbrev y_State_lookAround : jM := (⟨"CountTreaty$State", "lookAround", "(III)V"⟩, prog_8_method_18_code, 8, none)
abbrev d_State_lookAround : Nat × Nat := (3, 73)
theorem jcm_State_lookAround : Cond.code y_State_lookAround.1 y_State_lookAround.2.1 y_State_lookAround.2.2.1 y_State_lookAround.2.2.2 ∈ jTbl := jmt3 (List.mem_of_getElem? (i := 1) rfl) rfl
theorem mo_State_lookAround : jMo y_State_lookAround 3 := ⟨jcm_State_lookAround, ji_6, ⟨by decide, by decide⟩, by decide +kernel⟩
theorem mv_State_lookAround : Cond.instanceMethod y_State_lookAround.1 ∈ jTbl ∧ Cond.selects y_State_lookAround.1.cls y_State_lookAround.1 y_State_lookAround.1 ∈ jTbl := ⟨jmem 501 (by decide +kernel) (by decide +kernel), jmem 502 (by decide +kernel) (by decide +kernel)⟩
abbrev y_State_lookAtSeal : jM := (⟨"CountTreaty$State", "lookAtSeal", "(III)V"⟩, prog_8_method_19_code, 6, none)
abbrev d_State_lookAtSeal : Nat × Nat := (2, 50)
theorem jcm_State_lookAtSeal : Cond.code y_State_lookAtSeal.1 y_State_lookAtSeal.2.1 y_State_lookAtSeal.2.2.1 y_State_lookAtSeal.2.2.2 ∈ jTbl := jmt3 (List.mem_of_getElem? (i := 31) rfl) rfl
theorem mo_State_lookAtSeal : jMo y_State_lookAtSeal 3 := ⟨jcm_State_lookAtSeal, ji_6, ⟨by decide, by decide⟩, by decide +kernel⟩
theorem mv_State_lookAtSeal : Cond.instanceMethod y_State_lookAtSeal.1 ∈ jTbl ∧ Cond.selects y_State_lookAtSeal.1.cls y_State_lookAtSeal.1 y_State_lookAtSeal.1 ∈ jTbl := ⟨jmem 531 (by decide +kernel) (by decide +kernel), jmem 532 (by decide +kernel) (by decide +kernel)⟩
abbrev y_Count_visit : jM := (⟨"CountTreaty", "visit", "(II)I"⟩, prog_1_method_25_code, 4, some .int)
abbrev d_Count_visit : Nat × Nat := (4, 100)
theorem jcm_Count_visit : Cond.code y_Count_visit.1 y_Count_visit.2.1 y_Count_visit.2.2.1 y_Count_visit.2.2.2 ∈ jTbl := jmt2 (List.mem_of_getElem? (i := 233) rfl) rfl
theorem mo_Count_visit : jMo y_Count_visit 2 := ⟨jcm_Count_visit, ji_9, ⟨by decide, by decide⟩, by decide +kernel⟩
theorem mv_Count_visit : Cond.instanceMethod y_Count_visit.1 ∈ jTbl ∧ Cond.selects y_Count_visit.1.cls y_Count_visit.1 y_Count_visit.1 ∈ jTbl := ⟨jmem 493 (by decide +kernel) (by decide +kernel), jmem 494 (by decide +kernel) (by decide +kernel)⟩
abbrev y_State_hasSpot : jM := (⟨"CountTreaty$State", "hasSpot", "(LCountTreaty$Rows;II)Z"⟩, prog_8_method_6_code, 4, some .boolean)
abbrev d_State_hasSpot : Nat × Nat := (1, 23)
theorem jcm_State_hasSpot : Cond.code y_State_hasSpot.1 y_State_hasSpot.2.1 y_State_hasSpot.2.2.1 y_State_hasSpot.2.2.2 ∈ jTbl := jmt3 (List.mem_of_getElem? (i := 38) rfl) rfl
theorem mo_State_hasSpot : jMo y_State_hasSpot 3 := ⟨jcm_State_hasSpot, ji_6, ⟨by decide, by decide⟩, by decide +kernel⟩
theorem ms_State_hasSpot : Cond.static y_State_hasSpot.1 ∈ jTbl := jmem 539 (by decide +kernel) (by decide +kernel)
abbrev y_State_numberLarge : jM := (⟨"CountTreaty$State", "numberLarge", "(II)I"⟩, prog_8_method_17_code, 5, some .int)
abbrev d_State_numberLarge : Nat × Nat := (2, 48)
theorem jcm_State_numberLarge : Cond.code y_State_numberLarge.1 y_State_numberLarge.2.1 y_State_numberLarge.2.2.1 y_State_numberLarge.2.2.2 ∈ jTbl := jmt3 (List.mem_of_getElem? (i := 42) rfl) rfl
theorem mo_State_numberLarge : jMo y_State_numberLarge 2 := ⟨jcm_State_numberLarge, ji_6, ⟨by decide, by decide⟩, by decide +kernel⟩
theorem mv_State_numberLarge : Cond.instanceMethod y_State_numberLarge.1 ∈ jTbl ∧ Cond.selects y_State_numberLarge.1.cls y_State_numberLarge.1 y_State_numberLarge.1 ∈ jTbl := ⟨jmem 542 (by decide +kernel) (by decide +kernel), jmem 543 (by decide +kernel) (by decide +kernel)⟩
abbrev y_Count_picture : jM := (⟨"CountTreaty", "picture", "(I)I"⟩, prog_1_method_29_code, 4, some .int)
abbrev d_Count_picture : Nat × Nat := (3, 72)
theorem jcm_Count_picture : Cond.code y_Count_picture.1 y_Count_picture.2.1 y_Count_picture.2.2.1 y_Count_picture.2.2.2 ∈ jTbl := jmt3 (List.mem_of_getElem? (i := 35) rfl) rfl
theorem mo_Count_picture : jMo y_Count_picture 1 := ⟨jcm_Count_picture, ji_9, ⟨by decide, by decide⟩, by decide +kernel⟩
theorem mv_Count_picture : Cond.instanceMethod y_Count_picture.1 ∈ jTbl ∧ Cond.selects y_Count_picture.1.cls y_Count_picture.1 y_Count_picture.1 ∈ jTbl := ⟨jmem 535 (by decide +kernel) (by decide +kernel), jmem 536 (by decide +kernel) (by decide +kernel)⟩
abbrev y_Count_isKnowable : jM := (⟨"CountTreaty", "isKnowable", "(IIII)Z"⟩, prog_1_method_31_code, 5, some .boolean)
abbrev d_Count_isKnowable : Nat × Nat := (1, 21)
theorem jcm_Count_isKnowable : Cond.code y_Count_isKnowable.1 y_Count_isKnowable.2.1 y_Count_isKnowable.2.2.1 y_Count_isKnowable.2.2.2 ∈ jTbl := jmt3 (List.mem_of_getElem? (i := 50) rfl) rfl
theorem mo_Count_isKnowable : jMo y_Count_isKnowable 4 := ⟨jcm_Count_isKnowable, ji_9, ⟨by decide, by decide⟩, by decide +kernel⟩
theorem mv_Count_isKnowable : Cond.instanceMethod y_Count_isKnowable.1 ∈ jTbl ∧ Cond.selects y_Count_isKnowable.1.cls y_Count_isKnowable.1 y_Count_isKnowable.1 ∈ jTbl := ⟨jmem 551 (by decide +kernel) (by decide +kernel), jmem 7 (by decide +kernel) (by decide +kernel)⟩
abbrev y_Knowing_isQuiet : jM := (⟨"CountTreaty$Knowing", "isQuiet", "(LCountTreaty$State;III)Z"⟩, prog_3_method_9_code, 6, some .boolean)
abbrev d_Knowing_isQuiet : Nat × Nat := (1, 23)
theorem jcm_Knowing_isQuiet : Cond.code y_Knowing_isQuiet.1 y_Knowing_isQuiet.2.1 y_Knowing_isQuiet.2.2.1 y_Knowing_isQuiet.2.2.2 ∈ jTbl := jmt3 (List.mem_of_getElem? (i := 58) rfl) rfl
theorem mo_Knowing_isQuiet : jMo y_Knowing_isQuiet 4 := ⟨jcm_Knowing_isQuiet, ji_1, ⟨by decide, by decide⟩, by decide +kernel⟩
theorem ms_Knowing_isQuiet : Cond.static y_Knowing_isQuiet.1 ∈ jTbl := jmem 559 (by decide +kernel) (by decide +kernel)
abbrev y_Knowing_fits : jM := (⟨"CountTreaty$Knowing", "fits", "(LCountTreaty$State;II)Z"⟩, prog_3_method_12_code, 5, some .boolean)
abbrev d_Knowing_fits : Nat × Nat := (1, 23)
theorem jcm_Knowing_fits : Cond.code y_Knowing_fits.1 y_Knowing_fits.2.1 y_Knowing_fits.2.2.1 y_Knowing_fits.2.2.2 ∈ jTbl := jmt3 (List.mem_of_getElem? (i := 71) rfl) rfl
theorem mo_Knowing_fits : jMo y_Knowing_fits 3 := ⟨jcm_Knowing_fits, ji_1, ⟨by decide, by decide⟩, by decide +kernel⟩
theorem ms_Knowing_fits : Cond.static y_Knowing_fits.1 ∈ jTbl := jmem 572 (by decide +kernel) (by decide +kernel)
abbrev y_Knowing_passPortal : jM := (⟨"CountTreaty$Knowing", "passPortal", "(LCountTreaty$State;IZ)V"⟩, prog_3_method_11_code, 8, none)
abbrev d_Knowing_passPortal : Nat × Nat := (2, 47)
theorem jcm_Knowing_passPortal : Cond.code y_Knowing_passPortal.1 y_Knowing_passPortal.2.1 y_Knowing_passPortal.2.2.1 y_Knowing_passPortal.2.2.2 ∈ jTbl := jmt3 (List.mem_of_getElem? (i := 68) rfl) rfl
theorem mo_Knowing_passPortal : jMo y_Knowing_passPortal 3 := ⟨jcm_Knowing_passPortal, ji_1, ⟨by decide, by decide⟩, by decide +kernel⟩
theorem mv_Knowing_passPortal : Cond.instanceMethod y_Knowing_passPortal.1 ∈ jTbl ∧ Cond.selects y_Knowing_passPortal.1.cls y_Knowing_passPortal.1 y_Knowing_passPortal.1 ∈ jTbl := ⟨jmem 569 (by decide +kernel) (by decide +kernel), jmem 9 (by decide +kernel) (by decide +kernel)⟩
abbrev y_Knowing_comeAndGo : jM := (⟨"CountTreaty$Knowing", "comeAndGo", "(LCountTreaty$State;II)V"⟩, prog_3_method_10_code, 5, none)
abbrev d_Knowing_comeAndGo : Nat × Nat := (3, 74)
theorem jcm_Knowing_comeAndGo : Cond.code y_Knowing_comeAndGo.1 y_Knowing_comeAndGo.2.1 y_Knowing_comeAndGo.2.2.1 y_Knowing_comeAndGo.2.2.2 ∈ jTbl := jmt3 (List.mem_of_getElem? (i := 64) rfl) rfl
theorem mo_Knowing_comeAndGo : jMo y_Knowing_comeAndGo 3 := ⟨jcm_Knowing_comeAndGo, ji_1, ⟨by decide, by decide⟩, by decide +kernel⟩
theorem mv_Knowing_comeAndGo : Cond.instanceMethod y_Knowing_comeAndGo.1 ∈ jTbl ∧ Cond.selects y_Knowing_comeAndGo.1.cls y_Knowing_comeAndGo.1 y_Knowing_comeAndGo.1 ∈ jTbl := ⟨jmem 565 (by decide +kernel) (by decide +kernel), jmem 8 (by decide +kernel) (by decide +kernel)⟩
abbrev y_Knowing_isPossible : jM := (⟨"CountTreaty$Knowing", "isPossible", "(II)Z"⟩, prog_3_method_5_code, 3, some .boolean)
abbrev d_Knowing_isPossible : Nat × Nat := (0, 0)
theorem jcm_Knowing_isPossible : Cond.code y_Knowing_isPossible.1 y_Knowing_isPossible.2.1 y_Knowing_isPossible.2.2.1 y_Knowing_isPossible.2.2.2 ∈ jTbl := jmt3 (List.mem_of_getElem? (i := 83) rfl) rfl
theorem mo_Knowing_isPossible : jMo y_Knowing_isPossible 2 := ⟨jcm_Knowing_isPossible, ji_1, ⟨by decide, by decide⟩, by decide +kernel⟩
theorem mv_Knowing_isPossible : Cond.instanceMethod y_Knowing_isPossible.1 ∈ jTbl ∧ Cond.selects y_Knowing_isPossible.1.cls y_Knowing_isPossible.1 y_Knowing_isPossible.1 ∈ jTbl := ⟨jmem 583 (by decide +kernel) (by decide +kernel), jmem 584 (by decide +kernel) (by decide +kernel)⟩
abbrev y_Knowing_least : jM := (⟨"CountTreaty$Knowing", "least", "(I)I"⟩, prog_3_method_6_code, 3, some .int)
abbrev d_Knowing_least : Nat × Nat := (1, 22)
theorem jcm_Knowing_least : Cond.code y_Knowing_least.1 y_Knowing_least.2.1 y_Knowing_least.2.2.1 y_Knowing_least.2.2.2 ∈ jTbl := jmt3 (List.mem_of_getElem? (i := 79) rfl) rfl
theorem mo_Knowing_least : jMo y_Knowing_least 1 := ⟨jcm_Knowing_least, ji_1, ⟨by decide, by decide⟩, by decide +kernel⟩
theorem mv_Knowing_least : Cond.instanceMethod y_Knowing_least.1 ∈ jTbl ∧ Cond.selects y_Knowing_least.1.cls y_Knowing_least.1 y_Knowing_least.1 ∈ jTbl := ⟨jmem 579 (by decide +kernel) (by decide +kernel), jmem 580 (by decide +kernel) (by decide +kernel)⟩
abbrev y_Knowing_between : jM := (⟨"CountTreaty$Knowing", "between", "(II)J"⟩, prog_3_method_14_code, 6, some .long)
abbrev d_Knowing_between : Nat × Nat := (1, 21)
theorem jcm_Knowing_between : Cond.code y_Knowing_between.1 y_Knowing_between.2.1 y_Knowing_between.2.2.1 y_Knowing_between.2.2.2 ∈ jTbl := jmt3 (List.mem_of_getElem? (i := 86) rfl) rfl
theorem mo_Knowing_between : jMo y_Knowing_between 2 := ⟨jcm_Knowing_between, ji_1, ⟨by decide, by decide⟩, by decide +kernel⟩
theorem ms_Knowing_between : Cond.static y_Knowing_between.1 ∈ jTbl := jmem 587 (by decide +kernel) (by decide +kernel)
abbrev y_Knowing_greatest : jM := (⟨"CountTreaty$Knowing", "greatest", "(I)I"⟩, prog_3_method_7_code, 3, some .int)
abbrev d_Knowing_greatest : Nat × Nat := (1, 22)
theorem jcm_Knowing_greatest : Cond.code y_Knowing_greatest.1 y_Knowing_greatest.2.1 y_Knowing_greatest.2.2.1 y_Knowing_greatest.2.2.2 ∈ jTbl := jmt3 (List.mem_of_getElem? (i := 93) rfl) rfl
theorem mo_Knowing_greatest : jMo y_Knowing_greatest 1 := ⟨jcm_Knowing_greatest, ji_1, ⟨by decide, by decide⟩, by decide +kernel⟩
theorem mv_Knowing_greatest : Cond.instanceMethod y_Knowing_greatest.1 ∈ jTbl ∧ Cond.selects y_Knowing_greatest.1.cls y_Knowing_greatest.1 y_Knowing_greatest.1 ∈ jTbl := ⟨jmem 593 (by decide +kernel) (by decide +kernel), jmem 594 (by decide +kernel) (by decide +kernel)⟩
abbrev y_Knowing_spread : jM := (⟨"CountTreaty$Knowing", "spread", "(I)V"⟩, prog_3_method_13_code, 3, none)
abbrev d_Knowing_spread : Nat × Nat := (2, 46)
theorem jcm_Knowing_spread : Cond.code y_Knowing_spread.1 y_Knowing_spread.2.1 y_Knowing_spread.2.2.1 y_Knowing_spread.2.2.2 ∈ jTbl := jmt3 (List.mem_of_getElem? (i := 75) rfl) rfl
theorem mo_Knowing_spread : jMo y_Knowing_spread 1 := ⟨jcm_Knowing_spread, ji_1, ⟨by decide, by decide⟩, by decide +kernel⟩
theorem mv_Knowing_spread : Cond.instanceMethod y_Knowing_spread.1 ∈ jTbl ∧ Cond.selects y_Knowing_spread.1.cls y_Knowing_spread.1 y_Knowing_spread.1 ∈ jTbl := ⟨jmem 576 (by decide +kernel) (by decide +kernel), jmem 10 (by decide +kernel) (by decide +kernel)⟩
abbrev y_Knowing_keep : jM := (⟨"CountTreaty$Knowing", "keep", "(III)V"⟩, prog_3_method_15_code, 4, none)
abbrev d_Knowing_keep : Nat × Nat := (2, 46)
theorem jcm_Knowing_keep : Cond.code y_Knowing_keep.1 y_Knowing_keep.2.1 y_Knowing_keep.2.2.1 y_Knowing_keep.2.2.2 ∈ jTbl := jmt3 (List.mem_of_getElem? (i := 101) rfl) rfl
theorem mo_Knowing_keep : jMo y_Knowing_keep 3 := ⟨jcm_Knowing_keep, ji_1, ⟨by decide, by decide⟩, by decide +kernel⟩
theorem mv_Knowing_keep : Cond.instanceMethod y_Knowing_keep.1 ∈ jTbl ∧ Cond.selects y_Knowing_keep.1.cls y_Knowing_keep.1 y_Knowing_keep.1 ∈ jTbl := ⟨jmem 602 (by decide +kernel) (by decide +kernel), jmem 12 (by decide +kernel) (by decide +kernel)⟩
abbrev y_Knowing_visitedOn : jM := (⟨"CountTreaty$Knowing", "visitedOn", "(LCountTreaty$State;II)V"⟩, prog_3_method_16_code, 7, none)
abbrev d_Knowing_visitedOn : Nat × Nat := (3, 69)
theorem jcm_Knowing_visitedOn : Cond.code y_Knowing_visitedOn.1 y_Knowing_visitedOn.2.1 y_Knowing_visitedOn.2.2.1 y_Knowing_visitedOn.2.2.2 ∈ jTbl := jmt3 (List.mem_of_getElem? (i := 97) rfl) rfl
theorem mo_Knowing_visitedOn : jMo y_Knowing_visitedOn 3 := ⟨jcm_Knowing_visitedOn, ji_1, ⟨by decide, by decide⟩, by decide +kernel⟩
theorem mv_Knowing_visitedOn : Cond.instanceMethod y_Knowing_visitedOn.1 ∈ jTbl ∧ Cond.selects y_Knowing_visitedOn.1.cls y_Knowing_visitedOn.1 y_Knowing_visitedOn.1 ∈ jTbl := ⟨jmem 598 (by decide +kernel) (by decide +kernel), jmem 11 (by decide +kernel) (by decide +kernel)⟩
abbrev y_Knowing_picturedOn : jM := (⟨"CountTreaty$Knowing", "picturedOn", "(LCountTreaty$State;II)V"⟩, prog_3_method_17_code, 6, none)
abbrev d_Knowing_picturedOn : Nat × Nat := (3, 69)
theorem jcm_Knowing_picturedOn : Cond.code y_Knowing_picturedOn.1 y_Knowing_picturedOn.2.1 y_Knowing_picturedOn.2.2.1 y_Knowing_picturedOn.2.2.2 ∈ jTbl := jmt3 (List.mem_of_getElem? (i := 105) rfl) rfl
theorem mo_Knowing_picturedOn : jMo y_Knowing_picturedOn 3 := ⟨jcm_Knowing_picturedOn, ji_1, ⟨by decide, by decide⟩, by decide +kernel⟩
theorem mv_Knowing_picturedOn : Cond.instanceMethod y_Knowing_picturedOn.1 ∈ jTbl ∧ Cond.selects y_Knowing_picturedOn.1.cls y_Knowing_picturedOn.1 y_Knowing_picturedOn.1 ∈ jTbl := ⟨jmem 606 (by decide +kernel) (by decide +kernel), jmem 13 (by decide +kernel) (by decide +kernel)⟩
abbrev y_Knowing_sooner : jM := (⟨"CountTreaty$Knowing", "sooner", "(III)I"⟩, prog_3_method_19_code, 4, some .int)
abbrev d_Knowing_sooner : Nat × Nat := (1, 21)
theorem jcm_Knowing_sooner : Cond.code y_Knowing_sooner.1 y_Knowing_sooner.2.1 y_Knowing_sooner.2.2.1 y_Knowing_sooner.2.2.2 ∈ jTbl := jmt3 (List.mem_of_getElem? (i := 111) rfl) rfl
theorem mo_Knowing_sooner : jMo y_Knowing_sooner 3 := ⟨jcm_Knowing_sooner, ji_1, ⟨by decide, by decide⟩, by decide +kernel⟩
theorem ms_Knowing_sooner : Cond.static y_Knowing_sooner.1 ∈ jTbl := jmem 612 (by decide +kernel) (by decide +kernel)
abbrev y_Knowing_nextDay : jM := (⟨"CountTreaty$Knowing", "nextDay", "(LCountTreaty$State;III)I"⟩, prog_3_method_18_code, 7, some .int)
abbrev d_Knowing_nextDay : Nat × Nat := (2, 44)
theorem jcm_Knowing_nextDay : Cond.code y_Knowing_nextDay.1 y_Knowing_nextDay.2.1 y_Knowing_nextDay.2.2.1 y_Knowing_nextDay.2.2.2 ∈ jTbl := jmt3 (List.mem_of_getElem? (i := 108) rfl) rfl
theorem mo_Knowing_nextDay : jMo y_Knowing_nextDay 4 := ⟨jcm_Knowing_nextDay, ji_1, ⟨by decide, by decide⟩, by decide +kernel⟩
theorem ms_Knowing_nextDay : Cond.static y_Knowing_nextDay.1 ∈ jTbl := jmem 609 (by decide +kernel) (by decide +kernel)
abbrev y_Knowing_walk : jM := (⟨"CountTreaty$Knowing", "walk", "(LCountTreaty$State;III)V"⟩, prog_3_method_8_code, 7, none)
abbrev d_Knowing_walk : Nat × Nat := (4, 98)
theorem jcm_Knowing_walk : Cond.code y_Knowing_walk.1 y_Knowing_walk.2.1 y_Knowing_walk.2.2.1 y_Knowing_walk.2.2.2 ∈ jTbl := jmt3 (List.mem_of_getElem? (i := 54) rfl) rfl
theorem mo_Knowing_walk : jMo y_Knowing_walk 4 := ⟨jcm_Knowing_walk, ji_1, ⟨by decide, by decide⟩, by decide +kernel⟩
theorem mv_Knowing_walk : Cond.instanceMethod y_Knowing_walk.1 ∈ jTbl ∧ Cond.selects y_Knowing_walk.1.cls y_Knowing_walk.1 y_Knowing_walk.1 ∈ jTbl := ⟨jmem 554 (by decide +kernel) (by decide +kernel), jmem 555 (by decide +kernel) (by decide +kernel)⟩
abbrev y_Count_possible : jM := (⟨"CountTreaty", "possible", "(IIIIZ)I"⟩, prog_1_method_30_code, 6, some .int)
abbrev d_Count_possible : Nat × Nat := (5, 124)
theorem jcm_Count_possible : Cond.code y_Count_possible.1 y_Count_possible.2.1 y_Count_possible.2.2.1 y_Count_possible.2.2.2 ∈ jTbl := jmt3 (List.mem_of_getElem? (i := 46) rfl) rfl
theorem mo_Count_possible : jMo y_Count_possible 5 := ⟨jcm_Count_possible, ji_9, ⟨by decide, by decide⟩, by decide +kernel⟩
theorem mv_Count_possible : Cond.instanceMethod y_Count_possible.1 ∈ jTbl ∧ Cond.selects y_Count_possible.1.cls y_Count_possible.1 y_Count_possible.1 ∈ jTbl := ⟨jmem 546 (by decide +kernel) (by decide +kernel), jmem 547 (by decide +kernel) (by decide +kernel)⟩
abbrev y_Knowing_hear : jM := (⟨"CountTreaty$Knowing", "hear", "(LCountTreaty$State;II)V"⟩, prog_3_method_2_code, 7, none)
abbrev d_Knowing_hear : Nat × Nat := (1, 23)
theorem jcm_Knowing_hear : Cond.code y_Knowing_hear.1 y_Knowing_hear.2.1 y_Knowing_hear.2.2.1 y_Knowing_hear.2.2.2 ∈ jTbl := jmt3 (List.mem_of_getElem? (i := 121) rfl) rfl
theorem mo_Knowing_hear : jMo y_Knowing_hear 3 := ⟨jcm_Knowing_hear, ji_1, ⟨by decide, by decide⟩, by decide +kernel⟩
theorem mv_Knowing_hear : Cond.instanceMethod y_Knowing_hear.1 ∈ jTbl ∧ Cond.selects y_Knowing_hear.1.cls y_Knowing_hear.1 y_Knowing_hear.1 ∈ jTbl := ⟨jmem 621 (by decide +kernel) (by decide +kernel), jmem 622 (by decide +kernel) (by decide +kernel)⟩
abbrev y_Knowing_placeTold : jM := (⟨"CountTreaty$Knowing", "placeTold", "(LCountTreaty$State;I)I"⟩, prog_3_method_3_code, 3, some .int)
abbrev d_Knowing_placeTold : Nat × Nat := (1, 23)
theorem jcm_Knowing_placeTold : Cond.code y_Knowing_placeTold.1 y_Knowing_placeTold.2.1 y_Knowing_placeTold.2.2.1 y_Knowing_placeTold.2.2.2 ∈ jTbl := jmt3 (List.mem_of_getElem? (i := 129) rfl) rfl
theorem mo_Knowing_placeTold : jMo y_Knowing_placeTold 2 := ⟨jcm_Knowing_placeTold, ji_1, ⟨by decide, by decide⟩, by decide +kernel⟩
theorem mv_Knowing_placeTold : Cond.instanceMethod y_Knowing_placeTold.1 ∈ jTbl ∧ Cond.selects y_Knowing_placeTold.1.cls y_Knowing_placeTold.1 y_Knowing_placeTold.1 ∈ jTbl := ⟨jmem 629 (by decide +kernel) (by decide +kernel), jmem 630 (by decide +kernel) (by decide +kernel)⟩
abbrev y_Knowing_numberTold : jM := (⟨"CountTreaty$Knowing", "numberTold", "(LCountTreaty$State;II)I"⟩, prog_3_method_4_code, 6, some .int)
abbrev d_Knowing_numberTold : Nat × Nat := (2, 45)
theorem jcm_Knowing_numberTold : Cond.code y_Knowing_numberTold.1 y_Knowing_numberTold.2.1 y_Knowing_numberTold.2.2.1 y_Knowing_numberTold.2.2.2 ∈ jTbl := jmt3 (List.mem_of_getElem? (i := 125) rfl) rfl
theorem mo_Knowing_numberTold : jMo y_Knowing_numberTold 3 := ⟨jcm_Knowing_numberTold, ji_1, ⟨by decide, by decide⟩, by decide +kernel⟩
theorem mv_Knowing_numberTold : Cond.instanceMethod y_Knowing_numberTold.1 ∈ jTbl ∧ Cond.selects y_Knowing_numberTold.1.cls y_Knowing_numberTold.1 y_Knowing_numberTold.1 ∈ jTbl := ⟨jmem 625 (by decide +kernel) (by decide +kernel), jmem 626 (by decide +kernel) (by decide +kernel)⟩
abbrev y_Count_doubted : jM := (⟨"CountTreaty", "doubted", "(IIII)I"⟩, prog_1_method_32_code, 5, some .int)
abbrev d_Count_doubted : Nat × Nat := (5, 124)
theorem jcm_Count_doubted : Cond.code y_Count_doubted.1 y_Count_doubted.2.1 y_Count_doubted.2.2.1 y_Count_doubted.2.2.2 ∈ jTbl := jmt3 (List.mem_of_getElem? (i := 117) rfl) rfl
theorem mo_Count_doubted : jMo y_Count_doubted 4 := ⟨jcm_Count_doubted, ji_9, ⟨by decide, by decide⟩, by decide +kernel⟩
theorem mv_Count_doubted : Cond.instanceMethod y_Count_doubted.1 ∈ jTbl ∧ Cond.selects y_Count_doubted.1.cls y_Count_doubted.1 y_Count_doubted.1 ∈ jTbl := ⟨jmem 617 (by decide +kernel) (by decide +kernel), jmem 618 (by decide +kernel) (by decide +kernel)⟩
abbrev y_Count_doubt : jM := (⟨"CountTreaty", "doubt", "(III)I"⟩, prog_1_method_33_code, 7, some .int)
abbrev d_Count_doubt : Nat × Nat := (5, 124)
theorem jcm_Count_doubt : Cond.code y_Count_doubt.1 y_Count_doubt.2.1 y_Count_doubt.2.2.1 y_Count_doubt.2.2.2 ∈ jTbl := jmt3 (List.mem_of_getElem? (i := 134) rfl) rfl
theorem mo_Count_doubt : jMo y_Count_doubt 3 := ⟨jcm_Count_doubt, ji_9, ⟨by decide, by decide⟩, by decide +kernel⟩
theorem mv_Count_doubt : Cond.instanceMethod y_Count_doubt.1 ∈ jTbl ∧ Cond.selects y_Count_doubt.1.cls y_Count_doubt.1 y_Count_doubt.1 ∈ jTbl := ⟨jmem 634 (by decide +kernel) (by decide +kernel), jmem 635 (by decide +kernel) (by decide +kernel)⟩
abbrev y_Count_chance : jM := (⟨"CountTreaty", "chance", "(II)Z"⟩, prog_1_method_39_code, 3, some .boolean)
abbrev d_Count_chance : Nat × Nat := (1, 24)
theorem jcm_Count_chance : Cond.code y_Count_chance.1 y_Count_chance.2.1 y_Count_chance.2.2.1 y_Count_chance.2.2.2 ∈ jTbl := jmt3 (List.mem_of_getElem? (i := 196) rfl) rfl
theorem mo_Count_chance : jMo y_Count_chance 2 := ⟨jcm_Count_chance, ji_9, ⟨by decide, by decide⟩, by decide +kernel⟩
theorem mv_Count_chance : Cond.instanceMethod y_Count_chance.1 ∈ jTbl ∧ Cond.selects y_Count_chance.1.cls y_Count_chance.1 y_Count_chance.1 ∈ jTbl := ⟨jmem 696 (by decide +kernel) (by decide +kernel), jmem 697 (by decide +kernel) (by decide +kernel)⟩
abbrev y_Shares_reduce : jM := (⟨"CountTreaty$Shares", "reduce", "(JJ)V"⟩, prog_7_method_5_code, 12, none)
abbrev d_Shares_reduce : Nat × Nat := (0, 0)
theorem jcm_Shares_reduce : Cond.code y_Shares_reduce.1 y_Shares_reduce.2.1 y_Shares_reduce.2.2.1 y_Shares_reduce.2.2.2 ∈ jTbl := jmt3 (List.mem_of_getElem? (i := 221) rfl) rfl
theorem mo_Shares_reduce : jMo y_Shares_reduce 2 := ⟨jcm_Shares_reduce, ji_5, ⟨by decide, by decide⟩, by decide +kernel⟩
theorem mv_Shares_reduce : Cond.instanceMethod y_Shares_reduce.1 ∈ jTbl ∧ Cond.selects y_Shares_reduce.1.cls y_Shares_reduce.1 y_Shares_reduce.1 ∈ jTbl := ⟨jmem 722 (by decide +kernel) (by decide +kernel), jmem 20 (by decide +kernel) (by decide +kernel)⟩
abbrev y_Shares_evaluate : jM := (⟨"CountTreaty$Shares", "evaluate", "()V"⟩, prog_7_method_3_code, 7, none)
abbrev d_Shares_evaluate : Nat × Nat := (1, 31)
theorem jcm_Shares_evaluate : Cond.code y_Shares_evaluate.1 y_Shares_evaluate.2.1 y_Shares_evaluate.2.2.1 y_Shares_evaluate.2.2.2 ∈ jTbl := jmt3 (List.mem_of_getElem? (i := 216) rfl) rfl
theorem mo_Shares_evaluate : jMo y_Shares_evaluate 0 := ⟨jcm_Shares_evaluate, ji_5, ⟨by decide, by decide⟩, by decide +kernel⟩
theorem mv_Shares_evaluate : Cond.instanceMethod y_Shares_evaluate.1 ∈ jTbl ∧ Cond.selects y_Shares_evaluate.1.cls y_Shares_evaluate.1 y_Shares_evaluate.1 ∈ jTbl := ⟨jmem 717 (by decide +kernel) (by decide +kernel), jmem 19 (by decide +kernel) (by decide +kernel)⟩
abbrev y_Shares_take : jM := (⟨"CountTreaty$Shares", "take", "(LCountTreaty$State;II)Z"⟩, prog_7_method_2_code, 5, some .boolean)
abbrev d_Shares_take : Nat × Nat := (2, 57)
theorem jcm_Shares_take : Cond.code y_Shares_take.1 y_Shares_take.2.1 y_Shares_take.2.2.1 y_Shares_take.2.2.2 ∈ jTbl := jmt3 (List.mem_of_getElem? (i := 210) rfl) rfl
theorem mo_Shares_take : jMo y_Shares_take 3 := ⟨jcm_Shares_take, ji_5, ⟨by decide, by decide⟩, by decide +kernel⟩
theorem mv_Shares_take : Cond.instanceMethod y_Shares_take.1 ∈ jTbl ∧ Cond.selects y_Shares_take.1.cls y_Shares_take.1 y_Shares_take.1 ∈ jTbl := ⟨jmem 710 (by decide +kernel) (by decide +kernel), jmem 711 (by decide +kernel) (by decide +kernel)⟩
abbrev y_Count_value : jM := (⟨"CountTreaty", "value", "(IIZ)J"⟩, prog_1_method_40_code, 4, some .long)
abbrev d_Count_value : Nat × Nat := (3, 81)
theorem jcm_Count_value : Cond.code y_Count_value.1 y_Count_value.2.1 y_Count_value.2.2.1 y_Count_value.2.2.2 ∈ jTbl := jmt3 (List.mem_of_getElem? (i := 206) rfl) rfl
theorem mo_Count_value : jMo y_Count_value 3 := ⟨jcm_Count_value, ji_9, ⟨by decide, by decide⟩, by decide +kernel⟩
theorem mv_Count_value : Cond.instanceMethod y_Count_value.1 ∈ jTbl ∧ Cond.selects y_Count_value.1.cls y_Count_value.1 y_Count_value.1 ∈ jTbl := ⟨jmem 706 (by decide +kernel) (by decide +kernel), jmem 707 (by decide +kernel) (by decide +kernel)⟩
abbrev y_Shares_divide : jM := (⟨"CountTreaty$Shares", "divide", "(I)V"⟩, prog_7_method_4_code, 2, none)
abbrev d_Shares_divide : Nat × Nat := (1, 31)
theorem jcm_Shares_divide : Cond.code y_Shares_divide.1 y_Shares_divide.2.1 y_Shares_divide.2.2.1 y_Shares_divide.2.2.2 ∈ jTbl := jmt3 (List.mem_of_getElem? (i := 230) rfl) rfl
theorem mo_Shares_divide : jMo y_Shares_divide 1 := ⟨jcm_Shares_divide, ji_5, ⟨by decide, by decide⟩, by decide +kernel⟩
theorem mv_Shares_divide : Cond.instanceMethod y_Shares_divide.1 ∈ jTbl ∧ Cond.selects y_Shares_divide.1.cls y_Shares_divide.1 y_Shares_divide.1 ∈ jTbl := ⟨jmem 730 (by decide +kernel) (by decide +kernel), jmem 731 (by decide +kernel) (by decide +kernel)⟩
abbrev y_Count_share : jM := (⟨"CountTreaty", "share", "(IIIZ)J"⟩, prog_1_method_41_code, 5, some .long)
abbrev d_Count_share : Nat × Nat := (3, 81)
theorem jcm_Count_share : Cond.code y_Count_share.1 y_Count_share.2.1 y_Count_share.2.2.1 y_Count_share.2.2.2 ∈ jTbl := jmt3 (List.mem_of_getElem? (i := 226) rfl) rfl
theorem mo_Count_share : jMo y_Count_share 4 := ⟨jcm_Count_share, ji_9, ⟨by decide, by decide⟩, by decide +kernel⟩
theorem mv_Count_share : Cond.instanceMethod y_Count_share.1 ∈ jTbl ∧ Cond.selects y_Count_share.1.cls y_Count_share.1 y_Count_share.1 ∈ jTbl := ⟨jmem 726 (by decide +kernel) (by decide +kernel), jmem 727 (by decide +kernel) (by decide +kernel)⟩
abbrev y_Shares_weigh : jM := (⟨"CountTreaty$Shares", "weigh", "(II)V"⟩, prog_7_method_6_code, 3, none)
abbrev d_Shares_weigh : Nat × Nat := (0, 0)
theorem jcm_Shares_weigh : Cond.code y_Shares_weigh.1 y_Shares_weigh.2.1 y_Shares_weigh.2.2.1 y_Shares_weigh.2.2.2 ∈ jTbl := jmt4 (List.mem_of_getElem? (i := 1) rfl) rfl
theorem mo_Shares_weigh : jMo y_Shares_weigh 2 := ⟨jcm_Shares_weigh, ji_5, ⟨by decide, by decide⟩, by decide +kernel⟩
theorem mv_Shares_weigh : Cond.instanceMethod y_Shares_weigh.1 ∈ jTbl ∧ Cond.selects y_Shares_weigh.1.cls y_Shares_weigh.1 y_Shares_weigh.1 ∈ jTbl := ⟨jmem 741 (by decide +kernel) (by decide +kernel), jmem 742 (by decide +kernel) (by decide +kernel)⟩
abbrev y_Shares_greatestTogether : jM := (⟨"CountTreaty$Shares", "greatestTogether", "()J"⟩, prog_7_method_8_code, 6, some .long)
abbrev d_Shares_greatestTogether : Nat × Nat := (0, 0)
theorem jcm_Shares_greatestTogether : Cond.code y_Shares_greatestTogether.1 y_Shares_greatestTogether.2.1 y_Shares_greatestTogether.2.2.1 y_Shares_greatestTogether.2.2.2 ∈ jTbl := jmt4 (List.mem_of_getElem? (i := 9) rfl) rfl
theorem mo_Shares_greatestTogether : jMo y_Shares_greatestTogether 0 := ⟨jcm_Shares_greatestTogether, ji_5, ⟨by decide, by decide⟩, by decide +kernel⟩
theorem mv_Shares_greatestTogether : Cond.instanceMethod y_Shares_greatestTogether.1 ∈ jTbl ∧ Cond.selects y_Shares_greatestTogether.1.cls y_Shares_greatestTogether.1 y_Shares_greatestTogether.1 ∈ jTbl := ⟨jmem 750 (by decide +kernel) (by decide +kernel), jmem 21 (by decide +kernel) (by decide +kernel)⟩
abbrev y_Shares_prove : jM := (⟨"CountTreaty$Shares", "prove", "()I"⟩, prog_7_method_7_code, 4, some .int)
abbrev d_Shares_prove : Nat × Nat := (1, 25)
theorem jcm_Shares_prove : Cond.code y_Shares_prove.1 y_Shares_prove.2.1 y_Shares_prove.2.2.1 y_Shares_prove.2.2.2 ∈ jTbl := jmt4 (List.mem_of_getElem? (i := 5) rfl) rfl
theorem mo_Shares_prove : jMo y_Shares_prove 0 := ⟨jcm_Shares_prove, ji_5, ⟨by decide, by decide⟩, by decide +kernel⟩
theorem mv_Shares_prove : Cond.instanceMethod y_Shares_prove.1 ∈ jTbl ∧ Cond.selects y_Shares_prove.1.cls y_Shares_prove.1 y_Shares_prove.1 ∈ jTbl := ⟨jmem 745 (by decide +kernel) (by decide +kernel), jmem 746 (by decide +kernel) (by decide +kernel)⟩
abbrev y_Count_proof : jM := (⟨"CountTreaty", "proof", "(IIIIIII)I"⟩, prog_1_method_42_code, 8, some .int)
abbrev d_Count_proof : Nat × Nat := (3, 81)
theorem jcm_Count_proof : Cond.code y_Count_proof.1 y_Count_proof.2.1 y_Count_proof.2.2.1 y_Count_proof.2.2.2 ∈ jTbl := jmt3 (List.mem_of_getElem? (i := 237) rfl) rfl
theorem mo_Count_proof : jMo y_Count_proof 7 := ⟨jcm_Count_proof, ji_9, ⟨by decide, by decide⟩, by decide +kernel⟩
theorem mv_Count_proof : Cond.instanceMethod y_Count_proof.1 ∈ jTbl ∧ Cond.selects y_Count_proof.1.cls y_Count_proof.1 y_Count_proof.1 ∈ jTbl := ⟨jmem 737 (by decide +kernel) (by decide +kernel), jmem 738 (by decide +kernel) (by decide +kernel)⟩
abbrev y_Search_markClosed : jM := (⟨"CountTreaty$Search", "markClosed", "(LCountTreaty$State;)V"⟩, prog_6_method_4_code, 3, none)
abbrev d_Search_markClosed : Nat × Nat := (3, 72)
theorem jcm_Search_markClosed : Cond.code y_Search_markClosed.1 y_Search_markClosed.2.1 y_Search_markClosed.2.2.1 y_Search_markClosed.2.2.2 ∈ jTbl := jmt3 (List.mem_of_getElem? (i := 164) rfl) rfl
theorem mo_Search_markClosed : jMo y_Search_markClosed 1 := ⟨jcm_Search_markClosed, ji_4, ⟨by decide, by decide⟩, by decide +kernel⟩
theorem mv_Search_markClosed : Cond.instanceMethod y_Search_markClosed.1 ∈ jTbl ∧ Cond.selects y_Search_markClosed.1.cls y_Search_markClosed.1 y_Search_markClosed.1 ∈ jTbl := ⟨jmem 665 (by decide +kernel) (by decide +kernel), jmem 14 (by decide +kernel) (by decide +kernel)⟩
abbrev y_Search_markEyes : jM := (⟨"CountTreaty$Search", "markEyes", "(LCountTreaty$State;I)V"⟩, prog_6_method_6_code, 8, none)
abbrev d_Search_markEyes : Nat × Nat := (2, 46)
theorem jcm_Search_markEyes : Cond.code y_Search_markEyes.1 y_Search_markEyes.2.1 y_Search_markEyes.2.2.1 y_Search_markEyes.2.2.2 ∈ jTbl := jmt3 (List.mem_of_getElem? (i := 171) rfl) rfl
theorem mo_Search_markEyes : jMo y_Search_markEyes 2 := ⟨jcm_Search_markEyes, ji_4, ⟨by decide, by decide⟩, by decide +kernel⟩
theorem mv_Search_markEyes : Cond.instanceMethod y_Search_markEyes.1 ∈ jTbl ∧ Cond.selects y_Search_markEyes.1.cls y_Search_markEyes.1 y_Search_markEyes.1 ∈ jTbl := ⟨jmem 672 (by decide +kernel) (by decide +kernel), jmem 15 (by decide +kernel) (by decide +kernel)⟩
abbrev y_Search_isClosed : jM := (⟨"CountTreaty$Search", "isClosed", "(I)Z"⟩, prog_6_method_5_code, 2, some .boolean)
abbrev d_Search_isClosed : Nat × Nat := (0, 0)
theorem jcm_Search_isClosed : Cond.code y_Search_isClosed.1 y_Search_isClosed.2.1 y_Search_isClosed.2.2.1 y_Search_isClosed.2.2.2 ∈ jTbl := jmt3 (List.mem_of_getElem? (i := 177) rfl) rfl
theorem mo_Search_isClosed : jMo y_Search_isClosed 1 := ⟨jcm_Search_isClosed, ji_4, ⟨by decide, by decide⟩, by decide +kernel⟩
theorem mv_Search_isClosed : Cond.instanceMethod y_Search_isClosed.1 ∈ jTbl ∧ Cond.selects y_Search_isClosed.1.cls y_Search_isClosed.1 y_Search_isClosed.1 ∈ jTbl := ⟨jmem 678 (by decide +kernel) (by decide +kernel), jmem 16 (by decide +kernel) (by decide +kernel)⟩
abbrev y_Search_isEyed : jM := (⟨"CountTreaty$Search", "isEyed", "(II)Z"⟩, prog_6_method_7_code, 4, some .boolean)
abbrev d_Search_isEyed : Nat × Nat := (0, 0)
theorem jcm_Search_isEyed : Cond.code y_Search_isEyed.1 y_Search_isEyed.2.1 y_Search_isEyed.2.2.1 y_Search_isEyed.2.2.2 ∈ jTbl := jmt3 (List.mem_of_getElem? (i := 185) rfl) rfl
theorem mo_Search_isEyed : jMo y_Search_isEyed 2 := ⟨jcm_Search_isEyed, ji_4, ⟨by decide, by decide⟩, by decide +kernel⟩
theorem mv_Search_isEyed : Cond.instanceMethod y_Search_isEyed.1 ∈ jTbl ∧ Cond.selects y_Search_isEyed.1.cls y_Search_isEyed.1 y_Search_isEyed.1 ∈ jTbl := ⟨jmem 686 (by decide +kernel) (by decide +kernel), jmem 18 (by decide +kernel) (by decide +kernel)⟩
abbrev y_Search_findDays : jM := (⟨"CountTreaty$Search", "findDays", "(LCountTreaty$State;IIIII)V"⟩, prog_6_method_3_code, 9, none)
abbrev d_Search_findDays : Nat × Nat := (1, 23)
theorem jcm_Search_findDays : Cond.code y_Search_findDays.1 y_Search_findDays.2.1 y_Search_findDays.2.2.1 y_Search_findDays.2.2.2 ∈ jTbl := jmt3 (List.mem_of_getElem? (i := 181) rfl) rfl
theorem mo_Search_findDays : jMo y_Search_findDays 6 := ⟨jcm_Search_findDays, ji_4, ⟨by decide, by decide⟩, by decide +kernel⟩
theorem mv_Search_findDays : Cond.instanceMethod y_Search_findDays.1 ∈ jTbl ∧ Cond.selects y_Search_findDays.1.cls y_Search_findDays.1 y_Search_findDays.1 ∈ jTbl := ⟨jmem 682 (by decide +kernel) (by decide +kernel), jmem 17 (by decide +kernel) (by decide +kernel)⟩
abbrev y_Search_find : jM := (⟨"CountTreaty$Search", "find", "(LCountTreaty$State;III)I"⟩, prog_6_method_2_code, 9, some .int)
abbrev d_Search_find : Nat × Nat := (4, 94)
theorem jcm_Search_find : Cond.code y_Search_find.1 y_Search_find.2.1 y_Search_find.2.2.1 y_Search_find.2.2.2 ∈ jTbl := jmt3 (List.mem_of_getElem? (i := 159) rfl) rfl
theorem mo_Search_find : jMo y_Search_find 4 := ⟨jcm_Search_find, ji_4, ⟨by decide, by decide⟩, by decide +kernel⟩
theorem mv_Search_find : Cond.instanceMethod y_Search_find.1 ∈ jTbl ∧ Cond.selects y_Search_find.1.cls y_Search_find.1 y_Search_find.1 ∈ jTbl := ⟨jmem 659 (by decide +kernel) (by decide +kernel), jmem 660 (by decide +kernel) (by decide +kernel)⟩
abbrev y_Count_unseen : jM := (⟨"CountTreaty", "unseen", "(II)I"⟩, prog_1_method_44_code, 3, some .int)
abbrev d_Count_unseen : Nat × Nat := (5, 122)
theorem jcm_Count_unseen : Cond.code y_Count_unseen.1 y_Count_unseen.2.1 y_Count_unseen.2.2.1 y_Count_unseen.2.2.2 ∈ jTbl := jmt3 (List.mem_of_getElem? (i := 189) rfl) rfl
theorem mo_Count_unseen : jMo y_Count_unseen 2 := ⟨jcm_Count_unseen, ji_9, ⟨by decide, by decide⟩, by decide +kernel⟩
theorem mv_Count_unseen : Cond.instanceMethod y_Count_unseen.1 ∈ jTbl ∧ Cond.selects y_Count_unseen.1.cls y_Count_unseen.1 y_Count_unseen.1 ∈ jTbl := ⟨jmem 689 (by decide +kernel) (by decide +kernel), jmem 690 (by decide +kernel) (by decide +kernel)⟩
abbrev y_Count_trick : jM := (⟨"CountTreaty", "trick", "(IIII)I"⟩, prog_1_method_45_code, 5, some .int)
abbrev d_Count_trick : Nat × Nat := (5, 122)
theorem jcm_Count_trick : Cond.code y_Count_trick.1 y_Count_trick.2.1 y_Count_trick.2.2.1 y_Count_trick.2.2.2 ∈ jTbl := jmt3 (List.mem_of_getElem? (i := 155) rfl) rfl
theorem mo_Count_trick : jMo y_Count_trick 4 := ⟨jcm_Count_trick, ji_9, ⟨by decide, by decide⟩, by decide +kernel⟩
theorem mv_Count_trick : Cond.instanceMethod y_Count_trick.1 ∈ jTbl ∧ Cond.selects y_Count_trick.1.cls y_Count_trick.1 y_Count_trick.1 ∈ jTbl := ⟨jmem 655 (by decide +kernel) (by decide +kernel), jmem 656 (by decide +kernel) (by decide +kernel)⟩
abbrev y_Count_about : jM := (⟨"CountTreaty", "about", "(I)I"⟩, prog_1_method_48_code, 2, some .int)
abbrev d_Count_about : Nat × Nat := (1, 23)
theorem jcm_Count_about : Cond.code y_Count_about.1 y_Count_about.2.1 y_Count_about.2.2.1 y_Count_about.2.2.2 ∈ jTbl := jmt3 (List.mem_of_getElem? (i := 138) rfl) rfl
theorem mo_Count_about : jMo y_Count_about 1 := ⟨jcm_Count_about, ji_9, ⟨by decide, by decide⟩, by decide +kernel⟩
theorem mv_Count_about : Cond.instanceMethod y_Count_about.1 ∈ jTbl ∧ Cond.selects y_Count_about.1.cls y_Count_about.1 y_Count_about.1 ∈ jTbl := ⟨jmem 638 (by decide +kernel) (by decide +kernel), jmem 639 (by decide +kernel) (by decide +kernel)⟩
abbrev y_Law_pick : jM := (⟨"CountTreatyLaw", "pick", "([II)I"⟩, method_2_code, 2, some .int)
abbrev d_Law_pick : Nat × Nat := (0, 0)
theorem jcm_Law_pick : Cond.code y_Law_pick.1 y_Law_pick.2.1 y_Law_pick.2.2.1 y_Law_pick.2.2.2 ∈ jTbl := jmt3 (List.mem_of_getElem? (i := 141) rfl) rfl
theorem mo_Law_pick : jMo y_Law_pick 2 := ⟨jcm_Law_pick, ji_10, ⟨by decide, by decide⟩, by decide +kernel⟩
theorem ms_Law_pick : Cond.static y_Law_pick.1 ∈ jTbl := jmem 642 (by decide +kernel) (by decide +kernel)
abbrev y_Law_where : jM := (⟨"CountTreatyLaw", "where", "([I[IIII)I"⟩, method_3_code, 7, some .int)
abbrev d_Law_where : Nat × Nat := (0, 0)
theorem jcm_Law_where : Cond.code y_Law_where.1 y_Law_where.2.1 y_Law_where.2.2.1 y_Law_where.2.2.2 ∈ jTbl := jmt3 (List.mem_of_getElem? (i := 145) rfl) rfl
theorem mo_Law_where : jMo y_Law_where 5 := ⟨jcm_Law_where, ji_10, ⟨by decide, by decide⟩, by decide +kernel⟩
theorem ms_Law_where : Cond.static y_Law_where.1 ∈ jTbl := jmem 646 (by decide +kernel) (by decide +kernel)
abbrev y_Law_whole : jM := (⟨"CountTreatyLaw", "whole", "([II[III)Z"⟩, method_5_code, 8, some .boolean)
abbrev d_Law_whole : Nat × Nat := (0, 0)
theorem jcm_Law_whole : Cond.code y_Law_whole.1 y_Law_whole.2.1 y_Law_whole.2.2.1 y_Law_whole.2.2.2 ∈ jTbl := jmt3 (List.mem_of_getElem? (i := 148) rfl) rfl
theorem mo_Law_whole : jMo y_Law_whole 5 := ⟨jcm_Law_whole, ji_10, ⟨by decide, by decide⟩, by decide +kernel⟩
theorem ms_Law_whole : Cond.static y_Law_whole.1 ∈ jTbl := jmem 649 (by decide +kernel) (by decide +kernel)
abbrev y_Law_tricks : jM := (⟨"CountTreatyLaw", "tricks", "(LCountTreaty;[I[III[Z[I[III)Z"⟩, method_6_code, 18, some .boolean)
abbrev d_Law_tricks : Nat × Nat := (6, 146)
theorem jcm_Law_tricks : Cond.code y_Law_tricks.1 y_Law_tricks.2.1 y_Law_tricks.2.2.1 y_Law_tricks.2.2.2 ∈ jTbl := jmt3 (List.mem_of_getElem? (i := 151) rfl) rfl
theorem mo_Law_tricks : jMo y_Law_tricks 10 := ⟨jcm_Law_tricks, ji_10, ⟨by decide, by decide⟩, by decide +kernel⟩
theorem ms_Law_tricks : Cond.static y_Law_tricks.1 ∈ jTbl := jmem 652 (by decide +kernel) (by decide +kernel)
abbrev y_Intg_bitCount : jM := (⟨"java/lang/Integer", "bitCount", "(I)I"⟩, prog_13_method_49_code, 1, some .int)
abbrev d_Intg_bitCount : Nat × Nat := (0, 0)
theorem jcm_Intg_bitCount : Cond.code y_Intg_bitCount.1 y_Intg_bitCount.2.1 y_Intg_bitCount.2.2.1 y_Intg_bitCount.2.2.2 ∈ jTbl := jmt3 (List.mem_of_getElem? (i := 199) rfl) rfl
theorem mo_Intg_bitCount : jMo y_Intg_bitCount 1 := ⟨jcm_Intg_bitCount, ji_11, ⟨by decide, by decide⟩, by decide +kernel⟩
theorem ms_Intg_bitCount : Cond.static y_Intg_bitCount.1 ∈ jTbl := jmem 700 (by decide +kernel) (by decide +kernel)
abbrev y_Math_max : jM := (⟨"java/lang/Math", "max", "(JJ)J"⟩, prog_14_method_66_code, 4, some .long)
abbrev d_Math_max : Nat × Nat := (0, 0)
theorem jcm_Math_max : Cond.code y_Math_max.1 y_Math_max.2.1 y_Math_max.2.2.1 y_Math_max.2.2.2 ∈ jTbl := jmt3 (List.mem_of_getElem? (i := 233) rfl) rfl
theorem mo_Math_max : jMo y_Math_max 2 := ⟨jcm_Math_max, ji_12, ⟨by decide, by decide⟩, by decide +kernel⟩
theorem ms_Math_max : Cond.static y_Math_max.1 ∈ jTbl := jmem 734 (by decide +kernel) (by decide +kernel)
abbrev y_Law_shares : jM := (⟨"CountTreatyLaw", "shares", "(LCountTreaty;[I)Z"⟩, method_7_code, 27, some .boolean)
abbrev d_Law_shares : Nat × Nat := (4, 108)
theorem jcm_Law_shares : Cond.code y_Law_shares.1 y_Law_shares.2.1 y_Law_shares.2.2.1 y_Law_shares.2.2.2 ∈ jTbl := jmt3 (List.mem_of_getElem? (i := 192) rfl) rfl
theorem mo_Law_shares : jMo y_Law_shares 2 := ⟨jcm_Law_shares, ji_10, ⟨by decide, by decide⟩, by decide +kernel⟩
theorem ms_Law_shares : Cond.static y_Law_shares.1 ∈ jTbl := jmem 693 (by decide +kernel) (by decide +kernel)
theorem lk_9_3 : Cond.methodLink (jcn 9) 3 Lib.objectInit ∈ jTbl := jmem 40 (by decide +kernel) (by decide +kernel)
theorem lk_9_11 : Cond.methodLink (jcn 9) 11 y_State_init.1 ∈ jTbl := jmem 45 (by decide +kernel) (by decide +kernel)
theorem lk_9_21 : Cond.methodLink (jcn 9) 21 y_Reader_init.1 ∈ jTbl := jmem 194 (by decide +kernel) (by decide +kernel)
theorem lk_9_28 : Cond.methodLink (jcn 9) 28 y_Knowing_init.1 ∈ jTbl := jmem 248 (by decide +kernel) (by decide +kernel)
theorem lk_9_35 : Cond.methodLink (jcn 9) 35 y_Judge_init.1 ∈ jTbl := jmem 262 (by decide +kernel) (by decide +kernel)
theorem lk_9_42 : Cond.methodLink (jcn 9) 42 y_Shares_init.1 ∈ jTbl := jmem 278 (by decide +kernel) (by decide +kernel)
theorem lk_9_49 : Cond.methodLink (jcn 9) 49 y_Search_init.1 ∈ jTbl := jmem 305 (by decide +kernel) (by decide +kernel)
theorem lk_9_54 : Cond.methodLink (jcn 9) 54 y_State_isLand.1 ∈ jTbl := jmem 358 (by decide +kernel) (by decide +kernel)
theorem lk_9_62 : Cond.methodLink (jcn 9) 62 y_Rows_isFull.1 ∈ jTbl := jmem 361 (by decide +kernel) (by decide +kernel)
theorem lk_9_68 : Cond.methodLink (jcn 9) 68 y_Rows_open.1 ∈ jTbl := jmem 365 (by decide +kernel) (by decide +kernel)
theorem lk_9_72 : Cond.methodLink (jcn 9) 72 y_Rows_put.1 ∈ jTbl := jmem 366 (by decide +kernel) (by decide +kernel)
theorem lk_9_76 : Cond.methodLink (jcn 9) 76 y_State_openWays.1 ∈ jTbl := jmem 367 (by decide +kernel) (by decide +kernel)
theorem lk_9_80 : Cond.methodLink (jcn 9) 80 y_Rows_has.1 ∈ jTbl := jmem 375 (by decide +kernel) (by decide +kernel)
theorem lk_9_83 : Cond.methodLink (jcn 9) 83 y_Rows_at.1 ∈ jTbl := jmem 379 (by decide +kernel) (by decide +kernel)
theorem lk_9_91 : Cond.methodLink (jcn 9) 91 y_State_shortenWays.1 ∈ jTbl := jmem 383 (by decide +kernel) (by decide +kernel)
theorem lk_9_97 : Cond.methodLink (jcn 9) 97 y_State_isSort.1 ∈ jTbl := jmem 404 (by decide +kernel) (by decide +kernel)
theorem lk_9_103 : Cond.methodLink (jcn 9) 103 y_Rows_count.1 ∈ jTbl := jmem 407 (by decide +kernel) (by decide +kernel)
theorem lk_9_122 : Cond.methodLink (jcn 9) 122 y_State_addAct.1 ∈ jTbl := jmem 412 (by decide +kernel) (by decide +kernel)
theorem lk_9_129 : Cond.methodLink (jcn 9) 129 y_State_placeOn.1 ∈ jTbl := jmem 420 (by decide +kernel) (by decide +kernel)
theorem lk_9_136 : Cond.methodLink (jcn 9) 136 y_Treaty_tells.1 ∈ jTbl := jmem 428 (by decide +kernel) (by decide +kernel)
theorem lk_9_144 : Cond.methodLink (jcn 9) 144 y_State_isSealed.1 ∈ jTbl := jmem 453 (by decide +kernel) (by decide +kernel)
theorem lk_9_147 : Cond.methodLink (jcn 9) 147 y_State_addSpot.1 ∈ jTbl := jmem 465 (by decide +kernel) (by decide +kernel)
theorem lk_9_151 : Cond.methodLink (jcn 9) 151 y_State_isDay.1 ∈ jTbl := jmem 476 (by decide +kernel) (by decide +kernel)
theorem lk_9_154 : Cond.methodLink (jcn 9) 154 y_State_isWhole.1 ∈ jTbl := jmem 487 (by decide +kernel) (by decide +kernel)
theorem lk_9_206 : Cond.methodLink (jcn 9) 206 y_Knowing_hear.1 ∈ jTbl := jmem 620 (by decide +kernel) (by decide +kernel)
theorem lk_9_214 : Cond.methodLink (jcn 9) 214 y_Knowing_numberTold.1 ∈ jTbl := jmem 624 (by decide +kernel) (by decide +kernel)
theorem lk_9_218 : Cond.methodLink (jcn 9) 218 y_Count_isAbroad.1 ∈ jTbl := jmem 496 (by decide +kernel) (by decide +kernel)
theorem lk_9_224 : Cond.methodLink (jcn 9) 224 y_State_lookAround.1 ∈ jTbl := jmem 500 (by decide +kernel) (by decide +kernel)
theorem lk_9_227 : Cond.methodLink (jcn 9) 227 y_State_lookAtSeal.1 ∈ jTbl := jmem 530 (by decide +kernel) (by decide +kernel)
theorem lk_9_233 : Cond.methodLink (jcn 9) 233 y_State_hasSpot.1 ∈ jTbl := jmem 538 (by decide +kernel) (by decide +kernel)
theorem lk_9_240 : Cond.methodLink (jcn 9) 240 y_State_numberLarge.1 ∈ jTbl := jmem 541 (by decide +kernel) (by decide +kernel)
theorem lk_9_243 : Cond.methodLink (jcn 9) 243 y_Count_isKnowable.1 ∈ jTbl := jmem 549 (by decide +kernel) (by decide +kernel)
theorem lk_9_247 : Cond.methodLink (jcn 9) 247 y_Knowing_walk.1 ∈ jTbl := jmem 553 (by decide +kernel) (by decide +kernel)
theorem lk_9_251 : Cond.methodLink (jcn 9) 251 y_Knowing_greatest.1 ∈ jTbl := jmem 614 (by decide +kernel) (by decide +kernel)
theorem lk_9_254 : Cond.methodLink (jcn 9) 254 y_Knowing_least.1 ∈ jTbl := jmem 615 (by decide +kernel) (by decide +kernel)
theorem lk_9_257 : Cond.methodLink (jcn 9) 257 y_Knowing_isPossible.1 ∈ jTbl := jmem 632 (by decide +kernel) (by decide +kernel)
theorem lk_9_271 : Cond.methodLink (jcn 9) 271 y_Shares_take.1 ∈ jTbl := jmem 709 (by decide +kernel) (by decide +kernel)
theorem lk_9_284 : Cond.methodLink (jcn 9) 284 y_Shares_divide.1 ∈ jTbl := jmem 729 (by decide +kernel) (by decide +kernel)
theorem lk_9_287 : Cond.methodLink (jcn 9) 287 y_Shares_weigh.1 ∈ jTbl := jmem 740 (by decide +kernel) (by decide +kernel)
theorem lk_9_291 : Cond.methodLink (jcn 9) 291 y_Shares_prove.1 ∈ jTbl := jmem 744 (by decide +kernel) (by decide +kernel)
theorem lk_9_297 : Cond.methodLink (jcn 9) 297 y_Search_find.1 ∈ jTbl := jmem 658 (by decide +kernel) (by decide +kernel)
theorem lk_0_3 : Cond.methodLink (jcn 0) 3 Lib.objectInit ∈ jTbl := jmem 265 (by decide +kernel) (by decide +kernel)
theorem lk_1_3 : Cond.methodLink (jcn 1) 3 Lib.objectInit ∈ jTbl := jmem 251 (by decide +kernel) (by decide +kernel)
theorem lk_1_25 : Cond.methodLink (jcn 1) 25 y_Rows_count.1 ∈ jTbl := jmem 561 (by decide +kernel) (by decide +kernel)
theorem lk_1_31 : Cond.methodLink (jcn 1) 31 y_Rows_at.1 ∈ jTbl := jmem 562 (by decide +kernel) (by decide +kernel)
theorem lk_1_38 : Cond.methodLink (jcn 1) 38 y_Knowing_placeTold.1 ∈ jTbl := jmem 628 (by decide +kernel) (by decide +kernel)
theorem lk_1_42 : Cond.methodLink (jcn 1) 42 y_Knowing_isPossible.1 ∈ jTbl := jmem 582 (by decide +kernel) (by decide +kernel)
theorem lk_1_48 : Cond.methodLink (jcn 1) 48 y_Knowing_isQuiet.1 ∈ jTbl := jmem 558 (by decide +kernel) (by decide +kernel)
theorem lk_1_52 : Cond.methodLink (jcn 1) 52 y_Knowing_comeAndGo.1 ∈ jTbl := jmem 563 (by decide +kernel) (by decide +kernel)
theorem lk_1_59 : Cond.methodLink (jcn 1) 59 y_Knowing_spread.1 ∈ jTbl := jmem 574 (by decide +kernel) (by decide +kernel)
theorem lk_1_63 : Cond.methodLink (jcn 1) 63 y_Knowing_visitedOn.1 ∈ jTbl := jmem 596 (by decide +kernel) (by decide +kernel)
theorem lk_1_66 : Cond.methodLink (jcn 1) 66 y_Knowing_picturedOn.1 ∈ jTbl := jmem 604 (by decide +kernel) (by decide +kernel)
theorem lk_1_69 : Cond.methodLink (jcn 1) 69 y_Knowing_nextDay.1 ∈ jTbl := jmem 608 (by decide +kernel) (by decide +kernel)
theorem lk_1_79 : Cond.methodLink (jcn 1) 79 y_Knowing_passPortal.1 ∈ jTbl := jmem 567 (by decide +kernel) (by decide +kernel)
theorem lk_1_83 : Cond.methodLink (jcn 1) 83 y_Knowing_fits.1 ∈ jTbl := jmem 571 (by decide +kernel) (by decide +kernel)
theorem lk_1_97 : Cond.methodLink (jcn 1) 97 y_Knowing_least.1 ∈ jTbl := jmem 578 (by decide +kernel) (by decide +kernel)
theorem lk_1_101 : Cond.methodLink (jcn 1) 101 y_Knowing_between.1 ∈ jTbl := jmem 586 (by decide +kernel) (by decide +kernel)
theorem lk_1_105 : Cond.methodLink (jcn 1) 105 y_Knowing_greatest.1 ∈ jTbl := jmem 592 (by decide +kernel) (by decide +kernel)
theorem lk_1_108 : Cond.methodLink (jcn 1) 108 Lib.Math.min.name ∈ jTbl := jmem 589 (by decide +kernel) (by decide +kernel)
theorem lk_1_113 : Cond.methodLink (jcn 1) 113 Lib.Math.max.name ∈ jTbl := jmem 590 (by decide +kernel) (by decide +kernel)
theorem lk_1_118 : Cond.methodLink (jcn 1) 118 y_Knowing_keep.1 ∈ jTbl := jmem 600 (by decide +kernel) (by decide +kernel)
theorem lk_1_128 : Cond.methodLink (jcn 1) 128 y_Knowing_sooner.1 ∈ jTbl := jmem 611 (by decide +kernel) (by decide +kernel)
theorem lk_2_3 : Cond.methodLink (jcn 2) 3 Lib.objectInit ∈ jTbl := jmem 197 (by decide +kernel) (by decide +kernel)
theorem lk_2_11 : Cond.methodLink (jcn 2) 11 y_Rows_init.1 ∈ jTbl := jmem 199 (by decide +kernel) (by decide +kernel)
theorem lk_2_25 : Cond.methodLink (jcn 2) 25 y_Tokens_init.1 ∈ jTbl := jmem 202 (by decide +kernel) (by decide +kernel)
theorem lk_3_3 : Cond.methodLink (jcn 3) 3 Lib.objectInit ∈ jTbl := jmem 54 (by decide +kernel) (by decide +kernel)
theorem lk_3_9 : Cond.methodLink (jcn 3) 9 Lib.Math.max.name ∈ jTbl := jmem 55 (by decide +kernel) (by decide +kernel)
theorem lk_4_3 : Cond.methodLink (jcn 4) 3 Lib.objectInit ∈ jTbl := jmem 308 (by decide +kernel) (by decide +kernel)
theorem lk_4_27 : Cond.methodLink (jcn 4) 27 Lib.Math.min.name ∈ jTbl := jmem 662 (by decide +kernel) (by decide +kernel)
theorem lk_4_33 : Cond.methodLink (jcn 4) 33 y_Search_markClosed.1 ∈ jTbl := jmem 663 (by decide +kernel) (by decide +kernel)
theorem lk_4_37 : Cond.methodLink (jcn 4) 37 y_Search_markEyes.1 ∈ jTbl := jmem 670 (by decide +kernel) (by decide +kernel)
theorem lk_4_45 : Cond.methodLink (jcn 4) 45 y_Rows_count.1 ∈ jTbl := jmem 667 (by decide +kernel) (by decide +kernel)
theorem lk_4_51 : Cond.methodLink (jcn 4) 51 y_State_placeOn.1 ∈ jTbl := jmem 675 (by decide +kernel) (by decide +kernel)
theorem lk_4_54 : Cond.methodLink (jcn 4) 54 y_Rows_at.1 ∈ jTbl := jmem 668 (by decide +kernel) (by decide +kernel)
theorem lk_4_57 : Cond.methodLink (jcn 4) 57 y_Search_isClosed.1 ∈ jTbl := jmem 676 (by decide +kernel) (by decide +kernel)
theorem lk_4_67 : Cond.methodLink (jcn 4) 67 y_Search_findDays.1 ∈ jTbl := jmem 680 (by decide +kernel) (by decide +kernel)
theorem lk_4_74 : Cond.methodLink (jcn 4) 74 y_Search_isEyed.1 ∈ jTbl := jmem 684 (by decide +kernel) (by decide +kernel)
theorem lk_4_87 : Cond.methodLink (jcn 4) 87 y_State_isSealed.1 ∈ jTbl := jmem 669 (by decide +kernel) (by decide +kernel)
theorem lk_4_96 : Cond.methodLink (jcn 4) 96 y_State_hasSpot.1 ∈ jTbl := jmem 674 (by decide +kernel) (by decide +kernel)
theorem lk_5_3 : Cond.methodLink (jcn 5) 3 Lib.objectInit ∈ jTbl := jmem 281 (by decide +kernel) (by decide +kernel)
theorem lk_5_24 : Cond.methodLink (jcn 5) 24 y_Rows_count.1 ∈ jTbl := jmem 713 (by decide +kernel) (by decide +kernel)
theorem lk_5_34 : Cond.methodLink (jcn 5) 34 y_Rows_at.1 ∈ jTbl := jmem 714 (by decide +kernel) (by decide +kernel)
theorem lk_5_41 : Cond.methodLink (jcn 5) 41 y_Shares_evaluate.1 ∈ jTbl := jmem 715 (by decide +kernel) (by decide +kernel)
theorem lk_5_44 : Cond.methodLink (jcn 5) 44 Lib.Math.min.name ∈ jTbl := jmem 719 (by decide +kernel) (by decide +kernel)
theorem lk_5_49 : Cond.methodLink (jcn 5) 49 y_Shares_reduce.1 ∈ jTbl := jmem 720 (by decide +kernel) (by decide +kernel)
theorem lk_5_60 : Cond.methodLink (jcn 5) 60 y_Shares_greatestTogether.1 ∈ jTbl := jmem 748 (by decide +kernel) (by decide +kernel)
theorem lk_6_3 : Cond.methodLink (jcn 6) 3 Lib.objectInit ∈ jTbl := jmem 48 (by decide +kernel) (by decide +kernel)
theorem lk_6_29 : Cond.methodLink (jcn 6) 29 y_Rows_init.1 ∈ jTbl := jmem 51 (by decide +kernel) (by decide +kernel)
theorem lk_6_53 : Cond.methodLink (jcn 6) 53 y_Treaty_init.1 ∈ jTbl := jmem 71 (by decide +kernel) (by decide +kernel)
theorem lk_6_79 : Cond.methodLink (jcn 6) 79 y_Rows_open.1 ∈ jTbl := jmem 91 (by decide +kernel) (by decide +kernel)
theorem lk_6_83 : Cond.methodLink (jcn 6) 83 y_Rows_put.1 ∈ jTbl := jmem 95 (by decide +kernel) (by decide +kernel)
theorem lk_6_87 : Cond.methodLink (jcn 6) 87 y_Rows_count.1 ∈ jTbl := jmem 387 (by decide +kernel) (by decide +kernel)
theorem lk_6_91 : Cond.methodLink (jcn 6) 91 y_Rows_at.1 ∈ jTbl := jmem 395 (by decide +kernel) (by decide +kernel)
theorem lk_6_95 : Cond.methodLink (jcn 6) 95 y_State_shorten.1 ∈ jTbl := jmem 391 (by decide +kernel) (by decide +kernel)
theorem lk_6_99 : Cond.methodLink (jcn 6) 99 y_State_latestSeal.1 ∈ jTbl := jmem 457 (by decide +kernel) (by decide +kernel)
theorem lk_6_102 : Cond.methodLink (jcn 6) 102 y_State_isWhole.1 ∈ jTbl := jmem 461 (by decide +kernel) (by decide +kernel)
theorem lk_6_106 : Cond.methodLink (jcn 6) 106 y_Treaty_look.1 ∈ jTbl := jmem 506 (by decide +kernel) (by decide +kernel)
theorem lk_6_110 : Cond.methodLink (jcn 6) 110 y_Treaty_someHolds.1 ∈ jTbl := jmem 514 (by decide +kernel) (by decide +kernel)
theorem lk_6_113 : Cond.methodLink (jcn 6) 113 y_Treaty_textFor.1 ∈ jTbl := jmem 504 (by decide +kernel) (by decide +kernel)
theorem lk_6_116 : Cond.methodLink (jcn 6) 116 y_State_placeOn.1 ∈ jTbl := jmem 505 (by decide +kernel) (by decide +kernel)
theorem lk_7_3 : Cond.methodLink (jcn 7) 3 Lib.objectInit ∈ jTbl := jmem 205 (by decide +kernel) (by decide +kernel)
theorem lk_7_11 : Cond.methodLink (jcn 7) 11 y_Rows_init.1 ∈ jTbl := jmem 207 (by decide +kernel) (by decide +kernel)
theorem lk_8_3 : Cond.methodLink (jcn 8) 3 Lib.objectInit ∈ jTbl := jmem 74 (by decide +kernel) (by decide +kernel)
theorem lk_8_11 : Cond.methodLink (jcn 8) 11 y_Rows_init.1 ∈ jTbl := jmem 76 (by decide +kernel) (by decide +kernel)
theorem lk_8_38 : Cond.methodLink (jcn 8) 38 y_Rows_count.1 ∈ jTbl := jmem 440 (by decide +kernel) (by decide +kernel)
theorem lk_8_49 : Cond.methodLink (jcn 8) 49 y_Rows_at.1 ∈ jTbl := jmem 441 (by decide +kernel) (by decide +kernel)
theorem lk_8_54 : Cond.methodLink (jcn 8) 54 y_Treaty_limitOn.1 ∈ jTbl := jmem 432 (by decide +kernel) (by decide +kernel)
theorem lk_8_57 : Cond.methodLink (jcn 8) 57 y_Treaty_first.1 ∈ jTbl := jmem 445 (by decide +kernel) (by decide +kernel)
theorem lk_8_61 : Cond.methodLink (jcn 8) 61 y_Treaty_textFor.1 ∈ jTbl := jmem 436 (by decide +kernel) (by decide +kernel)
theorem lk_8_64 : Cond.methodLink (jcn 8) 64 Lib.Math.min.name ∈ jTbl := jmem 442 (by decide +kernel) (by decide +kernel)
theorem lk_8_69 : Cond.methodLink (jcn 8) 69 y_Treaty_see.1 ∈ jTbl := jmem 510 (by decide +kernel) (by decide +kernel)
theorem lk_8_72 : Cond.methodLink (jcn 8) 72 y_Treaty_holds.1 ∈ jTbl := jmem 518 (by decide +kernel) (by decide +kernel)
theorem lk_8_78 : Cond.methodLink (jcn 8) 78 y_Treaty_operand.1 ∈ jTbl := jmem 523 (by decide +kernel) (by decide +kernel)
theorem lk_8_81 : Cond.methodLink (jcn 8) 81 y_Treaty_compares.1 ∈ jTbl := jmem 527 (by decide +kernel) (by decide +kernel)
theorem lk_10_10 : Cond.methodLink (jcn 10) 10 y_Count_init.1 ∈ jTbl := jmem 37 (by decide +kernel) (by decide +kernel)
theorem lk_10_11 : Cond.methodLink (jcn 10) 11 y_Law_pick.1 ∈ jTbl := jmem 641 (by decide +kernel) (by decide +kernel)
theorem lk_10_17 : Cond.methodLink (jcn 10) 17 y_Count_site.1 ∈ jTbl := jmem 354 (by decide +kernel) (by decide +kernel)
theorem lk_10_21 : Cond.methodLink (jcn 10) 21 y_Count_road.1 ∈ jTbl := jmem 371 (by decide +kernel) (by decide +kernel)
theorem lk_10_25 : Cond.methodLink (jcn 10) 25 Lib.Math.min.name ∈ jTbl := jmem 752 (by decide +kernel) (by decide +kernel)
theorem lk_10_31 : Cond.methodLink (jcn 10) 31 y_Count_way.1 ∈ jTbl := jmem 396 (by decide +kernel) (by decide +kernel)
theorem lk_10_34 : Cond.methodLink (jcn 10) 34 y_Count_sort.1 ∈ jTbl := jmem 400 (by decide +kernel) (by decide +kernel)
theorem lk_10_38 : Cond.methodLink (jcn 10) 38 y_Count_about.1 ∈ jTbl := jmem 637 (by decide +kernel) (by decide +kernel)
theorem lk_10_42 : Cond.methodLink (jcn 10) 42 y_Count_make.1 ∈ jTbl := jmem 408 (by decide +kernel) (by decide +kernel)
theorem lk_10_46 : Cond.methodLink (jcn 10) 46 y_Law_where.1 ∈ jTbl := jmem 645 (by decide +kernel) (by decide +kernel)
theorem lk_10_50 : Cond.methodLink (jcn 10) 50 y_Count_move.1 ∈ jTbl := jmem 416 (by decide +kernel) (by decide +kernel)
theorem lk_10_53 : Cond.methodLink (jcn 10) 53 y_Count_thing.1 ∈ jTbl := jmem 479 (by decide +kernel) (by decide +kernel)
theorem lk_10_56 : Cond.methodLink (jcn 10) 56 y_Count_step.1 ∈ jTbl := jmem 424 (by decide +kernel) (by decide +kernel)
theorem lk_10_59 : Cond.methodLink (jcn 10) 59 y_Law_whole.1 ∈ jTbl := jmem 648 (by decide +kernel) (by decide +kernel)
theorem lk_10_63 : Cond.methodLink (jcn 10) 63 y_Count_seal.1 ∈ jTbl := jmem 449 (by decide +kernel) (by decide +kernel)
theorem lk_10_66 : Cond.methodLink (jcn 10) 66 y_Count_visit.1 ∈ jTbl := jmem 492 (by decide +kernel) (by decide +kernel)
theorem lk_10_69 : Cond.methodLink (jcn 10) 69 y_Count_picture.1 ∈ jTbl := jmem 534 (by decide +kernel) (by decide +kernel)
theorem lk_10_72 : Cond.methodLink (jcn 10) 72 y_Count_days.1 ∈ jTbl := jmem 468 (by decide +kernel) (by decide +kernel)
theorem lk_10_75 : Cond.methodLink (jcn 10) 75 y_Count_where.1 ∈ jTbl := jmem 472 (by decide +kernel) (by decide +kernel)
theorem lk_10_77 : Cond.methodLink (jcn 10) 77 y_Count_whole.1 ∈ jTbl := jmem 483 (by decide +kernel) (by decide +kernel)
theorem lk_10_79 : Cond.methodLink (jcn 10) 79 y_Count_tell.1 ∈ jTbl := jmem 488 (by decide +kernel) (by decide +kernel)
theorem lk_10_82 : Cond.methodLink (jcn 10) 82 y_Count_possible.1 ∈ jTbl := jmem 545 (by decide +kernel) (by decide +kernel)
theorem lk_10_86 : Cond.methodLink (jcn 10) 86 y_Count_doubted.1 ∈ jTbl := jmem 616 (by decide +kernel) (by decide +kernel)
theorem lk_10_89 : Cond.methodLink (jcn 10) 89 y_Count_doubt.1 ∈ jTbl := jmem 633 (by decide +kernel) (by decide +kernel)
theorem lk_10_92 : Cond.methodLink (jcn 10) 92 y_Law_tricks.1 ∈ jTbl := jmem 651 (by decide +kernel) (by decide +kernel)
theorem lk_10_96 : Cond.methodLink (jcn 10) 96 y_Law_shares.1 ∈ jTbl := jmem 692 (by decide +kernel) (by decide +kernel)
theorem lk_10_100 : Cond.methodLink (jcn 10) 100 y_Count_trick.1 ∈ jTbl := jmem 654 (by decide +kernel) (by decide +kernel)
theorem lk_10_103 : Cond.methodLink (jcn 10) 103 y_Count_unseen.1 ∈ jTbl := jmem 688 (by decide +kernel) (by decide +kernel)
theorem lk_10_106 : Cond.methodLink (jcn 10) 106 y_Count_chance.1 ∈ jTbl := jmem 695 (by decide +kernel) (by decide +kernel)
theorem lk_10_110 : Cond.methodLink (jcn 10) 110 y_Intg_bitCount.1 ∈ jTbl := jmem 699 (by decide +kernel) (by decide +kernel)
theorem lk_10_115 : Cond.methodLink (jcn 10) 115 y_Count_value.1 ∈ jTbl := jmem 705 (by decide +kernel) (by decide +kernel)
theorem lk_10_119 : Cond.methodLink (jcn 10) 119 y_Count_share.1 ∈ jTbl := jmem 725 (by decide +kernel) (by decide +kernel)
theorem lk_10_123 : Cond.methodLink (jcn 10) 123 y_Math_max.1 ∈ jTbl := jmem 733 (by decide +kernel) (by decide +kernel)
theorem lk_10_127 : Cond.methodLink (jcn 10) 127 y_Count_proof.1 ∈ jTbl := jmem 736 (by decide +kernel) (by decide +kernel)
theorem ms_max : Cond.static Lib.Math.max.name ∈ jTbl := jmem 56 (by decide +kernel) (by decide +kernel)
theorem mc_max : Cond.code Lib.Math.max.name Lib.Math.max.code 2 (some .int) ∈ jTbl := jmem 57 (by decide +kernel) (by decide +kernel)
theorem ms_min : Cond.static Lib.Math.min.name ∈ jTbl := jmem 443 (by decide +kernel) (by decide +kernel)
theorem mc_min : Cond.code Lib.Math.min.name Lib.Math.min.code 2 (some .int) ∈ jTbl := jmem 444 (by decide +kernel) (by decide +kernel)
theorem hMath : Cond.initialized "java/lang/Math" ∈ jTbl := jmem 26 (by decide +kernel) (by decide +kernel)
