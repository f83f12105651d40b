/-! WORDS: TB, the good words of the tables, and a row for each. Laid by wip/whole/mkwords.py -/
def TB : List Cond := lw_tbl.filter goodWord
theorem tb {w : Cond} (h : w ∈ lw_tbl) (g : goodWord w = true) : w ∈ TB := List.mem_filter.mpr ⟨h, g⟩
theorem tb_in {w : Cond} (h : w ∈ TB) : w ∈ lw_tbl := (List.mem_filter.mp h).1
theorem tb1 {w : Cond} (h : w ∈ tables_1_1) : w ∈ lw_tbl := List.mem_append_right _ (List.mem_append_left _ h)
theorem tb2 {w : Cond} (h : w ∈ tables_1_2) : w ∈ lw_tbl := List.mem_append_right _ (List.mem_append_right _ (List.mem_append_left _ h))
theorem tb3 {w : Cond} (h : w ∈ tables_1_3) : w ∈ lw_tbl := List.mem_append_right _ (List.mem_append_right _ (List.mem_append_right _ (List.mem_append_left _ h)))
theorem tb4 {w : Cond} (h : w ∈ tables_1_4) : w ∈ lw_tbl := List.mem_append_right _ (List.mem_append_right _ (List.mem_append_right _ (List.mem_append_right _ h)))
theorem k2_sels_app (a b : List (MethodName × Nat)) : k2_sels (a ++ b) = k2_sels a ++ k2_sels b := List.map_append
theorem tbp {w : Cond} (h : w ∈ k2_sels lw_privs) : w ∈ lw_tbl := List.mem_append_left _ h
theorem tbp1 {w : Cond} (h : w ∈ k2_sels lw_privs_1) : w ∈ lw_tbl := tbp (by unfold lw_privs; rw [k2_sels_app]; exact List.mem_append_left _ h)
theorem tbp2 {w : Cond} (h : w ∈ k2_sels lw_privs_2) : w ∈ lw_tbl := tbp (by unfold lw_privs; rw [k2_sels_app, k2_sels_app]; exact List.mem_append_right _ (List.mem_append_left _ h))
theorem tbp3 {w : Cond} (h : w ∈ k2_sels lw_privs_3) : w ∈ lw_tbl := tbp (by unfold lw_privs; rw [k2_sels_app, k2_sels_app]; exact List.mem_append_right _ (List.mem_append_right _ h))
theorem tb_good : GoodIn TB TB := fun w h => ⟨h, good_of_word (List.mem_filter.mp h).2⟩
theorem tb_call {y : MethodName} {b : ByteArray} {n : Nat} {ret : Option FieldType} (h : Cond.code y b n ret ∈ TB) : GoodIn TB (Cond.code y b n ret :: TB) := fun w hw => by
  rcases List.mem_cons.mp hw with rfl | h'
  · exact tb_good _ h
  · exact tb_good _ h'
theorem tn_L : Cond.initialized RL ∈ TB := tb (tb1 (List.mem_of_getElem? (i := 0) (rfl : tables_1_1[0]? = some (Cond.initialized RL)))) rfl
theorem tn_X5 : Cond.initialized RX5 ∈ TB := tb (tb1 (List.mem_of_getElem? (i := 1) (rfl : tables_1_1[1]? = some (Cond.initialized RX5)))) rfl
theorem tn_X2 : Cond.initialized RX2 ∈ TB := tb (tb1 (List.mem_of_getElem? (i := 2) (rfl : tables_1_1[2]? = some (Cond.initialized RX2)))) rfl
theorem tn_X4 : Cond.initialized RX4 ∈ TB := tb (tb1 (List.mem_of_getElem? (i := 3) (rfl : tables_1_1[3]? = some (Cond.initialized RX4)))) rfl
theorem tn_X0 : Cond.initialized RX0 ∈ TB := tb (tb1 (List.mem_of_getElem? (i := 4) (rfl : tables_1_1[4]? = some (Cond.initialized RX0)))) rfl
theorem tn_X1 : Cond.initialized RX1 ∈ TB := tb (tb1 (List.mem_of_getElem? (i := 5) (rfl : tables_1_1[5]? = some (Cond.initialized RX1)))) rfl
theorem tn_X3 : Cond.initialized RX3 ∈ TB := tb (tb1 (List.mem_of_getElem? (i := 6) (rfl : tables_1_1[6]? = some (Cond.initialized RX3)))) rfl
theorem tn_X6 : Cond.initialized RX6 ∈ TB := tb (tb1 (List.mem_of_getElem? (i := 7) (rfl : tables_1_1[7]? = some (Cond.initialized RX6)))) rfl
theorem tn_J13 : Cond.initialized RJ13 ∈ TB := tb (tb1 (List.mem_of_getElem? (i := 8) (rfl : tables_1_1[8]? = some (Cond.initialized RJ13)))) rfl
theorem tn_J6 : Cond.initialized RJ6 ∈ TB := tb (tb1 (List.mem_of_getElem? (i := 9) (rfl : tables_1_1[9]? = some (Cond.initialized RJ6)))) rfl
theorem tn_J9 : Cond.initialized RJ9 ∈ TB := tb (tb1 (List.mem_of_getElem? (i := 10) (rfl : tables_1_1[10]? = some (Cond.initialized RJ9)))) rfl
theorem tn_J10 : Cond.initialized RJ10 ∈ TB := tb (tb1 (List.mem_of_getElem? (i := 11) (rfl : tables_1_1[11]? = some (Cond.initialized RJ10)))) rfl
theorem tcl_L_7 : Cond.classLink RL 7 RX5 ∈ TB := tb (tb1 (List.mem_of_getElem? (i := 12) (rfl : tables_1_1[12]? = some (Cond.classLink RL 7 RX5)))) rfl
theorem tin_X5 : Cond.instantiable RX5 10 ∈ TB := tb (tb1 (List.mem_of_getElem? (i := 13) (rfl : tables_1_1[13]? = some (Cond.instantiable RX5 10)))) rfl
theorem tm_L_9 : Cond.methodLink RL 9 yX5_init ∈ TB := tb (tb1 (List.mem_of_getElem? (i := 14) (rfl : tables_1_1[14]? = some (Cond.methodLink RL 9 yX5_init)))) rfl
theorem ti_yX5_init : Cond.instanceMethod yX5_init ∈ TB := tb (tb1 (List.mem_of_getElem? (i := 15) (rfl : tables_1_1[15]? = some (Cond.instanceMethod yX5_init)))) rfl
theorem tc_yX5_init : Cond.code yX5_init cX5_init 1 none ∈ TB := tb (tb1 (List.mem_of_getElem? (i := 16) (rfl : tables_1_1[16]? = some (Cond.code yX5_init cX5_init 1 none)))) rfl
theorem tm_X5_1 : Cond.methodLink RX5 1 objectInit ∈ TB := tb (tb1 (List.mem_of_getElem? (i := 17) (rfl : tables_1_1[17]? = some (Cond.methodLink RX5 1 objectInit)))) rfl
theorem ti_objectInit : Cond.instanceMethod objectInit ∈ TB := tb (tb1 (List.mem_of_getElem? (i := 18) (rfl : tables_1_1[18]? = some (Cond.instanceMethod objectInit)))) rfl
theorem tc_objectInit : Cond.code objectInit ⟨#[0xb1]⟩ 1 none ∈ TB := tb (tb1 (List.mem_of_getElem? (i := 19) (rfl : tables_1_1[19]? = some (Cond.code objectInit ⟨#[0xb1]⟩ 1 none)))) rfl
theorem tcl_X5_7 : Cond.classLink RX5 7 RX2 ∈ TB := tb (tb1 (List.mem_of_getElem? (i := 20) (rfl : tables_1_1[20]? = some (Cond.classLink RX5 7 RX2)))) rfl
theorem tin_X2 : Cond.instantiable RX2 7 ∈ TB := tb (tb1 (List.mem_of_getElem? (i := 21) (rfl : tables_1_1[21]? = some (Cond.instantiable RX2 7)))) rfl
theorem ti_yX2_init : Cond.instanceMethod yX2_init ∈ TB := tb (tb1 (List.mem_of_getElem? (i := 23) (rfl : tables_1_1[23]? = some (Cond.instanceMethod yX2_init)))) rfl
theorem tc_yX2_init : Cond.code yX2_init cX2_init 1 none ∈ TB := tb (tb1 (List.mem_of_getElem? (i := 24) (rfl : tables_1_1[24]? = some (Cond.code yX2_init cX2_init 1 none)))) rfl
theorem tm_X2_3 : Cond.methodLink RX2 3 objectInit ∈ TB := tb (tb1 (List.mem_of_getElem? (i := 25) (rfl : tables_1_1[25]? = some (Cond.methodLink RX2 3 objectInit)))) rfl
theorem tf_X2_9 : Cond.fieldLink RX2 9 "StoneVillage$People" "age" "[I" ∈ TB := tb (tb1 (List.mem_of_getElem? (i := 26) (rfl : tables_1_1[26]? = some (Cond.fieldLink RX2 9 "StoneVillage$People" "age" "[I")))) rfl
theorem tf_X5_95 : Cond.fieldLink RX5 95 "StoneVillage$People" "age" "[I" ∈ TB := tb (tb1 (List.mem_of_getElem? (i := 27) (rfl : tables_1_1[27]? = some (Cond.fieldLink RX5 95 "StoneVillage$People" "age" "[I")))) rfl
theorem tf_X2_15 : Cond.fieldLink RX2 15 "StoneVillage$People" "daysWorked" "[I" ∈ TB := tb (tb1 (List.mem_of_getElem? (i := 28) (rfl : tables_1_1[28]? = some (Cond.fieldLink RX2 15 "StoneVillage$People" "daysWorked" "[I")))) rfl
theorem tf_X5_267 : Cond.fieldLink RX5 267 "StoneVillage$People" "daysWorked" "[I" ∈ TB := tb (tb1 (List.mem_of_getElem? (i := 29) (rfl : tables_1_1[29]? = some (Cond.fieldLink RX5 267 "StoneVillage$People" "daysWorked" "[I")))) rfl
theorem tf_X2_18 : Cond.fieldLink RX2 18 "StoneVillage$People" "known" "[J" ∈ TB := tb (tb1 (List.mem_of_getElem? (i := 30) (rfl : tables_1_1[30]? = some (Cond.fieldLink RX2 18 "StoneVillage$People" "known" "[J")))) rfl
theorem tf_X5_101 : Cond.fieldLink RX5 101 "StoneVillage$People" "known" "[J" ∈ TB := tb (tb1 (List.mem_of_getElem? (i := 31) (rfl : tables_1_1[31]? = some (Cond.fieldLink RX5 101 "StoneVillage$People" "known" "[J")))) rfl
theorem tf_X2_22 : Cond.fieldLink RX2 22 "StoneVillage$People" "depth" "[B" ∈ TB := tb (tb1 (List.mem_of_getElem? (i := 32) (rfl : tables_1_1[32]? = some (Cond.fieldLink RX2 22 "StoneVillage$People" "depth" "[B")))) rfl
theorem tf_X2_26 : Cond.fieldLink RX2 26 "StoneVillage$People" "size" "I" ∈ TB := tb (tb1 (List.mem_of_getElem? (i := 33) (rfl : tables_1_1[33]? = some (Cond.fieldLink RX2 26 "StoneVillage$People" "size" "I")))) rfl
theorem tf_X5_62 : Cond.fieldLink RX5 62 "StoneVillage$People" "size" "I" ∈ TB := tb (tb1 (List.mem_of_getElem? (i := 34) (rfl : tables_1_1[34]? = some (Cond.fieldLink RX5 62 "StoneVillage$People" "size" "I")))) rfl
theorem tf_X2_30 : Cond.fieldLink RX2 30 "StoneVillage$People" "living" "I" ∈ TB := tb (tb1 (List.mem_of_getElem? (i := 35) (rfl : tables_1_1[35]? = some (Cond.fieldLink RX2 30 "StoneVillage$People" "living" "I")))) rfl
theorem tf_X5_245 : Cond.fieldLink RX5 245 "StoneVillage$People" "living" "I" ∈ TB := tb (tb1 (List.mem_of_getElem? (i := 36) (rfl : tables_1_1[36]? = some (Cond.fieldLink RX5 245 "StoneVillage$People" "living" "I")))) rfl
theorem tf_X2_33 : Cond.fieldLink RX2 33 "StoneVillage$People" "elders" "I" ∈ TB := tb (tb1 (List.mem_of_getElem? (i := 37) (rfl : tables_1_1[37]? = some (Cond.fieldLink RX2 33 "StoneVillage$People" "elders" "I")))) rfl
theorem tar_int : Cond.arrayClass .int ∈ TB := tb (tb1 (List.mem_of_getElem? (i := 53) (rfl : tables_1_1[53]? = some (Cond.arrayClass .int)))) rfl
theorem tar_long : Cond.arrayClass .long ∈ TB := tb (tb1 (List.mem_of_getElem? (i := 54) (rfl : tables_1_1[54]? = some (Cond.arrayClass .long)))) rfl
theorem tar_byte : Cond.arrayClass .byte ∈ TB := tb (tb1 (List.mem_of_getElem? (i := 55) (rfl : tables_1_1[55]? = some (Cond.arrayClass .byte)))) rfl
theorem tcl_X5_16 : Cond.classLink RX5 16 RX4 ∈ TB := tb (tb1 (List.mem_of_getElem? (i := 56) (rfl : tables_1_1[56]? = some (Cond.classLink RX5 16 RX4)))) rfl
theorem tin_X4 : Cond.instantiable RX4 4 ∈ TB := tb (tb1 (List.mem_of_getElem? (i := 57) (rfl : tables_1_1[57]? = some (Cond.instantiable RX4 4)))) rfl
theorem ti_yX4_init : Cond.instanceMethod yX4_init ∈ TB := tb (tb1 (List.mem_of_getElem? (i := 59) (rfl : tables_1_1[59]? = some (Cond.instanceMethod yX4_init)))) rfl
theorem tc_yX4_init : Cond.code yX4_init cX4_init 1 none ∈ TB := tb (tb1 (List.mem_of_getElem? (i := 60) (rfl : tables_1_1[60]? = some (Cond.code yX4_init cX4_init 1 none)))) rfl
theorem tm_X4_3 : Cond.methodLink RX4 3 objectInit ∈ TB := tb (tb1 (List.mem_of_getElem? (i := 61) (rfl : tables_1_1[61]? = some (Cond.methodLink RX4 3 objectInit)))) rfl
theorem tf_X4_9 : Cond.fieldLink RX4 9 "StoneVillage$Stones" "hands" "[I" ∈ TB := tb (tb1 (List.mem_of_getElem? (i := 62) (rfl : tables_1_1[62]? = some (Cond.fieldLink RX4 9 "StoneVillage$Stones" "hands" "[I")))) rfl
theorem tf_X5_264 : Cond.fieldLink RX5 264 "StoneVillage$Stones" "hands" "[I" ∈ TB := tb (tb1 (List.mem_of_getElem? (i := 63) (rfl : tables_1_1[63]? = some (Cond.fieldLink RX5 264 "StoneVillage$Stones" "hands" "[I")))) rfl
theorem tf_X4_15 : Cond.fieldLink RX4 15 "StoneVillage$Stones" "place" "[I" ∈ TB := tb (tb1 (List.mem_of_getElem? (i := 64) (rfl : tables_1_1[64]? = some (Cond.fieldLink RX4 15 "StoneVillage$Stones" "place" "[I")))) rfl
theorem tf_X5_113 : Cond.fieldLink RX5 113 "StoneVillage$Stones" "place" "[I" ∈ TB := tb (tb1 (List.mem_of_getElem? (i := 65) (rfl : tables_1_1[65]? = some (Cond.fieldLink RX5 113 "StoneVillage$Stones" "place" "[I")))) rfl
theorem tf_X4_18 : Cond.fieldLink RX4 18 "StoneVillage$Stones" "owed" "[I" ∈ TB := tb (tb1 (List.mem_of_getElem? (i := 66) (rfl : tables_1_1[66]? = some (Cond.fieldLink RX4 18 "StoneVillage$Stones" "owed" "[I")))) rfl
theorem tf_X5_261 : Cond.fieldLink RX5 261 "StoneVillage$Stones" "owed" "[I" ∈ TB := tb (tb1 (List.mem_of_getElem? (i := 67) (rfl : tables_1_1[67]? = some (Cond.fieldLink RX5 261 "StoneVillage$Stones" "owed" "[I")))) rfl
theorem tf_X4_21 : Cond.fieldLink RX4 21 "StoneVillage$Stones" "size" "I" ∈ TB := tb (tb1 (List.mem_of_getElem? (i := 68) (rfl : tables_1_1[68]? = some (Cond.fieldLink RX4 21 "StoneVillage$Stones" "size" "I")))) rfl
theorem tf_X5_107 : Cond.fieldLink RX5 107 "StoneVillage$Stones" "size" "I" ∈ TB := tb (tb1 (List.mem_of_getElem? (i := 69) (rfl : tables_1_1[69]? = some (Cond.fieldLink RX5 107 "StoneVillage$Stones" "size" "I")))) rfl
theorem tcl_X5_23 : Cond.classLink RX5 23 RX0 ∈ TB := tb (tb1 (List.mem_of_getElem? (i := 79) (rfl : tables_1_1[79]? = some (Cond.classLink RX5 23 RX0)))) rfl
theorem tin_X0 : Cond.instantiable RX0 10 ∈ TB := tb (tb1 (List.mem_of_getElem? (i := 80) (rfl : tables_1_1[80]? = some (Cond.instantiable RX0 10)))) rfl
theorem ti_yX0_init : Cond.instanceMethod yX0_init ∈ TB := tb (tb1 (List.mem_of_getElem? (i := 82) (rfl : tables_1_1[82]? = some (Cond.instanceMethod yX0_init)))) rfl
theorem tc_yX0_init : Cond.code yX0_init cX0_init 1 none ∈ TB := tb (tb1 (List.mem_of_getElem? (i := 83) (rfl : tables_1_1[83]? = some (Cond.code yX0_init cX0_init 1 none)))) rfl
theorem tm_X0_3 : Cond.methodLink RX0 3 objectInit ∈ TB := tb (tb1 (List.mem_of_getElem? (i := 84) (rfl : tables_1_1[84]? = some (Cond.methodLink RX0 3 objectInit)))) rfl
theorem tf_X0_9 : Cond.fieldLink RX0 9 "StoneVillage$Acts" "kind" "[I" ∈ TB := tb (tb1 (List.mem_of_getElem? (i := 85) (rfl : tables_1_1[85]? = some (Cond.fieldLink RX0 9 "StoneVillage$Acts" "kind" "[I")))) rfl
theorem tf_X1_62 : Cond.fieldLink RX1 62 "StoneVillage$Acts" "kind" "[I" ∈ TB := tb (tb1 (List.mem_of_getElem? (i := 86) (rfl : tables_1_1[86]? = some (Cond.fieldLink RX1 62 "StoneVillage$Acts" "kind" "[I")))) rfl
theorem tf_X5_154 : Cond.fieldLink RX5 154 "StoneVillage$Acts" "kind" "[I" ∈ TB := tb (tb1 (List.mem_of_getElem? (i := 87) (rfl : tables_1_1[87]? = some (Cond.fieldLink RX5 154 "StoneVillage$Acts" "kind" "[I")))) rfl
theorem tf_X0_15 : Cond.fieldLink RX0 15 "StoneVillage$Acts" "stone" "[I" ∈ TB := tb (tb1 (List.mem_of_getElem? (i := 88) (rfl : tables_1_1[88]? = some (Cond.fieldLink RX0 15 "StoneVillage$Acts" "stone" "[I")))) rfl
theorem tf_X1_52 : Cond.fieldLink RX1 52 "StoneVillage$Acts" "stone" "[I" ∈ TB := tb (tb1 (List.mem_of_getElem? (i := 89) (rfl : tables_1_1[89]? = some (Cond.fieldLink RX1 52 "StoneVillage$Acts" "stone" "[I")))) rfl
theorem tf_X5_157 : Cond.fieldLink RX5 157 "StoneVillage$Acts" "stone" "[I" ∈ TB := tb (tb1 (List.mem_of_getElem? (i := 90) (rfl : tables_1_1[90]? = some (Cond.fieldLink RX5 157 "StoneVillage$Acts" "stone" "[I")))) rfl
theorem tf_X0_18 : Cond.fieldLink RX0 18 "StoneVillage$Acts" "doer" "[I" ∈ TB := tb (tb1 (List.mem_of_getElem? (i := 91) (rfl : tables_1_1[91]? = some (Cond.fieldLink RX0 18 "StoneVillage$Acts" "doer" "[I")))) rfl
theorem tf_X1_55 : Cond.fieldLink RX1 55 "StoneVillage$Acts" "doer" "[I" ∈ TB := tb (tb1 (List.mem_of_getElem? (i := 92) (rfl : tables_1_1[92]? = some (Cond.fieldLink RX1 55 "StoneVillage$Acts" "doer" "[I")))) rfl
theorem tf_X5_160 : Cond.fieldLink RX5 160 "StoneVillage$Acts" "doer" "[I" ∈ TB := tb (tb1 (List.mem_of_getElem? (i := 93) (rfl : tables_1_1[93]? = some (Cond.fieldLink RX5 160 "StoneVillage$Acts" "doer" "[I")))) rfl
theorem tf_X0_21 : Cond.fieldLink RX0 21 "StoneVillage$Acts" "other" "[I" ∈ TB := tb (tb1 (List.mem_of_getElem? (i := 94) (rfl : tables_1_1[94]? = some (Cond.fieldLink RX0 21 "StoneVillage$Acts" "other" "[I")))) rfl
theorem tf_X1_70 : Cond.fieldLink RX1 70 "StoneVillage$Acts" "other" "[I" ∈ TB := tb (tb1 (List.mem_of_getElem? (i := 95) (rfl : tables_1_1[95]? = some (Cond.fieldLink RX1 70 "StoneVillage$Acts" "other" "[I")))) rfl
theorem tf_X5_131 : Cond.fieldLink RX5 131 "StoneVillage$Acts" "other" "[I" ∈ TB := tb (tb1 (List.mem_of_getElem? (i := 96) (rfl : tables_1_1[96]? = some (Cond.fieldLink RX5 131 "StoneVillage$Acts" "other" "[I")))) rfl
theorem tf_X0_24 : Cond.fieldLink RX0 24 "StoneVillage$Acts" "number" "[I" ∈ TB := tb (tb1 (List.mem_of_getElem? (i := 97) (rfl : tables_1_1[97]? = some (Cond.fieldLink RX0 24 "StoneVillage$Acts" "number" "[I")))) rfl
theorem tf_X1_65 : Cond.fieldLink RX1 65 "StoneVillage$Acts" "number" "[I" ∈ TB := tb (tb1 (List.mem_of_getElem? (i := 98) (rfl : tables_1_1[98]? = some (Cond.fieldLink RX1 65 "StoneVillage$Acts" "number" "[I")))) rfl
theorem tf_X5_134 : Cond.fieldLink RX5 134 "StoneVillage$Acts" "number" "[I" ∈ TB := tb (tb1 (List.mem_of_getElem? (i := 99) (rfl : tables_1_1[99]? = some (Cond.fieldLink RX5 134 "StoneVillage$Acts" "number" "[I")))) rfl
theorem tf_X0_27 : Cond.fieldLink RX0 27 "StoneVillage$Acts" "year" "[I" ∈ TB := tb (tb1 (List.mem_of_getElem? (i := 100) (rfl : tables_1_1[100]? = some (Cond.fieldLink RX0 27 "StoneVillage$Acts" "year" "[I")))) rfl
theorem tf_X5_137 : Cond.fieldLink RX5 137 "StoneVillage$Acts" "year" "[I" ∈ TB := tb (tb1 (List.mem_of_getElem? (i := 101) (rfl : tables_1_1[101]? = some (Cond.fieldLink RX5 137 "StoneVillage$Acts" "year" "[I")))) rfl
theorem tf_X0_30 : Cond.fieldLink RX0 30 "StoneVillage$Acts" "stoodBy" "[I" ∈ TB := tb (tb1 (List.mem_of_getElem? (i := 102) (rfl : tables_1_1[102]? = some (Cond.fieldLink RX0 30 "StoneVillage$Acts" "stoodBy" "[I")))) rfl
theorem tf_X5_140 : Cond.fieldLink RX5 140 "StoneVillage$Acts" "stoodBy" "[I" ∈ TB := tb (tb1 (List.mem_of_getElem? (i := 103) (rfl : tables_1_1[103]? = some (Cond.fieldLink RX5 140 "StoneVillage$Acts" "stoodBy" "[I")))) rfl
theorem tf_X0_33 : Cond.fieldLink RX0 33 "StoneVillage$Acts" "ofStone" "[J" ∈ TB := tb (tb1 (List.mem_of_getElem? (i := 104) (rfl : tables_1_1[104]? = some (Cond.fieldLink RX0 33 "StoneVillage$Acts" "ofStone" "[J")))) rfl
theorem tf_X5_239 : Cond.fieldLink RX5 239 "StoneVillage$Acts" "ofStone" "[J" ∈ TB := tb (tb1 (List.mem_of_getElem? (i := 105) (rfl : tables_1_1[105]? = some (Cond.fieldLink RX5 239 "StoneVillage$Acts" "ofStone" "[J")))) rfl
theorem tf_X0_37 : Cond.fieldLink RX0 37 "StoneVillage$Acts" "strong" "J" ∈ TB := tb (tb1 (List.mem_of_getElem? (i := 106) (rfl : tables_1_1[106]? = some (Cond.fieldLink RX0 37 "StoneVillage$Acts" "strong" "J")))) rfl
theorem tf_X5_149 : Cond.fieldLink RX5 149 "StoneVillage$Acts" "strong" "J" ∈ TB := tb (tb1 (List.mem_of_getElem? (i := 107) (rfl : tables_1_1[107]? = some (Cond.fieldLink RX5 149 "StoneVillage$Acts" "strong" "J")))) rfl
theorem tf_X0_41 : Cond.fieldLink RX0 41 "StoneVillage$Acts" "size" "I" ∈ TB := tb (tb1 (List.mem_of_getElem? (i := 108) (rfl : tables_1_1[108]? = some (Cond.fieldLink RX0 41 "StoneVillage$Acts" "size" "I")))) rfl
theorem tf_X1_35 : Cond.fieldLink RX1 35 "StoneVillage$Acts" "size" "I" ∈ TB := tb (tb1 (List.mem_of_getElem? (i := 109) (rfl : tables_1_1[109]? = some (Cond.fieldLink RX1 35 "StoneVillage$Acts" "size" "I")))) rfl
theorem tf_X5_123 : Cond.fieldLink RX5 123 "StoneVillage$Acts" "size" "I" ∈ TB := tb (tb1 (List.mem_of_getElem? (i := 110) (rfl : tables_1_1[110]? = some (Cond.fieldLink RX5 123 "StoneVillage$Acts" "size" "I")))) rfl
theorem tcl_X5_30 : Cond.classLink RX5 30 RX1 ∈ TB := tb (tb1 (List.mem_of_getElem? (i := 132) (rfl : tables_1_1[132]? = some (Cond.classLink RX5 30 RX1)))) rfl
theorem tin_X1 : Cond.instantiable RX1 6 ∈ TB := tb (tb1 (List.mem_of_getElem? (i := 133) (rfl : tables_1_1[133]? = some (Cond.instantiable RX1 6)))) rfl
theorem ti_yX1_init : Cond.instanceMethod yX1_init ∈ TB := tb (tb1 (List.mem_of_getElem? (i := 135) (rfl : tables_1_1[135]? = some (Cond.instanceMethod yX1_init)))) rfl
theorem tc_yX1_init : Cond.code yX1_init cX1_init 1 none ∈ TB := tb (tb1 (List.mem_of_getElem? (i := 136) (rfl : tables_1_1[136]? = some (Cond.code yX1_init cX1_init 1 none)))) rfl
theorem tm_X1_3 : Cond.methodLink RX1 3 objectInit ∈ TB := tb (tb1 (List.mem_of_getElem? (i := 137) (rfl : tables_1_1[137]? = some (Cond.methodLink RX1 3 objectInit)))) rfl
theorem tf_X1_9 : Cond.fieldLink RX1 9 "StoneVillage$Knowing" "owned" "[I" ∈ TB := tb (tb1 (List.mem_of_getElem? (i := 138) (rfl : tables_1_1[138]? = some (Cond.fieldLink RX1 9 "StoneVillage$Knowing" "owned" "[I")))) rfl
theorem tf_X5_187 : Cond.fieldLink RX5 187 "StoneVillage$Knowing" "owned" "[I" ∈ TB := tb (tb1 (List.mem_of_getElem? (i := 139) (rfl : tables_1_1[139]? = some (Cond.fieldLink RX5 187 "StoneVillage$Knowing" "owned" "[I")))) rfl
theorem tf_X1_15 : Cond.fieldLink RX1 15 "StoneVillage$Knowing" "tied" "[I" ∈ TB := tb (tb1 (List.mem_of_getElem? (i := 140) (rfl : tables_1_1[140]? = some (Cond.fieldLink RX1 15 "StoneVillage$Knowing" "tied" "[I")))) rfl
theorem tf_X5_193 : Cond.fieldLink RX5 193 "StoneVillage$Knowing" "tied" "[I" ∈ TB := tb (tb1 (List.mem_of_getElem? (i := 141) (rfl : tables_1_1[141]? = some (Cond.fieldLink RX5 193 "StoneVillage$Knowing" "tied" "[I")))) rfl
theorem tf_X1_18 : Cond.fieldLink RX1 18 "StoneVillage$Knowing" "praise" "[I" ∈ TB := tb (tb1 (List.mem_of_getElem? (i := 142) (rfl : tables_1_1[142]? = some (Cond.fieldLink RX1 18 "StoneVillage$Knowing" "praise" "[I")))) rfl
theorem tf_X5_302 : Cond.fieldLink RX5 302 "StoneVillage$Knowing" "praise" "[I" ∈ TB := tb (tb1 (List.mem_of_getElem? (i := 143) (rfl : tables_1_1[143]? = some (Cond.fieldLink RX5 302 "StoneVillage$Knowing" "praise" "[I")))) rfl
theorem tf_X1_21 : Cond.fieldLink RX1 21 "StoneVillage$Knowing" "holding" "J" ∈ TB := tb (tb1 (List.mem_of_getElem? (i := 144) (rfl : tables_1_1[144]? = some (Cond.fieldLink RX1 21 "StoneVillage$Knowing" "holding" "J")))) rfl
theorem tf_X5_200 : Cond.fieldLink RX5 200 "StoneVillage$Knowing" "holding" "J" ∈ TB := tb (tb1 (List.mem_of_getElem? (i := 145) (rfl : tables_1_1[145]? = some (Cond.fieldLink RX5 200 "StoneVillage$Knowing" "holding" "J")))) rfl
theorem tf_X1_25 : Cond.fieldLink RX1 25 "StoneVillage$Knowing" "freed" "J" ∈ TB := tb (tb1 (List.mem_of_getElem? (i := 146) (rfl : tables_1_1[146]? = some (Cond.fieldLink RX1 25 "StoneVillage$Knowing" "freed" "J")))) rfl
theorem tf_X1_28 : Cond.fieldLink RX1 28 "StoneVillage$Knowing" "found" "I" ∈ TB := tb (tb1 (List.mem_of_getElem? (i := 147) (rfl : tables_1_1[147]? = some (Cond.fieldLink RX1 28 "StoneVillage$Knowing" "found" "I")))) rfl
theorem tcl_X5_37 : Cond.classLink RX5 37 RX3 ∈ TB := tb (tb1 (List.mem_of_getElem? (i := 161) (rfl : tables_1_1[161]? = some (Cond.classLink RX5 37 RX3)))) rfl
theorem tin_X3 : Cond.instantiable RX3 4 ∈ TB := tb (tb1 (List.mem_of_getElem? (i := 162) (rfl : tables_1_1[162]? = some (Cond.instantiable RX3 4)))) rfl
theorem ti_yX3_init : Cond.instanceMethod yX3_init ∈ TB := tb (tb1 (List.mem_of_getElem? (i := 164) (rfl : tables_1_1[164]? = some (Cond.instanceMethod yX3_init)))) rfl
theorem tc_yX3_init : Cond.code yX3_init cX3_init 1 none ∈ TB := tb (tb1 (List.mem_of_getElem? (i := 165) (rfl : tables_1_1[165]? = some (Cond.code yX3_init cX3_init 1 none)))) rfl
theorem tm_X3_3 : Cond.methodLink RX3 3 objectInit ∈ TB := tb (tb1 (List.mem_of_getElem? (i := 166) (rfl : tables_1_1[166]? = some (Cond.methodLink RX3 3 objectInit)))) rfl
theorem tf_X3_9 : Cond.fieldLink RX3 9 "StoneVillage$Sheets" "filled" "[Z" ∈ TB := tb (tb1 (List.mem_of_getElem? (i := 167) (rfl : tables_1_1[167]? = some (Cond.fieldLink RX3 9 "StoneVillage$Sheets" "filled" "[Z")))) rfl
theorem tf_X5_279 : Cond.fieldLink RX5 279 "StoneVillage$Sheets" "filled" "[Z" ∈ TB := tb (tb1 (List.mem_of_getElem? (i := 168) (rfl : tables_1_1[168]? = some (Cond.fieldLink RX5 279 "StoneVillage$Sheets" "filled" "[Z")))) rfl
theorem tf_X3_15 : Cond.fieldLink RX3 15 "StoneVillage$Sheets" "lane" "[I" ∈ TB := tb (tb1 (List.mem_of_getElem? (i := 169) (rfl : tables_1_1[169]? = some (Cond.fieldLink RX3 15 "StoneVillage$Sheets" "lane" "[I")))) rfl
theorem tf_X5_312 : Cond.fieldLink RX5 312 "StoneVillage$Sheets" "lane" "[I" ∈ TB := tb (tb1 (List.mem_of_getElem? (i := 170) (rfl : tables_1_1[170]? = some (Cond.fieldLink RX5 312 "StoneVillage$Sheets" "lane" "[I")))) rfl
theorem tf_X3_19 : Cond.fieldLink RX3 19 "StoneVillage$Sheets" "length" "[I" ∈ TB := tb (tb1 (List.mem_of_getElem? (i := 171) (rfl : tables_1_1[171]? = some (Cond.fieldLink RX3 19 "StoneVillage$Sheets" "length" "[I")))) rfl
theorem tf_X5_283 : Cond.fieldLink RX5 283 "StoneVillage$Sheets" "length" "[I" ∈ TB := tb (tb1 (List.mem_of_getElem? (i := 172) (rfl : tables_1_1[172]? = some (Cond.fieldLink RX5 283 "StoneVillage$Sheets" "length" "[I")))) rfl
theorem tf_X3_22 : Cond.fieldLink RX3 22 "StoneVillage$Sheets" "items" "[I" ∈ TB := tb (tb1 (List.mem_of_getElem? (i := 173) (rfl : tables_1_1[173]? = some (Cond.fieldLink RX3 22 "StoneVillage$Sheets" "items" "[I")))) rfl
theorem tf_X5_315 : Cond.fieldLink RX5 315 "StoneVillage$Sheets" "items" "[I" ∈ TB := tb (tb1 (List.mem_of_getElem? (i := 174) (rfl : tables_1_1[174]? = some (Cond.fieldLink RX5 315 "StoneVillage$Sheets" "items" "[I")))) rfl
theorem tar_boolean : Cond.arrayClass .boolean ∈ TB := tb (tb1 (List.mem_of_getElem? (i := 184) (rfl : tables_1_1[184]? = some (Cond.arrayClass .boolean)))) rfl
theorem tf_X5_10 : Cond.fieldLink RX5 10 "StoneVillage" "people" "LStoneVillage$People;" ∈ TB := tb (tb1 (List.mem_of_getElem? (i := 185) (rfl : tables_1_1[185]? = some (Cond.fieldLink RX5 10 "StoneVillage" "people" "LStoneVillage$People;")))) rfl
theorem tf_X5_19 : Cond.fieldLink RX5 19 "StoneVillage" "stones" "LStoneVillage$Stones;" ∈ TB := tb (tb1 (List.mem_of_getElem? (i := 186) (rfl : tables_1_1[186]? = some (Cond.fieldLink RX5 19 "StoneVillage" "stones" "LStoneVillage$Stones;")))) rfl
theorem tf_X5_26 : Cond.fieldLink RX5 26 "StoneVillage" "acts" "LStoneVillage$Acts;" ∈ TB := tb (tb1 (List.mem_of_getElem? (i := 187) (rfl : tables_1_1[187]? = some (Cond.fieldLink RX5 26 "StoneVillage" "acts" "LStoneVillage$Acts;")))) rfl
theorem tf_X5_33 : Cond.fieldLink RX5 33 "StoneVillage" "knowing" "LStoneVillage$Knowing;" ∈ TB := tb (tb1 (List.mem_of_getElem? (i := 188) (rfl : tables_1_1[188]? = some (Cond.fieldLink RX5 33 "StoneVillage" "knowing" "LStoneVillage$Knowing;")))) rfl
theorem tf_X5_40 : Cond.fieldLink RX5 40 "StoneVillage" "sheets" "LStoneVillage$Sheets;" ∈ TB := tb (tb1 (List.mem_of_getElem? (i := 189) (rfl : tables_1_1[189]? = some (Cond.fieldLink RX5 40 "StoneVillage" "sheets" "LStoneVillage$Sheets;")))) rfl
theorem tf_X5_44 : Cond.fieldLink RX5 44 "StoneVillage" "firstView" "[I" ∈ TB := tb (tb1 (List.mem_of_getElem? (i := 190) (rfl : tables_1_1[190]? = some (Cond.fieldLink RX5 44 "StoneVillage" "firstView" "[I")))) rfl
theorem tf_X5_48 : Cond.fieldLink RX5 48 "StoneVillage" "tellable" "[J" ∈ TB := tb (tb1 (List.mem_of_getElem? (i := 191) (rfl : tables_1_1[191]? = some (Cond.fieldLink RX5 48 "StoneVillage" "tellable" "[J")))) rfl
theorem tf_X5_52 : Cond.fieldLink RX5 52 "StoneVillage" "tellers" "[I" ∈ TB := tb (tb1 (List.mem_of_getElem? (i := 192) (rfl : tables_1_1[192]? = some (Cond.fieldLink RX5 52 "StoneVillage" "tellers" "[I")))) rfl
theorem tf_X5_55 : Cond.fieldLink RX5 55 "StoneVillage" "now" "I" ∈ TB := tb (tb1 (List.mem_of_getElem? (i := 193) (rfl : tables_1_1[193]? = some (Cond.fieldLink RX5 55 "StoneVillage" "now" "I")))) rfl
theorem tf_X5_59 : Cond.fieldLink RX5 59 "StoneVillage" "banned" "I" ∈ TB := tb (tb1 (List.mem_of_getElem? (i := 194) (rfl : tables_1_1[194]? = some (Cond.fieldLink RX5 59 "StoneVillage" "banned" "I")))) rfl
theorem tm_L_13 : Cond.methodLink RL 13 yX5_person ∈ TB := tb (tb1 (List.mem_of_getElem? (i := 216) (rfl : tables_1_1[216]? = some (Cond.methodLink RL 13 yX5_person)))) rfl
theorem ti_yX5_person : Cond.instanceMethod yX5_person ∈ TB := tb (tb1 (List.mem_of_getElem? (i := 217) (rfl : tables_1_1[217]? = some (Cond.instanceMethod yX5_person)))) rfl
theorem ts_yX5_person : Cond.selects RX5 yX5_person yX5_person ∈ TB := tb (tb1 (List.mem_of_getElem? (i := 218) (rfl : tables_1_1[218]? = some (Cond.selects RX5 yX5_person yX5_person)))) rfl
theorem tc_yX5_person : Cond.code yX5_person cX5_person 2 (some .int) ∈ TB := tb (tb1 (List.mem_of_getElem? (i := 219) (rfl : tables_1_1[219]? = some (Cond.code yX5_person cX5_person 2 (some .int))))) rfl
theorem tm_X5_65 : Cond.methodLink RX5 65 yX2_join ∈ TB := tb (tb1 (List.mem_of_getElem? (i := 220) (rfl : tables_1_1[220]? = some (Cond.methodLink RX5 65 yX2_join)))) rfl
theorem ti_yX2_join : Cond.instanceMethod yX2_join ∈ TB := tb (tb1 (List.mem_of_getElem? (i := 221) (rfl : tables_1_1[221]? = some (Cond.instanceMethod yX2_join)))) rfl
theorem ts_yX2_join : Cond.selects RX2 yX2_join yX2_join ∈ TB := tb (tb1 (List.mem_of_getElem? (i := 222) (rfl : tables_1_1[222]? = some (Cond.selects RX2 yX2_join yX2_join)))) rfl
theorem tc_yX2_join : Cond.code yX2_join cX2_join 2 (some .int) ∈ TB := tb (tb1 (List.mem_of_getElem? (i := 223) (rfl : tables_1_1[223]? = some (Cond.code yX2_join cX2_join 2 (some .int))))) rfl
theorem tm_L_18 : Cond.methodLink RL 18 yX5_years ∈ TB := tb (tb1 (List.mem_of_getElem? (i := 224) (rfl : tables_1_1[224]? = some (Cond.methodLink RL 18 yX5_years)))) rfl
theorem ti_yX5_years : Cond.instanceMethod yX5_years ∈ TB := tb (tb1 (List.mem_of_getElem? (i := 225) (rfl : tables_1_1[225]? = some (Cond.instanceMethod yX5_years)))) rfl
theorem ts_yX5_years : Cond.selects RX5 yX5_years yX5_years ∈ TB := tb (tb1 (List.mem_of_getElem? (i := 226) (rfl : tables_1_1[226]? = some (Cond.selects RX5 yX5_years yX5_years)))) rfl
theorem tc_yX5_years : Cond.code yX5_years cX5_years 2 (some .int) ∈ TB := tb (tb1 (List.mem_of_getElem? (i := 227) (rfl : tables_1_1[227]? = some (Cond.code yX5_years cX5_years 2 (some .int))))) rfl
theorem tm_X5_69 : Cond.methodLink RX5 69 yX2_grow ∈ TB := tb (tb1 (List.mem_of_getElem? (i := 228) (rfl : tables_1_1[228]? = some (Cond.methodLink RX5 69 yX2_grow)))) rfl
theorem ti_yX2_grow : Cond.instanceMethod yX2_grow ∈ TB := tb (tb1 (List.mem_of_getElem? (i := 229) (rfl : tables_1_1[229]? = some (Cond.instanceMethod yX2_grow)))) rfl
theorem ts_yX2_grow : Cond.selects RX2 yX2_grow yX2_grow ∈ TB := tb (tb1 (List.mem_of_getElem? (i := 230) (rfl : tables_1_1[230]? = some (Cond.selects RX2 yX2_grow yX2_grow)))) rfl
theorem tc_yX2_grow : Cond.code yX2_grow cX2_grow 3 none ∈ TB := tb (tb1 (List.mem_of_getElem? (i := 231) (rfl : tables_1_1[231]? = some (Cond.code yX2_grow cX2_grow 3 none)))) rfl
theorem tm_X2_36 : Cond.methodLink RX2 36 yX2_alive ∈ TB := tb (tb1 (List.mem_of_getElem? (i := 232) (rfl : tables_1_1[232]? = some (Cond.methodLink RX2 36 yX2_alive)))) rfl
theorem ti_yX2_alive : Cond.instanceMethod yX2_alive ∈ TB := tb (tb1 (List.mem_of_getElem? (i := 233) (rfl : tables_1_1[233]? = some (Cond.instanceMethod yX2_alive)))) rfl
theorem ts_yX2_alive : Cond.selects RX2 yX2_alive yX2_alive ∈ TB := tb (tb1 (List.mem_of_getElem? (i := 234) (rfl : tables_1_1[234]? = some (Cond.selects RX2 yX2_alive yX2_alive)))) rfl
theorem tc_yX2_alive : Cond.code yX2_alive cX2_alive 2 (some .boolean) ∈ TB := tb (tb1 (List.mem_of_getElem? (i := 235) (rfl : tables_1_1[235]? = some (Cond.code yX2_alive cX2_alive 2 (some .boolean))))) rfl
theorem tm_L_22 : Cond.methodLink RL 22 yX5_dies ∈ TB := tb (tb1 (List.mem_of_getElem? (i := 236) (rfl : tables_1_1[236]? = some (Cond.methodLink RL 22 yX5_dies)))) rfl
theorem ti_yX5_dies : Cond.instanceMethod yX5_dies ∈ TB := tb (tb1 (List.mem_of_getElem? (i := 237) (rfl : tables_1_1[237]? = some (Cond.instanceMethod yX5_dies)))) rfl
theorem ts_yX5_dies : Cond.selects RX5 yX5_dies yX5_dies ∈ TB := tb (tb1 (List.mem_of_getElem? (i := 238) (rfl : tables_1_1[238]? = some (Cond.selects RX5 yX5_dies yX5_dies)))) rfl
theorem tc_yX5_dies : Cond.code yX5_dies cX5_dies 4 (some .int) ∈ TB := tb (tb1 (List.mem_of_getElem? (i := 239) (rfl : tables_1_1[239]? = some (Cond.code yX5_dies cX5_dies 4 (some .int))))) rfl
theorem tm_X5_73 : Cond.methodLink RX5 73 yX2_has ∈ TB := tb (tb2 (List.mem_of_getElem? (i := 0) (rfl : tables_1_2[0]? = some (Cond.methodLink RX5 73 yX2_has)))) rfl
theorem ti_yX2_has : Cond.instanceMethod yX2_has ∈ TB := tb (tb2 (List.mem_of_getElem? (i := 1) (rfl : tables_1_2[1]? = some (Cond.instanceMethod yX2_has)))) rfl
theorem ts_yX2_has : Cond.selects RX2 yX2_has yX2_has ∈ TB := tb (tb2 (List.mem_of_getElem? (i := 2) (rfl : tables_1_2[2]? = some (Cond.selects RX2 yX2_has yX2_has)))) rfl
theorem tc_yX2_has : Cond.code yX2_has cX2_has 2 (some .boolean) ∈ TB := tb (tb2 (List.mem_of_getElem? (i := 3) (rfl : tables_1_2[3]? = some (Cond.code yX2_has cX2_has 2 (some .boolean))))) rfl
theorem tm_X5_77 : Cond.methodLink RX5 77 yX2_alive ∈ TB := tb (tb2 (List.mem_of_getElem? (i := 4) (rfl : tables_1_2[4]? = some (Cond.methodLink RX5 77 yX2_alive)))) rfl
theorem tm_X5_80 : Cond.methodLink RX5 80 yX2_knownToAny ∈ TB := tb (tb2 (List.mem_of_getElem? (i := 5) (rfl : tables_1_2[5]? = some (Cond.methodLink RX5 80 yX2_knownToAny)))) rfl
theorem ti_yX2_knownToAny : Cond.instanceMethod yX2_knownToAny ∈ TB := tb (tb2 (List.mem_of_getElem? (i := 6) (rfl : tables_1_2[6]? = some (Cond.instanceMethod yX2_knownToAny)))) rfl
theorem ts_yX2_knownToAny : Cond.selects RX2 yX2_knownToAny yX2_knownToAny ∈ TB := tb (tb2 (List.mem_of_getElem? (i := 7) (rfl : tables_1_2[7]? = some (Cond.selects RX2 yX2_knownToAny yX2_knownToAny)))) rfl
theorem tc_yX2_knownToAny : Cond.code yX2_knownToAny cX2_knownToAny 4 (some .long) ∈ TB := tb (tb2 (List.mem_of_getElem? (i := 8) (rfl : tables_1_2[8]? = some (Cond.code yX2_knownToAny cX2_knownToAny 4 (some .long))))) rfl
theorem tm_X5_84 : Cond.methodLink RX5 84 yX2_bury ∈ TB := tb (tb2 (List.mem_of_getElem? (i := 9) (rfl : tables_1_2[9]? = some (Cond.methodLink RX5 84 yX2_bury)))) rfl
theorem ti_yX2_bury : Cond.instanceMethod yX2_bury ∈ TB := tb (tb2 (List.mem_of_getElem? (i := 10) (rfl : tables_1_2[10]? = some (Cond.instanceMethod yX2_bury)))) rfl
theorem ts_yX2_bury : Cond.selects RX2 yX2_bury yX2_bury ∈ TB := tb (tb2 (List.mem_of_getElem? (i := 11) (rfl : tables_1_2[11]? = some (Cond.selects RX2 yX2_bury yX2_bury)))) rfl
theorem tc_yX2_bury : Cond.code yX2_bury cX2_bury 2 none ∈ TB := tb (tb2 (List.mem_of_getElem? (i := 12) (rfl : tables_1_2[12]? = some (Cond.code yX2_bury cX2_bury 2 none)))) rfl
theorem tk_X5_87 : Cond.constantLong RX5 87 (-1) ∈ TB := tb (tb2 (List.mem_of_getElem? (i := 13) (rfl : tables_1_2[13]? = some (Cond.constantLong RX5 87 (-1))))) rfl
theorem tm_X5_89 : Cond.methodLink RX5 89 yJ13_bitCount_95d88 ∈ TB := tb (tb2 (List.mem_of_getElem? (i := 14) (rfl : tables_1_2[14]? = some (Cond.methodLink RX5 89 yJ13_bitCount_95d88)))) rfl
theorem tt_yJ13_bitCount_95d88 : Cond.static yJ13_bitCount_95d88 ∈ TB := tb (tb2 (List.mem_of_getElem? (i := 15) (rfl : tables_1_2[15]? = some (Cond.static yJ13_bitCount_95d88)))) rfl
theorem tc_yJ13_bitCount_95d88 : Cond.code yJ13_bitCount_95d88 cJ13_bitCount_95d88 2 (some .int) ∈ TB := tb (tb2 (List.mem_of_getElem? (i := 16) (rfl : tables_1_2[16]? = some (Cond.code yJ13_bitCount_95d88 cJ13_bitCount_95d88 2 (some .int))))) rfl
theorem tk_J13_314 : Cond.constantLong RJ13 314 6148914691236517205 ∈ TB := tb (tb2 (List.mem_of_getElem? (i := 17) (rfl : tables_1_2[17]? = some (Cond.constantLong RJ13 314 6148914691236517205)))) rfl
theorem tk_J13_316 : Cond.constantLong RJ13 316 3689348814741910323 ∈ TB := tb (tb2 (List.mem_of_getElem? (i := 18) (rfl : tables_1_2[18]? = some (Cond.constantLong RJ13 316 3689348814741910323)))) rfl
theorem tk_J13_318 : Cond.constantLong RJ13 318 1085102592571150095 ∈ TB := tb (tb2 (List.mem_of_getElem? (i := 19) (rfl : tables_1_2[19]? = some (Cond.constantLong RJ13 318 1085102592571150095)))) rfl
theorem tm_L_26 : Cond.methodLink RL 26 yX5_told ∈ TB := tb (tb2 (List.mem_of_getElem? (i := 20) (rfl : tables_1_2[20]? = some (Cond.methodLink RL 26 yX5_told)))) rfl
theorem ti_yX5_told : Cond.instanceMethod yX5_told ∈ TB := tb (tb2 (List.mem_of_getElem? (i := 21) (rfl : tables_1_2[21]? = some (Cond.instanceMethod yX5_told)))) rfl
theorem ts_yX5_told : Cond.selects RX5 yX5_told yX5_told ∈ TB := tb (tb2 (List.mem_of_getElem? (i := 22) (rfl : tables_1_2[22]? = some (Cond.selects RX5 yX5_told yX5_told)))) rfl
theorem tc_yX5_told : Cond.code yX5_told cX5_told 3 (some .int) ∈ TB := tb (tb2 (List.mem_of_getElem? (i := 23) (rfl : tables_1_2[23]? = some (Cond.code yX5_told cX5_told 3 (some .int))))) rfl
theorem tm_X5_98 : Cond.methodLink RX5 98 yX2_old ∈ TB := tb (tb2 (List.mem_of_getElem? (i := 24) (rfl : tables_1_2[24]? = some (Cond.methodLink RX5 98 yX2_old)))) rfl
theorem ti_yX2_old : Cond.instanceMethod yX2_old ∈ TB := tb (tb2 (List.mem_of_getElem? (i := 25) (rfl : tables_1_2[25]? = some (Cond.instanceMethod yX2_old)))) rfl
theorem ts_yX2_old : Cond.selects RX2 yX2_old yX2_old ∈ TB := tb (tb2 (List.mem_of_getElem? (i := 26) (rfl : tables_1_2[26]? = some (Cond.selects RX2 yX2_old yX2_old)))) rfl
theorem tc_yX2_old : Cond.code yX2_old cX2_old 2 (some .boolean) ∈ TB := tb (tb2 (List.mem_of_getElem? (i := 27) (rfl : tables_1_2[27]? = some (Cond.code yX2_old cX2_old 2 (some .boolean))))) rfl
theorem tm_L_31 : Cond.methodLink RL 31 yX5_stone ∈ TB := tb (tb2 (List.mem_of_getElem? (i := 28) (rfl : tables_1_2[28]? = some (Cond.methodLink RL 31 yX5_stone)))) rfl
theorem ti_yX5_stone : Cond.instanceMethod yX5_stone ∈ TB := tb (tb2 (List.mem_of_getElem? (i := 29) (rfl : tables_1_2[29]? = some (Cond.instanceMethod yX5_stone)))) rfl
theorem ts_yX5_stone : Cond.selects RX5 yX5_stone yX5_stone ∈ TB := tb (tb2 (List.mem_of_getElem? (i := 30) (rfl : tables_1_2[30]? = some (Cond.selects RX5 yX5_stone yX5_stone)))) rfl
theorem tc_yX5_stone : Cond.code yX5_stone cX5_stone 3 (some .int) ∈ TB := tb (tb2 (List.mem_of_getElem? (i := 31) (rfl : tables_1_2[31]? = some (Cond.code yX5_stone cX5_stone 3 (some .int))))) rfl
theorem tm_X5_104 : Cond.methodLink RX5 104 yX5_isPlace ∈ TB := tb (tb2 (List.mem_of_getElem? (i := 32) (rfl : tables_1_2[32]? = some (Cond.methodLink RX5 104 yX5_isPlace)))) rfl
theorem tt_yX5_isPlace : Cond.static yX5_isPlace ∈ TB := tb (tb2 (List.mem_of_getElem? (i := 33) (rfl : tables_1_2[33]? = some (Cond.static yX5_isPlace)))) rfl
theorem tc_yX5_isPlace : Cond.code yX5_isPlace cX5_isPlace 1 (some .boolean) ∈ TB := tb (tb2 (List.mem_of_getElem? (i := 34) (rfl : tables_1_2[34]? = some (Cond.code yX5_isPlace cX5_isPlace 1 (some .boolean))))) rfl
theorem tm_X5_108 : Cond.methodLink RX5 108 yX4_lay ∈ TB := tb (tb2 (List.mem_of_getElem? (i := 35) (rfl : tables_1_2[35]? = some (Cond.methodLink RX5 108 yX4_lay)))) rfl
theorem ti_yX4_lay : Cond.instanceMethod yX4_lay ∈ TB := tb (tb2 (List.mem_of_getElem? (i := 36) (rfl : tables_1_2[36]? = some (Cond.instanceMethod yX4_lay)))) rfl
theorem ts_yX4_lay : Cond.selects RX4 yX4_lay yX4_lay ∈ TB := tb (tb2 (List.mem_of_getElem? (i := 37) (rfl : tables_1_2[37]? = some (Cond.selects RX4 yX4_lay yX4_lay)))) rfl
theorem tc_yX4_lay : Cond.code yX4_lay cX4_lay 3 (some .int) ∈ TB := tb (tb2 (List.mem_of_getElem? (i := 38) (rfl : tables_1_2[38]? = some (Cond.code yX4_lay cX4_lay 3 (some .int))))) rfl
theorem tm_L_35 : Cond.methodLink RL 35 yX5_moves ∈ TB := tb (tb2 (List.mem_of_getElem? (i := 39) (rfl : tables_1_2[39]? = some (Cond.methodLink RL 35 yX5_moves)))) rfl
theorem ti_yX5_moves : Cond.instanceMethod yX5_moves ∈ TB := tb (tb2 (List.mem_of_getElem? (i := 40) (rfl : tables_1_2[40]? = some (Cond.instanceMethod yX5_moves)))) rfl
theorem ts_yX5_moves : Cond.selects RX5 yX5_moves yX5_moves ∈ TB := tb (tb2 (List.mem_of_getElem? (i := 41) (rfl : tables_1_2[41]? = some (Cond.selects RX5 yX5_moves yX5_moves)))) rfl
theorem tc_yX5_moves : Cond.code yX5_moves cX5_moves 4 (some .int) ∈ TB := tb (tb2 (List.mem_of_getElem? (i := 42) (rfl : tables_1_2[42]? = some (Cond.code yX5_moves cX5_moves 4 (some .int))))) rfl
theorem tm_X5_112 : Cond.methodLink RX5 112 yX4_has ∈ TB := tb (tb2 (List.mem_of_getElem? (i := 43) (rfl : tables_1_2[43]? = some (Cond.methodLink RX5 112 yX4_has)))) rfl
theorem ti_yX4_has : Cond.instanceMethod yX4_has ∈ TB := tb (tb2 (List.mem_of_getElem? (i := 44) (rfl : tables_1_2[44]? = some (Cond.instanceMethod yX4_has)))) rfl
theorem ts_yX4_has : Cond.selects RX4 yX4_has yX4_has ∈ TB := tb (tb2 (List.mem_of_getElem? (i := 45) (rfl : tables_1_2[45]? = some (Cond.selects RX4 yX4_has yX4_has)))) rfl
theorem tc_yX4_has : Cond.code yX4_has cX4_has 2 (some .boolean) ∈ TB := tb (tb2 (List.mem_of_getElem? (i := 46) (rfl : tables_1_2[46]? = some (Cond.code yX4_has cX4_has 2 (some .boolean))))) rfl
theorem tm_L_39 : Cond.methodLink RL 39 yX5_act ∈ TB := tb (tb2 (List.mem_of_getElem? (i := 47) (rfl : tables_1_2[47]? = some (Cond.methodLink RL 39 yX5_act)))) rfl
theorem ti_yX5_act : Cond.instanceMethod yX5_act ∈ TB := tb (tb2 (List.mem_of_getElem? (i := 48) (rfl : tables_1_2[48]? = some (Cond.instanceMethod yX5_act)))) rfl
theorem ts_yX5_act : Cond.selects RX5 yX5_act yX5_act ∈ TB := tb (tb2 (List.mem_of_getElem? (i := 49) (rfl : tables_1_2[49]? = some (Cond.selects RX5 yX5_act yX5_act)))) rfl
theorem tc_yX5_act : Cond.code yX5_act cX5_act 8 (some .int) ∈ TB := tb (tb2 (List.mem_of_getElem? (i := 50) (rfl : tables_1_2[50]? = some (Cond.code yX5_act cX5_act 8 (some .int))))) rfl
theorem tm_X5_116 : Cond.methodLink RX5 116 yX2_allAlive ∈ TB := tb (tb2 (List.mem_of_getElem? (i := 51) (rfl : tables_1_2[51]? = some (Cond.methodLink RX5 116 yX2_allAlive)))) rfl
theorem ti_yX2_allAlive : Cond.instanceMethod yX2_allAlive ∈ TB := tb (tb2 (List.mem_of_getElem? (i := 52) (rfl : tables_1_2[52]? = some (Cond.instanceMethod yX2_allAlive)))) rfl
theorem ts_yX2_allAlive : Cond.selects RX2 yX2_allAlive yX2_allAlive ∈ TB := tb (tb2 (List.mem_of_getElem? (i := 53) (rfl : tables_1_2[53]? = some (Cond.selects RX2 yX2_allAlive yX2_allAlive)))) rfl
theorem tc_yX2_allAlive : Cond.code yX2_allAlive cX2_allAlive 2 (some .boolean) ∈ TB := tb (tb2 (List.mem_of_getElem? (i := 54) (rfl : tables_1_2[54]? = some (Cond.code yX2_allAlive cX2_allAlive 2 (some .boolean))))) rfl
theorem tm_X5_119 : Cond.methodLink RX5 119 yX5_isDoable ∈ TB := tb (tb2 (List.mem_of_getElem? (i := 55) (rfl : tables_1_2[55]? = some (Cond.methodLink RX5 119 yX5_isDoable)))) rfl
theorem ti_yX5_isDoable : Cond.instanceMethod yX5_isDoable ∈ TB := tb (tb2 (List.mem_of_getElem? (i := 57) (rfl : tables_1_2[57]? = some (Cond.instanceMethod yX5_isDoable)))) rfl
theorem tc_yX5_isDoable : Cond.code yX5_isDoable cX5_isDoable 6 (some .boolean) ∈ TB := tb (tb2 (List.mem_of_getElem? (i := 58) (rfl : tables_1_2[58]? = some (Cond.code yX5_isDoable cX5_isDoable 6 (some .boolean))))) rfl
theorem tm_X5_295 : Cond.methodLink RX5 295 yX5_isPledgeOf ∈ TB := tb (tb2 (List.mem_of_getElem? (i := 59) (rfl : tables_1_2[59]? = some (Cond.methodLink RX5 295 yX5_isPledgeOf)))) rfl
theorem ti_yX5_isPledgeOf : Cond.instanceMethod yX5_isPledgeOf ∈ TB := tb (tb2 (List.mem_of_getElem? (i := 61) (rfl : tables_1_2[61]? = some (Cond.instanceMethod yX5_isPledgeOf)))) rfl
theorem tc_yX5_isPledgeOf : Cond.code yX5_isPledgeOf cX5_isPledgeOf 4 (some .boolean) ∈ TB := tb (tb2 (List.mem_of_getElem? (i := 62) (rfl : tables_1_2[62]? = some (Cond.code yX5_isPledgeOf cX5_isPledgeOf 4 (some .boolean))))) rfl
theorem tm_X5_153 : Cond.methodLink RX5 153 yX0_has ∈ TB := tb (tb2 (List.mem_of_getElem? (i := 63) (rfl : tables_1_2[63]? = some (Cond.methodLink RX5 153 yX0_has)))) rfl
theorem ti_yX0_has : Cond.instanceMethod yX0_has ∈ TB := tb (tb2 (List.mem_of_getElem? (i := 64) (rfl : tables_1_2[64]? = some (Cond.instanceMethod yX0_has)))) rfl
theorem ts_yX0_has : Cond.selects RX0 yX0_has yX0_has ∈ TB := tb (tb2 (List.mem_of_getElem? (i := 65) (rfl : tables_1_2[65]? = some (Cond.selects RX0 yX0_has yX0_has)))) rfl
theorem tc_yX0_has : Cond.code yX0_has cX0_has 2 (some .boolean) ∈ TB := tb (tb2 (List.mem_of_getElem? (i := 66) (rfl : tables_1_2[66]? = some (Cond.code yX0_has cX0_has 2 (some .boolean))))) rfl
theorem tm_X5_124 : Cond.methodLink RX5 124 yX0_open ∈ TB := tb (tb2 (List.mem_of_getElem? (i := 67) (rfl : tables_1_2[67]? = some (Cond.methodLink RX5 124 yX0_open)))) rfl
theorem ti_yX0_open : Cond.instanceMethod yX0_open ∈ TB := tb (tb2 (List.mem_of_getElem? (i := 68) (rfl : tables_1_2[68]? = some (Cond.instanceMethod yX0_open)))) rfl
theorem ts_yX0_open : Cond.selects RX0 yX0_open yX0_open ∈ TB := tb (tb2 (List.mem_of_getElem? (i := 69) (rfl : tables_1_2[69]? = some (Cond.selects RX0 yX0_open yX0_open)))) rfl
theorem tc_yX0_open : Cond.code yX0_open cX0_open 4 (some .int) ∈ TB := tb (tb2 (List.mem_of_getElem? (i := 70) (rfl : tables_1_2[70]? = some (Cond.code yX0_open cX0_open 4 (some .int))))) rfl
theorem tm_X5_128 : Cond.methodLink RX5 128 yX5_isHandOver ∈ TB := tb (tb2 (List.mem_of_getElem? (i := 71) (rfl : tables_1_2[71]? = some (Cond.methodLink RX5 128 yX5_isHandOver)))) rfl
theorem tt_yX5_isHandOver : Cond.static yX5_isHandOver ∈ TB := tb (tb2 (List.mem_of_getElem? (i := 72) (rfl : tables_1_2[72]? = some (Cond.static yX5_isHandOver)))) rfl
theorem tc_yX5_isHandOver : Cond.code yX5_isHandOver cX5_isHandOver 1 (some .boolean) ∈ TB := tb (tb2 (List.mem_of_getElem? (i := 73) (rfl : tables_1_2[73]? = some (Cond.code yX5_isHandOver cX5_isHandOver 1 (some .boolean))))) rfl
theorem tm_X5_143 : Cond.methodLink RX5 143 yX5_letWitnessesKnow ∈ TB := tb (tb2 (List.mem_of_getElem? (i := 74) (rfl : tables_1_2[74]? = some (Cond.methodLink RX5 143 yX5_letWitnessesKnow)))) rfl
theorem ti_yX5_letWitnessesKnow : Cond.instanceMethod yX5_letWitnessesKnow ∈ TB := tb (tb2 (List.mem_of_getElem? (i := 76) (rfl : tables_1_2[76]? = some (Cond.instanceMethod yX5_letWitnessesKnow)))) rfl
theorem tc_yX5_letWitnessesKnow : Cond.code yX5_letWitnessesKnow cX5_letWitnessesKnow 3 none ∈ TB := tb (tb2 (List.mem_of_getElem? (i := 77) (rfl : tables_1_2[77]? = some (Cond.code yX5_letWitnessesKnow cX5_letWitnessesKnow 3 none)))) rfl
theorem tm_X5_180 : Cond.methodLink RX5 180 yX2_hear ∈ TB := tb (tb2 (List.mem_of_getElem? (i := 78) (rfl : tables_1_2[78]? = some (Cond.methodLink RX5 180 yX2_hear)))) rfl
theorem ti_yX2_hear : Cond.instanceMethod yX2_hear ∈ TB := tb (tb2 (List.mem_of_getElem? (i := 79) (rfl : tables_1_2[79]? = some (Cond.instanceMethod yX2_hear)))) rfl
theorem ts_yX2_hear : Cond.selects RX2 yX2_hear yX2_hear ∈ TB := tb (tb2 (List.mem_of_getElem? (i := 80) (rfl : tables_1_2[80]? = some (Cond.selects RX2 yX2_hear yX2_hear)))) rfl
theorem tc_yX2_hear : Cond.code yX2_hear cX2_hear 4 none ∈ TB := tb (tb2 (List.mem_of_getElem? (i := 81) (rfl : tables_1_2[81]? = some (Cond.code yX2_hear cX2_hear 4 none)))) rfl
theorem tm_X2_50 : Cond.methodLink RX2 50 yX2_heard ∈ TB := tb (tb2 (List.mem_of_getElem? (i := 82) (rfl : tables_1_2[82]? = some (Cond.methodLink RX2 50 yX2_heard)))) rfl
theorem ti_yX2_heard : Cond.instanceMethod yX2_heard ∈ TB := tb (tb2 (List.mem_of_getElem? (i := 83) (rfl : tables_1_2[83]? = some (Cond.instanceMethod yX2_heard)))) rfl
theorem ts_yX2_heard : Cond.selects RX2 yX2_heard yX2_heard ∈ TB := tb (tb2 (List.mem_of_getElem? (i := 84) (rfl : tables_1_2[84]? = some (Cond.selects RX2 yX2_heard yX2_heard)))) rfl
theorem tc_yX2_heard : Cond.code yX2_heard cX2_heard 3 (some .boolean) ∈ TB := tb (tb2 (List.mem_of_getElem? (i := 85) (rfl : tables_1_2[85]? = some (Cond.code yX2_heard cX2_heard 3 (some .boolean))))) rfl
theorem tt_yX5_hasBit : Cond.static yX5_hasBit ∈ TB := tb (tb2 (List.mem_of_getElem? (i := 87) (rfl : tables_1_2[87]? = some (Cond.static yX5_hasBit)))) rfl
theorem tc_yX5_hasBit : Cond.code yX5_hasBit cX5_hasBit 3 (some .boolean) ∈ TB := tb (tb2 (List.mem_of_getElem? (i := 88) (rfl : tables_1_2[88]? = some (Cond.code yX5_hasBit cX5_hasBit 3 (some .boolean))))) rfl
theorem tm_X2_54 : Cond.methodLink RX2 54 yX2_depthOf ∈ TB := tb (tb2 (List.mem_of_getElem? (i := 89) (rfl : tables_1_2[89]? = some (Cond.methodLink RX2 54 yX2_depthOf)))) rfl
theorem ti_yX2_depthOf : Cond.instanceMethod yX2_depthOf ∈ TB := tb (tb2 (List.mem_of_getElem? (i := 90) (rfl : tables_1_2[90]? = some (Cond.instanceMethod yX2_depthOf)))) rfl
theorem ts_yX2_depthOf : Cond.selects RX2 yX2_depthOf yX2_depthOf ∈ TB := tb (tb2 (List.mem_of_getElem? (i := 91) (rfl : tables_1_2[91]? = some (Cond.selects RX2 yX2_depthOf yX2_depthOf)))) rfl
theorem tc_yX2_depthOf : Cond.code yX2_depthOf cX2_depthOf 3 (some .int) ∈ TB := tb (tb2 (List.mem_of_getElem? (i := 92) (rfl : tables_1_2[92]? = some (Cond.code yX2_depthOf cX2_depthOf 3 (some .int))))) rfl
theorem tm_X5_146 : Cond.methodLink RX5 146 yX5_convinces ∈ TB := tb (tb2 (List.mem_of_getElem? (i := 93) (rfl : tables_1_2[93]? = some (Cond.methodLink RX5 146 yX5_convinces)))) rfl
theorem ti_yX5_convinces : Cond.instanceMethod yX5_convinces ∈ TB := tb (tb2 (List.mem_of_getElem? (i := 95) (rfl : tables_1_2[95]? = some (Cond.instanceMethod yX5_convinces)))) rfl
theorem tc_yX5_convinces : Cond.code yX5_convinces cX5_convinces 4 (some .boolean) ∈ TB := tb (tb2 (List.mem_of_getElem? (i := 96) (rfl : tables_1_2[96]? = some (Cond.code yX5_convinces cX5_convinces 4 (some .boolean))))) rfl
theorem tm_X5_170 : Cond.methodLink RX5 170 yX2_heard ∈ TB := tb (tb2 (List.mem_of_getElem? (i := 97) (rfl : tables_1_2[97]? = some (Cond.methodLink RX5 170 yX2_heard)))) rfl
theorem tm_X5_218 : Cond.methodLink RX5 218 yX1_addUp ∈ TB := tb (tb2 (List.mem_of_getElem? (i := 98) (rfl : tables_1_2[98]? = some (Cond.methodLink RX5 218 yX1_addUp)))) rfl
theorem ti_yX1_addUp : Cond.instanceMethod yX1_addUp ∈ TB := tb (tb2 (List.mem_of_getElem? (i := 99) (rfl : tables_1_2[99]? = some (Cond.instanceMethod yX1_addUp)))) rfl
theorem ts_yX1_addUp : Cond.selects RX1 yX1_addUp yX1_addUp ∈ TB := tb (tb2 (List.mem_of_getElem? (i := 100) (rfl : tables_1_2[100]? = some (Cond.selects RX1 yX1_addUp yX1_addUp)))) rfl
theorem tc_yX1_addUp : Cond.code yX1_addUp cX1_addUp 5 none ∈ TB := tb (tb2 (List.mem_of_getElem? (i := 101) (rfl : tables_1_2[101]? = some (Cond.code yX1_addUp cX1_addUp 5 none)))) rfl
theorem tm_X1_32 : Cond.methodLink RX1 32 yX1_forget ∈ TB := tb (tb2 (List.mem_of_getElem? (i := 102) (rfl : tables_1_2[102]? = some (Cond.methodLink RX1 32 yX1_forget)))) rfl
theorem ti_yX1_forget : Cond.instanceMethod yX1_forget ∈ TB := tb (tb2 (List.mem_of_getElem? (i := 104) (rfl : tables_1_2[104]? = some (Cond.instanceMethod yX1_forget)))) rfl
theorem tc_yX1_forget : Cond.code yX1_forget cX1_forget 2 none ∈ TB := tb (tb2 (List.mem_of_getElem? (i := 105) (rfl : tables_1_2[105]? = some (Cond.code yX1_forget cX1_forget 2 none)))) rfl
theorem tm_X1_44 : Cond.methodLink RX1 44 yX1_agrees ∈ TB := tb (tb2 (List.mem_of_getElem? (i := 107) (rfl : tables_1_2[107]? = some (Cond.methodLink RX1 44 yX1_agrees)))) rfl
theorem ti_yX1_agrees : Cond.instanceMethod yX1_agrees ∈ TB := tb (tb2 (List.mem_of_getElem? (i := 109) (rfl : tables_1_2[109]? = some (Cond.instanceMethod yX1_agrees)))) rfl
theorem tc_yX1_agrees : Cond.code yX1_agrees cX1_agrees 5 (some .boolean) ∈ TB := tb (tb2 (List.mem_of_getElem? (i := 110) (rfl : tables_1_2[110]? = some (Cond.code yX1_agrees cX1_agrees 5 (some .boolean))))) rfl
theorem tt_yX5_seat : Cond.static yX5_seat ∈ TB := tb (tb2 (List.mem_of_getElem? (i := 112) (rfl : tables_1_2[112]? = some (Cond.static yX5_seat)))) rfl
theorem tc_yX5_seat : Cond.code yX5_seat cX5_seat 2 (some .int) ∈ TB := tb (tb2 (List.mem_of_getElem? (i := 113) (rfl : tables_1_2[113]? = some (Cond.code yX5_seat cX5_seat 2 (some .int))))) rfl
theorem tk_X1_68 : Cond.constantLong RX1 68 (-1) ∈ TB := tb (tb2 (List.mem_of_getElem? (i := 114) (rfl : tables_1_2[114]? = some (Cond.constantLong RX1 68 (-1))))) rfl
theorem tm_X1_48 : Cond.methodLink RX1 48 yX1_take ∈ TB := tb (tb2 (List.mem_of_getElem? (i := 115) (rfl : tables_1_2[115]? = some (Cond.methodLink RX1 48 yX1_take)))) rfl
theorem ti_yX1_take : Cond.instanceMethod yX1_take ∈ TB := tb (tb2 (List.mem_of_getElem? (i := 117) (rfl : tables_1_2[117]? = some (Cond.instanceMethod yX1_take)))) rfl
theorem tc_yX1_take : Cond.code yX1_take cX1_take 6 none ∈ TB := tb (tb2 (List.mem_of_getElem? (i := 118) (rfl : tables_1_2[118]? = some (Cond.code yX1_take cX1_take 6 none)))) rfl
theorem tm_X1_73 : Cond.methodLink RX1 73 yX1_move ∈ TB := tb (tb2 (List.mem_of_getElem? (i := 119) (rfl : tables_1_2[119]? = some (Cond.methodLink RX1 73 yX1_move)))) rfl
theorem ti_yX1_move : Cond.instanceMethod yX1_move ∈ TB := tb (tb2 (List.mem_of_getElem? (i := 121) (rfl : tables_1_2[121]? = some (Cond.instanceMethod yX1_move)))) rfl
theorem tc_yX1_move : Cond.code yX1_move cX1_move 4 none ∈ TB := tb (tb2 (List.mem_of_getElem? (i := 122) (rfl : tables_1_2[122]? = some (Cond.code yX1_move cX1_move 4 none)))) rfl
theorem tm_X5_163 : Cond.methodLink RX5 163 yX5_hasBit ∈ TB := tb (tb2 (List.mem_of_getElem? (i := 123) (rfl : tables_1_2[123]? = some (Cond.methodLink RX5 163 yX5_hasBit)))) rfl
theorem tm_X5_252 : Cond.methodLink RX5 252 yX2_oldOnes ∈ TB := tb (tb2 (List.mem_of_getElem? (i := 124) (rfl : tables_1_2[124]? = some (Cond.methodLink RX5 252 yX2_oldOnes)))) rfl
theorem ti_yX2_oldOnes : Cond.instanceMethod yX2_oldOnes ∈ TB := tb (tb2 (List.mem_of_getElem? (i := 125) (rfl : tables_1_2[125]? = some (Cond.instanceMethod yX2_oldOnes)))) rfl
theorem ts_yX2_oldOnes : Cond.selects RX2 yX2_oldOnes yX2_oldOnes ∈ TB := tb (tb2 (List.mem_of_getElem? (i := 126) (rfl : tables_1_2[126]? = some (Cond.selects RX2 yX2_oldOnes yX2_oldOnes)))) rfl
theorem tc_yX2_oldOnes : Cond.code yX2_oldOnes cX2_oldOnes 1 (some .int) ∈ TB := tb (tb2 (List.mem_of_getElem? (i := 127) (rfl : tables_1_2[127]? = some (Cond.code yX2_oldOnes cX2_oldOnes 1 (some .int))))) rfl
theorem tm_X2_40 : Cond.methodLink RX2 40 yJ6_bitCount_0f7a4 ∈ TB := tb (tb2 (List.mem_of_getElem? (i := 128) (rfl : tables_1_2[128]? = some (Cond.methodLink RX2 40 yJ6_bitCount_0f7a4)))) rfl
theorem tt_yJ6_bitCount_0f7a4 : Cond.static yJ6_bitCount_0f7a4 ∈ TB := tb (tb2 (List.mem_of_getElem? (i := 129) (rfl : tables_1_2[129]? = some (Cond.static yJ6_bitCount_0f7a4)))) rfl
theorem tc_yJ6_bitCount_0f7a4 : Cond.code yJ6_bitCount_0f7a4 cJ6_bitCount_0f7a4 1 (some .int) ∈ TB := tb (tb2 (List.mem_of_getElem? (i := 130) (rfl : tables_1_2[130]? = some (Cond.code yJ6_bitCount_0f7a4 cJ6_bitCount_0f7a4 1 (some .int))))) rfl
theorem tk_J6_265 : Cond.constant RJ6 265 1431655765 ∈ TB := tb (tb2 (List.mem_of_getElem? (i := 131) (rfl : tables_1_2[131]? = some (Cond.constant RJ6 265 1431655765)))) rfl
theorem tk_J6_266 : Cond.constant RJ6 266 858993459 ∈ TB := tb (tb2 (List.mem_of_getElem? (i := 132) (rfl : tables_1_2[132]? = some (Cond.constant RJ6 266 858993459)))) rfl
theorem tk_J6_267 : Cond.constant RJ6 267 252645135 ∈ TB := tb (tb2 (List.mem_of_getElem? (i := 133) (rfl : tables_1_2[133]? = some (Cond.constant RJ6 267 252645135)))) rfl
theorem tm_X5_213 : Cond.methodLink RX5 213 yJ9_min_7cf53 ∈ TB := tb (tb2 (List.mem_of_getElem? (i := 134) (rfl : tables_1_2[134]? = some (Cond.methodLink RX5 213 yJ9_min_7cf53)))) rfl
theorem tt_yJ9_min_7cf53 : Cond.static yJ9_min_7cf53 ∈ TB := tb (tb2 (List.mem_of_getElem? (i := 135) (rfl : tables_1_2[135]? = some (Cond.static yJ9_min_7cf53)))) rfl
theorem tc_yJ9_min_7cf53 : Cond.code yJ9_min_7cf53 cJ9_min_7cf53 2 (some .int) ∈ TB := tb (tb2 (List.mem_of_getElem? (i := 136) (rfl : tables_1_2[136]? = some (Cond.code yJ9_min_7cf53 cJ9_min_7cf53 2 (some .int))))) rfl
theorem tm_L_44 : Cond.methodLink RL 44 yX5_about ∈ TB := tb (tb2 (List.mem_of_getElem? (i := 137) (rfl : tables_1_2[137]? = some (Cond.methodLink RL 44 yX5_about)))) rfl
theorem ti_yX5_about : Cond.instanceMethod yX5_about ∈ TB := tb (tb2 (List.mem_of_getElem? (i := 138) (rfl : tables_1_2[138]? = some (Cond.instanceMethod yX5_about)))) rfl
theorem ts_yX5_about : Cond.selects RX5 yX5_about yX5_about ∈ TB := tb (tb2 (List.mem_of_getElem? (i := 139) (rfl : tables_1_2[139]? = some (Cond.selects RX5 yX5_about yX5_about)))) rfl
theorem tc_yX5_about : Cond.code yX5_about cX5_about 3 (some .int) ∈ TB := tb (tb2 (List.mem_of_getElem? (i := 140) (rfl : tables_1_2[140]? = some (Cond.code yX5_about cX5_about 3 (some .int))))) rfl
theorem tm_X5_167 : Cond.methodLink RX5 167 yX2_knowersOf ∈ TB := tb (tb2 (List.mem_of_getElem? (i := 141) (rfl : tables_1_2[141]? = some (Cond.methodLink RX5 167 yX2_knowersOf)))) rfl
theorem ti_yX2_knowersOf : Cond.instanceMethod yX2_knowersOf ∈ TB := tb (tb2 (List.mem_of_getElem? (i := 142) (rfl : tables_1_2[142]? = some (Cond.instanceMethod yX2_knowersOf)))) rfl
theorem ts_yX2_knowersOf : Cond.selects RX2 yX2_knowersOf yX2_knowersOf ∈ TB := tb (tb2 (List.mem_of_getElem? (i := 143) (rfl : tables_1_2[143]? = some (Cond.selects RX2 yX2_knowersOf yX2_knowersOf)))) rfl
theorem tc_yX2_knowersOf : Cond.code yX2_knowersOf cX2_knowersOf 5 (some .int) ∈ TB := tb (tb2 (List.mem_of_getElem? (i := 144) (rfl : tables_1_2[144]? = some (Cond.code yX2_knowersOf cX2_knowersOf 5 (some .int))))) rfl
theorem tk_X2_58 : Cond.constantLong RX2 58 (-1) ∈ TB := tb (tb2 (List.mem_of_getElem? (i := 145) (rfl : tables_1_2[145]? = some (Cond.constantLong RX2 58 (-1))))) rfl
theorem tm_L_48 : Cond.methodLink RL 48 yX5_knows ∈ TB := tb (tb2 (List.mem_of_getElem? (i := 146) (rfl : tables_1_2[146]? = some (Cond.methodLink RL 48 yX5_knows)))) rfl
theorem ti_yX5_knows : Cond.instanceMethod yX5_knows ∈ TB := tb (tb2 (List.mem_of_getElem? (i := 147) (rfl : tables_1_2[147]? = some (Cond.instanceMethod yX5_knows)))) rfl
theorem ts_yX5_knows : Cond.selects RX5 yX5_knows yX5_knows ∈ TB := tb (tb2 (List.mem_of_getElem? (i := 148) (rfl : tables_1_2[148]? = some (Cond.selects RX5 yX5_knows yX5_knows)))) rfl
theorem tc_yX5_knows : Cond.code yX5_knows cX5_knows 3 (some .int) ∈ TB := tb (tb2 (List.mem_of_getElem? (i := 149) (rfl : tables_1_2[149]? = some (Cond.code yX5_knows cX5_knows 3 (some .int))))) rfl
theorem tm_X5_174 : Cond.methodLink RX5 174 yX2_depthOf ∈ TB := tb (tb2 (List.mem_of_getElem? (i := 150) (rfl : tables_1_2[150]? = some (Cond.methodLink RX5 174 yX2_depthOf)))) rfl
theorem tm_L_52 : Cond.methodLink RL 52 yX5_tell ∈ TB := tb (tb2 (List.mem_of_getElem? (i := 151) (rfl : tables_1_2[151]? = some (Cond.methodLink RL 52 yX5_tell)))) rfl
theorem ti_yX5_tell : Cond.instanceMethod yX5_tell ∈ TB := tb (tb2 (List.mem_of_getElem? (i := 152) (rfl : tables_1_2[152]? = some (Cond.instanceMethod yX5_tell)))) rfl
theorem ts_yX5_tell : Cond.selects RX5 yX5_tell yX5_tell ∈ TB := tb (tb2 (List.mem_of_getElem? (i := 153) (rfl : tables_1_2[153]? = some (Cond.selects RX5 yX5_tell yX5_tell)))) rfl
theorem tc_yX5_tell : Cond.code yX5_tell cX5_tell 4 (some .int) ∈ TB := tb (tb2 (List.mem_of_getElem? (i := 154) (rfl : tables_1_2[154]? = some (Cond.code yX5_tell cX5_tell 4 (some .int))))) rfl
theorem tm_X5_177 : Cond.methodLink RX5 177 yX5_isBanned ∈ TB := tb (tb2 (List.mem_of_getElem? (i := 155) (rfl : tables_1_2[155]? = some (Cond.methodLink RX5 177 yX5_isBanned)))) rfl
theorem ti_yX5_isBanned : Cond.instanceMethod yX5_isBanned ∈ TB := tb (tb2 (List.mem_of_getElem? (i := 157) (rfl : tables_1_2[157]? = some (Cond.instanceMethod yX5_isBanned)))) rfl
theorem tc_yX5_isBanned : Cond.code yX5_isBanned cX5_isBanned 2 (some .boolean) ∈ TB := tb (tb2 (List.mem_of_getElem? (i := 158) (rfl : tables_1_2[158]? = some (Cond.code yX5_isBanned cX5_isBanned 2 (some .boolean))))) rfl
theorem tm_L_57 : Cond.methodLink RL 57 yX5_parts ∈ TB := tb (tb2 (List.mem_of_getElem? (i := 159) (rfl : tables_1_2[159]? = some (Cond.methodLink RL 57 yX5_parts)))) rfl
theorem ti_yX5_parts : Cond.instanceMethod yX5_parts ∈ TB := tb (tb2 (List.mem_of_getElem? (i := 160) (rfl : tables_1_2[160]? = some (Cond.instanceMethod yX5_parts)))) rfl
theorem ts_yX5_parts : Cond.selects RX5 yX5_parts yX5_parts ∈ TB := tb (tb2 (List.mem_of_getElem? (i := 161) (rfl : tables_1_2[161]? = some (Cond.selects RX5 yX5_parts yX5_parts)))) rfl
theorem tc_yX5_parts : Cond.code yX5_parts cX5_parts 5 (some .int) ∈ TB := tb (tb2 (List.mem_of_getElem? (i := 162) (rfl : tables_1_2[162]? = some (Cond.code yX5_parts cX5_parts 5 (some .int))))) rfl
theorem tm_X5_184 : Cond.methodLink RX5 184 yX5_lookInto ∈ TB := tb (tb2 (List.mem_of_getElem? (i := 163) (rfl : tables_1_2[163]? = some (Cond.methodLink RX5 184 yX5_lookInto)))) rfl
theorem ti_yX5_lookInto : Cond.instanceMethod yX5_lookInto ∈ TB := tb (tb2 (List.mem_of_getElem? (i := 165) (rfl : tables_1_2[165]? = some (Cond.instanceMethod yX5_lookInto)))) rfl
theorem tc_yX5_lookInto : Cond.code yX5_lookInto cX5_lookInto 2 (some .int) ∈ TB := tb (tb2 (List.mem_of_getElem? (i := 166) (rfl : tables_1_2[166]? = some (Cond.code yX5_lookInto cX5_lookInto 2 (some .int))))) rfl
theorem tm_X5_196 : Cond.methodLink RX5 196 yX5_knownTo ∈ TB := tb (tb2 (List.mem_of_getElem? (i := 167) (rfl : tables_1_2[167]? = some (Cond.methodLink RX5 196 yX5_knownTo)))) rfl
theorem ti_yX5_knownTo : Cond.instanceMethod yX5_knownTo ∈ TB := tb (tb2 (List.mem_of_getElem? (i := 169) (rfl : tables_1_2[169]? = some (Cond.instanceMethod yX5_knownTo)))) rfl
theorem tc_yX5_knownTo : Cond.code yX5_knownTo cX5_knownTo 2 (some .long) ∈ TB := tb (tb2 (List.mem_of_getElem? (i := 170) (rfl : tables_1_2[170]? = some (Cond.code yX5_knownTo cX5_knownTo 2 (some .long))))) rfl
theorem tm_X5_299 : Cond.methodLink RX5 299 yX2_knownToAllOld ∈ TB := tb (tb2 (List.mem_of_getElem? (i := 171) (rfl : tables_1_2[171]? = some (Cond.methodLink RX5 299 yX2_knownToAllOld)))) rfl
theorem ti_yX2_knownToAllOld : Cond.instanceMethod yX2_knownToAllOld ∈ TB := tb (tb2 (List.mem_of_getElem? (i := 172) (rfl : tables_1_2[172]? = some (Cond.instanceMethod yX2_knownToAllOld)))) rfl
theorem ts_yX2_knownToAllOld : Cond.selects RX2 yX2_knownToAllOld yX2_knownToAllOld ∈ TB := tb (tb2 (List.mem_of_getElem? (i := 173) (rfl : tables_1_2[173]? = some (Cond.selects RX2 yX2_knownToAllOld yX2_knownToAllOld)))) rfl
theorem tc_yX2_knownToAllOld : Cond.code yX2_knownToAllOld cX2_knownToAllOld 4 (some .long) ∈ TB := tb (tb2 (List.mem_of_getElem? (i := 174) (rfl : tables_1_2[174]? = some (Cond.code yX2_knownToAllOld cX2_knownToAllOld 4 (some .long))))) rfl
theorem tm_X2_60 : Cond.methodLink RX2 60 yX2_old ∈ TB := tb (tb2 (List.mem_of_getElem? (i := 175) (rfl : tables_1_2[175]? = some (Cond.methodLink RX2 60 yX2_old)))) rfl
theorem tm_X5_190 : Cond.methodLink RX5 190 yX5_seat ∈ TB := tb (tb2 (List.mem_of_getElem? (i := 176) (rfl : tables_1_2[176]? = some (Cond.methodLink RX5 190 yX5_seat)))) rfl
theorem tm_L_61 : Cond.methodLink RL 61 yX5_bound ∈ TB := tb (tb2 (List.mem_of_getElem? (i := 177) (rfl : tables_1_2[177]? = some (Cond.methodLink RL 61 yX5_bound)))) rfl
theorem ti_yX5_bound : Cond.instanceMethod yX5_bound ∈ TB := tb (tb2 (List.mem_of_getElem? (i := 178) (rfl : tables_1_2[178]? = some (Cond.instanceMethod yX5_bound)))) rfl
theorem ts_yX5_bound : Cond.selects RX5 yX5_bound yX5_bound ∈ TB := tb (tb2 (List.mem_of_getElem? (i := 179) (rfl : tables_1_2[179]? = some (Cond.selects RX5 yX5_bound yX5_bound)))) rfl
theorem tc_yX5_bound : Cond.code yX5_bound cX5_bound 5 (some .int) ∈ TB := tb (tb2 (List.mem_of_getElem? (i := 180) (rfl : tables_1_2[180]? = some (Cond.code yX5_bound cX5_bound 5 (some .int))))) rfl
theorem tm_L_65 : Cond.methodLink RL 65 yX5_holds ∈ TB := tb (tb2 (List.mem_of_getElem? (i := 181) (rfl : tables_1_2[181]? = some (Cond.methodLink RL 65 yX5_holds)))) rfl
theorem ti_yX5_holds : Cond.instanceMethod yX5_holds ∈ TB := tb (tb2 (List.mem_of_getElem? (i := 182) (rfl : tables_1_2[182]? = some (Cond.instanceMethod yX5_holds)))) rfl
theorem ts_yX5_holds : Cond.selects RX5 yX5_holds yX5_holds ∈ TB := tb (tb2 (List.mem_of_getElem? (i := 183) (rfl : tables_1_2[183]? = some (Cond.selects RX5 yX5_holds yX5_holds)))) rfl
theorem tc_yX5_holds : Cond.code yX5_holds cX5_holds 4 (some .int) ∈ TB := tb (tb2 (List.mem_of_getElem? (i := 184) (rfl : tables_1_2[184]? = some (Cond.code yX5_holds cX5_holds 4 (some .int))))) rfl
theorem tm_L_69 : Cond.methodLink RL 69 yX5_owner ∈ TB := tb (tb2 (List.mem_of_getElem? (i := 185) (rfl : tables_1_2[185]? = some (Cond.methodLink RL 69 yX5_owner)))) rfl
theorem ti_yX5_owner : Cond.instanceMethod yX5_owner ∈ TB := tb (tb2 (List.mem_of_getElem? (i := 186) (rfl : tables_1_2[186]? = some (Cond.instanceMethod yX5_owner)))) rfl
theorem ts_yX5_owner : Cond.selects RX5 yX5_owner yX5_owner ∈ TB := tb (tb2 (List.mem_of_getElem? (i := 187) (rfl : tables_1_2[187]? = some (Cond.selects RX5 yX5_owner yX5_owner)))) rfl
theorem tc_yX5_owner : Cond.code yX5_owner cX5_owner 8 (some .int) ∈ TB := tb (tb2 (List.mem_of_getElem? (i := 188) (rfl : tables_1_2[188]? = some (Cond.code yX5_owner cX5_owner 8 (some .int))))) rfl
theorem tm_L_73 : Cond.methodLink RL 73 yX5_worth ∈ TB := tb (tb2 (List.mem_of_getElem? (i := 189) (rfl : tables_1_2[189]? = some (Cond.methodLink RL 73 yX5_worth)))) rfl
theorem ti_yX5_worth : Cond.instanceMethod yX5_worth ∈ TB := tb (tb2 (List.mem_of_getElem? (i := 190) (rfl : tables_1_2[190]? = some (Cond.instanceMethod yX5_worth)))) rfl
theorem ts_yX5_worth : Cond.selects RX5 yX5_worth yX5_worth ∈ TB := tb (tb2 (List.mem_of_getElem? (i := 191) (rfl : tables_1_2[191]? = some (Cond.selects RX5 yX5_worth yX5_worth)))) rfl
theorem tc_yX5_worth : Cond.code yX5_worth cX5_worth 4 (some .int) ∈ TB := tb (tb2 (List.mem_of_getElem? (i := 192) (rfl : tables_1_2[192]? = some (Cond.code yX5_worth cX5_worth 4 (some .int))))) rfl
theorem tm_X5_203 : Cond.methodLink RX5 203 yX5_worthInView ∈ TB := tb (tb2 (List.mem_of_getElem? (i := 193) (rfl : tables_1_2[193]? = some (Cond.methodLink RX5 203 yX5_worthInView)))) rfl
theorem ti_yX5_worthInView : Cond.instanceMethod yX5_worthInView ∈ TB := tb (tb2 (List.mem_of_getElem? (i := 195) (rfl : tables_1_2[195]? = some (Cond.instanceMethod yX5_worthInView)))) rfl
theorem tc_yX5_worthInView : Cond.code yX5_worthInView cX5_worthInView 3 (some .int) ∈ TB := tb (tb2 (List.mem_of_getElem? (i := 196) (rfl : tables_1_2[196]? = some (Cond.code yX5_worthInView cX5_worthInView 3 (some .int))))) rfl
theorem tm_L_77 : Cond.methodLink RL 77 yX5_wealth ∈ TB := tb (tb2 (List.mem_of_getElem? (i := 197) (rfl : tables_1_2[197]? = some (Cond.methodLink RL 77 yX5_wealth)))) rfl
theorem ti_yX5_wealth : Cond.instanceMethod yX5_wealth ∈ TB := tb (tb2 (List.mem_of_getElem? (i := 198) (rfl : tables_1_2[198]? = some (Cond.instanceMethod yX5_wealth)))) rfl
theorem ts_yX5_wealth : Cond.selects RX5 yX5_wealth yX5_wealth ∈ TB := tb (tb2 (List.mem_of_getElem? (i := 199) (rfl : tables_1_2[199]? = some (Cond.selects RX5 yX5_wealth yX5_wealth)))) rfl
theorem tc_yX5_wealth : Cond.code yX5_wealth cX5_wealth 6 (some .int) ∈ TB := tb (tb2 (List.mem_of_getElem? (i := 200) (rfl : tables_1_2[200]? = some (Cond.code yX5_wealth cX5_wealth 6 (some .int))))) rfl
theorem tm_L_81 : Cond.methodLink RL 81 yX5_quarrel ∈ TB := tb (tb2 (List.mem_of_getElem? (i := 201) (rfl : tables_1_2[201]? = some (Cond.methodLink RL 81 yX5_quarrel)))) rfl
theorem ti_yX5_quarrel : Cond.instanceMethod yX5_quarrel ∈ TB := tb (tb2 (List.mem_of_getElem? (i := 202) (rfl : tables_1_2[202]? = some (Cond.instanceMethod yX5_quarrel)))) rfl
theorem ts_yX5_quarrel : Cond.selects RX5 yX5_quarrel yX5_quarrel ∈ TB := tb (tb2 (List.mem_of_getElem? (i := 203) (rfl : tables_1_2[203]? = some (Cond.selects RX5 yX5_quarrel yX5_quarrel)))) rfl
theorem tc_yX5_quarrel : Cond.code yX5_quarrel cX5_quarrel 9 (some .int) ∈ TB := tb (tb2 (List.mem_of_getElem? (i := 204) (rfl : tables_1_2[204]? = some (Cond.code yX5_quarrel cX5_quarrel 9 (some .int))))) rfl
theorem tm_X5_206 : Cond.methodLink RX5 206 yX5_advantage ∈ TB := tb (tb2 (List.mem_of_getElem? (i := 205) (rfl : tables_1_2[205]? = some (Cond.methodLink RX5 206 yX5_advantage)))) rfl
theorem ti_yX5_advantage : Cond.instanceMethod yX5_advantage ∈ TB := tb (tb2 (List.mem_of_getElem? (i := 207) (rfl : tables_1_2[207]? = some (Cond.instanceMethod yX5_advantage)))) rfl
theorem tc_yX5_advantage : Cond.code yX5_advantage cX5_advantage 5 (some .int) ∈ TB := tb (tb2 (List.mem_of_getElem? (i := 208) (rfl : tables_1_2[208]? = some (Cond.code yX5_advantage cX5_advantage 5 (some .int))))) rfl
theorem tm_X5_210 : Cond.methodLink RX5 210 yX5_hearingOf ∈ TB := tb (tb2 (List.mem_of_getElem? (i := 209) (rfl : tables_1_2[209]? = some (Cond.methodLink RX5 210 yX5_hearingOf)))) rfl
theorem ti_yX5_hearingOf : Cond.instanceMethod yX5_hearingOf ∈ TB := tb (tb2 (List.mem_of_getElem? (i := 211) (rfl : tables_1_2[211]? = some (Cond.instanceMethod yX5_hearingOf)))) rfl
theorem tc_yX5_hearingOf : Cond.code yX5_hearingOf cX5_hearingOf 7 (some .int) ∈ TB := tb (tb2 (List.mem_of_getElem? (i := 212) (rfl : tables_1_2[212]? = some (Cond.code yX5_hearingOf cX5_hearingOf 7 (some .int))))) rfl
theorem tm_L_85 : Cond.methodLink RL 85 yX5_weight ∈ TB := tb (tb2 (List.mem_of_getElem? (i := 213) (rfl : tables_1_2[213]? = some (Cond.methodLink RL 85 yX5_weight)))) rfl
theorem ti_yX5_weight : Cond.instanceMethod yX5_weight ∈ TB := tb (tb2 (List.mem_of_getElem? (i := 214) (rfl : tables_1_2[214]? = some (Cond.instanceMethod yX5_weight)))) rfl
theorem ts_yX5_weight : Cond.selects RX5 yX5_weight yX5_weight ∈ TB := tb (tb2 (List.mem_of_getElem? (i := 215) (rfl : tables_1_2[215]? = some (Cond.selects RX5 yX5_weight yX5_weight)))) rfl
theorem tc_yX5_weight : Cond.code yX5_weight cX5_weight 6 (some .int) ∈ TB := tb (tb2 (List.mem_of_getElem? (i := 216) (rfl : tables_1_2[216]? = some (Cond.code yX5_weight cX5_weight 6 (some .int))))) rfl
theorem tm_L_89 : Cond.methodLink RL 89 yX5_split ∈ TB := tb (tb2 (List.mem_of_getElem? (i := 217) (rfl : tables_1_2[217]? = some (Cond.methodLink RL 89 yX5_split)))) rfl
theorem ti_yX5_split : Cond.instanceMethod yX5_split ∈ TB := tb (tb2 (List.mem_of_getElem? (i := 218) (rfl : tables_1_2[218]? = some (Cond.instanceMethod yX5_split)))) rfl
theorem ts_yX5_split : Cond.selects RX5 yX5_split yX5_split ∈ TB := tb (tb2 (List.mem_of_getElem? (i := 219) (rfl : tables_1_2[219]? = some (Cond.selects RX5 yX5_split yX5_split)))) rfl
theorem tc_yX5_split : Cond.code yX5_split cX5_split 4 (some .int) ∈ TB := tb (tb2 (List.mem_of_getElem? (i := 220) (rfl : tables_1_2[220]? = some (Cond.code yX5_split cX5_split 4 (some .int))))) rfl
theorem tm_X5_222 : Cond.methodLink RX5 222 arraycopyName ∈ TB := tb (tb2 (List.mem_of_getElem? (i := 221) (rfl : tables_1_2[221]? = some (Cond.methodLink RX5 222 arraycopyName)))) rfl
theorem tt_arraycopyName : Cond.static arraycopyName ∈ TB := tb (tb2 (List.mem_of_getElem? (i := 222) (rfl : tables_1_2[222]? = some (Cond.static arraycopyName)))) rfl
theorem tna_arraycopyName : Cond.native arraycopyName ∈ TB := tb (tb2 (List.mem_of_getElem? (i := 223) (rfl : tables_1_2[223]? = some (Cond.native arraycopyName)))) rfl
theorem tm_X5_228 : Cond.methodLink RX5 228 yX5_unlikeFirstView ∈ TB := tb (tb2 (List.mem_of_getElem? (i := 224) (rfl : tables_1_2[224]? = some (Cond.methodLink RX5 228 yX5_unlikeFirstView)))) rfl
theorem ti_yX5_unlikeFirstView : Cond.instanceMethod yX5_unlikeFirstView ∈ TB := tb (tb2 (List.mem_of_getElem? (i := 226) (rfl : tables_1_2[226]? = some (Cond.instanceMethod yX5_unlikeFirstView)))) rfl
theorem tc_yX5_unlikeFirstView : Cond.code yX5_unlikeFirstView cX5_unlikeFirstView 3 (some .int) ∈ TB := tb (tb2 (List.mem_of_getElem? (i := 227) (rfl : tables_1_2[227]? = some (Cond.code yX5_unlikeFirstView cX5_unlikeFirstView 3 (some .int))))) rfl
theorem tm_L_94 : Cond.methodLink RL 94 yX5_ban ∈ TB := tb (tb2 (List.mem_of_getElem? (i := 228) (rfl : tables_1_2[228]? = some (Cond.methodLink RL 94 yX5_ban)))) rfl
theorem ti_yX5_ban : Cond.instanceMethod yX5_ban ∈ TB := tb (tb2 (List.mem_of_getElem? (i := 229) (rfl : tables_1_2[229]? = some (Cond.instanceMethod yX5_ban)))) rfl
theorem ts_yX5_ban : Cond.selects RX5 yX5_ban yX5_ban ∈ TB := tb (tb2 (List.mem_of_getElem? (i := 230) (rfl : tables_1_2[230]? = some (Cond.selects RX5 yX5_ban yX5_ban)))) rfl
theorem tc_yX5_ban : Cond.code yX5_ban cX5_ban 3 (some .int) ∈ TB := tb (tb2 (List.mem_of_getElem? (i := 231) (rfl : tables_1_2[231]? = some (Cond.code yX5_ban cX5_ban 3 (some .int))))) rfl
theorem tm_L_98 : Cond.methodLink RL 98 yX5_feast ∈ TB := tb (tb2 (List.mem_of_getElem? (i := 232) (rfl : tables_1_2[232]? = some (Cond.methodLink RL 98 yX5_feast)))) rfl
theorem ti_yX5_feast : Cond.instanceMethod yX5_feast ∈ TB := tb (tb2 (List.mem_of_getElem? (i := 233) (rfl : tables_1_2[233]? = some (Cond.instanceMethod yX5_feast)))) rfl
theorem ts_yX5_feast : Cond.selects RX5 yX5_feast yX5_feast ∈ TB := tb (tb2 (List.mem_of_getElem? (i := 234) (rfl : tables_1_2[234]? = some (Cond.selects RX5 yX5_feast yX5_feast)))) rfl
theorem tc_yX5_feast : Cond.code yX5_feast cX5_feast 8 (some .int) ∈ TB := tb (tb2 (List.mem_of_getElem? (i := 235) (rfl : tables_1_2[235]? = some (Cond.code yX5_feast cX5_feast 8 (some .int))))) rfl
theorem tm_X5_232 : Cond.methodLink RX5 232 yX5_tellableBy ∈ TB := tb (tb2 (List.mem_of_getElem? (i := 236) (rfl : tables_1_2[236]? = some (Cond.methodLink RX5 232 yX5_tellableBy)))) rfl
theorem ti_yX5_tellableBy : Cond.instanceMethod yX5_tellableBy ∈ TB := tb (tb2 (List.mem_of_getElem? (i := 238) (rfl : tables_1_2[238]? = some (Cond.instanceMethod yX5_tellableBy)))) rfl
theorem tc_yX5_tellableBy : Cond.code yX5_tellableBy cX5_tellableBy 6 (some .long) ∈ TB := tb (tb2 (List.mem_of_getElem? (i := 239) (rfl : tables_1_2[239]? = some (Cond.code yX5_tellableBy cX5_tellableBy 6 (some .long))))) rfl
theorem tm_X5_236 : Cond.methodLink RX5 236 yX5_spread ∈ TB := tb (tb3 (List.mem_of_getElem? (i := 0) (rfl : tables_1_3[0]? = some (Cond.methodLink RX5 236 yX5_spread)))) rfl
theorem ti_yX5_spread : Cond.instanceMethod yX5_spread ∈ TB := tb (tb3 (List.mem_of_getElem? (i := 2) (rfl : tables_1_3[2]? = some (Cond.instanceMethod yX5_spread)))) rfl
theorem tc_yX5_spread : Cond.code yX5_spread cX5_spread 7 (some .int) ∈ TB := tb (tb3 (List.mem_of_getElem? (i := 3) (rfl : tables_1_3[3]? = some (Cond.code yX5_spread cX5_spread 7 (some .int))))) rfl
theorem tm_L_102 : Cond.methodLink RL 102 yX5_kept ∈ TB := tb (tb3 (List.mem_of_getElem? (i := 4) (rfl : tables_1_3[4]? = some (Cond.methodLink RL 102 yX5_kept)))) rfl
theorem ti_yX5_kept : Cond.instanceMethod yX5_kept ∈ TB := tb (tb3 (List.mem_of_getElem? (i := 5) (rfl : tables_1_3[5]? = some (Cond.instanceMethod yX5_kept)))) rfl
theorem ts_yX5_kept : Cond.selects RX5 yX5_kept yX5_kept ∈ TB := tb (tb3 (List.mem_of_getElem? (i := 6) (rfl : tables_1_3[6]? = some (Cond.selects RX5 yX5_kept yX5_kept)))) rfl
theorem tc_yX5_kept : Cond.code yX5_kept cX5_kept 2 (some .int) ∈ TB := tb (tb3 (List.mem_of_getElem? (i := 7) (rfl : tables_1_3[7]? = some (Cond.code yX5_kept cX5_kept 2 (some .int))))) rfl
theorem tm_L_106 : Cond.methodLink RL 106 yX5_fewest ∈ TB := tb (tb3 (List.mem_of_getElem? (i := 8) (rfl : tables_1_3[8]? = some (Cond.methodLink RL 106 yX5_fewest)))) rfl
theorem ti_yX5_fewest : Cond.instanceMethod yX5_fewest ∈ TB := tb (tb3 (List.mem_of_getElem? (i := 9) (rfl : tables_1_3[9]? = some (Cond.instanceMethod yX5_fewest)))) rfl
theorem ts_yX5_fewest : Cond.selects RX5 yX5_fewest yX5_fewest ∈ TB := tb (tb3 (List.mem_of_getElem? (i := 10) (rfl : tables_1_3[10]? = some (Cond.selects RX5 yX5_fewest yX5_fewest)))) rfl
theorem tc_yX5_fewest : Cond.code yX5_fewest cX5_fewest 2 (some .int) ∈ TB := tb (tb3 (List.mem_of_getElem? (i := 11) (rfl : tables_1_3[11]? = some (Cond.code yX5_fewest cX5_fewest 2 (some .int))))) rfl
theorem tm_X5_242 : Cond.methodLink RX5 242 yX5_findFewest ∈ TB := tb (tb3 (List.mem_of_getElem? (i := 12) (rfl : tables_1_3[12]? = some (Cond.methodLink RX5 242 yX5_findFewest)))) rfl
theorem ti_yX5_findFewest : Cond.instanceMethod yX5_findFewest ∈ TB := tb (tb3 (List.mem_of_getElem? (i := 14) (rfl : tables_1_3[14]? = some (Cond.instanceMethod yX5_findFewest)))) rfl
theorem tc_yX5_findFewest : Cond.code yX5_findFewest cX5_findFewest 5 (some .int) ∈ TB := tb (tb3 (List.mem_of_getElem? (i := 15) (rfl : tables_1_3[15]? = some (Cond.code yX5_findFewest cX5_findFewest 5 (some .int))))) rfl
theorem tm_X5_305 : Cond.methodLink RX5 305 yX2_knownToAllLiving ∈ TB := tb (tb3 (List.mem_of_getElem? (i := 16) (rfl : tables_1_3[16]? = some (Cond.methodLink RX5 305 yX2_knownToAllLiving)))) rfl
theorem ti_yX2_knownToAllLiving : Cond.instanceMethod yX2_knownToAllLiving ∈ TB := tb (tb3 (List.mem_of_getElem? (i := 17) (rfl : tables_1_3[17]? = some (Cond.instanceMethod yX2_knownToAllLiving)))) rfl
theorem ts_yX2_knownToAllLiving : Cond.selects RX2 yX2_knownToAllLiving yX2_knownToAllLiving ∈ TB := tb (tb3 (List.mem_of_getElem? (i := 18) (rfl : tables_1_3[18]? = some (Cond.selects RX2 yX2_knownToAllLiving yX2_knownToAllLiving)))) rfl
theorem tc_yX2_knownToAllLiving : Cond.code yX2_knownToAllLiving cX2_knownToAllLiving 4 (some .long) ∈ TB := tb (tb3 (List.mem_of_getElem? (i := 19) (rfl : tables_1_3[19]? = some (Cond.code yX2_knownToAllLiving cX2_knownToAllLiving 4 (some .long))))) rfl
theorem tm_X5_308 : Cond.methodLink RX5 308 yX5_findTellers ∈ TB := tb (tb3 (List.mem_of_getElem? (i := 20) (rfl : tables_1_3[20]? = some (Cond.methodLink RX5 308 yX5_findTellers)))) rfl
theorem tt_yX5_findTellers : Cond.static yX5_findTellers ∈ TB := tb (tb3 (List.mem_of_getElem? (i := 21) (rfl : tables_1_3[21]? = some (Cond.static yX5_findTellers)))) rfl
theorem tc_yX5_findTellers : Cond.code yX5_findTellers cX5_findTellers 8 (some .boolean) ∈ TB := tb (tb3 (List.mem_of_getElem? (i := 22) (rfl : tables_1_3[22]? = some (Cond.code yX5_findTellers cX5_findTellers 8 (some .boolean))))) rfl
theorem tm_L_110 : Cond.methodLink RL 110 yX5_teller ∈ TB := tb (tb3 (List.mem_of_getElem? (i := 23) (rfl : tables_1_3[23]? = some (Cond.methodLink RL 110 yX5_teller)))) rfl
theorem ti_yX5_teller : Cond.instanceMethod yX5_teller ∈ TB := tb (tb3 (List.mem_of_getElem? (i := 24) (rfl : tables_1_3[24]? = some (Cond.instanceMethod yX5_teller)))) rfl
theorem ts_yX5_teller : Cond.selects RX5 yX5_teller yX5_teller ∈ TB := tb (tb3 (List.mem_of_getElem? (i := 25) (rfl : tables_1_3[25]? = some (Cond.selects RX5 yX5_teller yX5_teller)))) rfl
theorem tc_yX5_teller : Cond.code yX5_teller cX5_teller 4 (some .int) ∈ TB := tb (tb3 (List.mem_of_getElem? (i := 26) (rfl : tables_1_3[26]? = some (Cond.code yX5_teller cX5_teller 4 (some .int))))) rfl
theorem tm_L_114 : Cond.methodLink RL 114 yX5_count ∈ TB := tb (tb3 (List.mem_of_getElem? (i := 27) (rfl : tables_1_3[27]? = some (Cond.methodLink RL 114 yX5_count)))) rfl
theorem ti_yX5_count : Cond.instanceMethod yX5_count ∈ TB := tb (tb3 (List.mem_of_getElem? (i := 28) (rfl : tables_1_3[28]? = some (Cond.instanceMethod yX5_count)))) rfl
theorem ts_yX5_count : Cond.selects RX5 yX5_count yX5_count ∈ TB := tb (tb3 (List.mem_of_getElem? (i := 29) (rfl : tables_1_3[29]? = some (Cond.selects RX5 yX5_count yX5_count)))) rfl
theorem tc_yX5_count : Cond.code yX5_count cX5_count 2 (some .int) ∈ TB := tb (tb3 (List.mem_of_getElem? (i := 30) (rfl : tables_1_3[30]? = some (Cond.code yX5_count cX5_count 2 (some .int))))) rfl
theorem tm_X5_248 : Cond.methodLink RX5 248 yJ6_bitCount_0f7a4 ∈ TB := tb (tb3 (List.mem_of_getElem? (i := 31) (rfl : tables_1_3[31]? = some (Cond.methodLink RX5 248 yJ6_bitCount_0f7a4)))) rfl
theorem tm_X5_255 : Cond.methodLink RX5 255 yX4_sunken ∈ TB := tb (tb3 (List.mem_of_getElem? (i := 32) (rfl : tables_1_3[32]? = some (Cond.methodLink RX5 255 yX4_sunken)))) rfl
theorem ti_yX4_sunken : Cond.instanceMethod yX4_sunken ∈ TB := tb (tb3 (List.mem_of_getElem? (i := 33) (rfl : tables_1_3[33]? = some (Cond.instanceMethod yX4_sunken)))) rfl
theorem ts_yX4_sunken : Cond.selects RX4 yX4_sunken yX4_sunken ∈ TB := tb (tb3 (List.mem_of_getElem? (i := 34) (rfl : tables_1_3[34]? = some (Cond.selects RX4 yX4_sunken yX4_sunken)))) rfl
theorem tc_yX4_sunken : Cond.code yX4_sunken cX4_sunken 3 (some .int) ∈ TB := tb (tb3 (List.mem_of_getElem? (i := 35) (rfl : tables_1_3[35]? = some (Cond.code yX4_sunken cX4_sunken 3 (some .int))))) rfl
theorem tm_X5_258 : Cond.methodLink RX5 258 yX4_crossed ∈ TB := tb (tb3 (List.mem_of_getElem? (i := 36) (rfl : tables_1_3[36]? = some (Cond.methodLink RX5 258 yX4_crossed)))) rfl
theorem ti_yX4_crossed : Cond.instanceMethod yX4_crossed ∈ TB := tb (tb3 (List.mem_of_getElem? (i := 37) (rfl : tables_1_3[37]? = some (Cond.instanceMethod yX4_crossed)))) rfl
theorem ts_yX4_crossed : Cond.selects RX4 yX4_crossed yX4_crossed ∈ TB := tb (tb3 (List.mem_of_getElem? (i := 38) (rfl : tables_1_3[38]? = some (Cond.selects RX4 yX4_crossed yX4_crossed)))) rfl
theorem tc_yX4_crossed : Cond.code yX4_crossed cX4_crossed 3 (some .int) ∈ TB := tb (tb3 (List.mem_of_getElem? (i := 39) (rfl : tables_1_3[39]? = some (Cond.code yX4_crossed cX4_crossed 3 (some .int))))) rfl
theorem tm_L_118 : Cond.methodLink RL 118 yX5_cross ∈ TB := tb (tb3 (List.mem_of_getElem? (i := 40) (rfl : tables_1_3[40]? = some (Cond.methodLink RL 118 yX5_cross)))) rfl
theorem ti_yX5_cross : Cond.instanceMethod yX5_cross ∈ TB := tb (tb3 (List.mem_of_getElem? (i := 41) (rfl : tables_1_3[41]? = some (Cond.instanceMethod yX5_cross)))) rfl
theorem ts_yX5_cross : Cond.selects RX5 yX5_cross yX5_cross ∈ TB := tb (tb3 (List.mem_of_getElem? (i := 42) (rfl : tables_1_3[42]? = some (Cond.selects RX5 yX5_cross yX5_cross)))) rfl
theorem tc_yX5_cross : Cond.code yX5_cross cX5_cross 2 (some .int) ∈ TB := tb (tb3 (List.mem_of_getElem? (i := 43) (rfl : tables_1_3[43]? = some (Cond.code yX5_cross cX5_cross 2 (some .int))))) rfl
theorem tm_L_122 : Cond.methodLink RL 122 yX5_works ∈ TB := tb (tb3 (List.mem_of_getElem? (i := 44) (rfl : tables_1_3[44]? = some (Cond.methodLink RL 122 yX5_works)))) rfl
theorem ti_yX5_works : Cond.instanceMethod yX5_works ∈ TB := tb (tb3 (List.mem_of_getElem? (i := 45) (rfl : tables_1_3[45]? = some (Cond.instanceMethod yX5_works)))) rfl
theorem ts_yX5_works : Cond.selects RX5 yX5_works yX5_works ∈ TB := tb (tb3 (List.mem_of_getElem? (i := 46) (rfl : tables_1_3[46]? = some (Cond.selects RX5 yX5_works yX5_works)))) rfl
theorem tc_yX5_works : Cond.code yX5_works cX5_works 5 (some .int) ∈ TB := tb (tb3 (List.mem_of_getElem? (i := 47) (rfl : tables_1_3[47]? = some (Cond.code yX5_works cX5_works 5 (some .int))))) rfl
theorem tm_L_126 : Cond.methodLink RL 126 yX5_worked ∈ TB := tb (tb3 (List.mem_of_getElem? (i := 48) (rfl : tables_1_3[48]? = some (Cond.methodLink RL 126 yX5_worked)))) rfl
theorem ti_yX5_worked : Cond.instanceMethod yX5_worked ∈ TB := tb (tb3 (List.mem_of_getElem? (i := 49) (rfl : tables_1_3[49]? = some (Cond.instanceMethod yX5_worked)))) rfl
theorem ts_yX5_worked : Cond.selects RX5 yX5_worked yX5_worked ∈ TB := tb (tb3 (List.mem_of_getElem? (i := 50) (rfl : tables_1_3[50]? = some (Cond.selects RX5 yX5_worked yX5_worked)))) rfl
theorem tc_yX5_worked : Cond.code yX5_worked cX5_worked 2 (some .int) ∈ TB := tb (tb3 (List.mem_of_getElem? (i := 51) (rfl : tables_1_3[51]? = some (Cond.code yX5_worked cX5_worked 2 (some .int))))) rfl
theorem tm_L_130 : Cond.methodLink RL 130 yX5_sheet ∈ TB := tb (tb3 (List.mem_of_getElem? (i := 52) (rfl : tables_1_3[52]? = some (Cond.methodLink RL 130 yX5_sheet)))) rfl
theorem ti_yX5_sheet : Cond.instanceMethod yX5_sheet ∈ TB := tb (tb3 (List.mem_of_getElem? (i := 53) (rfl : tables_1_3[53]? = some (Cond.instanceMethod yX5_sheet)))) rfl
theorem ts_yX5_sheet : Cond.selects RX5 yX5_sheet yX5_sheet ∈ TB := tb (tb3 (List.mem_of_getElem? (i := 54) (rfl : tables_1_3[54]? = some (Cond.selects RX5 yX5_sheet yX5_sheet)))) rfl
theorem tc_yX5_sheet : Cond.code yX5_sheet cX5_sheet 4 (some .int) ∈ TB := tb (tb3 (List.mem_of_getElem? (i := 55) (rfl : tables_1_3[55]? = some (Cond.code yX5_sheet cX5_sheet 4 (some .int))))) rfl
theorem tm_X5_270 : Cond.methodLink RX5 270 yX5_isSheet ∈ TB := tb (tb3 (List.mem_of_getElem? (i := 56) (rfl : tables_1_3[56]? = some (Cond.methodLink RX5 270 yX5_isSheet)))) rfl
theorem tt_yX5_isSheet : Cond.static yX5_isSheet ∈ TB := tb (tb3 (List.mem_of_getElem? (i := 57) (rfl : tables_1_3[57]? = some (Cond.static yX5_isSheet)))) rfl
theorem tc_yX5_isSheet : Cond.code yX5_isSheet cX5_isSheet 1 (some .boolean) ∈ TB := tb (tb3 (List.mem_of_getElem? (i := 58) (rfl : tables_1_3[58]? = some (Cond.code yX5_isSheet cX5_isSheet 1 (some .boolean))))) rfl
theorem tm_X5_273 : Cond.methodLink RX5 273 yX5_isLane ∈ TB := tb (tb3 (List.mem_of_getElem? (i := 59) (rfl : tables_1_3[59]? = some (Cond.methodLink RX5 273 yX5_isLane)))) rfl
theorem tt_yX5_isLane : Cond.static yX5_isLane ∈ TB := tb (tb3 (List.mem_of_getElem? (i := 60) (rfl : tables_1_3[60]? = some (Cond.static yX5_isLane)))) rfl
theorem tc_yX5_isLane : Cond.code yX5_isLane cX5_isLane 1 (some .boolean) ∈ TB := tb (tb3 (List.mem_of_getElem? (i := 61) (rfl : tables_1_3[61]? = some (Cond.code yX5_isLane cX5_isLane 1 (some .boolean))))) rfl
theorem tm_X5_276 : Cond.methodLink RX5 276 yX3_renew ∈ TB := tb (tb3 (List.mem_of_getElem? (i := 62) (rfl : tables_1_3[62]? = some (Cond.methodLink RX5 276 yX3_renew)))) rfl
theorem ti_yX3_renew : Cond.instanceMethod yX3_renew ∈ TB := tb (tb3 (List.mem_of_getElem? (i := 63) (rfl : tables_1_3[63]? = some (Cond.instanceMethod yX3_renew)))) rfl
theorem ts_yX3_renew : Cond.selects RX3 yX3_renew yX3_renew ∈ TB := tb (tb3 (List.mem_of_getElem? (i := 64) (rfl : tables_1_3[64]? = some (Cond.selects RX3 yX3_renew yX3_renew)))) rfl
theorem tc_yX3_renew : Cond.code yX3_renew cX3_renew 5 none ∈ TB := tb (tb3 (List.mem_of_getElem? (i := 65) (rfl : tables_1_3[65]? = some (Cond.code yX3_renew cX3_renew 5 none)))) rfl
theorem tm_L_134 : Cond.methodLink RL 134 yX5_drop ∈ TB := tb (tb3 (List.mem_of_getElem? (i := 66) (rfl : tables_1_3[66]? = some (Cond.methodLink RL 134 yX5_drop)))) rfl
theorem ti_yX5_drop : Cond.instanceMethod yX5_drop ∈ TB := tb (tb3 (List.mem_of_getElem? (i := 67) (rfl : tables_1_3[67]? = some (Cond.instanceMethod yX5_drop)))) rfl
theorem ts_yX5_drop : Cond.selects RX5 yX5_drop yX5_drop ∈ TB := tb (tb3 (List.mem_of_getElem? (i := 68) (rfl : tables_1_3[68]? = some (Cond.selects RX5 yX5_drop yX5_drop)))) rfl
theorem tc_yX5_drop : Cond.code yX5_drop cX5_drop 2 (some .int) ∈ TB := tb (tb3 (List.mem_of_getElem? (i := 69) (rfl : tables_1_3[69]? = some (Cond.code yX5_drop cX5_drop 2 (some .int))))) rfl
theorem tm_L_138 : Cond.methodLink RL 138 yX5_item ∈ TB := tb (tb3 (List.mem_of_getElem? (i := 70) (rfl : tables_1_3[70]? = some (Cond.methodLink RL 138 yX5_item)))) rfl
theorem ti_yX5_item : Cond.instanceMethod yX5_item ∈ TB := tb (tb3 (List.mem_of_getElem? (i := 71) (rfl : tables_1_3[71]? = some (Cond.instanceMethod yX5_item)))) rfl
theorem ts_yX5_item : Cond.selects RX5 yX5_item yX5_item ∈ TB := tb (tb3 (List.mem_of_getElem? (i := 72) (rfl : tables_1_3[72]? = some (Cond.selects RX5 yX5_item yX5_item)))) rfl
theorem tc_yX5_item : Cond.code yX5_item cX5_item 6 (some .int) ∈ TB := tb (tb3 (List.mem_of_getElem? (i := 73) (rfl : tables_1_3[73]? = some (Cond.code yX5_item cX5_item 6 (some .int))))) rfl
theorem tm_X5_286 : Cond.methodLink RX5 286 yX5_refusalOfRow ∈ TB := tb (tb3 (List.mem_of_getElem? (i := 74) (rfl : tables_1_3[74]? = some (Cond.methodLink RX5 286 yX5_refusalOfRow)))) rfl
theorem ti_yX5_refusalOfRow : Cond.instanceMethod yX5_refusalOfRow ∈ TB := tb (tb3 (List.mem_of_getElem? (i := 76) (rfl : tables_1_3[76]? = some (Cond.instanceMethod yX5_refusalOfRow)))) rfl
theorem tc_yX5_refusalOfRow : Cond.code yX5_refusalOfRow cX5_refusalOfRow 3 (some .int) ∈ TB := tb (tb3 (List.mem_of_getElem? (i := 77) (rfl : tables_1_3[77]? = some (Cond.code yX5_refusalOfRow cX5_refusalOfRow 3 (some .int))))) rfl
theorem tm_X5_289 : Cond.methodLink RX5 289 yX3_write ∈ TB := tb (tb3 (List.mem_of_getElem? (i := 78) (rfl : tables_1_3[78]? = some (Cond.methodLink RX5 289 yX3_write)))) rfl
theorem ti_yX3_write : Cond.instanceMethod yX3_write ∈ TB := tb (tb3 (List.mem_of_getElem? (i := 79) (rfl : tables_1_3[79]? = some (Cond.instanceMethod yX3_write)))) rfl
theorem ts_yX3_write : Cond.selects RX3 yX3_write yX3_write ∈ TB := tb (tb3 (List.mem_of_getElem? (i := 80) (rfl : tables_1_3[80]? = some (Cond.selects RX3 yX3_write yX3_write)))) rfl
theorem tc_yX3_write : Cond.code yX3_write cX3_write 5 none ∈ TB := tb (tb3 (List.mem_of_getElem? (i := 81) (rfl : tables_1_3[81]? = some (Cond.code yX3_write cX3_write 5 none)))) rfl
theorem tm_L_143 : Cond.methodLink RL 143 yX5_acts ∈ TB := tb (tb3 (List.mem_of_getElem? (i := 82) (rfl : tables_1_3[82]? = some (Cond.methodLink RL 143 yX5_acts)))) rfl
theorem ti_yX5_acts : Cond.instanceMethod yX5_acts ∈ TB := tb (tb3 (List.mem_of_getElem? (i := 83) (rfl : tables_1_3[83]? = some (Cond.instanceMethod yX5_acts)))) rfl
theorem ts_yX5_acts : Cond.selects RX5 yX5_acts yX5_acts ∈ TB := tb (tb3 (List.mem_of_getElem? (i := 84) (rfl : tables_1_3[84]? = some (Cond.selects RX5 yX5_acts yX5_acts)))) rfl
theorem tc_yX5_acts : Cond.code yX5_acts cX5_acts 7 (some .int) ∈ TB := tb (tb3 (List.mem_of_getElem? (i := 85) (rfl : tables_1_3[85]? = some (Cond.code yX5_acts cX5_acts 7 (some .int))))) rfl
theorem tm_X5_292 : Cond.methodLink RX5 292 yX5_actFromSheet ∈ TB := tb (tb3 (List.mem_of_getElem? (i := 86) (rfl : tables_1_3[86]? = some (Cond.methodLink RX5 292 yX5_actFromSheet)))) rfl
theorem ti_yX5_actFromSheet : Cond.instanceMethod yX5_actFromSheet ∈ TB := tb (tb3 (List.mem_of_getElem? (i := 88) (rfl : tables_1_3[88]? = some (Cond.instanceMethod yX5_actFromSheet)))) rfl
theorem tc_yX5_actFromSheet : Cond.code yX5_actFromSheet cX5_actFromSheet 5 (some .int) ∈ TB := tb (tb3 (List.mem_of_getElem? (i := 89) (rfl : tables_1_3[89]? = some (Cond.code yX5_actFromSheet cX5_actFromSheet 5 (some .int))))) rfl
theorem tm_X5_318 : Cond.methodLink RX5 318 yX5_act ∈ TB := tb (tb3 (List.mem_of_getElem? (i := 90) (rfl : tables_1_3[90]? = some (Cond.methodLink RX5 318 yX5_act)))) rfl
theorem tcl_L_10 : Cond.classLink RL 10 RX6 ∈ TB := tb (tb3 (List.mem_of_getElem? (i := 91) (rfl : tables_1_3[91]? = some (Cond.classLink RL 10 RX6)))) rfl
theorem tin_X6 : Cond.instantiable RX6 33 ∈ TB := tb (tb3 (List.mem_of_getElem? (i := 92) (rfl : tables_1_3[92]? = some (Cond.instantiable RX6 33)))) rfl
theorem tm_L_12 : Cond.methodLink RL 12 yX6_init ∈ TB := tb (tb3 (List.mem_of_getElem? (i := 93) (rfl : tables_1_3[93]? = some (Cond.methodLink RL 12 yX6_init)))) rfl
theorem ti_yX6_init : Cond.instanceMethod yX6_init ∈ TB := tb (tb3 (List.mem_of_getElem? (i := 94) (rfl : tables_1_3[94]? = some (Cond.instanceMethod yX6_init)))) rfl
theorem tc_yX6_init : Cond.code yX6_init cX6_init 2 none ∈ TB := tb (tb3 (List.mem_of_getElem? (i := 95) (rfl : tables_1_3[95]? = some (Cond.code yX6_init cX6_init 2 none)))) rfl
theorem tm_X6_1 : Cond.methodLink RX6 1 objectInit ∈ TB := tb (tb3 (List.mem_of_getElem? (i := 96) (rfl : tables_1_3[96]? = some (Cond.methodLink RX6 1 objectInit)))) rfl
theorem tf_X6_83 : Cond.fieldLink RX6 83 "StoneVillageModel" "people" "I" ∈ TB := tb (tb3 (List.mem_of_getElem? (i := 97) (rfl : tables_1_3[97]? = some (Cond.fieldLink RX6 83 "StoneVillageModel" "people" "I")))) rfl
theorem tf_X6_99 : Cond.fieldLink RX6 99 "StoneVillageModel" "now" "I" ∈ TB := tb (tb3 (List.mem_of_getElem? (i := 98) (rfl : tables_1_3[98]? = some (Cond.fieldLink RX6 99 "StoneVillageModel" "now" "I")))) rfl
theorem tf_X6_7 : Cond.fieldLink RX6 7 "StoneVillageModel" "ages" "[I" ∈ TB := tb (tb3 (List.mem_of_getElem? (i := 99) (rfl : tables_1_3[99]? = some (Cond.fieldLink RX6 7 "StoneVillageModel" "ages" "[I")))) rfl
theorem tf_X6_13 : Cond.fieldLink RX6 13 "StoneVillageModel" "lives" "[Z" ∈ TB := tb (tb3 (List.mem_of_getElem? (i := 100) (rfl : tables_1_3[100]? = some (Cond.fieldLink RX6 13 "StoneVillageModel" "lives" "[Z")))) rfl
theorem tf_X6_17 : Cond.fieldLink RX6 17 "StoneVillageModel" "days" "[I" ∈ TB := tb (tb3 (List.mem_of_getElem? (i := 101) (rfl : tables_1_3[101]? = some (Cond.fieldLink RX6 17 "StoneVillageModel" "days" "[I")))) rfl
theorem tf_X6_20 : Cond.fieldLink RX6 20 "StoneVillageModel" "depths" "[I" ∈ TB := tb (tb3 (List.mem_of_getElem? (i := 102) (rfl : tables_1_3[102]? = some (Cond.fieldLink RX6 20 "StoneVillageModel" "depths" "[I")))) rfl
theorem tf_X6_120 : Cond.fieldLink RX6 120 "StoneVillageModel" "stones" "I" ∈ TB := tb (tb3 (List.mem_of_getElem? (i := 103) (rfl : tables_1_3[103]? = some (Cond.fieldLink RX6 120 "StoneVillageModel" "stones" "I")))) rfl
theorem tf_X6_23 : Cond.fieldLink RX6 23 "StoneVillageModel" "sizes" "[I" ∈ TB := tb (tb3 (List.mem_of_getElem? (i := 104) (rfl : tables_1_3[104]? = some (Cond.fieldLink RX6 23 "StoneVillageModel" "sizes" "[I")))) rfl
theorem tf_X6_26 : Cond.fieldLink RX6 26 "StoneVillageModel" "places" "[I" ∈ TB := tb (tb3 (List.mem_of_getElem? (i := 105) (rfl : tables_1_3[105]? = some (Cond.fieldLink RX6 26 "StoneVillageModel" "places" "[I")))) rfl
theorem tf_X6_29 : Cond.fieldLink RX6 29 "StoneVillageModel" "owed" "[I" ∈ TB := tb (tb3 (List.mem_of_getElem? (i := 106) (rfl : tables_1_3[106]? = some (Cond.fieldLink RX6 29 "StoneVillageModel" "owed" "[I")))) rfl
theorem tf_X6_106 : Cond.fieldLink RX6 106 "StoneVillageModel" "acts" "I" ∈ TB := tb (tb3 (List.mem_of_getElem? (i := 107) (rfl : tables_1_3[107]? = some (Cond.fieldLink RX6 106 "StoneVillageModel" "acts" "I")))) rfl
theorem tf_X6_32 : Cond.fieldLink RX6 32 "StoneVillageModel" "kinds" "[I" ∈ TB := tb (tb3 (List.mem_of_getElem? (i := 108) (rfl : tables_1_3[108]? = some (Cond.fieldLink RX6 32 "StoneVillageModel" "kinds" "[I")))) rfl
theorem tf_X6_35 : Cond.fieldLink RX6 35 "StoneVillageModel" "of" "[I" ∈ TB := tb (tb3 (List.mem_of_getElem? (i := 109) (rfl : tables_1_3[109]? = some (Cond.fieldLink RX6 35 "StoneVillageModel" "of" "[I")))) rfl
theorem tf_X6_38 : Cond.fieldLink RX6 38 "StoneVillageModel" "doers" "[I" ∈ TB := tb (tb3 (List.mem_of_getElem? (i := 110) (rfl : tables_1_3[110]? = some (Cond.fieldLink RX6 38 "StoneVillageModel" "doers" "[I")))) rfl
theorem tf_X6_41 : Cond.fieldLink RX6 41 "StoneVillageModel" "others" "[I" ∈ TB := tb (tb3 (List.mem_of_getElem? (i := 111) (rfl : tables_1_3[111]? = some (Cond.fieldLink RX6 41 "StoneVillageModel" "others" "[I")))) rfl
theorem tf_X6_44 : Cond.fieldLink RX6 44 "StoneVillageModel" "numbers" "[I" ∈ TB := tb (tb3 (List.mem_of_getElem? (i := 112) (rfl : tables_1_3[112]? = some (Cond.fieldLink RX6 44 "StoneVillageModel" "numbers" "[I")))) rfl
theorem tf_X6_47 : Cond.fieldLink RX6 47 "StoneVillageModel" "when" "[I" ∈ TB := tb (tb3 (List.mem_of_getElem? (i := 113) (rfl : tables_1_3[113]? = some (Cond.fieldLink RX6 47 "StoneVillageModel" "when" "[I")))) rfl
theorem tf_X6_50 : Cond.fieldLink RX6 50 "StoneVillageModel" "stood" "[I" ∈ TB := tb (tb3 (List.mem_of_getElem? (i := 114) (rfl : tables_1_3[114]? = some (Cond.fieldLink RX6 50 "StoneVillageModel" "stood" "[I")))) rfl
theorem tf_X6_53 : Cond.fieldLink RX6 53 "StoneVillageModel" "isStrong" "[Z" ∈ TB := tb (tb3 (List.mem_of_getElem? (i := 115) (rfl : tables_1_3[115]? = some (Cond.fieldLink RX6 53 "StoneVillageModel" "isStrong" "[Z")))) rfl
theorem tf_X6_160 : Cond.fieldLink RX6 160 "StoneVillageModel" "banned" "I" ∈ TB := tb (tb3 (List.mem_of_getElem? (i := 116) (rfl : tables_1_3[116]? = some (Cond.fieldLink RX6 160 "StoneVillageModel" "banned" "I")))) rfl
theorem tf_X6_56 : Cond.fieldLink RX6 56 "StoneVillageModel" "holding" "[Z" ∈ TB := tb (tb3 (List.mem_of_getElem? (i := 117) (rfl : tables_1_3[117]? = some (Cond.fieldLink RX6 56 "StoneVillageModel" "holding" "[Z")))) rfl
theorem tf_X6_59 : Cond.fieldLink RX6 59 "StoneVillageModel" "isFreed" "[Z" ∈ TB := tb (tb3 (List.mem_of_getElem? (i := 118) (rfl : tables_1_3[118]? = some (Cond.fieldLink RX6 59 "StoneVillageModel" "isFreed" "[Z")))) rfl
theorem tf_X6_62 : Cond.fieldLink RX6 62 "StoneVillageModel" "parts" "[I" ∈ TB := tb (tb3 (List.mem_of_getElem? (i := 119) (rfl : tables_1_3[119]? = some (Cond.fieldLink RX6 62 "StoneVillageModel" "parts" "[I")))) rfl
theorem tf_X6_65 : Cond.fieldLink RX6 65 "StoneVillageModel" "tied" "[I" ∈ TB := tb (tb3 (List.mem_of_getElem? (i := 120) (rfl : tables_1_3[120]? = some (Cond.fieldLink RX6 65 "StoneVillageModel" "tied" "[I")))) rfl
theorem tf_X6_170 : Cond.fieldLink RX6 170 "StoneVillageModel" "hardship" "I" ∈ TB := tb (tb3 (List.mem_of_getElem? (i := 121) (rfl : tables_1_3[121]? = some (Cond.fieldLink RX6 170 "StoneVillageModel" "hardship" "I")))) rfl
theorem tf_X6_173 : Cond.fieldLink RX6 173 "StoneVillageModel" "brides" "I" ∈ TB := tb (tb3 (List.mem_of_getElem? (i := 122) (rfl : tables_1_3[122]? = some (Cond.fieldLink RX6 173 "StoneVillageModel" "brides" "I")))) rfl
theorem tf_X6_192 : Cond.fieldLink RX6 192 "StoneVillageModel" "weightFor" "I" ∈ TB := tb (tb3 (List.mem_of_getElem? (i := 123) (rfl : tables_1_3[123]? = some (Cond.fieldLink RX6 192 "StoneVillageModel" "weightFor" "I")))) rfl
theorem tf_X6_195 : Cond.fieldLink RX6 195 "StoneVillageModel" "nearest" "I" ∈ TB := tb (tb3 (List.mem_of_getElem? (i := 124) (rfl : tables_1_3[124]? = some (Cond.fieldLink RX6 195 "StoneVillageModel" "nearest" "I")))) rfl
theorem tf_X6_68 : Cond.fieldLink RX6 68 "StoneVillageModel" "partsKept" "[I" ∈ TB := tb (tb3 (List.mem_of_getElem? (i := 125) (rfl : tables_1_3[125]? = some (Cond.fieldLink RX6 68 "StoneVillageModel" "partsKept" "[I")))) rfl
theorem tf_X6_71 : Cond.fieldLink RX6 71 "StoneVillageModel" "tellers" "[I" ∈ TB := tb (tb3 (List.mem_of_getElem? (i := 126) (rfl : tables_1_3[126]? = some (Cond.fieldLink RX6 71 "StoneVillageModel" "tellers" "[I")))) rfl
theorem tf_X6_74 : Cond.fieldLink RX6 74 "StoneVillageModel" "lanes" "[I" ∈ TB := tb (tb3 (List.mem_of_getElem? (i := 127) (rfl : tables_1_3[127]? = some (Cond.fieldLink RX6 74 "StoneVillageModel" "lanes" "[I")))) rfl
theorem tf_X6_77 : Cond.fieldLink RX6 77 "StoneVillageModel" "lengths" "[I" ∈ TB := tb (tb3 (List.mem_of_getElem? (i := 128) (rfl : tables_1_3[128]? = some (Cond.fieldLink RX6 77 "StoneVillageModel" "lengths" "[I")))) rfl
theorem tf_X6_80 : Cond.fieldLink RX6 80 "StoneVillageModel" "items" "[I" ∈ TB := tb (tb3 (List.mem_of_getElem? (i := 129) (rfl : tables_1_3[129]? = some (Cond.fieldLink RX6 80 "StoneVillageModel" "items" "[I")))) rfl
theorem tm_L_17 : Cond.methodLink RL 17 yX6_person ∈ TB := tb (tb3 (List.mem_of_getElem? (i := 197) (rfl : tables_1_3[197]? = some (Cond.methodLink RL 17 yX6_person)))) rfl
theorem ti_yX6_person : Cond.instanceMethod yX6_person ∈ TB := tb (tb3 (List.mem_of_getElem? (i := 198) (rfl : tables_1_3[198]? = some (Cond.instanceMethod yX6_person)))) rfl
theorem ts_yX6_person : Cond.selects RX6 yX6_person yX6_person ∈ TB := tb (tb3 (List.mem_of_getElem? (i := 199) (rfl : tables_1_3[199]? = some (Cond.selects RX6 yX6_person yX6_person)))) rfl
theorem tc_yX6_person : Cond.code yX6_person cX6_person 2 (some .int) ∈ TB := tb (tb3 (List.mem_of_getElem? (i := 200) (rfl : tables_1_3[200]? = some (Cond.code yX6_person cX6_person 2 (some .int))))) rfl
theorem tk_X6_95 : Cond.constantLong RX6 95 60 ∈ TB := tb (tb3 (List.mem_of_getElem? (i := 201) (rfl : tables_1_3[201]? = some (Cond.constantLong RX6 95 60)))) rfl
theorem tm_X6_87 : Cond.methodLink RX6 87 yX6_in ∈ TB := tb (tb3 (List.mem_of_getElem? (i := 202) (rfl : tables_1_3[202]? = some (Cond.methodLink RX6 87 yX6_in)))) rfl
theorem tt_yX6_in : Cond.static yX6_in ∈ TB := tb (tb3 (List.mem_of_getElem? (i := 203) (rfl : tables_1_3[203]? = some (Cond.static yX6_in)))) rfl
theorem tc_yX6_in : Cond.code yX6_in cX6_in 6 (some .boolean) ∈ TB := tb (tb3 (List.mem_of_getElem? (i := 204) (rfl : tables_1_3[204]? = some (Cond.code yX6_in cX6_in 6 (some .boolean))))) rfl
theorem tm_L_21 : Cond.methodLink RL 21 yX6_years ∈ TB := tb (tb3 (List.mem_of_getElem? (i := 205) (rfl : tables_1_3[205]? = some (Cond.methodLink RL 21 yX6_years)))) rfl
theorem ti_yX6_years : Cond.instanceMethod yX6_years ∈ TB := tb (tb3 (List.mem_of_getElem? (i := 206) (rfl : tables_1_3[206]? = some (Cond.instanceMethod yX6_years)))) rfl
theorem ts_yX6_years : Cond.selects RX6 yX6_years yX6_years ∈ TB := tb (tb3 (List.mem_of_getElem? (i := 207) (rfl : tables_1_3[207]? = some (Cond.selects RX6 yX6_years yX6_years)))) rfl
theorem tc_yX6_years : Cond.code yX6_years cX6_years 3 (some .int) ∈ TB := tb (tb3 (List.mem_of_getElem? (i := 208) (rfl : tables_1_3[208]? = some (Cond.code yX6_years cX6_years 3 (some .int))))) rfl
theorem tk_X6_97 : Cond.constantLong RX6 97 50 ∈ TB := tb (tb3 (List.mem_of_getElem? (i := 209) (rfl : tables_1_3[209]? = some (Cond.constantLong RX6 97 50)))) rfl
theorem tm_L_25 : Cond.methodLink RL 25 yX6_dies ∈ TB := tb (tb3 (List.mem_of_getElem? (i := 210) (rfl : tables_1_3[210]? = some (Cond.methodLink RL 25 yX6_dies)))) rfl
theorem ti_yX6_dies : Cond.instanceMethod yX6_dies ∈ TB := tb (tb3 (List.mem_of_getElem? (i := 211) (rfl : tables_1_3[211]? = some (Cond.instanceMethod yX6_dies)))) rfl
theorem ts_yX6_dies : Cond.selects RX6 yX6_dies yX6_dies ∈ TB := tb (tb3 (List.mem_of_getElem? (i := 212) (rfl : tables_1_3[212]? = some (Cond.selects RX6 yX6_dies yX6_dies)))) rfl
theorem tc_yX6_dies : Cond.code yX6_dies cX6_dies 4 (some .int) ∈ TB := tb (tb3 (List.mem_of_getElem? (i := 213) (rfl : tables_1_3[213]? = some (Cond.code yX6_dies cX6_dies 4 (some .int))))) rfl
theorem tm_X6_113 : Cond.methodLink RX6 113 yX6_isPerson ∈ TB := tb (tb3 (List.mem_of_getElem? (i := 214) (rfl : tables_1_3[214]? = some (Cond.methodLink RX6 113 yX6_isPerson)))) rfl
theorem ti_yX6_isPerson : Cond.instanceMethod yX6_isPerson ∈ TB := tb (tb3 (List.mem_of_getElem? (i := 216) (rfl : tables_1_3[216]? = some (Cond.instanceMethod yX6_isPerson)))) rfl
theorem tc_yX6_isPerson : Cond.code yX6_isPerson cX6_isPerson 2 (some .boolean) ∈ TB := tb (tb3 (List.mem_of_getElem? (i := 217) (rfl : tables_1_3[217]? = some (Cond.code yX6_isPerson cX6_isPerson 2 (some .boolean))))) rfl
theorem tm_X6_116 : Cond.methodLink RX6 116 yX6_forgotten ∈ TB := tb (tb3 (List.mem_of_getElem? (i := 218) (rfl : tables_1_3[218]? = some (Cond.methodLink RX6 116 yX6_forgotten)))) rfl
theorem ti_yX6_forgotten : Cond.instanceMethod yX6_forgotten ∈ TB := tb (tb3 (List.mem_of_getElem? (i := 220) (rfl : tables_1_3[220]? = some (Cond.instanceMethod yX6_forgotten)))) rfl
theorem tc_yX6_forgotten : Cond.code yX6_forgotten cX6_forgotten 3 (some .int) ∈ TB := tb (tb3 (List.mem_of_getElem? (i := 221) (rfl : tables_1_3[221]? = some (Cond.code yX6_forgotten cX6_forgotten 3 (some .int))))) rfl
theorem tm_X6_109 : Cond.methodLink RX6 109 yX6_knownBy ∈ TB := tb (tb3 (List.mem_of_getElem? (i := 222) (rfl : tables_1_3[222]? = some (Cond.methodLink RX6 109 yX6_knownBy)))) rfl
theorem ti_yX6_knownBy : Cond.instanceMethod yX6_knownBy ∈ TB := tb (tb3 (List.mem_of_getElem? (i := 224) (rfl : tables_1_3[224]? = some (Cond.instanceMethod yX6_knownBy)))) rfl
theorem tc_yX6_knownBy : Cond.code yX6_knownBy cX6_knownBy 4 (some .int) ∈ TB := tb (tb3 (List.mem_of_getElem? (i := 225) (rfl : tables_1_3[225]? = some (Cond.code yX6_knownBy cX6_knownBy 4 (some .int))))) rfl
theorem tm_X6_102 : Cond.methodLink RX6 102 yX6_knowsAct ∈ TB := tb (tb3 (List.mem_of_getElem? (i := 226) (rfl : tables_1_3[226]? = some (Cond.methodLink RX6 102 yX6_knowsAct)))) rfl
theorem ti_yX6_knowsAct : Cond.instanceMethod yX6_knowsAct ∈ TB := tb (tb3 (List.mem_of_getElem? (i := 228) (rfl : tables_1_3[228]? = some (Cond.instanceMethod yX6_knowsAct)))) rfl
theorem tc_yX6_knowsAct : Cond.code yX6_knowsAct cX6_knowsAct 3 (some .boolean) ∈ TB := tb (tb3 (List.mem_of_getElem? (i := 229) (rfl : tables_1_3[229]? = some (Cond.code yX6_knowsAct cX6_knowsAct 3 (some .boolean))))) rfl
theorem tm_L_30 : Cond.methodLink RL 30 yX6_told ∈ TB := tb (tb3 (List.mem_of_getElem? (i := 230) (rfl : tables_1_3[230]? = some (Cond.methodLink RL 30 yX6_told)))) rfl
theorem ti_yX6_told : Cond.instanceMethod yX6_told ∈ TB := tb (tb3 (List.mem_of_getElem? (i := 231) (rfl : tables_1_3[231]? = some (Cond.instanceMethod yX6_told)))) rfl
theorem ts_yX6_told : Cond.selects RX6 yX6_told yX6_told ∈ TB := tb (tb3 (List.mem_of_getElem? (i := 232) (rfl : tables_1_3[232]? = some (Cond.selects RX6 yX6_told yX6_told)))) rfl
theorem tc_yX6_told : Cond.code yX6_told cX6_told 5 (some .int) ∈ TB := tb (tb3 (List.mem_of_getElem? (i := 233) (rfl : tables_1_3[233]? = some (Cond.code yX6_told cX6_told 5 (some .int))))) rfl
theorem tm_X6_91 : Cond.methodLink RX6 91 yX6_isOld ∈ TB := tb (tb3 (List.mem_of_getElem? (i := 234) (rfl : tables_1_3[234]? = some (Cond.methodLink RX6 91 yX6_isOld)))) rfl
theorem ti_yX6_isOld : Cond.instanceMethod yX6_isOld ∈ TB := tb (tb3 (List.mem_of_getElem? (i := 236) (rfl : tables_1_3[236]? = some (Cond.instanceMethod yX6_isOld)))) rfl
theorem tc_yX6_isOld : Cond.code yX6_isOld cX6_isOld 2 (some .boolean) ∈ TB := tb (tb3 (List.mem_of_getElem? (i := 237) (rfl : tables_1_3[237]? = some (Cond.code yX6_isOld cX6_isOld 2 (some .boolean))))) rfl
theorem tm_L_34 : Cond.methodLink RL 34 yX6_stone ∈ TB := tb (tb3 (List.mem_of_getElem? (i := 238) (rfl : tables_1_3[238]? = some (Cond.methodLink RL 34 yX6_stone)))) rfl
theorem ti_yX6_stone : Cond.instanceMethod yX6_stone ∈ TB := tb (tb3 (List.mem_of_getElem? (i := 239) (rfl : tables_1_3[239]? = some (Cond.instanceMethod yX6_stone)))) rfl
theorem ts_yX6_stone : Cond.selects RX6 yX6_stone yX6_stone ∈ TB := tb (tb4 (List.mem_of_getElem? (i := 0) (rfl : tables_1_4[0]? = some (Cond.selects RX6 yX6_stone yX6_stone)))) rfl
theorem tc_yX6_stone : Cond.code yX6_stone cX6_stone 3 (some .int) ∈ TB := tb (tb4 (List.mem_of_getElem? (i := 1) (rfl : tables_1_4[1]? = some (Cond.code yX6_stone cX6_stone 3 (some .int))))) rfl
theorem tk_X6_123 : Cond.constantLong RX6 123 40 ∈ TB := tb (tb4 (List.mem_of_getElem? (i := 2) (rfl : tables_1_4[2]? = some (Cond.constantLong RX6 123 40)))) rfl
theorem tk_X6_125 : Cond.constantLong RX6 125 (-1) ∈ TB := tb (tb4 (List.mem_of_getElem? (i := 3) (rfl : tables_1_4[3]? = some (Cond.constantLong RX6 125 (-1))))) rfl
theorem tk_X6_127 : Cond.constantLong RX6 127 99 ∈ TB := tb (tb4 (List.mem_of_getElem? (i := 4) (rfl : tables_1_4[4]? = some (Cond.constantLong RX6 127 99)))) rfl
theorem tm_L_38 : Cond.methodLink RL 38 yX6_moves ∈ TB := tb (tb4 (List.mem_of_getElem? (i := 5) (rfl : tables_1_4[5]? = some (Cond.methodLink RL 38 yX6_moves)))) rfl
theorem ti_yX6_moves : Cond.instanceMethod yX6_moves ∈ TB := tb (tb4 (List.mem_of_getElem? (i := 6) (rfl : tables_1_4[6]? = some (Cond.instanceMethod yX6_moves)))) rfl
theorem ts_yX6_moves : Cond.selects RX6 yX6_moves yX6_moves ∈ TB := tb (tb4 (List.mem_of_getElem? (i := 7) (rfl : tables_1_4[7]? = some (Cond.selects RX6 yX6_moves yX6_moves)))) rfl
theorem tc_yX6_moves : Cond.code yX6_moves cX6_moves 4 (some .int) ∈ TB := tb (tb4 (List.mem_of_getElem? (i := 8) (rfl : tables_1_4[8]? = some (Cond.code yX6_moves cX6_moves 4 (some .int))))) rfl
theorem tm_X6_129 : Cond.methodLink RX6 129 yX6_isStone ∈ TB := tb (tb4 (List.mem_of_getElem? (i := 9) (rfl : tables_1_4[9]? = some (Cond.methodLink RX6 129 yX6_isStone)))) rfl
theorem ti_yX6_isStone : Cond.instanceMethod yX6_isStone ∈ TB := tb (tb4 (List.mem_of_getElem? (i := 11) (rfl : tables_1_4[11]? = some (Cond.instanceMethod yX6_isStone)))) rfl
theorem tc_yX6_isStone : Cond.code yX6_isStone cX6_isStone 2 (some .boolean) ∈ TB := tb (tb4 (List.mem_of_getElem? (i := 12) (rfl : tables_1_4[12]? = some (Cond.code yX6_isStone cX6_isStone 2 (some .boolean))))) rfl
theorem tm_L_43 : Cond.methodLink RL 43 yX6_act ∈ TB := tb (tb4 (List.mem_of_getElem? (i := 13) (rfl : tables_1_4[13]? = some (Cond.methodLink RL 43 yX6_act)))) rfl
theorem ti_yX6_act : Cond.instanceMethod yX6_act ∈ TB := tb (tb4 (List.mem_of_getElem? (i := 14) (rfl : tables_1_4[14]? = some (Cond.instanceMethod yX6_act)))) rfl
theorem ts_yX6_act : Cond.selects RX6 yX6_act yX6_act ∈ TB := tb (tb4 (List.mem_of_getElem? (i := 15) (rfl : tables_1_4[15]? = some (Cond.selects RX6 yX6_act yX6_act)))) rfl
theorem tc_yX6_act : Cond.code yX6_act cX6_act 10 (some .int) ∈ TB := tb (tb4 (List.mem_of_getElem? (i := 16) (rfl : tables_1_4[16]? = some (Cond.code yX6_act cX6_act 10 (some .int))))) rfl
theorem tm_X6_149 : Cond.methodLink RX6 149 yX6_isAct ∈ TB := tb (tb4 (List.mem_of_getElem? (i := 17) (rfl : tables_1_4[17]? = some (Cond.methodLink RX6 149 yX6_isAct)))) rfl
theorem ti_yX6_isAct : Cond.instanceMethod yX6_isAct ∈ TB := tb (tb4 (List.mem_of_getElem? (i := 19) (rfl : tables_1_4[19]? = some (Cond.instanceMethod yX6_isAct)))) rfl
theorem tc_yX6_isAct : Cond.code yX6_isAct cX6_isAct 7 (some .boolean) ∈ TB := tb (tb4 (List.mem_of_getElem? (i := 20) (rfl : tables_1_4[20]? = some (Cond.code yX6_isAct cX6_isAct 7 (some .boolean))))) rfl
theorem tk_X6_134 : Cond.constantLong RX6 134 6 ∈ TB := tb (tb4 (List.mem_of_getElem? (i := 21) (rfl : tables_1_4[21]? = some (Cond.constantLong RX6 134 6)))) rfl
theorem tm_X6_136 : Cond.methodLink RX6 136 yX6_isAlive ∈ TB := tb (tb4 (List.mem_of_getElem? (i := 22) (rfl : tables_1_4[22]? = some (Cond.methodLink RX6 136 yX6_isAlive)))) rfl
theorem ti_yX6_isAlive : Cond.instanceMethod yX6_isAlive ∈ TB := tb (tb4 (List.mem_of_getElem? (i := 24) (rfl : tables_1_4[24]? = some (Cond.instanceMethod yX6_isAlive)))) rfl
theorem tc_yX6_isAlive : Cond.code yX6_isAlive cX6_isAlive 2 (some .boolean) ∈ TB := tb (tb4 (List.mem_of_getElem? (i := 25) (rfl : tables_1_4[25]? = some (Cond.code yX6_isAlive cX6_isAlive 2 (some .boolean))))) rfl
theorem tm_X6_139 : Cond.methodLink RX6 139 yX6_livingBits ∈ TB := tb (tb4 (List.mem_of_getElem? (i := 26) (rfl : tables_1_4[26]? = some (Cond.methodLink RX6 139 yX6_livingBits)))) rfl
theorem ti_yX6_livingBits : Cond.instanceMethod yX6_livingBits ∈ TB := tb (tb4 (List.mem_of_getElem? (i := 28) (rfl : tables_1_4[28]? = some (Cond.instanceMethod yX6_livingBits)))) rfl
theorem tc_yX6_livingBits : Cond.code yX6_livingBits cX6_livingBits 3 (some .int) ∈ TB := tb (tb4 (List.mem_of_getElem? (i := 29) (rfl : tables_1_4[29]? = some (Cond.code yX6_livingBits cX6_livingBits 3 (some .int))))) rfl
theorem tm_X6_142 : Cond.methodLink RX6 142 yX6_hasGetter ∈ TB := tb (tb4 (List.mem_of_getElem? (i := 30) (rfl : tables_1_4[30]? = some (Cond.methodLink RX6 142 yX6_hasGetter)))) rfl
theorem tt_yX6_hasGetter : Cond.static yX6_hasGetter ∈ TB := tb (tb4 (List.mem_of_getElem? (i := 31) (rfl : tables_1_4[31]? = some (Cond.static yX6_hasGetter)))) rfl
theorem tc_yX6_hasGetter : Cond.code yX6_hasGetter cX6_hasGetter 1 (some .boolean) ∈ TB := tb (tb4 (List.mem_of_getElem? (i := 32) (rfl : tables_1_4[32]? = some (Cond.code yX6_hasGetter cX6_hasGetter 1 (some .boolean))))) rfl
theorem tk_X6_132 : Cond.constantLong RX6 132 3 ∈ TB := tb (tb4 (List.mem_of_getElem? (i := 33) (rfl : tables_1_4[33]? = some (Cond.constantLong RX6 132 3)))) rfl
theorem tk_X6_145 : Cond.constantLong RX6 145 12 ∈ TB := tb (tb4 (List.mem_of_getElem? (i := 34) (rfl : tables_1_4[34]? = some (Cond.constantLong RX6 145 12)))) rfl
theorem tk_X6_147 : Cond.constantLong RX6 147 20 ∈ TB := tb (tb4 (List.mem_of_getElem? (i := 35) (rfl : tables_1_4[35]? = some (Cond.constantLong RX6 147 20)))) rfl
theorem tm_X6_153 : Cond.methodLink RX6 153 yX6_findKnowing ∈ TB := tb (tb4 (List.mem_of_getElem? (i := 36) (rfl : tables_1_4[36]? = some (Cond.methodLink RX6 153 yX6_findKnowing)))) rfl
theorem ti_yX6_findKnowing : Cond.instanceMethod yX6_findKnowing ∈ TB := tb (tb4 (List.mem_of_getElem? (i := 38) (rfl : tables_1_4[38]? = some (Cond.instanceMethod yX6_findKnowing)))) rfl
theorem tc_yX6_findKnowing : Cond.code yX6_findKnowing cX6_findKnowing 5 none ∈ TB := tb (tb4 (List.mem_of_getElem? (i := 39) (rfl : tables_1_4[39]? = some (Cond.code yX6_findKnowing cX6_findKnowing 5 none)))) rfl
theorem tm_X6_176 : Cond.methodLink RX6 176 yX6_isKnown ∈ TB := tb (tb4 (List.mem_of_getElem? (i := 40) (rfl : tables_1_4[40]? = some (Cond.methodLink RX6 176 yX6_isKnown)))) rfl
theorem ti_yX6_isKnown : Cond.instanceMethod yX6_isKnown ∈ TB := tb (tb4 (List.mem_of_getElem? (i := 42) (rfl : tables_1_4[42]? = some (Cond.instanceMethod yX6_isKnown)))) rfl
theorem tc_yX6_isKnown : Cond.code yX6_isKnown cX6_isKnown 5 (some .boolean) ∈ TB := tb (tb4 (List.mem_of_getElem? (i := 43) (rfl : tables_1_4[43]? = some (Cond.code yX6_isKnown cX6_isKnown 5 (some .boolean))))) rfl
theorem tm_X6_157 : Cond.methodLink RX6 157 yX6_oldMany ∈ TB := tb (tb4 (List.mem_of_getElem? (i := 44) (rfl : tables_1_4[44]? = some (Cond.methodLink RX6 157 yX6_oldMany)))) rfl
theorem ti_yX6_oldMany : Cond.instanceMethod yX6_oldMany ∈ TB := tb (tb4 (List.mem_of_getElem? (i := 46) (rfl : tables_1_4[46]? = some (Cond.instanceMethod yX6_oldMany)))) rfl
theorem tc_yX6_oldMany : Cond.code yX6_oldMany cX6_oldMany 3 (some .int) ∈ TB := tb (tb4 (List.mem_of_getElem? (i := 47) (rfl : tables_1_4[47]? = some (Cond.code yX6_oldMany cX6_oldMany 3 (some .int))))) rfl
theorem tm_X6_179 : Cond.methodLink RX6 179 yX6_holdAct ∈ TB := tb (tb4 (List.mem_of_getElem? (i := 48) (rfl : tables_1_4[48]? = some (Cond.methodLink RX6 179 yX6_holdAct)))) rfl
theorem ti_yX6_holdAct : Cond.instanceMethod yX6_holdAct ∈ TB := tb (tb4 (List.mem_of_getElem? (i := 50) (rfl : tables_1_4[50]? = some (Cond.instanceMethod yX6_holdAct)))) rfl
theorem tc_yX6_holdAct : Cond.code yX6_holdAct cX6_holdAct 6 (some .boolean) ∈ TB := tb (tb4 (List.mem_of_getElem? (i := 51) (rfl : tables_1_4[51]? = some (Cond.code yX6_holdAct cX6_holdAct 6 (some .boolean))))) rfl
theorem tm_L_47 : Cond.methodLink RL 47 yX6_about ∈ TB := tb (tb4 (List.mem_of_getElem? (i := 52) (rfl : tables_1_4[52]? = some (Cond.methodLink RL 47 yX6_about)))) rfl
theorem ti_yX6_about : Cond.instanceMethod yX6_about ∈ TB := tb (tb4 (List.mem_of_getElem? (i := 53) (rfl : tables_1_4[53]? = some (Cond.instanceMethod yX6_about)))) rfl
theorem ts_yX6_about : Cond.selects RX6 yX6_about yX6_about ∈ TB := tb (tb4 (List.mem_of_getElem? (i := 54) (rfl : tables_1_4[54]? = some (Cond.selects RX6 yX6_about yX6_about)))) rfl
theorem tc_yX6_about : Cond.code yX6_about cX6_about 3 (some .int) ∈ TB := tb (tb4 (List.mem_of_getElem? (i := 55) (rfl : tables_1_4[55]? = some (Cond.code yX6_about cX6_about 3 (some .int))))) rfl
theorem tm_L_51 : Cond.methodLink RL 51 yX6_knows ∈ TB := tb (tb4 (List.mem_of_getElem? (i := 56) (rfl : tables_1_4[56]? = some (Cond.methodLink RL 51 yX6_knows)))) rfl
theorem ti_yX6_knows : Cond.instanceMethod yX6_knows ∈ TB := tb (tb4 (List.mem_of_getElem? (i := 57) (rfl : tables_1_4[57]? = some (Cond.instanceMethod yX6_knows)))) rfl
theorem ts_yX6_knows : Cond.selects RX6 yX6_knows yX6_knows ∈ TB := tb (tb4 (List.mem_of_getElem? (i := 58) (rfl : tables_1_4[58]? = some (Cond.selects RX6 yX6_knows yX6_knows)))) rfl
theorem tc_yX6_knows : Cond.code yX6_knows cX6_knows 3 (some .int) ∈ TB := tb (tb4 (List.mem_of_getElem? (i := 59) (rfl : tables_1_4[59]? = some (Cond.code yX6_knows cX6_knows 3 (some .int))))) rfl
theorem tm_L_56 : Cond.methodLink RL 56 yX6_tell ∈ TB := tb (tb4 (List.mem_of_getElem? (i := 60) (rfl : tables_1_4[60]? = some (Cond.methodLink RL 56 yX6_tell)))) rfl
theorem ti_yX6_tell : Cond.instanceMethod yX6_tell ∈ TB := tb (tb4 (List.mem_of_getElem? (i := 61) (rfl : tables_1_4[61]? = some (Cond.instanceMethod yX6_tell)))) rfl
theorem ts_yX6_tell : Cond.selects RX6 yX6_tell yX6_tell ∈ TB := tb (tb4 (List.mem_of_getElem? (i := 62) (rfl : tables_1_4[62]? = some (Cond.selects RX6 yX6_tell yX6_tell)))) rfl
theorem tc_yX6_tell : Cond.code yX6_tell cX6_tell 5 (some .int) ∈ TB := tb (tb4 (List.mem_of_getElem? (i := 63) (rfl : tables_1_4[63]? = some (Cond.code yX6_tell cX6_tell 5 (some .int))))) rfl
theorem tm_X6_163 : Cond.methodLink RX6 163 yX6_isBanned ∈ TB := tb (tb4 (List.mem_of_getElem? (i := 64) (rfl : tables_1_4[64]? = some (Cond.methodLink RX6 163 yX6_isBanned)))) rfl
theorem ti_yX6_isBanned : Cond.instanceMethod yX6_isBanned ∈ TB := tb (tb4 (List.mem_of_getElem? (i := 66) (rfl : tables_1_4[66]? = some (Cond.instanceMethod yX6_isBanned)))) rfl
theorem tc_yX6_isBanned : Cond.code yX6_isBanned cX6_isBanned 2 (some .boolean) ∈ TB := tb (tb4 (List.mem_of_getElem? (i := 67) (rfl : tables_1_4[67]? = some (Cond.code yX6_isBanned cX6_isBanned 2 (some .boolean))))) rfl
theorem tm_X6_166 : Cond.methodLink RX6 166 yX6_hear ∈ TB := tb (tb4 (List.mem_of_getElem? (i := 68) (rfl : tables_1_4[68]? = some (Cond.methodLink RX6 166 yX6_hear)))) rfl
theorem ti_yX6_hear : Cond.instanceMethod yX6_hear ∈ TB := tb (tb4 (List.mem_of_getElem? (i := 70) (rfl : tables_1_4[70]? = some (Cond.instanceMethod yX6_hear)))) rfl
theorem tc_yX6_hear : Cond.code yX6_hear cX6_hear 6 (some .boolean) ∈ TB := tb (tb4 (List.mem_of_getElem? (i := 71) (rfl : tables_1_4[71]? = some (Cond.code yX6_hear cX6_hear 6 (some .boolean))))) rfl
theorem tm_L_60 : Cond.methodLink RL 60 yX6_parts ∈ TB := tb (tb4 (List.mem_of_getElem? (i := 72) (rfl : tables_1_4[72]? = some (Cond.methodLink RL 60 yX6_parts)))) rfl
theorem ti_yX6_parts : Cond.instanceMethod yX6_parts ∈ TB := tb (tb4 (List.mem_of_getElem? (i := 73) (rfl : tables_1_4[73]? = some (Cond.instanceMethod yX6_parts)))) rfl
theorem ts_yX6_parts : Cond.selects RX6 yX6_parts yX6_parts ∈ TB := tb (tb4 (List.mem_of_getElem? (i := 74) (rfl : tables_1_4[74]? = some (Cond.selects RX6 yX6_parts yX6_parts)))) rfl
theorem tc_yX6_parts : Cond.code yX6_parts cX6_parts 5 (some .int) ∈ TB := tb (tb4 (List.mem_of_getElem? (i := 75) (rfl : tables_1_4[75]? = some (Cond.code yX6_parts cX6_parts 5 (some .int))))) rfl
theorem tm_X6_186 : Cond.methodLink RX6 186 yX6_against ∈ TB := tb (tb4 (List.mem_of_getElem? (i := 76) (rfl : tables_1_4[76]? = some (Cond.methodLink RX6 186 yX6_against)))) rfl
theorem ti_yX6_against : Cond.instanceMethod yX6_against ∈ TB := tb (tb4 (List.mem_of_getElem? (i := 78) (rfl : tables_1_4[78]? = some (Cond.instanceMethod yX6_against)))) rfl
theorem tc_yX6_against : Cond.code yX6_against cX6_against 2 (some .int) ∈ TB := tb (tb4 (List.mem_of_getElem? (i := 79) (rfl : tables_1_4[79]? = some (Cond.code yX6_against cX6_against 2 (some .int))))) rfl
theorem tm_X6_183 : Cond.methodLink RX6 183 yX6_isKnower ∈ TB := tb (tb4 (List.mem_of_getElem? (i := 80) (rfl : tables_1_4[80]? = some (Cond.methodLink RX6 183 yX6_isKnower)))) rfl
theorem tt_yX6_isKnower : Cond.static yX6_isKnower ∈ TB := tb (tb4 (List.mem_of_getElem? (i := 81) (rfl : tables_1_4[81]? = some (Cond.static yX6_isKnower)))) rfl
theorem tc_yX6_isKnower : Cond.code yX6_isKnower cX6_isKnower 2 (some .boolean) ∈ TB := tb (tb4 (List.mem_of_getElem? (i := 82) (rfl : tables_1_4[82]? = some (Cond.code yX6_isKnower cX6_isKnower 2 (some .boolean))))) rfl
theorem tm_L_64 : Cond.methodLink RL 64 yX6_bound ∈ TB := tb (tb4 (List.mem_of_getElem? (i := 83) (rfl : tables_1_4[83]? = some (Cond.methodLink RL 64 yX6_bound)))) rfl
theorem ti_yX6_bound : Cond.instanceMethod yX6_bound ∈ TB := tb (tb4 (List.mem_of_getElem? (i := 84) (rfl : tables_1_4[84]? = some (Cond.instanceMethod yX6_bound)))) rfl
theorem ts_yX6_bound : Cond.selects RX6 yX6_bound yX6_bound ∈ TB := tb (tb4 (List.mem_of_getElem? (i := 85) (rfl : tables_1_4[85]? = some (Cond.selects RX6 yX6_bound yX6_bound)))) rfl
theorem tc_yX6_bound : Cond.code yX6_bound cX6_bound 5 (some .int) ∈ TB := tb (tb4 (List.mem_of_getElem? (i := 86) (rfl : tables_1_4[86]? = some (Cond.code yX6_bound cX6_bound 5 (some .int))))) rfl
theorem tm_L_68 : Cond.methodLink RL 68 yX6_holds ∈ TB := tb (tb4 (List.mem_of_getElem? (i := 87) (rfl : tables_1_4[87]? = some (Cond.methodLink RL 68 yX6_holds)))) rfl
theorem ti_yX6_holds : Cond.instanceMethod yX6_holds ∈ TB := tb (tb4 (List.mem_of_getElem? (i := 88) (rfl : tables_1_4[88]? = some (Cond.instanceMethod yX6_holds)))) rfl
theorem ts_yX6_holds : Cond.selects RX6 yX6_holds yX6_holds ∈ TB := tb (tb4 (List.mem_of_getElem? (i := 89) (rfl : tables_1_4[89]? = some (Cond.selects RX6 yX6_holds yX6_holds)))) rfl
theorem tc_yX6_holds : Cond.code yX6_holds cX6_holds 4 (some .int) ∈ TB := tb (tb4 (List.mem_of_getElem? (i := 90) (rfl : tables_1_4[90]? = some (Cond.code yX6_holds cX6_holds 4 (some .int))))) rfl
theorem tm_L_72 : Cond.methodLink RL 72 yX6_owner ∈ TB := tb (tb4 (List.mem_of_getElem? (i := 91) (rfl : tables_1_4[91]? = some (Cond.methodLink RL 72 yX6_owner)))) rfl
theorem ti_yX6_owner : Cond.instanceMethod yX6_owner ∈ TB := tb (tb4 (List.mem_of_getElem? (i := 92) (rfl : tables_1_4[92]? = some (Cond.instanceMethod yX6_owner)))) rfl
theorem ts_yX6_owner : Cond.selects RX6 yX6_owner yX6_owner ∈ TB := tb (tb4 (List.mem_of_getElem? (i := 93) (rfl : tables_1_4[93]? = some (Cond.selects RX6 yX6_owner yX6_owner)))) rfl
theorem tc_yX6_owner : Cond.code yX6_owner cX6_owner 6 (some .int) ∈ TB := tb (tb4 (List.mem_of_getElem? (i := 94) (rfl : tables_1_4[94]? = some (Cond.code yX6_owner cX6_owner 6 (some .int))))) rfl
theorem tm_L_76 : Cond.methodLink RL 76 yX6_worth ∈ TB := tb (tb4 (List.mem_of_getElem? (i := 95) (rfl : tables_1_4[95]? = some (Cond.methodLink RL 76 yX6_worth)))) rfl
theorem ti_yX6_worth : Cond.instanceMethod yX6_worth ∈ TB := tb (tb4 (List.mem_of_getElem? (i := 96) (rfl : tables_1_4[96]? = some (Cond.instanceMethod yX6_worth)))) rfl
theorem ts_yX6_worth : Cond.selects RX6 yX6_worth yX6_worth ∈ TB := tb (tb4 (List.mem_of_getElem? (i := 97) (rfl : tables_1_4[97]? = some (Cond.selects RX6 yX6_worth yX6_worth)))) rfl
theorem tc_yX6_worth : Cond.code yX6_worth cX6_worth 4 (some .int) ∈ TB := tb (tb4 (List.mem_of_getElem? (i := 98) (rfl : tables_1_4[98]? = some (Cond.code yX6_worth cX6_worth 4 (some .int))))) rfl
theorem tm_X6_189 : Cond.methodLink RX6 189 yX6_worthOf ∈ TB := tb (tb4 (List.mem_of_getElem? (i := 99) (rfl : tables_1_4[99]? = some (Cond.methodLink RX6 189 yX6_worthOf)))) rfl
theorem ti_yX6_worthOf : Cond.instanceMethod yX6_worthOf ∈ TB := tb (tb4 (List.mem_of_getElem? (i := 101) (rfl : tables_1_4[101]? = some (Cond.instanceMethod yX6_worthOf)))) rfl
theorem tc_yX6_worthOf : Cond.code yX6_worthOf cX6_worthOf 2 (some .int) ∈ TB := tb (tb4 (List.mem_of_getElem? (i := 102) (rfl : tables_1_4[102]? = some (Cond.code yX6_worthOf cX6_worthOf 2 (some .int))))) rfl
theorem tm_L_80 : Cond.methodLink RL 80 yX6_wealth ∈ TB := tb (tb4 (List.mem_of_getElem? (i := 103) (rfl : tables_1_4[103]? = some (Cond.methodLink RL 80 yX6_wealth)))) rfl
theorem ti_yX6_wealth : Cond.instanceMethod yX6_wealth ∈ TB := tb (tb4 (List.mem_of_getElem? (i := 104) (rfl : tables_1_4[104]? = some (Cond.instanceMethod yX6_wealth)))) rfl
theorem ts_yX6_wealth : Cond.selects RX6 yX6_wealth yX6_wealth ∈ TB := tb (tb4 (List.mem_of_getElem? (i := 105) (rfl : tables_1_4[105]? = some (Cond.selects RX6 yX6_wealth yX6_wealth)))) rfl
theorem tc_yX6_wealth : Cond.code yX6_wealth cX6_wealth 6 (some .int) ∈ TB := tb (tb4 (List.mem_of_getElem? (i := 106) (rfl : tables_1_4[106]? = some (Cond.code yX6_wealth cX6_wealth 6 (some .int))))) rfl
theorem tm_L_88 : Cond.methodLink RL 88 yX6_weight ∈ TB := tb (tb4 (List.mem_of_getElem? (i := 107) (rfl : tables_1_4[107]? = some (Cond.methodLink RL 88 yX6_weight)))) rfl
theorem ti_yX6_weight : Cond.instanceMethod yX6_weight ∈ TB := tb (tb4 (List.mem_of_getElem? (i := 108) (rfl : tables_1_4[108]? = some (Cond.instanceMethod yX6_weight)))) rfl
theorem ts_yX6_weight : Cond.selects RX6 yX6_weight yX6_weight ∈ TB := tb (tb4 (List.mem_of_getElem? (i := 109) (rfl : tables_1_4[109]? = some (Cond.selects RX6 yX6_weight yX6_weight)))) rfl
theorem tc_yX6_weight : Cond.code yX6_weight cX6_weight 4 (some .int) ∈ TB := tb (tb4 (List.mem_of_getElem? (i := 110) (rfl : tables_1_4[110]? = some (Cond.code yX6_weight cX6_weight 4 (some .int))))) rfl
theorem tm_X6_202 : Cond.methodLink RX6 202 yX6_findWeight ∈ TB := tb (tb4 (List.mem_of_getElem? (i := 111) (rfl : tables_1_4[111]? = some (Cond.methodLink RX6 202 yX6_findWeight)))) rfl
theorem ti_yX6_findWeight : Cond.instanceMethod yX6_findWeight ∈ TB := tb (tb4 (List.mem_of_getElem? (i := 113) (rfl : tables_1_4[113]? = some (Cond.instanceMethod yX6_findWeight)))) rfl
theorem tc_yX6_findWeight : Cond.code yX6_findWeight cX6_findWeight 5 none ∈ TB := tb (tb4 (List.mem_of_getElem? (i := 114) (rfl : tables_1_4[114]? = some (Cond.code yX6_findWeight cX6_findWeight 5 none)))) rfl
theorem tm_X6_198 : Cond.methodLink RX6 198 yX6_findNearest ∈ TB := tb (tb4 (List.mem_of_getElem? (i := 115) (rfl : tables_1_4[115]? = some (Cond.methodLink RX6 198 yX6_findNearest)))) rfl
theorem ti_yX6_findNearest : Cond.instanceMethod yX6_findNearest ∈ TB := tb (tb4 (List.mem_of_getElem? (i := 117) (rfl : tables_1_4[117]? = some (Cond.instanceMethod yX6_findNearest)))) rfl
theorem tc_yX6_findNearest : Cond.code yX6_findNearest cX6_findNearest 7 none ∈ TB := tb (tb4 (List.mem_of_getElem? (i := 118) (rfl : tables_1_4[118]? = some (Cond.code yX6_findNearest cX6_findNearest 7 none)))) rfl
theorem tm_L_84 : Cond.methodLink RL 84 yX6_quarrel ∈ TB := tb (tb4 (List.mem_of_getElem? (i := 119) (rfl : tables_1_4[119]? = some (Cond.methodLink RL 84 yX6_quarrel)))) rfl
theorem ti_yX6_quarrel : Cond.instanceMethod yX6_quarrel ∈ TB := tb (tb4 (List.mem_of_getElem? (i := 120) (rfl : tables_1_4[120]? = some (Cond.instanceMethod yX6_quarrel)))) rfl
theorem ts_yX6_quarrel : Cond.selects RX6 yX6_quarrel yX6_quarrel ∈ TB := tb (tb4 (List.mem_of_getElem? (i := 121) (rfl : tables_1_4[121]? = some (Cond.selects RX6 yX6_quarrel yX6_quarrel)))) rfl
theorem tc_yX6_quarrel : Cond.code yX6_quarrel cX6_quarrel 6 (some .int) ∈ TB := tb (tb4 (List.mem_of_getElem? (i := 122) (rfl : tables_1_4[122]? = some (Cond.code yX6_quarrel cX6_quarrel 6 (some .int))))) rfl
theorem tm_L_93 : Cond.methodLink RL 93 yX6_split ∈ TB := tb (tb4 (List.mem_of_getElem? (i := 123) (rfl : tables_1_4[123]? = some (Cond.methodLink RL 93 yX6_split)))) rfl
theorem ti_yX6_split : Cond.instanceMethod yX6_split ∈ TB := tb (tb4 (List.mem_of_getElem? (i := 124) (rfl : tables_1_4[124]? = some (Cond.instanceMethod yX6_split)))) rfl
theorem ts_yX6_split : Cond.selects RX6 yX6_split yX6_split ∈ TB := tb (tb4 (List.mem_of_getElem? (i := 125) (rfl : tables_1_4[125]? = some (Cond.selects RX6 yX6_split yX6_split)))) rfl
theorem tc_yX6_split : Cond.code yX6_split cX6_split 6 (some .int) ∈ TB := tb (tb4 (List.mem_of_getElem? (i := 126) (rfl : tables_1_4[126]? = some (Cond.code yX6_split cX6_split 6 (some .int))))) rfl
theorem tm_L_97 : Cond.methodLink RL 97 yX6_ban ∈ TB := tb (tb4 (List.mem_of_getElem? (i := 127) (rfl : tables_1_4[127]? = some (Cond.methodLink RL 97 yX6_ban)))) rfl
theorem ti_yX6_ban : Cond.instanceMethod yX6_ban ∈ TB := tb (tb4 (List.mem_of_getElem? (i := 128) (rfl : tables_1_4[128]? = some (Cond.instanceMethod yX6_ban)))) rfl
theorem ts_yX6_ban : Cond.selects RX6 yX6_ban yX6_ban ∈ TB := tb (tb4 (List.mem_of_getElem? (i := 129) (rfl : tables_1_4[129]? = some (Cond.selects RX6 yX6_ban yX6_ban)))) rfl
theorem tc_yX6_ban : Cond.code yX6_ban cX6_ban 3 (some .int) ∈ TB := tb (tb4 (List.mem_of_getElem? (i := 130) (rfl : tables_1_4[130]? = some (Cond.code yX6_ban cX6_ban 3 (some .int))))) rfl
theorem tk_X6_205 : Cond.constantLong RX6 205 127 ∈ TB := tb (tb4 (List.mem_of_getElem? (i := 131) (rfl : tables_1_4[131]? = some (Cond.constantLong RX6 205 127)))) rfl
theorem tm_L_101 : Cond.methodLink RL 101 yX6_feast ∈ TB := tb (tb4 (List.mem_of_getElem? (i := 132) (rfl : tables_1_4[132]? = some (Cond.methodLink RL 101 yX6_feast)))) rfl
theorem ti_yX6_feast : Cond.instanceMethod yX6_feast ∈ TB := tb (tb4 (List.mem_of_getElem? (i := 133) (rfl : tables_1_4[133]? = some (Cond.instanceMethod yX6_feast)))) rfl
theorem ts_yX6_feast : Cond.selects RX6 yX6_feast yX6_feast ∈ TB := tb (tb4 (List.mem_of_getElem? (i := 134) (rfl : tables_1_4[134]? = some (Cond.selects RX6 yX6_feast yX6_feast)))) rfl
theorem tc_yX6_feast : Cond.code yX6_feast cX6_feast 7 (some .int) ∈ TB := tb (tb4 (List.mem_of_getElem? (i := 135) (rfl : tables_1_4[135]? = some (Cond.code yX6_feast cX6_feast 7 (some .int))))) rfl
theorem tm_L_105 : Cond.methodLink RL 105 yX6_kept ∈ TB := tb (tb4 (List.mem_of_getElem? (i := 136) (rfl : tables_1_4[136]? = some (Cond.methodLink RL 105 yX6_kept)))) rfl
theorem ti_yX6_kept : Cond.instanceMethod yX6_kept ∈ TB := tb (tb4 (List.mem_of_getElem? (i := 137) (rfl : tables_1_4[137]? = some (Cond.instanceMethod yX6_kept)))) rfl
theorem ts_yX6_kept : Cond.selects RX6 yX6_kept yX6_kept ∈ TB := tb (tb4 (List.mem_of_getElem? (i := 138) (rfl : tables_1_4[138]? = some (Cond.selects RX6 yX6_kept yX6_kept)))) rfl
theorem tc_yX6_kept : Cond.code yX6_kept cX6_kept 6 (some .int) ∈ TB := tb (tb4 (List.mem_of_getElem? (i := 139) (rfl : tables_1_4[139]? = some (Cond.code yX6_kept cX6_kept 6 (some .int))))) rfl
theorem tm_L_109 : Cond.methodLink RL 109 yX6_fewest ∈ TB := tb (tb4 (List.mem_of_getElem? (i := 140) (rfl : tables_1_4[140]? = some (Cond.methodLink RL 109 yX6_fewest)))) rfl
theorem ti_yX6_fewest : Cond.instanceMethod yX6_fewest ∈ TB := tb (tb4 (List.mem_of_getElem? (i := 141) (rfl : tables_1_4[141]? = some (Cond.instanceMethod yX6_fewest)))) rfl
theorem ts_yX6_fewest : Cond.selects RX6 yX6_fewest yX6_fewest ∈ TB := tb (tb4 (List.mem_of_getElem? (i := 142) (rfl : tables_1_4[142]? = some (Cond.selects RX6 yX6_fewest yX6_fewest)))) rfl
theorem tc_yX6_fewest : Cond.code yX6_fewest cX6_fewest 2 (some .int) ∈ TB := tb (tb4 (List.mem_of_getElem? (i := 143) (rfl : tables_1_4[143]? = some (Cond.code yX6_fewest cX6_fewest 2 (some .int))))) rfl
theorem tm_X6_216 : Cond.methodLink RX6 216 yX6_findTellers ∈ TB := tb (tb4 (List.mem_of_getElem? (i := 144) (rfl : tables_1_4[144]? = some (Cond.methodLink RX6 216 yX6_findTellers)))) rfl
theorem ti_yX6_findTellers : Cond.instanceMethod yX6_findTellers ∈ TB := tb (tb4 (List.mem_of_getElem? (i := 146) (rfl : tables_1_4[146]? = some (Cond.instanceMethod yX6_findTellers)))) rfl
theorem tc_yX6_findTellers : Cond.code yX6_findTellers cX6_findTellers 4 (some .int) ∈ TB := tb (tb4 (List.mem_of_getElem? (i := 147) (rfl : tables_1_4[147]? = some (Cond.code yX6_findTellers cX6_findTellers 4 (some .int))))) rfl
theorem tm_X6_207 : Cond.methodLink RX6 207 yX6_areAlive ∈ TB := tb (tb4 (List.mem_of_getElem? (i := 148) (rfl : tables_1_4[148]? = some (Cond.methodLink RX6 207 yX6_areAlive)))) rfl
theorem ti_yX6_areAlive : Cond.instanceMethod yX6_areAlive ∈ TB := tb (tb4 (List.mem_of_getElem? (i := 150) (rfl : tables_1_4[150]? = some (Cond.instanceMethod yX6_areAlive)))) rfl
theorem tc_yX6_areAlive : Cond.code yX6_areAlive cX6_areAlive 4 (some .boolean) ∈ TB := tb (tb4 (List.mem_of_getElem? (i := 151) (rfl : tables_1_4[151]? = some (Cond.code yX6_areAlive cX6_areAlive 4 (some .boolean))))) rfl
theorem tm_X6_210 : Cond.methodLink RX6 210 yX6_isTold ∈ TB := tb (tb4 (List.mem_of_getElem? (i := 152) (rfl : tables_1_4[152]? = some (Cond.methodLink RX6 210 yX6_isTold)))) rfl
theorem ti_yX6_isTold : Cond.instanceMethod yX6_isTold ∈ TB := tb (tb4 (List.mem_of_getElem? (i := 154) (rfl : tables_1_4[154]? = some (Cond.instanceMethod yX6_isTold)))) rfl
theorem tc_yX6_isTold : Cond.code yX6_isTold cX6_isTold 8 (some .boolean) ∈ TB := tb (tb4 (List.mem_of_getElem? (i := 155) (rfl : tables_1_4[155]? = some (Cond.code yX6_isTold cX6_isTold 8 (some .boolean))))) rfl
theorem tm_X6_213 : Cond.methodLink RX6 213 yX6_step ∈ TB := tb (tb4 (List.mem_of_getElem? (i := 156) (rfl : tables_1_4[156]? = some (Cond.methodLink RX6 213 yX6_step)))) rfl
theorem ti_yX6_step : Cond.instanceMethod yX6_step ∈ TB := tb (tb4 (List.mem_of_getElem? (i := 158) (rfl : tables_1_4[158]? = some (Cond.instanceMethod yX6_step)))) rfl
theorem tc_yX6_step : Cond.code yX6_step cX6_step 4 (some .boolean) ∈ TB := tb (tb4 (List.mem_of_getElem? (i := 159) (rfl : tables_1_4[159]? = some (Cond.code yX6_step cX6_step 4 (some .boolean))))) rfl
theorem tm_L_113 : Cond.methodLink RL 113 yX6_teller ∈ TB := tb (tb4 (List.mem_of_getElem? (i := 160) (rfl : tables_1_4[160]? = some (Cond.methodLink RL 113 yX6_teller)))) rfl
theorem ti_yX6_teller : Cond.instanceMethod yX6_teller ∈ TB := tb (tb4 (List.mem_of_getElem? (i := 161) (rfl : tables_1_4[161]? = some (Cond.instanceMethod yX6_teller)))) rfl
theorem ts_yX6_teller : Cond.selects RX6 yX6_teller yX6_teller ∈ TB := tb (tb4 (List.mem_of_getElem? (i := 162) (rfl : tables_1_4[162]? = some (Cond.selects RX6 yX6_teller yX6_teller)))) rfl
theorem tc_yX6_teller : Cond.code yX6_teller cX6_teller 4 (some .int) ∈ TB := tb (tb4 (List.mem_of_getElem? (i := 163) (rfl : tables_1_4[163]? = some (Cond.code yX6_teller cX6_teller 4 (some .int))))) rfl
theorem tm_L_117 : Cond.methodLink RL 117 yX6_count ∈ TB := tb (tb4 (List.mem_of_getElem? (i := 164) (rfl : tables_1_4[164]? = some (Cond.methodLink RL 117 yX6_count)))) rfl
theorem ti_yX6_count : Cond.instanceMethod yX6_count ∈ TB := tb (tb4 (List.mem_of_getElem? (i := 165) (rfl : tables_1_4[165]? = some (Cond.instanceMethod yX6_count)))) rfl
theorem ts_yX6_count : Cond.selects RX6 yX6_count yX6_count ∈ TB := tb (tb4 (List.mem_of_getElem? (i := 166) (rfl : tables_1_4[166]? = some (Cond.selects RX6 yX6_count yX6_count)))) rfl
theorem tc_yX6_count : Cond.code yX6_count cX6_count 4 (some .int) ∈ TB := tb (tb4 (List.mem_of_getElem? (i := 167) (rfl : tables_1_4[167]? = some (Cond.code yX6_count cX6_count 4 (some .int))))) rfl
theorem tm_L_121 : Cond.methodLink RL 121 yX6_cross ∈ TB := tb (tb4 (List.mem_of_getElem? (i := 168) (rfl : tables_1_4[168]? = some (Cond.methodLink RL 121 yX6_cross)))) rfl
theorem ti_yX6_cross : Cond.instanceMethod yX6_cross ∈ TB := tb (tb4 (List.mem_of_getElem? (i := 169) (rfl : tables_1_4[169]? = some (Cond.instanceMethod yX6_cross)))) rfl
theorem ts_yX6_cross : Cond.selects RX6 yX6_cross yX6_cross ∈ TB := tb (tb4 (List.mem_of_getElem? (i := 170) (rfl : tables_1_4[170]? = some (Cond.selects RX6 yX6_cross yX6_cross)))) rfl
theorem tc_yX6_cross : Cond.code yX6_cross cX6_cross 2 (some .int) ∈ TB := tb (tb4 (List.mem_of_getElem? (i := 171) (rfl : tables_1_4[171]? = some (Cond.code yX6_cross cX6_cross 2 (some .int))))) rfl
theorem tm_L_125 : Cond.methodLink RL 125 yX6_works ∈ TB := tb (tb4 (List.mem_of_getElem? (i := 172) (rfl : tables_1_4[172]? = some (Cond.methodLink RL 125 yX6_works)))) rfl
theorem ti_yX6_works : Cond.instanceMethod yX6_works ∈ TB := tb (tb4 (List.mem_of_getElem? (i := 173) (rfl : tables_1_4[173]? = some (Cond.instanceMethod yX6_works)))) rfl
theorem ts_yX6_works : Cond.selects RX6 yX6_works yX6_works ∈ TB := tb (tb4 (List.mem_of_getElem? (i := 174) (rfl : tables_1_4[174]? = some (Cond.selects RX6 yX6_works yX6_works)))) rfl
theorem tc_yX6_works : Cond.code yX6_works cX6_works 5 (some .int) ∈ TB := tb (tb4 (List.mem_of_getElem? (i := 175) (rfl : tables_1_4[175]? = some (Cond.code yX6_works cX6_works 5 (some .int))))) rfl
theorem tk_X6_219 : Cond.constantLong RX6 219 100 ∈ TB := tb (tb4 (List.mem_of_getElem? (i := 176) (rfl : tables_1_4[176]? = some (Cond.constantLong RX6 219 100)))) rfl
theorem tm_L_129 : Cond.methodLink RL 129 yX6_worked ∈ TB := tb (tb4 (List.mem_of_getElem? (i := 177) (rfl : tables_1_4[177]? = some (Cond.methodLink RL 129 yX6_worked)))) rfl
theorem ti_yX6_worked : Cond.instanceMethod yX6_worked ∈ TB := tb (tb4 (List.mem_of_getElem? (i := 178) (rfl : tables_1_4[178]? = some (Cond.instanceMethod yX6_worked)))) rfl
theorem ts_yX6_worked : Cond.selects RX6 yX6_worked yX6_worked ∈ TB := tb (tb4 (List.mem_of_getElem? (i := 179) (rfl : tables_1_4[179]? = some (Cond.selects RX6 yX6_worked yX6_worked)))) rfl
theorem tc_yX6_worked : Cond.code yX6_worked cX6_worked 2 (some .int) ∈ TB := tb (tb4 (List.mem_of_getElem? (i := 180) (rfl : tables_1_4[180]? = some (Cond.code yX6_worked cX6_worked 2 (some .int))))) rfl
theorem tm_L_133 : Cond.methodLink RL 133 yX6_sheet ∈ TB := tb (tb4 (List.mem_of_getElem? (i := 181) (rfl : tables_1_4[181]? = some (Cond.methodLink RL 133 yX6_sheet)))) rfl
theorem ti_yX6_sheet : Cond.instanceMethod yX6_sheet ∈ TB := tb (tb4 (List.mem_of_getElem? (i := 182) (rfl : tables_1_4[182]? = some (Cond.instanceMethod yX6_sheet)))) rfl
theorem ts_yX6_sheet : Cond.selects RX6 yX6_sheet yX6_sheet ∈ TB := tb (tb4 (List.mem_of_getElem? (i := 183) (rfl : tables_1_4[183]? = some (Cond.selects RX6 yX6_sheet yX6_sheet)))) rfl
theorem tc_yX6_sheet : Cond.code yX6_sheet cX6_sheet 5 (some .int) ∈ TB := tb (tb4 (List.mem_of_getElem? (i := 184) (rfl : tables_1_4[184]? = some (Cond.code yX6_sheet cX6_sheet 5 (some .int))))) rfl
theorem tm_X6_223 : Cond.methodLink RX6 223 yX6_isSheet ∈ TB := tb (tb4 (List.mem_of_getElem? (i := 185) (rfl : tables_1_4[185]? = some (Cond.methodLink RX6 223 yX6_isSheet)))) rfl
theorem tt_yX6_isSheet : Cond.static yX6_isSheet ∈ TB := tb (tb4 (List.mem_of_getElem? (i := 186) (rfl : tables_1_4[186]? = some (Cond.static yX6_isSheet)))) rfl
theorem tc_yX6_isSheet : Cond.code yX6_isSheet cX6_isSheet 2 (some .boolean) ∈ TB := tb (tb4 (List.mem_of_getElem? (i := 187) (rfl : tables_1_4[187]? = some (Cond.code yX6_isSheet cX6_isSheet 2 (some .boolean))))) rfl
theorem tk_X6_221 : Cond.constantLong RX6 221 2 ∈ TB := tb (tb4 (List.mem_of_getElem? (i := 188) (rfl : tables_1_4[188]? = some (Cond.constantLong RX6 221 2)))) rfl
theorem tm_L_137 : Cond.methodLink RL 137 yX6_drop ∈ TB := tb (tb4 (List.mem_of_getElem? (i := 189) (rfl : tables_1_4[189]? = some (Cond.methodLink RL 137 yX6_drop)))) rfl
theorem ti_yX6_drop : Cond.instanceMethod yX6_drop ∈ TB := tb (tb4 (List.mem_of_getElem? (i := 190) (rfl : tables_1_4[190]? = some (Cond.instanceMethod yX6_drop)))) rfl
theorem ts_yX6_drop : Cond.selects RX6 yX6_drop yX6_drop ∈ TB := tb (tb4 (List.mem_of_getElem? (i := 191) (rfl : tables_1_4[191]? = some (Cond.selects RX6 yX6_drop yX6_drop)))) rfl
theorem tc_yX6_drop : Cond.code yX6_drop cX6_drop 2 (some .int) ∈ TB := tb (tb4 (List.mem_of_getElem? (i := 192) (rfl : tables_1_4[192]? = some (Cond.code yX6_drop cX6_drop 2 (some .int))))) rfl
theorem tm_L_142 : Cond.methodLink RL 142 yX6_item ∈ TB := tb (tb4 (List.mem_of_getElem? (i := 193) (rfl : tables_1_4[193]? = some (Cond.methodLink RL 142 yX6_item)))) rfl
theorem ti_yX6_item : Cond.instanceMethod yX6_item ∈ TB := tb (tb4 (List.mem_of_getElem? (i := 194) (rfl : tables_1_4[194]? = some (Cond.instanceMethod yX6_item)))) rfl
theorem ts_yX6_item : Cond.selects RX6 yX6_item yX6_item ∈ TB := tb (tb4 (List.mem_of_getElem? (i := 195) (rfl : tables_1_4[195]? = some (Cond.selects RX6 yX6_item yX6_item)))) rfl
theorem tc_yX6_item : Cond.code yX6_item cX6_item 5 (some .int) ∈ TB := tb (tb4 (List.mem_of_getElem? (i := 196) (rfl : tables_1_4[196]? = some (Cond.code yX6_item cX6_item 5 (some .int))))) rfl
theorem tm_L_146 : Cond.methodLink RL 146 yX6_acts ∈ TB := tb (tb4 (List.mem_of_getElem? (i := 197) (rfl : tables_1_4[197]? = some (Cond.methodLink RL 146 yX6_acts)))) rfl
theorem ti_yX6_acts : Cond.instanceMethod yX6_acts ∈ TB := tb (tb4 (List.mem_of_getElem? (i := 198) (rfl : tables_1_4[198]? = some (Cond.instanceMethod yX6_acts)))) rfl
theorem ts_yX6_acts : Cond.selects RX6 yX6_acts yX6_acts ∈ TB := tb (tb4 (List.mem_of_getElem? (i := 199) (rfl : tables_1_4[199]? = some (Cond.selects RX6 yX6_acts yX6_acts)))) rfl
theorem tc_yX6_acts : Cond.code yX6_acts cX6_acts 7 (some .int) ∈ TB := tb (tb4 (List.mem_of_getElem? (i := 200) (rfl : tables_1_4[200]? = some (Cond.code yX6_acts cX6_acts 7 (some .int))))) rfl
theorem tm_X6_226 : Cond.methodLink RX6 226 yX6_act ∈ TB := tb (tb4 (List.mem_of_getElem? (i := 201) (rfl : tables_1_4[201]? = some (Cond.methodLink RX6 226 yX6_act)))) rfl
theorem ts_yX5_isDoable : Cond.selects RX5 yX5_isDoable yX5_isDoable ∈ TB := tb (tbp1 (List.mem_of_getElem? (i := 0) (rfl : (k2_sels lw_privs_1)[0]? = some (Cond.selects RX5 yX5_isDoable yX5_isDoable)))) rfl
theorem ts_yX5_isPledgeOf : Cond.selects RX5 yX5_isPledgeOf yX5_isPledgeOf ∈ TB := tb (tbp1 (List.mem_of_getElem? (i := 1) (rfl : (k2_sels lw_privs_1)[1]? = some (Cond.selects RX5 yX5_isPledgeOf yX5_isPledgeOf)))) rfl
theorem ts_yX5_letWitnessesKnow : Cond.selects RX5 yX5_letWitnessesKnow yX5_letWitnessesKnow ∈ TB := tb (tbp1 (List.mem_of_getElem? (i := 2) (rfl : (k2_sels lw_privs_1)[2]? = some (Cond.selects RX5 yX5_letWitnessesKnow yX5_letWitnessesKnow)))) rfl
theorem ts_yX5_convinces : Cond.selects RX5 yX5_convinces yX5_convinces ∈ TB := tb (tbp1 (List.mem_of_getElem? (i := 3) (rfl : (k2_sels lw_privs_1)[3]? = some (Cond.selects RX5 yX5_convinces yX5_convinces)))) rfl
theorem ts_yX1_forget : Cond.selects RX1 yX1_forget yX1_forget ∈ TB := tb (tbp1 (List.mem_of_getElem? (i := 4) (rfl : (k2_sels lw_privs_1)[4]? = some (Cond.selects RX1 yX1_forget yX1_forget)))) rfl
theorem ts_yX1_agrees : Cond.selects RX1 yX1_agrees yX1_agrees ∈ TB := tb (tbp1 (List.mem_of_getElem? (i := 5) (rfl : (k2_sels lw_privs_1)[5]? = some (Cond.selects RX1 yX1_agrees yX1_agrees)))) rfl
theorem ts_yX1_take : Cond.selects RX1 yX1_take yX1_take ∈ TB := tb (tbp1 (List.mem_of_getElem? (i := 6) (rfl : (k2_sels lw_privs_1)[6]? = some (Cond.selects RX1 yX1_take yX1_take)))) rfl
theorem ts_yX1_move : Cond.selects RX1 yX1_move yX1_move ∈ TB := tb (tbp1 (List.mem_of_getElem? (i := 7) (rfl : (k2_sels lw_privs_1)[7]? = some (Cond.selects RX1 yX1_move yX1_move)))) rfl
theorem ts_yX5_isBanned : Cond.selects RX5 yX5_isBanned yX5_isBanned ∈ TB := tb (tbp1 (List.mem_of_getElem? (i := 8) (rfl : (k2_sels lw_privs_1)[8]? = some (Cond.selects RX5 yX5_isBanned yX5_isBanned)))) rfl
theorem ts_yX5_lookInto : Cond.selects RX5 yX5_lookInto yX5_lookInto ∈ TB := tb (tbp1 (List.mem_of_getElem? (i := 9) (rfl : (k2_sels lw_privs_1)[9]? = some (Cond.selects RX5 yX5_lookInto yX5_lookInto)))) rfl
theorem ts_yX5_knownTo : Cond.selects RX5 yX5_knownTo yX5_knownTo ∈ TB := tb (tbp1 (List.mem_of_getElem? (i := 10) (rfl : (k2_sels lw_privs_1)[10]? = some (Cond.selects RX5 yX5_knownTo yX5_knownTo)))) rfl
theorem ts_yX5_worthInView : Cond.selects RX5 yX5_worthInView yX5_worthInView ∈ TB := tb (tbp1 (List.mem_of_getElem? (i := 11) (rfl : (k2_sels lw_privs_1)[11]? = some (Cond.selects RX5 yX5_worthInView yX5_worthInView)))) rfl
theorem ts_yX5_advantage : Cond.selects RX5 yX5_advantage yX5_advantage ∈ TB := tb (tbp1 (List.mem_of_getElem? (i := 12) (rfl : (k2_sels lw_privs_1)[12]? = some (Cond.selects RX5 yX5_advantage yX5_advantage)))) rfl
theorem ts_yX5_hearingOf : Cond.selects RX5 yX5_hearingOf yX5_hearingOf ∈ TB := tb (tbp1 (List.mem_of_getElem? (i := 13) (rfl : (k2_sels lw_privs_1)[13]? = some (Cond.selects RX5 yX5_hearingOf yX5_hearingOf)))) rfl
theorem ts_yX5_unlikeFirstView : Cond.selects RX5 yX5_unlikeFirstView yX5_unlikeFirstView ∈ TB := tb (tbp1 (List.mem_of_getElem? (i := 14) (rfl : (k2_sels lw_privs_1)[14]? = some (Cond.selects RX5 yX5_unlikeFirstView yX5_unlikeFirstView)))) rfl
theorem ts_yX5_tellableBy : Cond.selects RX5 yX5_tellableBy yX5_tellableBy ∈ TB := tb (tbp1 (List.mem_of_getElem? (i := 15) (rfl : (k2_sels lw_privs_1)[15]? = some (Cond.selects RX5 yX5_tellableBy yX5_tellableBy)))) rfl
theorem ts_yX5_spread : Cond.selects RX5 yX5_spread yX5_spread ∈ TB := tb (tbp2 (List.mem_of_getElem? (i := 0) (rfl : (k2_sels lw_privs_2)[0]? = some (Cond.selects RX5 yX5_spread yX5_spread)))) rfl
theorem ts_yX5_findFewest : Cond.selects RX5 yX5_findFewest yX5_findFewest ∈ TB := tb (tbp2 (List.mem_of_getElem? (i := 1) (rfl : (k2_sels lw_privs_2)[1]? = some (Cond.selects RX5 yX5_findFewest yX5_findFewest)))) rfl
theorem ts_yX5_refusalOfRow : Cond.selects RX5 yX5_refusalOfRow yX5_refusalOfRow ∈ TB := tb (tbp2 (List.mem_of_getElem? (i := 2) (rfl : (k2_sels lw_privs_2)[2]? = some (Cond.selects RX5 yX5_refusalOfRow yX5_refusalOfRow)))) rfl
theorem ts_yX5_actFromSheet : Cond.selects RX5 yX5_actFromSheet yX5_actFromSheet ∈ TB := tb (tbp2 (List.mem_of_getElem? (i := 3) (rfl : (k2_sels lw_privs_2)[3]? = some (Cond.selects RX5 yX5_actFromSheet yX5_actFromSheet)))) rfl
theorem ts_yX6_isPerson : Cond.selects RX6 yX6_isPerson yX6_isPerson ∈ TB := tb (tbp2 (List.mem_of_getElem? (i := 4) (rfl : (k2_sels lw_privs_2)[4]? = some (Cond.selects RX6 yX6_isPerson yX6_isPerson)))) rfl
theorem ts_yX6_forgotten : Cond.selects RX6 yX6_forgotten yX6_forgotten ∈ TB := tb (tbp2 (List.mem_of_getElem? (i := 5) (rfl : (k2_sels lw_privs_2)[5]? = some (Cond.selects RX6 yX6_forgotten yX6_forgotten)))) rfl
theorem ts_yX6_knownBy : Cond.selects RX6 yX6_knownBy yX6_knownBy ∈ TB := tb (tbp2 (List.mem_of_getElem? (i := 6) (rfl : (k2_sels lw_privs_2)[6]? = some (Cond.selects RX6 yX6_knownBy yX6_knownBy)))) rfl
theorem ts_yX6_knowsAct : Cond.selects RX6 yX6_knowsAct yX6_knowsAct ∈ TB := tb (tbp2 (List.mem_of_getElem? (i := 7) (rfl : (k2_sels lw_privs_2)[7]? = some (Cond.selects RX6 yX6_knowsAct yX6_knowsAct)))) rfl
theorem ts_yX6_isOld : Cond.selects RX6 yX6_isOld yX6_isOld ∈ TB := tb (tbp2 (List.mem_of_getElem? (i := 8) (rfl : (k2_sels lw_privs_2)[8]? = some (Cond.selects RX6 yX6_isOld yX6_isOld)))) rfl
theorem ts_yX6_isStone : Cond.selects RX6 yX6_isStone yX6_isStone ∈ TB := tb (tbp2 (List.mem_of_getElem? (i := 9) (rfl : (k2_sels lw_privs_2)[9]? = some (Cond.selects RX6 yX6_isStone yX6_isStone)))) rfl
theorem ts_yX6_isAct : Cond.selects RX6 yX6_isAct yX6_isAct ∈ TB := tb (tbp2 (List.mem_of_getElem? (i := 10) (rfl : (k2_sels lw_privs_2)[10]? = some (Cond.selects RX6 yX6_isAct yX6_isAct)))) rfl
theorem ts_yX6_isAlive : Cond.selects RX6 yX6_isAlive yX6_isAlive ∈ TB := tb (tbp2 (List.mem_of_getElem? (i := 11) (rfl : (k2_sels lw_privs_2)[11]? = some (Cond.selects RX6 yX6_isAlive yX6_isAlive)))) rfl
theorem ts_yX6_livingBits : Cond.selects RX6 yX6_livingBits yX6_livingBits ∈ TB := tb (tbp2 (List.mem_of_getElem? (i := 12) (rfl : (k2_sels lw_privs_2)[12]? = some (Cond.selects RX6 yX6_livingBits yX6_livingBits)))) rfl
theorem ts_yX6_findKnowing : Cond.selects RX6 yX6_findKnowing yX6_findKnowing ∈ TB := tb (tbp2 (List.mem_of_getElem? (i := 13) (rfl : (k2_sels lw_privs_2)[13]? = some (Cond.selects RX6 yX6_findKnowing yX6_findKnowing)))) rfl
theorem ts_yX6_isKnown : Cond.selects RX6 yX6_isKnown yX6_isKnown ∈ TB := tb (tbp2 (List.mem_of_getElem? (i := 14) (rfl : (k2_sels lw_privs_2)[14]? = some (Cond.selects RX6 yX6_isKnown yX6_isKnown)))) rfl
theorem ts_yX6_oldMany : Cond.selects RX6 yX6_oldMany yX6_oldMany ∈ TB := tb (tbp2 (List.mem_of_getElem? (i := 15) (rfl : (k2_sels lw_privs_2)[15]? = some (Cond.selects RX6 yX6_oldMany yX6_oldMany)))) rfl
theorem ts_yX6_holdAct : Cond.selects RX6 yX6_holdAct yX6_holdAct ∈ TB := tb (tbp3 (List.mem_of_getElem? (i := 0) (rfl : (k2_sels lw_privs_3)[0]? = some (Cond.selects RX6 yX6_holdAct yX6_holdAct)))) rfl
theorem ts_yX6_isBanned : Cond.selects RX6 yX6_isBanned yX6_isBanned ∈ TB := tb (tbp3 (List.mem_of_getElem? (i := 1) (rfl : (k2_sels lw_privs_3)[1]? = some (Cond.selects RX6 yX6_isBanned yX6_isBanned)))) rfl
theorem ts_yX6_hear : Cond.selects RX6 yX6_hear yX6_hear ∈ TB := tb (tbp3 (List.mem_of_getElem? (i := 2) (rfl : (k2_sels lw_privs_3)[2]? = some (Cond.selects RX6 yX6_hear yX6_hear)))) rfl
theorem ts_yX6_against : Cond.selects RX6 yX6_against yX6_against ∈ TB := tb (tbp3 (List.mem_of_getElem? (i := 3) (rfl : (k2_sels lw_privs_3)[3]? = some (Cond.selects RX6 yX6_against yX6_against)))) rfl
theorem ts_yX6_worthOf : Cond.selects RX6 yX6_worthOf yX6_worthOf ∈ TB := tb (tbp3 (List.mem_of_getElem? (i := 4) (rfl : (k2_sels lw_privs_3)[4]? = some (Cond.selects RX6 yX6_worthOf yX6_worthOf)))) rfl
theorem ts_yX6_findWeight : Cond.selects RX6 yX6_findWeight yX6_findWeight ∈ TB := tb (tbp3 (List.mem_of_getElem? (i := 5) (rfl : (k2_sels lw_privs_3)[5]? = some (Cond.selects RX6 yX6_findWeight yX6_findWeight)))) rfl
theorem ts_yX6_findNearest : Cond.selects RX6 yX6_findNearest yX6_findNearest ∈ TB := tb (tbp3 (List.mem_of_getElem? (i := 6) (rfl : (k2_sels lw_privs_3)[6]? = some (Cond.selects RX6 yX6_findNearest yX6_findNearest)))) rfl
theorem ts_yX6_findTellers : Cond.selects RX6 yX6_findTellers yX6_findTellers ∈ TB := tb (tbp3 (List.mem_of_getElem? (i := 7) (rfl : (k2_sels lw_privs_3)[7]? = some (Cond.selects RX6 yX6_findTellers yX6_findTellers)))) rfl
theorem ts_yX6_areAlive : Cond.selects RX6 yX6_areAlive yX6_areAlive ∈ TB := tb (tbp3 (List.mem_of_getElem? (i := 8) (rfl : (k2_sels lw_privs_3)[8]? = some (Cond.selects RX6 yX6_areAlive yX6_areAlive)))) rfl
theorem ts_yX6_isTold : Cond.selects RX6 yX6_isTold yX6_isTold ∈ TB := tb (tbp3 (List.mem_of_getElem? (i := 9) (rfl : (k2_sels lw_privs_3)[9]? = some (Cond.selects RX6 yX6_isTold yX6_isTold)))) rfl
theorem ts_yX6_step : Cond.selects RX6 yX6_step yX6_step ∈ TB := tb (tbp3 (List.mem_of_getElem? (i := 10) (rfl : (k2_sels lw_privs_3)[10]? = some (Cond.selects RX6 yX6_step yX6_step)))) rfl
theorem tlx0 : ∀ k, k < 10 → u_lay RX0 TX0 k ∈ TB := fun k hk => by
  match k, hk with
  | 0, _ => exact tb (tb1 (List.mem_of_getElem? (i := 111) (rfl : tables_1_1[111]? = some (u_lay RX0 TX0 0)))) rfl
  | 1, _ => exact tb (tb1 (List.mem_of_getElem? (i := 113) (rfl : tables_1_1[113]? = some (u_lay RX0 TX0 1)))) rfl
  | 2, _ => exact tb (tb1 (List.mem_of_getElem? (i := 115) (rfl : tables_1_1[115]? = some (u_lay RX0 TX0 2)))) rfl
  | 3, _ => exact tb (tb1 (List.mem_of_getElem? (i := 117) (rfl : tables_1_1[117]? = some (u_lay RX0 TX0 3)))) rfl
  | 4, _ => exact tb (tb1 (List.mem_of_getElem? (i := 119) (rfl : tables_1_1[119]? = some (u_lay RX0 TX0 4)))) rfl
  | 5, _ => exact tb (tb1 (List.mem_of_getElem? (i := 121) (rfl : tables_1_1[121]? = some (u_lay RX0 TX0 5)))) rfl
  | 6, _ => exact tb (tb1 (List.mem_of_getElem? (i := 123) (rfl : tables_1_1[123]? = some (u_lay RX0 TX0 6)))) rfl
  | 7, _ => exact tb (tb1 (List.mem_of_getElem? (i := 125) (rfl : tables_1_1[125]? = some (u_lay RX0 TX0 7)))) rfl
  | 8, _ => exact tb (tb1 (List.mem_of_getElem? (i := 127) (rfl : tables_1_1[127]? = some (u_lay RX0 TX0 8)))) rfl
  | 9, _ => exact tb (tb1 (List.mem_of_getElem? (i := 129) (rfl : tables_1_1[129]? = some (u_lay RX0 TX0 9)))) rfl
  | k + 10, hk => exact absurd hk (by omega)
theorem tl0 : ∀ w ∈ u_ws RX0 TX0 10, w ∈ TB := fun w hw => by
  obtain ⟨k, hk, rfl⟩ := List.mem_map.mp hw
  exact tlx0 k (List.mem_range.mp hk)
theorem tlx1 : ∀ k, k < 6 → u_lay RX1 TX1 k ∈ TB := fun k hk => by
  match k, hk with
  | 0, _ => exact tb (tb1 (List.mem_of_getElem? (i := 148) (rfl : tables_1_1[148]? = some (u_lay RX1 TX1 0)))) rfl
  | 1, _ => exact tb (tb1 (List.mem_of_getElem? (i := 150) (rfl : tables_1_1[150]? = some (u_lay RX1 TX1 1)))) rfl
  | 2, _ => exact tb (tb1 (List.mem_of_getElem? (i := 152) (rfl : tables_1_1[152]? = some (u_lay RX1 TX1 2)))) rfl
  | 3, _ => exact tb (tb1 (List.mem_of_getElem? (i := 154) (rfl : tables_1_1[154]? = some (u_lay RX1 TX1 3)))) rfl
  | 4, _ => exact tb (tb1 (List.mem_of_getElem? (i := 156) (rfl : tables_1_1[156]? = some (u_lay RX1 TX1 4)))) rfl
  | 5, _ => exact tb (tb1 (List.mem_of_getElem? (i := 158) (rfl : tables_1_1[158]? = some (u_lay RX1 TX1 5)))) rfl
  | k + 6, hk => exact absurd hk (by omega)
theorem tl1 : ∀ w ∈ u_ws RX1 TX1 6, w ∈ TB := fun w hw => by
  obtain ⟨k, hk, rfl⟩ := List.mem_map.mp hw
  exact tlx1 k (List.mem_range.mp hk)
theorem tlx2 : ∀ k, k < 7 → u_lay RX2 TX2 k ∈ TB := fun k hk => by
  match k, hk with
  | 0, _ => exact tb (tb1 (List.mem_of_getElem? (i := 38) (rfl : tables_1_1[38]? = some (u_lay RX2 TX2 0)))) rfl
  | 1, _ => exact tb (tb1 (List.mem_of_getElem? (i := 40) (rfl : tables_1_1[40]? = some (u_lay RX2 TX2 1)))) rfl
  | 2, _ => exact tb (tb1 (List.mem_of_getElem? (i := 42) (rfl : tables_1_1[42]? = some (u_lay RX2 TX2 2)))) rfl
  | 3, _ => exact tb (tb1 (List.mem_of_getElem? (i := 44) (rfl : tables_1_1[44]? = some (u_lay RX2 TX2 3)))) rfl
  | 4, _ => exact tb (tb1 (List.mem_of_getElem? (i := 46) (rfl : tables_1_1[46]? = some (u_lay RX2 TX2 4)))) rfl
  | 5, _ => exact tb (tb1 (List.mem_of_getElem? (i := 48) (rfl : tables_1_1[48]? = some (u_lay RX2 TX2 5)))) rfl
  | 6, _ => exact tb (tb1 (List.mem_of_getElem? (i := 50) (rfl : tables_1_1[50]? = some (u_lay RX2 TX2 6)))) rfl
  | k + 7, hk => exact absurd hk (by omega)
theorem tl2 : ∀ w ∈ u_ws RX2 TX2 7, w ∈ TB := fun w hw => by
  obtain ⟨k, hk, rfl⟩ := List.mem_map.mp hw
  exact tlx2 k (List.mem_range.mp hk)
theorem tlx3 : ∀ k, k < 4 → u_lay RX3 TX3 k ∈ TB := fun k hk => by
  match k, hk with
  | 0, _ => exact tb (tb1 (List.mem_of_getElem? (i := 175) (rfl : tables_1_1[175]? = some (u_lay RX3 TX3 0)))) rfl
  | 1, _ => exact tb (tb1 (List.mem_of_getElem? (i := 177) (rfl : tables_1_1[177]? = some (u_lay RX3 TX3 1)))) rfl
  | 2, _ => exact tb (tb1 (List.mem_of_getElem? (i := 179) (rfl : tables_1_1[179]? = some (u_lay RX3 TX3 2)))) rfl
  | 3, _ => exact tb (tb1 (List.mem_of_getElem? (i := 181) (rfl : tables_1_1[181]? = some (u_lay RX3 TX3 3)))) rfl
  | k + 4, hk => exact absurd hk (by omega)
theorem tl3 : ∀ w ∈ u_ws RX3 TX3 4, w ∈ TB := fun w hw => by
  obtain ⟨k, hk, rfl⟩ := List.mem_map.mp hw
  exact tlx3 k (List.mem_range.mp hk)
theorem tlx4 : ∀ k, k < 4 → u_lay RX4 TX4 k ∈ TB := fun k hk => by
  match k, hk with
  | 0, _ => exact tb (tb1 (List.mem_of_getElem? (i := 70) (rfl : tables_1_1[70]? = some (u_lay RX4 TX4 0)))) rfl
  | 1, _ => exact tb (tb1 (List.mem_of_getElem? (i := 72) (rfl : tables_1_1[72]? = some (u_lay RX4 TX4 1)))) rfl
  | 2, _ => exact tb (tb1 (List.mem_of_getElem? (i := 74) (rfl : tables_1_1[74]? = some (u_lay RX4 TX4 2)))) rfl
  | 3, _ => exact tb (tb1 (List.mem_of_getElem? (i := 76) (rfl : tables_1_1[76]? = some (u_lay RX4 TX4 3)))) rfl
  | k + 4, hk => exact absurd hk (by omega)
theorem tl4 : ∀ w ∈ u_ws RX4 TX4 4, w ∈ TB := fun w hw => by
  obtain ⟨k, hk, rfl⟩ := List.mem_map.mp hw
  exact tlx4 k (List.mem_range.mp hk)
theorem tlx5 : ∀ k, k < 10 → u_lay RX5 TX5 k ∈ TB := fun k hk => by
  match k, hk with
  | 0, _ => exact tb (tb1 (List.mem_of_getElem? (i := 195) (rfl : tables_1_1[195]? = some (u_lay RX5 TX5 0)))) rfl
  | 1, _ => exact tb (tb1 (List.mem_of_getElem? (i := 197) (rfl : tables_1_1[197]? = some (u_lay RX5 TX5 1)))) rfl
  | 2, _ => exact tb (tb1 (List.mem_of_getElem? (i := 199) (rfl : tables_1_1[199]? = some (u_lay RX5 TX5 2)))) rfl
  | 3, _ => exact tb (tb1 (List.mem_of_getElem? (i := 201) (rfl : tables_1_1[201]? = some (u_lay RX5 TX5 3)))) rfl
  | 4, _ => exact tb (tb1 (List.mem_of_getElem? (i := 203) (rfl : tables_1_1[203]? = some (u_lay RX5 TX5 4)))) rfl
  | 5, _ => exact tb (tb1 (List.mem_of_getElem? (i := 205) (rfl : tables_1_1[205]? = some (u_lay RX5 TX5 5)))) rfl
  | 6, _ => exact tb (tb1 (List.mem_of_getElem? (i := 207) (rfl : tables_1_1[207]? = some (u_lay RX5 TX5 6)))) rfl
  | 7, _ => exact tb (tb1 (List.mem_of_getElem? (i := 209) (rfl : tables_1_1[209]? = some (u_lay RX5 TX5 7)))) rfl
  | 8, _ => exact tb (tb1 (List.mem_of_getElem? (i := 211) (rfl : tables_1_1[211]? = some (u_lay RX5 TX5 8)))) rfl
  | 9, _ => exact tb (tb1 (List.mem_of_getElem? (i := 213) (rfl : tables_1_1[213]? = some (u_lay RX5 TX5 9)))) rfl
  | k + 10, hk => exact absurd hk (by omega)
theorem tl5 : ∀ w ∈ u_ws RX5 TX5 10, w ∈ TB := fun w hw => by
  obtain ⟨k, hk, rfl⟩ := List.mem_map.mp hw
  exact tlx5 k (List.mem_range.mp hk)
theorem tlx6 : ∀ k, k < 33 → u_lay RX6 TX6 k ∈ TB := fun k hk => by
  match k, hk with
  | 0, _ => exact tb (tb3 (List.mem_of_getElem? (i := 130) (rfl : tables_1_3[130]? = some (u_lay RX6 TX6 0)))) rfl
  | 1, _ => exact tb (tb3 (List.mem_of_getElem? (i := 132) (rfl : tables_1_3[132]? = some (u_lay RX6 TX6 1)))) rfl
  | 2, _ => exact tb (tb3 (List.mem_of_getElem? (i := 134) (rfl : tables_1_3[134]? = some (u_lay RX6 TX6 2)))) rfl
  | 3, _ => exact tb (tb3 (List.mem_of_getElem? (i := 136) (rfl : tables_1_3[136]? = some (u_lay RX6 TX6 3)))) rfl
  | 4, _ => exact tb (tb3 (List.mem_of_getElem? (i := 138) (rfl : tables_1_3[138]? = some (u_lay RX6 TX6 4)))) rfl
  | 5, _ => exact tb (tb3 (List.mem_of_getElem? (i := 140) (rfl : tables_1_3[140]? = some (u_lay RX6 TX6 5)))) rfl
  | 6, _ => exact tb (tb3 (List.mem_of_getElem? (i := 142) (rfl : tables_1_3[142]? = some (u_lay RX6 TX6 6)))) rfl
  | 7, _ => exact tb (tb3 (List.mem_of_getElem? (i := 144) (rfl : tables_1_3[144]? = some (u_lay RX6 TX6 7)))) rfl
  | 8, _ => exact tb (tb3 (List.mem_of_getElem? (i := 146) (rfl : tables_1_3[146]? = some (u_lay RX6 TX6 8)))) rfl
  | 9, _ => exact tb (tb3 (List.mem_of_getElem? (i := 148) (rfl : tables_1_3[148]? = some (u_lay RX6 TX6 9)))) rfl
  | 10, _ => exact tb (tb3 (List.mem_of_getElem? (i := 150) (rfl : tables_1_3[150]? = some (u_lay RX6 TX6 10)))) rfl
  | 11, _ => exact tb (tb3 (List.mem_of_getElem? (i := 152) (rfl : tables_1_3[152]? = some (u_lay RX6 TX6 11)))) rfl
  | 12, _ => exact tb (tb3 (List.mem_of_getElem? (i := 154) (rfl : tables_1_3[154]? = some (u_lay RX6 TX6 12)))) rfl
  | 13, _ => exact tb (tb3 (List.mem_of_getElem? (i := 156) (rfl : tables_1_3[156]? = some (u_lay RX6 TX6 13)))) rfl
  | 14, _ => exact tb (tb3 (List.mem_of_getElem? (i := 158) (rfl : tables_1_3[158]? = some (u_lay RX6 TX6 14)))) rfl
  | 15, _ => exact tb (tb3 (List.mem_of_getElem? (i := 160) (rfl : tables_1_3[160]? = some (u_lay RX6 TX6 15)))) rfl
  | 16, _ => exact tb (tb3 (List.mem_of_getElem? (i := 162) (rfl : tables_1_3[162]? = some (u_lay RX6 TX6 16)))) rfl
  | 17, _ => exact tb (tb3 (List.mem_of_getElem? (i := 164) (rfl : tables_1_3[164]? = some (u_lay RX6 TX6 17)))) rfl
  | 18, _ => exact tb (tb3 (List.mem_of_getElem? (i := 166) (rfl : tables_1_3[166]? = some (u_lay RX6 TX6 18)))) rfl
  | 19, _ => exact tb (tb3 (List.mem_of_getElem? (i := 168) (rfl : tables_1_3[168]? = some (u_lay RX6 TX6 19)))) rfl
  | 20, _ => exact tb (tb3 (List.mem_of_getElem? (i := 170) (rfl : tables_1_3[170]? = some (u_lay RX6 TX6 20)))) rfl
  | 21, _ => exact tb (tb3 (List.mem_of_getElem? (i := 172) (rfl : tables_1_3[172]? = some (u_lay RX6 TX6 21)))) rfl
  | 22, _ => exact tb (tb3 (List.mem_of_getElem? (i := 174) (rfl : tables_1_3[174]? = some (u_lay RX6 TX6 22)))) rfl
  | 23, _ => exact tb (tb3 (List.mem_of_getElem? (i := 176) (rfl : tables_1_3[176]? = some (u_lay RX6 TX6 23)))) rfl
  | 24, _ => exact tb (tb3 (List.mem_of_getElem? (i := 178) (rfl : tables_1_3[178]? = some (u_lay RX6 TX6 24)))) rfl
  | 25, _ => exact tb (tb3 (List.mem_of_getElem? (i := 180) (rfl : tables_1_3[180]? = some (u_lay RX6 TX6 25)))) rfl
  | 26, _ => exact tb (tb3 (List.mem_of_getElem? (i := 182) (rfl : tables_1_3[182]? = some (u_lay RX6 TX6 26)))) rfl
  | 27, _ => exact tb (tb3 (List.mem_of_getElem? (i := 184) (rfl : tables_1_3[184]? = some (u_lay RX6 TX6 27)))) rfl
  | 28, _ => exact tb (tb3 (List.mem_of_getElem? (i := 186) (rfl : tables_1_3[186]? = some (u_lay RX6 TX6 28)))) rfl
  | 29, _ => exact tb (tb3 (List.mem_of_getElem? (i := 188) (rfl : tables_1_3[188]? = some (u_lay RX6 TX6 29)))) rfl
  | 30, _ => exact tb (tb3 (List.mem_of_getElem? (i := 190) (rfl : tables_1_3[190]? = some (u_lay RX6 TX6 30)))) rfl
  | 31, _ => exact tb (tb3 (List.mem_of_getElem? (i := 192) (rfl : tables_1_3[192]? = some (u_lay RX6 TX6 31)))) rfl
  | 32, _ => exact tb (tb3 (List.mem_of_getElem? (i := 194) (rfl : tables_1_3[194]? = some (u_lay RX6 TX6 32)))) rfl
  | k + 33, hk => exact absurd hk (by omega)
theorem tl6 : ∀ w ∈ u_ws RX6 TX6 33, w ∈ TB := fun w hw => by
  obtain ⟨k, hk, rfl⟩ := List.mem_map.mp hw
  exact tlx6 k (List.mem_range.mp hk)
