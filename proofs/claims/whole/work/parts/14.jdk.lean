/-! what the tables say of the JDK methods that are called (made by wip/whole/gjdk.py) -/
theorem jst_max : Cond.static Lib.Math.max.name ∈ gtb := gtb_in (tb_4 (List.mem_of_getElem? (i := 174) (by decide +kernel))) rfl
set_option maxRecDepth 100000 in
theorem jcd_max : Cond.code Lib.Math.max.name Lib.Math.max.code 2 (some .int) ∈ gtb := gtb_in (tb_4 (List.mem_of_getElem? (i := 175) (by decide +kernel))) rfl
theorem lk_8_28 : Cond.methodLink RX8 28 Lib.Math.max.name ∈ gtb := gtb_in (tb_4 (List.mem_of_getElem? (i := 173) (by decide +kernel))) rfl
theorem lk_10_308 : Cond.methodLink RX10 308 Lib.Math.max.name ∈ gtb := gtb_in (tb_5 (List.mem_of_getElem? (i := 81) (by decide +kernel))) rfl
theorem lk_11_399 : Cond.methodLink RX11 399 Lib.Math.max.name ∈ gtb := gtb_in (tb_8 (List.mem_of_getElem? (i := 50) (by decide +kernel))) rfl
theorem jst_min : Cond.static Lib.Math.min.name ∈ gtb := gtb_in (tb_3 (List.mem_of_getElem? (i := 17) (by decide +kernel))) rfl
set_option maxRecDepth 100000 in
theorem jcd_min : Cond.code Lib.Math.min.name Lib.Math.min.code 2 (some .int) ∈ gtb := gtb_in (tb_3 (List.mem_of_getElem? (i := 18) (by decide +kernel))) rfl
theorem lk_7_265 : Cond.methodLink RX7 265 Lib.Math.min.name ∈ gtb := gtb_in (tb_3 (List.mem_of_getElem? (i := 16) (by decide +kernel))) rfl
theorem jst_abs : Cond.static Lib.MathLoose.abs_long.x ∈ gtb := gtb_in (tb_4 (List.mem_of_getElem? (i := 126) (by decide +kernel))) rfl
set_option maxRecDepth 100000 in
theorem jcd_abs : Cond.code Lib.MathLoose.abs_long.x Lib.MathLoose.abs_long.code 2 (some .long) ∈ gtb := gtb_in (tb_4 (List.mem_of_getElem? (i := 127) (by decide +kernel))) rfl
theorem lk_3_72 : Cond.methodLink RX3 72 Lib.MathLoose.abs_long.x ∈ gtb := gtb_in (tb_4 (List.mem_of_getElem? (i := 125) (by decide +kernel))) rfl
theorem lk_11_334 : Cond.methodLink RX11 334 Lib.MathLoose.abs_long.x ∈ gtb := gtb_in (tb_8 (List.mem_of_getElem? (i := 4) (by decide +kernel))) rfl
theorem jin_math : Cond.initialized "java/lang/Math" ∈ gtb := gtb_in (tb_1 (List.mem_of_getElem? (i := 16) (by decide +kernel))) rfl
theorem jin_sys : Cond.initialized "java/lang/System" ∈ gtb := gtb_in (tb_1 (List.mem_of_getElem? (i := 17) (by decide +kernel))) rfl
theorem jna_copy : Cond.native arraycopyName ∈ gtb := gtb_in (tb_3 (List.mem_of_getElem? (i := 136) (by decide +kernel))) rfl
theorem jst_copy : Cond.static arraycopyName ∈ gtb := gtb_in (tb_3 (List.mem_of_getElem? (i := 135) (by decide +kernel))) rfl
theorem lk_5_66 : Cond.methodLink RX5 66 arraycopyName ∈ gtb := gtb_in (tb_3 (List.mem_of_getElem? (i := 134) (by decide +kernel))) rfl
theorem lk_0_48 : Cond.methodLink RX0 48 arraycopyName ∈ gtb := gtb_in (tb_3 (List.mem_of_getElem? (i := 221) (by decide +kernel))) rfl
theorem lk_3_32 : Cond.methodLink RX3 32 arraycopyName ∈ gtb := gtb_in (tb_3 (List.mem_of_getElem? (i := 226) (by decide +kernel))) rfl
theorem lk_2_19 : Cond.methodLink RX2 19 arraycopyName ∈ gtb := gtb_in (tb_3 (List.mem_of_getElem? (i := 231) (by decide +kernel))) rfl
def yJ_bitCount : MethodName := ⟨"java/lang/Integer", "bitCount", "(I)I"⟩
abbrev mJ_bitCount : MT := (yJ_bitCount, prog_19_method_49_code, 1, some .int)
set_option maxRecDepth 100000 in
theorem cv_mJ_bitCount : CV mJ_bitCount 1 := ⟨gtb_in (tb_4 (List.mem_of_getElem? (i := 169) (by rfl))) rfl, gtb_in (tb_1 (List.mem_of_getElem? (i := 23) (by decide +kernel))) rfl, ⟨by decide +kernel, by decide +kernel⟩, by decide +kernel, by decide +kernel⟩
theorem st_mJ_bitCount : Cond.static yJ_bitCount ∈ gtb := gtb_in (tb_4 (List.mem_of_getElem? (i := 168) (by decide +kernel))) rfl
theorem lk_8_22 : Cond.methodLink RX8 22 yJ_bitCount ∈ gtb := gtb_in (tb_4 (List.mem_of_getElem? (i := 167) (by decide +kernel))) rfl
theorem lk_10_168 : Cond.methodLink RX10 168 yJ_bitCount ∈ gtb := gtb_in (tb_5 (List.mem_of_getElem? (i := 76) (by decide +kernel))) rfl
theorem lk_9_84 : Cond.methodLink RX9 84 yJ_bitCount ∈ gtb := gtb_in (tb_5 (List.mem_of_getElem? (i := 106) (by decide +kernel))) rfl
theorem ki_7_264 : lw_tbl[612]? = some (Cond.constant RX7 264 (Int32.ofInt (100000))) := by decide +kernel
theorem kl_3_68 : lw_tbl[956]? = some (Cond.constantLong RX3 68 (Int64.ofInt (1000000000000))) := by decide +kernel
theorem kl_3_70 : lw_tbl[957]? = some (Cond.constantLong RX3 70 (Int64.ofInt (-1000000000000))) := by decide +kernel
theorem kl_3_58 : lw_tbl[958]? = some (Cond.constantLong RX3 58 (Int64.ofInt (-9223372036854775808))) := by decide +kernel
theorem kl_9_59 : lw_tbl[965]? = some (Cond.constantLong RX9 59 (Int64.ofInt (-9223372036854775808))) := by decide +kernel
theorem kl_10_236 : lw_tbl[976]? = some (Cond.constantLong RX10 236 (Int64.ofInt (-9223372036854775808))) := by decide +kernel
theorem ki_J_265 : lw_tbl[1007]? = some (Cond.constant "java/lang/Integer" 265 (Int32.ofInt (1431655765))) := by decide +kernel
theorem ki_J_266 : lw_tbl[1008]? = some (Cond.constant "java/lang/Integer" 266 (Int32.ofInt (858993459))) := by decide +kernel
theorem ki_J_267 : lw_tbl[1009]? = some (Cond.constant "java/lang/Integer" 267 (Int32.ofInt (252645135))) := by decide +kernel
theorem ki_6_58 : lw_tbl[1113]? = some (Cond.constant RX6 58 (Int32.ofInt (1000000))) := by decide +kernel
theorem kl_1_120 : lw_tbl[1235]? = some (Cond.constantLong RX1 120 (Int64.ofInt (-9223372036854775808))) := by decide +kernel
theorem kl_11_340 : lw_tbl[1802]? = some (Cond.constantLong RX11 340 (Int64.ofInt (1000000000000))) := by decide +kernel
theorem kl_11_342 : lw_tbl[1803]? = some (Cond.constantLong RX11 342 (Int64.ofInt (-1000000000000))) := by decide +kernel
theorem kl_11_375 : lw_tbl[1812]? = some (Cond.constantLong RX11 375 (Int64.ofInt (-9223372036854775808))) := by decide +kernel
