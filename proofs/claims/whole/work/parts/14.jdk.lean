/-! what the tables say of the JDK methods that are called (made by wip/whole/gjdk.py) -/
theorem jst_max : Cond.static Lib.Math.max.name ∈ gtb := gtb_in (tb_4 (List.mem_of_getElem? (i := 169) (by decide +kernel))) rfl
set_option maxRecDepth 100000 in
theorem jcd_max : Cond.code Lib.Math.max.name Lib.Math.max.code 2 (some .int) ∈ gtb := gtb_in (tb_4 (List.mem_of_getElem? (i := 170) (by decide +kernel))) rfl
theorem lk_8_28 : Cond.methodLink RX8 28 Lib.Math.max.name ∈ gtb := gtb_in (tb_4 (List.mem_of_getElem? (i := 168) (by decide +kernel))) rfl
theorem lk_10_302 : Cond.methodLink RX10 302 Lib.Math.max.name ∈ gtb := gtb_in (tb_5 (List.mem_of_getElem? (i := 76) (by decide +kernel))) rfl
theorem lk_11_399 : Cond.methodLink RX11 399 Lib.Math.max.name ∈ gtb := gtb_in (tb_8 (List.mem_of_getElem? (i := 45) (by decide +kernel))) rfl
theorem jst_min : Cond.static Lib.Math.min.name ∈ gtb := gtb_in (tb_3 (List.mem_of_getElem? (i := 12) (by decide +kernel))) rfl
set_option maxRecDepth 100000 in
theorem jcd_min : Cond.code Lib.Math.min.name Lib.Math.min.code 2 (some .int) ∈ gtb := gtb_in (tb_3 (List.mem_of_getElem? (i := 13) (by decide +kernel))) rfl
theorem lk_7_265 : Cond.methodLink RX7 265 Lib.Math.min.name ∈ gtb := gtb_in (tb_3 (List.mem_of_getElem? (i := 11) (by decide +kernel))) rfl
theorem jst_abs : Cond.static Lib.MathLoose.abs_long.x ∈ gtb := gtb_in (tb_4 (List.mem_of_getElem? (i := 121) (by decide +kernel))) rfl
set_option maxRecDepth 100000 in
theorem jcd_abs : Cond.code Lib.MathLoose.abs_long.x Lib.MathLoose.abs_long.code 2 (some .long) ∈ gtb := gtb_in (tb_4 (List.mem_of_getElem? (i := 122) (by decide +kernel))) rfl
theorem lk_3_72 : Cond.methodLink RX3 72 Lib.MathLoose.abs_long.x ∈ gtb := gtb_in (tb_4 (List.mem_of_getElem? (i := 120) (by decide +kernel))) rfl
theorem lk_11_334 : Cond.methodLink RX11 334 Lib.MathLoose.abs_long.x ∈ gtb := gtb_in (tb_7 (List.mem_of_getElem? (i := 239) (by decide +kernel))) rfl
theorem jin_math : Cond.initialized "java/lang/Math" ∈ gtb := gtb_in (tb_1 (List.mem_of_getElem? (i := 16) (by decide +kernel))) rfl
theorem jin_sys : Cond.initialized "java/lang/System" ∈ gtb := gtb_in (tb_1 (List.mem_of_getElem? (i := 17) (by decide +kernel))) rfl
theorem jna_copy : Cond.native arraycopyName ∈ gtb := gtb_in (tb_3 (List.mem_of_getElem? (i := 131) (by decide +kernel))) rfl
theorem jst_copy : Cond.static arraycopyName ∈ gtb := gtb_in (tb_3 (List.mem_of_getElem? (i := 130) (by decide +kernel))) rfl
theorem lk_5_66 : Cond.methodLink RX5 66 arraycopyName ∈ gtb := gtb_in (tb_3 (List.mem_of_getElem? (i := 129) (by decide +kernel))) rfl
theorem lk_0_48 : Cond.methodLink RX0 48 arraycopyName ∈ gtb := gtb_in (tb_3 (List.mem_of_getElem? (i := 216) (by decide +kernel))) rfl
theorem lk_3_32 : Cond.methodLink RX3 32 arraycopyName ∈ gtb := gtb_in (tb_3 (List.mem_of_getElem? (i := 221) (by decide +kernel))) rfl
theorem lk_2_19 : Cond.methodLink RX2 19 arraycopyName ∈ gtb := gtb_in (tb_3 (List.mem_of_getElem? (i := 226) (by decide +kernel))) rfl
def yJ_bitCount : MethodName := ⟨"java/lang/Integer", "bitCount", "(I)I"⟩
abbrev mJ_bitCount : MT := (yJ_bitCount, prog_19_method_49_code, 1, some .int)
set_option maxRecDepth 100000 in
theorem cv_mJ_bitCount : CV mJ_bitCount 1 := ⟨gtb_in (tb_4 (List.mem_of_getElem? (i := 164) (by rfl))) rfl, gtb_in (tb_1 (List.mem_of_getElem? (i := 23) (by decide +kernel))) rfl, ⟨by decide +kernel, by decide +kernel⟩, by decide +kernel, by decide +kernel⟩
theorem st_mJ_bitCount : Cond.static yJ_bitCount ∈ gtb := gtb_in (tb_4 (List.mem_of_getElem? (i := 163) (by decide +kernel))) rfl
theorem lk_8_22 : Cond.methodLink RX8 22 yJ_bitCount ∈ gtb := gtb_in (tb_4 (List.mem_of_getElem? (i := 162) (by decide +kernel))) rfl
theorem lk_10_162 : Cond.methodLink RX10 162 yJ_bitCount ∈ gtb := gtb_in (tb_5 (List.mem_of_getElem? (i := 71) (by decide +kernel))) rfl
theorem lk_9_84 : Cond.methodLink RX9 84 yJ_bitCount ∈ gtb := gtb_in (tb_5 (List.mem_of_getElem? (i := 101) (by decide +kernel))) rfl
theorem ki_7_264 : lw_tbl[607]? = some (Cond.constant RX7 264 (Int32.ofInt (100000))) := by decide +kernel
theorem kl_3_68 : lw_tbl[951]? = some (Cond.constantLong RX3 68 (Int64.ofInt (1000000000000))) := by decide +kernel
theorem kl_3_70 : lw_tbl[952]? = some (Cond.constantLong RX3 70 (Int64.ofInt (-1000000000000))) := by decide +kernel
theorem kl_3_58 : lw_tbl[953]? = some (Cond.constantLong RX3 58 (Int64.ofInt (-9223372036854775808))) := by decide +kernel
theorem kl_9_59 : lw_tbl[960]? = some (Cond.constantLong RX9 59 (Int64.ofInt (-9223372036854775808))) := by decide +kernel
theorem kl_10_230 : lw_tbl[971]? = some (Cond.constantLong RX10 230 (Int64.ofInt (-9223372036854775808))) := by decide +kernel
theorem ki_J_265 : lw_tbl[1002]? = some (Cond.constant "java/lang/Integer" 265 (Int32.ofInt (1431655765))) := by decide +kernel
theorem ki_J_266 : lw_tbl[1003]? = some (Cond.constant "java/lang/Integer" 266 (Int32.ofInt (858993459))) := by decide +kernel
theorem ki_J_267 : lw_tbl[1004]? = some (Cond.constant "java/lang/Integer" 267 (Int32.ofInt (252645135))) := by decide +kernel
theorem ki_6_58 : lw_tbl[1108]? = some (Cond.constant RX6 58 (Int32.ofInt (1000000))) := by decide +kernel
theorem kl_1_117 : lw_tbl[1230]? = some (Cond.constantLong RX1 117 (Int64.ofInt (-9223372036854775808))) := by decide +kernel
theorem kl_11_340 : lw_tbl[1797]? = some (Cond.constantLong RX11 340 (Int64.ofInt (1000000000000))) := by decide +kernel
theorem kl_11_342 : lw_tbl[1798]? = some (Cond.constantLong RX11 342 (Int64.ofInt (-1000000000000))) := by decide +kernel
theorem kl_11_375 : lw_tbl[1807]? = some (Cond.constantLong RX11 375 (Int64.ofInt (-9223372036854775808))) := by decide +kernel
