theorem tb_1 {w : Cond} (h : w ∈ tables_1_1) : w ∈ lw_tbl := List.mem_append_right _ (show w ∈ tables_1 from List.mem_append_left _ h)
theorem tb_2 {w : Cond} (h : w ∈ tables_1_2) : w ∈ lw_tbl := List.mem_append_right _ (show w ∈ tables_1 from List.mem_append_right _ (List.mem_append_left _ h))
theorem tb_3 {w : Cond} (h : w ∈ tables_1_3) : w ∈ lw_tbl := List.mem_append_right _ (show w ∈ tables_1 from List.mem_append_right _ (List.mem_append_right _ (List.mem_append_left _ h)))
theorem tb_4 {w : Cond} (h : w ∈ tables_1_4) : w ∈ lw_tbl := List.mem_append_right _ (show w ∈ tables_1 from List.mem_append_right _ (List.mem_append_right _ (List.mem_append_right _ (List.mem_append_left _ h))))
theorem tb_5 {w : Cond} (h : w ∈ tables_1_5) : w ∈ lw_tbl := List.mem_append_right _ (show w ∈ tables_1 from List.mem_append_right _ (List.mem_append_right _ (List.mem_append_right _ (List.mem_append_right _ (List.mem_append_left _ h)))))
theorem tb_6 {w : Cond} (h : w ∈ tables_1_6) : w ∈ lw_tbl := List.mem_append_right _ (show w ∈ tables_1 from List.mem_append_right _ (List.mem_append_right _ (List.mem_append_right _ (List.mem_append_right _ (List.mem_append_right _ (List.mem_append_left _ h))))))
theorem tb_7 {w : Cond} (h : w ∈ tables_1_7) : w ∈ lw_tbl := List.mem_append_right _ (show w ∈ tables_1 from List.mem_append_right _ (List.mem_append_right _ (List.mem_append_right _ (List.mem_append_right _ (List.mem_append_right _ (List.mem_append_right _ (List.mem_append_left _ h)))))))
theorem tb_8 {w : Cond} (h : w ∈ tables_1_8) : w ∈ lw_tbl := List.mem_append_right _ (show w ∈ tables_1 from List.mem_append_right _ (List.mem_append_right _ (List.mem_append_right _ (List.mem_append_right _ (List.mem_append_right _ (List.mem_append_right _ (List.mem_append_right _ (h))))))))
/-! the methods, and what the tables say of their calls and fields (made by wip/whole/glinks.py) -/
abbrev m10_init : MT := (yX10_init, cX10_init, 1, none)
set_option maxRecDepth 100000 in
theorem cv_m10_init : CV m10_init 0 := ⟨gtb_in (tb_1 (List.mem_of_getElem? (i := 29) (by rfl))) rfl, gtb_in (tb_1 (List.mem_of_getElem? (i := 1) (by decide +kernel))) rfl, ⟨by decide +kernel, by decide +kernel⟩, by decide +kernel, by decide +kernel⟩
theorem in_m10_init : Cond.instanceMethod yX10_init ∈ gtb := gtb_in (tb_1 (List.mem_of_getElem? (i := 28) (by decide +kernel))) rfl
abbrev m7_init : MT := (yX7_init, cX7_init, 2, none)
set_option maxRecDepth 100000 in
theorem cv_m7_init : CV m7_init 0 := ⟨gtb_in (tb_1 (List.mem_of_getElem? (i := 37) (by rfl))) rfl, gtb_in (tb_1 (List.mem_of_getElem? (i := 2) (by decide +kernel))) rfl, ⟨by decide +kernel, by decide +kernel⟩, by decide +kernel, by decide +kernel⟩
theorem in_m7_init : Cond.instanceMethod yX7_init ∈ gtb := gtb_in (tb_1 (List.mem_of_getElem? (i := 36) (by decide +kernel))) rfl
abbrev m0_init : MT := (yX0_init, cX0_init, 1, none)
set_option maxRecDepth 100000 in
theorem cv_m0_init : CV m0_init 0 := ⟨gtb_in (tb_1 (List.mem_of_getElem? (i := 43) (by rfl))) rfl, gtb_in (tb_1 (List.mem_of_getElem? (i := 3) (by decide +kernel))) rfl, ⟨by decide +kernel, by decide +kernel⟩, by decide +kernel, by decide +kernel⟩
theorem in_m0_init : Cond.instanceMethod yX0_init ∈ gtb := gtb_in (tb_1 (List.mem_of_getElem? (i := 42) (by decide +kernel))) rfl
abbrev m3_init : MT := (yX3_init, cX3_init, 1, none)
set_option maxRecDepth 100000 in
theorem cv_m3_init : CV m3_init 0 := ⟨gtb_in (tb_1 (List.mem_of_getElem? (i := 49) (by rfl))) rfl, gtb_in (tb_1 (List.mem_of_getElem? (i := 4) (by decide +kernel))) rfl, ⟨by decide +kernel, by decide +kernel⟩, by decide +kernel, by decide +kernel⟩
theorem in_m3_init : Cond.instanceMethod yX3_init ∈ gtb := gtb_in (tb_1 (List.mem_of_getElem? (i := 48) (by decide +kernel))) rfl
abbrev m2_init : MT := (yX2_init, cX2_init, 1, none)
set_option maxRecDepth 100000 in
theorem cv_m2_init : CV m2_init 0 := ⟨gtb_in (tb_1 (List.mem_of_getElem? (i := 125) (by rfl))) rfl, gtb_in (tb_1 (List.mem_of_getElem? (i := 5) (by decide +kernel))) rfl, ⟨by decide +kernel, by decide +kernel⟩, by decide +kernel, by decide +kernel⟩
theorem in_m2_init : Cond.instanceMethod yX2_init ∈ gtb := gtb_in (tb_1 (List.mem_of_getElem? (i := 124) (by decide +kernel))) rfl
abbrev m5_init : MT := (yX5_init, cX5_init, 1, none)
set_option maxRecDepth 100000 in
theorem cv_m5_init : CV m5_init 0 := ⟨gtb_in (tb_1 (List.mem_of_getElem? (i := 141) (by rfl))) rfl, gtb_in (tb_1 (List.mem_of_getElem? (i := 6) (by decide +kernel))) rfl, ⟨by decide +kernel, by decide +kernel⟩, by decide +kernel, by decide +kernel⟩
theorem in_m5_init : Cond.instanceMethod yX5_init ∈ gtb := gtb_in (tb_1 (List.mem_of_getElem? (i := 140) (by decide +kernel))) rfl
abbrev m7_lettersOf : MT := (yX7_lettersOf, cX7_lettersOf, 5, (some .int))
set_option maxRecDepth 100000 in
theorem cv_m7_lettersOf : CV m7_lettersOf 1 := ⟨gtb_in (tb_1 (List.mem_of_getElem? (i := 161) (by rfl))) rfl, gtb_in (tb_1 (List.mem_of_getElem? (i := 2) (by decide +kernel))) rfl, ⟨by decide +kernel, by decide +kernel⟩, by decide +kernel, by decide +kernel⟩
theorem st_m7_lettersOf : Cond.static yX7_lettersOf ∈ gtb := gtb_in (tb_1 (List.mem_of_getElem? (i := 160) (by decide +kernel))) rfl
abbrev m10_put : MT := (yX10_put, cX10_put, 3, none)
set_option maxRecDepth 100000 in
theorem cv_m10_put : CV m10_put 3 := ⟨gtb_in (tb_1 (List.mem_of_getElem? (i := 213) (by rfl))) rfl, gtb_in (tb_1 (List.mem_of_getElem? (i := 1) (by decide +kernel))) rfl, ⟨by decide +kernel, by decide +kernel⟩, by decide +kernel, by decide +kernel⟩
theorem st_m10_put : Cond.static yX10_put ∈ gtb := gtb_in (tb_1 (List.mem_of_getElem? (i := 212) (by decide +kernel))) rfl
abbrev m9_init : MT := (yX9_init, cX9_init, 1, none)
set_option maxRecDepth 100000 in
theorem cv_m9_init : CV m9_init 0 := ⟨gtb_in (tb_2 (List.mem_of_getElem? (i := 46) (by rfl))) rfl, gtb_in (tb_1 (List.mem_of_getElem? (i := 11) (by decide +kernel))) rfl, ⟨by decide +kernel, by decide +kernel⟩, by decide +kernel, by decide +kernel⟩
theorem in_m9_init : Cond.instanceMethod yX9_init ∈ gtb := gtb_in (tb_2 (List.mem_of_getElem? (i := 45) (by decide +kernel))) rfl
abbrev m4_init : MT := (yX4_init, cX4_init, 1, none)
set_option maxRecDepth 100000 in
theorem cv_m4_init : CV m4_init 0 := ⟨gtb_in (tb_2 (List.mem_of_getElem? (i := 63) (by rfl))) rfl, gtb_in (tb_1 (List.mem_of_getElem? (i := 12) (by decide +kernel))) rfl, ⟨by decide +kernel, by decide +kernel⟩, by decide +kernel, by decide +kernel⟩
theorem in_m4_init : Cond.instanceMethod yX4_init ∈ gtb := gtb_in (tb_2 (List.mem_of_getElem? (i := 62) (by decide +kernel))) rfl
abbrev m6_init : MT := (yX6_init, cX6_init, 1, none)
set_option maxRecDepth 100000 in
theorem cv_m6_init : CV m6_init 0 := ⟨gtb_in (tb_2 (List.mem_of_getElem? (i := 93) (by rfl))) rfl, gtb_in (tb_1 (List.mem_of_getElem? (i := 13) (by decide +kernel))) rfl, ⟨by decide +kernel, by decide +kernel⟩, by decide +kernel, by decide +kernel⟩
theorem in_m6_init : Cond.instanceMethod yX6_init ∈ gtb := gtb_in (tb_2 (List.mem_of_getElem? (i := 92) (by decide +kernel))) rfl
abbrev m1_init : MT := (yX1_init, cX1_init, 1, none)
set_option maxRecDepth 100000 in
theorem cv_m1_init : CV m1_init 0 := ⟨gtb_in (tb_2 (List.mem_of_getElem? (i := 119) (by rfl))) rfl, gtb_in (tb_1 (List.mem_of_getElem? (i := 14) (by decide +kernel))) rfl, ⟨by decide +kernel, by decide +kernel⟩, by decide +kernel, by decide +kernel⟩
theorem in_m1_init : Cond.instanceMethod yX1_init ∈ gtb := gtb_in (tb_2 (List.mem_of_getElem? (i := 118) (by decide +kernel))) rfl
abbrev m10_feed : MT := (yX10_feed, cX10_feed, 6, (some .int))
set_option maxRecDepth 100000 in
theorem cv_m10_feed : CV m10_feed 5 := ⟨gtb_in (tb_2 (List.mem_of_getElem? (i := 193) (by rfl))) rfl, gtb_in (tb_1 (List.mem_of_getElem? (i := 1) (by decide +kernel))) rfl, ⟨by decide +kernel, by decide +kernel⟩, by decide +kernel, by decide +kernel⟩
theorem in_m10_feed : Cond.instanceMethod yX10_feed ∈ gtb := gtb_in (tb_2 (List.mem_of_getElem? (i := 191) (by decide +kernel))) rfl
theorem se_m10_feed : Cond.selects yX10_feed.cls yX10_feed yX10_feed ∈ gtb := gtb_in (tb_2 (List.mem_of_getElem? (i := 192) (by decide +kernel))) rfl
abbrev m10_layBytes : MT := (yX10_layBytes, cX10_layBytes, 3, none)
set_option maxRecDepth 100000 in
theorem cv_m10_layBytes : CV m10_layBytes 1 := ⟨gtb_in (tb_2 (List.mem_of_getElem? (i := 197) (by rfl))) rfl, gtb_in (tb_1 (List.mem_of_getElem? (i := 1) (by decide +kernel))) rfl, ⟨by decide +kernel, by decide +kernel⟩, by decide +kernel, by decide +kernel⟩
theorem in_m10_layBytes : Cond.instanceMethod yX10_layBytes ∈ gtb := gtb_in (tb_2 (List.mem_of_getElem? (i := 196) (by decide +kernel))) rfl
theorem se_m10_layBytes : Cond.selects yX10_layBytes.cls yX10_layBytes yX10_layBytes ∈ gtb := gtb_in (List.mem_append_left _ (List.mem_of_getElem? (i := 0) (by decide +kernel))) rfl
abbrev m10_text : MT := (yX10_text, cX10_text, 3, (some .int))
set_option maxRecDepth 100000 in
theorem cv_m10_text : CV m10_text 1 := ⟨gtb_in (tb_2 (List.mem_of_getElem? (i := 202) (by rfl))) rfl, gtb_in (tb_1 (List.mem_of_getElem? (i := 1) (by decide +kernel))) rfl, ⟨by decide +kernel, by decide +kernel⟩, by decide +kernel, by decide +kernel⟩
theorem in_m10_text : Cond.instanceMethod yX10_text ∈ gtb := gtb_in (tb_2 (List.mem_of_getElem? (i := 200) (by decide +kernel))) rfl
theorem se_m10_text : Cond.selects yX10_text.cls yX10_text yX10_text ∈ gtb := gtb_in (tb_2 (List.mem_of_getElem? (i := 201) (by decide +kernel))) rfl
abbrev m7_open : MT := (yX7_open, cX7_open, 2, none)
set_option maxRecDepth 100000 in
theorem cv_m7_open : CV m7_open 1 := ⟨gtb_in (tb_2 (List.mem_of_getElem? (i := 206) (by rfl))) rfl, gtb_in (tb_1 (List.mem_of_getElem? (i := 2) (by decide +kernel))) rfl, ⟨by decide +kernel, by decide +kernel⟩, by decide +kernel, by decide +kernel⟩
theorem in_m7_open : Cond.instanceMethod yX7_open ∈ gtb := gtb_in (tb_2 (List.mem_of_getElem? (i := 204) (by decide +kernel))) rfl
theorem se_m7_open : Cond.selects yX7_open.cls yX7_open yX7_open ∈ gtb := gtb_in (tb_2 (List.mem_of_getElem? (i := 205) (by decide +kernel))) rfl
abbrev m0_clear : MT := (yX0_clear, cX0_clear, 1, none)
set_option maxRecDepth 100000 in
theorem cv_m0_clear : CV m0_clear 0 := ⟨gtb_in (tb_2 (List.mem_of_getElem? (i := 210) (by rfl))) rfl, gtb_in (tb_1 (List.mem_of_getElem? (i := 3) (by decide +kernel))) rfl, ⟨by decide +kernel, by decide +kernel⟩, by decide +kernel, by decide +kernel⟩
theorem in_m0_clear : Cond.instanceMethod yX0_clear ∈ gtb := gtb_in (tb_2 (List.mem_of_getElem? (i := 208) (by decide +kernel))) rfl
theorem se_m0_clear : Cond.selects yX0_clear.cls yX0_clear yX0_clear ∈ gtb := gtb_in (tb_2 (List.mem_of_getElem? (i := 209) (by decide +kernel))) rfl
abbrev m3_clear : MT := (yX3_clear, cX3_clear, 1, none)
set_option maxRecDepth 100000 in
theorem cv_m3_clear : CV m3_clear 0 := ⟨gtb_in (tb_2 (List.mem_of_getElem? (i := 214) (by rfl))) rfl, gtb_in (tb_1 (List.mem_of_getElem? (i := 4) (by decide +kernel))) rfl, ⟨by decide +kernel, by decide +kernel⟩, by decide +kernel, by decide +kernel⟩
theorem in_m3_clear : Cond.instanceMethod yX3_clear ∈ gtb := gtb_in (tb_2 (List.mem_of_getElem? (i := 212) (by decide +kernel))) rfl
theorem se_m3_clear : Cond.selects yX3_clear.cls yX3_clear yX3_clear ∈ gtb := gtb_in (tb_2 (List.mem_of_getElem? (i := 213) (by decide +kernel))) rfl
abbrev m2_clear : MT := (yX2_clear, cX2_clear, 1, none)
set_option maxRecDepth 100000 in
theorem cv_m2_clear : CV m2_clear 0 := ⟨gtb_in (tb_2 (List.mem_of_getElem? (i := 218) (by rfl))) rfl, gtb_in (tb_1 (List.mem_of_getElem? (i := 5) (by decide +kernel))) rfl, ⟨by decide +kernel, by decide +kernel⟩, by decide +kernel, by decide +kernel⟩
theorem in_m2_clear : Cond.instanceMethod yX2_clear ∈ gtb := gtb_in (tb_2 (List.mem_of_getElem? (i := 216) (by decide +kernel))) rfl
theorem se_m2_clear : Cond.selects yX2_clear.cls yX2_clear yX2_clear ∈ gtb := gtb_in (tb_2 (List.mem_of_getElem? (i := 217) (by decide +kernel))) rfl
abbrev m7_next : MT := (yX7_next, cX7_next, 2, none)
set_option maxRecDepth 100000 in
theorem cv_m7_next : CV m7_next 0 := ⟨gtb_in (tb_2 (List.mem_of_getElem? (i := 222) (by rfl))) rfl, gtb_in (tb_1 (List.mem_of_getElem? (i := 2) (by decide +kernel))) rfl, ⟨by decide +kernel, by decide +kernel⟩, by decide +kernel, by decide +kernel⟩
theorem in_m7_next : Cond.instanceMethod yX7_next ∈ gtb := gtb_in (tb_2 (List.mem_of_getElem? (i := 221) (by decide +kernel))) rfl
theorem se_m7_next : Cond.selects yX7_next.cls yX7_next yX7_next ∈ gtb := gtb_in (List.mem_append_left _ (List.mem_of_getElem? (i := 1) (by decide +kernel))) rfl
abbrev m10_at : MT := (yX10_at, cX10_at, 2, (some .int))
set_option maxRecDepth 100000 in
theorem cv_m10_at : CV m10_at 2 := ⟨gtb_in (tb_2 (List.mem_of_getElem? (i := 225) (by rfl))) rfl, gtb_in (tb_1 (List.mem_of_getElem? (i := 1) (by decide +kernel))) rfl, ⟨by decide +kernel, by decide +kernel⟩, by decide +kernel, by decide +kernel⟩
theorem st_m10_at : Cond.static yX10_at ∈ gtb := gtb_in (tb_2 (List.mem_of_getElem? (i := 224) (by decide +kernel))) rfl
abbrev m7_isBlank : MT := (yX7_isBlank, cX7_isBlank, 1, (some .boolean))
set_option maxRecDepth 100000 in
theorem cv_m7_isBlank : CV m7_isBlank 1 := ⟨gtb_in (tb_2 (List.mem_of_getElem? (i := 228) (by rfl))) rfl, gtb_in (tb_1 (List.mem_of_getElem? (i := 2) (by decide +kernel))) rfl, ⟨by decide +kernel, by decide +kernel⟩, by decide +kernel, by decide +kernel⟩
theorem st_m7_isBlank : Cond.static yX7_isBlank ∈ gtb := gtb_in (tb_2 (List.mem_of_getElem? (i := 227) (by decide +kernel))) rfl
abbrev m7_isLetter : MT := (yX7_isLetter, cX7_isLetter, 1, (some .boolean))
set_option maxRecDepth 100000 in
theorem cv_m7_isLetter : CV m7_isLetter 1 := ⟨gtb_in (tb_2 (List.mem_of_getElem? (i := 231) (by rfl))) rfl, gtb_in (tb_1 (List.mem_of_getElem? (i := 2) (by decide +kernel))) rfl, ⟨by decide +kernel, by decide +kernel⟩, by decide +kernel, by decide +kernel⟩
theorem st_m7_isLetter : Cond.static yX7_isLetter ∈ gtb := gtb_in (tb_2 (List.mem_of_getElem? (i := 230) (by decide +kernel))) rfl
abbrev m7_scanWord : MT := (yX7_scanWord, cX7_scanWord, 3, none)
set_option maxRecDepth 100000 in
theorem cv_m7_scanWord : CV m7_scanWord 0 := ⟨gtb_in (tb_2 (List.mem_of_getElem? (i := 235) (by rfl))) rfl, gtb_in (tb_1 (List.mem_of_getElem? (i := 2) (by decide +kernel))) rfl, ⟨by decide +kernel, by decide +kernel⟩, by decide +kernel, by decide +kernel⟩
theorem in_m7_scanWord : Cond.instanceMethod yX7_scanWord ∈ gtb := gtb_in (tb_2 (List.mem_of_getElem? (i := 234) (by decide +kernel))) rfl
theorem se_m7_scanWord : Cond.selects yX7_scanWord.cls yX7_scanWord yX7_scanWord ∈ gtb := gtb_in (List.mem_append_left _ (List.mem_of_getElem? (i := 2) (by decide +kernel))) rfl
abbrev m7_languageWord : MT := (yX7_languageWord, cX7_languageWord, 3, (some .int))
set_option maxRecDepth 100000 in
theorem cv_m7_languageWord : CV m7_languageWord 1 := ⟨gtb_in (tb_2 (List.mem_of_getElem? (i := 239) (by rfl))) rfl, gtb_in (tb_1 (List.mem_of_getElem? (i := 2) (by decide +kernel))) rfl, ⟨by decide +kernel, by decide +kernel⟩, by decide +kernel, by decide +kernel⟩
theorem in_m7_languageWord : Cond.instanceMethod yX7_languageWord ∈ gtb := gtb_in (tb_2 (List.mem_of_getElem? (i := 238) (by decide +kernel))) rfl
theorem se_m7_languageWord : Cond.selects yX7_languageWord.cls yX7_languageWord yX7_languageWord ∈ gtb := gtb_in (List.mem_append_left _ (List.mem_of_getElem? (i := 3) (by decide +kernel))) rfl
abbrev m7_knotOfWord : MT := (yX7_knotOfWord, cX7_knotOfWord, 1, (some .int))
set_option maxRecDepth 100000 in
theorem cv_m7_knotOfWord : CV m7_knotOfWord 1 := ⟨gtb_in (tb_3 (List.mem_of_getElem? (i := 2) (by rfl))) rfl, gtb_in (tb_1 (List.mem_of_getElem? (i := 2) (by decide +kernel))) rfl, ⟨by decide +kernel, by decide +kernel⟩, by decide +kernel, by decide +kernel⟩
theorem st_m7_knotOfWord : Cond.static yX7_knotOfWord ∈ gtb := gtb_in (tb_3 (List.mem_of_getElem? (i := 1) (by decide +kernel))) rfl
abbrev m7_isDigit : MT := (yX7_isDigit, cX7_isDigit, 1, (some .boolean))
set_option maxRecDepth 100000 in
theorem cv_m7_isDigit : CV m7_isDigit 1 := ⟨gtb_in (tb_3 (List.mem_of_getElem? (i := 5) (by rfl))) rfl, gtb_in (tb_1 (List.mem_of_getElem? (i := 2) (by decide +kernel))) rfl, ⟨by decide +kernel, by decide +kernel⟩, by decide +kernel, by decide +kernel⟩
theorem st_m7_isDigit : Cond.static yX7_isDigit ∈ gtb := gtb_in (tb_3 (List.mem_of_getElem? (i := 4) (by decide +kernel))) rfl
abbrev m7_scanNumber : MT := (yX7_scanNumber, cX7_scanNumber, 1, none)
set_option maxRecDepth 100000 in
theorem cv_m7_scanNumber : CV m7_scanNumber 0 := ⟨gtb_in (tb_3 (List.mem_of_getElem? (i := 9) (by rfl))) rfl, gtb_in (tb_1 (List.mem_of_getElem? (i := 2) (by decide +kernel))) rfl, ⟨by decide +kernel, by decide +kernel⟩, by decide +kernel, by decide +kernel⟩
theorem in_m7_scanNumber : Cond.instanceMethod yX7_scanNumber ∈ gtb := gtb_in (tb_3 (List.mem_of_getElem? (i := 8) (by decide +kernel))) rfl
theorem se_m7_scanNumber : Cond.selects yX7_scanNumber.cls yX7_scanNumber yX7_scanNumber ∈ gtb := gtb_in (List.mem_append_left _ (List.mem_of_getElem? (i := 4) (by decide +kernel))) rfl
abbrev m7_scanSign : MT := (yX7_scanSign, cX7_scanSign, 3, none)
set_option maxRecDepth 100000 in
theorem cv_m7_scanSign : CV m7_scanSign 1 := ⟨gtb_in (tb_3 (List.mem_of_getElem? (i := 17) (by rfl))) rfl, gtb_in (tb_1 (List.mem_of_getElem? (i := 2) (by decide +kernel))) rfl, ⟨by decide +kernel, by decide +kernel⟩, by decide +kernel, by decide +kernel⟩
theorem in_m7_scanSign : Cond.instanceMethod yX7_scanSign ∈ gtb := gtb_in (tb_3 (List.mem_of_getElem? (i := 16) (by decide +kernel))) rfl
theorem se_m7_scanSign : Cond.selects yX7_scanSign.cls yX7_scanSign yX7_scanSign ∈ gtb := gtb_in (List.mem_append_left _ (List.mem_of_getElem? (i := 5) (by decide +kernel))) rfl
abbrev m7_knotOfSign : MT := (yX7_knotOfSign, cX7_knotOfSign, 1, (some .int))
set_option maxRecDepth 100000 in
theorem cv_m7_knotOfSign : CV m7_knotOfSign 1 := ⟨gtb_in (tb_3 (List.mem_of_getElem? (i := 20) (by rfl))) rfl, gtb_in (tb_1 (List.mem_of_getElem? (i := 2) (by decide +kernel))) rfl, ⟨by decide +kernel, by decide +kernel⟩, by decide +kernel, by decide +kernel⟩
theorem st_m7_knotOfSign : Cond.static yX7_knotOfSign ∈ gtb := gtb_in (tb_3 (List.mem_of_getElem? (i := 19) (by decide +kernel))) rfl
abbrev m7_isGoing : MT := (yX7_isGoing, cX7_isGoing, 1, (some .boolean))
set_option maxRecDepth 100000 in
theorem cv_m7_isGoing : CV m7_isGoing 0 := ⟨gtb_in (tb_3 (List.mem_of_getElem? (i := 24) (by rfl))) rfl, gtb_in (tb_1 (List.mem_of_getElem? (i := 2) (by decide +kernel))) rfl, ⟨by decide +kernel, by decide +kernel⟩, by decide +kernel, by decide +kernel⟩
theorem in_m7_isGoing : Cond.instanceMethod yX7_isGoing ∈ gtb := gtb_in (tb_3 (List.mem_of_getElem? (i := 22) (by decide +kernel))) rfl
theorem se_m7_isGoing : Cond.selects yX7_isGoing.cls yX7_isGoing yX7_isGoing ∈ gtb := gtb_in (tb_3 (List.mem_of_getElem? (i := 23) (by decide +kernel))) rfl
abbrev m7_readLine : MT := (yX7_readLine, cX7_readLine, 2, none)
set_option maxRecDepth 100000 in
theorem cv_m7_readLine : CV m7_readLine 0 := ⟨gtb_in (tb_3 (List.mem_of_getElem? (i := 28) (by rfl))) rfl, gtb_in (tb_1 (List.mem_of_getElem? (i := 2) (by decide +kernel))) rfl, ⟨by decide +kernel, by decide +kernel⟩, by decide +kernel, by decide +kernel⟩
theorem in_m7_readLine : Cond.instanceMethod yX7_readLine ∈ gtb := gtb_in (tb_3 (List.mem_of_getElem? (i := 26) (by decide +kernel))) rfl
theorem se_m7_readLine : Cond.selects yX7_readLine.cls yX7_readLine yX7_readLine ∈ gtb := gtb_in (tb_3 (List.mem_of_getElem? (i := 27) (by decide +kernel))) rfl
abbrev m7_readPerson : MT := (yX7_readPerson, cX7_readPerson, 3, (some .boolean))
set_option maxRecDepth 100000 in
theorem cv_m7_readPerson : CV m7_readPerson 0 := ⟨gtb_in (tb_3 (List.mem_of_getElem? (i := 32) (by rfl))) rfl, gtb_in (tb_1 (List.mem_of_getElem? (i := 2) (by decide +kernel))) rfl, ⟨by decide +kernel, by decide +kernel⟩, by decide +kernel, by decide +kernel⟩
theorem in_m7_readPerson : Cond.instanceMethod yX7_readPerson ∈ gtb := gtb_in (tb_3 (List.mem_of_getElem? (i := 31) (by decide +kernel))) rfl
theorem se_m7_readPerson : Cond.selects yX7_readPerson.cls yX7_readPerson yX7_readPerson ∈ gtb := gtb_in (List.mem_append_left _ (List.mem_of_getElem? (i := 6) (by decide +kernel))) rfl
abbrev m7_fail : MT := (yX7_fail, cX7_fail, 2, (some .boolean))
set_option maxRecDepth 100000 in
theorem cv_m7_fail : CV m7_fail 1 := ⟨gtb_in (tb_3 (List.mem_of_getElem? (i := 36) (by rfl))) rfl, gtb_in (tb_1 (List.mem_of_getElem? (i := 2) (by decide +kernel))) rfl, ⟨by decide +kernel, by decide +kernel⟩, by decide +kernel, by decide +kernel⟩
theorem in_m7_fail : Cond.instanceMethod yX7_fail ∈ gtb := gtb_in (tb_3 (List.mem_of_getElem? (i := 35) (by decide +kernel))) rfl
theorem se_m7_fail : Cond.selects yX7_fail.cls yX7_fail yX7_fail ∈ gtb := gtb_in (List.mem_append_left _ (List.mem_of_getElem? (i := 7) (by decide +kernel))) rfl
abbrev m7_isName : MT := (yX7_isName, cX7_isName, 1, (some .boolean))
set_option maxRecDepth 100000 in
theorem cv_m7_isName : CV m7_isName 0 := ⟨gtb_in (tb_3 (List.mem_of_getElem? (i := 40) (by rfl))) rfl, gtb_in (tb_1 (List.mem_of_getElem? (i := 2) (by decide +kernel))) rfl, ⟨by decide +kernel, by decide +kernel⟩, by decide +kernel, by decide +kernel⟩
theorem in_m7_isName : Cond.instanceMethod yX7_isName ∈ gtb := gtb_in (tb_3 (List.mem_of_getElem? (i := 39) (by decide +kernel))) rfl
theorem se_m7_isName : Cond.selects yX7_isName.cls yX7_isName yX7_isName ∈ gtb := gtb_in (List.mem_append_left _ (List.mem_of_getElem? (i := 8) (by decide +kernel))) rfl
abbrev m0_personNamed : MT := (yX0_personNamed, cX0_personNamed, 2, (some .int))
set_option maxRecDepth 100000 in
theorem cv_m0_personNamed : CV m0_personNamed 1 := ⟨gtb_in (tb_3 (List.mem_of_getElem? (i := 44) (by rfl))) rfl, gtb_in (tb_1 (List.mem_of_getElem? (i := 3) (by decide +kernel))) rfl, ⟨by decide +kernel, by decide +kernel⟩, by decide +kernel, by decide +kernel⟩
theorem in_m0_personNamed : Cond.instanceMethod yX0_personNamed ∈ gtb := gtb_in (tb_3 (List.mem_of_getElem? (i := 42) (by decide +kernel))) rfl
theorem se_m0_personNamed : Cond.selects yX0_personNamed.cls yX0_personNamed yX0_personNamed ∈ gtb := gtb_in (tb_3 (List.mem_of_getElem? (i := 43) (by decide +kernel))) rfl
abbrev m0_numberOf : MT := (yX0_numberOf, cX0_numberOf, 4, (some .int))
set_option maxRecDepth 100000 in
theorem cv_m0_numberOf : CV m0_numberOf 3 := ⟨gtb_in (tb_3 (List.mem_of_getElem? (i := 47) (by rfl))) rfl, gtb_in (tb_1 (List.mem_of_getElem? (i := 3) (by decide +kernel))) rfl, ⟨by decide +kernel, by decide +kernel⟩, by decide +kernel, by decide +kernel⟩
theorem st_m0_numberOf : Cond.static yX0_numberOf ∈ gtb := gtb_in (tb_3 (List.mem_of_getElem? (i := 46) (by decide +kernel))) rfl
abbrev m7_readNumber : MT := (yX7_readNumber, cX7_readNumber, 3, (some .int))
set_option maxRecDepth 100000 in
theorem cv_m7_readNumber : CV m7_readNumber 1 := ⟨gtb_in (tb_3 (List.mem_of_getElem? (i := 52) (by rfl))) rfl, gtb_in (tb_1 (List.mem_of_getElem? (i := 2) (by decide +kernel))) rfl, ⟨by decide +kernel, by decide +kernel⟩, by decide +kernel, by decide +kernel⟩
theorem in_m7_readNumber : Cond.instanceMethod yX7_readNumber ∈ gtb := gtb_in (tb_3 (List.mem_of_getElem? (i := 51) (by decide +kernel))) rfl
theorem se_m7_readNumber : Cond.selects yX7_readNumber.cls yX7_readNumber yX7_readNumber ∈ gtb := gtb_in (List.mem_append_left _ (List.mem_of_getElem? (i := 9) (by decide +kernel))) rfl
abbrev m0_addPerson : MT := (yX0_addPerson, cX0_addPerson, 3, none)
set_option maxRecDepth 100000 in
theorem cv_m0_addPerson : CV m0_addPerson 2 := ⟨gtb_in (tb_3 (List.mem_of_getElem? (i := 56) (by rfl))) rfl, gtb_in (tb_1 (List.mem_of_getElem? (i := 3) (by decide +kernel))) rfl, ⟨by decide +kernel, by decide +kernel⟩, by decide +kernel, by decide +kernel⟩
theorem in_m0_addPerson : Cond.instanceMethod yX0_addPerson ∈ gtb := gtb_in (tb_3 (List.mem_of_getElem? (i := 54) (by decide +kernel))) rfl
theorem se_m0_addPerson : Cond.selects yX0_addPerson.cls yX0_addPerson yX0_addPerson ∈ gtb := gtb_in (tb_3 (List.mem_of_getElem? (i := 55) (by decide +kernel))) rfl
abbrev m7_readFact : MT := (yX7_readFact, cX7_readFact, 6, (some .boolean))
set_option maxRecDepth 100000 in
theorem cv_m7_readFact : CV m7_readFact 1 := ⟨gtb_in (tb_3 (List.mem_of_getElem? (i := 61) (by rfl))) rfl, gtb_in (tb_1 (List.mem_of_getElem? (i := 2) (by decide +kernel))) rfl, ⟨by decide +kernel, by decide +kernel⟩, by decide +kernel, by decide +kernel⟩
theorem in_m7_readFact : Cond.instanceMethod yX7_readFact ∈ gtb := gtb_in (tb_3 (List.mem_of_getElem? (i := 60) (by decide +kernel))) rfl
theorem se_m7_readFact : Cond.selects yX7_readFact.cls yX7_readFact yX7_readFact ∈ gtb := gtb_in (List.mem_append_left _ (List.mem_of_getElem? (i := 10) (by decide +kernel))) rfl
abbrev m7_personHere : MT := (yX7_personHere, cX7_personHere, 2, (some .int))
set_option maxRecDepth 100000 in
theorem cv_m7_personHere : CV m7_personHere 0 := ⟨gtb_in (tb_3 (List.mem_of_getElem? (i := 65) (by rfl))) rfl, gtb_in (tb_1 (List.mem_of_getElem? (i := 2) (by decide +kernel))) rfl, ⟨by decide +kernel, by decide +kernel⟩, by decide +kernel, by decide +kernel⟩
theorem in_m7_personHere : Cond.instanceMethod yX7_personHere ∈ gtb := gtb_in (tb_3 (List.mem_of_getElem? (i := 64) (by decide +kernel))) rfl
theorem se_m7_personHere : Cond.selects yX7_personHere.cls yX7_personHere yX7_personHere ∈ gtb := gtb_in (List.mem_append_left _ (List.mem_of_getElem? (i := 11) (by decide +kernel))) rfl
abbrev m7_isWord : MT := (yX7_isWord, cX7_isWord, 2, (some .boolean))
set_option maxRecDepth 100000 in
theorem cv_m7_isWord : CV m7_isWord 1 := ⟨gtb_in (tb_3 (List.mem_of_getElem? (i := 69) (by rfl))) rfl, gtb_in (tb_1 (List.mem_of_getElem? (i := 2) (by decide +kernel))) rfl, ⟨by decide +kernel, by decide +kernel⟩, by decide +kernel, by decide +kernel⟩
theorem in_m7_isWord : Cond.instanceMethod yX7_isWord ∈ gtb := gtb_in (tb_3 (List.mem_of_getElem? (i := 68) (by decide +kernel))) rfl
theorem se_m7_isWord : Cond.selects yX7_isWord.cls yX7_isWord yX7_isWord ∈ gtb := gtb_in (List.mem_append_left _ (List.mem_of_getElem? (i := 12) (by decide +kernel))) rfl
abbrev m2_tells : MT := (yX2_tells, cX2_tells, 6, (some .boolean))
set_option maxRecDepth 100000 in
theorem cv_m2_tells : CV m2_tells 4 := ⟨gtb_in (tb_3 (List.mem_of_getElem? (i := 73) (by rfl))) rfl, gtb_in (tb_1 (List.mem_of_getElem? (i := 5) (by decide +kernel))) rfl, ⟨by decide +kernel, by decide +kernel⟩, by decide +kernel, by decide +kernel⟩
theorem in_m2_tells : Cond.instanceMethod yX2_tells ∈ gtb := gtb_in (tb_3 (List.mem_of_getElem? (i := 71) (by decide +kernel))) rfl
theorem se_m2_tells : Cond.selects yX2_tells.cls yX2_tells yX2_tells ∈ gtb := gtb_in (tb_3 (List.mem_of_getElem? (i := 72) (by decide +kernel))) rfl
abbrev m2_lives : MT := (yX2_lives, cX2_lives, 2, (some .boolean))
set_option maxRecDepth 100000 in
theorem cv_m2_lives : CV m2_lives 1 := ⟨gtb_in (tb_3 (List.mem_of_getElem? (i := 77) (by rfl))) rfl, gtb_in (tb_1 (List.mem_of_getElem? (i := 5) (by decide +kernel))) rfl, ⟨by decide +kernel, by decide +kernel⟩, by decide +kernel, by decide +kernel⟩
theorem in_m2_lives : Cond.instanceMethod yX2_lives ∈ gtb := gtb_in (tb_3 (List.mem_of_getElem? (i := 75) (by decide +kernel))) rfl
theorem se_m2_lives : Cond.selects yX2_lives.cls yX2_lives yX2_lives ∈ gtb := gtb_in (tb_3 (List.mem_of_getElem? (i := 76) (by decide +kernel))) rfl
abbrev m2_cell : MT := (yX2_cell, cX2_cell, 3, (some .int))
set_option maxRecDepth 100000 in
theorem cv_m2_cell : CV m2_cell 2 := ⟨gtb_in (tb_3 (List.mem_of_getElem? (i := 82) (by rfl))) rfl, gtb_in (tb_1 (List.mem_of_getElem? (i := 5) (by decide +kernel))) rfl, ⟨by decide +kernel, by decide +kernel⟩, by decide +kernel, by decide +kernel⟩
theorem in_m2_cell : Cond.instanceMethod yX2_cell ∈ gtb := gtb_in (tb_3 (List.mem_of_getElem? (i := 80) (by decide +kernel))) rfl
theorem se_m2_cell : Cond.selects yX2_cell.cls yX2_cell yX2_cell ∈ gtb := gtb_in (tb_3 (List.mem_of_getElem? (i := 81) (by decide +kernel))) rfl
abbrev m2_isOfTwo : MT := (yX2_isOfTwo, cX2_isOfTwo, 4, (some .boolean))
set_option maxRecDepth 100000 in
theorem cv_m2_isOfTwo : CV m2_isOfTwo 3 := ⟨gtb_in (tb_3 (List.mem_of_getElem? (i := 86) (by rfl))) rfl, gtb_in (tb_1 (List.mem_of_getElem? (i := 5) (by decide +kernel))) rfl, ⟨by decide +kernel, by decide +kernel⟩, by decide +kernel, by decide +kernel⟩
theorem in_m2_isOfTwo : Cond.instanceMethod yX2_isOfTwo ∈ gtb := gtb_in (tb_3 (List.mem_of_getElem? (i := 85) (by decide +kernel))) rfl
theorem se_m2_isOfTwo : Cond.selects yX2_isOfTwo.cls yX2_isOfTwo yX2_isOfTwo ∈ gtb := gtb_in (List.mem_append_left _ (List.mem_of_getElem? (i := 13) (by decide +kernel))) rfl
abbrev m2_isLevel : MT := (yX2_isLevel, cX2_isLevel, 2, (some .boolean))
set_option maxRecDepth 100000 in
theorem cv_m2_isLevel : CV m2_isLevel 1 := ⟨gtb_in (tb_3 (List.mem_of_getElem? (i := 90) (by rfl))) rfl, gtb_in (tb_1 (List.mem_of_getElem? (i := 5) (by decide +kernel))) rfl, ⟨by decide +kernel, by decide +kernel⟩, by decide +kernel, by decide +kernel⟩
theorem in_m2_isLevel : Cond.instanceMethod yX2_isLevel ∈ gtb := gtb_in (tb_3 (List.mem_of_getElem? (i := 88) (by decide +kernel))) rfl
theorem se_m2_isLevel : Cond.selects yX2_isLevel.cls yX2_isLevel yX2_isLevel ∈ gtb := gtb_in (tb_3 (List.mem_of_getElem? (i := 89) (by decide +kernel))) rfl
abbrev m7_failAt : MT := (yX7_failAt, cX7_failAt, 3, (some .boolean))
set_option maxRecDepth 100000 in
theorem cv_m7_failAt : CV m7_failAt 2 := ⟨gtb_in (tb_3 (List.mem_of_getElem? (i := 94) (by rfl))) rfl, gtb_in (tb_1 (List.mem_of_getElem? (i := 2) (by decide +kernel))) rfl, ⟨by decide +kernel, by decide +kernel⟩, by decide +kernel, by decide +kernel⟩
theorem in_m7_failAt : Cond.instanceMethod yX7_failAt ∈ gtb := gtb_in (tb_3 (List.mem_of_getElem? (i := 93) (by decide +kernel))) rfl
theorem se_m7_failAt : Cond.selects yX7_failAt.cls yX7_failAt yX7_failAt ∈ gtb := gtb_in (List.mem_append_left _ (List.mem_of_getElem? (i := 14) (by decide +kernel))) rfl
abbrev m2_add : MT := (yX2_add, cX2_add, 6, none)
set_option maxRecDepth 100000 in
theorem cv_m2_add : CV m2_add 4 := ⟨gtb_in (tb_3 (List.mem_of_getElem? (i := 98) (by rfl))) rfl, gtb_in (tb_1 (List.mem_of_getElem? (i := 5) (by decide +kernel))) rfl, ⟨by decide +kernel, by decide +kernel⟩, by decide +kernel, by decide +kernel⟩
theorem in_m2_add : Cond.instanceMethod yX2_add ∈ gtb := gtb_in (tb_3 (List.mem_of_getElem? (i := 96) (by decide +kernel))) rfl
theorem se_m2_add : Cond.selects yX2_add.cls yX2_add yX2_add ∈ gtb := gtb_in (tb_3 (List.mem_of_getElem? (i := 97) (by decide +kernel))) rfl
abbrev m5_bendsInSomeSeason : MT := (yX5_bendsInSomeSeason, cX5_bendsInSomeSeason, 5, (some .boolean))
set_option maxRecDepth 100000 in
theorem cv_m5_bendsInSomeSeason : CV m5_bendsInSomeSeason 2 := ⟨gtb_in (tb_3 (List.mem_of_getElem? (i := 103) (by rfl))) rfl, gtb_in (tb_1 (List.mem_of_getElem? (i := 6) (by decide +kernel))) rfl, ⟨by decide +kernel, by decide +kernel⟩, by decide +kernel, by decide +kernel⟩
theorem in_m5_bendsInSomeSeason : Cond.instanceMethod yX5_bendsInSomeSeason ∈ gtb := gtb_in (tb_3 (List.mem_of_getElem? (i := 101) (by decide +kernel))) rfl
theorem se_m5_bendsInSomeSeason : Cond.selects yX5_bendsInSomeSeason.cls yX5_bendsInSomeSeason yX5_bendsInSomeSeason ∈ gtb := gtb_in (tb_3 (List.mem_of_getElem? (i := 102) (by decide +kernel))) rfl
abbrev m5_build : MT := (yX5_build, cX5_build, 5, none)
set_option maxRecDepth 100000 in
theorem cv_m5_build : CV m5_build 3 := ⟨gtb_in (tb_3 (List.mem_of_getElem? (i := 107) (by rfl))) rfl, gtb_in (tb_1 (List.mem_of_getElem? (i := 6) (by decide +kernel))) rfl, ⟨by decide +kernel, by decide +kernel⟩, by decide +kernel, by decide +kernel⟩
theorem in_m5_build : Cond.instanceMethod yX5_build ∈ gtb := gtb_in (tb_3 (List.mem_of_getElem? (i := 105) (by decide +kernel))) rfl
theorem se_m5_build : Cond.selects yX5_build.cls yX5_build yX5_build ∈ gtb := gtb_in (tb_3 (List.mem_of_getElem? (i := 106) (by decide +kernel))) rfl
abbrev m5_makeLevel : MT := (yX5_makeLevel, cX5_makeLevel, 5, none)
set_option maxRecDepth 100000 in
theorem cv_m5_makeLevel : CV m5_makeLevel 2 := ⟨gtb_in (tb_3 (List.mem_of_getElem? (i := 115) (by rfl))) rfl, gtb_in (tb_1 (List.mem_of_getElem? (i := 6) (by decide +kernel))) rfl, ⟨by decide +kernel, by decide +kernel⟩, by decide +kernel, by decide +kernel⟩
theorem in_m5_makeLevel : Cond.instanceMethod yX5_makeLevel ∈ gtb := gtb_in (tb_3 (List.mem_of_getElem? (i := 114) (by decide +kernel))) rfl
theorem se_m5_makeLevel : Cond.selects yX5_makeLevel.cls yX5_makeLevel yX5_makeLevel ∈ gtb := gtb_in (List.mem_append_left _ (List.mem_of_getElem? (i := 15) (by decide +kernel))) rfl
abbrev m2_isOf : MT := (yX2_isOf, cX2_isOf, 4, (some .boolean))
set_option maxRecDepth 100000 in
theorem cv_m2_isOf : CV m2_isOf 2 := ⟨gtb_in (tb_3 (List.mem_of_getElem? (i := 120) (by rfl))) rfl, gtb_in (tb_1 (List.mem_of_getElem? (i := 5) (by decide +kernel))) rfl, ⟨by decide +kernel, by decide +kernel⟩, by decide +kernel, by decide +kernel⟩
theorem in_m2_isOf : Cond.instanceMethod yX2_isOf ∈ gtb := gtb_in (tb_3 (List.mem_of_getElem? (i := 118) (by decide +kernel))) rfl
theorem se_m2_isOf : Cond.selects yX2_isOf.cls yX2_isOf yX2_isOf ∈ gtb := gtb_in (tb_3 (List.mem_of_getElem? (i := 119) (by decide +kernel))) rfl
abbrev m5_putAbove : MT := (yX5_putAbove, cX5_putAbove, 5, none)
set_option maxRecDepth 100000 in
theorem cv_m5_putAbove : CV m5_putAbove 2 := ⟨gtb_in (tb_3 (List.mem_of_getElem? (i := 124) (by rfl))) rfl, gtb_in (tb_1 (List.mem_of_getElem? (i := 6) (by decide +kernel))) rfl, ⟨by decide +kernel, by decide +kernel⟩, by decide +kernel, by decide +kernel⟩
theorem in_m5_putAbove : Cond.instanceMethod yX5_putAbove ∈ gtb := gtb_in (tb_3 (List.mem_of_getElem? (i := 123) (by decide +kernel))) rfl
theorem se_m5_putAbove : Cond.selects yX5_putAbove.cls yX5_putAbove yX5_putAbove ∈ gtb := gtb_in (List.mem_append_left _ (List.mem_of_getElem? (i := 16) (by decide +kernel))) rfl
abbrev m5_goOn : MT := (yX5_goOn, cX5_goOn, 3, none)
set_option maxRecDepth 100000 in
theorem cv_m5_goOn : CV m5_goOn 0 := ⟨gtb_in (tb_3 (List.mem_of_getElem? (i := 128) (by rfl))) rfl, gtb_in (tb_1 (List.mem_of_getElem? (i := 6) (by decide +kernel))) rfl, ⟨by decide +kernel, by decide +kernel⟩, by decide +kernel, by decide +kernel⟩
theorem in_m5_goOn : Cond.instanceMethod yX5_goOn ∈ gtb := gtb_in (tb_3 (List.mem_of_getElem? (i := 127) (by decide +kernel))) rfl
theorem se_m5_goOn : Cond.selects yX5_goOn.cls yX5_goOn yX5_goOn ∈ gtb := gtb_in (List.mem_append_left _ (List.mem_of_getElem? (i := 17) (by decide +kernel))) rfl
abbrev m5_isAbove : MT := (yX5_isAbove, cX5_isAbove, 3, (some .boolean))
set_option maxRecDepth 100000 in
theorem cv_m5_isAbove : CV m5_isAbove 2 := ⟨gtb_in (tb_3 (List.mem_of_getElem? (i := 135) (by rfl))) rfl, gtb_in (tb_1 (List.mem_of_getElem? (i := 6) (by decide +kernel))) rfl, ⟨by decide +kernel, by decide +kernel⟩, by decide +kernel, by decide +kernel⟩
theorem in_m5_isAbove : Cond.instanceMethod yX5_isAbove ∈ gtb := gtb_in (tb_3 (List.mem_of_getElem? (i := 133) (by decide +kernel))) rfl
theorem se_m5_isAbove : Cond.selects yX5_isAbove.cls yX5_isAbove yX5_isAbove ∈ gtb := gtb_in (tb_3 (List.mem_of_getElem? (i := 134) (by decide +kernel))) rfl
abbrev m7_readPartName : MT := (yX7_readPartName, cX7_readPartName, 1, (some .boolean))
set_option maxRecDepth 100000 in
theorem cv_m7_readPartName : CV m7_readPartName 0 := ⟨gtb_in (tb_3 (List.mem_of_getElem? (i := 139) (by rfl))) rfl, gtb_in (tb_1 (List.mem_of_getElem? (i := 2) (by decide +kernel))) rfl, ⟨by decide +kernel, by decide +kernel⟩, by decide +kernel, by decide +kernel⟩
theorem in_m7_readPartName : Cond.instanceMethod yX7_readPartName ∈ gtb := gtb_in (tb_3 (List.mem_of_getElem? (i := 138) (by decide +kernel))) rfl
theorem se_m7_readPartName : Cond.selects yX7_readPartName.cls yX7_readPartName yX7_readPartName ∈ gtb := gtb_in (List.mem_append_left _ (List.mem_of_getElem? (i := 18) (by decide +kernel))) rfl
abbrev m0_partNamed : MT := (yX0_partNamed, cX0_partNamed, 2, (some .int))
set_option maxRecDepth 100000 in
theorem cv_m0_partNamed : CV m0_partNamed 1 := ⟨gtb_in (tb_3 (List.mem_of_getElem? (i := 143) (by rfl))) rfl, gtb_in (tb_1 (List.mem_of_getElem? (i := 3) (by decide +kernel))) rfl, ⟨by decide +kernel, by decide +kernel⟩, by decide +kernel, by decide +kernel⟩
theorem in_m0_partNamed : Cond.instanceMethod yX0_partNamed ∈ gtb := gtb_in (tb_3 (List.mem_of_getElem? (i := 141) (by decide +kernel))) rfl
theorem se_m0_partNamed : Cond.selects yX0_partNamed.cls yX0_partNamed yX0_partNamed ∈ gtb := gtb_in (tb_3 (List.mem_of_getElem? (i := 142) (by decide +kernel))) rfl
abbrev m0_addPart : MT := (yX0_addPart, cX0_addPart, 2, none)
set_option maxRecDepth 100000 in
theorem cv_m0_addPart : CV m0_addPart 1 := ⟨gtb_in (tb_3 (List.mem_of_getElem? (i := 147) (by rfl))) rfl, gtb_in (tb_1 (List.mem_of_getElem? (i := 3) (by decide +kernel))) rfl, ⟨by decide +kernel, by decide +kernel⟩, by decide +kernel, by decide +kernel⟩
theorem in_m0_addPart : Cond.instanceMethod yX0_addPart ∈ gtb := gtb_in (tb_3 (List.mem_of_getElem? (i := 145) (by decide +kernel))) rfl
theorem se_m0_addPart : Cond.selects yX0_addPart.cls yX0_addPart yX0_addPart ∈ gtb := gtb_in (tb_3 (List.mem_of_getElem? (i := 146) (by decide +kernel))) rfl
abbrev m7_readFormula : MT := (yX7_readFormula, cX7_readFormula, 4, (some .boolean))
set_option maxRecDepth 100000 in
theorem cv_m7_readFormula : CV m7_readFormula 1 := ⟨gtb_in (tb_3 (List.mem_of_getElem? (i := 151) (by rfl))) rfl, gtb_in (tb_1 (List.mem_of_getElem? (i := 2) (by decide +kernel))) rfl, ⟨by decide +kernel, by decide +kernel⟩, by decide +kernel, by decide +kernel⟩
theorem in_m7_readFormula : Cond.instanceMethod yX7_readFormula ∈ gtb := gtb_in (tb_3 (List.mem_of_getElem? (i := 150) (by decide +kernel))) rfl
theorem se_m7_readFormula : Cond.selects yX7_readFormula.cls yX7_readFormula yX7_readFormula ∈ gtb := gtb_in (List.mem_append_left _ (List.mem_of_getElem? (i := 19) (by decide +kernel))) rfl
abbrev m3_begin : MT := (yX3_begin, cX3_begin, 2, none)
set_option maxRecDepth 100000 in
theorem cv_m3_begin : CV m3_begin 1 := ⟨gtb_in (tb_3 (List.mem_of_getElem? (i := 155) (by rfl))) rfl, gtb_in (tb_1 (List.mem_of_getElem? (i := 4) (by decide +kernel))) rfl, ⟨by decide +kernel, by decide +kernel⟩, by decide +kernel, by decide +kernel⟩
theorem in_m3_begin : Cond.instanceMethod yX3_begin ∈ gtb := gtb_in (tb_3 (List.mem_of_getElem? (i := 153) (by decide +kernel))) rfl
theorem se_m3_begin : Cond.selects yX3_begin.cls yX3_begin yX3_begin ∈ gtb := gtb_in (tb_3 (List.mem_of_getElem? (i := 154) (by decide +kernel))) rfl
abbrev m7_takeOperand : MT := (yX7_takeOperand, cX7_takeOperand, 1, (some .boolean))
set_option maxRecDepth 100000 in
theorem cv_m7_takeOperand : CV m7_takeOperand 0 := ⟨gtb_in (tb_3 (List.mem_of_getElem? (i := 160) (by rfl))) rfl, gtb_in (tb_1 (List.mem_of_getElem? (i := 2) (by decide +kernel))) rfl, ⟨by decide +kernel, by decide +kernel⟩, by decide +kernel, by decide +kernel⟩
theorem in_m7_takeOperand : Cond.instanceMethod yX7_takeOperand ∈ gtb := gtb_in (tb_3 (List.mem_of_getElem? (i := 159) (by decide +kernel))) rfl
theorem se_m7_takeOperand : Cond.selects yX7_takeOperand.cls yX7_takeOperand yX7_takeOperand ∈ gtb := gtb_in (List.mem_append_left _ (List.mem_of_getElem? (i := 20) (by decide +kernel))) rfl
abbrev m7_takeLeaf : MT := (yX7_takeLeaf, cX7_takeLeaf, 2, (some .boolean))
set_option maxRecDepth 100000 in
theorem cv_m7_takeLeaf : CV m7_takeLeaf 1 := ⟨gtb_in (tb_3 (List.mem_of_getElem? (i := 164) (by rfl))) rfl, gtb_in (tb_1 (List.mem_of_getElem? (i := 2) (by decide +kernel))) rfl, ⟨by decide +kernel, by decide +kernel⟩, by decide +kernel, by decide +kernel⟩
theorem in_m7_takeLeaf : Cond.instanceMethod yX7_takeLeaf ∈ gtb := gtb_in (tb_3 (List.mem_of_getElem? (i := 163) (by decide +kernel))) rfl
theorem se_m7_takeLeaf : Cond.selects yX7_takeLeaf.cls yX7_takeLeaf yX7_takeLeaf ∈ gtb := gtb_in (List.mem_append_left _ (List.mem_of_getElem? (i := 21) (by decide +kernel))) rfl
abbrev m7_countKnot : MT := (yX7_countKnot, cX7_countKnot, 1, (some .boolean))
set_option maxRecDepth 100000 in
theorem cv_m7_countKnot : CV m7_countKnot 0 := ⟨gtb_in (tb_3 (List.mem_of_getElem? (i := 168) (by rfl))) rfl, gtb_in (tb_1 (List.mem_of_getElem? (i := 2) (by decide +kernel))) rfl, ⟨by decide +kernel, by decide +kernel⟩, by decide +kernel, by decide +kernel⟩
theorem in_m7_countKnot : Cond.instanceMethod yX7_countKnot ∈ gtb := gtb_in (tb_3 (List.mem_of_getElem? (i := 167) (by decide +kernel))) rfl
theorem se_m7_countKnot : Cond.selects yX7_countKnot.cls yX7_countKnot yX7_countKnot ∈ gtb := gtb_in (List.mem_append_left _ (List.mem_of_getElem? (i := 22) (by decide +kernel))) rfl
abbrev m3_add : MT := (yX3_add, cX3_add, 2, none)
set_option maxRecDepth 100000 in
theorem cv_m3_add : CV m3_add 1 := ⟨gtb_in (tb_3 (List.mem_of_getElem? (i := 172) (by rfl))) rfl, gtb_in (tb_1 (List.mem_of_getElem? (i := 4) (by decide +kernel))) rfl, ⟨by decide +kernel, by decide +kernel⟩, by decide +kernel, by decide +kernel⟩
theorem in_m3_add : Cond.instanceMethod yX3_add ∈ gtb := gtb_in (tb_3 (List.mem_of_getElem? (i := 170) (by decide +kernel))) rfl
theorem se_m3_add : Cond.selects yX3_add.cls yX3_add yX3_add ∈ gtb := gtb_in (tb_3 (List.mem_of_getElem? (i := 171) (by decide +kernel))) rfl
abbrev m7_takeOpen : MT := (yX7_takeOpen, cX7_takeOpen, 1, (some .boolean))
set_option maxRecDepth 100000 in
theorem cv_m7_takeOpen : CV m7_takeOpen 0 := ⟨gtb_in (tb_3 (List.mem_of_getElem? (i := 176) (by rfl))) rfl, gtb_in (tb_1 (List.mem_of_getElem? (i := 2) (by decide +kernel))) rfl, ⟨by decide +kernel, by decide +kernel⟩, by decide +kernel, by decide +kernel⟩
theorem in_m7_takeOpen : Cond.instanceMethod yX7_takeOpen ∈ gtb := gtb_in (tb_3 (List.mem_of_getElem? (i := 175) (by decide +kernel))) rfl
theorem se_m7_takeOpen : Cond.selects yX7_takeOpen.cls yX7_takeOpen yX7_takeOpen ∈ gtb := gtb_in (List.mem_append_left _ (List.mem_of_getElem? (i := 23) (by decide +kernel))) rfl
abbrev m7_letWait : MT := (yX7_letWait, cX7_letWait, 2, (some .boolean))
set_option maxRecDepth 100000 in
theorem cv_m7_letWait : CV m7_letWait 1 := ⟨gtb_in (tb_3 (List.mem_of_getElem? (i := 180) (by rfl))) rfl, gtb_in (tb_1 (List.mem_of_getElem? (i := 2) (by decide +kernel))) rfl, ⟨by decide +kernel, by decide +kernel⟩, by decide +kernel, by decide +kernel⟩
theorem in_m7_letWait : Cond.instanceMethod yX7_letWait ∈ gtb := gtb_in (tb_3 (List.mem_of_getElem? (i := 179) (by decide +kernel))) rfl
theorem se_m7_letWait : Cond.selects yX7_letWait.cls yX7_letWait yX7_letWait ∈ gtb := gtb_in (List.mem_append_left _ (List.mem_of_getElem? (i := 24) (by decide +kernel))) rfl
abbrev m7_latestWaiting : MT := (yX7_latestWaiting, cX7_latestWaiting, 1, (some .int))
set_option maxRecDepth 100000 in
theorem cv_m7_latestWaiting : CV m7_latestWaiting 0 := ⟨gtb_in (tb_3 (List.mem_of_getElem? (i := 184) (by rfl))) rfl, gtb_in (tb_1 (List.mem_of_getElem? (i := 2) (by decide +kernel))) rfl, ⟨by decide +kernel, by decide +kernel⟩, by decide +kernel, by decide +kernel⟩
theorem in_m7_latestWaiting : Cond.instanceMethod yX7_latestWaiting ∈ gtb := gtb_in (tb_3 (List.mem_of_getElem? (i := 183) (by decide +kernel))) rfl
theorem se_m7_latestWaiting : Cond.selects yX7_latestWaiting.cls yX7_latestWaiting yX7_latestWaiting ∈ gtb := gtb_in (List.mem_append_left _ (List.mem_of_getElem? (i := 25) (by decide +kernel))) rfl
abbrev m7_bindingOf : MT := (yX7_bindingOf, cX7_bindingOf, 1, (some .int))
set_option maxRecDepth 100000 in
theorem cv_m7_bindingOf : CV m7_bindingOf 1 := ⟨gtb_in (tb_3 (List.mem_of_getElem? (i := 187) (by rfl))) rfl, gtb_in (tb_1 (List.mem_of_getElem? (i := 2) (by decide +kernel))) rfl, ⟨by decide +kernel, by decide +kernel⟩, by decide +kernel, by decide +kernel⟩
theorem st_m7_bindingOf : Cond.static yX7_bindingOf ∈ gtb := gtb_in (tb_3 (List.mem_of_getElem? (i := 186) (by decide +kernel))) rfl
abbrev m7_takeSign : MT := (yX7_takeSign, cX7_takeSign, 3, (some .boolean))
set_option maxRecDepth 100000 in
theorem cv_m7_takeSign : CV m7_takeSign 0 := ⟨gtb_in (tb_3 (List.mem_of_getElem? (i := 191) (by rfl))) rfl, gtb_in (tb_1 (List.mem_of_getElem? (i := 2) (by decide +kernel))) rfl, ⟨by decide +kernel, by decide +kernel⟩, by decide +kernel, by decide +kernel⟩
theorem in_m7_takeSign : Cond.instanceMethod yX7_takeSign ∈ gtb := gtb_in (tb_3 (List.mem_of_getElem? (i := 190) (by decide +kernel))) rfl
theorem se_m7_takeSign : Cond.selects yX7_takeSign.cls yX7_takeSign yX7_takeSign ∈ gtb := gtb_in (List.mem_append_left _ (List.mem_of_getElem? (i := 26) (by decide +kernel))) rfl
abbrev m7_layWaiting : MT := (yX7_layWaiting, cX7_layWaiting, 2, none)
set_option maxRecDepth 100000 in
theorem cv_m7_layWaiting : CV m7_layWaiting 1 := ⟨gtb_in (tb_3 (List.mem_of_getElem? (i := 195) (by rfl))) rfl, gtb_in (tb_1 (List.mem_of_getElem? (i := 2) (by decide +kernel))) rfl, ⟨by decide +kernel, by decide +kernel⟩, by decide +kernel, by decide +kernel⟩
theorem in_m7_layWaiting : Cond.instanceMethod yX7_layWaiting ∈ gtb := gtb_in (tb_3 (List.mem_of_getElem? (i := 194) (by decide +kernel))) rfl
theorem se_m7_layWaiting : Cond.selects yX7_layWaiting.cls yX7_layWaiting yX7_layWaiting ∈ gtb := gtb_in (List.mem_append_left _ (List.mem_of_getElem? (i := 27) (by decide +kernel))) rfl
abbrev m3_end : MT := (yX3_end, cX3_end, 2, none)
set_option maxRecDepth 100000 in
theorem cv_m3_end : CV m3_end 1 := ⟨gtb_in (tb_3 (List.mem_of_getElem? (i := 199) (by rfl))) rfl, gtb_in (tb_1 (List.mem_of_getElem? (i := 4) (by decide +kernel))) rfl, ⟨by decide +kernel, by decide +kernel⟩, by decide +kernel, by decide +kernel⟩
theorem in_m3_end : Cond.instanceMethod yX3_end ∈ gtb := gtb_in (tb_3 (List.mem_of_getElem? (i := 197) (by decide +kernel))) rfl
theorem se_m3_end : Cond.selects yX3_end.cls yX3_end yX3_end ∈ gtb := gtb_in (tb_3 (List.mem_of_getElem? (i := 198) (by decide +kernel))) rfl
abbrev m7_readSeason : MT := (yX7_readSeason, cX7_readSeason, 2, (some .boolean))
set_option maxRecDepth 100000 in
theorem cv_m7_readSeason : CV m7_readSeason 0 := ⟨gtb_in (tb_3 (List.mem_of_getElem? (i := 203) (by rfl))) rfl, gtb_in (tb_1 (List.mem_of_getElem? (i := 2) (by decide +kernel))) rfl, ⟨by decide +kernel, by decide +kernel⟩, by decide +kernel, by decide +kernel⟩
theorem in_m7_readSeason : Cond.instanceMethod yX7_readSeason ∈ gtb := gtb_in (tb_3 (List.mem_of_getElem? (i := 202) (by decide +kernel))) rfl
theorem se_m7_readSeason : Cond.selects yX7_readSeason.cls yX7_readSeason yX7_readSeason ∈ gtb := gtb_in (List.mem_append_left _ (List.mem_of_getElem? (i := 28) (by decide +kernel))) rfl
abbrev m7_readRiseWord : MT := (yX7_readRiseWord, cX7_readRiseWord, 1, (some .boolean))
set_option maxRecDepth 100000 in
theorem cv_m7_readRiseWord : CV m7_readRiseWord 0 := ⟨gtb_in (tb_3 (List.mem_of_getElem? (i := 207) (by rfl))) rfl, gtb_in (tb_1 (List.mem_of_getElem? (i := 2) (by decide +kernel))) rfl, ⟨by decide +kernel, by decide +kernel⟩, by decide +kernel, by decide +kernel⟩
theorem in_m7_readRiseWord : Cond.instanceMethod yX7_readRiseWord ∈ gtb := gtb_in (tb_3 (List.mem_of_getElem? (i := 206) (by decide +kernel))) rfl
theorem se_m7_readRiseWord : Cond.selects yX7_readRiseWord.cls yX7_readRiseWord yX7_readRiseWord ∈ gtb := gtb_in (List.mem_append_left _ (List.mem_of_getElem? (i := 29) (by decide +kernel))) rfl
abbrev m7_endLine : MT := (yX7_endLine, cX7_endLine, 1, none)
set_option maxRecDepth 100000 in
theorem cv_m7_endLine : CV m7_endLine 0 := ⟨gtb_in (tb_3 (List.mem_of_getElem? (i := 211) (by rfl))) rfl, gtb_in (tb_1 (List.mem_of_getElem? (i := 2) (by decide +kernel))) rfl, ⟨by decide +kernel, by decide +kernel⟩, by decide +kernel, by decide +kernel⟩
theorem in_m7_endLine : Cond.instanceMethod yX7_endLine ∈ gtb := gtb_in (tb_3 (List.mem_of_getElem? (i := 210) (by decide +kernel))) rfl
theorem se_m7_endLine : Cond.selects yX7_endLine.cls yX7_endLine yX7_endLine ∈ gtb := gtb_in (List.mem_append_left _ (List.mem_of_getElem? (i := 30) (by decide +kernel))) rfl
abbrev m0_take : MT := (yX0_take, cX0_take, 2, none)
set_option maxRecDepth 100000 in
theorem cv_m0_take : CV m0_take 1 := ⟨gtb_in (tb_3 (List.mem_of_getElem? (i := 215) (by rfl))) rfl, gtb_in (tb_1 (List.mem_of_getElem? (i := 3) (by decide +kernel))) rfl, ⟨by decide +kernel, by decide +kernel⟩, by decide +kernel, by decide +kernel⟩
theorem in_m0_take : Cond.instanceMethod yX0_take ∈ gtb := gtb_in (tb_3 (List.mem_of_getElem? (i := 213) (by decide +kernel))) rfl
theorem se_m0_take : Cond.selects yX0_take.cls yX0_take yX0_take ∈ gtb := gtb_in (tb_3 (List.mem_of_getElem? (i := 214) (by decide +kernel))) rfl
abbrev m3_take : MT := (yX3_take, cX3_take, 2, none)
set_option maxRecDepth 100000 in
theorem cv_m3_take : CV m3_take 1 := ⟨gtb_in (tb_3 (List.mem_of_getElem? (i := 220) (by rfl))) rfl, gtb_in (tb_1 (List.mem_of_getElem? (i := 4) (by decide +kernel))) rfl, ⟨by decide +kernel, by decide +kernel⟩, by decide +kernel, by decide +kernel⟩
theorem in_m3_take : Cond.instanceMethod yX3_take ∈ gtb := gtb_in (tb_3 (List.mem_of_getElem? (i := 218) (by decide +kernel))) rfl
theorem se_m3_take : Cond.selects yX3_take.cls yX3_take yX3_take ∈ gtb := gtb_in (tb_3 (List.mem_of_getElem? (i := 219) (by decide +kernel))) rfl
abbrev m2_take : MT := (yX2_take, cX2_take, 2, none)
set_option maxRecDepth 100000 in
theorem cv_m2_take : CV m2_take 1 := ⟨gtb_in (tb_3 (List.mem_of_getElem? (i := 225) (by rfl))) rfl, gtb_in (tb_1 (List.mem_of_getElem? (i := 5) (by decide +kernel))) rfl, ⟨by decide +kernel, by decide +kernel⟩, by decide +kernel, by decide +kernel⟩
theorem in_m2_take : Cond.instanceMethod yX2_take ∈ gtb := gtb_in (tb_3 (List.mem_of_getElem? (i := 223) (by decide +kernel))) rfl
theorem se_m2_take : Cond.selects yX2_take.cls yX2_take yX2_take ∈ gtb := gtb_in (tb_3 (List.mem_of_getElem? (i := 224) (by decide +kernel))) rfl
abbrev m4_clear : MT := (yX4_clear, cX4_clear, 1, none)
set_option maxRecDepth 100000 in
theorem cv_m4_clear : CV m4_clear 0 := ⟨gtb_in (tb_3 (List.mem_of_getElem? (i := 230) (by rfl))) rfl, gtb_in (tb_1 (List.mem_of_getElem? (i := 12) (by decide +kernel))) rfl, ⟨by decide +kernel, by decide +kernel⟩, by decide +kernel, by decide +kernel⟩
theorem in_m4_clear : Cond.instanceMethod yX4_clear ∈ gtb := gtb_in (tb_3 (List.mem_of_getElem? (i := 228) (by decide +kernel))) rfl
theorem se_m4_clear : Cond.selects yX4_clear.cls yX4_clear yX4_clear ∈ gtb := gtb_in (tb_3 (List.mem_of_getElem? (i := 229) (by decide +kernel))) rfl
abbrev m6_forget : MT := (yX6_forget, cX6_forget, 1, none)
set_option maxRecDepth 100000 in
theorem cv_m6_forget : CV m6_forget 0 := ⟨gtb_in (tb_3 (List.mem_of_getElem? (i := 234) (by rfl))) rfl, gtb_in (tb_1 (List.mem_of_getElem? (i := 13) (by decide +kernel))) rfl, ⟨by decide +kernel, by decide +kernel⟩, by decide +kernel, by decide +kernel⟩
theorem in_m6_forget : Cond.instanceMethod yX6_forget ∈ gtb := gtb_in (tb_3 (List.mem_of_getElem? (i := 232) (by decide +kernel))) rfl
theorem se_m6_forget : Cond.selects yX6_forget.cls yX6_forget yX6_forget ∈ gtb := gtb_in (tb_3 (List.mem_of_getElem? (i := 233) (by decide +kernel))) rfl
abbrev m10_fault : MT := (yX10_fault, cX10_fault, 2, (some .int))
set_option maxRecDepth 100000 in
theorem cv_m10_fault : CV m10_fault 1 := ⟨gtb_in (tb_3 (List.mem_of_getElem? (i := 238) (by rfl))) rfl, gtb_in (tb_1 (List.mem_of_getElem? (i := 1) (by decide +kernel))) rfl, ⟨by decide +kernel, by decide +kernel⟩, by decide +kernel, by decide +kernel⟩
theorem in_m10_fault : Cond.instanceMethod yX10_fault ∈ gtb := gtb_in (tb_3 (List.mem_of_getElem? (i := 236) (by decide +kernel))) rfl
theorem se_m10_fault : Cond.selects yX10_fault.cls yX10_fault yX10_fault ∈ gtb := gtb_in (tb_3 (List.mem_of_getElem? (i := 237) (by decide +kernel))) rfl
abbrev m10_named : MT := (yX10_named, cX10_named, 3, (some .int))
set_option maxRecDepth 100000 in
theorem cv_m10_named : CV m10_named 2 := ⟨gtb_in (tb_4 (List.mem_of_getElem? (i := 2) (by rfl))) rfl, gtb_in (tb_1 (List.mem_of_getElem? (i := 1) (by decide +kernel))) rfl, ⟨by decide +kernel, by decide +kernel⟩, by decide +kernel, by decide +kernel⟩
theorem in_m10_named : Cond.instanceMethod yX10_named ∈ gtb := gtb_in (tb_4 (List.mem_of_getElem? (i := 0) (by decide +kernel))) rfl
theorem se_m10_named : Cond.selects yX10_named.cls yX10_named yX10_named ∈ gtb := gtb_in (tb_4 (List.mem_of_getElem? (i := 1) (by decide +kernel))) rfl
abbrev m10_stands : MT := (yX10_stands, cX10_stands, 5, (some .int))
set_option maxRecDepth 100000 in
theorem cv_m10_stands : CV m10_stands 3 := ⟨gtb_in (tb_4 (List.mem_of_getElem? (i := 8) (by rfl))) rfl, gtb_in (tb_1 (List.mem_of_getElem? (i := 1) (by decide +kernel))) rfl, ⟨by decide +kernel, by decide +kernel⟩, by decide +kernel, by decide +kernel⟩
theorem in_m10_stands : Cond.instanceMethod yX10_stands ∈ gtb := gtb_in (tb_4 (List.mem_of_getElem? (i := 6) (by decide +kernel))) rfl
theorem se_m10_stands : Cond.selects yX10_stands.cls yX10_stands yX10_stands ∈ gtb := gtb_in (tb_4 (List.mem_of_getElem? (i := 7) (by decide +kernel))) rfl
abbrev m10_areTwo : MT := (yX10_areTwo, cX10_areTwo, 3, (some .boolean))
set_option maxRecDepth 100000 in
theorem cv_m10_areTwo : CV m10_areTwo 2 := ⟨gtb_in (tb_4 (List.mem_of_getElem? (i := 12) (by rfl))) rfl, gtb_in (tb_1 (List.mem_of_getElem? (i := 1) (by decide +kernel))) rfl, ⟨by decide +kernel, by decide +kernel⟩, by decide +kernel, by decide +kernel⟩
theorem in_m10_areTwo : Cond.instanceMethod yX10_areTwo ∈ gtb := gtb_in (tb_4 (List.mem_of_getElem? (i := 11) (by decide +kernel))) rfl
theorem se_m10_areTwo : Cond.selects yX10_areTwo.cls yX10_areTwo yX10_areTwo ∈ gtb := gtb_in (List.mem_append_left _ (List.mem_of_getElem? (i := 31) (by decide +kernel))) rfl
abbrev m10_isPerson : MT := (yX10_isPerson, cX10_isPerson, 2, (some .boolean))
set_option maxRecDepth 100000 in
theorem cv_m10_isPerson : CV m10_isPerson 1 := ⟨gtb_in (tb_4 (List.mem_of_getElem? (i := 16) (by rfl))) rfl, gtb_in (tb_1 (List.mem_of_getElem? (i := 1) (by decide +kernel))) rfl, ⟨by decide +kernel, by decide +kernel⟩, by decide +kernel, by decide +kernel⟩
theorem in_m10_isPerson : Cond.instanceMethod yX10_isPerson ∈ gtb := gtb_in (tb_4 (List.mem_of_getElem? (i := 15) (by decide +kernel))) rfl
theorem se_m10_isPerson : Cond.selects yX10_isPerson.cls yX10_isPerson yX10_isPerson ∈ gtb := gtb_in (List.mem_append_left _ (List.mem_of_getElem? (i := 32) (by decide +kernel))) rfl
abbrev m10_isSeason : MT := (yX10_isSeason, cX10_isSeason, 1, (some .boolean))
set_option maxRecDepth 100000 in
theorem cv_m10_isSeason : CV m10_isSeason 1 := ⟨gtb_in (tb_4 (List.mem_of_getElem? (i := 19) (by rfl))) rfl, gtb_in (tb_1 (List.mem_of_getElem? (i := 1) (by decide +kernel))) rfl, ⟨by decide +kernel, by decide +kernel⟩, by decide +kernel, by decide +kernel⟩
theorem st_m10_isSeason : Cond.static yX10_isSeason ∈ gtb := gtb_in (tb_4 (List.mem_of_getElem? (i := 18) (by decide +kernel))) rfl
abbrev m5_between : MT := (yX5_between, cX5_between, 3, (some .int))
set_option maxRecDepth 100000 in
theorem cv_m5_between : CV m5_between 2 := ⟨gtb_in (tb_4 (List.mem_of_getElem? (i := 24) (by rfl))) rfl, gtb_in (tb_1 (List.mem_of_getElem? (i := 6) (by decide +kernel))) rfl, ⟨by decide +kernel, by decide +kernel⟩, by decide +kernel, by decide +kernel⟩
theorem in_m5_between : Cond.instanceMethod yX5_between ∈ gtb := gtb_in (tb_4 (List.mem_of_getElem? (i := 22) (by decide +kernel))) rfl
theorem se_m5_between : Cond.selects yX5_between.cls yX5_between yX5_between ∈ gtb := gtb_in (tb_4 (List.mem_of_getElem? (i := 23) (by decide +kernel))) rfl
abbrev m10_season : MT := (yX10_season, cX10_season, 2, (some .boolean))
set_option maxRecDepth 100000 in
theorem cv_m10_season : CV m10_season 1 := ⟨gtb_in (tb_4 (List.mem_of_getElem? (i := 28) (by rfl))) rfl, gtb_in (tb_1 (List.mem_of_getElem? (i := 1) (by decide +kernel))) rfl, ⟨by decide +kernel, by decide +kernel⟩, by decide +kernel, by decide +kernel⟩
theorem in_m10_season : Cond.instanceMethod yX10_season ∈ gtb := gtb_in (tb_4 (List.mem_of_getElem? (i := 26) (by decide +kernel))) rfl
theorem se_m10_season : Cond.selects yX10_season.cls yX10_season yX10_season ∈ gtb := gtb_in (tb_4 (List.mem_of_getElem? (i := 27) (by decide +kernel))) rfl
abbrev m10_raise : MT := (yX10_raise, cX10_raise, 4, (some .int))
set_option maxRecDepth 100000 in
theorem cv_m10_raise : CV m10_raise 3 := ⟨gtb_in (tb_4 (List.mem_of_getElem? (i := 32) (by rfl))) rfl, gtb_in (tb_1 (List.mem_of_getElem? (i := 1) (by decide +kernel))) rfl, ⟨by decide +kernel, by decide +kernel⟩, by decide +kernel, by decide +kernel⟩
theorem in_m10_raise : Cond.instanceMethod yX10_raise ∈ gtb := gtb_in (tb_4 (List.mem_of_getElem? (i := 30) (by decide +kernel))) rfl
theorem se_m10_raise : Cond.selects yX10_raise.cls yX10_raise yX10_raise ∈ gtb := gtb_in (tb_4 (List.mem_of_getElem? (i := 31) (by decide +kernel))) rfl
abbrev m2_dropLast : MT := (yX2_dropLast, cX2_dropLast, 1, none)
set_option maxRecDepth 100000 in
theorem cv_m2_dropLast : CV m2_dropLast 0 := ⟨gtb_in (tb_4 (List.mem_of_getElem? (i := 39) (by rfl))) rfl, gtb_in (tb_1 (List.mem_of_getElem? (i := 5) (by decide +kernel))) rfl, ⟨by decide +kernel, by decide +kernel⟩, by decide +kernel, by decide +kernel⟩
theorem in_m2_dropLast : Cond.instanceMethod yX2_dropLast ∈ gtb := gtb_in (tb_4 (List.mem_of_getElem? (i := 37) (by decide +kernel))) rfl
theorem se_m2_dropLast : Cond.selects yX2_dropLast.cls yX2_dropLast yX2_dropLast ∈ gtb := gtb_in (tb_4 (List.mem_of_getElem? (i := 38) (by decide +kernel))) rfl
abbrev m10_strike : MT := (yX10_strike, cX10_strike, 2, (some .boolean))
set_option maxRecDepth 100000 in
theorem cv_m10_strike : CV m10_strike 1 := ⟨gtb_in (tb_4 (List.mem_of_getElem? (i := 43) (by rfl))) rfl, gtb_in (tb_1 (List.mem_of_getElem? (i := 1) (by decide +kernel))) rfl, ⟨by decide +kernel, by decide +kernel⟩, by decide +kernel, by decide +kernel⟩
theorem in_m10_strike : Cond.instanceMethod yX10_strike ∈ gtb := gtb_in (tb_4 (List.mem_of_getElem? (i := 41) (by decide +kernel))) rfl
theorem se_m10_strike : Cond.selects yX10_strike.cls yX10_strike yX10_strike ∈ gtb := gtb_in (tb_4 (List.mem_of_getElem? (i := 42) (by decide +kernel))) rfl
abbrev m2_strikeOut : MT := (yX2_strikeOut, cX2_strikeOut, 2, none)
set_option maxRecDepth 100000 in
theorem cv_m2_strikeOut : CV m2_strikeOut 1 := ⟨gtb_in (tb_4 (List.mem_of_getElem? (i := 48) (by rfl))) rfl, gtb_in (tb_1 (List.mem_of_getElem? (i := 5) (by decide +kernel))) rfl, ⟨by decide +kernel, by decide +kernel⟩, by decide +kernel, by decide +kernel⟩
theorem in_m2_strikeOut : Cond.instanceMethod yX2_strikeOut ∈ gtb := gtb_in (tb_4 (List.mem_of_getElem? (i := 46) (by decide +kernel))) rfl
theorem se_m2_strikeOut : Cond.selects yX2_strikeOut.cls yX2_strikeOut yX2_strikeOut ∈ gtb := gtb_in (tb_4 (List.mem_of_getElem? (i := 47) (by decide +kernel))) rfl
abbrev m10_fact : MT := (yX10_fact, cX10_fact, 3, (some .int))
set_option maxRecDepth 100000 in
theorem cv_m10_fact : CV m10_fact 2 := ⟨gtb_in (tb_4 (List.mem_of_getElem? (i := 52) (by rfl))) rfl, gtb_in (tb_1 (List.mem_of_getElem? (i := 1) (by decide +kernel))) rfl, ⟨by decide +kernel, by decide +kernel⟩, by decide +kernel, by decide +kernel⟩
theorem in_m10_fact : Cond.instanceMethod yX10_fact ∈ gtb := gtb_in (tb_4 (List.mem_of_getElem? (i := 50) (by decide +kernel))) rfl
theorem se_m10_fact : Cond.selects yX10_fact.cls yX10_fact yX10_fact ∈ gtb := gtb_in (tb_4 (List.mem_of_getElem? (i := 51) (by decide +kernel))) rfl
abbrev m10_ring : MT := (yX10_ring, cX10_ring, 5, (some .int))
set_option maxRecDepth 100000 in
theorem cv_m10_ring : CV m10_ring 3 := ⟨gtb_in (tb_4 (List.mem_of_getElem? (i := 57) (by rfl))) rfl, gtb_in (tb_1 (List.mem_of_getElem? (i := 1) (by decide +kernel))) rfl, ⟨by decide +kernel, by decide +kernel⟩, by decide +kernel, by decide +kernel⟩
theorem in_m10_ring : Cond.instanceMethod yX10_ring ∈ gtb := gtb_in (tb_4 (List.mem_of_getElem? (i := 55) (by decide +kernel))) rfl
theorem se_m10_ring : Cond.selects yX10_ring.cls yX10_ring yX10_ring ∈ gtb := gtb_in (tb_4 (List.mem_of_getElem? (i := 56) (by decide +kernel))) rfl
abbrev m5_stepsDown : MT := (yX5_stepsDown, cX5_stepsDown, 5, (some .int))
set_option maxRecDepth 100000 in
theorem cv_m5_stepsDown : CV m5_stepsDown 2 := ⟨gtb_in (tb_4 (List.mem_of_getElem? (i := 61) (by rfl))) rfl, gtb_in (tb_1 (List.mem_of_getElem? (i := 6) (by decide +kernel))) rfl, ⟨by decide +kernel, by decide +kernel⟩, by decide +kernel, by decide +kernel⟩
theorem in_m5_stepsDown : Cond.instanceMethod yX5_stepsDown ∈ gtb := gtb_in (tb_4 (List.mem_of_getElem? (i := 59) (by decide +kernel))) rfl
theorem se_m5_stepsDown : Cond.selects yX5_stepsDown.cls yX5_stepsDown yX5_stepsDown ∈ gtb := gtb_in (tb_4 (List.mem_of_getElem? (i := 60) (by decide +kernel))) rfl
abbrev m5_firstBelowAt : MT := (yX5_firstBelowAt, cX5_firstBelowAt, 4, (some .int))
set_option maxRecDepth 100000 in
theorem cv_m5_firstBelowAt : CV m5_firstBelowAt 2 := ⟨gtb_in (tb_4 (List.mem_of_getElem? (i := 65) (by rfl))) rfl, gtb_in (tb_1 (List.mem_of_getElem? (i := 6) (by decide +kernel))) rfl, ⟨by decide +kernel, by decide +kernel⟩, by decide +kernel, by decide +kernel⟩
theorem in_m5_firstBelowAt : Cond.instanceMethod yX5_firstBelowAt ∈ gtb := gtb_in (tb_4 (List.mem_of_getElem? (i := 64) (by decide +kernel))) rfl
theorem se_m5_firstBelowAt : Cond.selects yX5_firstBelowAt.cls yX5_firstBelowAt yX5_firstBelowAt ∈ gtb := gtb_in (List.mem_append_left _ (List.mem_of_getElem? (i := 33) (by decide +kernel))) rfl
abbrev m5_onTheWay : MT := (yX5_onTheWay, cX5_onTheWay, 6, (some .int))
set_option maxRecDepth 100000 in
theorem cv_m5_onTheWay : CV m5_onTheWay 3 := ⟨gtb_in (tb_4 (List.mem_of_getElem? (i := 69) (by rfl))) rfl, gtb_in (tb_1 (List.mem_of_getElem? (i := 6) (by decide +kernel))) rfl, ⟨by decide +kernel, by decide +kernel⟩, by decide +kernel, by decide +kernel⟩
theorem in_m5_onTheWay : Cond.instanceMethod yX5_onTheWay ∈ gtb := gtb_in (tb_4 (List.mem_of_getElem? (i := 67) (by decide +kernel))) rfl
theorem se_m5_onTheWay : Cond.selects yX5_onTheWay.cls yX5_onTheWay yX5_onTheWay ∈ gtb := gtb_in (tb_4 (List.mem_of_getElem? (i := 68) (by decide +kernel))) rfl
abbrev m10_say : MT := (yX10_say, cX10_say, 4, (some .int))
set_option maxRecDepth 100000 in
theorem cv_m10_say : CV m10_say 3 := ⟨gtb_in (tb_4 (List.mem_of_getElem? (i := 73) (by rfl))) rfl, gtb_in (tb_1 (List.mem_of_getElem? (i := 1) (by decide +kernel))) rfl, ⟨by decide +kernel, by decide +kernel⟩, by decide +kernel, by decide +kernel⟩
theorem in_m10_say : Cond.instanceMethod yX10_say ∈ gtb := gtb_in (tb_4 (List.mem_of_getElem? (i := 71) (by decide +kernel))) rfl
theorem se_m10_say : Cond.selects yX10_say.cls yX10_say yX10_say ∈ gtb := gtb_in (tb_4 (List.mem_of_getElem? (i := 72) (by decide +kernel))) rfl
abbrev m10_isSaying : MT := (yX10_isSaying, cX10_isSaying, 4, (some .boolean))
set_option maxRecDepth 100000 in
theorem cv_m10_isSaying : CV m10_isSaying 3 := ⟨gtb_in (tb_4 (List.mem_of_getElem? (i := 77) (by rfl))) rfl, gtb_in (tb_1 (List.mem_of_getElem? (i := 1) (by decide +kernel))) rfl, ⟨by decide +kernel, by decide +kernel⟩, by decide +kernel, by decide +kernel⟩
theorem in_m10_isSaying : Cond.instanceMethod yX10_isSaying ∈ gtb := gtb_in (tb_4 (List.mem_of_getElem? (i := 76) (by decide +kernel))) rfl
theorem se_m10_isSaying : Cond.selects yX10_isSaying.cls yX10_isSaying yX10_isSaying ∈ gtb := gtb_in (List.mem_append_left _ (List.mem_of_getElem? (i := 34) (by decide +kernel))) rfl
abbrev m10_meetNow : MT := (yX10_meetNow, cX10_meetNow, 4, none)
set_option maxRecDepth 100000 in
theorem cv_m10_meetNow : CV m10_meetNow 3 := ⟨gtb_in (tb_4 (List.mem_of_getElem? (i := 81) (by rfl))) rfl, gtb_in (tb_1 (List.mem_of_getElem? (i := 1) (by decide +kernel))) rfl, ⟨by decide +kernel, by decide +kernel⟩, by decide +kernel, by decide +kernel⟩
theorem in_m10_meetNow : Cond.instanceMethod yX10_meetNow ∈ gtb := gtb_in (tb_4 (List.mem_of_getElem? (i := 80) (by decide +kernel))) rfl
theorem se_m10_meetNow : Cond.selects yX10_meetNow.cls yX10_meetNow yX10_meetNow ∈ gtb := gtb_in (List.mem_append_left _ (List.mem_of_getElem? (i := 35) (by decide +kernel))) rfl
abbrev m9_meet : MT := (yX9_meet, cX9_meet, 7, none)
set_option maxRecDepth 100000 in
theorem cv_m9_meet : CV m9_meet 5 := ⟨gtb_in (tb_4 (List.mem_of_getElem? (i := 85) (by rfl))) rfl, gtb_in (tb_1 (List.mem_of_getElem? (i := 11) (by decide +kernel))) rfl, ⟨by decide +kernel, by decide +kernel⟩, by decide +kernel, by decide +kernel⟩
theorem in_m9_meet : Cond.instanceMethod yX9_meet ∈ gtb := gtb_in (tb_4 (List.mem_of_getElem? (i := 83) (by decide +kernel))) rfl
theorem se_m9_meet : Cond.selects yX9_meet.cls yX9_meet yX9_meet ∈ gtb := gtb_in (tb_4 (List.mem_of_getElem? (i := 84) (by decide +kernel))) rfl
abbrev m9_standBy : MT := (yX9_standBy, cX9_standBy, 5, none)
set_option maxRecDepth 100000 in
theorem cv_m9_standBy : CV m9_standBy 4 := ⟨gtb_in (tb_4 (List.mem_of_getElem? (i := 91) (by rfl))) rfl, gtb_in (tb_1 (List.mem_of_getElem? (i := 11) (by decide +kernel))) rfl, ⟨by decide +kernel, by decide +kernel⟩, by decide +kernel, by decide +kernel⟩
theorem in_m9_standBy : Cond.instanceMethod yX9_standBy ∈ gtb := gtb_in (tb_4 (List.mem_of_getElem? (i := 89) (by decide +kernel))) rfl
theorem se_m9_standBy : Cond.selects yX9_standBy.cls yX9_standBy yX9_standBy ∈ gtb := gtb_in (tb_4 (List.mem_of_getElem? (i := 90) (by decide +kernel))) rfl
abbrev m9_rightRow : MT := (yX9_rightRow, cX9_rightRow, 5, (some .int))
set_option maxRecDepth 100000 in
theorem cv_m9_rightRow : CV m9_rightRow 1 := ⟨gtb_in (tb_4 (List.mem_of_getElem? (i := 96) (by rfl))) rfl, gtb_in (tb_1 (List.mem_of_getElem? (i := 11) (by decide +kernel))) rfl, ⟨by decide +kernel, by decide +kernel⟩, by decide +kernel, by decide +kernel⟩
theorem in_m9_rightRow : Cond.instanceMethod yX9_rightRow ∈ gtb := gtb_in (tb_4 (List.mem_of_getElem? (i := 94) (by decide +kernel))) rfl
theorem se_m9_rightRow : Cond.selects yX9_rightRow.cls yX9_rightRow yX9_rightRow ∈ gtb := gtb_in (tb_4 (List.mem_of_getElem? (i := 95) (by decide +kernel))) rfl
abbrev m3_work : MT := (yX3_work, cX3_work, 9, (some .long))
set_option maxRecDepth 100000 in
theorem cv_m3_work : CV m3_work 2 := ⟨gtb_in (tb_4 (List.mem_of_getElem? (i := 100) (by rfl))) rfl, gtb_in (tb_1 (List.mem_of_getElem? (i := 4) (by decide +kernel))) rfl, ⟨by decide +kernel, by decide +kernel⟩, by decide +kernel, by decide +kernel⟩
theorem in_m3_work : Cond.instanceMethod yX3_work ∈ gtb := gtb_in (tb_4 (List.mem_of_getElem? (i := 98) (by decide +kernel))) rfl
theorem se_m3_work : Cond.selects yX3_work.cls yX3_work yX3_work ∈ gtb := gtb_in (tb_4 (List.mem_of_getElem? (i := 99) (by decide +kernel))) rfl
abbrev m10_putLong : MT := (yX10_putLong, cX10_putLong, 4, none)
set_option maxRecDepth 100000 in
theorem cv_m10_putLong : CV m10_putLong 3 := ⟨gtb_in (tb_4 (List.mem_of_getElem? (i := 104) (by rfl))) rfl, gtb_in (tb_1 (List.mem_of_getElem? (i := 1) (by decide +kernel))) rfl, ⟨by decide +kernel, by decide +kernel⟩, by decide +kernel, by decide +kernel⟩
theorem st_m10_putLong : Cond.static yX10_putLong ∈ gtb := gtb_in (tb_4 (List.mem_of_getElem? (i := 103) (by decide +kernel))) rfl
abbrev m10_longAt : MT := (yX10_longAt, cX10_longAt, 2, (some .long))
set_option maxRecDepth 100000 in
theorem cv_m10_longAt : CV m10_longAt 2 := ⟨gtb_in (tb_4 (List.mem_of_getElem? (i := 107) (by rfl))) rfl, gtb_in (tb_1 (List.mem_of_getElem? (i := 1) (by decide +kernel))) rfl, ⟨by decide +kernel, by decide +kernel⟩, by decide +kernel, by decide +kernel⟩
theorem st_m10_longAt : Cond.static yX10_longAt ∈ gtb := gtb_in (tb_4 (List.mem_of_getElem? (i := 106) (by decide +kernel))) rfl
abbrev m3_joined : MT := (yX3_joined, cX3_joined, 5, (some .long))
set_option maxRecDepth 100000 in
theorem cv_m3_joined : CV m3_joined 3 := ⟨gtb_in (tb_4 (List.mem_of_getElem? (i := 110) (by rfl))) rfl, gtb_in (tb_1 (List.mem_of_getElem? (i := 4) (by decide +kernel))) rfl, ⟨by decide +kernel, by decide +kernel⟩, by decide +kernel, by decide +kernel⟩
theorem st_m3_joined : Cond.static yX3_joined ∈ gtb := gtb_in (tb_4 (List.mem_of_getElem? (i := 109) (by decide +kernel))) rfl
abbrev m3_within : MT := (yX3_within, cX3_within, 2, (some .long))
set_option maxRecDepth 100000 in
theorem cv_m3_within : CV m3_within 1 := ⟨gtb_in (tb_4 (List.mem_of_getElem? (i := 113) (by rfl))) rfl, gtb_in (tb_1 (List.mem_of_getElem? (i := 4) (by decide +kernel))) rfl, ⟨by decide +kernel, by decide +kernel⟩, by decide +kernel, by decide +kernel⟩
theorem st_m3_within : Cond.static yX3_within ∈ gtb := gtb_in (tb_4 (List.mem_of_getElem? (i := 112) (by decide +kernel))) rfl
abbrev m3_product : MT := (yX3_product, cX3_product, 6, (some .long))
set_option maxRecDepth 100000 in
theorem cv_m3_product : CV m3_product 2 := ⟨gtb_in (tb_4 (List.mem_of_getElem? (i := 119) (by rfl))) rfl, gtb_in (tb_1 (List.mem_of_getElem? (i := 4) (by decide +kernel))) rfl, ⟨by decide +kernel, by decide +kernel⟩, by decide +kernel, by decide +kernel⟩
theorem st_m3_product : Cond.static yX3_product ∈ gtb := gtb_in (tb_4 (List.mem_of_getElem? (i := 118) (by decide +kernel))) rfl
abbrev m9_countAhead : MT := (yX9_countAhead, cX9_countAhead, 9, (some .int))
set_option maxRecDepth 100000 in
theorem cv_m9_countAhead : CV m9_countAhead 2 := ⟨gtb_in (tb_4 (List.mem_of_getElem? (i := 128) (by rfl))) rfl, gtb_in (tb_1 (List.mem_of_getElem? (i := 11) (by decide +kernel))) rfl, ⟨by decide +kernel, by decide +kernel⟩, by decide +kernel, by decide +kernel⟩
theorem in_m9_countAhead : Cond.instanceMethod yX9_countAhead ∈ gtb := gtb_in (tb_4 (List.mem_of_getElem? (i := 127) (by decide +kernel))) rfl
theorem se_m9_countAhead : Cond.selects yX9_countAhead.cls yX9_countAhead yX9_countAhead ∈ gtb := gtb_in (List.mem_append_left _ (List.mem_of_getElem? (i := 36) (by decide +kernel))) rfl
abbrev m10_place : MT := (yX10_place, cX10_place, 5, (some .long))
set_option maxRecDepth 100000 in
theorem cv_m10_place : CV m10_place 4 := ⟨gtb_in (tb_4 (List.mem_of_getElem? (i := 133) (by rfl))) rfl, gtb_in (tb_1 (List.mem_of_getElem? (i := 1) (by decide +kernel))) rfl, ⟨by decide +kernel, by decide +kernel⟩, by decide +kernel, by decide +kernel⟩
theorem in_m10_place : Cond.instanceMethod yX10_place ∈ gtb := gtb_in (tb_4 (List.mem_of_getElem? (i := 131) (by decide +kernel))) rfl
theorem se_m10_place : Cond.selects yX10_place.cls yX10_place yX10_place ∈ gtb := gtb_in (tb_4 (List.mem_of_getElem? (i := 132) (by decide +kernel))) rfl
abbrev m10_offence : MT := (yX10_offence, cX10_offence, 5, (some .int))
set_option maxRecDepth 100000 in
theorem cv_m10_offence : CV m10_offence 4 := ⟨gtb_in (tb_4 (List.mem_of_getElem? (i := 139) (by rfl))) rfl, gtb_in (tb_1 (List.mem_of_getElem? (i := 1) (by decide +kernel))) rfl, ⟨by decide +kernel, by decide +kernel⟩, by decide +kernel, by decide +kernel⟩
theorem in_m10_offence : Cond.instanceMethod yX10_offence ∈ gtb := gtb_in (tb_4 (List.mem_of_getElem? (i := 137) (by decide +kernel))) rfl
theorem se_m10_offence : Cond.selects yX10_offence.cls yX10_offence yX10_offence ∈ gtb := gtb_in (tb_4 (List.mem_of_getElem? (i := 138) (by decide +kernel))) rfl
abbrev m8_isRow : MT := (yX8_isRow, cX8_isRow, 4, (some .boolean))
set_option maxRecDepth 100000 in
theorem cv_m8_isRow : CV m8_isRow 2 := ⟨gtb_in (tb_4 (List.mem_of_getElem? (i := 142) (by rfl))) rfl, gtb_in (tb_1 (List.mem_of_getElem? (i := 24) (by decide +kernel))) rfl, ⟨by decide +kernel, by decide +kernel⟩, by decide +kernel, by decide +kernel⟩
theorem st_m8_isRow : Cond.static yX8_isRow ∈ gtb := gtb_in (tb_4 (List.mem_of_getElem? (i := 141) (by decide +kernel))) rfl
abbrev m8_wordAt : MT := (yX8_wordAt, cX8_wordAt, 2, (some .int))
set_option maxRecDepth 100000 in
theorem cv_m8_wordAt : CV m8_wordAt 2 := ⟨gtb_in (tb_4 (List.mem_of_getElem? (i := 145) (by rfl))) rfl, gtb_in (tb_1 (List.mem_of_getElem? (i := 24) (by decide +kernel))) rfl, ⟨by decide +kernel, by decide +kernel⟩, by decide +kernel, by decide +kernel⟩
theorem st_m8_wordAt : Cond.static yX8_wordAt ∈ gtb := gtb_in (tb_4 (List.mem_of_getElem? (i := 144) (by decide +kernel))) rfl
abbrev m8_turned : MT := (yX8_turned, cX8_turned, 7, (some .int))
set_option maxRecDepth 100000 in
theorem cv_m8_turned : CV m8_turned 3 := ⟨gtb_in (tb_4 (List.mem_of_getElem? (i := 148) (by rfl))) rfl, gtb_in (tb_1 (List.mem_of_getElem? (i := 24) (by decide +kernel))) rfl, ⟨by decide +kernel, by decide +kernel⟩, by decide +kernel, by decide +kernel⟩
theorem st_m8_turned : Cond.static yX8_turned ∈ gtb := gtb_in (tb_4 (List.mem_of_getElem? (i := 147) (by decide +kernel))) rfl
abbrev m8_spotOf : MT := (yX8_spotOf, cX8_spotOf, 4, (some .int))
set_option maxRecDepth 100000 in
theorem cv_m8_spotOf : CV m8_spotOf 3 := ⟨gtb_in (tb_4 (List.mem_of_getElem? (i := 151) (by rfl))) rfl, gtb_in (tb_1 (List.mem_of_getElem? (i := 24) (by decide +kernel))) rfl, ⟨by decide +kernel, by decide +kernel⟩, by decide +kernel, by decide +kernel⟩
theorem st_m8_spotOf : Cond.static yX8_spotOf ∈ gtb := gtb_in (tb_4 (List.mem_of_getElem? (i := 150) (by decide +kernel))) rfl
abbrev m10_amends : MT := (yX10_amends, cX10_amends, 5, (some .int))
set_option maxRecDepth 100000 in
theorem cv_m10_amends : CV m10_amends 4 := ⟨gtb_in (tb_4 (List.mem_of_getElem? (i := 155) (by rfl))) rfl, gtb_in (tb_1 (List.mem_of_getElem? (i := 1) (by decide +kernel))) rfl, ⟨by decide +kernel, by decide +kernel⟩, by decide +kernel, by decide +kernel⟩
theorem in_m10_amends : Cond.instanceMethod yX10_amends ∈ gtb := gtb_in (tb_4 (List.mem_of_getElem? (i := 153) (by decide +kernel))) rfl
theorem se_m10_amends : Cond.selects yX10_amends.cls yX10_amends yX10_amends ∈ gtb := gtb_in (tb_4 (List.mem_of_getElem? (i := 154) (by decide +kernel))) rfl
abbrev m8_moved : MT := (yX8_moved, cX8_moved, 5, (some .int))
set_option maxRecDepth 100000 in
theorem cv_m8_moved : CV m8_moved 3 := ⟨gtb_in (tb_4 (List.mem_of_getElem? (i := 158) (by rfl))) rfl, gtb_in (tb_1 (List.mem_of_getElem? (i := 24) (by decide +kernel))) rfl, ⟨by decide +kernel, by decide +kernel⟩, by decide +kernel, by decide +kernel⟩
theorem st_m8_moved : Cond.static yX8_moved ∈ gtb := gtb_in (tb_4 (List.mem_of_getElem? (i := 157) (by decide +kernel))) rfl
abbrev m8_left : MT := (yX8_left, cX8_left, 7, (some .int))
set_option maxRecDepth 100000 in
theorem cv_m8_left : CV m8_left 3 := ⟨gtb_in (tb_4 (List.mem_of_getElem? (i := 161) (by rfl))) rfl, gtb_in (tb_1 (List.mem_of_getElem? (i := 24) (by decide +kernel))) rfl, ⟨by decide +kernel, by decide +kernel⟩, by decide +kernel, by decide +kernel⟩
theorem st_m8_left : Cond.static yX8_left ∈ gtb := gtb_in (tb_4 (List.mem_of_getElem? (i := 160) (by decide +kernel))) rfl
abbrev m10_hall : MT := (yX10_hall, cX10_hall, 6, (some .int))
set_option maxRecDepth 100000 in
theorem cv_m10_hall : CV m10_hall 4 := ⟨gtb_in (tb_4 (List.mem_of_getElem? (i := 174) (by rfl))) rfl, gtb_in (tb_1 (List.mem_of_getElem? (i := 1) (by decide +kernel))) rfl, ⟨by decide +kernel, by decide +kernel⟩, by decide +kernel, by decide +kernel⟩
theorem in_m10_hall : Cond.instanceMethod yX10_hall ∈ gtb := gtb_in (tb_4 (List.mem_of_getElem? (i := 172) (by decide +kernel))) rfl
theorem se_m10_hall : Cond.selects yX10_hall.cls yX10_hall yX10_hall ∈ gtb := gtb_in (tb_4 (List.mem_of_getElem? (i := 173) (by decide +kernel))) rfl
abbrev m10_isHall : MT := (yX10_isHall, cX10_isHall, 4, (some .boolean))
set_option maxRecDepth 100000 in
theorem cv_m10_isHall : CV m10_isHall 3 := ⟨gtb_in (tb_4 (List.mem_of_getElem? (i := 178) (by rfl))) rfl, gtb_in (tb_1 (List.mem_of_getElem? (i := 1) (by decide +kernel))) rfl, ⟨by decide +kernel, by decide +kernel⟩, by decide +kernel, by decide +kernel⟩
theorem in_m10_isHall : Cond.instanceMethod yX10_isHall ∈ gtb := gtb_in (tb_4 (List.mem_of_getElem? (i := 177) (by decide +kernel))) rfl
theorem se_m10_isHall : Cond.selects yX10_isHall.cls yX10_isHall yX10_isHall ∈ gtb := gtb_in (List.mem_append_left _ (List.mem_of_getElem? (i := 37) (by decide +kernel))) rfl
abbrev m9_hearHall : MT := (yX9_hearHall, cX9_hearHall, 8, none)
set_option maxRecDepth 100000 in
theorem cv_m9_hearHall : CV m9_hearHall 6 := ⟨gtb_in (tb_4 (List.mem_of_getElem? (i := 182) (by rfl))) rfl, gtb_in (tb_1 (List.mem_of_getElem? (i := 11) (by decide +kernel))) rfl, ⟨by decide +kernel, by decide +kernel⟩, by decide +kernel, by decide +kernel⟩
theorem in_m9_hearHall : Cond.instanceMethod yX9_hearHall ∈ gtb := gtb_in (tb_4 (List.mem_of_getElem? (i := 180) (by decide +kernel))) rfl
theorem se_m9_hearHall : Cond.selects yX9_hearHall.cls yX9_hearHall yX9_hearHall ∈ gtb := gtb_in (tb_4 (List.mem_of_getElem? (i := 181) (by decide +kernel))) rfl
abbrev m9_leastOffence : MT := (yX9_leastOffence, cX9_leastOffence, 9, (some .int))
set_option maxRecDepth 100000 in
theorem cv_m9_leastOffence : CV m9_leastOffence 2 := ⟨gtb_in (tb_4 (List.mem_of_getElem? (i := 189) (by rfl))) rfl, gtb_in (tb_1 (List.mem_of_getElem? (i := 11) (by decide +kernel))) rfl, ⟨by decide +kernel, by decide +kernel⟩, by decide +kernel, by decide +kernel⟩
theorem in_m9_leastOffence : Cond.instanceMethod yX9_leastOffence ∈ gtb := gtb_in (tb_4 (List.mem_of_getElem? (i := 187) (by decide +kernel))) rfl
theorem se_m9_leastOffence : Cond.selects yX9_leastOffence.cls yX9_leastOffence yX9_leastOffence ∈ gtb := gtb_in (tb_4 (List.mem_of_getElem? (i := 188) (by decide +kernel))) rfl
abbrev m8_countAll : MT := (yX8_countAll, cX8_countAll, 3, (some .int))
set_option maxRecDepth 100000 in
theorem cv_m8_countAll : CV m8_countAll 1 := ⟨gtb_in (tb_4 (List.mem_of_getElem? (i := 192) (by rfl))) rfl, gtb_in (tb_1 (List.mem_of_getElem? (i := 24) (by decide +kernel))) rfl, ⟨by decide +kernel, by decide +kernel⟩, by decide +kernel, by decide +kernel⟩
theorem st_m8_countAll : Cond.static yX8_countAll ∈ gtb := gtb_in (tb_4 (List.mem_of_getElem? (i := 191) (by decide +kernel))) rfl
abbrev m8_numbered : MT := (yX8_numbered, cX8_numbered, 8, (some .int))
set_option maxRecDepth 100000 in
theorem cv_m8_numbered : CV m8_numbered 2 := ⟨gtb_in (tb_4 (List.mem_of_getElem? (i := 195) (by rfl))) rfl, gtb_in (tb_1 (List.mem_of_getElem? (i := 24) (by decide +kernel))) rfl, ⟨by decide +kernel, by decide +kernel⟩, by decide +kernel, by decide +kernel⟩
theorem st_m8_numbered : Cond.static yX8_numbered ∈ gtb := gtb_in (tb_4 (List.mem_of_getElem? (i := 194) (by decide +kernel))) rfl
abbrev m8_freePart : MT := (yX8_freePart, cX8_freePart, 4, (some .int))
set_option maxRecDepth 100000 in
theorem cv_m8_freePart : CV m8_freePart 2 := ⟨gtb_in (tb_4 (List.mem_of_getElem? (i := 199) (by rfl))) rfl, gtb_in (tb_1 (List.mem_of_getElem? (i := 24) (by decide +kernel))) rfl, ⟨by decide +kernel, by decide +kernel⟩, by decide +kernel, by decide +kernel⟩
theorem st_m8_freePart : Cond.static yX8_freePart ∈ gtb := gtb_in (tb_4 (List.mem_of_getElem? (i := 198) (by decide +kernel))) rfl
abbrev m9_hallOffence : MT := (yX9_hallOffence, cX9_hallOffence, 6, (some .int))
set_option maxRecDepth 100000 in
theorem cv_m9_hallOffence : CV m9_hallOffence 3 := ⟨gtb_in (tb_4 (List.mem_of_getElem? (i := 203) (by rfl))) rfl, gtb_in (tb_1 (List.mem_of_getElem? (i := 11) (by decide +kernel))) rfl, ⟨by decide +kernel, by decide +kernel⟩, by decide +kernel, by decide +kernel⟩
theorem in_m9_hallOffence : Cond.instanceMethod yX9_hallOffence ∈ gtb := gtb_in (tb_4 (List.mem_of_getElem? (i := 201) (by decide +kernel))) rfl
theorem se_m9_hallOffence : Cond.selects yX9_hallOffence.cls yX9_hallOffence yX9_hallOffence ∈ gtb := gtb_in (tb_4 (List.mem_of_getElem? (i := 202) (by decide +kernel))) rfl
abbrev m9_clash : MT := (yX9_clash, cX9_clash, 5, (some .int))
set_option maxRecDepth 100000 in
theorem cv_m9_clash : CV m9_clash 1 := ⟨gtb_in (tb_4 (List.mem_of_getElem? (i := 209) (by rfl))) rfl, gtb_in (tb_1 (List.mem_of_getElem? (i := 11) (by decide +kernel))) rfl, ⟨by decide +kernel, by decide +kernel⟩, by decide +kernel, by decide +kernel⟩
theorem in_m9_clash : Cond.instanceMethod yX9_clash ∈ gtb := gtb_in (tb_4 (List.mem_of_getElem? (i := 207) (by decide +kernel))) rfl
theorem se_m9_clash : Cond.selects yX9_clash.cls yX9_clash yX9_clash ∈ gtb := gtb_in (tb_4 (List.mem_of_getElem? (i := 208) (by decide +kernel))) rfl
abbrev m10_claims : MT := (yX10_claims, cX10_claims, 5, (some .int))
set_option maxRecDepth 100000 in
theorem cv_m10_claims : CV m10_claims 4 := ⟨gtb_in (tb_4 (List.mem_of_getElem? (i := 213) (by rfl))) rfl, gtb_in (tb_1 (List.mem_of_getElem? (i := 1) (by decide +kernel))) rfl, ⟨by decide +kernel, by decide +kernel⟩, by decide +kernel, by decide +kernel⟩
theorem in_m10_claims : Cond.instanceMethod yX10_claims ∈ gtb := gtb_in (tb_4 (List.mem_of_getElem? (i := 211) (by decide +kernel))) rfl
theorem se_m10_claims : Cond.selects yX10_claims.cls yX10_claims yX10_claims ∈ gtb := gtb_in (tb_4 (List.mem_of_getElem? (i := 212) (by decide +kernel))) rfl
abbrev m9_claimed : MT := (yX9_claimed, cX9_claimed, 5, (some .int))
set_option maxRecDepth 100000 in
theorem cv_m9_claimed : CV m9_claimed 2 := ⟨gtb_in (tb_4 (List.mem_of_getElem? (i := 217) (by rfl))) rfl, gtb_in (tb_1 (List.mem_of_getElem? (i := 11) (by decide +kernel))) rfl, ⟨by decide +kernel, by decide +kernel⟩, by decide +kernel, by decide +kernel⟩
theorem in_m9_claimed : Cond.instanceMethod yX9_claimed ∈ gtb := gtb_in (tb_4 (List.mem_of_getElem? (i := 215) (by decide +kernel))) rfl
theorem se_m9_claimed : Cond.selects yX9_claimed.cls yX9_claimed yX9_claimed ∈ gtb := gtb_in (tb_4 (List.mem_of_getElem? (i := 216) (by decide +kernel))) rfl
abbrev m9_standByWay : MT := (yX9_standByWay, cX9_standByWay, 5, (some .boolean))
set_option maxRecDepth 100000 in
theorem cv_m9_standByWay : CV m9_standByWay 1 := ⟨gtb_in (tb_4 (List.mem_of_getElem? (i := 221) (by rfl))) rfl, gtb_in (tb_1 (List.mem_of_getElem? (i := 11) (by decide +kernel))) rfl, ⟨by decide +kernel, by decide +kernel⟩, by decide +kernel, by decide +kernel⟩
theorem in_m9_standByWay : Cond.instanceMethod yX9_standByWay ∈ gtb := gtb_in (tb_4 (List.mem_of_getElem? (i := 219) (by decide +kernel))) rfl
theorem se_m9_standByWay : Cond.selects yX9_standByWay.cls yX9_standByWay yX9_standByWay ∈ gtb := gtb_in (tb_4 (List.mem_of_getElem? (i := 220) (by decide +kernel))) rfl
abbrev m10_goesOn : MT := (yX10_goesOn, cX10_goesOn, 3, (some .boolean))
set_option maxRecDepth 100000 in
theorem cv_m10_goesOn : CV m10_goesOn 3 := ⟨gtb_in (tb_4 (List.mem_of_getElem? (i := 224) (by rfl))) rfl, gtb_in (tb_1 (List.mem_of_getElem? (i := 1) (by decide +kernel))) rfl, ⟨by decide +kernel, by decide +kernel⟩, by decide +kernel, by decide +kernel⟩
theorem st_m10_goesOn : Cond.static yX10_goesOn ∈ gtb := gtb_in (tb_4 (List.mem_of_getElem? (i := 223) (by decide +kernel))) rfl
abbrev m10_isChain : MT := (yX10_isChain, cX10_isChain, 3, (some .boolean))
set_option maxRecDepth 100000 in
theorem cv_m10_isChain : CV m10_isChain 3 := ⟨gtb_in (tb_4 (List.mem_of_getElem? (i := 227) (by rfl))) rfl, gtb_in (tb_1 (List.mem_of_getElem? (i := 1) (by decide +kernel))) rfl, ⟨by decide +kernel, by decide +kernel⟩, by decide +kernel, by decide +kernel⟩
theorem st_m10_isChain : Cond.static yX10_isChain ∈ gtb := gtb_in (tb_4 (List.mem_of_getElem? (i := 226) (by decide +kernel))) rfl
abbrev m10_hear : MT := (yX10_hear, cX10_hear, 6, (some .int))
set_option maxRecDepth 100000 in
theorem cv_m10_hear : CV m10_hear 5 := ⟨gtb_in (tb_4 (List.mem_of_getElem? (i := 231) (by rfl))) rfl, gtb_in (tb_1 (List.mem_of_getElem? (i := 1) (by decide +kernel))) rfl, ⟨by decide +kernel, by decide +kernel⟩, by decide +kernel, by decide +kernel⟩
theorem in_m10_hear : Cond.instanceMethod yX10_hear ∈ gtb := gtb_in (tb_4 (List.mem_of_getElem? (i := 229) (by decide +kernel))) rfl
theorem se_m10_hear : Cond.selects yX10_hear.cls yX10_hear yX10_hear ∈ gtb := gtb_in (tb_4 (List.mem_of_getElem? (i := 230) (by decide +kernel))) rfl
abbrev m4_addSaying : MT := (yX4_addSaying, cX4_addSaying, 5, (some .int))
set_option maxRecDepth 100000 in
theorem cv_m4_addSaying : CV m4_addSaying 4 := ⟨gtb_in (tb_4 (List.mem_of_getElem? (i := 235) (by rfl))) rfl, gtb_in (tb_1 (List.mem_of_getElem? (i := 12) (by decide +kernel))) rfl, ⟨by decide +kernel, by decide +kernel⟩, by decide +kernel, by decide +kernel⟩
theorem in_m4_addSaying : Cond.instanceMethod yX4_addSaying ∈ gtb := gtb_in (tb_4 (List.mem_of_getElem? (i := 233) (by decide +kernel))) rfl
theorem se_m4_addSaying : Cond.selects yX4_addSaying.cls yX4_addSaying yX4_addSaying ∈ gtb := gtb_in (tb_4 (List.mem_of_getElem? (i := 234) (by decide +kernel))) rfl
abbrev m4_addStrike : MT := (yX4_addStrike, cX4_addStrike, 2, (some .int))
set_option maxRecDepth 100000 in
theorem cv_m4_addStrike : CV m4_addStrike 1 := ⟨gtb_in (tb_5 (List.mem_of_getElem? (i := 0) (by rfl))) rfl, gtb_in (tb_1 (List.mem_of_getElem? (i := 12) (by decide +kernel))) rfl, ⟨by decide +kernel, by decide +kernel⟩, by decide +kernel, by decide +kernel⟩
theorem in_m4_addStrike : Cond.instanceMethod yX4_addStrike ∈ gtb := gtb_in (tb_4 (List.mem_of_getElem? (i := 238) (by decide +kernel))) rfl
theorem se_m4_addStrike : Cond.selects yX4_addStrike.cls yX4_addStrike yX4_addStrike ∈ gtb := gtb_in (tb_4 (List.mem_of_getElem? (i := 239) (by decide +kernel))) rfl
abbrev m10_unhear : MT := (yX10_unhear, cX10_unhear, 2, (some .int))
set_option maxRecDepth 100000 in
theorem cv_m10_unhear : CV m10_unhear 1 := ⟨gtb_in (tb_5 (List.mem_of_getElem? (i := 4) (by rfl))) rfl, gtb_in (tb_1 (List.mem_of_getElem? (i := 1) (by decide +kernel))) rfl, ⟨by decide +kernel, by decide +kernel⟩, by decide +kernel, by decide +kernel⟩
theorem in_m10_unhear : Cond.instanceMethod yX10_unhear ∈ gtb := gtb_in (tb_5 (List.mem_of_getElem? (i := 2) (by decide +kernel))) rfl
theorem se_m10_unhear : Cond.selects yX10_unhear.cls yX10_unhear yX10_unhear ∈ gtb := gtb_in (tb_5 (List.mem_of_getElem? (i := 3) (by decide +kernel))) rfl
abbrev m10_known : MT := (yX10_known, cX10_known, 2, (some .boolean))
set_option maxRecDepth 100000 in
theorem cv_m10_known : CV m10_known 1 := ⟨gtb_in (tb_5 (List.mem_of_getElem? (i := 9) (by rfl))) rfl, gtb_in (tb_1 (List.mem_of_getElem? (i := 1) (by decide +kernel))) rfl, ⟨by decide +kernel, by decide +kernel⟩, by decide +kernel, by decide +kernel⟩
theorem in_m10_known : Cond.instanceMethod yX10_known ∈ gtb := gtb_in (tb_5 (List.mem_of_getElem? (i := 7) (by decide +kernel))) rfl
theorem se_m10_known : Cond.selects yX10_known.cls yX10_known yX10_known ∈ gtb := gtb_in (tb_5 (List.mem_of_getElem? (i := 8) (by decide +kernel))) rfl
abbrev m10_possible : MT := (yX10_possible, cX10_possible, 3, (some .int))
set_option maxRecDepth 100000 in
theorem cv_m10_possible : CV m10_possible 0 := ⟨gtb_in (tb_5 (List.mem_of_getElem? (i := 13) (by rfl))) rfl, gtb_in (tb_1 (List.mem_of_getElem? (i := 1) (by decide +kernel))) rfl, ⟨by decide +kernel, by decide +kernel⟩, by decide +kernel, by decide +kernel⟩
theorem in_m10_possible : Cond.instanceMethod yX10_possible ∈ gtb := gtb_in (tb_5 (List.mem_of_getElem? (i := 11) (by decide +kernel))) rfl
theorem se_m10_possible : Cond.selects yX10_possible.cls yX10_possible yX10_possible ∈ gtb := gtb_in (tb_5 (List.mem_of_getElem? (i := 12) (by decide +kernel))) rfl
abbrev m6_settle : MT := (yX6_settle, cX6_settle, 5, none)
set_option maxRecDepth 100000 in
theorem cv_m6_settle : CV m6_settle 2 := ⟨gtb_in (tb_5 (List.mem_of_getElem? (i := 17) (by rfl))) rfl, gtb_in (tb_1 (List.mem_of_getElem? (i := 13) (by decide +kernel))) rfl, ⟨by decide +kernel, by decide +kernel⟩, by decide +kernel, by decide +kernel⟩
theorem in_m6_settle : Cond.instanceMethod yX6_settle ∈ gtb := gtb_in (tb_5 (List.mem_of_getElem? (i := 15) (by decide +kernel))) rfl
theorem se_m6_settle : Cond.selects yX6_settle.cls yX6_settle yX6_settle ∈ gtb := gtb_in (tb_5 (List.mem_of_getElem? (i := 16) (by decide +kernel))) rfl
abbrev m4_knownSayings : MT := (yX4_knownSayings, cX4_knownSayings, 5, (some .int))
set_option maxRecDepth 100000 in
theorem cv_m4_knownSayings : CV m4_knownSayings 0 := ⟨gtb_in (tb_5 (List.mem_of_getElem? (i := 21) (by rfl))) rfl, gtb_in (tb_1 (List.mem_of_getElem? (i := 12) (by decide +kernel))) rfl, ⟨by decide +kernel, by decide +kernel⟩, by decide +kernel, by decide +kernel⟩
theorem in_m4_knownSayings : Cond.instanceMethod yX4_knownSayings ∈ gtb := gtb_in (tb_5 (List.mem_of_getElem? (i := 19) (by decide +kernel))) rfl
theorem se_m4_knownSayings : Cond.selects yX4_knownSayings.cls yX4_knownSayings yX4_knownSayings ∈ gtb := gtb_in (tb_5 (List.mem_of_getElem? (i := 20) (by decide +kernel))) rfl
abbrev m4_knownCount : MT := (yX4_knownCount, cX4_knownCount, 1, (some .int))
set_option maxRecDepth 100000 in
theorem cv_m4_knownCount : CV m4_knownCount 0 := ⟨gtb_in (tb_5 (List.mem_of_getElem? (i := 25) (by rfl))) rfl, gtb_in (tb_1 (List.mem_of_getElem? (i := 12) (by decide +kernel))) rfl, ⟨by decide +kernel, by decide +kernel⟩, by decide +kernel, by decide +kernel⟩
theorem in_m4_knownCount : Cond.instanceMethod yX4_knownCount ∈ gtb := gtb_in (tb_5 (List.mem_of_getElem? (i := 23) (by decide +kernel))) rfl
theorem se_m4_knownCount : Cond.selects yX4_knownCount.cls yX4_knownCount yX4_knownCount ∈ gtb := gtb_in (tb_5 (List.mem_of_getElem? (i := 24) (by decide +kernel))) rfl
abbrev m6_make : MT := (yX6_make, cX6_make, 7, none)
set_option maxRecDepth 100000 in
theorem cv_m6_make : CV m6_make 1 := ⟨gtb_in (tb_5 (List.mem_of_getElem? (i := 30) (by rfl))) rfl, gtb_in (tb_1 (List.mem_of_getElem? (i := 13) (by decide +kernel))) rfl, ⟨by decide +kernel, by decide +kernel⟩, by decide +kernel, by decide +kernel⟩
theorem in_m6_make : Cond.instanceMethod yX6_make ∈ gtb := gtb_in (tb_5 (List.mem_of_getElem? (i := 29) (by decide +kernel))) rfl
theorem se_m6_make : Cond.selects yX6_make.cls yX6_make yX6_make ∈ gtb := gtb_in (List.mem_append_left _ (List.mem_of_getElem? (i := 38) (by decide +kernel))) rfl
abbrev m6_shiftOf : MT := (yX6_shiftOf, cX6_shiftOf, 1, (some .int))
set_option maxRecDepth 100000 in
theorem cv_m6_shiftOf : CV m6_shiftOf 1 := ⟨gtb_in (tb_5 (List.mem_of_getElem? (i := 34) (by rfl))) rfl, gtb_in (tb_1 (List.mem_of_getElem? (i := 13) (by decide +kernel))) rfl, ⟨by decide +kernel, by decide +kernel⟩, by decide +kernel, by decide +kernel⟩
theorem st_m6_shiftOf : Cond.static yX6_shiftOf ∈ gtb := gtb_in (tb_5 (List.mem_of_getElem? (i := 33) (by decide +kernel))) rfl
abbrev m6_goesOnSoFar : MT := (yX6_goesOnSoFar, cX6_goesOnSoFar, 6, (some .boolean))
set_option maxRecDepth 100000 in
theorem cv_m6_goesOnSoFar : CV m6_goesOnSoFar 2 := ⟨gtb_in (tb_5 (List.mem_of_getElem? (i := 40) (by rfl))) rfl, gtb_in (tb_1 (List.mem_of_getElem? (i := 13) (by decide +kernel))) rfl, ⟨by decide +kernel, by decide +kernel⟩, by decide +kernel, by decide +kernel⟩
theorem st_m6_goesOnSoFar : Cond.static yX6_goesOnSoFar ∈ gtb := gtb_in (tb_5 (List.mem_of_getElem? (i := 39) (by decide +kernel))) rfl
abbrev m6_between : MT := (yX6_between, cX6_between, 5, (some .int))
set_option maxRecDepth 100000 in
theorem cv_m6_between : CV m6_between 3 := ⟨gtb_in (tb_5 (List.mem_of_getElem? (i := 45) (by rfl))) rfl, gtb_in (tb_1 (List.mem_of_getElem? (i := 13) (by decide +kernel))) rfl, ⟨by decide +kernel, by decide +kernel⟩, by decide +kernel, by decide +kernel⟩
theorem st_m6_between : Cond.static yX6_between ∈ gtb := gtb_in (tb_5 (List.mem_of_getElem? (i := 44) (by decide +kernel))) rfl
abbrev m4_firstWrong : MT := (yX4_firstWrong, cX4_firstWrong, 4, (some .int))
set_option maxRecDepth 100000 in
theorem cv_m4_firstWrong : CV m4_firstWrong 2 := ⟨gtb_in (tb_5 (List.mem_of_getElem? (i := 53) (by rfl))) rfl, gtb_in (tb_1 (List.mem_of_getElem? (i := 12) (by decide +kernel))) rfl, ⟨by decide +kernel, by decide +kernel⟩, by decide +kernel, by decide +kernel⟩
theorem in_m4_firstWrong : Cond.instanceMethod yX4_firstWrong ∈ gtb := gtb_in (tb_5 (List.mem_of_getElem? (i := 51) (by decide +kernel))) rfl
theorem se_m4_firstWrong : Cond.selects yX4_firstWrong.cls yX4_firstWrong yX4_firstWrong ∈ gtb := gtb_in (tb_5 (List.mem_of_getElem? (i := 52) (by decide +kernel))) rfl
abbrev m4_wayOf : MT := (yX4_wayOf, cX4_wayOf, 7, (some .int))
set_option maxRecDepth 100000 in
theorem cv_m4_wayOf : CV m4_wayOf 2 := ⟨gtb_in (tb_5 (List.mem_of_getElem? (i := 57) (by rfl))) rfl, gtb_in (tb_1 (List.mem_of_getElem? (i := 12) (by decide +kernel))) rfl, ⟨by decide +kernel, by decide +kernel⟩, by decide +kernel, by decide +kernel⟩
theorem in_m4_wayOf : Cond.instanceMethod yX4_wayOf ∈ gtb := gtb_in (tb_5 (List.mem_of_getElem? (i := 56) (by decide +kernel))) rfl
theorem se_m4_wayOf : Cond.selects yX4_wayOf.cls yX4_wayOf yX4_wayOf ∈ gtb := gtb_in (List.mem_append_left _ (List.mem_of_getElem? (i := 39) (by decide +kernel))) rfl
abbrev m6_firstWrong : MT := (yX6_firstWrong, cX6_firstWrong, 2, (some .int))
set_option maxRecDepth 100000 in
theorem cv_m6_firstWrong : CV m6_firstWrong 1 := ⟨gtb_in (tb_5 (List.mem_of_getElem? (i := 62) (by rfl))) rfl, gtb_in (tb_1 (List.mem_of_getElem? (i := 13) (by decide +kernel))) rfl, ⟨by decide +kernel, by decide +kernel⟩, by decide +kernel, by decide +kernel⟩
theorem in_m6_firstWrong : Cond.instanceMethod yX6_firstWrong ∈ gtb := gtb_in (tb_5 (List.mem_of_getElem? (i := 60) (by decide +kernel))) rfl
theorem se_m6_firstWrong : Cond.selects yX6_firstWrong.cls yX6_firstWrong yX6_firstWrong ∈ gtb := gtb_in (tb_5 (List.mem_of_getElem? (i := 61) (by decide +kernel))) rfl
abbrev m10_sure : MT := (yX10_sure, cX10_sure, 5, (some .int))
set_option maxRecDepth 100000 in
theorem cv_m10_sure : CV m10_sure 2 := ⟨gtb_in (tb_5 (List.mem_of_getElem? (i := 66) (by rfl))) rfl, gtb_in (tb_1 (List.mem_of_getElem? (i := 1) (by decide +kernel))) rfl, ⟨by decide +kernel, by decide +kernel⟩, by decide +kernel, by decide +kernel⟩
theorem in_m10_sure : Cond.instanceMethod yX10_sure ∈ gtb := gtb_in (tb_5 (List.mem_of_getElem? (i := 64) (by decide +kernel))) rfl
theorem se_m10_sure : Cond.selects yX10_sure.cls yX10_sure yX10_sure ∈ gtb := gtb_in (tb_5 (List.mem_of_getElem? (i := 65) (by decide +kernel))) rfl
abbrev m6_answer : MT := (yX6_answer, cX6_answer, 5, (some .int))
set_option maxRecDepth 100000 in
theorem cv_m6_answer : CV m6_answer 3 := ⟨gtb_in (tb_5 (List.mem_of_getElem? (i := 70) (by rfl))) rfl, gtb_in (tb_1 (List.mem_of_getElem? (i := 13) (by decide +kernel))) rfl, ⟨by decide +kernel, by decide +kernel⟩, by decide +kernel, by decide +kernel⟩
theorem in_m6_answer : Cond.instanceMethod yX6_answer ∈ gtb := gtb_in (tb_5 (List.mem_of_getElem? (i := 68) (by decide +kernel))) rfl
theorem se_m6_answer : Cond.selects yX6_answer.cls yX6_answer yX6_answer ∈ gtb := gtb_in (tb_5 (List.mem_of_getElem? (i := 69) (by decide +kernel))) rfl
abbrev m10_cannot : MT := (yX10_cannot, cX10_cannot, 4, (some .int))
set_option maxRecDepth 100000 in
theorem cv_m10_cannot : CV m10_cannot 0 := ⟨gtb_in (tb_5 (List.mem_of_getElem? (i := 75) (by rfl))) rfl, gtb_in (tb_1 (List.mem_of_getElem? (i := 1) (by decide +kernel))) rfl, ⟨by decide +kernel, by decide +kernel⟩, by decide +kernel, by decide +kernel⟩
theorem in_m10_cannot : Cond.instanceMethod yX10_cannot ∈ gtb := gtb_in (tb_5 (List.mem_of_getElem? (i := 73) (by decide +kernel))) rfl
theorem se_m10_cannot : Cond.selects yX10_cannot.cls yX10_cannot yX10_cannot ∈ gtb := gtb_in (tb_5 (List.mem_of_getElem? (i := 74) (by decide +kernel))) rfl
abbrev m10_order : MT := (yX10_order, cX10_order, 6, (some .int))
set_option maxRecDepth 100000 in
theorem cv_m10_order : CV m10_order 3 := ⟨gtb_in (tb_5 (List.mem_of_getElem? (i := 80) (by rfl))) rfl, gtb_in (tb_1 (List.mem_of_getElem? (i := 1) (by decide +kernel))) rfl, ⟨by decide +kernel, by decide +kernel⟩, by decide +kernel, by decide +kernel⟩
theorem in_m10_order : Cond.instanceMethod yX10_order ∈ gtb := gtb_in (tb_5 (List.mem_of_getElem? (i := 78) (by decide +kernel))) rfl
theorem se_m10_order : Cond.selects yX10_order.cls yX10_order yX10_order ∈ gtb := gtb_in (tb_5 (List.mem_of_getElem? (i := 79) (by decide +kernel))) rfl
abbrev m10_letter : MT := (yX10_letter, cX10_letter, 9, (some .int))
set_option maxRecDepth 100000 in
theorem cv_m10_letter : CV m10_letter 3 := ⟨gtb_in (tb_5 (List.mem_of_getElem? (i := 84) (by rfl))) rfl, gtb_in (tb_1 (List.mem_of_getElem? (i := 1) (by decide +kernel))) rfl, ⟨by decide +kernel, by decide +kernel⟩, by decide +kernel, by decide +kernel⟩
theorem in_m10_letter : Cond.instanceMethod yX10_letter ∈ gtb := gtb_in (tb_5 (List.mem_of_getElem? (i := 82) (by decide +kernel))) rfl
theorem se_m10_letter : Cond.selects yX10_letter.cls yX10_letter yX10_letter ∈ gtb := gtb_in (tb_5 (List.mem_of_getElem? (i := 83) (by decide +kernel))) rfl
abbrev m10_fits : MT := (yX10_fits, cX10_fits, 6, (some .boolean))
set_option maxRecDepth 100000 in
theorem cv_m10_fits : CV m10_fits 5 := ⟨gtb_in (tb_5 (List.mem_of_getElem? (i := 88) (by rfl))) rfl, gtb_in (tb_1 (List.mem_of_getElem? (i := 1) (by decide +kernel))) rfl, ⟨by decide +kernel, by decide +kernel⟩, by decide +kernel, by decide +kernel⟩
theorem in_m10_fits : Cond.instanceMethod yX10_fits ∈ gtb := gtb_in (tb_5 (List.mem_of_getElem? (i := 87) (by decide +kernel))) rfl
theorem se_m10_fits : Cond.selects yX10_fits.cls yX10_fits yX10_fits ∈ gtb := gtb_in (List.mem_append_left _ (List.mem_of_getElem? (i := 40) (by decide +kernel))) rfl
abbrev m10_silence : MT := (yX10_silence, cX10_silence, 6, (some .int))
set_option maxRecDepth 100000 in
theorem cv_m10_silence : CV m10_silence 4 := ⟨gtb_in (tb_5 (List.mem_of_getElem? (i := 92) (by rfl))) rfl, gtb_in (tb_1 (List.mem_of_getElem? (i := 1) (by decide +kernel))) rfl, ⟨by decide +kernel, by decide +kernel⟩, by decide +kernel, by decide +kernel⟩
theorem in_m10_silence : Cond.instanceMethod yX10_silence ∈ gtb := gtb_in (tb_5 (List.mem_of_getElem? (i := 90) (by decide +kernel))) rfl
theorem se_m10_silence : Cond.selects yX10_silence.cls yX10_silence yX10_silence ∈ gtb := gtb_in (tb_5 (List.mem_of_getElem? (i := 91) (by decide +kernel))) rfl
abbrev m9_fewestLeft : MT := (yX9_fewestLeft, cX9_fewestLeft, 10, (some .int))
set_option maxRecDepth 100000 in
theorem cv_m9_fewestLeft : CV m9_fewestLeft 1 := ⟨gtb_in (tb_5 (List.mem_of_getElem? (i := 96) (by rfl))) rfl, gtb_in (tb_1 (List.mem_of_getElem? (i := 11) (by decide +kernel))) rfl, ⟨by decide +kernel, by decide +kernel⟩, by decide +kernel, by decide +kernel⟩
theorem in_m9_fewestLeft : Cond.instanceMethod yX9_fewestLeft ∈ gtb := gtb_in (tb_5 (List.mem_of_getElem? (i := 94) (by decide +kernel))) rfl
theorem se_m9_fewestLeft : Cond.selects yX9_fewestLeft.cls yX9_fewestLeft yX9_fewestLeft ∈ gtb := gtb_in (tb_5 (List.mem_of_getElem? (i := 95) (by decide +kernel))) rfl
abbrev m9_alike : MT := (yX9_alike, cX9_alike, 5, (some .int))
set_option maxRecDepth 100000 in
theorem cv_m9_alike : CV m9_alike 3 := ⟨gtb_in (tb_5 (List.mem_of_getElem? (i := 99) (by rfl))) rfl, gtb_in (tb_1 (List.mem_of_getElem? (i := 11) (by decide +kernel))) rfl, ⟨by decide +kernel, by decide +kernel⟩, by decide +kernel, by decide +kernel⟩
theorem st_m9_alike : Cond.static yX9_alike ∈ gtb := gtb_in (tb_5 (List.mem_of_getElem? (i := 98) (by decide +kernel))) rfl
abbrev m10_rise : MT := (yX10_rise, cX10_rise, 5, (some .int))
set_option maxRecDepth 100000 in
theorem cv_m10_rise : CV m10_rise 3 := ⟨gtb_in (tb_5 (List.mem_of_getElem? (i := 105) (by rfl))) rfl, gtb_in (tb_1 (List.mem_of_getElem? (i := 1) (by decide +kernel))) rfl, ⟨by decide +kernel, by decide +kernel⟩, by decide +kernel, by decide +kernel⟩
theorem in_m10_rise : Cond.instanceMethod yX10_rise ∈ gtb := gtb_in (tb_5 (List.mem_of_getElem? (i := 103) (by decide +kernel))) rfl
theorem se_m10_rise : Cond.selects yX10_rise.cls yX10_rise yX10_rise ∈ gtb := gtb_in (tb_5 (List.mem_of_getElem? (i := 104) (by decide +kernel))) rfl
abbrev m1_learn : MT := (yX1_learn, cX1_learn, 4, none)
set_option maxRecDepth 100000 in
theorem cv_m1_learn : CV m1_learn 2 := ⟨gtb_in (tb_5 (List.mem_of_getElem? (i := 109) (by rfl))) rfl, gtb_in (tb_1 (List.mem_of_getElem? (i := 14) (by decide +kernel))) rfl, ⟨by decide +kernel, by decide +kernel⟩, by decide +kernel, by decide +kernel⟩
theorem in_m1_learn : Cond.instanceMethod yX1_learn ∈ gtb := gtb_in (tb_5 (List.mem_of_getElem? (i := 107) (by decide +kernel))) rfl
theorem se_m1_learn : Cond.selects yX1_learn.cls yX1_learn yX1_learn ∈ gtb := gtb_in (tb_5 (List.mem_of_getElem? (i := 108) (by decide +kernel))) rfl
abbrev m5_belowOf : MT := (yX5_belowOf, cX5_belowOf, 2, (some .int))
set_option maxRecDepth 100000 in
theorem cv_m5_belowOf : CV m5_belowOf 1 := ⟨gtb_in (tb_5 (List.mem_of_getElem? (i := 113) (by rfl))) rfl, gtb_in (tb_1 (List.mem_of_getElem? (i := 6) (by decide +kernel))) rfl, ⟨by decide +kernel, by decide +kernel⟩, by decide +kernel, by decide +kernel⟩
theorem in_m5_belowOf : Cond.instanceMethod yX5_belowOf ∈ gtb := gtb_in (tb_5 (List.mem_of_getElem? (i := 111) (by decide +kernel))) rfl
theorem se_m5_belowOf : Cond.selects yX5_belowOf.cls yX5_belowOf yX5_belowOf ∈ gtb := gtb_in (tb_5 (List.mem_of_getElem? (i := 112) (by decide +kernel))) rfl
abbrev m1_search : MT := (yX1_search, cX1_search, 6, (some .int))
set_option maxRecDepth 100000 in
theorem cv_m1_search : CV m1_search 4 := ⟨gtb_in (tb_5 (List.mem_of_getElem? (i := 118) (by rfl))) rfl, gtb_in (tb_1 (List.mem_of_getElem? (i := 14) (by decide +kernel))) rfl, ⟨by decide +kernel, by decide +kernel⟩, by decide +kernel, by decide +kernel⟩
theorem in_m1_search : Cond.instanceMethod yX1_search ∈ gtb := gtb_in (tb_5 (List.mem_of_getElem? (i := 116) (by decide +kernel))) rfl
theorem se_m1_search : Cond.selects yX1_search.cls yX1_search yX1_search ∈ gtb := gtb_in (tb_5 (List.mem_of_getElem? (i := 117) (by decide +kernel))) rfl
abbrev m1_firstState : MT := (yX1_firstState, cX1_firstState, 3, (some .int))
set_option maxRecDepth 100000 in
theorem cv_m1_firstState : CV m1_firstState 1 := ⟨gtb_in (tb_5 (List.mem_of_getElem? (i := 121) (by rfl))) rfl, gtb_in (tb_1 (List.mem_of_getElem? (i := 14) (by decide +kernel))) rfl, ⟨by decide +kernel, by decide +kernel⟩, by decide +kernel, by decide +kernel⟩
theorem st_m1_firstState : Cond.static yX1_firstState ∈ gtb := gtb_in (tb_5 (List.mem_of_getElem? (i := 120) (by decide +kernel))) rfl
abbrev m1_add : MT := (yX1_add, cX1_add, 5, none)
set_option maxRecDepth 100000 in
theorem cv_m1_add : CV m1_add 3 := ⟨gtb_in (tb_5 (List.mem_of_getElem? (i := 125) (by rfl))) rfl, gtb_in (tb_1 (List.mem_of_getElem? (i := 14) (by decide +kernel))) rfl, ⟨by decide +kernel, by decide +kernel⟩, by decide +kernel, by decide +kernel⟩
theorem in_m1_add : Cond.instanceMethod yX1_add ∈ gtb := gtb_in (tb_5 (List.mem_of_getElem? (i := 124) (by decide +kernel))) rfl
theorem se_m1_add : Cond.selects yX1_add.cls yX1_add yX1_add ∈ gtb := gtb_in (List.mem_append_left _ (List.mem_of_getElem? (i := 41) (by decide +kernel))) rfl
abbrev m1_numberOf : MT := (yX1_numberOf, cX1_numberOf, 5, (some .int))
set_option maxRecDepth 100000 in
theorem cv_m1_numberOf : CV m1_numberOf 1 := ⟨gtb_in (tb_5 (List.mem_of_getElem? (i := 128) (by rfl))) rfl, gtb_in (tb_1 (List.mem_of_getElem? (i := 14) (by decide +kernel))) rfl, ⟨by decide +kernel, by decide +kernel⟩, by decide +kernel, by decide +kernel⟩
theorem st_m1_numberOf : Cond.static yX1_numberOf ∈ gtb := gtb_in (tb_5 (List.mem_of_getElem? (i := 127) (by decide +kernel))) rfl
abbrev m1_seasonOf : MT := (yX1_seasonOf, cX1_seasonOf, 1, (some .int))
set_option maxRecDepth 100000 in
theorem cv_m1_seasonOf : CV m1_seasonOf 1 := ⟨gtb_in (tb_5 (List.mem_of_getElem? (i := 131) (by rfl))) rfl, gtb_in (tb_1 (List.mem_of_getElem? (i := 14) (by decide +kernel))) rfl, ⟨by decide +kernel, by decide +kernel⟩, by decide +kernel, by decide +kernel⟩
theorem st_m1_seasonOf : Cond.static yX1_seasonOf ∈ gtb := gtb_in (tb_5 (List.mem_of_getElem? (i := 130) (by decide +kernel))) rfl
abbrev m1_placeOf : MT := (yX1_placeOf, cX1_placeOf, 2, (some .int))
set_option maxRecDepth 100000 in
theorem cv_m1_placeOf : CV m1_placeOf 2 := ⟨gtb_in (tb_5 (List.mem_of_getElem? (i := 134) (by rfl))) rfl, gtb_in (tb_1 (List.mem_of_getElem? (i := 14) (by decide +kernel))) rfl, ⟨by decide +kernel, by decide +kernel⟩, by decide +kernel, by decide +kernel⟩
theorem st_m1_placeOf : Cond.static yX1_placeOf ∈ gtb := gtb_in (tb_5 (List.mem_of_getElem? (i := 133) (by decide +kernel))) rfl
abbrev m1_isAbove : MT := (yX1_isAbove, cX1_isAbove, 5, (some .boolean))
set_option maxRecDepth 100000 in
theorem cv_m1_isAbove : CV m1_isAbove 3 := ⟨gtb_in (tb_5 (List.mem_of_getElem? (i := 139) (by rfl))) rfl, gtb_in (tb_1 (List.mem_of_getElem? (i := 14) (by decide +kernel))) rfl, ⟨by decide +kernel, by decide +kernel⟩, by decide +kernel, by decide +kernel⟩
theorem in_m1_isAbove : Cond.instanceMethod yX1_isAbove ∈ gtb := gtb_in (tb_5 (List.mem_of_getElem? (i := 138) (by decide +kernel))) rfl
theorem se_m1_isAbove : Cond.selects yX1_isAbove.cls yX1_isAbove yX1_isAbove ∈ gtb := gtb_in (List.mem_append_left _ (List.mem_of_getElem? (i := 42) (by decide +kernel))) rfl
abbrev m1_spread : MT := (yX1_spread, cX1_spread, 5, none)
set_option maxRecDepth 100000 in
theorem cv_m1_spread : CV m1_spread 2 := ⟨gtb_in (tb_5 (List.mem_of_getElem? (i := 143) (by rfl))) rfl, gtb_in (tb_1 (List.mem_of_getElem? (i := 14) (by decide +kernel))) rfl, ⟨by decide +kernel, by decide +kernel⟩, by decide +kernel, by decide +kernel⟩
theorem in_m1_spread : Cond.instanceMethod yX1_spread ∈ gtb := gtb_in (tb_5 (List.mem_of_getElem? (i := 142) (by decide +kernel))) rfl
theorem se_m1_spread : Cond.selects yX1_spread.cls yX1_spread yX1_spread ∈ gtb := gtb_in (List.mem_append_left _ (List.mem_of_getElem? (i := 43) (by decide +kernel))) rfl
abbrev m1_mayChange : MT := (yX1_mayChange, cX1_mayChange, 9, (some .boolean))
set_option maxRecDepth 100000 in
theorem cv_m1_mayChange : CV m1_mayChange 3 := ⟨gtb_in (tb_5 (List.mem_of_getElem? (i := 147) (by rfl))) rfl, gtb_in (tb_1 (List.mem_of_getElem? (i := 14) (by decide +kernel))) rfl, ⟨by decide +kernel, by decide +kernel⟩, by decide +kernel, by decide +kernel⟩
theorem in_m1_mayChange : Cond.instanceMethod yX1_mayChange ∈ gtb := gtb_in (tb_5 (List.mem_of_getElem? (i := 146) (by decide +kernel))) rfl
theorem se_m1_mayChange : Cond.selects yX1_mayChange.cls yX1_mayChange yX1_mayChange ∈ gtb := gtb_in (List.mem_append_left _ (List.mem_of_getElem? (i := 44) (by decide +kernel))) rfl
abbrev m1_gapTo : MT := (yX1_gapTo, cX1_gapTo, 6, (some .int))
set_option maxRecDepth 100000 in
theorem cv_m1_gapTo : CV m1_gapTo 3 := ⟨gtb_in (tb_5 (List.mem_of_getElem? (i := 151) (by rfl))) rfl, gtb_in (tb_1 (List.mem_of_getElem? (i := 14) (by decide +kernel))) rfl, ⟨by decide +kernel, by decide +kernel⟩, by decide +kernel, by decide +kernel⟩
theorem in_m1_gapTo : Cond.instanceMethod yX1_gapTo ∈ gtb := gtb_in (tb_5 (List.mem_of_getElem? (i := 150) (by decide +kernel))) rfl
theorem se_m1_gapTo : Cond.selects yX1_gapTo.cls yX1_gapTo yX1_gapTo ∈ gtb := gtb_in (List.mem_append_left _ (List.mem_of_getElem? (i := 45) (by decide +kernel))) rfl
abbrev m1_changed : MT := (yX1_changed, cX1_changed, 7, (some .int))
set_option maxRecDepth 100000 in
theorem cv_m1_changed : CV m1_changed 2 := ⟨gtb_in (tb_5 (List.mem_of_getElem? (i := 157) (by rfl))) rfl, gtb_in (tb_1 (List.mem_of_getElem? (i := 14) (by decide +kernel))) rfl, ⟨by decide +kernel, by decide +kernel⟩, by decide +kernel, by decide +kernel⟩
theorem in_m1_changed : Cond.instanceMethod yX1_changed ∈ gtb := gtb_in (tb_5 (List.mem_of_getElem? (i := 156) (by decide +kernel))) rfl
theorem se_m1_changed : Cond.selects yX1_changed.cls yX1_changed yX1_changed ∈ gtb := gtb_in (List.mem_append_left _ (List.mem_of_getElem? (i := 46) (by decide +kernel))) rfl
abbrev m1_countSteps : MT := (yX1_countSteps, cX1_countSteps, 4, (some .int))
set_option maxRecDepth 100000 in
theorem cv_m1_countSteps : CV m1_countSteps 0 := ⟨gtb_in (tb_5 (List.mem_of_getElem? (i := 161) (by rfl))) rfl, gtb_in (tb_1 (List.mem_of_getElem? (i := 14) (by decide +kernel))) rfl, ⟨by decide +kernel, by decide +kernel⟩, by decide +kernel, by decide +kernel⟩
theorem in_m1_countSteps : Cond.instanceMethod yX1_countSteps ∈ gtb := gtb_in (tb_5 (List.mem_of_getElem? (i := 160) (by decide +kernel))) rfl
theorem se_m1_countSteps : Cond.selects yX1_countSteps.cls yX1_countSteps yX1_countSteps ∈ gtb := gtb_in (List.mem_append_left _ (List.mem_of_getElem? (i := 47) (by decide +kernel))) rfl
abbrev m1_hearerOfStep : MT := (yX1_hearerOfStep, cX1_hearerOfStep, 5, (some .int))
set_option maxRecDepth 100000 in
theorem cv_m1_hearerOfStep : CV m1_hearerOfStep 2 := ⟨gtb_in (tb_5 (List.mem_of_getElem? (i := 165) (by rfl))) rfl, gtb_in (tb_1 (List.mem_of_getElem? (i := 14) (by decide +kernel))) rfl, ⟨by decide +kernel, by decide +kernel⟩, by decide +kernel, by decide +kernel⟩
theorem in_m1_hearerOfStep : Cond.instanceMethod yX1_hearerOfStep ∈ gtb := gtb_in (tb_5 (List.mem_of_getElem? (i := 163) (by decide +kernel))) rfl
theorem se_m1_hearerOfStep : Cond.selects yX1_hearerOfStep.cls yX1_hearerOfStep yX1_hearerOfStep ∈ gtb := gtb_in (tb_5 (List.mem_of_getElem? (i := 164) (by decide +kernel))) rfl
abbrev m10_keep : MT := (yX10_keep, cX10_keep, 1, (some .int))
set_option maxRecDepth 100000 in
theorem cv_m10_keep : CV m10_keep 0 := ⟨gtb_in (tb_5 (List.mem_of_getElem? (i := 169) (by rfl))) rfl, gtb_in (tb_1 (List.mem_of_getElem? (i := 1) (by decide +kernel))) rfl, ⟨by decide +kernel, by decide +kernel⟩, by decide +kernel, by decide +kernel⟩
theorem in_m10_keep : Cond.instanceMethod yX10_keep ∈ gtb := gtb_in (tb_5 (List.mem_of_getElem? (i := 167) (by decide +kernel))) rfl
theorem se_m10_keep : Cond.selects yX10_keep.cls yX10_keep yX10_keep ∈ gtb := gtb_in (tb_5 (List.mem_of_getElem? (i := 168) (by decide +kernel))) rfl
abbrev m10_back : MT := (yX10_back, cX10_back, 1, (some .int))
set_option maxRecDepth 100000 in
theorem cv_m10_back : CV m10_back 0 := ⟨gtb_in (tb_5 (List.mem_of_getElem? (i := 173) (by rfl))) rfl, gtb_in (tb_1 (List.mem_of_getElem? (i := 1) (by decide +kernel))) rfl, ⟨by decide +kernel, by decide +kernel⟩, by decide +kernel, by decide +kernel⟩
theorem in_m10_back : Cond.instanceMethod yX10_back ∈ gtb := gtb_in (tb_5 (List.mem_of_getElem? (i := 171) (by decide +kernel))) rfl
theorem se_m10_back : Cond.selects yX10_back.cls yX10_back yX10_back ∈ gtb := gtb_in (tb_5 (List.mem_of_getElem? (i := 172) (by decide +kernel))) rfl
abbrev m10_count : MT := (yX10_count, cX10_count, 2, (some .int))
set_option maxRecDepth 100000 in
theorem cv_m10_count : CV m10_count 1 := ⟨gtb_in (tb_5 (List.mem_of_getElem? (i := 177) (by rfl))) rfl, gtb_in (tb_1 (List.mem_of_getElem? (i := 1) (by decide +kernel))) rfl, ⟨by decide +kernel, by decide +kernel⟩, by decide +kernel, by decide +kernel⟩
theorem in_m10_count : Cond.instanceMethod yX10_count ∈ gtb := gtb_in (tb_5 (List.mem_of_getElem? (i := 175) (by decide +kernel))) rfl
theorem se_m10_count : Cond.selects yX10_count.cls yX10_count yX10_count ∈ gtb := gtb_in (tb_5 (List.mem_of_getElem? (i := 176) (by decide +kernel))) rfl
abbrev m2_countLiving : MT := (yX2_countLiving, cX2_countLiving, 3, (some .int))
set_option maxRecDepth 100000 in
theorem cv_m2_countLiving : CV m2_countLiving 0 := ⟨gtb_in (tb_5 (List.mem_of_getElem? (i := 182) (by rfl))) rfl, gtb_in (tb_1 (List.mem_of_getElem? (i := 5) (by decide +kernel))) rfl, ⟨by decide +kernel, by decide +kernel⟩, by decide +kernel, by decide +kernel⟩
theorem in_m2_countLiving : Cond.instanceMethod yX2_countLiving ∈ gtb := gtb_in (tb_5 (List.mem_of_getElem? (i := 180) (by decide +kernel))) rfl
theorem se_m2_countLiving : Cond.selects yX2_countLiving.cls yX2_countLiving yX2_countLiving ∈ gtb := gtb_in (tb_5 (List.mem_of_getElem? (i := 181) (by decide +kernel))) rfl
abbrev m10_look : MT := (yX10_look, cX10_look, 3, (some .int))
set_option maxRecDepth 100000 in
theorem cv_m10_look : CV m10_look 2 := ⟨gtb_in (tb_5 (List.mem_of_getElem? (i := 191) (by rfl))) rfl, gtb_in (tb_1 (List.mem_of_getElem? (i := 1) (by decide +kernel))) rfl, ⟨by decide +kernel, by decide +kernel⟩, by decide +kernel, by decide +kernel⟩
theorem in_m10_look : Cond.instanceMethod yX10_look ∈ gtb := gtb_in (tb_5 (List.mem_of_getElem? (i := 189) (by decide +kernel))) rfl
theorem se_m10_look : Cond.selects yX10_look.cls yX10_look yX10_look ∈ gtb := gtb_in (tb_5 (List.mem_of_getElem? (i := 190) (by decide +kernel))) rfl
abbrev m5_countAbove : MT := (yX5_countAbove, cX5_countAbove, 4, (some .int))
set_option maxRecDepth 100000 in
theorem cv_m5_countAbove : CV m5_countAbove 1 := ⟨gtb_in (tb_6 (List.mem_of_getElem? (i := 33) (by rfl))) rfl, gtb_in (tb_1 (List.mem_of_getElem? (i := 6) (by decide +kernel))) rfl, ⟨by decide +kernel, by decide +kernel⟩, by decide +kernel, by decide +kernel⟩
theorem in_m5_countAbove : Cond.instanceMethod yX5_countAbove ∈ gtb := gtb_in (tb_6 (List.mem_of_getElem? (i := 31) (by decide +kernel))) rfl
theorem se_m5_countAbove : Cond.selects yX5_countAbove.cls yX5_countAbove yX5_countAbove ∈ gtb := gtb_in (tb_6 (List.mem_of_getElem? (i := 32) (by decide +kernel))) rfl
abbrev m5_levelWith : MT := (yX5_levelWith, cX5_levelWith, 2, (some .int))
set_option maxRecDepth 100000 in
theorem cv_m5_levelWith : CV m5_levelWith 1 := ⟨gtb_in (tb_6 (List.mem_of_getElem? (i := 38) (by rfl))) rfl, gtb_in (tb_1 (List.mem_of_getElem? (i := 6) (by decide +kernel))) rfl, ⟨by decide +kernel, by decide +kernel⟩, by decide +kernel, by decide +kernel⟩
theorem in_m5_levelWith : Cond.instanceMethod yX5_levelWith ∈ gtb := gtb_in (tb_6 (List.mem_of_getElem? (i := 36) (by decide +kernel))) rfl
theorem se_m5_levelWith : Cond.selects yX5_levelWith.cls yX5_levelWith yX5_levelWith ∈ gtb := gtb_in (tb_6 (List.mem_of_getElem? (i := 37) (by decide +kernel))) rfl
abbrev m11_init : MT := (yX11_init, cX11_init, 1, none)
set_option maxRecDepth 100000 in
theorem cv_m11_init : CV m11_init 0 := ⟨gtb_in (tb_6 (List.mem_of_getElem? (i := 43) (by rfl))) rfl, gtb_in (tb_1 (List.mem_of_getElem? (i := 15) (by decide +kernel))) rfl, ⟨by decide +kernel, by decide +kernel⟩, by decide +kernel, by decide +kernel⟩
theorem in_m11_init : Cond.instanceMethod yX11_init ∈ gtb := gtb_in (tb_6 (List.mem_of_getElem? (i := 42) (by decide +kernel))) rfl
abbrev m11_thrown : MT := (yX11_thrown, cX11_thrown, 1, (some .int))
set_option maxRecDepth 100000 in
theorem cv_m11_thrown : CV m11_thrown 0 := ⟨gtb_in (tb_6 (List.mem_of_getElem? (i := 226) (by rfl))) rfl, gtb_in (tb_1 (List.mem_of_getElem? (i := 15) (by decide +kernel))) rfl, ⟨by decide +kernel, by decide +kernel⟩, by decide +kernel, by decide +kernel⟩
theorem in_m11_thrown : Cond.instanceMethod yX11_thrown ∈ gtb := gtb_in (tb_6 (List.mem_of_getElem? (i := 224) (by decide +kernel))) rfl
theorem se_m11_thrown : Cond.selects yX11_thrown.cls yX11_thrown yX11_thrown ∈ gtb := gtb_in (tb_6 (List.mem_of_getElem? (i := 225) (by decide +kernel))) rfl
abbrev m11_feed : MT := (yX11_feed, cX11_feed, 8, (some .int))
set_option maxRecDepth 100000 in
theorem cv_m11_feed : CV m11_feed 5 := ⟨gtb_in (tb_6 (List.mem_of_getElem? (i := 230) (by rfl))) rfl, gtb_in (tb_1 (List.mem_of_getElem? (i := 15) (by decide +kernel))) rfl, ⟨by decide +kernel, by decide +kernel⟩, by decide +kernel, by decide +kernel⟩
theorem in_m11_feed : Cond.instanceMethod yX11_feed ∈ gtb := gtb_in (tb_6 (List.mem_of_getElem? (i := 228) (by decide +kernel))) rfl
theorem se_m11_feed : Cond.selects yX11_feed.cls yX11_feed yX11_feed ∈ gtb := gtb_in (tb_6 (List.mem_of_getElem? (i := 229) (by decide +kernel))) rfl
abbrev m11_text : MT := (yX11_text, cX11_text, 3, (some .int))
set_option maxRecDepth 100000 in
theorem cv_m11_text : CV m11_text 1 := ⟨gtb_in (tb_6 (List.mem_of_getElem? (i := 234) (by rfl))) rfl, gtb_in (tb_1 (List.mem_of_getElem? (i := 15) (by decide +kernel))) rfl, ⟨by decide +kernel, by decide +kernel⟩, by decide +kernel, by decide +kernel⟩
theorem in_m11_text : Cond.instanceMethod yX11_text ∈ gtb := gtb_in (tb_6 (List.mem_of_getElem? (i := 232) (by decide +kernel))) rfl
theorem se_m11_text : Cond.selects yX11_text.cls yX11_text yX11_text ∈ gtb := gtb_in (tb_6 (List.mem_of_getElem? (i := 233) (by decide +kernel))) rfl
abbrev m11_token : MT := (yX11_token, cX11_token, 2, none)
set_option maxRecDepth 100000 in
theorem cv_m11_token : CV m11_token 0 := ⟨gtb_in (tb_6 (List.mem_of_getElem? (i := 238) (by rfl))) rfl, gtb_in (tb_1 (List.mem_of_getElem? (i := 15) (by decide +kernel))) rfl, ⟨by decide +kernel, by decide +kernel⟩, by decide +kernel, by decide +kernel⟩
theorem in_m11_token : Cond.instanceMethod yX11_token ∈ gtb := gtb_in (tb_6 (List.mem_of_getElem? (i := 237) (by decide +kernel))) rfl
theorem se_m11_token : Cond.selects yX11_token.cls yX11_token yX11_token ∈ gtb := gtb_in (List.mem_append_left _ (List.mem_of_getElem? (i := 49) (by decide +kernel))) rfl
abbrev m11_here : MT := (yX11_here, cX11_here, 1, (some .int))
set_option maxRecDepth 100000 in
theorem cv_m11_here : CV m11_here 0 := ⟨gtb_in (tb_7 (List.mem_of_getElem? (i := 2) (by rfl))) rfl, gtb_in (tb_1 (List.mem_of_getElem? (i := 15) (by decide +kernel))) rfl, ⟨by decide +kernel, by decide +kernel⟩, by decide +kernel, by decide +kernel⟩
theorem in_m11_here : Cond.instanceMethod yX11_here ∈ gtb := gtb_in (tb_7 (List.mem_of_getElem? (i := 1) (by decide +kernel))) rfl
theorem se_m11_here : Cond.selects yX11_here.cls yX11_here yX11_here ∈ gtb := gtb_in (List.mem_append_left _ (List.mem_of_getElem? (i := 50) (by decide +kernel))) rfl
abbrev m11_isSmall : MT := (yX11_isSmall, cX11_isSmall, 1, (some .boolean))
set_option maxRecDepth 100000 in
theorem cv_m11_isSmall : CV m11_isSmall 1 := ⟨gtb_in (tb_7 (List.mem_of_getElem? (i := 5) (by rfl))) rfl, gtb_in (tb_1 (List.mem_of_getElem? (i := 15) (by decide +kernel))) rfl, ⟨by decide +kernel, by decide +kernel⟩, by decide +kernel, by decide +kernel⟩
theorem st_m11_isSmall : Cond.static yX11_isSmall ∈ gtb := gtb_in (tb_7 (List.mem_of_getElem? (i := 4) (by decide +kernel))) rfl
abbrev m11_word : MT := (yX11_word, cX11_word, 4, (some .int))
set_option maxRecDepth 100000 in
theorem cv_m11_word : CV m11_word 0 := ⟨gtb_in (tb_7 (List.mem_of_getElem? (i := 9) (by rfl))) rfl, gtb_in (tb_1 (List.mem_of_getElem? (i := 15) (by decide +kernel))) rfl, ⟨by decide +kernel, by decide +kernel⟩, by decide +kernel, by decide +kernel⟩
theorem in_m11_word : Cond.instanceMethod yX11_word ∈ gtb := gtb_in (tb_7 (List.mem_of_getElem? (i := 8) (by decide +kernel))) rfl
theorem se_m11_word : Cond.selects yX11_word.cls yX11_word yX11_word ∈ gtb := gtb_in (List.mem_append_left _ (List.mem_of_getElem? (i := 51) (by decide +kernel))) rfl
abbrev m11_name : MT := (yX11_name, cX11_name, 2, none)
set_option maxRecDepth 100000 in
theorem cv_m11_name : CV m11_name 0 := ⟨gtb_in (tb_7 (List.mem_of_getElem? (i := 16) (by rfl))) rfl, gtb_in (tb_1 (List.mem_of_getElem? (i := 15) (by decide +kernel))) rfl, ⟨by decide +kernel, by decide +kernel⟩, by decide +kernel, by decide +kernel⟩
theorem in_m11_name : Cond.instanceMethod yX11_name ∈ gtb := gtb_in (tb_7 (List.mem_of_getElem? (i := 15) (by decide +kernel))) rfl
theorem se_m11_name : Cond.selects yX11_name.cls yX11_name yX11_name ∈ gtb := gtb_in (List.mem_append_left _ (List.mem_of_getElem? (i := 52) (by decide +kernel))) rfl
abbrev m11_isDigit : MT := (yX11_isDigit, cX11_isDigit, 1, (some .boolean))
set_option maxRecDepth 100000 in
theorem cv_m11_isDigit : CV m11_isDigit 1 := ⟨gtb_in (tb_7 (List.mem_of_getElem? (i := 19) (by rfl))) rfl, gtb_in (tb_1 (List.mem_of_getElem? (i := 15) (by decide +kernel))) rfl, ⟨by decide +kernel, by decide +kernel⟩, by decide +kernel, by decide +kernel⟩
theorem st_m11_isDigit : Cond.static yX11_isDigit ∈ gtb := gtb_in (tb_7 (List.mem_of_getElem? (i := 18) (by decide +kernel))) rfl
abbrev m11_sign : MT := (yX11_sign, cX11_sign, 2, none)
set_option maxRecDepth 100000 in
theorem cv_m11_sign : CV m11_sign 1 := ⟨gtb_in (tb_7 (List.mem_of_getElem? (i := 23) (by rfl))) rfl, gtb_in (tb_1 (List.mem_of_getElem? (i := 15) (by decide +kernel))) rfl, ⟨by decide +kernel, by decide +kernel⟩, by decide +kernel, by decide +kernel⟩
theorem in_m11_sign : Cond.instanceMethod yX11_sign ∈ gtb := gtb_in (tb_7 (List.mem_of_getElem? (i := 22) (by decide +kernel))) rfl
theorem se_m11_sign : Cond.selects yX11_sign.cls yX11_sign yX11_sign ∈ gtb := gtb_in (List.mem_append_left _ (List.mem_of_getElem? (i := 53) (by decide +kernel))) rfl
abbrev m11_line : MT := (yX11_line, cX11_line, 4, none)
set_option maxRecDepth 100000 in
theorem cv_m11_line : CV m11_line 0 := ⟨gtb_in (tb_7 (List.mem_of_getElem? (i := 27) (by rfl))) rfl, gtb_in (tb_1 (List.mem_of_getElem? (i := 15) (by decide +kernel))) rfl, ⟨by decide +kernel, by decide +kernel⟩, by decide +kernel, by decide +kernel⟩
theorem in_m11_line : Cond.instanceMethod yX11_line ∈ gtb := gtb_in (tb_7 (List.mem_of_getElem? (i := 26) (by decide +kernel))) rfl
theorem se_m11_line : Cond.selects yX11_line.cls yX11_line yX11_line ∈ gtb := gtb_in (List.mem_append_left _ (List.mem_of_getElem? (i := 54) (by decide +kernel))) rfl
abbrev m11_wrong : MT := (yX11_wrong, cX11_wrong, 2, none)
set_option maxRecDepth 100000 in
theorem cv_m11_wrong : CV m11_wrong 1 := ⟨gtb_in (tb_7 (List.mem_of_getElem? (i := 31) (by rfl))) rfl, gtb_in (tb_1 (List.mem_of_getElem? (i := 15) (by decide +kernel))) rfl, ⟨by decide +kernel, by decide +kernel⟩, by decide +kernel, by decide +kernel⟩
theorem in_m11_wrong : Cond.instanceMethod yX11_wrong ∈ gtb := gtb_in (tb_7 (List.mem_of_getElem? (i := 30) (by decide +kernel))) rfl
theorem se_m11_wrong : Cond.selects yX11_wrong.cls yX11_wrong yX11_wrong ∈ gtb := gtb_in (List.mem_append_left _ (List.mem_of_getElem? (i := 55) (by decide +kernel))) rfl
abbrev m11_wrongAt : MT := (yX11_wrongAt, cX11_wrongAt, 3, none)
set_option maxRecDepth 100000 in
theorem cv_m11_wrongAt : CV m11_wrongAt 2 := ⟨gtb_in (tb_7 (List.mem_of_getElem? (i := 35) (by rfl))) rfl, gtb_in (tb_1 (List.mem_of_getElem? (i := 15) (by decide +kernel))) rfl, ⟨by decide +kernel, by decide +kernel⟩, by decide +kernel, by decide +kernel⟩
theorem in_m11_wrongAt : Cond.instanceMethod yX11_wrongAt ∈ gtb := gtb_in (tb_7 (List.mem_of_getElem? (i := 34) (by decide +kernel))) rfl
theorem se_m11_wrongAt : Cond.selects yX11_wrongAt.cls yX11_wrongAt yX11_wrongAt ∈ gtb := gtb_in (List.mem_append_left _ (List.mem_of_getElem? (i := 56) (by decide +kernel))) rfl
abbrev m11_fresher : MT := (yX11_fresher, cX11_fresher, 2, (some .int))
set_option maxRecDepth 100000 in
theorem cv_m11_fresher : CV m11_fresher 1 := ⟨gtb_in (tb_7 (List.mem_of_getElem? (i := 39) (by rfl))) rfl, gtb_in (tb_1 (List.mem_of_getElem? (i := 15) (by decide +kernel))) rfl, ⟨by decide +kernel, by decide +kernel⟩, by decide +kernel, by decide +kernel⟩
theorem in_m11_fresher : Cond.instanceMethod yX11_fresher ∈ gtb := gtb_in (tb_7 (List.mem_of_getElem? (i := 38) (by decide +kernel))) rfl
theorem se_m11_fresher : Cond.selects yX11_fresher.cls yX11_fresher yX11_fresher ∈ gtb := gtb_in (List.mem_append_left _ (List.mem_of_getElem? (i := 57) (by decide +kernel))) rfl
abbrev m11_fresh : MT := (yX11_fresh, cX11_fresh, 5, (some .int))
set_option maxRecDepth 100000 in
theorem cv_m11_fresh : CV m11_fresh 3 := ⟨gtb_in (tb_7 (List.mem_of_getElem? (i := 43) (by rfl))) rfl, gtb_in (tb_1 (List.mem_of_getElem? (i := 15) (by decide +kernel))) rfl, ⟨by decide +kernel, by decide +kernel⟩, by decide +kernel, by decide +kernel⟩
theorem in_m11_fresh : Cond.instanceMethod yX11_fresh ∈ gtb := gtb_in (tb_7 (List.mem_of_getElem? (i := 42) (by decide +kernel))) rfl
theorem se_m11_fresh : Cond.selects yX11_fresh.cls yX11_fresh yX11_fresh ∈ gtb := gtb_in (List.mem_append_left _ (List.mem_of_getElem? (i := 58) (by decide +kernel))) rfl
abbrev m11_found : MT := (yX11_found, cX11_found, 5, (some .int))
set_option maxRecDepth 100000 in
theorem cv_m11_found : CV m11_found 4 := ⟨gtb_in (tb_7 (List.mem_of_getElem? (i := 46) (by rfl))) rfl, gtb_in (tb_1 (List.mem_of_getElem? (i := 15) (by decide +kernel))) rfl, ⟨by decide +kernel, by decide +kernel⟩, by decide +kernel, by decide +kernel⟩
theorem st_m11_found : Cond.static yX11_found ∈ gtb := gtb_in (tb_7 (List.mem_of_getElem? (i := 45) (by decide +kernel))) rfl
abbrev m11_numeral : MT := (yX11_numeral, cX11_numeral, 4, (some .int))
set_option maxRecDepth 100000 in
theorem cv_m11_numeral : CV m11_numeral 2 := ⟨gtb_in (tb_7 (List.mem_of_getElem? (i := 50) (by rfl))) rfl, gtb_in (tb_1 (List.mem_of_getElem? (i := 15) (by decide +kernel))) rfl, ⟨by decide +kernel, by decide +kernel⟩, by decide +kernel, by decide +kernel⟩
theorem in_m11_numeral : Cond.instanceMethod yX11_numeral ∈ gtb := gtb_in (tb_7 (List.mem_of_getElem? (i := 49) (by decide +kernel))) rfl
theorem se_m11_numeral : Cond.selects yX11_numeral.cls yX11_numeral yX11_numeral ∈ gtb := gtb_in (List.mem_append_left _ (List.mem_of_getElem? (i := 59) (by decide +kernel))) rfl
abbrev m11_oneMore : MT := (yX11_oneMore, cX11_oneMore, 2, none)
set_option maxRecDepth 100000 in
theorem cv_m11_oneMore : CV m11_oneMore 1 := ⟨gtb_in (tb_7 (List.mem_of_getElem? (i := 54) (by rfl))) rfl, gtb_in (tb_1 (List.mem_of_getElem? (i := 15) (by decide +kernel))) rfl, ⟨by decide +kernel, by decide +kernel⟩, by decide +kernel, by decide +kernel⟩
theorem in_m11_oneMore : Cond.instanceMethod yX11_oneMore ∈ gtb := gtb_in (tb_7 (List.mem_of_getElem? (i := 53) (by decide +kernel))) rfl
theorem se_m11_oneMore : Cond.selects yX11_oneMore.cls yX11_oneMore yX11_oneMore ∈ gtb := gtb_in (List.mem_append_left _ (List.mem_of_getElem? (i := 60) (by decide +kernel))) rfl
abbrev m11_factLine : MT := (yX11_factLine, cX11_factLine, 6, none)
set_option maxRecDepth 100000 in
theorem cv_m11_factLine : CV m11_factLine 1 := ⟨gtb_in (tb_7 (List.mem_of_getElem? (i := 58) (by rfl))) rfl, gtb_in (tb_1 (List.mem_of_getElem? (i := 15) (by decide +kernel))) rfl, ⟨by decide +kernel, by decide +kernel⟩, by decide +kernel, by decide +kernel⟩
theorem in_m11_factLine : Cond.instanceMethod yX11_factLine ∈ gtb := gtb_in (tb_7 (List.mem_of_getElem? (i := 57) (by decide +kernel))) rfl
theorem se_m11_factLine : Cond.selects yX11_factLine.cls yX11_factLine yX11_factLine ∈ gtb := gtb_in (List.mem_append_left _ (List.mem_of_getElem? (i := 61) (by decide +kernel))) rfl
abbrev m11_person : MT := (yX11_person, cX11_person, 1, (some .int))
set_option maxRecDepth 100000 in
theorem cv_m11_person : CV m11_person 0 := ⟨gtb_in (tb_7 (List.mem_of_getElem? (i := 62) (by rfl))) rfl, gtb_in (tb_1 (List.mem_of_getElem? (i := 15) (by decide +kernel))) rfl, ⟨by decide +kernel, by decide +kernel⟩, by decide +kernel, by decide +kernel⟩
theorem in_m11_person : Cond.instanceMethod yX11_person ∈ gtb := gtb_in (tb_7 (List.mem_of_getElem? (i := 61) (by decide +kernel))) rfl
theorem se_m11_person : Cond.selects yX11_person.cls yX11_person yX11_person ∈ gtb := gtb_in (List.mem_append_left _ (List.mem_of_getElem? (i := 62) (by decide +kernel))) rfl
abbrev m11_goOn : MT := (yX11_goOn, cX11_goOn, 1, none)
set_option maxRecDepth 100000 in
theorem cv_m11_goOn : CV m11_goOn 0 := ⟨gtb_in (tb_7 (List.mem_of_getElem? (i := 66) (by rfl))) rfl, gtb_in (tb_1 (List.mem_of_getElem? (i := 15) (by decide +kernel))) rfl, ⟨by decide +kernel, by decide +kernel⟩, by decide +kernel, by decide +kernel⟩
theorem in_m11_goOn : Cond.instanceMethod yX11_goOn ∈ gtb := gtb_in (tb_7 (List.mem_of_getElem? (i := 65) (by decide +kernel))) rfl
theorem se_m11_goOn : Cond.selects yX11_goOn.cls yX11_goOn yX11_goOn ∈ gtb := gtb_in (List.mem_append_left _ (List.mem_of_getElem? (i := 63) (by decide +kernel))) rfl
abbrev m11_isWord : MT := (yX11_isWord, cX11_isWord, 2, (some .boolean))
set_option maxRecDepth 100000 in
theorem cv_m11_isWord : CV m11_isWord 1 := ⟨gtb_in (tb_7 (List.mem_of_getElem? (i := 70) (by rfl))) rfl, gtb_in (tb_1 (List.mem_of_getElem? (i := 15) (by decide +kernel))) rfl, ⟨by decide +kernel, by decide +kernel⟩, by decide +kernel, by decide +kernel⟩
theorem in_m11_isWord : Cond.instanceMethod yX11_isWord ∈ gtb := gtb_in (tb_7 (List.mem_of_getElem? (i := 69) (by decide +kernel))) rfl
theorem se_m11_isWord : Cond.selects yX11_isWord.cls yX11_isWord yX11_isWord ∈ gtb := gtb_in (List.mem_append_left _ (List.mem_of_getElem? (i := 64) (by decide +kernel))) rfl
abbrev m11_hasFact : MT := (yX11_hasFact, cX11_hasFact, 9, (some .boolean))
set_option maxRecDepth 100000 in
theorem cv_m11_hasFact : CV m11_hasFact 6 := ⟨gtb_in (tb_7 (List.mem_of_getElem? (i := 74) (by rfl))) rfl, gtb_in (tb_1 (List.mem_of_getElem? (i := 15) (by decide +kernel))) rfl, ⟨by decide +kernel, by decide +kernel⟩, by decide +kernel, by decide +kernel⟩
theorem in_m11_hasFact : Cond.instanceMethod yX11_hasFact ∈ gtb := gtb_in (tb_7 (List.mem_of_getElem? (i := 73) (by decide +kernel))) rfl
theorem se_m11_hasFact : Cond.selects yX11_hasFact.cls yX11_hasFact yX11_hasFact ∈ gtb := gtb_in (List.mem_append_left _ (List.mem_of_getElem? (i := 65) (by decide +kernel))) rfl
abbrev m11_lays : MT := (yX11_lays, cX11_lays, 6, none)
set_option maxRecDepth 100000 in
theorem cv_m11_lays : CV m11_lays 5 := ⟨gtb_in (tb_7 (List.mem_of_getElem? (i := 78) (by rfl))) rfl, gtb_in (tb_1 (List.mem_of_getElem? (i := 15) (by decide +kernel))) rfl, ⟨by decide +kernel, by decide +kernel⟩, by decide +kernel, by decide +kernel⟩
theorem in_m11_lays : Cond.instanceMethod yX11_lays ∈ gtb := gtb_in (tb_7 (List.mem_of_getElem? (i := 77) (by decide +kernel))) rfl
theorem se_m11_lays : Cond.selects yX11_lays.cls yX11_lays yX11_lays ∈ gtb := gtb_in (List.mem_append_left _ (List.mem_of_getElem? (i := 66) (by decide +kernel))) rfl
abbrev m11_isRound : MT := (yX11_isRound, cX11_isRound, 6, (some .boolean))
set_option maxRecDepth 100000 in
theorem cv_m11_isRound : CV m11_isRound 3 := ⟨gtb_in (tb_7 (List.mem_of_getElem? (i := 82) (by rfl))) rfl, gtb_in (tb_1 (List.mem_of_getElem? (i := 15) (by decide +kernel))) rfl, ⟨by decide +kernel, by decide +kernel⟩, by decide +kernel, by decide +kernel⟩
theorem in_m11_isRound : Cond.instanceMethod yX11_isRound ∈ gtb := gtb_in (tb_7 (List.mem_of_getElem? (i := 81) (by decide +kernel))) rfl
theorem se_m11_isRound : Cond.selects yX11_isRound.cls yX11_isRound yX11_isRound ∈ gtb := gtb_in (List.mem_append_left _ (List.mem_of_getElem? (i := 67) (by decide +kernel))) rfl
abbrev m11_layOrder : MT := (yX11_layOrder, cX11_layOrder, 10, none)
set_option maxRecDepth 100000 in
theorem cv_m11_layOrder : CV m11_layOrder 4 := ⟨gtb_in (tb_7 (List.mem_of_getElem? (i := 86) (by rfl))) rfl, gtb_in (tb_1 (List.mem_of_getElem? (i := 15) (by decide +kernel))) rfl, ⟨by decide +kernel, by decide +kernel⟩, by decide +kernel, by decide +kernel⟩
theorem in_m11_layOrder : Cond.instanceMethod yX11_layOrder ∈ gtb := gtb_in (tb_7 (List.mem_of_getElem? (i := 85) (by decide +kernel))) rfl
theorem se_m11_layOrder : Cond.selects yX11_layOrder.cls yX11_layOrder yX11_layOrder ∈ gtb := gtb_in (List.mem_append_left _ (List.mem_of_getElem? (i := 68) (by decide +kernel))) rfl
abbrev m11_pair : MT := (yX11_pair, cX11_pair, 2, (some .int))
set_option maxRecDepth 100000 in
theorem cv_m11_pair : CV m11_pair 2 := ⟨gtb_in (tb_7 (List.mem_of_getElem? (i := 89) (by rfl))) rfl, gtb_in (tb_1 (List.mem_of_getElem? (i := 15) (by decide +kernel))) rfl, ⟨by decide +kernel, by decide +kernel⟩, by decide +kernel, by decide +kernel⟩
theorem st_m11_pair : Cond.static yX11_pair ∈ gtb := gtb_in (tb_7 (List.mem_of_getElem? (i := 88) (by decide +kernel))) rfl
abbrev m11_isOf : MT := (yX11_isOf, cX11_isOf, 3, (some .boolean))
set_option maxRecDepth 100000 in
theorem cv_m11_isOf : CV m11_isOf 2 := ⟨gtb_in (tb_7 (List.mem_of_getElem? (i := 93) (by rfl))) rfl, gtb_in (tb_1 (List.mem_of_getElem? (i := 15) (by decide +kernel))) rfl, ⟨by decide +kernel, by decide +kernel⟩, by decide +kernel, by decide +kernel⟩
theorem in_m11_isOf : Cond.instanceMethod yX11_isOf ∈ gtb := gtb_in (tb_7 (List.mem_of_getElem? (i := 92) (by decide +kernel))) rfl
theorem se_m11_isOf : Cond.selects yX11_isOf.cls yX11_isOf yX11_isOf ∈ gtb := gtb_in (List.mem_append_left _ (List.mem_of_getElem? (i := 69) (by decide +kernel))) rfl
abbrev m11_expression : MT := (yX11_expression, cX11_expression, 1, none)
set_option maxRecDepth 100000 in
theorem cv_m11_expression : CV m11_expression 0 := ⟨gtb_in (tb_7 (List.mem_of_getElem? (i := 97) (by rfl))) rfl, gtb_in (tb_1 (List.mem_of_getElem? (i := 15) (by decide +kernel))) rfl, ⟨by decide +kernel, by decide +kernel⟩, by decide +kernel, by decide +kernel⟩
theorem in_m11_expression : Cond.instanceMethod yX11_expression ∈ gtb := gtb_in (tb_7 (List.mem_of_getElem? (i := 96) (by decide +kernel))) rfl
theorem se_m11_expression : Cond.selects yX11_expression.cls yX11_expression yX11_expression ∈ gtb := gtb_in (List.mem_append_left _ (List.mem_of_getElem? (i := 70) (by decide +kernel))) rfl
abbrev m11_conjunction : MT := (yX11_conjunction, cX11_conjunction, 1, none)
set_option maxRecDepth 100000 in
theorem cv_m11_conjunction : CV m11_conjunction 0 := ⟨gtb_in (tb_7 (List.mem_of_getElem? (i := 101) (by rfl))) rfl, gtb_in (tb_1 (List.mem_of_getElem? (i := 15) (by decide +kernel))) rfl, ⟨by decide +kernel, by decide +kernel⟩, by decide +kernel, by decide +kernel⟩
theorem in_m11_conjunction : Cond.instanceMethod yX11_conjunction ∈ gtb := gtb_in (tb_7 (List.mem_of_getElem? (i := 100) (by decide +kernel))) rfl
theorem se_m11_conjunction : Cond.selects yX11_conjunction.cls yX11_conjunction yX11_conjunction ∈ gtb := gtb_in (List.mem_append_left _ (List.mem_of_getElem? (i := 71) (by decide +kernel))) rfl
abbrev m11_negation : MT := (yX11_negation, cX11_negation, 2, none)
set_option maxRecDepth 100000 in
theorem cv_m11_negation : CV m11_negation 0 := ⟨gtb_in (tb_7 (List.mem_of_getElem? (i := 105) (by rfl))) rfl, gtb_in (tb_1 (List.mem_of_getElem? (i := 15) (by decide +kernel))) rfl, ⟨by decide +kernel, by decide +kernel⟩, by decide +kernel, by decide +kernel⟩
theorem in_m11_negation : Cond.instanceMethod yX11_negation ∈ gtb := gtb_in (tb_7 (List.mem_of_getElem? (i := 104) (by decide +kernel))) rfl
theorem se_m11_negation : Cond.selects yX11_negation.cls yX11_negation yX11_negation ∈ gtb := gtb_in (List.mem_append_left _ (List.mem_of_getElem? (i := 72) (by decide +kernel))) rfl
abbrev m11_knot : MT := (yX11_knot, cX11_knot, 1, none)
set_option maxRecDepth 100000 in
theorem cv_m11_knot : CV m11_knot 0 := ⟨gtb_in (tb_7 (List.mem_of_getElem? (i := 109) (by rfl))) rfl, gtb_in (tb_1 (List.mem_of_getElem? (i := 15) (by decide +kernel))) rfl, ⟨by decide +kernel, by decide +kernel⟩, by decide +kernel, by decide +kernel⟩
theorem in_m11_knot : Cond.instanceMethod yX11_knot ∈ gtb := gtb_in (tb_7 (List.mem_of_getElem? (i := 108) (by decide +kernel))) rfl
theorem se_m11_knot : Cond.selects yX11_knot.cls yX11_knot yX11_knot ∈ gtb := gtb_in (List.mem_append_left _ (List.mem_of_getElem? (i := 73) (by decide +kernel))) rfl
abbrev m11_puts : MT := (yX11_puts, cX11_puts, 3, none)
set_option maxRecDepth 100000 in
theorem cv_m11_puts : CV m11_puts 2 := ⟨gtb_in (tb_7 (List.mem_of_getElem? (i := 113) (by rfl))) rfl, gtb_in (tb_1 (List.mem_of_getElem? (i := 15) (by decide +kernel))) rfl, ⟨by decide +kernel, by decide +kernel⟩, by decide +kernel, by decide +kernel⟩
theorem in_m11_puts : Cond.instanceMethod yX11_puts ∈ gtb := gtb_in (tb_7 (List.mem_of_getElem? (i := 112) (by decide +kernel))) rfl
theorem se_m11_puts : Cond.selects yX11_puts.cls yX11_puts yX11_puts ∈ gtb := gtb_in (List.mem_append_left _ (List.mem_of_getElem? (i := 74) (by decide +kernel))) rfl
abbrev m11_sum : MT := (yX11_sum, cX11_sum, 2, none)
set_option maxRecDepth 100000 in
theorem cv_m11_sum : CV m11_sum 0 := ⟨gtb_in (tb_7 (List.mem_of_getElem? (i := 117) (by rfl))) rfl, gtb_in (tb_1 (List.mem_of_getElem? (i := 15) (by decide +kernel))) rfl, ⟨by decide +kernel, by decide +kernel⟩, by decide +kernel, by decide +kernel⟩
theorem in_m11_sum : Cond.instanceMethod yX11_sum ∈ gtb := gtb_in (tb_7 (List.mem_of_getElem? (i := 116) (by decide +kernel))) rfl
theorem se_m11_sum : Cond.selects yX11_sum.cls yX11_sum yX11_sum ∈ gtb := gtb_in (List.mem_append_left _ (List.mem_of_getElem? (i := 75) (by decide +kernel))) rfl
abbrev m11_product : MT := (yX11_product, cX11_product, 2, none)
set_option maxRecDepth 100000 in
theorem cv_m11_product : CV m11_product 0 := ⟨gtb_in (tb_7 (List.mem_of_getElem? (i := 121) (by rfl))) rfl, gtb_in (tb_1 (List.mem_of_getElem? (i := 15) (by decide +kernel))) rfl, ⟨by decide +kernel, by decide +kernel⟩, by decide +kernel, by decide +kernel⟩
theorem in_m11_product : Cond.instanceMethod yX11_product ∈ gtb := gtb_in (tb_7 (List.mem_of_getElem? (i := 120) (by decide +kernel))) rfl
theorem se_m11_product : Cond.selects yX11_product.cls yX11_product yX11_product ∈ gtb := gtb_in (List.mem_append_left _ (List.mem_of_getElem? (i := 76) (by decide +kernel))) rfl
abbrev m11_primary : MT := (yX11_primary, cX11_primary, 2, none)
set_option maxRecDepth 100000 in
theorem cv_m11_primary : CV m11_primary 0 := ⟨gtb_in (tb_7 (List.mem_of_getElem? (i := 125) (by rfl))) rfl, gtb_in (tb_1 (List.mem_of_getElem? (i := 15) (by decide +kernel))) rfl, ⟨by decide +kernel, by decide +kernel⟩, by decide +kernel, by decide +kernel⟩
theorem in_m11_primary : Cond.instanceMethod yX11_primary ∈ gtb := gtb_in (tb_7 (List.mem_of_getElem? (i := 124) (by decide +kernel))) rfl
theorem se_m11_primary : Cond.selects yX11_primary.cls yX11_primary yX11_primary ∈ gtb := gtb_in (List.mem_append_left _ (List.mem_of_getElem? (i := 77) (by decide +kernel))) rfl
abbrev m11_isSign : MT := (yX11_isSign, cX11_isSign, 2, (some .boolean))
set_option maxRecDepth 100000 in
theorem cv_m11_isSign : CV m11_isSign 1 := ⟨gtb_in (tb_7 (List.mem_of_getElem? (i := 129) (by rfl))) rfl, gtb_in (tb_1 (List.mem_of_getElem? (i := 15) (by decide +kernel))) rfl, ⟨by decide +kernel, by decide +kernel⟩, by decide +kernel, by decide +kernel⟩
theorem in_m11_isSign : Cond.instanceMethod yX11_isSign ∈ gtb := gtb_in (tb_7 (List.mem_of_getElem? (i := 128) (by decide +kernel))) rfl
theorem se_m11_isSign : Cond.selects yX11_isSign.cls yX11_isSign yX11_isSign ∈ gtb := gtb_in (List.mem_append_left _ (List.mem_of_getElem? (i := 78) (by decide +kernel))) rfl
abbrev m11_half : MT := (yX11_half, cX11_half, 3, none)
set_option maxRecDepth 100000 in
theorem cv_m11_half : CV m11_half 1 := ⟨gtb_in (tb_7 (List.mem_of_getElem? (i := 132) (by rfl))) rfl, gtb_in (tb_1 (List.mem_of_getElem? (i := 15) (by decide +kernel))) rfl, ⟨by decide +kernel, by decide +kernel⟩, by decide +kernel, by decide +kernel⟩
theorem st_m11_half : Cond.static yX11_half ∈ gtb := gtb_in (tb_7 (List.mem_of_getElem? (i := 131) (by decide +kernel))) rfl
abbrev m11_copyFacts : MT := (yX11_copyFacts, cX11_copyFacts, 5, none)
set_option maxRecDepth 100000 in
theorem cv_m11_copyFacts : CV m11_copyFacts 3 := ⟨gtb_in (tb_7 (List.mem_of_getElem? (i := 136) (by rfl))) rfl, gtb_in (tb_1 (List.mem_of_getElem? (i := 15) (by decide +kernel))) rfl, ⟨by decide +kernel, by decide +kernel⟩, by decide +kernel, by decide +kernel⟩
theorem in_m11_copyFacts : Cond.instanceMethod yX11_copyFacts ∈ gtb := gtb_in (tb_7 (List.mem_of_getElem? (i := 135) (by decide +kernel))) rfl
theorem se_m11_copyFacts : Cond.selects yX11_copyFacts.cls yX11_copyFacts yX11_copyFacts ∈ gtb := gtb_in (List.mem_append_left _ (List.mem_of_getElem? (i := 79) (by decide +kernel))) rfl
abbrev m11_fault : MT := (yX11_fault, cX11_fault, 2, (some .int))
set_option maxRecDepth 100000 in
theorem cv_m11_fault : CV m11_fault 1 := ⟨gtb_in (tb_7 (List.mem_of_getElem? (i := 140) (by rfl))) rfl, gtb_in (tb_1 (List.mem_of_getElem? (i := 15) (by decide +kernel))) rfl, ⟨by decide +kernel, by decide +kernel⟩, by decide +kernel, by decide +kernel⟩
theorem in_m11_fault : Cond.instanceMethod yX11_fault ∈ gtb := gtb_in (tb_7 (List.mem_of_getElem? (i := 138) (by decide +kernel))) rfl
theorem se_m11_fault : Cond.selects yX11_fault.cls yX11_fault yX11_fault ∈ gtb := gtb_in (tb_7 (List.mem_of_getElem? (i := 139) (by decide +kernel))) rfl
abbrev m11_named : MT := (yX11_named, cX11_named, 3, (some .int))
set_option maxRecDepth 100000 in
theorem cv_m11_named : CV m11_named 2 := ⟨gtb_in (tb_7 (List.mem_of_getElem? (i := 144) (by rfl))) rfl, gtb_in (tb_1 (List.mem_of_getElem? (i := 15) (by decide +kernel))) rfl, ⟨by decide +kernel, by decide +kernel⟩, by decide +kernel, by decide +kernel⟩
theorem in_m11_named : Cond.instanceMethod yX11_named ∈ gtb := gtb_in (tb_7 (List.mem_of_getElem? (i := 142) (by decide +kernel))) rfl
theorem se_m11_named : Cond.selects yX11_named.cls yX11_named yX11_named ∈ gtb := gtb_in (tb_7 (List.mem_of_getElem? (i := 143) (by decide +kernel))) rfl
abbrev m11_look : MT := (yX11_look, cX11_look, 6, (some .int))
set_option maxRecDepth 100000 in
theorem cv_m11_look : CV m11_look 2 := ⟨gtb_in (tb_7 (List.mem_of_getElem? (i := 148) (by rfl))) rfl, gtb_in (tb_1 (List.mem_of_getElem? (i := 15) (by decide +kernel))) rfl, ⟨by decide +kernel, by decide +kernel⟩, by decide +kernel, by decide +kernel⟩
theorem in_m11_look : Cond.instanceMethod yX11_look ∈ gtb := gtb_in (tb_7 (List.mem_of_getElem? (i := 146) (by decide +kernel))) rfl
theorem se_m11_look : Cond.selects yX11_look.cls yX11_look yX11_look ∈ gtb := gtb_in (tb_7 (List.mem_of_getElem? (i := 147) (by decide +kernel))) rfl
abbrev m11_isPerson : MT := (yX11_isPerson, cX11_isPerson, 2, (some .boolean))
set_option maxRecDepth 100000 in
theorem cv_m11_isPerson : CV m11_isPerson 1 := ⟨gtb_in (tb_7 (List.mem_of_getElem? (i := 152) (by rfl))) rfl, gtb_in (tb_1 (List.mem_of_getElem? (i := 15) (by decide +kernel))) rfl, ⟨by decide +kernel, by decide +kernel⟩, by decide +kernel, by decide +kernel⟩
theorem in_m11_isPerson : Cond.instanceMethod yX11_isPerson ∈ gtb := gtb_in (tb_7 (List.mem_of_getElem? (i := 151) (by decide +kernel))) rfl
theorem se_m11_isPerson : Cond.selects yX11_isPerson.cls yX11_isPerson yX11_isPerson ∈ gtb := gtb_in (List.mem_append_left _ (List.mem_of_getElem? (i := 80) (by decide +kernel))) rfl
abbrev m11_layNow : MT := (yX11_layNow, cX11_layNow, 2, none)
set_option maxRecDepth 100000 in
theorem cv_m11_layNow : CV m11_layNow 1 := ⟨gtb_in (tb_7 (List.mem_of_getElem? (i := 156) (by rfl))) rfl, gtb_in (tb_1 (List.mem_of_getElem? (i := 15) (by decide +kernel))) rfl, ⟨by decide +kernel, by decide +kernel⟩, by decide +kernel, by decide +kernel⟩
theorem in_m11_layNow : Cond.instanceMethod yX11_layNow ∈ gtb := gtb_in (tb_7 (List.mem_of_getElem? (i := 155) (by decide +kernel))) rfl
theorem se_m11_layNow : Cond.selects yX11_layNow.cls yX11_layNow yX11_layNow ∈ gtb := gtb_in (List.mem_append_left _ (List.mem_of_getElem? (i := 81) (by decide +kernel))) rfl
abbrev m11_stands : MT := (yX11_stands, cX11_stands, 4, (some .int))
set_option maxRecDepth 100000 in
theorem cv_m11_stands : CV m11_stands 3 := ⟨gtb_in (tb_7 (List.mem_of_getElem? (i := 160) (by rfl))) rfl, gtb_in (tb_1 (List.mem_of_getElem? (i := 15) (by decide +kernel))) rfl, ⟨by decide +kernel, by decide +kernel⟩, by decide +kernel, by decide +kernel⟩
theorem in_m11_stands : Cond.instanceMethod yX11_stands ∈ gtb := gtb_in (tb_7 (List.mem_of_getElem? (i := 158) (by decide +kernel))) rfl
theorem se_m11_stands : Cond.selects yX11_stands.cls yX11_stands yX11_stands ∈ gtb := gtb_in (tb_7 (List.mem_of_getElem? (i := 159) (by decide +kernel))) rfl
abbrev m11_areTwo : MT := (yX11_areTwo, cX11_areTwo, 3, (some .boolean))
set_option maxRecDepth 100000 in
theorem cv_m11_areTwo : CV m11_areTwo 2 := ⟨gtb_in (tb_7 (List.mem_of_getElem? (i := 164) (by rfl))) rfl, gtb_in (tb_1 (List.mem_of_getElem? (i := 15) (by decide +kernel))) rfl, ⟨by decide +kernel, by decide +kernel⟩, by decide +kernel, by decide +kernel⟩
theorem in_m11_areTwo : Cond.instanceMethod yX11_areTwo ∈ gtb := gtb_in (tb_7 (List.mem_of_getElem? (i := 163) (by decide +kernel))) rfl
theorem se_m11_areTwo : Cond.selects yX11_areTwo.cls yX11_areTwo yX11_areTwo ∈ gtb := gtb_in (List.mem_append_left _ (List.mem_of_getElem? (i := 82) (by decide +kernel))) rfl
abbrev m11_isSeason : MT := (yX11_isSeason, cX11_isSeason, 1, (some .boolean))
set_option maxRecDepth 100000 in
theorem cv_m11_isSeason : CV m11_isSeason 1 := ⟨gtb_in (tb_7 (List.mem_of_getElem? (i := 167) (by rfl))) rfl, gtb_in (tb_1 (List.mem_of_getElem? (i := 15) (by decide +kernel))) rfl, ⟨by decide +kernel, by decide +kernel⟩, by decide +kernel, by decide +kernel⟩
theorem st_m11_isSeason : Cond.static yX11_isSeason ∈ gtb := gtb_in (tb_7 (List.mem_of_getElem? (i := 166) (by decide +kernel))) rfl
abbrev m11_standsLaid : MT := (yX11_standsLaid, cX11_standsLaid, 3, (some .int))
set_option maxRecDepth 100000 in
theorem cv_m11_standsLaid : CV m11_standsLaid 2 := ⟨gtb_in (tb_7 (List.mem_of_getElem? (i := 171) (by rfl))) rfl, gtb_in (tb_1 (List.mem_of_getElem? (i := 15) (by decide +kernel))) rfl, ⟨by decide +kernel, by decide +kernel⟩, by decide +kernel, by decide +kernel⟩
theorem in_m11_standsLaid : Cond.instanceMethod yX11_standsLaid ∈ gtb := gtb_in (tb_7 (List.mem_of_getElem? (i := 170) (by decide +kernel))) rfl
theorem se_m11_standsLaid : Cond.selects yX11_standsLaid.cls yX11_standsLaid yX11_standsLaid ∈ gtb := gtb_in (List.mem_append_left _ (List.mem_of_getElem? (i := 83) (by decide +kernel))) rfl
abbrev m11_season : MT := (yX11_season, cX11_season, 2, (some .boolean))
set_option maxRecDepth 100000 in
theorem cv_m11_season : CV m11_season 1 := ⟨gtb_in (tb_7 (List.mem_of_getElem? (i := 175) (by rfl))) rfl, gtb_in (tb_1 (List.mem_of_getElem? (i := 15) (by decide +kernel))) rfl, ⟨by decide +kernel, by decide +kernel⟩, by decide +kernel, by decide +kernel⟩
theorem in_m11_season : Cond.instanceMethod yX11_season ∈ gtb := gtb_in (tb_7 (List.mem_of_getElem? (i := 173) (by decide +kernel))) rfl
theorem se_m11_season : Cond.selects yX11_season.cls yX11_season yX11_season ∈ gtb := gtb_in (tb_7 (List.mem_of_getElem? (i := 174) (by decide +kernel))) rfl
abbrev m11_raise : MT := (yX11_raise, cX11_raise, 4, (some .int))
set_option maxRecDepth 100000 in
theorem cv_m11_raise : CV m11_raise 3 := ⟨gtb_in (tb_7 (List.mem_of_getElem? (i := 179) (by rfl))) rfl, gtb_in (tb_1 (List.mem_of_getElem? (i := 15) (by decide +kernel))) rfl, ⟨by decide +kernel, by decide +kernel⟩, by decide +kernel, by decide +kernel⟩
theorem in_m11_raise : Cond.instanceMethod yX11_raise ∈ gtb := gtb_in (tb_7 (List.mem_of_getElem? (i := 177) (by decide +kernel))) rfl
theorem se_m11_raise : Cond.selects yX11_raise.cls yX11_raise yX11_raise ∈ gtb := gtb_in (tb_7 (List.mem_of_getElem? (i := 178) (by decide +kernel))) rfl
abbrev m11_strike : MT := (yX11_strike, cX11_strike, 2, (some .boolean))
set_option maxRecDepth 100000 in
theorem cv_m11_strike : CV m11_strike 1 := ⟨gtb_in (tb_7 (List.mem_of_getElem? (i := 183) (by rfl))) rfl, gtb_in (tb_1 (List.mem_of_getElem? (i := 15) (by decide +kernel))) rfl, ⟨by decide +kernel, by decide +kernel⟩, by decide +kernel, by decide +kernel⟩
theorem in_m11_strike : Cond.instanceMethod yX11_strike ∈ gtb := gtb_in (tb_7 (List.mem_of_getElem? (i := 181) (by decide +kernel))) rfl
theorem se_m11_strike : Cond.selects yX11_strike.cls yX11_strike yX11_strike ∈ gtb := gtb_in (tb_7 (List.mem_of_getElem? (i := 182) (by decide +kernel))) rfl
abbrev m11_isFact : MT := (yX11_isFact, cX11_isFact, 2, (some .boolean))
set_option maxRecDepth 100000 in
theorem cv_m11_isFact : CV m11_isFact 1 := ⟨gtb_in (tb_7 (List.mem_of_getElem? (i := 187) (by rfl))) rfl, gtb_in (tb_1 (List.mem_of_getElem? (i := 15) (by decide +kernel))) rfl, ⟨by decide +kernel, by decide +kernel⟩, by decide +kernel, by decide +kernel⟩
theorem in_m11_isFact : Cond.instanceMethod yX11_isFact ∈ gtb := gtb_in (tb_7 (List.mem_of_getElem? (i := 186) (by decide +kernel))) rfl
theorem se_m11_isFact : Cond.selects yX11_isFact.cls yX11_isFact yX11_isFact ∈ gtb := gtb_in (List.mem_append_left _ (List.mem_of_getElem? (i := 84) (by decide +kernel))) rfl
abbrev m11_fact : MT := (yX11_fact, cX11_fact, 3, (some .int))
set_option maxRecDepth 100000 in
theorem cv_m11_fact : CV m11_fact 2 := ⟨gtb_in (tb_7 (List.mem_of_getElem? (i := 191) (by rfl))) rfl, gtb_in (tb_1 (List.mem_of_getElem? (i := 15) (by decide +kernel))) rfl, ⟨by decide +kernel, by decide +kernel⟩, by decide +kernel, by decide +kernel⟩
theorem in_m11_fact : Cond.instanceMethod yX11_fact ∈ gtb := gtb_in (tb_7 (List.mem_of_getElem? (i := 189) (by decide +kernel))) rfl
theorem se_m11_fact : Cond.selects yX11_fact.cls yX11_fact yX11_fact ∈ gtb := gtb_in (tb_7 (List.mem_of_getElem? (i := 190) (by decide +kernel))) rfl
abbrev m11_ring : MT := (yX11_ring, cX11_ring, 7, (some .int))
set_option maxRecDepth 100000 in
theorem cv_m11_ring : CV m11_ring 3 := ⟨gtb_in (tb_7 (List.mem_of_getElem? (i := 195) (by rfl))) rfl, gtb_in (tb_1 (List.mem_of_getElem? (i := 15) (by decide +kernel))) rfl, ⟨by decide +kernel, by decide +kernel⟩, by decide +kernel, by decide +kernel⟩
theorem in_m11_ring : Cond.instanceMethod yX11_ring ∈ gtb := gtb_in (tb_7 (List.mem_of_getElem? (i := 193) (by decide +kernel))) rfl
theorem se_m11_ring : Cond.selects yX11_ring.cls yX11_ring yX11_ring ∈ gtb := gtb_in (tb_7 (List.mem_of_getElem? (i := 194) (by decide +kernel))) rfl
abbrev m11_isNext : MT := (yX11_isNext, cX11_isNext, 4, (some .boolean))
set_option maxRecDepth 100000 in
theorem cv_m11_isNext : CV m11_isNext 2 := ⟨gtb_in (tb_7 (List.mem_of_getElem? (i := 199) (by rfl))) rfl, gtb_in (tb_1 (List.mem_of_getElem? (i := 15) (by decide +kernel))) rfl, ⟨by decide +kernel, by decide +kernel⟩, by decide +kernel, by decide +kernel⟩
theorem in_m11_isNext : Cond.instanceMethod yX11_isNext ∈ gtb := gtb_in (tb_7 (List.mem_of_getElem? (i := 198) (by decide +kernel))) rfl
theorem se_m11_isNext : Cond.selects yX11_isNext.cls yX11_isNext yX11_isNext ∈ gtb := gtb_in (List.mem_append_left _ (List.mem_of_getElem? (i := 85) (by decide +kernel))) rfl
abbrev m11_say : MT := (yX11_say, cX11_say, 4, (some .int))
set_option maxRecDepth 100000 in
theorem cv_m11_say : CV m11_say 3 := ⟨gtb_in (tb_7 (List.mem_of_getElem? (i := 203) (by rfl))) rfl, gtb_in (tb_1 (List.mem_of_getElem? (i := 15) (by decide +kernel))) rfl, ⟨by decide +kernel, by decide +kernel⟩, by decide +kernel, by decide +kernel⟩
theorem in_m11_say : Cond.instanceMethod yX11_say ∈ gtb := gtb_in (tb_7 (List.mem_of_getElem? (i := 201) (by decide +kernel))) rfl
theorem se_m11_say : Cond.selects yX11_say.cls yX11_say yX11_say ∈ gtb := gtb_in (tb_7 (List.mem_of_getElem? (i := 202) (by decide +kernel))) rfl
abbrev m11_isSaying : MT := (yX11_isSaying, cX11_isSaying, 4, (some .boolean))
set_option maxRecDepth 100000 in
theorem cv_m11_isSaying : CV m11_isSaying 3 := ⟨gtb_in (tb_7 (List.mem_of_getElem? (i := 207) (by rfl))) rfl, gtb_in (tb_1 (List.mem_of_getElem? (i := 15) (by decide +kernel))) rfl, ⟨by decide +kernel, by decide +kernel⟩, by decide +kernel, by decide +kernel⟩
theorem in_m11_isSaying : Cond.instanceMethod yX11_isSaying ∈ gtb := gtb_in (tb_7 (List.mem_of_getElem? (i := 206) (by decide +kernel))) rfl
theorem se_m11_isSaying : Cond.selects yX11_isSaying.cls yX11_isSaying yX11_isSaying ∈ gtb := gtb_in (List.mem_append_left _ (List.mem_of_getElem? (i := 86) (by decide +kernel))) rfl
abbrev m11_right : MT := (yX11_right, cX11_right, 5, (some .int))
set_option maxRecDepth 100000 in
theorem cv_m11_right : CV m11_right 4 := ⟨gtb_in (tb_7 (List.mem_of_getElem? (i := 211) (by rfl))) rfl, gtb_in (tb_1 (List.mem_of_getElem? (i := 15) (by decide +kernel))) rfl, ⟨by decide +kernel, by decide +kernel⟩, by decide +kernel, by decide +kernel⟩
theorem in_m11_right : Cond.instanceMethod yX11_right ∈ gtb := gtb_in (tb_7 (List.mem_of_getElem? (i := 210) (by decide +kernel))) rfl
theorem se_m11_right : Cond.selects yX11_right.cls yX11_right yX11_right ∈ gtb := gtb_in (List.mem_append_left _ (List.mem_of_getElem? (i := 87) (by decide +kernel))) rfl
abbrev m11_callsLaid : MT := (yX11_callsLaid, cX11_callsLaid, 5, none)
set_option maxRecDepth 100000 in
theorem cv_m11_callsLaid : CV m11_callsLaid 4 := ⟨gtb_in (tb_7 (List.mem_of_getElem? (i := 215) (by rfl))) rfl, gtb_in (tb_1 (List.mem_of_getElem? (i := 15) (by decide +kernel))) rfl, ⟨by decide +kernel, by decide +kernel⟩, by decide +kernel, by decide +kernel⟩
theorem in_m11_callsLaid : Cond.instanceMethod yX11_callsLaid ∈ gtb := gtb_in (tb_7 (List.mem_of_getElem? (i := 214) (by decide +kernel))) rfl
theorem se_m11_callsLaid : Cond.selects yX11_callsLaid.cls yX11_callsLaid yX11_callsLaid ∈ gtb := gtb_in (List.mem_append_left _ (List.mem_of_getElem? (i := 88) (by decide +kernel))) rfl
abbrev m11_over : MT := (yX11_over, cX11_over, 3, (some .int))
set_option maxRecDepth 100000 in
theorem cv_m11_over : CV m11_over 2 := ⟨gtb_in (tb_7 (List.mem_of_getElem? (i := 219) (by rfl))) rfl, gtb_in (tb_1 (List.mem_of_getElem? (i := 15) (by decide +kernel))) rfl, ⟨by decide +kernel, by decide +kernel⟩, by decide +kernel, by decide +kernel⟩
theorem in_m11_over : Cond.instanceMethod yX11_over ∈ gtb := gtb_in (tb_7 (List.mem_of_getElem? (i := 218) (by decide +kernel))) rfl
theorem se_m11_over : Cond.selects yX11_over.cls yX11_over yX11_over ∈ gtb := gtb_in (List.mem_append_left _ (List.mem_of_getElem? (i := 89) (by decide +kernel))) rfl
abbrev m11_calls : MT := (yX11_calls, cX11_calls, 8, none)
set_option maxRecDepth 100000 in
theorem cv_m11_calls : CV m11_calls 7 := ⟨gtb_in (tb_7 (List.mem_of_getElem? (i := 223) (by rfl))) rfl, gtb_in (tb_1 (List.mem_of_getElem? (i := 15) (by decide +kernel))) rfl, ⟨by decide +kernel, by decide +kernel⟩, by decide +kernel, by decide +kernel⟩
theorem in_m11_calls : Cond.instanceMethod yX11_calls ∈ gtb := gtb_in (tb_7 (List.mem_of_getElem? (i := 222) (by decide +kernel))) rfl
theorem se_m11_calls : Cond.selects yX11_calls.cls yX11_calls yX11_calls ∈ gtb := gtb_in (List.mem_append_left _ (List.mem_of_getElem? (i := 90) (by decide +kernel))) rfl
abbrev m11_is : MT := (yX11_is, cX11_is, 1, (some .long))
set_option maxRecDepth 100000 in
theorem cv_m11_is : CV m11_is 1 := ⟨gtb_in (tb_7 (List.mem_of_getElem? (i := 226) (by rfl))) rfl, gtb_in (tb_1 (List.mem_of_getElem? (i := 15) (by decide +kernel))) rfl, ⟨by decide +kernel, by decide +kernel⟩, by decide +kernel, by decide +kernel⟩
theorem st_m11_is : Cond.static yX11_is ∈ gtb := gtb_in (tb_7 (List.mem_of_getElem? (i := 225) (by decide +kernel))) rfl
abbrev m11_arrange : MT := (yX11_arrange, cX11_arrange, 4, none)
set_option maxRecDepth 100000 in
theorem cv_m11_arrange : CV m11_arrange 0 := ⟨gtb_in (tb_7 (List.mem_of_getElem? (i := 230) (by rfl))) rfl, gtb_in (tb_1 (List.mem_of_getElem? (i := 15) (by decide +kernel))) rfl, ⟨by decide +kernel, by decide +kernel⟩, by decide +kernel, by decide +kernel⟩
theorem in_m11_arrange : Cond.instanceMethod yX11_arrange ∈ gtb := gtb_in (tb_7 (List.mem_of_getElem? (i := 229) (by decide +kernel))) rfl
theorem se_m11_arrange : Cond.selects yX11_arrange.cls yX11_arrange yX11_arrange ∈ gtb := gtb_in (List.mem_append_left _ (List.mem_of_getElem? (i := 91) (by decide +kernel))) rfl
abbrev m11_goes : MT := (yX11_goes, cX11_goes, 3, (some .boolean))
set_option maxRecDepth 100000 in
theorem cv_m11_goes : CV m11_goes 1 := ⟨gtb_in (tb_7 (List.mem_of_getElem? (i := 234) (by rfl))) rfl, gtb_in (tb_1 (List.mem_of_getElem? (i := 15) (by decide +kernel))) rfl, ⟨by decide +kernel, by decide +kernel⟩, by decide +kernel, by decide +kernel⟩
theorem in_m11_goes : Cond.instanceMethod yX11_goes ∈ gtb := gtb_in (tb_7 (List.mem_of_getElem? (i := 233) (by decide +kernel))) rfl
theorem se_m11_goes : Cond.selects yX11_goes.cls yX11_goes yX11_goes ∈ gtb := gtb_in (List.mem_append_left _ (List.mem_of_getElem? (i := 92) (by decide +kernel))) rfl
abbrev m11_works : MT := (yX11_works, cX11_works, 8, (some .boolean))
set_option maxRecDepth 100000 in
theorem cv_m11_works : CV m11_works 1 := ⟨gtb_in (tb_7 (List.mem_of_getElem? (i := 238) (by rfl))) rfl, gtb_in (tb_1 (List.mem_of_getElem? (i := 15) (by decide +kernel))) rfl, ⟨by decide +kernel, by decide +kernel⟩, by decide +kernel, by decide +kernel⟩
theorem in_m11_works : Cond.instanceMethod yX11_works ∈ gtb := gtb_in (tb_7 (List.mem_of_getElem? (i := 237) (by decide +kernel))) rfl
theorem se_m11_works : Cond.selects yX11_works.cls yX11_works yX11_works ∈ gtb := gtb_in (List.mem_append_left _ (List.mem_of_getElem? (i := 93) (by decide +kernel))) rfl
abbrev m11_rowOf : MT := (yX11_rowOf, cX11_rowOf, 3, (some .int))
set_option maxRecDepth 100000 in
theorem cv_m11_rowOf : CV m11_rowOf 0 := ⟨gtb_in (tb_8 (List.mem_of_getElem? (i := 5) (by rfl))) rfl, gtb_in (tb_1 (List.mem_of_getElem? (i := 15) (by decide +kernel))) rfl, ⟨by decide +kernel, by decide +kernel⟩, by decide +kernel, by decide +kernel⟩
theorem in_m11_rowOf : Cond.instanceMethod yX11_rowOf ∈ gtb := gtb_in (tb_8 (List.mem_of_getElem? (i := 4) (by decide +kernel))) rfl
theorem se_m11_rowOf : Cond.selects yX11_rowOf.cls yX11_rowOf yX11_rowOf ∈ gtb := gtb_in (List.mem_append_left _ (List.mem_of_getElem? (i := 94) (by decide +kernel))) rfl
abbrev m11_place : MT := (yX11_place, cX11_place, 5, (some .long))
set_option maxRecDepth 100000 in
theorem cv_m11_place : CV m11_place 4 := ⟨gtb_in (tb_8 (List.mem_of_getElem? (i := 9) (by rfl))) rfl, gtb_in (tb_1 (List.mem_of_getElem? (i := 15) (by decide +kernel))) rfl, ⟨by decide +kernel, by decide +kernel⟩, by decide +kernel, by decide +kernel⟩
theorem in_m11_place : Cond.instanceMethod yX11_place ∈ gtb := gtb_in (tb_8 (List.mem_of_getElem? (i := 7) (by decide +kernel))) rfl
theorem se_m11_place : Cond.selects yX11_place.cls yX11_place yX11_place ∈ gtb := gtb_in (tb_8 (List.mem_of_getElem? (i := 8) (by decide +kernel))) rfl
abbrev m11_offence : MT := (yX11_offence, cX11_offence, 5, (some .int))
set_option maxRecDepth 100000 in
theorem cv_m11_offence : CV m11_offence 4 := ⟨gtb_in (tb_8 (List.mem_of_getElem? (i := 14) (by rfl))) rfl, gtb_in (tb_1 (List.mem_of_getElem? (i := 15) (by decide +kernel))) rfl, ⟨by decide +kernel, by decide +kernel⟩, by decide +kernel, by decide +kernel⟩
theorem in_m11_offence : Cond.instanceMethod yX11_offence ∈ gtb := gtb_in (tb_8 (List.mem_of_getElem? (i := 12) (by decide +kernel))) rfl
theorem se_m11_offence : Cond.selects yX11_offence.cls yX11_offence yX11_offence ∈ gtb := gtb_in (tb_8 (List.mem_of_getElem? (i := 13) (by decide +kernel))) rfl
abbrev m11_isSaid : MT := (yX11_isSaid, cX11_isSaid, 5, (some .boolean))
set_option maxRecDepth 100000 in
theorem cv_m11_isSaid : CV m11_isSaid 4 := ⟨gtb_in (tb_8 (List.mem_of_getElem? (i := 18) (by rfl))) rfl, gtb_in (tb_1 (List.mem_of_getElem? (i := 15) (by decide +kernel))) rfl, ⟨by decide +kernel, by decide +kernel⟩, by decide +kernel, by decide +kernel⟩
theorem in_m11_isSaid : Cond.instanceMethod yX11_isSaid ∈ gtb := gtb_in (tb_8 (List.mem_of_getElem? (i := 17) (by decide +kernel))) rfl
theorem se_m11_isSaid : Cond.selects yX11_isSaid.cls yX11_isSaid yX11_isSaid ∈ gtb := gtb_in (List.mem_append_left _ (List.mem_of_getElem? (i := 95) (by decide +kernel))) rfl
abbrev m11_isRow : MT := (yX11_isRow, cX11_isRow, 6, (some .boolean))
set_option maxRecDepth 100000 in
theorem cv_m11_isRow : CV m11_isRow 1 := ⟨gtb_in (tb_8 (List.mem_of_getElem? (i := 22) (by rfl))) rfl, gtb_in (tb_1 (List.mem_of_getElem? (i := 15) (by decide +kernel))) rfl, ⟨by decide +kernel, by decide +kernel⟩, by decide +kernel, by decide +kernel⟩
theorem in_m11_isRow : Cond.instanceMethod yX11_isRow ∈ gtb := gtb_in (tb_8 (List.mem_of_getElem? (i := 21) (by decide +kernel))) rfl
theorem se_m11_isRow : Cond.selects yX11_isRow.cls yX11_isRow yX11_isRow ∈ gtb := gtb_in (List.mem_append_left _ (List.mem_of_getElem? (i := 96) (by decide +kernel))) rfl
abbrev m11_wordOf : MT := (yX11_wordOf, cX11_wordOf, 2, (some .int))
set_option maxRecDepth 100000 in
theorem cv_m11_wordOf : CV m11_wordOf 2 := ⟨gtb_in (tb_8 (List.mem_of_getElem? (i := 25) (by rfl))) rfl, gtb_in (tb_1 (List.mem_of_getElem? (i := 15) (by decide +kernel))) rfl, ⟨by decide +kernel, by decide +kernel⟩, by decide +kernel, by decide +kernel⟩
theorem st_m11_wordOf : Cond.static yX11_wordOf ∈ gtb := gtb_in (tb_8 (List.mem_of_getElem? (i := 24) (by decide +kernel))) rfl
abbrev m11_turned : MT := (yX11_turned, cX11_turned, 6, (some .int))
set_option maxRecDepth 100000 in
theorem cv_m11_turned : CV m11_turned 2 := ⟨gtb_in (tb_8 (List.mem_of_getElem? (i := 29) (by rfl))) rfl, gtb_in (tb_1 (List.mem_of_getElem? (i := 15) (by decide +kernel))) rfl, ⟨by decide +kernel, by decide +kernel⟩, by decide +kernel, by decide +kernel⟩
theorem in_m11_turned : Cond.instanceMethod yX11_turned ∈ gtb := gtb_in (tb_8 (List.mem_of_getElem? (i := 28) (by decide +kernel))) rfl
theorem se_m11_turned : Cond.selects yX11_turned.cls yX11_turned yX11_turned ∈ gtb := gtb_in (List.mem_append_left _ (List.mem_of_getElem? (i := 97) (by decide +kernel))) rfl
abbrev m11_placeIn : MT := (yX11_placeIn, cX11_placeIn, 4, (some .int))
set_option maxRecDepth 100000 in
theorem cv_m11_placeIn : CV m11_placeIn 2 := ⟨gtb_in (tb_8 (List.mem_of_getElem? (i := 33) (by rfl))) rfl, gtb_in (tb_1 (List.mem_of_getElem? (i := 15) (by decide +kernel))) rfl, ⟨by decide +kernel, by decide +kernel⟩, by decide +kernel, by decide +kernel⟩
theorem in_m11_placeIn : Cond.instanceMethod yX11_placeIn ∈ gtb := gtb_in (tb_8 (List.mem_of_getElem? (i := 32) (by decide +kernel))) rfl
theorem se_m11_placeIn : Cond.selects yX11_placeIn.cls yX11_placeIn yX11_placeIn ∈ gtb := gtb_in (List.mem_append_left _ (List.mem_of_getElem? (i := 98) (by decide +kernel))) rfl
abbrev m11_amends : MT := (yX11_amends, cX11_amends, 8, (some .int))
set_option maxRecDepth 100000 in
theorem cv_m11_amends : CV m11_amends 4 := ⟨gtb_in (tb_8 (List.mem_of_getElem? (i := 37) (by rfl))) rfl, gtb_in (tb_1 (List.mem_of_getElem? (i := 15) (by decide +kernel))) rfl, ⟨by decide +kernel, by decide +kernel⟩, by decide +kernel, by decide +kernel⟩
theorem in_m11_amends : Cond.instanceMethod yX11_amends ∈ gtb := gtb_in (tb_8 (List.mem_of_getElem? (i := 35) (by decide +kernel))) rfl
theorem se_m11_amends : Cond.selects yX11_amends.cls yX11_amends yX11_amends ∈ gtb := gtb_in (tb_8 (List.mem_of_getElem? (i := 36) (by decide +kernel))) rfl
abbrev m11_stays : MT := (yX11_stays, cX11_stays, 7, (some .boolean))
set_option maxRecDepth 100000 in
theorem cv_m11_stays : CV m11_stays 3 := ⟨gtb_in (tb_8 (List.mem_of_getElem? (i := 41) (by rfl))) rfl, gtb_in (tb_1 (List.mem_of_getElem? (i := 15) (by decide +kernel))) rfl, ⟨by decide +kernel, by decide +kernel⟩, by decide +kernel, by decide +kernel⟩
theorem in_m11_stays : Cond.instanceMethod yX11_stays ∈ gtb := gtb_in (tb_8 (List.mem_of_getElem? (i := 40) (by decide +kernel))) rfl
theorem se_m11_stays : Cond.selects yX11_stays.cls yX11_stays yX11_stays ∈ gtb := gtb_in (List.mem_append_left _ (List.mem_of_getElem? (i := 99) (by decide +kernel))) rfl
abbrev m11_bitsOf : MT := (yX11_bitsOf, cX11_bitsOf, 3, (some .int))
set_option maxRecDepth 100000 in
theorem cv_m11_bitsOf : CV m11_bitsOf 1 := ⟨gtb_in (tb_8 (List.mem_of_getElem? (i := 44) (by rfl))) rfl, gtb_in (tb_1 (List.mem_of_getElem? (i := 15) (by decide +kernel))) rfl, ⟨by decide +kernel, by decide +kernel⟩, by decide +kernel, by decide +kernel⟩
theorem st_m11_bitsOf : Cond.static yX11_bitsOf ∈ gtb := gtb_in (tb_8 (List.mem_of_getElem? (i := 43) (by decide +kernel))) rfl
abbrev m11_hall : MT := (yX11_hall, cX11_hall, 7, (some .int))
set_option maxRecDepth 100000 in
theorem cv_m11_hall : CV m11_hall 4 := ⟨gtb_in (tb_8 (List.mem_of_getElem? (i := 49) (by rfl))) rfl, gtb_in (tb_1 (List.mem_of_getElem? (i := 15) (by decide +kernel))) rfl, ⟨by decide +kernel, by decide +kernel⟩, by decide +kernel, by decide +kernel⟩
theorem in_m11_hall : Cond.instanceMethod yX11_hall ∈ gtb := gtb_in (tb_8 (List.mem_of_getElem? (i := 47) (by decide +kernel))) rfl
theorem se_m11_hall : Cond.selects yX11_hall.cls yX11_hall yX11_hall ∈ gtb := gtb_in (tb_8 (List.mem_of_getElem? (i := 48) (by decide +kernel))) rfl
abbrev m11_clash : MT := (yX11_clash, cX11_clash, 5, (some .int))
set_option maxRecDepth 100000 in
theorem cv_m11_clash : CV m11_clash 2 := ⟨gtb_in (tb_8 (List.mem_of_getElem? (i := 53) (by rfl))) rfl, gtb_in (tb_1 (List.mem_of_getElem? (i := 15) (by decide +kernel))) rfl, ⟨by decide +kernel, by decide +kernel⟩, by decide +kernel, by decide +kernel⟩
theorem in_m11_clash : Cond.instanceMethod yX11_clash ∈ gtb := gtb_in (tb_8 (List.mem_of_getElem? (i := 52) (by decide +kernel))) rfl
theorem se_m11_clash : Cond.selects yX11_clash.cls yX11_clash yX11_clash ∈ gtb := gtb_in (List.mem_append_left _ (List.mem_of_getElem? (i := 100) (by decide +kernel))) rfl
abbrev m11_halls : MT := (yX11_halls, cX11_halls, 6, none)
set_option maxRecDepth 100000 in
theorem cv_m11_halls : CV m11_halls 3 := ⟨gtb_in (tb_8 (List.mem_of_getElem? (i := 57) (by rfl))) rfl, gtb_in (tb_1 (List.mem_of_getElem? (i := 15) (by decide +kernel))) rfl, ⟨by decide +kernel, by decide +kernel⟩, by decide +kernel, by decide +kernel⟩
theorem in_m11_halls : Cond.instanceMethod yX11_halls ∈ gtb := gtb_in (tb_8 (List.mem_of_getElem? (i := 56) (by decide +kernel))) rfl
theorem se_m11_halls : Cond.selects yX11_halls.cls yX11_halls yX11_halls ∈ gtb := gtb_in (List.mem_append_left _ (List.mem_of_getElem? (i := 101) (by decide +kernel))) rfl
abbrev m11_claims : MT := (yX11_claims, cX11_claims, 7, (some .int))
set_option maxRecDepth 100000 in
theorem cv_m11_claims : CV m11_claims 4 := ⟨gtb_in (tb_8 (List.mem_of_getElem? (i := 61) (by rfl))) rfl, gtb_in (tb_1 (List.mem_of_getElem? (i := 15) (by decide +kernel))) rfl, ⟨by decide +kernel, by decide +kernel⟩, by decide +kernel, by decide +kernel⟩
theorem in_m11_claims : Cond.instanceMethod yX11_claims ∈ gtb := gtb_in (tb_8 (List.mem_of_getElem? (i := 59) (by decide +kernel))) rfl
theorem se_m11_claims : Cond.selects yX11_claims.cls yX11_claims yX11_claims ∈ gtb := gtb_in (tb_8 (List.mem_of_getElem? (i := 60) (by decide +kernel))) rfl
abbrev m11_isWay : MT := (yX11_isWay, cX11_isWay, 5, (some .boolean))
set_option maxRecDepth 100000 in
theorem cv_m11_isWay : CV m11_isWay 2 := ⟨gtb_in (tb_8 (List.mem_of_getElem? (i := 64) (by rfl))) rfl, gtb_in (tb_1 (List.mem_of_getElem? (i := 15) (by decide +kernel))) rfl, ⟨by decide +kernel, by decide +kernel⟩, by decide +kernel, by decide +kernel⟩
theorem st_m11_isWay : Cond.static yX11_isWay ∈ gtb := gtb_in (tb_8 (List.mem_of_getElem? (i := 63) (by decide +kernel))) rfl
abbrev m11_canBe : MT := (yX11_canBe, cX11_canBe, 3, (some .boolean))
set_option maxRecDepth 100000 in
theorem cv_m11_canBe : CV m11_canBe 3 := ⟨gtb_in (tb_8 (List.mem_of_getElem? (i := 67) (by rfl))) rfl, gtb_in (tb_1 (List.mem_of_getElem? (i := 15) (by decide +kernel))) rfl, ⟨by decide +kernel, by decide +kernel⟩, by decide +kernel, by decide +kernel⟩
theorem st_m11_canBe : Cond.static yX11_canBe ∈ gtb := gtb_in (tb_8 (List.mem_of_getElem? (i := 66) (by decide +kernel))) rfl
abbrev m11_rightBy : MT := (yX11_rightBy, cX11_rightBy, 5, (some .int))
set_option maxRecDepth 100000 in
theorem cv_m11_rightBy : CV m11_rightBy 4 := ⟨gtb_in (tb_8 (List.mem_of_getElem? (i := 71) (by rfl))) rfl, gtb_in (tb_1 (List.mem_of_getElem? (i := 15) (by decide +kernel))) rfl, ⟨by decide +kernel, by decide +kernel⟩, by decide +kernel, by decide +kernel⟩
theorem in_m11_rightBy : Cond.instanceMethod yX11_rightBy ∈ gtb := gtb_in (tb_8 (List.mem_of_getElem? (i := 70) (by decide +kernel))) rfl
theorem se_m11_rightBy : Cond.selects yX11_rightBy.cls yX11_rightBy yX11_rightBy ∈ gtb := gtb_in (List.mem_append_left _ (List.mem_of_getElem? (i := 102) (by decide +kernel))) rfl
abbrev m11_hear : MT := (yX11_hear, cX11_hear, 6, (some .int))
set_option maxRecDepth 100000 in
theorem cv_m11_hear : CV m11_hear 5 := ⟨gtb_in (tb_8 (List.mem_of_getElem? (i := 75) (by rfl))) rfl, gtb_in (tb_1 (List.mem_of_getElem? (i := 15) (by decide +kernel))) rfl, ⟨by decide +kernel, by decide +kernel⟩, by decide +kernel, by decide +kernel⟩
theorem in_m11_hear : Cond.instanceMethod yX11_hear ∈ gtb := gtb_in (tb_8 (List.mem_of_getElem? (i := 73) (by decide +kernel))) rfl
theorem se_m11_hear : Cond.selects yX11_hear.cls yX11_hear yX11_hear ∈ gtb := gtb_in (tb_8 (List.mem_of_getElem? (i := 74) (by decide +kernel))) rfl
abbrev m11_unhear : MT := (yX11_unhear, cX11_unhear, 2, (some .int))
set_option maxRecDepth 100000 in
theorem cv_m11_unhear : CV m11_unhear 1 := ⟨gtb_in (tb_8 (List.mem_of_getElem? (i := 79) (by rfl))) rfl, gtb_in (tb_1 (List.mem_of_getElem? (i := 15) (by decide +kernel))) rfl, ⟨by decide +kernel, by decide +kernel⟩, by decide +kernel, by decide +kernel⟩
theorem in_m11_unhear : Cond.instanceMethod yX11_unhear ∈ gtb := gtb_in (tb_8 (List.mem_of_getElem? (i := 77) (by decide +kernel))) rfl
theorem se_m11_unhear : Cond.selects yX11_unhear.cls yX11_unhear yX11_unhear ∈ gtb := gtb_in (tb_8 (List.mem_of_getElem? (i := 78) (by decide +kernel))) rfl
abbrev m11_known : MT := (yX11_known, cX11_known, 2, (some .boolean))
set_option maxRecDepth 100000 in
theorem cv_m11_known : CV m11_known 1 := ⟨gtb_in (tb_8 (List.mem_of_getElem? (i := 83) (by rfl))) rfl, gtb_in (tb_1 (List.mem_of_getElem? (i := 15) (by decide +kernel))) rfl, ⟨by decide +kernel, by decide +kernel⟩, by decide +kernel, by decide +kernel⟩
theorem in_m11_known : Cond.instanceMethod yX11_known ∈ gtb := gtb_in (tb_8 (List.mem_of_getElem? (i := 81) (by decide +kernel))) rfl
theorem se_m11_known : Cond.selects yX11_known.cls yX11_known yX11_known ∈ gtb := gtb_in (tb_8 (List.mem_of_getElem? (i := 82) (by decide +kernel))) rfl
abbrev m11_possible : MT := (yX11_possible, cX11_possible, 3, (some .int))
set_option maxRecDepth 100000 in
theorem cv_m11_possible : CV m11_possible 0 := ⟨gtb_in (tb_8 (List.mem_of_getElem? (i := 87) (by rfl))) rfl, gtb_in (tb_1 (List.mem_of_getElem? (i := 15) (by decide +kernel))) rfl, ⟨by decide +kernel, by decide +kernel⟩, by decide +kernel, by decide +kernel⟩
theorem in_m11_possible : Cond.instanceMethod yX11_possible ∈ gtb := gtb_in (tb_8 (List.mem_of_getElem? (i := 85) (by decide +kernel))) rfl
theorem se_m11_possible : Cond.selects yX11_possible.cls yX11_possible yX11_possible ∈ gtb := gtb_in (tb_8 (List.mem_of_getElem? (i := 86) (by decide +kernel))) rfl
abbrev m11_strikes : MT := (yX11_strikes, cX11_strikes, 2, none)
set_option maxRecDepth 100000 in
theorem cv_m11_strikes : CV m11_strikes 0 := ⟨gtb_in (tb_8 (List.mem_of_getElem? (i := 91) (by rfl))) rfl, gtb_in (tb_1 (List.mem_of_getElem? (i := 15) (by decide +kernel))) rfl, ⟨by decide +kernel, by decide +kernel⟩, by decide +kernel, by decide +kernel⟩
theorem in_m11_strikes : Cond.instanceMethod yX11_strikes ∈ gtb := gtb_in (tb_8 (List.mem_of_getElem? (i := 90) (by decide +kernel))) rfl
theorem se_m11_strikes : Cond.selects yX11_strikes.cls yX11_strikes yX11_strikes ∈ gtb := gtb_in (List.mem_append_left _ (List.mem_of_getElem? (i := 103) (by decide +kernel))) rfl
abbrev m11_knownMany : MT := (yX11_knownMany, cX11_knownMany, 1, (some .int))
set_option maxRecDepth 100000 in
theorem cv_m11_knownMany : CV m11_knownMany 0 := ⟨gtb_in (tb_8 (List.mem_of_getElem? (i := 95) (by rfl))) rfl, gtb_in (tb_1 (List.mem_of_getElem? (i := 15) (by decide +kernel))) rfl, ⟨by decide +kernel, by decide +kernel⟩, by decide +kernel, by decide +kernel⟩
theorem in_m11_knownMany : Cond.instanceMethod yX11_knownMany ∈ gtb := gtb_in (tb_8 (List.mem_of_getElem? (i := 94) (by decide +kernel))) rfl
theorem se_m11_knownMany : Cond.selects yX11_knownMany.cls yX11_knownMany yX11_knownMany ∈ gtb := gtb_in (List.mem_append_left _ (List.mem_of_getElem? (i := 104) (by decide +kernel))) rfl
abbrev m11_codes : MT := (yX11_codes, cX11_codes, 3, (some .int))
set_option maxRecDepth 100000 in
theorem cv_m11_codes : CV m11_codes 0 := ⟨gtb_in (tb_8 (List.mem_of_getElem? (i := 99) (by rfl))) rfl, gtb_in (tb_1 (List.mem_of_getElem? (i := 15) (by decide +kernel))) rfl, ⟨by decide +kernel, by decide +kernel⟩, by decide +kernel, by decide +kernel⟩
theorem in_m11_codes : Cond.instanceMethod yX11_codes ∈ gtb := gtb_in (tb_8 (List.mem_of_getElem? (i := 98) (by decide +kernel))) rfl
theorem se_m11_codes : Cond.selects yX11_codes.cls yX11_codes yX11_codes ∈ gtb := gtb_in (List.mem_append_left _ (List.mem_of_getElem? (i := 105) (by decide +kernel))) rfl
abbrev m11_pairs : MT := (yX11_pairs, cX11_pairs, 1, (some .int))
set_option maxRecDepth 100000 in
theorem cv_m11_pairs : CV m11_pairs 0 := ⟨gtb_in (tb_8 (List.mem_of_getElem? (i := 103) (by rfl))) rfl, gtb_in (tb_1 (List.mem_of_getElem? (i := 15) (by decide +kernel))) rfl, ⟨by decide +kernel, by decide +kernel⟩, by decide +kernel, by decide +kernel⟩
theorem in_m11_pairs : Cond.instanceMethod yX11_pairs ∈ gtb := gtb_in (tb_8 (List.mem_of_getElem? (i := 102) (by decide +kernel))) rfl
theorem se_m11_pairs : Cond.selects yX11_pairs.cls yX11_pairs yX11_pairs ∈ gtb := gtb_in (List.mem_append_left _ (List.mem_of_getElem? (i := 106) (by decide +kernel))) rfl
abbrev m11_layCode : MT := (yX11_layCode, cX11_layCode, 7, (some .boolean))
set_option maxRecDepth 100000 in
theorem cv_m11_layCode : CV m11_layCode 1 := ⟨gtb_in (tb_8 (List.mem_of_getElem? (i := 107) (by rfl))) rfl, gtb_in (tb_1 (List.mem_of_getElem? (i := 15) (by decide +kernel))) rfl, ⟨by decide +kernel, by decide +kernel⟩, by decide +kernel, by decide +kernel⟩
theorem in_m11_layCode : Cond.instanceMethod yX11_layCode ∈ gtb := gtb_in (tb_8 (List.mem_of_getElem? (i := 106) (by decide +kernel))) rfl
theorem se_m11_layCode : Cond.selects yX11_layCode.cls yX11_layCode yX11_layCode ∈ gtb := gtb_in (List.mem_append_left _ (List.mem_of_getElem? (i := 107) (by decide +kernel))) rfl
abbrev m11_firstWrong : MT := (yX11_firstWrong, cX11_firstWrong, 2, (some .int))
set_option maxRecDepth 100000 in
theorem cv_m11_firstWrong : CV m11_firstWrong 0 := ⟨gtb_in (tb_8 (List.mem_of_getElem? (i := 111) (by rfl))) rfl, gtb_in (tb_1 (List.mem_of_getElem? (i := 15) (by decide +kernel))) rfl, ⟨by decide +kernel, by decide +kernel⟩, by decide +kernel, by decide +kernel⟩
theorem in_m11_firstWrong : Cond.instanceMethod yX11_firstWrong ∈ gtb := gtb_in (tb_8 (List.mem_of_getElem? (i := 110) (by decide +kernel))) rfl
theorem se_m11_firstWrong : Cond.selects yX11_firstWrong.cls yX11_firstWrong yX11_firstWrong ∈ gtb := gtb_in (List.mem_append_left _ (List.mem_of_getElem? (i := 108) (by decide +kernel))) rfl
abbrev m11_isHeard : MT := (yX11_isHeard, cX11_isHeard, 2, (some .boolean))
set_option maxRecDepth 100000 in
theorem cv_m11_isHeard : CV m11_isHeard 1 := ⟨gtb_in (tb_8 (List.mem_of_getElem? (i := 115) (by rfl))) rfl, gtb_in (tb_1 (List.mem_of_getElem? (i := 15) (by decide +kernel))) rfl, ⟨by decide +kernel, by decide +kernel⟩, by decide +kernel, by decide +kernel⟩
theorem in_m11_isHeard : Cond.instanceMethod yX11_isHeard ∈ gtb := gtb_in (tb_8 (List.mem_of_getElem? (i := 114) (by decide +kernel))) rfl
theorem se_m11_isHeard : Cond.selects yX11_isHeard.cls yX11_isHeard yX11_isHeard ∈ gtb := gtb_in (List.mem_append_left _ (List.mem_of_getElem? (i := 109) (by decide +kernel))) rfl
abbrev m11_sure : MT := (yX11_sure, cX11_sure, 6, (some .int))
set_option maxRecDepth 100000 in
theorem cv_m11_sure : CV m11_sure 2 := ⟨gtb_in (tb_8 (List.mem_of_getElem? (i := 119) (by rfl))) rfl, gtb_in (tb_1 (List.mem_of_getElem? (i := 15) (by decide +kernel))) rfl, ⟨by decide +kernel, by decide +kernel⟩, by decide +kernel, by decide +kernel⟩
theorem in_m11_sure : Cond.instanceMethod yX11_sure ∈ gtb := gtb_in (tb_8 (List.mem_of_getElem? (i := 117) (by decide +kernel))) rfl
theorem se_m11_sure : Cond.selects yX11_sure.cls yX11_sure yX11_sure ∈ gtb := gtb_in (tb_8 (List.mem_of_getElem? (i := 118) (by decide +kernel))) rfl
abbrev m11_cannot : MT := (yX11_cannot, cX11_cannot, 4, (some .int))
set_option maxRecDepth 100000 in
theorem cv_m11_cannot : CV m11_cannot 0 := ⟨gtb_in (tb_8 (List.mem_of_getElem? (i := 123) (by rfl))) rfl, gtb_in (tb_1 (List.mem_of_getElem? (i := 15) (by decide +kernel))) rfl, ⟨by decide +kernel, by decide +kernel⟩, by decide +kernel, by decide +kernel⟩
theorem in_m11_cannot : Cond.instanceMethod yX11_cannot ∈ gtb := gtb_in (tb_8 (List.mem_of_getElem? (i := 121) (by decide +kernel))) rfl
theorem se_m11_cannot : Cond.selects yX11_cannot.cls yX11_cannot yX11_cannot ∈ gtb := gtb_in (tb_8 (List.mem_of_getElem? (i := 122) (by decide +kernel))) rfl
abbrev m11_order : MT := (yX11_order, cX11_order, 6, (some .int))
set_option maxRecDepth 100000 in
theorem cv_m11_order : CV m11_order 3 := ⟨gtb_in (tb_8 (List.mem_of_getElem? (i := 127) (by rfl))) rfl, gtb_in (tb_1 (List.mem_of_getElem? (i := 15) (by decide +kernel))) rfl, ⟨by decide +kernel, by decide +kernel⟩, by decide +kernel, by decide +kernel⟩
theorem in_m11_order : Cond.instanceMethod yX11_order ∈ gtb := gtb_in (tb_8 (List.mem_of_getElem? (i := 125) (by decide +kernel))) rfl
theorem se_m11_order : Cond.selects yX11_order.cls yX11_order yX11_order ∈ gtb := gtb_in (tb_8 (List.mem_of_getElem? (i := 126) (by decide +kernel))) rfl
abbrev m11_letter : MT := (yX11_letter, cX11_letter, 9, (some .int))
set_option maxRecDepth 100000 in
theorem cv_m11_letter : CV m11_letter 3 := ⟨gtb_in (tb_8 (List.mem_of_getElem? (i := 131) (by rfl))) rfl, gtb_in (tb_1 (List.mem_of_getElem? (i := 15) (by decide +kernel))) rfl, ⟨by decide +kernel, by decide +kernel⟩, by decide +kernel, by decide +kernel⟩
theorem in_m11_letter : Cond.instanceMethod yX11_letter ∈ gtb := gtb_in (tb_8 (List.mem_of_getElem? (i := 129) (by decide +kernel))) rfl
theorem se_m11_letter : Cond.selects yX11_letter.cls yX11_letter yX11_letter ∈ gtb := gtb_in (tb_8 (List.mem_of_getElem? (i := 130) (by decide +kernel))) rfl
abbrev m11_silence : MT := (yX11_silence, cX11_silence, 10, (some .int))
set_option maxRecDepth 100000 in
theorem cv_m11_silence : CV m11_silence 4 := ⟨gtb_in (tb_8 (List.mem_of_getElem? (i := 135) (by rfl))) rfl, gtb_in (tb_1 (List.mem_of_getElem? (i := 15) (by decide +kernel))) rfl, ⟨by decide +kernel, by decide +kernel⟩, by decide +kernel, by decide +kernel⟩
theorem in_m11_silence : Cond.instanceMethod yX11_silence ∈ gtb := gtb_in (tb_8 (List.mem_of_getElem? (i := 133) (by decide +kernel))) rfl
theorem se_m11_silence : Cond.selects yX11_silence.cls yX11_silence yX11_silence ∈ gtb := gtb_in (tb_8 (List.mem_of_getElem? (i := 134) (by decide +kernel))) rfl
abbrev m11_isCivil : MT := (yX11_isCivil, cX11_isCivil, 9, (some .boolean))
set_option maxRecDepth 100000 in
theorem cv_m11_isCivil : CV m11_isCivil 7 := ⟨gtb_in (tb_8 (List.mem_of_getElem? (i := 139) (by rfl))) rfl, gtb_in (tb_1 (List.mem_of_getElem? (i := 15) (by decide +kernel))) rfl, ⟨by decide +kernel, by decide +kernel⟩, by decide +kernel, by decide +kernel⟩
theorem in_m11_isCivil : Cond.instanceMethod yX11_isCivil ∈ gtb := gtb_in (tb_8 (List.mem_of_getElem? (i := 138) (by decide +kernel))) rfl
theorem se_m11_isCivil : Cond.selects yX11_isCivil.cls yX11_isCivil yX11_isCivil ∈ gtb := gtb_in (List.mem_append_left _ (List.mem_of_getElem? (i := 110) (by decide +kernel))) rfl
abbrev m11_rise : MT := (yX11_rise, cX11_rise, 10, (some .int))
set_option maxRecDepth 100000 in
theorem cv_m11_rise : CV m11_rise 3 := ⟨gtb_in (tb_8 (List.mem_of_getElem? (i := 143) (by rfl))) rfl, gtb_in (tb_1 (List.mem_of_getElem? (i := 15) (by decide +kernel))) rfl, ⟨by decide +kernel, by decide +kernel⟩, by decide +kernel, by decide +kernel⟩
theorem in_m11_rise : Cond.instanceMethod yX11_rise ∈ gtb := gtb_in (tb_8 (List.mem_of_getElem? (i := 141) (by decide +kernel))) rfl
theorem se_m11_rise : Cond.selects yX11_rise.cls yX11_rise yX11_rise ∈ gtb := gtb_in (tb_8 (List.mem_of_getElem? (i := 142) (by decide +kernel))) rfl
abbrev m11_state : MT := (yX11_state, cX11_state, 4, (some .int))
set_option maxRecDepth 100000 in
theorem cv_m11_state : CV m11_state 1 := ⟨gtb_in (tb_8 (List.mem_of_getElem? (i := 147) (by rfl))) rfl, gtb_in (tb_1 (List.mem_of_getElem? (i := 15) (by decide +kernel))) rfl, ⟨by decide +kernel, by decide +kernel⟩, by decide +kernel, by decide +kernel⟩
theorem in_m11_state : Cond.instanceMethod yX11_state ∈ gtb := gtb_in (tb_8 (List.mem_of_getElem? (i := 146) (by decide +kernel))) rfl
theorem se_m11_state : Cond.selects yX11_state.cls yX11_state yX11_state ∈ gtb := gtb_in (List.mem_append_left _ (List.mem_of_getElem? (i := 111) (by decide +kernel))) rfl
abbrev m11_takes : MT := (yX11_takes, cX11_takes, 4, none)
set_option maxRecDepth 100000 in
theorem cv_m11_takes : CV m11_takes 1 := ⟨gtb_in (tb_8 (List.mem_of_getElem? (i := 151) (by rfl))) rfl, gtb_in (tb_1 (List.mem_of_getElem? (i := 15) (by decide +kernel))) rfl, ⟨by decide +kernel, by decide +kernel⟩, by decide +kernel, by decide +kernel⟩
theorem in_m11_takes : Cond.instanceMethod yX11_takes ∈ gtb := gtb_in (tb_8 (List.mem_of_getElem? (i := 150) (by decide +kernel))) rfl
theorem se_m11_takes : Cond.selects yX11_takes.cls yX11_takes yX11_takes ∈ gtb := gtb_in (List.mem_append_left _ (List.mem_of_getElem? (i := 112) (by decide +kernel))) rfl
abbrev m11_isOver : MT := (yX11_isOver, cX11_isOver, 4, (some .boolean))
set_option maxRecDepth 100000 in
theorem cv_m11_isOver : CV m11_isOver 3 := ⟨gtb_in (tb_8 (List.mem_of_getElem? (i := 155) (by rfl))) rfl, gtb_in (tb_1 (List.mem_of_getElem? (i := 15) (by decide +kernel))) rfl, ⟨by decide +kernel, by decide +kernel⟩, by decide +kernel, by decide +kernel⟩
theorem in_m11_isOver : Cond.instanceMethod yX11_isOver ∈ gtb := gtb_in (tb_8 (List.mem_of_getElem? (i := 154) (by decide +kernel))) rfl
theorem se_m11_isOver : Cond.selects yX11_isOver.cls yX11_isOver yX11_isOver ∈ gtb := gtb_in (List.mem_append_left _ (List.mem_of_getElem? (i := 113) (by decide +kernel))) rfl
abbrev m11_path : MT := (yX11_path, cX11_path, 6, (some .int))
set_option maxRecDepth 100000 in
theorem cv_m11_path : CV m11_path 2 := ⟨gtb_in (tb_8 (List.mem_of_getElem? (i := 159) (by rfl))) rfl, gtb_in (tb_1 (List.mem_of_getElem? (i := 15) (by decide +kernel))) rfl, ⟨by decide +kernel, by decide +kernel⟩, by decide +kernel, by decide +kernel⟩
theorem in_m11_path : Cond.instanceMethod yX11_path ∈ gtb := gtb_in (tb_8 (List.mem_of_getElem? (i := 158) (by decide +kernel))) rfl
theorem se_m11_path : Cond.selects yX11_path.cls yX11_path yX11_path ∈ gtb := gtb_in (List.mem_append_left _ (List.mem_of_getElem? (i := 114) (by decide +kernel))) rfl
abbrev m11_mayRise : MT := (yX11_mayRise, cX11_mayRise, 7, (some .boolean))
set_option maxRecDepth 100000 in
theorem cv_m11_mayRise : CV m11_mayRise 3 := ⟨gtb_in (tb_8 (List.mem_of_getElem? (i := 163) (by rfl))) rfl, gtb_in (tb_1 (List.mem_of_getElem? (i := 15) (by decide +kernel))) rfl, ⟨by decide +kernel, by decide +kernel⟩, by decide +kernel, by decide +kernel⟩
theorem in_m11_mayRise : Cond.instanceMethod yX11_mayRise ∈ gtb := gtb_in (tb_8 (List.mem_of_getElem? (i := 162) (by decide +kernel))) rfl
theorem se_m11_mayRise : Cond.selects yX11_mayRise.cls yX11_mayRise yX11_mayRise ∈ gtb := gtb_in (List.mem_append_left _ (List.mem_of_getElem? (i := 115) (by decide +kernel))) rfl
abbrev m11_changes : MT := (yX11_changes, cX11_changes, 4, none)
set_option maxRecDepth 100000 in
theorem cv_m11_changes : CV m11_changes 2 := ⟨gtb_in (tb_8 (List.mem_of_getElem? (i := 167) (by rfl))) rfl, gtb_in (tb_1 (List.mem_of_getElem? (i := 15) (by decide +kernel))) rfl, ⟨by decide +kernel, by decide +kernel⟩, by decide +kernel, by decide +kernel⟩
theorem in_m11_changes : Cond.instanceMethod yX11_changes ∈ gtb := gtb_in (tb_8 (List.mem_of_getElem? (i := 166) (by decide +kernel))) rfl
theorem se_m11_changes : Cond.selects yX11_changes.cls yX11_changes yX11_changes ∈ gtb := gtb_in (List.mem_append_left _ (List.mem_of_getElem? (i := 116) (by decide +kernel))) rfl
abbrev m11_keep : MT := (yX11_keep, cX11_keep, 1, (some .int))
set_option maxRecDepth 100000 in
theorem cv_m11_keep : CV m11_keep 0 := ⟨gtb_in (tb_8 (List.mem_of_getElem? (i := 171) (by rfl))) rfl, gtb_in (tb_1 (List.mem_of_getElem? (i := 15) (by decide +kernel))) rfl, ⟨by decide +kernel, by decide +kernel⟩, by decide +kernel, by decide +kernel⟩
theorem in_m11_keep : Cond.instanceMethod yX11_keep ∈ gtb := gtb_in (tb_8 (List.mem_of_getElem? (i := 169) (by decide +kernel))) rfl
theorem se_m11_keep : Cond.selects yX11_keep.cls yX11_keep yX11_keep ∈ gtb := gtb_in (tb_8 (List.mem_of_getElem? (i := 170) (by decide +kernel))) rfl
abbrev m11_back : MT := (yX11_back, cX11_back, 1, (some .int))
set_option maxRecDepth 100000 in
theorem cv_m11_back : CV m11_back 0 := ⟨gtb_in (tb_8 (List.mem_of_getElem? (i := 175) (by rfl))) rfl, gtb_in (tb_1 (List.mem_of_getElem? (i := 15) (by decide +kernel))) rfl, ⟨by decide +kernel, by decide +kernel⟩, by decide +kernel, by decide +kernel⟩
theorem in_m11_back : Cond.instanceMethod yX11_back ∈ gtb := gtb_in (tb_8 (List.mem_of_getElem? (i := 173) (by decide +kernel))) rfl
theorem se_m11_back : Cond.selects yX11_back.cls yX11_back yX11_back ∈ gtb := gtb_in (tb_8 (List.mem_of_getElem? (i := 174) (by decide +kernel))) rfl
abbrev m11_count : MT := (yX11_count, cX11_count, 4, (some .int))
set_option maxRecDepth 100000 in
theorem cv_m11_count : CV m11_count 1 := ⟨gtb_in (tb_8 (List.mem_of_getElem? (i := 179) (by rfl))) rfl, gtb_in (tb_1 (List.mem_of_getElem? (i := 15) (by decide +kernel))) rfl, ⟨by decide +kernel, by decide +kernel⟩, by decide +kernel, by decide +kernel⟩
theorem in_m11_count : Cond.instanceMethod yX11_count ∈ gtb := gtb_in (tb_8 (List.mem_of_getElem? (i := 177) (by decide +kernel))) rfl
theorem se_m11_count : Cond.selects yX11_count.cls yX11_count yX11_count ∈ gtb := gtb_in (tb_8 (List.mem_of_getElem? (i := 178) (by decide +kernel))) rfl
theorem lk_L_17 : Cond.methodLink RL 17 yX10_init ∈ gtb := gtb_in (List.mem_of_getElem? (i := 144) (by decide +kernel)) rfl
theorem lk_10_9 : Cond.methodLink RX10 9 yX7_init ∈ gtb := gtb_in (List.mem_of_getElem? (i := 152) (by decide +kernel)) rfl
theorem lk_7_17 : Cond.methodLinkNest RX7 17 yX0_init "CourtTongue" ∈ nstW := List.mem_of_getElem? (i := 0) (by decide +kernel)
theorem lk_0_23 : Cond.methodLinkNest RX0 23 yX3_init "CourtTongue" ∈ nstW := List.mem_of_getElem? (i := 1) (by decide +kernel)
theorem fl_3_9 : lw_tbl[168]? = some (Cond.fieldLink RX3 9 (TX3 0).1 (TX3 0).2.1 (TX3 0).2.2.1) := by decide +kernel
theorem fl_3_15 : lw_tbl[169]? = some (Cond.fieldLink RX3 15 (TX3 1).1 (TX3 1).2.1 (TX3 1).2.2.1) := by decide +kernel
theorem fl_3_18 : lw_tbl[170]? = some (Cond.fieldLink RX3 18 (TX3 2).1 (TX3 2).2.1 (TX3 2).2.2.1) := by decide +kernel
theorem fl_3_21 : lw_tbl[171]? = some (Cond.fieldLink RX3 21 (TX3 3).1 (TX3 3).2.1 (TX3 3).2.2.1) := by decide +kernel
theorem fl_3_25 : lw_tbl[172]? = some (Cond.fieldLink RX3 25 (TX3 4).1 (TX3 4).2.1 (TX3 4).2.2.1) := by decide +kernel
theorem fl_3_29 : lw_tbl[173]? = some (Cond.fieldLink RX3 29 (TX3 5).1 (TX3 5).2.1 (TX3 5).2.2.1) := by decide +kernel
theorem fl_7_236 : lw_tbl[174]? = some (Cond.fieldLink RX7 236 (TX3 5).1 (TX3 5).2.1 (TX3 5).2.2.1) := by decide +kernel
theorem fl_10_328 : lw_tbl[175]? = some (Cond.fieldLink RX10 328 (TX3 5).1 (TX3 5).2.1 (TX3 5).2.2.1) := by decide +kernel
theorem fl_0_9 : lw_tbl[191]? = some (Cond.fieldLink RX0 9 (TX0 0).1 (TX0 0).2.1 (TX0 0).2.2.1) := by decide +kernel
theorem fl_0_15 : lw_tbl[192]? = some (Cond.fieldLink RX0 15 (TX0 1).1 (TX0 1).2.1 (TX0 1).2.2.1) := by decide +kernel
theorem fl_9_22 : lw_tbl[193]? = some (Cond.fieldLink RX9 22 (TX0 1).1 (TX0 1).2.1 (TX0 1).2.2.1) := by decide +kernel
theorem fl_10_148 : lw_tbl[194]? = some (Cond.fieldLink RX10 148 (TX0 1).1 (TX0 1).2.1 (TX0 1).2.2.1) := by decide +kernel
theorem fl_1_100 : lw_tbl[195]? = some (Cond.fieldLink RX1 100 (TX0 1).1 (TX0 1).2.1 (TX0 1).2.2.1) := by decide +kernel
theorem fl_0_28 : lw_tbl[196]? = some (Cond.fieldLink RX0 28 (TX0 2).1 (TX0 2).2.1 (TX0 2).2.2.1) := by decide +kernel
theorem fl_1_74 : lw_tbl[197]? = some (Cond.fieldLink RX1 74 (TX0 2).1 (TX0 2).2.1 (TX0 2).2.2.1) := by decide +kernel
theorem fl_10_141 : lw_tbl[198]? = some (Cond.fieldLink RX10 141 (TX0 2).1 (TX0 2).2.1 (TX0 2).2.2.1) := by decide +kernel
theorem fl_7_127 : lw_tbl[199]? = some (Cond.fieldLink RX7 127 (TX0 2).1 (TX0 2).2.1 (TX0 2).2.2.1) := by decide +kernel
theorem fl_9_95 : lw_tbl[200]? = some (Cond.fieldLink RX9 95 (TX0 2).1 (TX0 2).2.1 (TX0 2).2.2.1) := by decide +kernel
theorem fl_0_18 : lw_tbl[201]? = some (Cond.fieldLink RX0 18 (TX0 3).1 (TX0 3).2.1 (TX0 3).2.2.1) := by decide +kernel
theorem fl_0_32 : lw_tbl[202]? = some (Cond.fieldLink RX0 32 (TX0 4).1 (TX0 4).2.1 (TX0 4).2.2.1) := by decide +kernel
theorem fl_9_45 : lw_tbl[203]? = some (Cond.fieldLink RX9 45 (TX0 4).1 (TX0 4).2.1 (TX0 4).2.2.1) := by decide +kernel
theorem fl_7_104 : lw_tbl[204]? = some (Cond.fieldLink RX7 104 (TX0 4).1 (TX0 4).2.1 (TX0 4).2.2.1) := by decide +kernel
theorem fl_10_227 : lw_tbl[205]? = some (Cond.fieldLink RX10 227 (TX0 4).1 (TX0 4).2.1 (TX0 4).2.2.1) := by decide +kernel
theorem fl_0_24 : lw_tbl[206]? = some (Cond.fieldLink RX0 24 (TX0 5).1 (TX0 5).2.1 (TX0 5).2.2.1) := by decide +kernel
theorem fl_9_49 : lw_tbl[207]? = some (Cond.fieldLink RX9 49 (TX0 5).1 (TX0 5).2.1 (TX0 5).2.2.1) := by decide +kernel
theorem fl_1_107 : lw_tbl[208]? = some (Cond.fieldLink RX1 107 (TX0 5).1 (TX0 5).2.1 (TX0 5).2.2.1) := by decide +kernel
theorem fl_10_232 : lw_tbl[209]? = some (Cond.fieldLink RX10 232 (TX0 5).1 (TX0 5).2.1 (TX0 5).2.2.1) := by decide +kernel
theorem fl_7_197 : lw_tbl[210]? = some (Cond.fieldLink RX7 197 (TX0 5).1 (TX0 5).2.1 (TX0 5).2.2.1) := by decide +kernel
theorem fl_0_38 : lw_tbl[211]? = some (Cond.fieldLink RX0 38 (TX0 6).1 (TX0 6).2.1 (TX0 6).2.2.1) := by decide +kernel
theorem fl_10_102 : lw_tbl[212]? = some (Cond.fieldLink RX10 102 (TX0 6).1 (TX0 6).2.1 (TX0 6).2.2.1) := by decide +kernel
theorem fl_7_182 : lw_tbl[213]? = some (Cond.fieldLink RX7 182 (TX0 6).1 (TX0 6).2.1 (TX0 6).2.2.1) := by decide +kernel
theorem fl_0_41 : lw_tbl[214]? = some (Cond.fieldLink RX0 41 (TX0 7).1 (TX0 7).2.1 (TX0 7).2.2.1) := by decide +kernel
theorem fl_7_178 : lw_tbl[215]? = some (Cond.fieldLink RX7 178 (TX0 7).1 (TX0 7).2.1 (TX0 7).2.2.1) := by decide +kernel
theorem fl_0_45 : lw_tbl[216]? = some (Cond.fieldLink RX0 45 (TX0 8).1 (TX0 8).2.1 (TX0 8).2.2.1) := by decide +kernel
theorem fl_7_185 : lw_tbl[217]? = some (Cond.fieldLink RX7 185 (TX0 8).1 (TX0 8).2.1 (TX0 8).2.2.1) := by decide +kernel
theorem fl_1_96 : lw_tbl[218]? = some (Cond.fieldLink RX1 96 (TX0 8).1 (TX0 8).2.1 (TX0 8).2.2.1) := by decide +kernel
theorem lk_7_24 : Cond.methodLinkNest RX7 24 yX2_init "CourtTongue" ∈ nstW := List.mem_of_getElem? (i := 2) (by decide +kernel)
theorem fl_2_11 : lw_tbl[244]? = some (Cond.fieldLink RX2 11 (TX2 0).1 (TX2 0).2.1 (TX2 0).2.2.1) := by decide +kernel
theorem fl_2_15 : lw_tbl[245]? = some (Cond.fieldLink RX2 15 (TX2 1).1 (TX2 1).2.1 (TX2 1).2.2.1) := by decide +kernel
theorem fl_5_32 : lw_tbl[246]? = some (Cond.fieldLink RX5 32 (TX2 1).1 (TX2 1).2.1 (TX2 1).2.2.1) := by decide +kernel
theorem fl_7_143 : lw_tbl[247]? = some (Cond.fieldLink RX7 143 (TX2 1).1 (TX2 1).2.1 (TX2 1).2.2.1) := by decide +kernel
theorem fl_10_181 : lw_tbl[248]? = some (Cond.fieldLink RX10 181 (TX2 1).1 (TX2 1).2.1 (TX2 1).2.2.1) := by decide +kernel
theorem lk_7_35 : Cond.methodLinkNest RX7 35 yX5_init "CourtTongue" ∈ nstW := List.mem_of_getElem? (i := 3) (by decide +kernel)
theorem fl_5_9 : lw_tbl[260]? = some (Cond.fieldLink RX5 9 (TX5 0).1 (TX5 0).2.1 (TX5 0).2.2.1) := by decide +kernel
theorem fl_5_15 : lw_tbl[261]? = some (Cond.fieldLink RX5 15 (TX5 1).1 (TX5 1).2.1 (TX5 1).2.2.1) := by decide +kernel
theorem fl_5_18 : lw_tbl[262]? = some (Cond.fieldLink RX5 18 (TX5 2).1 (TX5 2).2.1 (TX5 2).2.2.1) := by decide +kernel
theorem fl_5_21 : lw_tbl[263]? = some (Cond.fieldLink RX5 21 (TX5 3).1 (TX5 3).2.1 (TX5 3).2.2.1) := by decide +kernel
theorem fl_5_24 : lw_tbl[264]? = some (Cond.fieldLink RX5 24 (TX5 4).1 (TX5 4).2.1 (TX5 4).2.2.1) := by decide +kernel
theorem lk_7_46 : Cond.methodLink RX7 46 yX7_lettersOf ∈ gtb := gtb_in (List.mem_of_getElem? (i := 276) (by decide +kernel)) rfl
theorem lk_7_50 : Cond.methodLinkNest RX7 50 yX10_put "CourtTongue" ∈ nstW := List.mem_of_getElem? (i := 4) (by decide +kernel)
theorem fl_7_9 : lw_tbl[331]? = some (Cond.fieldLink RX7 9 (TX7 0).1 (TX7 0).2.1 (TX7 0).2.2.1) := by decide +kernel
theorem fl_10_338 : lw_tbl[332]? = some (Cond.fieldLink RX10 338 (TX7 0).1 (TX7 0).2.1 (TX7 0).2.2.1) := by decide +kernel
theorem fl_7_18 : lw_tbl[333]? = some (Cond.fieldLink RX7 18 (TX7 1).1 (TX7 1).2.1 (TX7 1).2.2.1) := by decide +kernel
theorem fl_10_89 : lw_tbl[334]? = some (Cond.fieldLink RX10 89 (TX7 1).1 (TX7 1).2.1 (TX7 1).2.2.1) := by decide +kernel
theorem fl_7_25 : lw_tbl[335]? = some (Cond.fieldLink RX7 25 (TX7 2).1 (TX7 2).2.1 (TX7 2).2.2.1) := by decide +kernel
theorem fl_10_96 : lw_tbl[336]? = some (Cond.fieldLink RX10 96 (TX7 2).1 (TX7 2).2.1 (TX7 2).2.2.1) := by decide +kernel
theorem fl_7_70 : lw_tbl[337]? = some (Cond.fieldLink RX7 70 (TX7 3).1 (TX7 3).2.1 (TX7 3).2.2.1) := by decide +kernel
theorem fl_10_118 : lw_tbl[338]? = some (Cond.fieldLink RX10 118 (TX7 3).1 (TX7 3).2.1 (TX7 3).2.2.1) := by decide +kernel
theorem fl_7_73 : lw_tbl[339]? = some (Cond.fieldLink RX7 73 (TX7 4).1 (TX7 4).2.1 (TX7 4).2.2.1) := by decide +kernel
theorem fl_10_86 : lw_tbl[340]? = some (Cond.fieldLink RX10 86 (TX7 4).1 (TX7 4).2.1 (TX7 4).2.2.1) := by decide +kernel
theorem fl_7_29 : lw_tbl[341]? = some (Cond.fieldLink RX7 29 (TX7 5).1 (TX7 5).2.1 (TX7 5).2.2.1) := by decide +kernel
theorem fl_10_121 : lw_tbl[342]? = some (Cond.fieldLink RX10 121 (TX7 5).1 (TX7 5).2.1 (TX7 5).2.2.1) := by decide +kernel
theorem fl_7_36 : lw_tbl[343]? = some (Cond.fieldLink RX7 36 (TX7 6).1 (TX7 6).2.1 (TX7 6).2.2.1) := by decide +kernel
theorem fl_7_40 : lw_tbl[344]? = some (Cond.fieldLink RX7 40 (TX7 7).1 (TX7 7).2.1 (TX7 7).2.2.1) := by decide +kernel
theorem fl_7_43 : lw_tbl[345]? = some (Cond.fieldLink RX7 43 (TX7 8).1 (TX7 8).2.1 (TX7 8).2.2.1) := by decide +kernel
theorem fl_7_188 : lw_tbl[346]? = some (Cond.fieldLink RX7 188 (TX7 9).1 (TX7 9).2.1 (TX7 9).2.2.1) := by decide +kernel
theorem fl_7_191 : lw_tbl[347]? = some (Cond.fieldLink RX7 191 (TX7 10).1 (TX7 10).2.1 (TX7 10).2.2.1) := by decide +kernel
theorem fl_7_194 : lw_tbl[348]? = some (Cond.fieldLink RX7 194 (TX7 11).1 (TX7 11).2.1 (TX7 11).2.2.1) := by decide +kernel
theorem fl_7_76 : lw_tbl[349]? = some (Cond.fieldLink RX7 76 (TX7 12).1 (TX7 12).2.1 (TX7 12).2.2.1) := by decide +kernel
theorem fl_7_78 : lw_tbl[350]? = some (Cond.fieldLink RX7 78 (TX7 13).1 (TX7 13).2.1 (TX7 13).2.2.1) := by decide +kernel
theorem fl_7_149 : lw_tbl[351]? = some (Cond.fieldLink RX7 149 (TX7 14).1 (TX7 14).2.1 (TX7 14).2.2.1) := by decide +kernel
theorem fl_7_84 : lw_tbl[352]? = some (Cond.fieldLink RX7 84 (TX7 15).1 (TX7 15).2.1 (TX7 15).2.2.1) := by decide +kernel
theorem fl_7_87 : lw_tbl[353]? = some (Cond.fieldLink RX7 87 (TX7 16).1 (TX7 16).2.1 (TX7 16).2.2.1) := by decide +kernel
theorem fl_7_124 : lw_tbl[354]? = some (Cond.fieldLink RX7 124 (TX7 17).1 (TX7 17).2.1 (TX7 17).2.2.1) := by decide +kernel
theorem lk_10_18 : Cond.methodLinkNest RX10 18 yX0_init "CourtTongue" ∈ nstW := List.mem_of_getElem? (i := 5) (by decide +kernel)
theorem lk_10_25 : Cond.methodLinkNest RX10 25 yX2_init "CourtTongue" ∈ nstW := List.mem_of_getElem? (i := 6) (by decide +kernel)
theorem lk_10_35 : Cond.methodLinkNest RX10 35 yX5_init "CourtTongue" ∈ nstW := List.mem_of_getElem? (i := 7) (by decide +kernel)
theorem lk_10_42 : Cond.methodLinkNest RX10 42 yX9_init "CourtTongue" ∈ nstW := List.mem_of_getElem? (i := 8) (by decide +kernel)
theorem fl_9_9 : lw_tbl[405]? = some (Cond.fieldLink RX9 9 (TX9 0).1 (TX9 0).2.1 (TX9 0).2.2.1) := by decide +kernel
theorem fl_10_236 : lw_tbl[406]? = some (Cond.fieldLink RX10 236 (TX9 0).1 (TX9 0).2.1 (TX9 0).2.2.1) := by decide +kernel
theorem fl_9_15 : lw_tbl[407]? = some (Cond.fieldLink RX9 15 (TX9 1).1 (TX9 1).2.1 (TX9 1).2.2.1) := by decide +kernel
theorem fl_9_19 : lw_tbl[408]? = some (Cond.fieldLink RX9 19 (TX9 2).1 (TX9 2).2.1 (TX9 2).2.2.1) := by decide +kernel
theorem lk_10_49 : Cond.methodLinkNest RX10 49 yX4_init "CourtTongue" ∈ nstW := List.mem_of_getElem? (i := 9) (by decide +kernel)
theorem fl_4_9 : lw_tbl[422]? = some (Cond.fieldLink RX4 9 (TX4 0).1 (TX4 0).2.1 (TX4 0).2.2.1) := by decide +kernel
theorem fl_4_15 : lw_tbl[423]? = some (Cond.fieldLink RX4 15 (TX4 1).1 (TX4 1).2.1 (TX4 1).2.2.1) := by decide +kernel
theorem fl_4_18 : lw_tbl[424]? = some (Cond.fieldLink RX4 18 (TX4 2).1 (TX4 2).2.1 (TX4 2).2.2.1) := by decide +kernel
theorem fl_4_21 : lw_tbl[425]? = some (Cond.fieldLink RX4 21 (TX4 3).1 (TX4 3).2.1 (TX4 3).2.2.1) := by decide +kernel
theorem fl_4_24 : lw_tbl[426]? = some (Cond.fieldLink RX4 24 (TX4 4).1 (TX4 4).2.1 (TX4 4).2.2.1) := by decide +kernel
theorem fl_4_31 : lw_tbl[427]? = some (Cond.fieldLink RX4 31 (TX4 5).1 (TX4 5).2.1 (TX4 5).2.2.1) := by decide +kernel
theorem fl_10_276 : lw_tbl[428]? = some (Cond.fieldLink RX10 276 (TX4 5).1 (TX4 5).2.1 (TX4 5).2.2.1) := by decide +kernel
theorem fl_4_27 : lw_tbl[429]? = some (Cond.fieldLink RX4 27 (TX4 6).1 (TX4 6).2.1 (TX4 6).2.2.1) := by decide +kernel
theorem fl_10_288 : lw_tbl[430]? = some (Cond.fieldLink RX10 288 (TX4 6).1 (TX4 6).2.1 (TX4 6).2.2.1) := by decide +kernel
theorem lk_10_56 : Cond.methodLinkNest RX10 56 yX6_init "CourtTongue" ∈ nstW := List.mem_of_getElem? (i := 10) (by decide +kernel)
theorem fl_6_39 : lw_tbl[452]? = some (Cond.fieldLink RX6 39 (TX6 0).1 (TX6 0).2.1 (TX6 0).2.2.1) := by decide +kernel
theorem fl_10_295 : lw_tbl[453]? = some (Cond.fieldLink RX10 295 (TX6 0).1 (TX6 0).2.1 (TX6 0).2.2.1) := by decide +kernel
theorem fl_6_11 : lw_tbl[454]? = some (Cond.fieldLink RX6 11 (TX6 1).1 (TX6 1).2.1 (TX6 1).2.2.1) := by decide +kernel
theorem fl_6_15 : lw_tbl[455]? = some (Cond.fieldLink RX6 15 (TX6 2).1 (TX6 2).2.1 (TX6 2).2.2.1) := by decide +kernel
theorem fl_6_19 : lw_tbl[456]? = some (Cond.fieldLink RX6 19 (TX6 3).1 (TX6 3).2.1 (TX6 3).2.2.1) := by decide +kernel
theorem fl_6_22 : lw_tbl[457]? = some (Cond.fieldLink RX6 22 (TX6 4).1 (TX6 4).2.1 (TX6 4).2.2.1) := by decide +kernel
theorem fl_6_32 : lw_tbl[458]? = some (Cond.fieldLink RX6 32 (TX6 5).1 (TX6 5).2.1 (TX6 5).2.2.1) := by decide +kernel
theorem lk_10_63 : Cond.methodLinkNest RX10 63 yX1_init "CourtTongue" ∈ nstW := List.mem_of_getElem? (i := 11) (by decide +kernel)
theorem fl_1_11 : lw_tbl[478]? = some (Cond.fieldLink RX1 11 (TX1 0).1 (TX1 0).2.1 (TX1 0).2.2.1) := by decide +kernel
theorem fl_1_15 : lw_tbl[479]? = some (Cond.fieldLink RX1 15 (TX1 1).1 (TX1 1).2.1 (TX1 1).2.2.1) := by decide +kernel
theorem fl_1_18 : lw_tbl[480]? = some (Cond.fieldLink RX1 18 (TX1 2).1 (TX1 2).2.1 (TX1 2).2.2.1) := by decide +kernel
theorem fl_1_21 : lw_tbl[481]? = some (Cond.fieldLink RX1 21 (TX1 3).1 (TX1 3).2.1 (TX1 3).2.2.1) := by decide +kernel
theorem fl_1_24 : lw_tbl[482]? = some (Cond.fieldLink RX1 24 (TX1 4).1 (TX1 4).2.1 (TX1 4).2.2.1) := by decide +kernel
theorem fl_1_28 : lw_tbl[483]? = some (Cond.fieldLink RX1 28 (TX1 5).1 (TX1 5).2.1 (TX1 5).2.2.1) := by decide +kernel
theorem fl_1_45 : lw_tbl[484]? = some (Cond.fieldLink RX1 45 (TX1 6).1 (TX1 6).2.1 (TX1 6).2.2.1) := by decide +kernel
theorem fl_1_48 : lw_tbl[485]? = some (Cond.fieldLink RX1 48 (TX1 7).1 (TX1 7).2.1 (TX1 7).2.2.1) := by decide +kernel
theorem fl_1_41 : lw_tbl[486]? = some (Cond.fieldLink RX1 41 (TX1 8).1 (TX1 8).2.1 (TX1 8).2.2.1) := by decide +kernel
theorem fl_10_10 : lw_tbl[507]? = some (Cond.fieldLink RX10 10 (TX10 0).1 (TX10 0).2.1 (TX10 0).2.2.1) := by decide +kernel
theorem fl_10_68 : lw_tbl[508]? = some (Cond.fieldLink RX10 68 (TX10 1).1 (TX10 1).2.1 (TX10 1).2.2.1) := by decide +kernel
theorem fl_10_19 : lw_tbl[509]? = some (Cond.fieldLink RX10 19 (TX10 2).1 (TX10 2).2.1 (TX10 2).2.2.1) := by decide +kernel
theorem fl_10_26 : lw_tbl[510]? = some (Cond.fieldLink RX10 26 (TX10 3).1 (TX10 3).2.1 (TX10 3).2.2.1) := by decide +kernel
theorem fl_10_105 : lw_tbl[511]? = some (Cond.fieldLink RX10 105 (TX10 4).1 (TX10 4).2.1 (TX10 4).2.2.1) := by decide +kernel
theorem fl_10_30 : lw_tbl[512]? = some (Cond.fieldLink RX10 30 (TX10 5).1 (TX10 5).2.1 (TX10 5).2.2.1) := by decide +kernel
theorem fl_10_325 : lw_tbl[513]? = some (Cond.fieldLink RX10 325 (TX10 6).1 (TX10 6).2.1 (TX10 6).2.2.1) := by decide +kernel
theorem fl_10_114 : lw_tbl[514]? = some (Cond.fieldLink RX10 114 (TX10 7).1 (TX10 7).2.1 (TX10 7).2.2.1) := by decide +kernel
theorem fl_10_36 : lw_tbl[515]? = some (Cond.fieldLink RX10 36 (TX10 8).1 (TX10 8).2.1 (TX10 8).2.2.1) := by decide +kernel
theorem fl_10_43 : lw_tbl[516]? = some (Cond.fieldLink RX10 43 (TX10 9).1 (TX10 9).2.1 (TX10 9).2.2.1) := by decide +kernel
theorem fl_10_50 : lw_tbl[517]? = some (Cond.fieldLink RX10 50 (TX10 10).1 (TX10 10).2.1 (TX10 10).2.2.1) := by decide +kernel
theorem fl_10_57 : lw_tbl[518]? = some (Cond.fieldLink RX10 57 (TX10 11).1 (TX10 11).2.1 (TX10 11).2.2.1) := by decide +kernel
theorem fl_10_64 : lw_tbl[519]? = some (Cond.fieldLink RX10 64 (TX10 12).1 (TX10 12).2.1 (TX10 12).2.2.1) := by decide +kernel
theorem lk_L_21 : Cond.methodLink RL 21 yX10_feed ∈ gtb := gtb_in (List.mem_of_getElem? (i := 547) (by decide +kernel)) rfl
theorem lk_10_72 : Cond.methodLink RX10 72 yX10_layBytes ∈ gtb := gtb_in (List.mem_of_getElem? (i := 551) (by decide +kernel)) rfl
theorem lk_10_341 : Cond.methodLink RX10 341 yX10_put ∈ gtb := gtb_in (List.mem_of_getElem? (i := 555) (by decide +kernel)) rfl
theorem lk_L_26 : Cond.methodLink RL 26 yX10_text ∈ gtb := gtb_in (List.mem_of_getElem? (i := 556) (by decide +kernel)) rfl
theorem lk_10_76 : Cond.methodLink RX10 76 yX7_open ∈ gtb := gtb_in (List.mem_of_getElem? (i := 560) (by decide +kernel)) rfl
theorem lk_7_66 : Cond.methodLink RX7 66 yX0_clear ∈ gtb := gtb_in (List.mem_of_getElem? (i := 564) (by decide +kernel)) rfl
theorem lk_0_35 : Cond.methodLink RX0 35 yX3_clear ∈ gtb := gtb_in (List.mem_of_getElem? (i := 568) (by decide +kernel)) rfl
theorem lk_7_69 : Cond.methodLink RX7 69 yX2_clear ∈ gtb := gtb_in (List.mem_of_getElem? (i := 572) (by decide +kernel)) rfl
theorem lk_7_81 : Cond.methodLink RX7 81 yX7_next ∈ gtb := gtb_in (List.mem_of_getElem? (i := 576) (by decide +kernel)) rfl
theorem lk_7_239 : Cond.methodLinkNest RX7 239 yX10_at "CourtTongue" ∈ nstW := List.mem_of_getElem? (i := 12) (by decide +kernel)
theorem lk_7_243 : Cond.methodLink RX7 243 yX7_isBlank ∈ gtb := gtb_in (List.mem_of_getElem? (i := 583) (by decide +kernel)) rfl
theorem lk_7_246 : Cond.methodLink RX7 246 yX7_isLetter ∈ gtb := gtb_in (List.mem_of_getElem? (i := 586) (by decide +kernel)) rfl
theorem lk_7_249 : Cond.methodLink RX7 249 yX7_scanWord ∈ gtb := gtb_in (List.mem_of_getElem? (i := 589) (by decide +kernel)) rfl
theorem lk_7_90 : Cond.methodLink RX7 90 yX7_languageWord ∈ gtb := gtb_in (List.mem_of_getElem? (i := 593) (by decide +kernel)) rfl
theorem lk_7_261 : Cond.methodLink RX7 261 yX7_knotOfWord ∈ gtb := gtb_in (List.mem_of_getElem? (i := 597) (by decide +kernel)) rfl
theorem lk_7_252 : Cond.methodLink RX7 252 yX7_isDigit ∈ gtb := gtb_in (List.mem_of_getElem? (i := 600) (by decide +kernel)) rfl
theorem lk_7_255 : Cond.methodLink RX7 255 yX7_scanNumber ∈ gtb := gtb_in (List.mem_of_getElem? (i := 603) (by decide +kernel)) rfl
theorem lk_7_258 : Cond.methodLink RX7 258 yX7_scanSign ∈ gtb := gtb_in (List.mem_of_getElem? (i := 611) (by decide +kernel)) rfl
theorem lk_7_271 : Cond.methodLink RX7 271 yX7_knotOfSign ∈ gtb := gtb_in (List.mem_of_getElem? (i := 615) (by decide +kernel)) rfl
theorem lk_10_79 : Cond.methodLink RX10 79 yX7_isGoing ∈ gtb := gtb_in (List.mem_of_getElem? (i := 618) (by decide +kernel)) rfl
theorem lk_10_83 : Cond.methodLink RX10 83 yX7_readLine ∈ gtb := gtb_in (List.mem_of_getElem? (i := 622) (by decide +kernel)) rfl
theorem lk_7_93 : Cond.methodLink RX7 93 yX7_readPerson ∈ gtb := gtb_in (List.mem_of_getElem? (i := 626) (by decide +kernel)) rfl
theorem lk_7_118 : Cond.methodLink RX7 118 yX7_fail ∈ gtb := gtb_in (List.mem_of_getElem? (i := 630) (by decide +kernel)) rfl
theorem lk_7_130 : Cond.methodLink RX7 130 yX7_isName ∈ gtb := gtb_in (List.mem_of_getElem? (i := 634) (by decide +kernel)) rfl
theorem lk_7_133 : Cond.methodLink RX7 133 yX0_personNamed ∈ gtb := gtb_in (List.mem_of_getElem? (i := 638) (by decide +kernel)) rfl
theorem lk_0_58 : Cond.methodLink RX0 58 yX0_numberOf ∈ gtb := gtb_in (List.mem_of_getElem? (i := 642) (by decide +kernel)) rfl
theorem lk_0_62 : Cond.methodLinkNest RX0 62 yX10_at "CourtTongue" ∈ nstW := List.mem_of_getElem? (i := 13) (by decide +kernel)
theorem lk_7_136 : Cond.methodLink RX7 136 yX7_readNumber ∈ gtb := gtb_in (List.mem_of_getElem? (i := 646) (by decide +kernel)) rfl
theorem lk_7_139 : Cond.methodLink RX7 139 yX0_addPerson ∈ gtb := gtb_in (List.mem_of_getElem? (i := 650) (by decide +kernel)) rfl
theorem lk_0_66 : Cond.methodLinkNest RX0 66 yX10_put "CourtTongue" ∈ nstW := List.mem_of_getElem? (i := 14) (by decide +kernel)
theorem lk_7_97 : Cond.methodLink RX7 97 yX7_readFact ∈ gtb := gtb_in (List.mem_of_getElem? (i := 655) (by decide +kernel)) rfl
theorem lk_7_146 : Cond.methodLink RX7 146 yX7_personHere ∈ gtb := gtb_in (List.mem_of_getElem? (i := 659) (by decide +kernel)) rfl
theorem lk_7_152 : Cond.methodLink RX7 152 yX7_isWord ∈ gtb := gtb_in (List.mem_of_getElem? (i := 663) (by decide +kernel)) rfl
theorem lk_7_155 : Cond.methodLink RX7 155 yX2_tells ∈ gtb := gtb_in (List.mem_of_getElem? (i := 667) (by decide +kernel)) rfl
theorem lk_2_33 : Cond.methodLink RX2 33 yX2_lives ∈ gtb := gtb_in (List.mem_of_getElem? (i := 671) (by decide +kernel)) rfl
theorem lk_2_25 : Cond.methodLinkNest RX2 25 yX10_at "CourtTongue" ∈ nstW := List.mem_of_getElem? (i := 15) (by decide +kernel)
theorem lk_2_37 : Cond.methodLink RX2 37 yX2_cell ∈ gtb := gtb_in (List.mem_of_getElem? (i := 676) (by decide +kernel)) rfl
theorem lk_2_41 : Cond.methodLink RX2 41 yX2_isOfTwo ∈ gtb := gtb_in (List.mem_of_getElem? (i := 680) (by decide +kernel)) rfl
theorem lk_2_45 : Cond.methodLink RX2 45 yX2_isLevel ∈ gtb := gtb_in (List.mem_of_getElem? (i := 684) (by decide +kernel)) rfl
theorem lk_7_159 : Cond.methodLink RX7 159 yX7_failAt ∈ gtb := gtb_in (List.mem_of_getElem? (i := 688) (by decide +kernel)) rfl
theorem lk_7_163 : Cond.methodLink RX7 163 yX2_add ∈ gtb := gtb_in (List.mem_of_getElem? (i := 692) (by decide +kernel)) rfl
theorem lk_2_29 : Cond.methodLinkNest RX2 29 yX10_put "CourtTongue" ∈ nstW := List.mem_of_getElem? (i := 16) (by decide +kernel)
theorem lk_7_167 : Cond.methodLink RX7 167 yX5_bendsInSomeSeason ∈ gtb := gtb_in (List.mem_of_getElem? (i := 697) (by decide +kernel)) rfl
theorem lk_5_75 : Cond.methodLink RX5 75 yX5_build ∈ gtb := gtb_in (List.mem_of_getElem? (i := 701) (by decide +kernel)) rfl
theorem lk_5_28 : Cond.methodLinkNest RX5 28 yX10_put "CourtTongue" ∈ nstW := List.mem_of_getElem? (i := 17) (by decide +kernel)
theorem lk_5_37 : Cond.methodLink RX5 37 yX2_lives ∈ gtb := gtb_in (List.mem_of_getElem? (i := 706) (by decide +kernel)) rfl
theorem lk_5_41 : Cond.methodLink RX5 41 yX2_isLevel ∈ gtb := gtb_in (List.mem_of_getElem? (i := 707) (by decide +kernel)) rfl
theorem lk_5_44 : Cond.methodLink RX5 44 yX2_cell ∈ gtb := gtb_in (List.mem_of_getElem? (i := 708) (by decide +kernel)) rfl
theorem lk_5_48 : Cond.methodLink RX5 48 yX5_makeLevel ∈ gtb := gtb_in (List.mem_of_getElem? (i := 709) (by decide +kernel)) rfl
theorem lk_5_62 : Cond.methodLinkNest RX5 62 yX10_at "CourtTongue" ∈ nstW := List.mem_of_getElem? (i := 18) (by decide +kernel)
theorem lk_5_52 : Cond.methodLink RX5 52 yX2_isOf ∈ gtb := gtb_in (List.mem_of_getElem? (i := 714) (by decide +kernel)) rfl
theorem lk_5_56 : Cond.methodLink RX5 56 yX5_putAbove ∈ gtb := gtb_in (List.mem_of_getElem? (i := 718) (by decide +kernel)) rfl
theorem lk_5_59 : Cond.methodLink RX5 59 yX5_goOn ∈ gtb := gtb_in (List.mem_of_getElem? (i := 722) (by decide +kernel)) rfl
theorem lk_5_72 : Cond.methodLink RX5 72 yX5_isAbove ∈ gtb := gtb_in (List.mem_of_getElem? (i := 729) (by decide +kernel)) rfl
theorem lk_7_101 : Cond.methodLink RX7 101 yX7_readPartName ∈ gtb := gtb_in (List.mem_of_getElem? (i := 733) (by decide +kernel)) rfl
theorem lk_7_171 : Cond.methodLink RX7 171 yX0_partNamed ∈ gtb := gtb_in (List.mem_of_getElem? (i := 737) (by decide +kernel)) rfl
theorem lk_7_174 : Cond.methodLink RX7 174 yX0_addPart ∈ gtb := gtb_in (List.mem_of_getElem? (i := 741) (by decide +kernel)) rfl
theorem lk_7_107 : Cond.methodLink RX7 107 yX7_readFormula ∈ gtb := gtb_in (List.mem_of_getElem? (i := 745) (by decide +kernel)) rfl
theorem lk_7_201 : Cond.methodLink RX7 201 yX3_begin ∈ gtb := gtb_in (List.mem_of_getElem? (i := 749) (by decide +kernel)) rfl
theorem lk_3_38 : Cond.methodLinkNest RX3 38 yX10_put "CourtTongue" ∈ nstW := List.mem_of_getElem? (i := 19) (by decide +kernel)
theorem lk_7_204 : Cond.methodLink RX7 204 yX7_takeOperand ∈ gtb := gtb_in (List.mem_of_getElem? (i := 754) (by decide +kernel)) rfl
theorem lk_7_216 : Cond.methodLink RX7 216 yX7_takeLeaf ∈ gtb := gtb_in (List.mem_of_getElem? (i := 758) (by decide +kernel)) rfl
theorem lk_7_228 : Cond.methodLink RX7 228 yX7_countKnot ∈ gtb := gtb_in (List.mem_of_getElem? (i := 762) (by decide +kernel)) rfl
theorem lk_7_234 : Cond.methodLink RX7 234 yX3_add ∈ gtb := gtb_in (List.mem_of_getElem? (i := 766) (by decide +kernel)) rfl
theorem lk_7_219 : Cond.methodLink RX7 219 yX7_takeOpen ∈ gtb := gtb_in (List.mem_of_getElem? (i := 770) (by decide +kernel)) rfl
theorem lk_7_231 : Cond.methodLink RX7 231 yX7_letWait ∈ gtb := gtb_in (List.mem_of_getElem? (i := 774) (by decide +kernel)) rfl
theorem lk_7_222 : Cond.methodLink RX7 222 yX7_latestWaiting ∈ gtb := gtb_in (List.mem_of_getElem? (i := 778) (by decide +kernel)) rfl
theorem lk_7_225 : Cond.methodLink RX7 225 yX7_bindingOf ∈ gtb := gtb_in (List.mem_of_getElem? (i := 782) (by decide +kernel)) rfl
theorem lk_7_207 : Cond.methodLink RX7 207 yX7_takeSign ∈ gtb := gtb_in (List.mem_of_getElem? (i := 785) (by decide +kernel)) rfl
theorem lk_7_210 : Cond.methodLink RX7 210 yX7_layWaiting ∈ gtb := gtb_in (List.mem_of_getElem? (i := 789) (by decide +kernel)) rfl
theorem lk_7_213 : Cond.methodLink RX7 213 yX3_end ∈ gtb := gtb_in (List.mem_of_getElem? (i := 793) (by decide +kernel)) rfl
theorem lk_7_110 : Cond.methodLink RX7 110 yX7_readSeason ∈ gtb := gtb_in (List.mem_of_getElem? (i := 797) (by decide +kernel)) rfl
theorem lk_7_113 : Cond.methodLink RX7 113 yX7_readRiseWord ∈ gtb := gtb_in (List.mem_of_getElem? (i := 801) (by decide +kernel)) rfl
theorem lk_7_121 : Cond.methodLink RX7 121 yX7_endLine ∈ gtb := gtb_in (List.mem_of_getElem? (i := 805) (by decide +kernel)) rfl
theorem lk_10_92 : Cond.methodLink RX10 92 yX0_take ∈ gtb := gtb_in (List.mem_of_getElem? (i := 809) (by decide +kernel)) rfl
theorem lk_0_54 : Cond.methodLink RX0 54 yX3_take ∈ gtb := gtb_in (List.mem_of_getElem? (i := 814) (by decide +kernel)) rfl
theorem lk_10_99 : Cond.methodLink RX10 99 yX2_take ∈ gtb := gtb_in (List.mem_of_getElem? (i := 819) (by decide +kernel)) rfl
theorem lk_10_108 : Cond.methodLink RX10 108 yX4_clear ∈ gtb := gtb_in (List.mem_of_getElem? (i := 824) (by decide +kernel)) rfl
theorem lk_10_111 : Cond.methodLink RX10 111 yX6_forget ∈ gtb := gtb_in (List.mem_of_getElem? (i := 828) (by decide +kernel)) rfl
theorem lk_L_31 : Cond.methodLink RL 31 yX10_fault ∈ gtb := gtb_in (List.mem_of_getElem? (i := 832) (by decide +kernel)) rfl
theorem lk_L_35 : Cond.methodLink RL 35 yX10_named ∈ gtb := gtb_in (List.mem_of_getElem? (i := 836) (by decide +kernel)) rfl
theorem lk_10_124 : Cond.methodLink RX10 124 yX0_personNamed ∈ gtb := gtb_in (List.mem_of_getElem? (i := 840) (by decide +kernel)) rfl
theorem lk_10_128 : Cond.methodLink RX10 128 yX0_partNamed ∈ gtb := gtb_in (List.mem_of_getElem? (i := 841) (by decide +kernel)) rfl
theorem lk_L_49 : Cond.methodLink RL 49 yX10_stands ∈ gtb := gtb_in (List.mem_of_getElem? (i := 842) (by decide +kernel)) rfl
theorem lk_10_170 : Cond.methodLink RX10 170 yX10_areTwo ∈ gtb := gtb_in (List.mem_of_getElem? (i := 846) (by decide +kernel)) rfl
theorem lk_10_131 : Cond.methodLink RX10 131 yX10_isPerson ∈ gtb := gtb_in (List.mem_of_getElem? (i := 850) (by decide +kernel)) rfl
theorem lk_10_174 : Cond.methodLink RX10 174 yX10_isSeason ∈ gtb := gtb_in (List.mem_of_getElem? (i := 854) (by decide +kernel)) rfl
theorem lk_10_144 : Cond.methodLink RX10 144 yX5_build ∈ gtb := gtb_in (List.mem_of_getElem? (i := 857) (by decide +kernel)) rfl
theorem lk_10_177 : Cond.methodLink RX10 177 yX5_between ∈ gtb := gtb_in (List.mem_of_getElem? (i := 858) (by decide +kernel)) rfl
theorem lk_L_54 : Cond.methodLink RL 54 yX10_season ∈ gtb := gtb_in (List.mem_of_getElem? (i := 862) (by decide +kernel)) rfl
theorem lk_L_59 : Cond.methodLink RL 59 yX10_raise ∈ gtb := gtb_in (List.mem_of_getElem? (i := 866) (by decide +kernel)) rfl
theorem lk_10_184 : Cond.methodLink RX10 184 yX2_tells ∈ gtb := gtb_in (List.mem_of_getElem? (i := 870) (by decide +kernel)) rfl
theorem lk_10_188 : Cond.methodLink RX10 188 yX2_add ∈ gtb := gtb_in (List.mem_of_getElem? (i := 871) (by decide +kernel)) rfl
theorem lk_10_192 : Cond.methodLink RX10 192 yX5_bendsInSomeSeason ∈ gtb := gtb_in (List.mem_of_getElem? (i := 872) (by decide +kernel)) rfl
theorem lk_10_196 : Cond.methodLink RX10 196 yX2_dropLast ∈ gtb := gtb_in (List.mem_of_getElem? (i := 873) (by decide +kernel)) rfl
theorem lk_L_63 : Cond.methodLink RL 63 yX10_strike ∈ gtb := gtb_in (List.mem_of_getElem? (i := 877) (by decide +kernel)) rfl
theorem lk_10_199 : Cond.methodLink RX10 199 yX2_lives ∈ gtb := gtb_in (List.mem_of_getElem? (i := 881) (by decide +kernel)) rfl
theorem lk_10_202 : Cond.methodLink RX10 202 yX2_strikeOut ∈ gtb := gtb_in (List.mem_of_getElem? (i := 882) (by decide +kernel)) rfl
theorem lk_L_67 : Cond.methodLink RL 67 yX10_fact ∈ gtb := gtb_in (List.mem_of_getElem? (i := 886) (by decide +kernel)) rfl
theorem lk_10_205 : Cond.methodLink RX10 205 yX2_cell ∈ gtb := gtb_in (List.mem_of_getElem? (i := 890) (by decide +kernel)) rfl
theorem lk_L_71 : Cond.methodLink RL 71 yX10_ring ∈ gtb := gtb_in (List.mem_of_getElem? (i := 891) (by decide +kernel)) rfl
theorem lk_10_208 : Cond.methodLink RX10 208 yX5_stepsDown ∈ gtb := gtb_in (List.mem_of_getElem? (i := 895) (by decide +kernel)) rfl
theorem lk_5_79 : Cond.methodLink RX5 79 yX5_firstBelowAt ∈ gtb := gtb_in (List.mem_of_getElem? (i := 899) (by decide +kernel)) rfl
theorem lk_10_211 : Cond.methodLink RX10 211 yX5_onTheWay ∈ gtb := gtb_in (List.mem_of_getElem? (i := 903) (by decide +kernel)) rfl
theorem lk_L_75 : Cond.methodLink RL 75 yX10_say ∈ gtb := gtb_in (List.mem_of_getElem? (i := 907) (by decide +kernel)) rfl
theorem lk_10_215 : Cond.methodLink RX10 215 yX10_isSaying ∈ gtb := gtb_in (List.mem_of_getElem? (i := 911) (by decide +kernel)) rfl
theorem lk_10_219 : Cond.methodLink RX10 219 yX10_meetNow ∈ gtb := gtb_in (List.mem_of_getElem? (i := 915) (by decide +kernel)) rfl
theorem lk_10_277 : Cond.methodLink RX10 277 yX9_meet ∈ gtb := gtb_in (List.mem_of_getElem? (i := 919) (by decide +kernel)) rfl
theorem lk_9_27 : Cond.methodLinkNest RX9 27 yX10_at "CourtTongue" ∈ nstW := List.mem_of_getElem? (i := 20) (by decide +kernel)
theorem lk_9_31 : Cond.methodLinkNest RX9 31 yX10_put "CourtTongue" ∈ nstW := List.mem_of_getElem? (i := 21) (by decide +kernel)
theorem lk_10_345 : Cond.methodLink RX10 345 yX9_standBy ∈ gtb := gtb_in (List.mem_of_getElem? (i := 925) (by decide +kernel)) rfl
theorem lk_9_35 : Cond.methodLink RX9 35 yX5_between ∈ gtb := gtb_in (List.mem_of_getElem? (i := 929) (by decide +kernel)) rfl
theorem lk_10_223 : Cond.methodLink RX10 223 yX9_rightRow ∈ gtb := gtb_in (List.mem_of_getElem? (i := 930) (by decide +kernel)) rfl
theorem lk_9_53 : Cond.methodLink RX9 53 yX3_work ∈ gtb := gtb_in (List.mem_of_getElem? (i := 934) (by decide +kernel)) rfl
theorem lk_3_42 : Cond.methodLinkNest RX3 42 yX10_at "CourtTongue" ∈ nstW := List.mem_of_getElem? (i := 22) (by decide +kernel)
theorem lk_3_46 : Cond.methodLinkNest RX3 46 yX10_putLong "CourtTongue" ∈ nstW := List.mem_of_getElem? (i := 23) (by decide +kernel)
theorem lk_3_50 : Cond.methodLinkNest RX3 50 yX10_longAt "CourtTongue" ∈ nstW := List.mem_of_getElem? (i := 24) (by decide +kernel)
theorem lk_3_54 : Cond.methodLink RX3 54 yX3_joined ∈ gtb := gtb_in (List.mem_of_getElem? (i := 945) (by decide +kernel)) rfl
theorem lk_3_60 : Cond.methodLink RX3 60 yX3_within ∈ gtb := gtb_in (List.mem_of_getElem? (i := 948) (by decide +kernel)) rfl
theorem lk_3_64 : Cond.methodLink RX3 64 yX3_product ∈ gtb := gtb_in (List.mem_of_getElem? (i := 954) (by decide +kernel)) rfl
theorem lk_9_61 : Cond.methodLinkNest RX9 61 yX10_putLong "CourtTongue" ∈ nstW := List.mem_of_getElem? (i := 25) (by decide +kernel)
theorem lk_9_65 : Cond.methodLink RX9 65 yX9_countAhead ∈ gtb := gtb_in (List.mem_of_getElem? (i := 962) (by decide +kernel)) rfl
theorem lk_9_68 : Cond.methodLinkNest RX9 68 yX10_longAt "CourtTongue" ∈ nstW := List.mem_of_getElem? (i := 26) (by decide +kernel)
theorem lk_L_79 : Cond.methodLink RL 79 yX10_place ∈ gtb := gtb_in (List.mem_of_getElem? (i := 967) (by decide +kernel)) rfl
theorem lk_10_239 : Cond.methodLink RX10 239 yX3_work ∈ gtb := gtb_in (List.mem_of_getElem? (i := 972) (by decide +kernel)) rfl
theorem lk_L_84 : Cond.methodLink RL 84 yX10_offence ∈ gtb := gtb_in (List.mem_of_getElem? (i := 973) (by decide +kernel)) rfl
theorem lk_10_245 : Cond.methodLink RX10 245 yX8_isRow ∈ gtb := gtb_in (List.mem_of_getElem? (i := 977) (by decide +kernel)) rfl
theorem lk_8_9 : Cond.methodLink RX8 9 yX8_wordAt ∈ gtb := gtb_in (List.mem_of_getElem? (i := 980) (by decide +kernel)) rfl
theorem lk_10_250 : Cond.methodLink RX10 250 yX8_turned ∈ gtb := gtb_in (List.mem_of_getElem? (i := 983) (by decide +kernel)) rfl
theorem lk_8_15 : Cond.methodLink RX8 15 yX8_spotOf ∈ gtb := gtb_in (List.mem_of_getElem? (i := 986) (by decide +kernel)) rfl
theorem lk_L_89 : Cond.methodLink RL 89 yX10_amends ∈ gtb := gtb_in (List.mem_of_getElem? (i := 989) (by decide +kernel)) rfl
theorem lk_10_253 : Cond.methodLink RX10 253 yX8_moved ∈ gtb := gtb_in (List.mem_of_getElem? (i := 993) (by decide +kernel)) rfl
theorem lk_8_19 : Cond.methodLink RX8 19 yX8_left ∈ gtb := gtb_in (List.mem_of_getElem? (i := 996) (by decide +kernel)) rfl
theorem lk_L_93 : Cond.methodLink RL 93 yX10_hall ∈ gtb := gtb_in (List.mem_of_getElem? (i := 1008) (by decide +kernel)) rfl
theorem lk_10_256 : Cond.methodLink RX10 256 yX10_isHall ∈ gtb := gtb_in (List.mem_of_getElem? (i := 1012) (by decide +kernel)) rfl
theorem lk_10_259 : Cond.methodLink RX10 259 yX9_hearHall ∈ gtb := gtb_in (List.mem_of_getElem? (i := 1016) (by decide +kernel)) rfl
theorem lk_9_98 : Cond.methodLink RX9 98 yX9_meet ∈ gtb := gtb_in (List.mem_of_getElem? (i := 1020) (by decide +kernel)) rfl
theorem lk_9_102 : Cond.methodLink RX9 102 yX9_standBy ∈ gtb := gtb_in (List.mem_of_getElem? (i := 1021) (by decide +kernel)) rfl
theorem lk_9_76 : Cond.methodLink RX9 76 yX9_rightRow ∈ gtb := gtb_in (List.mem_of_getElem? (i := 1022) (by decide +kernel)) rfl
theorem lk_10_263 : Cond.methodLink RX10 263 yX9_leastOffence ∈ gtb := gtb_in (List.mem_of_getElem? (i := 1023) (by decide +kernel)) rfl
theorem lk_9_109 : Cond.methodLink RX9 109 yX8_countAll ∈ gtb := gtb_in (List.mem_of_getElem? (i := 1027) (by decide +kernel)) rfl
theorem lk_9_112 : Cond.methodLink RX9 112 yX8_numbered ∈ gtb := gtb_in (List.mem_of_getElem? (i := 1030) (by decide +kernel)) rfl
theorem lk_8_33 : Cond.methodLink RX8 33 yX8_countAll ∈ gtb := gtb_in (List.mem_of_getElem? (i := 1033) (by decide +kernel)) rfl
theorem lk_8_36 : Cond.methodLink RX8 36 yX8_freePart ∈ gtb := gtb_in (List.mem_of_getElem? (i := 1034) (by decide +kernel)) rfl
theorem lk_9_115 : Cond.methodLink RX9 115 yX9_hallOffence ∈ gtb := gtb_in (List.mem_of_getElem? (i := 1037) (by decide +kernel)) rfl
theorem lk_9_106 : Cond.methodLink RX9 106 yX8_turned ∈ gtb := gtb_in (List.mem_of_getElem? (i := 1041) (by decide +kernel)) rfl
theorem lk_10_266 : Cond.methodLink RX10 266 yX9_hallOffence ∈ gtb := gtb_in (List.mem_of_getElem? (i := 1042) (by decide +kernel)) rfl
theorem lk_10_269 : Cond.methodLink RX10 269 yX9_clash ∈ gtb := gtb_in (List.mem_of_getElem? (i := 1043) (by decide +kernel)) rfl
theorem lk_L_97 : Cond.methodLink RL 97 yX10_claims ∈ gtb := gtb_in (List.mem_of_getElem? (i := 1047) (by decide +kernel)) rfl
theorem lk_10_272 : Cond.methodLink RX10 272 yX9_claimed ∈ gtb := gtb_in (List.mem_of_getElem? (i := 1051) (by decide +kernel)) rfl
theorem lk_9_72 : Cond.methodLink RX9 72 yX9_standByWay ∈ gtb := gtb_in (List.mem_of_getElem? (i := 1055) (by decide +kernel)) rfl
theorem lk_9_41 : Cond.methodLinkNest RX9 41 yX10_goesOn "CourtTongue" ∈ nstW := List.mem_of_getElem? (i := 27) (by decide +kernel)
theorem lk_10_349 : Cond.methodLink RX10 349 yX10_isChain ∈ gtb := gtb_in (List.mem_of_getElem? (i := 1062) (by decide +kernel)) rfl
theorem lk_L_101 : Cond.methodLink RL 101 yX10_hear ∈ gtb := gtb_in (List.mem_of_getElem? (i := 1065) (by decide +kernel)) rfl
theorem lk_10_281 : Cond.methodLink RX10 281 yX4_addSaying ∈ gtb := gtb_in (List.mem_of_getElem? (i := 1069) (by decide +kernel)) rfl
theorem lk_4_34 : Cond.methodLinkNest RX4 34 yX10_put "CourtTongue" ∈ nstW := List.mem_of_getElem? (i := 28) (by decide +kernel)
theorem lk_4_38 : Cond.methodLink RX4 38 yX4_addStrike ∈ gtb := gtb_in (List.mem_of_getElem? (i := 1074) (by decide +kernel)) rfl
theorem lk_L_105 : Cond.methodLink RL 105 yX10_unhear ∈ gtb := gtb_in (List.mem_of_getElem? (i := 1078) (by decide +kernel)) rfl
theorem lk_10_285 : Cond.methodLink RX10 285 yX4_addStrike ∈ gtb := gtb_in (List.mem_of_getElem? (i := 1082) (by decide +kernel)) rfl
theorem lk_L_109 : Cond.methodLink RL 109 yX10_known ∈ gtb := gtb_in (List.mem_of_getElem? (i := 1083) (by decide +kernel)) rfl
theorem lk_L_113 : Cond.methodLink RL 113 yX10_possible ∈ gtb := gtb_in (List.mem_of_getElem? (i := 1087) (by decide +kernel)) rfl
theorem lk_10_291 : Cond.methodLink RX10 291 yX6_settle ∈ gtb := gtb_in (List.mem_of_getElem? (i := 1091) (by decide +kernel)) rfl
theorem lk_6_26 : Cond.methodLink RX6 26 yX4_knownSayings ∈ gtb := gtb_in (List.mem_of_getElem? (i := 1095) (by decide +kernel)) rfl
theorem lk_4_42 : Cond.methodLink RX4 42 yX4_knownCount ∈ gtb := gtb_in (List.mem_of_getElem? (i := 1099) (by decide +kernel)) rfl
theorem lk_4_46 : Cond.methodLinkNest RX4 46 yX10_at "CourtTongue" ∈ nstW := List.mem_of_getElem? (i := 29) (by decide +kernel)
theorem lk_6_35 : Cond.methodLink RX6 35 yX6_make ∈ gtb := gtb_in (List.mem_of_getElem? (i := 1104) (by decide +kernel)) rfl
theorem lk_6_59 : Cond.methodLink RX6 59 yX6_shiftOf ∈ gtb := gtb_in (List.mem_of_getElem? (i := 1109) (by decide +kernel)) rfl
theorem fl_6_63 : lw_tbl[1112]? = some (Cond.fieldLink RX6 63 RX6 "OTHERS" "[I") := by decide +kernel
theorem lk_6_42 : Cond.methodLinkNest RX6 42 yX10_at "CourtTongue" ∈ nstW := List.mem_of_getElem? (i := 30) (by decide +kernel)
theorem lk_6_66 : Cond.methodLink RX6 66 yX6_goesOnSoFar ∈ gtb := gtb_in (List.mem_of_getElem? (i := 1115) (by decide +kernel)) rfl
theorem fl_6_70 : lw_tbl[1118]? = some (Cond.fieldLink RX6 70 RX6 "ONES" "[I") := by decide +kernel
theorem lk_6_54 : Cond.methodLink RX6 54 yX6_between ∈ gtb := gtb_in (List.mem_of_getElem? (i := 1120) (by decide +kernel)) rfl
theorem fl_6_77 : lw_tbl[1123]? = some (Cond.fieldLink RX6 77 RX6 "SHIFTS" "[I") := by decide +kernel
theorem lk_6_73 : Cond.methodLinkNest RX6 73 yX10_goesOn "CourtTongue" ∈ nstW := List.mem_of_getElem? (i := 31) (by decide +kernel)
theorem lk_6_50 : Cond.methodLinkNest RX6 50 yX10_put "CourtTongue" ∈ nstW := List.mem_of_getElem? (i := 32) (by decide +kernel)
theorem lk_6_46 : Cond.methodLink RX6 46 yX4_firstWrong ∈ gtb := gtb_in (List.mem_of_getElem? (i := 1127) (by decide +kernel)) rfl
theorem lk_4_50 : Cond.methodLink RX4 50 yX4_wayOf ∈ gtb := gtb_in (List.mem_of_getElem? (i := 1131) (by decide +kernel)) rfl
theorem lk_4_54 : Cond.methodLink RX4 54 yX6_between ∈ gtb := gtb_in (List.mem_of_getElem? (i := 1135) (by decide +kernel)) rfl
theorem lk_10_296 : Cond.methodLink RX10 296 yX6_firstWrong ∈ gtb := gtb_in (List.mem_of_getElem? (i := 1136) (by decide +kernel)) rfl
theorem lk_L_117 : Cond.methodLink RL 117 yX10_sure ∈ gtb := gtb_in (List.mem_of_getElem? (i := 1140) (by decide +kernel)) rfl
theorem lk_10_299 : Cond.methodLink RX10 299 yX6_answer ∈ gtb := gtb_in (List.mem_of_getElem? (i := 1144) (by decide +kernel)) rfl
theorem lk_L_121 : Cond.methodLink RL 121 yX10_cannot ∈ gtb := gtb_in (List.mem_of_getElem? (i := 1149) (by decide +kernel)) rfl
theorem lk_L_125 : Cond.methodLink RL 125 yX10_order ∈ gtb := gtb_in (List.mem_of_getElem? (i := 1154) (by decide +kernel)) rfl
theorem lk_L_129 : Cond.methodLink RL 129 yX10_letter ∈ gtb := gtb_in (List.mem_of_getElem? (i := 1158) (by decide +kernel)) rfl
theorem lk_10_307 : Cond.methodLink RX10 307 yX10_fits ∈ gtb := gtb_in (List.mem_of_getElem? (i := 1162) (by decide +kernel)) rfl
theorem lk_L_133 : Cond.methodLink RL 133 yX10_silence ∈ gtb := gtb_in (List.mem_of_getElem? (i := 1166) (by decide +kernel)) rfl
theorem lk_10_311 : Cond.methodLink RX10 311 yX9_fewestLeft ∈ gtb := gtb_in (List.mem_of_getElem? (i := 1170) (by decide +kernel)) rfl
theorem lk_9_80 : Cond.methodLink RX9 80 yX9_alike ∈ gtb := gtb_in (List.mem_of_getElem? (i := 1174) (by decide +kernel)) rfl
theorem lk_9_90 : Cond.methodLink RX9 90 yX8_left ∈ gtb := gtb_in (List.mem_of_getElem? (i := 1177) (by decide +kernel)) rfl
theorem lk_L_137 : Cond.methodLink RL 137 yX10_rise ∈ gtb := gtb_in (List.mem_of_getElem? (i := 1179) (by decide +kernel)) rfl
theorem lk_10_314 : Cond.methodLink RX10 314 yX1_learn ∈ gtb := gtb_in (List.mem_of_getElem? (i := 1183) (by decide +kernel)) rfl
theorem lk_1_31 : Cond.methodLink RX1 31 yX5_belowOf ∈ gtb := gtb_in (List.mem_of_getElem? (i := 1187) (by decide +kernel)) rfl
theorem lk_1_37 : Cond.methodLinkNest RX1 37 yX10_put "CourtTongue" ∈ nstW := List.mem_of_getElem? (i := 33) (by decide +kernel)
theorem lk_10_318 : Cond.methodLink RX10 318 yX1_search ∈ gtb := gtb_in (List.mem_of_getElem? (i := 1192) (by decide +kernel)) rfl
theorem lk_1_51 : Cond.methodLink RX1 51 yX1_firstState ∈ gtb := gtb_in (List.mem_of_getElem? (i := 1196) (by decide +kernel)) rfl
theorem lk_1_54 : Cond.methodLink RX1 54 yX1_add ∈ gtb := gtb_in (List.mem_of_getElem? (i := 1199) (by decide +kernel)) rfl
theorem lk_1_87 : Cond.methodLink RX1 87 yX1_numberOf ∈ gtb := gtb_in (List.mem_of_getElem? (i := 1203) (by decide +kernel)) rfl
theorem lk_1_90 : Cond.methodLink RX1 90 yX1_seasonOf ∈ gtb := gtb_in (List.mem_of_getElem? (i := 1206) (by decide +kernel)) rfl
theorem lk_1_93 : Cond.methodLink RX1 93 yX1_placeOf ∈ gtb := gtb_in (List.mem_of_getElem? (i := 1209) (by decide +kernel)) rfl
theorem lk_1_58 : Cond.methodLinkNest RX1 58 yX10_at "CourtTongue" ∈ nstW := List.mem_of_getElem? (i := 34) (by decide +kernel)
theorem lk_1_62 : Cond.methodLink RX1 62 yX1_isAbove ∈ gtb := gtb_in (List.mem_of_getElem? (i := 1213) (by decide +kernel)) rfl
theorem lk_1_66 : Cond.methodLink RX1 66 yX1_spread ∈ gtb := gtb_in (List.mem_of_getElem? (i := 1217) (by decide +kernel)) rfl
theorem lk_1_79 : Cond.methodLink RX1 79 yX1_mayChange ∈ gtb := gtb_in (List.mem_of_getElem? (i := 1221) (by decide +kernel)) rfl
theorem lk_1_103 : Cond.methodLink RX1 103 yX1_gapTo ∈ gtb := gtb_in (List.mem_of_getElem? (i := 1225) (by decide +kernel)) rfl
theorem lk_1_113 : Cond.methodLink RX1 113 yX3_work ∈ gtb := gtb_in (List.mem_of_getElem? (i := 1229) (by decide +kernel)) rfl
theorem lk_1_83 : Cond.methodLink RX1 83 yX1_changed ∈ gtb := gtb_in (List.mem_of_getElem? (i := 1231) (by decide +kernel)) rfl
theorem lk_1_70 : Cond.methodLink RX1 70 yX1_countSteps ∈ gtb := gtb_in (List.mem_of_getElem? (i := 1235) (by decide +kernel)) rfl
theorem lk_10_322 : Cond.methodLink RX10 322 yX1_hearerOfStep ∈ gtb := gtb_in (List.mem_of_getElem? (i := 1239) (by decide +kernel)) rfl
theorem lk_L_141 : Cond.methodLink RL 141 yX10_keep ∈ gtb := gtb_in (List.mem_of_getElem? (i := 1243) (by decide +kernel)) rfl
theorem lk_L_145 : Cond.methodLink RL 145 yX10_back ∈ gtb := gtb_in (List.mem_of_getElem? (i := 1247) (by decide +kernel)) rfl
theorem lk_L_149 : Cond.methodLink RL 149 yX10_count ∈ gtb := gtb_in (List.mem_of_getElem? (i := 1251) (by decide +kernel)) rfl
theorem lk_10_331 : Cond.methodLink RX10 331 yX4_knownCount ∈ gtb := gtb_in (List.mem_of_getElem? (i := 1255) (by decide +kernel)) rfl
theorem lk_10_335 : Cond.methodLink RX10 335 yX2_countLiving ∈ gtb := gtb_in (List.mem_of_getElem? (i := 1256) (by decide +kernel)) rfl
theorem lk_L_7 : Cond.methodLink RL 7 yX10_look ∈ gtb := gtb_in (List.mem_of_getElem? (i := 1265) (by decide +kernel)) rfl
theorem lk_10_152 : Cond.methodLink RX10 152 yX10_at ∈ gtb := gtb_in (List.mem_of_getElem? (i := 1346) (by decide +kernel)) rfl
theorem lk_10_156 : Cond.methodLink RX10 156 yX5_countAbove ∈ gtb := gtb_in (List.mem_of_getElem? (i := 1347) (by decide +kernel)) rfl
theorem lk_10_159 : Cond.methodLink RX10 159 yX5_belowOf ∈ gtb := gtb_in (List.mem_of_getElem? (i := 1351) (by decide +kernel)) rfl
theorem lk_10_167 : Cond.methodLink RX10 167 yX5_levelWith ∈ gtb := gtb_in (List.mem_of_getElem? (i := 1352) (by decide +kernel)) rfl
theorem lk_L_20 : Cond.methodLink RL 20 yX11_init ∈ gtb := gtb_in (List.mem_of_getElem? (i := 1358) (by decide +kernel)) rfl
theorem fl_11_118 : lw_tbl[1362]? = some (Cond.fieldLink RX11 118 (TX11 0).1 (TX11 0).2.1 (TX11 0).2.2.1) := by decide +kernel
theorem fl_11_7 : lw_tbl[1363]? = some (Cond.fieldLink RX11 7 (TX11 1).1 (TX11 1).2.1 (TX11 1).2.2.1) := by decide +kernel
theorem fl_11_121 : lw_tbl[1364]? = some (Cond.fieldLink RX11 121 (TX11 2).1 (TX11 2).2.1 (TX11 2).2.2.1) := by decide +kernel
theorem fl_11_13 : lw_tbl[1365]? = some (Cond.fieldLink RX11 13 (TX11 3).1 (TX11 3).2.1 (TX11 3).2.2.1) := by decide +kernel
theorem fl_11_16 : lw_tbl[1366]? = some (Cond.fieldLink RX11 16 (TX11 4).1 (TX11 4).2.1 (TX11 4).2.2.1) := by decide +kernel
theorem fl_11_19 : lw_tbl[1367]? = some (Cond.fieldLink RX11 19 (TX11 5).1 (TX11 5).2.1 (TX11 5).2.2.1) := by decide +kernel
theorem fl_11_22 : lw_tbl[1368]? = some (Cond.fieldLink RX11 22 (TX11 6).1 (TX11 6).2.1 (TX11 6).2.2.1) := by decide +kernel
theorem fl_11_25 : lw_tbl[1369]? = some (Cond.fieldLink RX11 25 (TX11 7).1 (TX11 7).2.1 (TX11 7).2.2.1) := by decide +kernel
theorem fl_11_28 : lw_tbl[1370]? = some (Cond.fieldLink RX11 28 (TX11 8).1 (TX11 8).2.1 (TX11 8).2.2.1) := by decide +kernel
theorem fl_11_31 : lw_tbl[1371]? = some (Cond.fieldLink RX11 31 (TX11 9).1 (TX11 9).2.1 (TX11 9).2.2.1) := by decide +kernel
theorem fl_11_34 : lw_tbl[1372]? = some (Cond.fieldLink RX11 34 (TX11 10).1 (TX11 10).2.1 (TX11 10).2.2.1) := by decide +kernel
theorem fl_11_37 : lw_tbl[1373]? = some (Cond.fieldLink RX11 37 (TX11 11).1 (TX11 11).2.1 (TX11 11).2.2.1) := by decide +kernel
theorem fl_11_40 : lw_tbl[1374]? = some (Cond.fieldLink RX11 40 (TX11 12).1 (TX11 12).2.1 (TX11 12).2.2.1) := by decide +kernel
theorem fl_11_43 : lw_tbl[1375]? = some (Cond.fieldLink RX11 43 (TX11 13).1 (TX11 13).2.1 (TX11 13).2.2.1) := by decide +kernel
theorem fl_11_46 : lw_tbl[1376]? = some (Cond.fieldLink RX11 46 (TX11 14).1 (TX11 14).2.1 (TX11 14).2.2.1) := by decide +kernel
theorem fl_11_49 : lw_tbl[1377]? = some (Cond.fieldLink RX11 49 (TX11 15).1 (TX11 15).2.1 (TX11 15).2.2.1) := by decide +kernel
theorem fl_11_195 : lw_tbl[1378]? = some (Cond.fieldLink RX11 195 (TX11 16).1 (TX11 16).2.1 (TX11 16).2.2.1) := by decide +kernel
theorem fl_11_218 : lw_tbl[1379]? = some (Cond.fieldLink RX11 218 (TX11 17).1 (TX11 17).2.1 (TX11 17).2.2.1) := by decide +kernel
theorem fl_11_127 : lw_tbl[1380]? = some (Cond.fieldLink RX11 127 (TX11 18).1 (TX11 18).2.1 (TX11 18).2.2.1) := by decide +kernel
theorem fl_11_124 : lw_tbl[1381]? = some (Cond.fieldLink RX11 124 (TX11 19).1 (TX11 19).2.1 (TX11 19).2.2.1) := by decide +kernel
theorem fl_11_134 : lw_tbl[1382]? = some (Cond.fieldLink RX11 134 (TX11 20).1 (TX11 20).2.1 (TX11 20).2.2.1) := by decide +kernel
theorem fl_11_137 : lw_tbl[1383]? = some (Cond.fieldLink RX11 137 (TX11 21).1 (TX11 21).2.1 (TX11 21).2.2.1) := by decide +kernel
theorem fl_11_147 : lw_tbl[1384]? = some (Cond.fieldLink RX11 147 (TX11 22).1 (TX11 22).2.1 (TX11 22).2.2.1) := by decide +kernel
theorem fl_11_175 : lw_tbl[1385]? = some (Cond.fieldLink RX11 175 (TX11 23).1 (TX11 23).2.1 (TX11 23).2.2.1) := by decide +kernel
theorem fl_11_178 : lw_tbl[1386]? = some (Cond.fieldLink RX11 178 (TX11 24).1 (TX11 24).2.1 (TX11 24).2.2.1) := by decide +kernel
theorem fl_11_282 : lw_tbl[1387]? = some (Cond.fieldLink RX11 282 (TX11 25).1 (TX11 25).2.1 (TX11 25).2.2.1) := by decide +kernel
theorem fl_11_53 : lw_tbl[1388]? = some (Cond.fieldLink RX11 53 (TX11 26).1 (TX11 26).2.1 (TX11 26).2.2.1) := by decide +kernel
theorem fl_11_277 : lw_tbl[1389]? = some (Cond.fieldLink RX11 277 (TX11 27).1 (TX11 27).2.1 (TX11 27).2.2.1) := by decide +kernel
theorem fl_11_253 : lw_tbl[1390]? = some (Cond.fieldLink RX11 253 (TX11 28).1 (TX11 28).2.1 (TX11 28).2.2.1) := by decide +kernel
theorem fl_11_57 : lw_tbl[1391]? = some (Cond.fieldLink RX11 57 (TX11 29).1 (TX11 29).2.1 (TX11 29).2.2.1) := by decide +kernel
theorem fl_11_60 : lw_tbl[1392]? = some (Cond.fieldLink RX11 60 (TX11 30).1 (TX11 30).2.1 (TX11 30).2.2.1) := by decide +kernel
theorem fl_11_289 : lw_tbl[1393]? = some (Cond.fieldLink RX11 289 (TX11 31).1 (TX11 31).2.1 (TX11 31).2.2.1) := by decide +kernel
theorem fl_11_296 : lw_tbl[1394]? = some (Cond.fieldLink RX11 296 (TX11 32).1 (TX11 32).2.1 (TX11 32).2.2.1) := by decide +kernel
theorem fl_11_302 : lw_tbl[1395]? = some (Cond.fieldLink RX11 302 (TX11 33).1 (TX11 33).2.1 (TX11 33).2.2.1) := by decide +kernel
theorem fl_11_471 : lw_tbl[1396]? = some (Cond.fieldLink RX11 471 (TX11 34).1 (TX11 34).2.1 (TX11 34).2.2.1) := by decide +kernel
theorem fl_11_474 : lw_tbl[1397]? = some (Cond.fieldLink RX11 474 (TX11 35).1 (TX11 35).2.1 (TX11 35).2.2.1) := by decide +kernel
theorem fl_11_63 : lw_tbl[1398]? = some (Cond.fieldLink RX11 63 (TX11 36).1 (TX11 36).2.1 (TX11 36).2.2.1) := by decide +kernel
theorem fl_11_66 : lw_tbl[1399]? = some (Cond.fieldLink RX11 66 (TX11 37).1 (TX11 37).2.1 (TX11 37).2.2.1) := by decide +kernel
theorem fl_11_70 : lw_tbl[1400]? = some (Cond.fieldLink RX11 70 (TX11 38).1 (TX11 38).2.1 (TX11 38).2.2.1) := by decide +kernel
theorem fl_11_327 : lw_tbl[1401]? = some (Cond.fieldLink RX11 327 (TX11 39).1 (TX11 39).2.1 (TX11 39).2.2.1) := by decide +kernel
theorem fl_11_73 : lw_tbl[1402]? = some (Cond.fieldLink RX11 73 (TX11 40).1 (TX11 40).2.1 (TX11 40).2.2.1) := by decide +kernel
theorem fl_11_76 : lw_tbl[1403]? = some (Cond.fieldLink RX11 76 (TX11 41).1 (TX11 41).2.1 (TX11 41).2.2.1) := by decide +kernel
theorem fl_11_79 : lw_tbl[1404]? = some (Cond.fieldLink RX11 79 (TX11 42).1 (TX11 42).2.1 (TX11 42).2.2.1) := by decide +kernel
theorem fl_11_408 : lw_tbl[1405]? = some (Cond.fieldLink RX11 408 (TX11 43).1 (TX11 43).2.1 (TX11 43).2.2.1) := by decide +kernel
theorem fl_11_405 : lw_tbl[1406]? = some (Cond.fieldLink RX11 405 (TX11 44).1 (TX11 44).2.1 (TX11 44).2.2.1) := by decide +kernel
theorem fl_11_402 : lw_tbl[1407]? = some (Cond.fieldLink RX11 402 (TX11 45).1 (TX11 45).2.1 (TX11 45).2.2.1) := by decide +kernel
theorem fl_11_299 : lw_tbl[1408]? = some (Cond.fieldLink RX11 299 (TX11 46).1 (TX11 46).2.1 (TX11 46).2.2.1) := by decide +kernel
theorem fl_11_82 : lw_tbl[1409]? = some (Cond.fieldLink RX11 82 (TX11 47).1 (TX11 47).2.1 (TX11 47).2.2.1) := by decide +kernel
theorem fl_11_85 : lw_tbl[1410]? = some (Cond.fieldLink RX11 85 (TX11 48).1 (TX11 48).2.1 (TX11 48).2.2.1) := by decide +kernel
theorem fl_11_88 : lw_tbl[1411]? = some (Cond.fieldLink RX11 88 (TX11 49).1 (TX11 49).2.1 (TX11 49).2.2.1) := by decide +kernel
theorem fl_11_91 : lw_tbl[1412]? = some (Cond.fieldLink RX11 91 (TX11 50).1 (TX11 50).2.1 (TX11 50).2.2.1) := by decide +kernel
theorem fl_11_94 : lw_tbl[1413]? = some (Cond.fieldLink RX11 94 (TX11 51).1 (TX11 51).2.1 (TX11 51).2.2.1) := by decide +kernel
theorem fl_11_97 : lw_tbl[1414]? = some (Cond.fieldLink RX11 97 (TX11 52).1 (TX11 52).2.1 (TX11 52).2.2.1) := by decide +kernel
theorem fl_11_100 : lw_tbl[1415]? = some (Cond.fieldLink RX11 100 (TX11 53).1 (TX11 53).2.1 (TX11 53).2.2.1) := by decide +kernel
theorem fl_11_103 : lw_tbl[1416]? = some (Cond.fieldLink RX11 103 (TX11 54).1 (TX11 54).2.1 (TX11 54).2.2.1) := by decide +kernel
theorem fl_11_106 : lw_tbl[1417]? = some (Cond.fieldLink RX11 106 (TX11 55).1 (TX11 55).2.1 (TX11 55).2.2.1) := by decide +kernel
theorem fl_11_109 : lw_tbl[1418]? = some (Cond.fieldLink RX11 109 (TX11 56).1 (TX11 56).2.1 (TX11 56).2.2.1) := by decide +kernel
theorem fl_11_112 : lw_tbl[1419]? = some (Cond.fieldLink RX11 112 (TX11 57).1 (TX11 57).2.1 (TX11 57).2.2.1) := by decide +kernel
theorem fl_11_115 : lw_tbl[1420]? = some (Cond.fieldLink RX11 115 (TX11 58).1 (TX11 58).2.1 (TX11 58).2.2.1) := by decide +kernel
theorem lk_L_45 : Cond.methodLink RL 45 yX11_thrown ∈ gtb := gtb_in (List.mem_of_getElem? (i := 1540) (by decide +kernel)) rfl
theorem lk_L_25 : Cond.methodLink RL 25 yX11_feed ∈ gtb := gtb_in (List.mem_of_getElem? (i := 1544) (by decide +kernel)) rfl
theorem lk_L_30 : Cond.methodLink RL 30 yX11_text ∈ gtb := gtb_in (List.mem_of_getElem? (i := 1548) (by decide +kernel)) rfl
theorem lk_11_181 : Cond.methodLink RX11 181 yX11_token ∈ gtb := gtb_in (List.mem_of_getElem? (i := 1552) (by decide +kernel)) rfl
theorem lk_11_130 : Cond.methodLink RX11 130 yX11_here ∈ gtb := gtb_in (List.mem_of_getElem? (i := 1556) (by decide +kernel)) rfl
theorem lk_11_140 : Cond.methodLink RX11 140 yX11_isSmall ∈ gtb := gtb_in (List.mem_of_getElem? (i := 1560) (by decide +kernel)) rfl
theorem lk_11_144 : Cond.methodLink RX11 144 yX11_word ∈ gtb := gtb_in (List.mem_of_getElem? (i := 1563) (by decide +kernel)) rfl
theorem lk_11_150 : Cond.methodLink RX11 150 yX11_name ∈ gtb := gtb_in (List.mem_of_getElem? (i := 1570) (by decide +kernel)) rfl
theorem lk_11_153 : Cond.methodLink RX11 153 yX11_isDigit ∈ gtb := gtb_in (List.mem_of_getElem? (i := 1574) (by decide +kernel)) rfl
theorem lk_11_156 : Cond.methodLink RX11 156 yX11_sign ∈ gtb := gtb_in (List.mem_of_getElem? (i := 1577) (by decide +kernel)) rfl
theorem lk_11_280 : Cond.methodLink RX11 280 yX11_line ∈ gtb := gtb_in (List.mem_of_getElem? (i := 1581) (by decide +kernel)) rfl
theorem lk_11_184 : Cond.methodLink RX11 184 yX11_wrong ∈ gtb := gtb_in (List.mem_of_getElem? (i := 1585) (by decide +kernel)) rfl
theorem lk_11_171 : Cond.methodLink RX11 171 yX11_wrongAt ∈ gtb := gtb_in (List.mem_of_getElem? (i := 1589) (by decide +kernel)) rfl
theorem lk_11_191 : Cond.methodLink RX11 191 yX11_fresher ∈ gtb := gtb_in (List.mem_of_getElem? (i := 1593) (by decide +kernel)) rfl
theorem lk_11_198 : Cond.methodLink RX11 198 yX11_fresh ∈ gtb := gtb_in (List.mem_of_getElem? (i := 1597) (by decide +kernel)) rfl
theorem lk_11_187 : Cond.methodLink RX11 187 yX11_found ∈ gtb := gtb_in (List.mem_of_getElem? (i := 1601) (by decide +kernel)) rfl
theorem lk_11_202 : Cond.methodLink RX11 202 yX11_numeral ∈ gtb := gtb_in (List.mem_of_getElem? (i := 1604) (by decide +kernel)) rfl
theorem lk_11_206 : Cond.methodLink RX11 206 yX11_oneMore ∈ gtb := gtb_in (List.mem_of_getElem? (i := 1608) (by decide +kernel)) rfl
theorem lk_11_209 : Cond.methodLink RX11 209 yX11_factLine ∈ gtb := gtb_in (List.mem_of_getElem? (i := 1612) (by decide +kernel)) rfl
theorem lk_11_221 : Cond.methodLink RX11 221 yX11_person ∈ gtb := gtb_in (List.mem_of_getElem? (i := 1616) (by decide +kernel)) rfl
theorem lk_11_224 : Cond.methodLink RX11 224 yX11_goOn ∈ gtb := gtb_in (List.mem_of_getElem? (i := 1620) (by decide +kernel)) rfl
theorem lk_11_227 : Cond.methodLink RX11 227 yX11_isWord ∈ gtb := gtb_in (List.mem_of_getElem? (i := 1624) (by decide +kernel)) rfl
theorem lk_11_230 : Cond.methodLink RX11 230 yX11_hasFact ∈ gtb := gtb_in (List.mem_of_getElem? (i := 1628) (by decide +kernel)) rfl
theorem lk_11_234 : Cond.methodLink RX11 234 yX11_lays ∈ gtb := gtb_in (List.mem_of_getElem? (i := 1632) (by decide +kernel)) rfl
theorem lk_11_238 : Cond.methodLink RX11 238 yX11_isRound ∈ gtb := gtb_in (List.mem_of_getElem? (i := 1636) (by decide +kernel)) rfl
theorem lk_11_249 : Cond.methodLink RX11 249 yX11_layOrder ∈ gtb := gtb_in (List.mem_of_getElem? (i := 1640) (by decide +kernel)) rfl
theorem lk_11_242 : Cond.methodLink RX11 242 yX11_pair ∈ gtb := gtb_in (List.mem_of_getElem? (i := 1644) (by decide +kernel)) rfl
theorem lk_11_245 : Cond.methodLink RX11 245 yX11_isOf ∈ gtb := gtb_in (List.mem_of_getElem? (i := 1647) (by decide +kernel)) rfl
theorem lk_11_212 : Cond.methodLink RX11 212 yX11_expression ∈ gtb := gtb_in (List.mem_of_getElem? (i := 1651) (by decide +kernel)) rfl
theorem lk_11_256 : Cond.methodLink RX11 256 yX11_conjunction ∈ gtb := gtb_in (List.mem_of_getElem? (i := 1655) (by decide +kernel)) rfl
theorem lk_11_265 : Cond.methodLink RX11 265 yX11_negation ∈ gtb := gtb_in (List.mem_of_getElem? (i := 1659) (by decide +kernel)) rfl
theorem lk_11_259 : Cond.methodLink RX11 259 yX11_knot ∈ gtb := gtb_in (List.mem_of_getElem? (i := 1663) (by decide +kernel)) rfl
theorem lk_11_262 : Cond.methodLink RX11 262 yX11_puts ∈ gtb := gtb_in (List.mem_of_getElem? (i := 1667) (by decide +kernel)) rfl
theorem lk_11_268 : Cond.methodLink RX11 268 yX11_sum ∈ gtb := gtb_in (List.mem_of_getElem? (i := 1671) (by decide +kernel)) rfl
theorem lk_11_271 : Cond.methodLink RX11 271 yX11_product ∈ gtb := gtb_in (List.mem_of_getElem? (i := 1675) (by decide +kernel)) rfl
theorem lk_11_274 : Cond.methodLink RX11 274 yX11_primary ∈ gtb := gtb_in (List.mem_of_getElem? (i := 1679) (by decide +kernel)) rfl
theorem lk_11_215 : Cond.methodLink RX11 215 yX11_isSign ∈ gtb := gtb_in (List.mem_of_getElem? (i := 1683) (by decide +kernel)) rfl
theorem lk_11_285 : Cond.methodLink RX11 285 yX11_half ∈ gtb := gtb_in (List.mem_of_getElem? (i := 1687) (by decide +kernel)) rfl
theorem lk_11_292 : Cond.methodLink RX11 292 yX11_copyFacts ∈ gtb := gtb_in (List.mem_of_getElem? (i := 1690) (by decide +kernel)) rfl
theorem lk_L_34 : Cond.methodLink RL 34 yX11_fault ∈ gtb := gtb_in (List.mem_of_getElem? (i := 1694) (by decide +kernel)) rfl
theorem lk_L_38 : Cond.methodLink RL 38 yX11_named ∈ gtb := gtb_in (List.mem_of_getElem? (i := 1698) (by decide +kernel)) rfl
theorem lk_L_44 : Cond.methodLink RL 44 yX11_look ∈ gtb := gtb_in (List.mem_of_getElem? (i := 1702) (by decide +kernel)) rfl
theorem lk_11_306 : Cond.methodLink RX11 306 yX11_isPerson ∈ gtb := gtb_in (List.mem_of_getElem? (i := 1706) (by decide +kernel)) rfl
theorem lk_11_309 : Cond.methodLink RX11 309 yX11_layNow ∈ gtb := gtb_in (List.mem_of_getElem? (i := 1710) (by decide +kernel)) rfl
theorem lk_L_53 : Cond.methodLink RL 53 yX11_stands ∈ gtb := gtb_in (List.mem_of_getElem? (i := 1714) (by decide +kernel)) rfl
theorem lk_11_312 : Cond.methodLink RX11 312 yX11_areTwo ∈ gtb := gtb_in (List.mem_of_getElem? (i := 1718) (by decide +kernel)) rfl
theorem lk_11_315 : Cond.methodLink RX11 315 yX11_isSeason ∈ gtb := gtb_in (List.mem_of_getElem? (i := 1722) (by decide +kernel)) rfl
theorem lk_11_318 : Cond.methodLink RX11 318 yX11_standsLaid ∈ gtb := gtb_in (List.mem_of_getElem? (i := 1725) (by decide +kernel)) rfl
theorem lk_L_58 : Cond.methodLink RL 58 yX11_season ∈ gtb := gtb_in (List.mem_of_getElem? (i := 1729) (by decide +kernel)) rfl
theorem lk_L_62 : Cond.methodLink RL 62 yX11_raise ∈ gtb := gtb_in (List.mem_of_getElem? (i := 1733) (by decide +kernel)) rfl
theorem lk_L_66 : Cond.methodLink RL 66 yX11_strike ∈ gtb := gtb_in (List.mem_of_getElem? (i := 1737) (by decide +kernel)) rfl
theorem lk_11_321 : Cond.methodLink RX11 321 yX11_isFact ∈ gtb := gtb_in (List.mem_of_getElem? (i := 1741) (by decide +kernel)) rfl
theorem lk_L_70 : Cond.methodLink RL 70 yX11_fact ∈ gtb := gtb_in (List.mem_of_getElem? (i := 1745) (by decide +kernel)) rfl
theorem lk_L_74 : Cond.methodLink RL 74 yX11_ring ∈ gtb := gtb_in (List.mem_of_getElem? (i := 1749) (by decide +kernel)) rfl
theorem lk_11_324 : Cond.methodLink RX11 324 yX11_isNext ∈ gtb := gtb_in (List.mem_of_getElem? (i := 1753) (by decide +kernel)) rfl
theorem lk_L_78 : Cond.methodLink RL 78 yX11_say ∈ gtb := gtb_in (List.mem_of_getElem? (i := 1757) (by decide +kernel)) rfl
theorem lk_11_366 : Cond.methodLink RX11 366 yX11_isSaying ∈ gtb := gtb_in (List.mem_of_getElem? (i := 1761) (by decide +kernel)) rfl
theorem lk_11_369 : Cond.methodLink RX11 369 yX11_right ∈ gtb := gtb_in (List.mem_of_getElem? (i := 1765) (by decide +kernel)) rfl
theorem lk_11_357 : Cond.methodLink RX11 357 yX11_callsLaid ∈ gtb := gtb_in (List.mem_of_getElem? (i := 1769) (by decide +kernel)) rfl
theorem lk_11_347 : Cond.methodLink RX11 347 yX11_over ∈ gtb := gtb_in (List.mem_of_getElem? (i := 1773) (by decide +kernel)) rfl
theorem lk_11_350 : Cond.methodLink RX11 350 yX11_calls ∈ gtb := gtb_in (List.mem_of_getElem? (i := 1777) (by decide +kernel)) rfl
theorem lk_11_330 : Cond.methodLink RX11 330 yX11_is ∈ gtb := gtb_in (List.mem_of_getElem? (i := 1781) (by decide +kernel)) rfl
theorem lk_11_360 : Cond.methodLink RX11 360 yX11_arrange ∈ gtb := gtb_in (List.mem_of_getElem? (i := 1784) (by decide +kernel)) rfl
theorem lk_11_354 : Cond.methodLink RX11 354 yX11_goes ∈ gtb := gtb_in (List.mem_of_getElem? (i := 1788) (by decide +kernel)) rfl
theorem lk_11_344 : Cond.methodLink RX11 344 yX11_works ∈ gtb := gtb_in (List.mem_of_getElem? (i := 1792) (by decide +kernel)) rfl
theorem lk_11_363 : Cond.methodLink RX11 363 yX11_rowOf ∈ gtb := gtb_in (List.mem_of_getElem? (i := 1799) (by decide +kernel)) rfl
theorem lk_L_83 : Cond.methodLink RL 83 yX11_place ∈ gtb := gtb_in (List.mem_of_getElem? (i := 1803) (by decide +kernel)) rfl
theorem lk_L_88 : Cond.methodLink RL 88 yX11_offence ∈ gtb := gtb_in (List.mem_of_getElem? (i := 1808) (by decide +kernel)) rfl
theorem lk_11_386 : Cond.methodLink RX11 386 yX11_isSaid ∈ gtb := gtb_in (List.mem_of_getElem? (i := 1812) (by decide +kernel)) rfl
theorem lk_11_383 : Cond.methodLink RX11 383 yX11_isRow ∈ gtb := gtb_in (List.mem_of_getElem? (i := 1816) (by decide +kernel)) rfl
theorem lk_11_377 : Cond.methodLink RX11 377 yX11_wordOf ∈ gtb := gtb_in (List.mem_of_getElem? (i := 1820) (by decide +kernel)) rfl
theorem lk_11_390 : Cond.methodLink RX11 390 yX11_turned ∈ gtb := gtb_in (List.mem_of_getElem? (i := 1823) (by decide +kernel)) rfl
theorem lk_11_380 : Cond.methodLink RX11 380 yX11_placeIn ∈ gtb := gtb_in (List.mem_of_getElem? (i := 1827) (by decide +kernel)) rfl
theorem lk_L_92 : Cond.methodLink RL 92 yX11_amends ∈ gtb := gtb_in (List.mem_of_getElem? (i := 1831) (by decide +kernel)) rfl
theorem lk_11_393 : Cond.methodLink RX11 393 yX11_stays ∈ gtb := gtb_in (List.mem_of_getElem? (i := 1835) (by decide +kernel)) rfl
theorem lk_11_396 : Cond.methodLink RX11 396 yX11_bitsOf ∈ gtb := gtb_in (List.mem_of_getElem? (i := 1839) (by decide +kernel)) rfl
theorem lk_L_96 : Cond.methodLink RL 96 yX11_hall ∈ gtb := gtb_in (List.mem_of_getElem? (i := 1843) (by decide +kernel)) rfl
theorem lk_11_414 : Cond.methodLink RX11 414 yX11_clash ∈ gtb := gtb_in (List.mem_of_getElem? (i := 1847) (by decide +kernel)) rfl
theorem lk_11_411 : Cond.methodLink RX11 411 yX11_halls ∈ gtb := gtb_in (List.mem_of_getElem? (i := 1851) (by decide +kernel)) rfl
theorem lk_L_100 : Cond.methodLink RL 100 yX11_claims ∈ gtb := gtb_in (List.mem_of_getElem? (i := 1855) (by decide +kernel)) rfl
theorem lk_11_421 : Cond.methodLink RX11 421 yX11_isWay ∈ gtb := gtb_in (List.mem_of_getElem? (i := 1859) (by decide +kernel)) rfl
theorem lk_11_418 : Cond.methodLink RX11 418 yX11_canBe ∈ gtb := gtb_in (List.mem_of_getElem? (i := 1862) (by decide +kernel)) rfl
theorem lk_11_425 : Cond.methodLink RX11 425 yX11_rightBy ∈ gtb := gtb_in (List.mem_of_getElem? (i := 1865) (by decide +kernel)) rfl
theorem lk_L_104 : Cond.methodLink RL 104 yX11_hear ∈ gtb := gtb_in (List.mem_of_getElem? (i := 1869) (by decide +kernel)) rfl
theorem lk_L_108 : Cond.methodLink RL 108 yX11_unhear ∈ gtb := gtb_in (List.mem_of_getElem? (i := 1873) (by decide +kernel)) rfl
theorem lk_L_112 : Cond.methodLink RL 112 yX11_known ∈ gtb := gtb_in (List.mem_of_getElem? (i := 1877) (by decide +kernel)) rfl
theorem lk_L_116 : Cond.methodLink RL 116 yX11_possible ∈ gtb := gtb_in (List.mem_of_getElem? (i := 1881) (by decide +kernel)) rfl
theorem lk_11_437 : Cond.methodLink RX11 437 yX11_strikes ∈ gtb := gtb_in (List.mem_of_getElem? (i := 1885) (by decide +kernel)) rfl
theorem lk_11_428 : Cond.methodLink RX11 428 yX11_knownMany ∈ gtb := gtb_in (List.mem_of_getElem? (i := 1889) (by decide +kernel)) rfl
theorem lk_11_440 : Cond.methodLink RX11 440 yX11_codes ∈ gtb := gtb_in (List.mem_of_getElem? (i := 1893) (by decide +kernel)) rfl
theorem lk_11_434 : Cond.methodLink RX11 434 yX11_pairs ∈ gtb := gtb_in (List.mem_of_getElem? (i := 1897) (by decide +kernel)) rfl
theorem lk_11_443 : Cond.methodLink RX11 443 yX11_layCode ∈ gtb := gtb_in (List.mem_of_getElem? (i := 1901) (by decide +kernel)) rfl
theorem lk_11_446 : Cond.methodLink RX11 446 yX11_firstWrong ∈ gtb := gtb_in (List.mem_of_getElem? (i := 1905) (by decide +kernel)) rfl
theorem lk_11_431 : Cond.methodLink RX11 431 yX11_isHeard ∈ gtb := gtb_in (List.mem_of_getElem? (i := 1909) (by decide +kernel)) rfl
theorem lk_L_120 : Cond.methodLink RL 120 yX11_sure ∈ gtb := gtb_in (List.mem_of_getElem? (i := 1913) (by decide +kernel)) rfl
theorem lk_L_124 : Cond.methodLink RL 124 yX11_cannot ∈ gtb := gtb_in (List.mem_of_getElem? (i := 1917) (by decide +kernel)) rfl
theorem lk_L_128 : Cond.methodLink RL 128 yX11_order ∈ gtb := gtb_in (List.mem_of_getElem? (i := 1921) (by decide +kernel)) rfl
theorem lk_L_132 : Cond.methodLink RL 132 yX11_letter ∈ gtb := gtb_in (List.mem_of_getElem? (i := 1925) (by decide +kernel)) rfl
theorem lk_L_136 : Cond.methodLink RL 136 yX11_silence ∈ gtb := gtb_in (List.mem_of_getElem? (i := 1929) (by decide +kernel)) rfl
theorem lk_11_449 : Cond.methodLink RX11 449 yX11_isCivil ∈ gtb := gtb_in (List.mem_of_getElem? (i := 1933) (by decide +kernel)) rfl
theorem lk_L_140 : Cond.methodLink RL 140 yX11_rise ∈ gtb := gtb_in (List.mem_of_getElem? (i := 1937) (by decide +kernel)) rfl
theorem lk_11_456 : Cond.methodLink RX11 456 yX11_state ∈ gtb := gtb_in (List.mem_of_getElem? (i := 1941) (by decide +kernel)) rfl
theorem lk_11_459 : Cond.methodLink RX11 459 yX11_takes ∈ gtb := gtb_in (List.mem_of_getElem? (i := 1945) (by decide +kernel)) rfl
theorem lk_11_453 : Cond.methodLink RX11 453 yX11_isOver ∈ gtb := gtb_in (List.mem_of_getElem? (i := 1949) (by decide +kernel)) rfl
theorem lk_11_462 : Cond.methodLink RX11 462 yX11_path ∈ gtb := gtb_in (List.mem_of_getElem? (i := 1953) (by decide +kernel)) rfl
theorem lk_11_465 : Cond.methodLink RX11 465 yX11_mayRise ∈ gtb := gtb_in (List.mem_of_getElem? (i := 1957) (by decide +kernel)) rfl
theorem lk_11_468 : Cond.methodLink RX11 468 yX11_changes ∈ gtb := gtb_in (List.mem_of_getElem? (i := 1961) (by decide +kernel)) rfl
theorem lk_L_144 : Cond.methodLink RL 144 yX11_keep ∈ gtb := gtb_in (List.mem_of_getElem? (i := 1965) (by decide +kernel)) rfl
theorem lk_L_148 : Cond.methodLink RL 148 yX11_back ∈ gtb := gtb_in (List.mem_of_getElem? (i := 1969) (by decide +kernel)) rfl
theorem lk_L_152 : Cond.methodLink RL 152 yX11_count ∈ gtb := gtb_in (List.mem_of_getElem? (i := 1973) (by decide +kernel)) rfl
