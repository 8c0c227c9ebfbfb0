def MW (y : MethodName) (b : ByteArray) (maxL : Nat) (ret : Option FieldType) (n : Nat) : Prop := Cond.code y b maxL ret ∈ gT ∧ Cond.initialized y.cls ∈ gT ∧ (y.cls ≠ "java/lang/invoke/MethodHandle" ∧ y.cls ≠ "java/lang/invoke/VarHandle") ∧ (parseMethodDescriptor y.desc).map (fun d => d.parameters.length) = some n
def MI (y : MethodName) : Prop := Cond.instanceMethod y ∈ gT ∧ Cond.selects y.cls y y ∈ gT
theorem ini_L : Cond.initialized "PageFormLaw" ∈ gT := gT_t (List.mem_of_getElem? (i := 0) (by decide +kernel))
theorem ini_F : Cond.initialized "PageForm" ∈ gT := gT_t (List.mem_of_getElem? (i := 1) (by decide +kernel))
theorem ini_C : Cond.initialized "PageForm$Column" ∈ gT := gT_t (List.mem_of_getElem? (i := 2) (by decide +kernel))
theorem ini_B : Cond.initialized "PageForm$Bytes" ∈ gT := gT_t (List.mem_of_getElem? (i := 3) (by decide +kernel))
theorem ini_W : Cond.initialized "PageForm$Writer" ∈ gT := gT_t (List.mem_of_getElem? (i := 4) (by decide +kernel))
theorem ini_D : Cond.initialized "PageForm$Dictionary" ∈ gT := gT_t (List.mem_of_getElem? (i := 5) (by decide +kernel))
theorem ini_R : Cond.initialized "PageForm$Reader" ∈ gT := gT_t (List.mem_of_getElem? (i := 6) (by decide +kernel))
theorem ini_V : Cond.initialized "PageForm$Values" ∈ gT := gT_t (List.mem_of_getElem? (i := 7) (by decide +kernel))
theorem ini_S : Cond.initialized "PageForm$Source" ∈ gT := gT_t (List.mem_of_getElem? (i := 8) (by decide +kernel))
theorem ini_P : Cond.initialized "PageForm$Page" ∈ gT := gT_t (List.mem_of_getElem? (i := 9) (by decide +kernel))
theorem ini_M : Cond.initialized "PageFormModel" ∈ gT := gT_t (List.mem_of_getElem? (i := 10) (by decide +kernel))
theorem ini_JS : Cond.initialized "java/lang/System" ∈ gT := gT_t (List.mem_of_getElem? (i := 11) (by decide +kernel))
theorem ini_JA : Cond.initialized "java/util/Arrays" ∈ gT := gT_t (List.mem_of_getElem? (i := 12) (by decide +kernel))
theorem ini_JL : Cond.initialized "java/lang/Long" ∈ gT := gT_t (List.mem_of_getElem? (i := 13) (by decide +kernel))
theorem ini_JM : Cond.initialized "java/lang/Math" ∈ gT := gT_t (List.mem_of_getElem? (i := 14) (by decide +kernel))
theorem ini_JI : Cond.initialized "java/lang/Integer" ∈ gT := gT_t (List.mem_of_getElem? (i := 15) (by decide +kernel))
set_option maxRecDepth 40000 in
theorem mw_F_init : MW y_F_init b_F_init 1 none 0 := ⟨gT_t (List.mem_of_getElem? (i := 20) rfl), ini_F, ⟨by decide +kernel, by decide +kernel⟩, by decide +kernel⟩
set_option maxRecDepth 40000 in
theorem mw_F_feed : MW y_F_feed b_F_feed 6 (some .boolean) 5 := ⟨gT_t (List.mem_of_getElem? (i := 304) rfl), ini_F, ⟨by decide +kernel, by decide +kernel⟩, by decide +kernel⟩
theorem mi_F_feed : MI y_F_feed := ⟨gT_t (List.mem_of_getElem? (i := 302) (by decide +kernel)), gT_t (List.mem_of_getElem? (i := 303) (by decide +kernel))⟩
set_option maxRecDepth 40000 in
theorem mw_F_end : MW y_F_end b_F_end 2 (some .boolean) 1 := ⟨gT_t (List.mem_of_getElem? (i := 316) rfl), ini_F, ⟨by decide +kernel, by decide +kernel⟩, by decide +kernel⟩
theorem mi_F_end : MI y_F_end := ⟨gT_t (List.mem_of_getElem? (i := 314) (by decide +kernel)), gT_t (List.mem_of_getElem? (i := 315) (by decide +kernel))⟩
set_option maxRecDepth 40000 in
theorem mw_F_column : MW y_F_column b_F_column 4 (some .boolean) 3 := ⟨gT_t (List.mem_of_getElem? (i := 331) rfl), ini_F, ⟨by decide +kernel, by decide +kernel⟩, by decide +kernel⟩
theorem mi_F_column : MI y_F_column := ⟨gT_t (List.mem_of_getElem? (i := 329) (by decide +kernel)), gT_t (List.mem_of_getElem? (i := 330) (by decide +kernel))⟩
set_option maxRecDepth 40000 in
theorem mw_F_add : MW y_F_add b_F_add 8 (some .boolean) 4 := ⟨gT_t (List.mem_of_getElem? (i := 343) rfl), ini_F, ⟨by decide +kernel, by decide +kernel⟩, by decide +kernel⟩
theorem mi_F_add : MI y_F_add := ⟨gT_t (List.mem_of_getElem? (i := 341) (by decide +kernel)), gT_t (List.mem_of_getElem? (i := 342) (by decide +kernel))⟩
set_option maxRecDepth 40000 in
theorem mw_F_takesValue : MW y_F_takesValue b_F_takesValue 4 (some .boolean) 2 := ⟨gT_t (List.mem_of_getElem? (i := 347) rfl), ini_F, ⟨by decide +kernel, by decide +kernel⟩, by decide +kernel⟩
theorem mi_F_takesValue : MI y_F_takesValue := ⟨gT_t (List.mem_of_getElem? (i := 346) (by decide +kernel)), gT_p (List.mem_of_getElem? (i := 0) (by decide +kernel))⟩
set_option maxRecDepth 40000 in
theorem mw_F_addValue : MW y_F_addValue b_F_addValue 3 none 1 := ⟨gT_t (List.mem_of_getElem? (i := 363) rfl), ini_F, ⟨by decide +kernel, by decide +kernel⟩, by decide +kernel⟩
theorem mi_F_addValue : MI y_F_addValue := ⟨gT_t (List.mem_of_getElem? (i := 362) (by decide +kernel)), gT_p (List.mem_of_getElem? (i := 1) (by decide +kernel))⟩
set_option maxRecDepth 40000 in
theorem mw_F_clear : MW y_F_clear b_F_clear 1 none 0 := ⟨gT_t (List.mem_of_getElem? (i := 380) rfl), ini_F, ⟨by decide +kernel, by decide +kernel⟩, by decide +kernel⟩
theorem mi_F_clear : MI y_F_clear := ⟨gT_t (List.mem_of_getElem? (i := 378) (by decide +kernel)), gT_t (List.mem_of_getElem? (i := 379) (by decide +kernel))⟩
set_option maxRecDepth 40000 in
theorem mw_F_write : MW y_F_write b_F_write 6 (some .int) 1 := ⟨gT_t (List.mem_of_getElem? (i := 384) rfl), ini_F, ⟨by decide +kernel, by decide +kernel⟩, by decide +kernel⟩
theorem mi_F_write : MI y_F_write := ⟨gT_t (List.mem_of_getElem? (i := 382) (by decide +kernel)), gT_t (List.mem_of_getElem? (i := 383) (by decide +kernel))⟩
set_option maxRecDepth 40000 in
theorem mw_F_read : MW y_F_read b_F_read 3 (some .int) 0 := ⟨gT_t (List.mem_of_getElem? (i := 569) rfl), ini_F, ⟨by decide +kernel, by decide +kernel⟩, by decide +kernel⟩
theorem mi_F_read : MI y_F_read := ⟨gT_t (List.mem_of_getElem? (i := 567) (by decide +kernel)), gT_t (List.mem_of_getElem? (i := 568) (by decide +kernel))⟩
set_option maxRecDepth 40000 in
theorem mw_F_turn : MW y_F_turn b_F_turn 1 (some .boolean) 0 := ⟨gT_t (List.mem_of_getElem? (i := 751) rfl), ini_F, ⟨by decide +kernel, by decide +kernel⟩, by decide +kernel⟩
theorem mi_F_turn : MI y_F_turn := ⟨gT_t (List.mem_of_getElem? (i := 749) (by decide +kernel)), gT_t (List.mem_of_getElem? (i := 750) (by decide +kernel))⟩
set_option maxRecDepth 40000 in
theorem mw_F_about : MW y_F_about b_F_about 2 (some .int) 1 := ⟨gT_t (List.mem_of_getElem? (i := 755) rfl), ini_F, ⟨by decide +kernel, by decide +kernel⟩, by decide +kernel⟩
theorem mi_F_about : MI y_F_about := ⟨gT_t (List.mem_of_getElem? (i := 753) (by decide +kernel)), gT_t (List.mem_of_getElem? (i := 754) (by decide +kernel))⟩
set_option maxRecDepth 40000 in
theorem mw_F_level : MW y_F_level b_F_level 3 (some .int) 2 := ⟨gT_t (List.mem_of_getElem? (i := 759) rfl), ini_F, ⟨by decide +kernel, by decide +kernel⟩, by decide +kernel⟩
theorem mi_F_level : MI y_F_level := ⟨gT_t (List.mem_of_getElem? (i := 757) (by decide +kernel)), gT_t (List.mem_of_getElem? (i := 758) (by decide +kernel))⟩
set_option maxRecDepth 40000 in
theorem mw_F_value : MW y_F_value b_F_value 3 (some .long) 1 := ⟨gT_t (List.mem_of_getElem? (i := 763) rfl), ini_F, ⟨by decide +kernel, by decide +kernel⟩, by decide +kernel⟩
theorem mi_F_value : MI y_F_value := ⟨gT_t (List.mem_of_getElem? (i := 761) (by decide +kernel)), gT_t (List.mem_of_getElem? (i := 762) (by decide +kernel))⟩
set_option maxRecDepth 40000 in
theorem mw_F_length : MW y_F_length b_F_length 3 (some .int) 1 := ⟨gT_t (List.mem_of_getElem? (i := 767) rfl), ini_F, ⟨by decide +kernel, by decide +kernel⟩, by decide +kernel⟩
theorem mi_F_length : MI y_F_length := ⟨gT_t (List.mem_of_getElem? (i := 765) (by decide +kernel)), gT_t (List.mem_of_getElem? (i := 766) (by decide +kernel))⟩
set_option maxRecDepth 40000 in
theorem mw_F_byteOf : MW y_F_byteOf b_F_byteOf 4 (some .int) 2 := ⟨gT_t (List.mem_of_getElem? (i := 772) rfl), ini_F, ⟨by decide +kernel, by decide +kernel⟩, by decide +kernel⟩
theorem mi_F_byteOf : MI y_F_byteOf := ⟨gT_t (List.mem_of_getElem? (i := 770) (by decide +kernel)), gT_t (List.mem_of_getElem? (i := 771) (by decide +kernel))⟩
set_option maxRecDepth 40000 in
theorem mw_F_most : MW y_F_most b_F_most 2 (some .int) 1 := ⟨gT_t (List.mem_of_getElem? (i := 777) rfl), ini_F, ⟨by decide +kernel, by decide +kernel⟩, by decide +kernel⟩
theorem mi_F_most : MI y_F_most := ⟨gT_t (List.mem_of_getElem? (i := 775) (by decide +kernel)), gT_t (List.mem_of_getElem? (i := 776) (by decide +kernel))⟩
set_option maxRecDepth 40000 in
theorem mw_F_output : MW y_F_output b_F_output 2 (some .int) 1 := ⟨gT_t (List.mem_of_getElem? (i := 782) rfl), ini_F, ⟨by decide +kernel, by decide +kernel⟩, by decide +kernel⟩
theorem mi_F_output : MI y_F_output := ⟨gT_t (List.mem_of_getElem? (i := 780) (by decide +kernel)), gT_t (List.mem_of_getElem? (i := 781) (by decide +kernel))⟩
set_option maxRecDepth 40000 in
theorem mw_F_widthOf : MW y_F_widthOf b_F_widthOf 3 (some .int) 1 := ⟨gT_t (List.mem_of_getElem? (i := 400) rfl), ini_F, ⟨by decide +kernel, by decide +kernel⟩, by decide +kernel⟩
theorem ms_F_widthOf : Cond.static y_F_widthOf ∈ gT := gT_t (List.mem_of_getElem? (i := 399) (by decide +kernel))
set_option maxRecDepth 40000 in
theorem mw_F_zigzag : MW y_F_zigzag b_F_zigzag 2 (some .long) 1 := ⟨gT_t (List.mem_of_getElem? (i := 529) rfl), ini_F, ⟨by decide +kernel, by decide +kernel⟩, by decide +kernel⟩
theorem ms_F_zigzag : Cond.static y_F_zigzag ∈ gT := gT_t (List.mem_of_getElem? (i := 528) (by decide +kernel))
set_option maxRecDepth 40000 in
theorem mw_F_unzigzag : MW y_F_unzigzag b_F_unzigzag 2 (some .long) 1 := ⟨gT_t (List.mem_of_getElem? (i := 621) rfl), ini_F, ⟨by decide +kernel, by decide +kernel⟩, by decide +kernel⟩
theorem ms_F_unzigzag : Cond.static y_F_unzigzag ∈ gT := gT_t (List.mem_of_getElem? (i := 620) (by decide +kernel))
set_option maxRecDepth 40000 in
theorem mw_F_checkOf : MW y_F_checkOf b_F_checkOf 5 (some .int) 3 := ⟨gT_t (List.mem_of_getElem? (i := 563) rfl), ini_F, ⟨by decide +kernel, by decide +kernel⟩, by decide +kernel⟩
theorem ms_F_checkOf : Cond.static y_F_checkOf ∈ gT := gT_t (List.mem_of_getElem? (i := 562) (by decide +kernel))
set_option maxRecDepth 40000 in
theorem mw_M_init : MW y_M_init b_M_init 1 none 0 := ⟨gT_t (List.mem_of_getElem? (i := 787) rfl), ini_M, ⟨by decide +kernel, by decide +kernel⟩, by decide +kernel⟩
set_option maxRecDepth 40000 in
theorem mw_M_put : MW y_M_put b_M_put 2 none 1 := ⟨gT_t (List.mem_of_getElem? (i := 974) rfl), ini_M, ⟨by decide +kernel, by decide +kernel⟩, by decide +kernel⟩
theorem mi_M_put : MI y_M_put := ⟨gT_t (List.mem_of_getElem? (i := 973) (by decide +kernel)), gT_p (List.mem_of_getElem? (i := 42) (by decide +kernel))⟩
set_option maxRecDepth 40000 in
theorem mw_M_varint : MW y_M_varint b_M_varint 6 (some .long) 1 := ⟨gT_t (List.mem_of_getElem? (i := 1074) rfl), ini_M, ⟨by decide +kernel, by decide +kernel⟩, by decide +kernel⟩
theorem mi_M_varint : MI y_M_varint := ⟨gT_t (List.mem_of_getElem? (i := 1073) (by decide +kernel)), gT_p (List.mem_of_getElem? (i := 64) (by decide +kernel))⟩
set_option maxRecDepth 40000 in
theorem mw_M_putVarint : MW y_M_putVarint b_M_putVarint 5 none 1 := ⟨gT_t (List.mem_of_getElem? (i := 969) rfl), ini_M, ⟨by decide +kernel, by decide +kernel⟩, by decide +kernel⟩
theorem mi_M_putVarint : MI y_M_putVarint := ⟨gT_t (List.mem_of_getElem? (i := 968) (by decide +kernel)), gT_p (List.mem_of_getElem? (i := 41) (by decide +kernel))⟩
set_option maxRecDepth 40000 in
theorem mw_M_putFixed : MW y_M_putFixed b_M_putFixed 5 none 2 := ⟨gT_t (List.mem_of_getElem? (i := 986) rfl), ini_M, ⟨by decide +kernel, by decide +kernel⟩, by decide +kernel⟩
theorem mi_M_putFixed : MI y_M_putFixed := ⟨gT_t (List.mem_of_getElem? (i := 985) (by decide +kernel)), gT_p (List.mem_of_getElem? (i := 45) (by decide +kernel))⟩
set_option maxRecDepth 40000 in
theorem mw_M_fixed : MW y_M_fixed b_M_fixed 6 (some .long) 2 := ⟨gT_t (List.mem_of_getElem? (i := 1079) rfl), ini_M, ⟨by decide +kernel, by decide +kernel⟩, by decide +kernel⟩
theorem mi_M_fixed : MI y_M_fixed := ⟨gT_t (List.mem_of_getElem? (i := 1078) (by decide +kernel)), gT_p (List.mem_of_getElem? (i := 65) (by decide +kernel))⟩
set_option maxRecDepth 40000 in
theorem mw_M_alike : MW y_M_alike b_M_alike 4 (some .int) 3 := ⟨gT_t (List.mem_of_getElem? (i := 964) rfl), ini_M, ⟨by decide +kernel, by decide +kernel⟩, by decide +kernel⟩
theorem ms_M_alike : Cond.static y_M_alike ∈ gT := gT_t (List.mem_of_getElem? (i := 963) (by decide +kernel))
set_option maxRecDepth 40000 in
theorem mw_M_writeRuns : MW y_M_writeRuns b_M_writeRuns 11 none 3 := ⟨gT_t (List.mem_of_getElem? (i := 961) rfl), ini_M, ⟨by decide +kernel, by decide +kernel⟩, by decide +kernel⟩
theorem mi_M_writeRuns : MI y_M_writeRuns := ⟨gT_t (List.mem_of_getElem? (i := 960) (by decide +kernel)), gT_p (List.mem_of_getElem? (i := 40) (by decide +kernel))⟩
set_option maxRecDepth 40000 in
theorem mw_M_bitsAt : MW y_M_bitsAt b_M_bitsAt 6 (some .int) 3 := ⟨gT_t (List.mem_of_getElem? (i := 1107) rfl), ini_M, ⟨by decide +kernel, by decide +kernel⟩, by decide +kernel⟩
theorem mi_M_bitsAt : MI y_M_bitsAt := ⟨gT_t (List.mem_of_getElem? (i := 1106) (by decide +kernel)), gT_p (List.mem_of_getElem? (i := 71) (by decide +kernel))⟩
set_option maxRecDepth 40000 in
theorem mw_M_readRuns : MW y_M_readRuns b_M_readRuns 10 none 4 := ⟨gT_t (List.mem_of_getElem? (i := 1099) rfl), ini_M, ⟨by decide +kernel, by decide +kernel⟩, by decide +kernel⟩
theorem mi_M_readRuns : MI y_M_readRuns := ⟨gT_t (List.mem_of_getElem? (i := 1098) (by decide +kernel)), gT_p (List.mem_of_getElem? (i := 69) (by decide +kernel))⟩
set_option maxRecDepth 40000 in
theorem mw_M_readOne : MW y_M_readOne b_M_readOne 11 (some .int) 6 := ⟨gT_t (List.mem_of_getElem? (i := 1103) rfl), ini_M, ⟨by decide +kernel, by decide +kernel⟩, by decide +kernel⟩
theorem mi_M_readOne : MI y_M_readOne := ⟨gT_t (List.mem_of_getElem? (i := 1102) (by decide +kernel)), gT_p (List.mem_of_getElem? (i := 70) (by decide +kernel))⟩
set_option maxRecDepth 40000 in
theorem mw_M_readGroups : MW y_M_readGroups b_M_readGroups 10 (some .int) 6 := ⟨gT_t (List.mem_of_getElem? (i := 1111) rfl), ini_M, ⟨by decide +kernel, by decide +kernel⟩, by decide +kernel⟩
theorem mi_M_readGroups : MI y_M_readGroups := ⟨gT_t (List.mem_of_getElem? (i := 1110) (by decide +kernel)), gT_p (List.mem_of_getElem? (i := 72) (by decide +kernel))⟩
set_option maxRecDepth 40000 in
theorem mw_M_zigzag : MW y_M_zigzag b_M_zigzag 2 (some .long) 1 := ⟨gT_t (List.mem_of_getElem? (i := 993) rfl), ini_M, ⟨by decide +kernel, by decide +kernel⟩, by decide +kernel⟩
theorem ms_M_zigzag : Cond.static y_M_zigzag ∈ gT := gT_t (List.mem_of_getElem? (i := 992) (by decide +kernel))
set_option maxRecDepth 40000 in
theorem mw_M_unzigzag : MW y_M_unzigzag b_M_unzigzag 2 (some .long) 1 := ⟨gT_t (List.mem_of_getElem? (i := 1086) rfl), ini_M, ⟨by decide +kernel, by decide +kernel⟩, by decide +kernel⟩
theorem ms_M_unzigzag : Cond.static y_M_unzigzag ∈ gT := gT_t (List.mem_of_getElem? (i := 1085) (by decide +kernel))
set_option maxRecDepth 40000 in
theorem mw_M_writeCode : MW y_M_writeCode b_M_writeCode 3 none 0 := ⟨gT_t (List.mem_of_getElem? (i := 1022) rfl), ini_M, ⟨by decide +kernel, by decide +kernel⟩, by decide +kernel⟩
theorem mi_M_writeCode : MI y_M_writeCode := ⟨gT_t (List.mem_of_getElem? (i := 1021) (by decide +kernel)), gT_p (List.mem_of_getElem? (i := 53) (by decide +kernel))⟩
set_option maxRecDepth 40000 in
theorem mw_M_difference : MW y_M_difference b_M_difference 2 (some .long) 1 := ⟨gT_t (List.mem_of_getElem? (i := 998) rfl), ini_M, ⟨by decide +kernel, by decide +kernel⟩, by decide +kernel⟩
theorem mi_M_difference : MI y_M_difference := ⟨gT_t (List.mem_of_getElem? (i := 997) (by decide +kernel)), gT_p (List.mem_of_getElem? (i := 47) (by decide +kernel))⟩
set_option maxRecDepth 40000 in
theorem mw_M_writeLongs : MW y_M_writeLongs b_M_writeLongs 6 none 0 := ⟨gT_t (List.mem_of_getElem? (i := 990) rfl), ini_M, ⟨by decide +kernel, by decide +kernel⟩, by decide +kernel⟩
theorem mi_M_writeLongs : MI y_M_writeLongs := ⟨gT_t (List.mem_of_getElem? (i := 989) (by decide +kernel)), gT_p (List.mem_of_getElem? (i := 46) (by decide +kernel))⟩
set_option maxRecDepth 40000 in
theorem mw_M_widthOf : MW y_M_widthOf b_M_widthOf 7 (some .int) 3 := ⟨gT_t (List.mem_of_getElem? (i := 1002) rfl), ini_M, ⟨by decide +kernel, by decide +kernel⟩, by decide +kernel⟩
theorem mi_M_widthOf : MI y_M_widthOf := ⟨gT_t (List.mem_of_getElem? (i := 1001) (by decide +kernel)), gT_p (List.mem_of_getElem? (i := 48) (by decide +kernel))⟩
set_option maxRecDepth 40000 in
theorem mw_M_writePart : MW y_M_writePart b_M_writePart 10 none 4 := ⟨gT_t (List.mem_of_getElem? (i := 1006) rfl), ini_M, ⟨by decide +kernel, by decide +kernel⟩, by decide +kernel⟩
theorem mi_M_writePart : MI y_M_writePart := ⟨gT_t (List.mem_of_getElem? (i := 1005) (by decide +kernel)), gT_p (List.mem_of_getElem? (i := 49) (by decide +kernel))⟩
set_option maxRecDepth 40000 in
theorem mw_M_readCode : MW y_M_readCode b_M_readCode 4 none 1 := ⟨gT_t (List.mem_of_getElem? (i := 1136) rfl), ini_M, ⟨by decide +kernel, by decide +kernel⟩, by decide +kernel⟩
theorem mi_M_readCode : MI y_M_readCode := ⟨gT_t (List.mem_of_getElem? (i := 1135) (by decide +kernel)), gT_p (List.mem_of_getElem? (i := 78) (by decide +kernel))⟩
set_option maxRecDepth 40000 in
theorem mw_M_readLongs : MW y_M_readLongs b_M_readLongs 6 none 2 := ⟨gT_t (List.mem_of_getElem? (i := 1140) rfl), ini_M, ⟨by decide +kernel, by decide +kernel⟩, by decide +kernel⟩
theorem mi_M_readLongs : MI y_M_readLongs := ⟨gT_t (List.mem_of_getElem? (i := 1139) (by decide +kernel)), gT_p (List.mem_of_getElem? (i := 79) (by decide +kernel))⟩
set_option maxRecDepth 40000 in
theorem mw_M_readBlock : MW y_M_readBlock b_M_readBlock 13 none 3 := ⟨gT_t (List.mem_of_getElem? (i := 1145) rfl), ini_M, ⟨by decide +kernel, by decide +kernel⟩, by decide +kernel⟩
theorem mi_M_readBlock : MI y_M_readBlock := ⟨gT_t (List.mem_of_getElem? (i := 1144) (by decide +kernel)), gT_p (List.mem_of_getElem? (i := 80) (by decide +kernel))⟩
set_option maxRecDepth 40000 in
theorem mw_M_feed : MW y_M_feed b_M_feed 8 (some .boolean) 5 := ⟨gT_t (List.mem_of_getElem? (i := 917) rfl), ini_M, ⟨by decide +kernel, by decide +kernel⟩, by decide +kernel⟩
theorem mi_M_feed : MI y_M_feed := ⟨gT_t (List.mem_of_getElem? (i := 915) (by decide +kernel)), gT_t (List.mem_of_getElem? (i := 916) (by decide +kernel))⟩
set_option maxRecDepth 40000 in
theorem mw_M_end : MW y_M_end b_M_end 3 (some .boolean) 1 := ⟨gT_t (List.mem_of_getElem? (i := 921) rfl), ini_M, ⟨by decide +kernel, by decide +kernel⟩, by decide +kernel⟩
theorem mi_M_end : MI y_M_end := ⟨gT_t (List.mem_of_getElem? (i := 919) (by decide +kernel)), gT_t (List.mem_of_getElem? (i := 920) (by decide +kernel))⟩
set_option maxRecDepth 40000 in
theorem mw_M_empty : MW y_M_empty b_M_empty 1 none 0 := ⟨gT_t (List.mem_of_getElem? (i := 929) rfl), ini_M, ⟨by decide +kernel, by decide +kernel⟩, by decide +kernel⟩
theorem mi_M_empty : MI y_M_empty := ⟨gT_t (List.mem_of_getElem? (i := 928) (by decide +kernel)), gT_p (List.mem_of_getElem? (i := 35) (by decide +kernel))⟩
set_option maxRecDepth 40000 in
theorem mw_M_column : MW y_M_column b_M_column 4 (some .boolean) 3 := ⟨gT_t (List.mem_of_getElem? (i := 925) rfl), ini_M, ⟨by decide +kernel, by decide +kernel⟩, by decide +kernel⟩
theorem mi_M_column : MI y_M_column := ⟨gT_t (List.mem_of_getElem? (i := 923) (by decide +kernel)), gT_t (List.mem_of_getElem? (i := 924) (by decide +kernel))⟩
set_option maxRecDepth 40000 in
theorem mw_M_isOne : MW y_M_isOne b_M_isOne 3 (some .boolean) 1 := ⟨gT_t (List.mem_of_getElem? (i := 937) rfl), ini_M, ⟨by decide +kernel, by decide +kernel⟩, by decide +kernel⟩
theorem mi_M_isOne : MI y_M_isOne := ⟨gT_t (List.mem_of_getElem? (i := 936) (by decide +kernel)), gT_p (List.mem_of_getElem? (i := 36) (by decide +kernel))⟩
set_option maxRecDepth 40000 in
theorem mw_M_add : MW y_M_add b_M_add 9 (some .boolean) 4 := ⟨gT_t (List.mem_of_getElem? (i := 933) rfl), ini_M, ⟨by decide +kernel, by decide +kernel⟩, by decide +kernel⟩
theorem mi_M_add : MI y_M_add := ⟨gT_t (List.mem_of_getElem? (i := 931) (by decide +kernel)), gT_t (List.mem_of_getElem? (i := 932) (by decide +kernel))⟩
set_option maxRecDepth 40000 in
theorem mw_M_clear : MW y_M_clear b_M_clear 1 none 0 := ⟨gT_t (List.mem_of_getElem? (i := 941) rfl), ini_M, ⟨by decide +kernel, by decide +kernel⟩, by decide +kernel⟩
theorem mi_M_clear : MI y_M_clear := ⟨gT_t (List.mem_of_getElem? (i := 939) (by decide +kernel)), gT_t (List.mem_of_getElem? (i := 940) (by decide +kernel))⟩
set_option maxRecDepth 40000 in
theorem mw_M_lengthOf : MW y_M_lengthOf b_M_lengthOf 2 (some .int) 1 := ⟨gT_t (List.mem_of_getElem? (i := 1018) rfl), ini_M, ⟨by decide +kernel, by decide +kernel⟩, by decide +kernel⟩
theorem mi_M_lengthOf : MI y_M_lengthOf := ⟨gT_t (List.mem_of_getElem? (i := 1017) (by decide +kernel)), gT_p (List.mem_of_getElem? (i := 52) (by decide +kernel))⟩
set_option maxRecDepth 40000 in
theorem mw_M_same : MW y_M_same b_M_same 5 (some .boolean) 2 := ⟨gT_t (List.mem_of_getElem? (i := 1042) rfl), ini_M, ⟨by decide +kernel, by decide +kernel⟩, by decide +kernel⟩
theorem mi_M_same : MI y_M_same := ⟨gT_t (List.mem_of_getElem? (i := 1041) (by decide +kernel)), gT_p (List.mem_of_getElem? (i := 58) (by decide +kernel))⟩
set_option maxRecDepth 40000 in
theorem mw_M_firstLike : MW y_M_firstLike b_M_firstLike 3 (some .int) 1 := ⟨gT_t (List.mem_of_getElem? (i := 1038) rfl), ini_M, ⟨by decide +kernel, by decide +kernel⟩, by decide +kernel⟩
theorem mi_M_firstLike : MI y_M_firstLike := ⟨gT_t (List.mem_of_getElem? (i := 1037) (by decide +kernel)), gT_p (List.mem_of_getElem? (i := 57) (by decide +kernel))⟩
set_option maxRecDepth 40000 in
theorem mw_M_putText : MW y_M_putText b_M_putText 3 none 1 := ⟨gT_t (List.mem_of_getElem? (i := 1046) rfl), ini_M, ⟨by decide +kernel, by decide +kernel⟩, by decide +kernel⟩
theorem mi_M_putText : MI y_M_putText := ⟨gT_t (List.mem_of_getElem? (i := 1045) (by decide +kernel)), gT_p (List.mem_of_getElem? (i := 59) (by decide +kernel))⟩
set_option maxRecDepth 40000 in
theorem mw_M_writeLengths : MW y_M_writeLengths b_M_writeLengths 2 none 0 := ⟨gT_t (List.mem_of_getElem? (i := 1014) rfl), ini_M, ⟨by decide +kernel, by decide +kernel⟩, by decide +kernel⟩
theorem mi_M_writeLengths : MI y_M_writeLengths := ⟨gT_t (List.mem_of_getElem? (i := 1013) (by decide +kernel)), gT_p (List.mem_of_getElem? (i := 51) (by decide +kernel))⟩
set_option maxRecDepth 40000 in
theorem mw_M_inCommon : MW y_M_inCommon b_M_inCommon 3 (some .int) 1 := ⟨gT_t (List.mem_of_getElem? (i := 1030) rfl), ini_M, ⟨by decide +kernel, by decide +kernel⟩, by decide +kernel⟩
theorem mi_M_inCommon : MI y_M_inCommon := ⟨gT_t (List.mem_of_getElem? (i := 1029) (by decide +kernel)), gT_p (List.mem_of_getElem? (i := 55) (by decide +kernel))⟩
set_option maxRecDepth 40000 in
theorem mw_M_writeFront : MW y_M_writeFront b_M_writeFront 3 none 0 := ⟨gT_t (List.mem_of_getElem? (i := 1026) rfl), ini_M, ⟨by decide +kernel, by decide +kernel⟩, by decide +kernel⟩
theorem mi_M_writeFront : MI y_M_writeFront := ⟨gT_t (List.mem_of_getElem? (i := 1025) (by decide +kernel)), gT_p (List.mem_of_getElem? (i := 54) (by decide +kernel))⟩
set_option maxRecDepth 40000 in
theorem mw_M_writeDictionary : MW y_M_writeDictionary b_M_writeDictionary 4 none 0 := ⟨gT_t (List.mem_of_getElem? (i := 1034) rfl), ini_M, ⟨by decide +kernel, by decide +kernel⟩, by decide +kernel⟩
theorem mi_M_writeDictionary : MI y_M_writeDictionary := ⟨gT_t (List.mem_of_getElem? (i := 1033) (by decide +kernel)), gT_p (List.mem_of_getElem? (i := 56) (by decide +kernel))⟩
set_option maxRecDepth 40000 in
theorem mw_M_codings : MW y_M_codings b_M_codings 1 (some .int) 0 := ⟨gT_t (List.mem_of_getElem? (i := 949) rfl), ini_M, ⟨by decide +kernel, by decide +kernel⟩, by decide +kernel⟩
theorem mi_M_codings : MI y_M_codings := ⟨gT_t (List.mem_of_getElem? (i := 948) (by decide +kernel)), gT_p (List.mem_of_getElem? (i := 37) (by decide +kernel))⟩
set_option maxRecDepth 40000 in
theorem mw_M_wide : MW y_M_wide b_M_wide 1 (some .int) 0 := ⟨gT_t (List.mem_of_getElem? (i := 982) rfl), ini_M, ⟨by decide +kernel, by decide +kernel⟩, by decide +kernel⟩
theorem mi_M_wide : MI y_M_wide := ⟨gT_t (List.mem_of_getElem? (i := 981) (by decide +kernel)), gT_p (List.mem_of_getElem? (i := 44) (by decide +kernel))⟩
set_option maxRecDepth 40000 in
theorem mw_M_writeBools : MW y_M_writeBools b_M_writeBools 5 none 1 := ⟨gT_t (List.mem_of_getElem? (i := 957) rfl), ini_M, ⟨by decide +kernel, by decide +kernel⟩, by decide +kernel⟩
theorem mi_M_writeBools : MI y_M_writeBools := ⟨gT_t (List.mem_of_getElem? (i := 956) (by decide +kernel)), gT_p (List.mem_of_getElem? (i := 39) (by decide +kernel))⟩
set_option maxRecDepth 40000 in
theorem mw_M_firstWhole : MW y_M_firstWhole b_M_firstWhole 3 (some .int) 1 := ⟨gT_t (List.mem_of_getElem? (i := 1010) rfl), ini_M, ⟨by decide +kernel, by decide +kernel⟩, by decide +kernel⟩
theorem mi_M_firstWhole : MI y_M_firstWhole := ⟨gT_t (List.mem_of_getElem? (i := 1009) (by decide +kernel)), gT_p (List.mem_of_getElem? (i := 50) (by decide +kernel))⟩
set_option maxRecDepth 40000 in
theorem mw_M_writeWholes : MW y_M_writeWholes b_M_writeWholes 5 none 1 := ⟨gT_t (List.mem_of_getElem? (i := 978) rfl), ini_M, ⟨by decide +kernel, by decide +kernel⟩, by decide +kernel⟩
theorem mi_M_writeWholes : MI y_M_writeWholes := ⟨gT_t (List.mem_of_getElem? (i := 977) (by decide +kernel)), gT_p (List.mem_of_getElem? (i := 43) (by decide +kernel))⟩
set_option maxRecDepth 40000 in
theorem mw_M_writeValues : MW y_M_writeValues b_M_writeValues 3 none 1 := ⟨gT_t (List.mem_of_getElem? (i := 953) rfl), ini_M, ⟨by decide +kernel, by decide +kernel⟩, by decide +kernel⟩
theorem mi_M_writeValues : MI y_M_writeValues := ⟨gT_t (List.mem_of_getElem? (i := 952) (by decide +kernel)), gT_p (List.mem_of_getElem? (i := 38) (by decide +kernel))⟩
set_option maxRecDepth 40000 in
theorem mw_M_putLevels : MW y_M_putLevels b_M_putLevels 6 none 2 := ⟨gT_t (List.mem_of_getElem? (i := 1050) rfl), ini_M, ⟨by decide +kernel, by decide +kernel⟩, by decide +kernel⟩
theorem mi_M_putLevels : MI y_M_putLevels := ⟨gT_t (List.mem_of_getElem? (i := 1049) (by decide +kernel)), gT_p (List.mem_of_getElem? (i := 60) (by decide +kernel))⟩
set_option maxRecDepth 40000 in
theorem mw_M_compare : MW y_M_compare b_M_compare 4 (some .int) 2 := ⟨gT_t (List.mem_of_getElem? (i := 1058) rfl), ini_M, ⟨by decide +kernel, by decide +kernel⟩, by decide +kernel⟩
theorem mi_M_compare : MI y_M_compare := ⟨gT_t (List.mem_of_getElem? (i := 1057) (by decide +kernel)), gT_p (List.mem_of_getElem? (i := 62) (by decide +kernel))⟩
set_option maxRecDepth 40000 in
theorem mw_M_mostOf : MW y_M_mostOf b_M_mostOf 5 (some .int) 1 := ⟨gT_t (List.mem_of_getElem? (i := 1054) rfl), ini_M, ⟨by decide +kernel, by decide +kernel⟩, by decide +kernel⟩
theorem mi_M_mostOf : MI y_M_mostOf := ⟨gT_t (List.mem_of_getElem? (i := 1053) (by decide +kernel)), gT_p (List.mem_of_getElem? (i := 61) (by decide +kernel))⟩
set_option maxRecDepth 40000 in
theorem mw_M_putOne : MW y_M_putOne b_M_putOne 2 none 1 := ⟨gT_t (List.mem_of_getElem? (i := 1062) rfl), ini_M, ⟨by decide +kernel, by decide +kernel⟩, by decide +kernel⟩
theorem mi_M_putOne : MI y_M_putOne := ⟨gT_t (List.mem_of_getElem? (i := 1061) (by decide +kernel)), gT_p (List.mem_of_getElem? (i := 63) (by decide +kernel))⟩
set_option maxRecDepth 40000 in
theorem mw_M_check : MW y_M_check b_M_check 7 (some .int) 3 := ⟨gT_t (List.mem_of_getElem? (i := 1065) rfl), ini_M, ⟨by decide +kernel, by decide +kernel⟩, by decide +kernel⟩
theorem ms_M_check : Cond.static y_M_check ∈ gT := gT_t (List.mem_of_getElem? (i := 1064) (by decide +kernel))
set_option maxRecDepth 40000 in
theorem mw_M_write : MW y_M_write b_M_write 4 (some .int) 1 := ⟨gT_t (List.mem_of_getElem? (i := 945) rfl), ini_M, ⟨by decide +kernel, by decide +kernel⟩, by decide +kernel⟩
theorem mi_M_write : MI y_M_write := ⟨gT_t (List.mem_of_getElem? (i := 943) (by decide +kernel)), gT_t (List.mem_of_getElem? (i := 944) (by decide +kernel))⟩
set_option maxRecDepth 40000 in
theorem mw_M_take : MW y_M_take b_M_take 5 none 2 := ⟨gT_t (List.mem_of_getElem? (i := 1128) rfl), ini_M, ⟨by decide +kernel, by decide +kernel⟩, by decide +kernel⟩
theorem mi_M_take : MI y_M_take := ⟨gT_t (List.mem_of_getElem? (i := 1127) (by decide +kernel)), gT_p (List.mem_of_getElem? (i := 76) (by decide +kernel))⟩
set_option maxRecDepth 40000 in
theorem mw_M_readPlain : MW y_M_readPlain b_M_readPlain 5 none 1 := ⟨gT_t (List.mem_of_getElem? (i := 1124) rfl), ini_M, ⟨by decide +kernel, by decide +kernel⟩, by decide +kernel⟩
theorem mi_M_readPlain : MI y_M_readPlain := ⟨gT_t (List.mem_of_getElem? (i := 1123) (by decide +kernel)), gT_p (List.mem_of_getElem? (i := 75) (by decide +kernel))⟩
set_option maxRecDepth 40000 in
theorem mw_M_readLengths : MW y_M_readLengths b_M_readLengths 3 none 1 := ⟨gT_t (List.mem_of_getElem? (i := 1132) rfl), ini_M, ⟨by decide +kernel, by decide +kernel⟩, by decide +kernel⟩
theorem mi_M_readLengths : MI y_M_readLengths := ⟨gT_t (List.mem_of_getElem? (i := 1131) (by decide +kernel)), gT_p (List.mem_of_getElem? (i := 77) (by decide +kernel))⟩
set_option maxRecDepth 40000 in
theorem mw_M_told : MW y_M_told b_M_told 2 (some .int) 1 := ⟨gT_t (List.mem_of_getElem? (i := 1152) rfl), ini_M, ⟨by decide +kernel, by decide +kernel⟩, by decide +kernel⟩
theorem ms_M_told : Cond.static y_M_told ∈ gT := gT_t (List.mem_of_getElem? (i := 1151) (by decide +kernel))
set_option maxRecDepth 40000 in
theorem mw_M_readFront : MW y_M_readFront b_M_readFront 4 none 1 := ⟨gT_t (List.mem_of_getElem? (i := 1149) rfl), ini_M, ⟨by decide +kernel, by decide +kernel⟩, by decide +kernel⟩
theorem mi_M_readFront : MI y_M_readFront := ⟨gT_t (List.mem_of_getElem? (i := 1148) (by decide +kernel)), gT_p (List.mem_of_getElem? (i := 81) (by decide +kernel))⟩
set_option maxRecDepth 40000 in
theorem mw_M_readDictionary : MW y_M_readDictionary b_M_readDictionary 10 none 1 := ⟨gT_t (List.mem_of_getElem? (i := 1156) rfl), ini_M, ⟨by decide +kernel, by decide +kernel⟩, by decide +kernel⟩
theorem mi_M_readDictionary : MI y_M_readDictionary := ⟨gT_t (List.mem_of_getElem? (i := 1155) (by decide +kernel)), gT_p (List.mem_of_getElem? (i := 82) (by decide +kernel))⟩
set_option maxRecDepth 40000 in
theorem mw_M_readTexts : MW y_M_readTexts b_M_readTexts 3 none 2 := ⟨gT_t (List.mem_of_getElem? (i := 1120) rfl), ini_M, ⟨by decide +kernel, by decide +kernel⟩, by decide +kernel⟩
theorem mi_M_readTexts : MI y_M_readTexts := ⟨gT_t (List.mem_of_getElem? (i := 1119) (by decide +kernel)), gT_p (List.mem_of_getElem? (i := 74) (by decide +kernel))⟩
set_option maxRecDepth 40000 in
theorem mw_M_readBools : MW y_M_readBools b_M_readBools 5 none 2 := ⟨gT_t (List.mem_of_getElem? (i := 1116) rfl), ini_M, ⟨by decide +kernel, by decide +kernel⟩, by decide +kernel⟩
theorem mi_M_readBools : MI y_M_readBools := ⟨gT_t (List.mem_of_getElem? (i := 1115) (by decide +kernel)), gT_p (List.mem_of_getElem? (i := 73) (by decide +kernel))⟩
set_option maxRecDepth 40000 in
theorem mw_M_whole : MW y_M_whole b_M_whole 3 (some .long) 0 := ⟨gT_t (List.mem_of_getElem? (i := 1164) rfl), ini_M, ⟨by decide +kernel, by decide +kernel⟩, by decide +kernel⟩
theorem mi_M_whole : MI y_M_whole := ⟨gT_t (List.mem_of_getElem? (i := 1163) (by decide +kernel)), gT_p (List.mem_of_getElem? (i := 84) (by decide +kernel))⟩
set_option maxRecDepth 40000 in
theorem mw_M_readWholes : MW y_M_readWholes b_M_readWholes 4 none 2 := ⟨gT_t (List.mem_of_getElem? (i := 1160) rfl), ini_M, ⟨by decide +kernel, by decide +kernel⟩, by decide +kernel⟩
theorem mi_M_readWholes : MI y_M_readWholes := ⟨gT_t (List.mem_of_getElem? (i := 1159) (by decide +kernel)), gT_p (List.mem_of_getElem? (i := 83) (by decide +kernel))⟩
set_option maxRecDepth 40000 in
theorem mw_M_readWords : MW y_M_readWords b_M_readWords 6 none 1 := ⟨gT_t (List.mem_of_getElem? (i := 1168) rfl), ini_M, ⟨by decide +kernel, by decide +kernel⟩, by decide +kernel⟩
theorem mi_M_readWords : MI y_M_readWords := ⟨gT_t (List.mem_of_getElem? (i := 1167) (by decide +kernel)), gT_p (List.mem_of_getElem? (i := 85) (by decide +kernel))⟩
set_option maxRecDepth 40000 in
theorem mw_M_readLevels : MW y_M_readLevels b_M_readLevels 9 none 3 := ⟨gT_t (List.mem_of_getElem? (i := 1095) rfl), ini_M, ⟨by decide +kernel, by decide +kernel⟩, by decide +kernel⟩
theorem mi_M_readLevels : MI y_M_readLevels := ⟨gT_t (List.mem_of_getElem? (i := 1094) (by decide +kernel)), gT_p (List.mem_of_getElem? (i := 68) (by decide +kernel))⟩
set_option maxRecDepth 40000 in
theorem mw_M_readTold : MW y_M_readTold b_M_readTold 5 none 1 := ⟨gT_t (List.mem_of_getElem? (i := 1083) rfl), ini_M, ⟨by decide +kernel, by decide +kernel⟩, by decide +kernel⟩
theorem mi_M_readTold : MI y_M_readTold := ⟨gT_t (List.mem_of_getElem? (i := 1082) (by decide +kernel)), gT_p (List.mem_of_getElem? (i := 66) (by decide +kernel))⟩
set_option maxRecDepth 40000 in
theorem mw_M_against : MW y_M_against b_M_against 5 (some .int) 2 := ⟨gT_t (List.mem_of_getElem? (i := 1176) rfl), ini_M, ⟨by decide +kernel, by decide +kernel⟩, by decide +kernel⟩
theorem mi_M_against : MI y_M_against := ⟨gT_t (List.mem_of_getElem? (i := 1175) (by decide +kernel)), gT_p (List.mem_of_getElem? (i := 87) (by decide +kernel))⟩
set_option maxRecDepth 40000 in
theorem mw_M_isMost : MW y_M_isMost b_M_isMost 7 (some .boolean) 2 := ⟨gT_t (List.mem_of_getElem? (i := 1172) rfl), ini_M, ⟨by decide +kernel, by decide +kernel⟩, by decide +kernel⟩
theorem mi_M_isMost : MI y_M_isMost := ⟨gT_t (List.mem_of_getElem? (i := 1171) (by decide +kernel)), gT_p (List.mem_of_getElem? (i := 86) (by decide +kernel))⟩
set_option maxRecDepth 40000 in
theorem mw_M_readBody : MW y_M_readBody b_M_readBody 6 none 3 := ⟨gT_t (List.mem_of_getElem? (i := 1091) rfl), ini_M, ⟨by decide +kernel, by decide +kernel⟩, by decide +kernel⟩
theorem mi_M_readBody : MI y_M_readBody := ⟨gT_t (List.mem_of_getElem? (i := 1090) (by decide +kernel)), gT_p (List.mem_of_getElem? (i := 67) (by decide +kernel))⟩
set_option maxRecDepth 40000 in
theorem mw_M_read : MW y_M_read b_M_read 10 (some .int) 0 := ⟨gT_t (List.mem_of_getElem? (i := 1070) rfl), ini_M, ⟨by decide +kernel, by decide +kernel⟩, by decide +kernel⟩
theorem mi_M_read : MI y_M_read := ⟨gT_t (List.mem_of_getElem? (i := 1068) (by decide +kernel)), gT_t (List.mem_of_getElem? (i := 1069) (by decide +kernel))⟩
set_option maxRecDepth 40000 in
theorem mw_M_turn : MW y_M_turn b_M_turn 2 (some .boolean) 0 := ⟨gT_t (List.mem_of_getElem? (i := 1180) rfl), ini_M, ⟨by decide +kernel, by decide +kernel⟩, by decide +kernel⟩
theorem mi_M_turn : MI y_M_turn := ⟨gT_t (List.mem_of_getElem? (i := 1178) (by decide +kernel)), gT_t (List.mem_of_getElem? (i := 1179) (by decide +kernel))⟩
set_option maxRecDepth 40000 in
theorem mw_M_about : MW y_M_about b_M_about 2 (some .int) 1 := ⟨gT_t (List.mem_of_getElem? (i := 1184) rfl), ini_M, ⟨by decide +kernel, by decide +kernel⟩, by decide +kernel⟩
theorem mi_M_about : MI y_M_about := ⟨gT_t (List.mem_of_getElem? (i := 1182) (by decide +kernel)), gT_t (List.mem_of_getElem? (i := 1183) (by decide +kernel))⟩
set_option maxRecDepth 40000 in
theorem mw_M_level : MW y_M_level b_M_level 5 (some .int) 2 := ⟨gT_t (List.mem_of_getElem? (i := 1188) rfl), ini_M, ⟨by decide +kernel, by decide +kernel⟩, by decide +kernel⟩
theorem mi_M_level : MI y_M_level := ⟨gT_t (List.mem_of_getElem? (i := 1186) (by decide +kernel)), gT_t (List.mem_of_getElem? (i := 1187) (by decide +kernel))⟩
set_option maxRecDepth 40000 in
theorem mw_M_isValue : MW y_M_isValue b_M_isValue 2 (some .boolean) 1 := ⟨gT_t (List.mem_of_getElem? (i := 1196) rfl), ini_M, ⟨by decide +kernel, by decide +kernel⟩, by decide +kernel⟩
theorem mi_M_isValue : MI y_M_isValue := ⟨gT_t (List.mem_of_getElem? (i := 1195) (by decide +kernel)), gT_p (List.mem_of_getElem? (i := 88) (by decide +kernel))⟩
set_option maxRecDepth 40000 in
theorem mw_M_value : MW y_M_value b_M_value 2 (some .long) 1 := ⟨gT_t (List.mem_of_getElem? (i := 1192) rfl), ini_M, ⟨by decide +kernel, by decide +kernel⟩, by decide +kernel⟩
theorem mi_M_value : MI y_M_value := ⟨gT_t (List.mem_of_getElem? (i := 1190) (by decide +kernel)), gT_t (List.mem_of_getElem? (i := 1191) (by decide +kernel))⟩
set_option maxRecDepth 40000 in
theorem mw_M_length : MW y_M_length b_M_length 2 (some .int) 1 := ⟨gT_t (List.mem_of_getElem? (i := 1200) rfl), ini_M, ⟨by decide +kernel, by decide +kernel⟩, by decide +kernel⟩
theorem mi_M_length : MI y_M_length := ⟨gT_t (List.mem_of_getElem? (i := 1198) (by decide +kernel)), gT_t (List.mem_of_getElem? (i := 1199) (by decide +kernel))⟩
set_option maxRecDepth 40000 in
theorem mw_M_byteOf : MW y_M_byteOf b_M_byteOf 3 (some .int) 2 := ⟨gT_t (List.mem_of_getElem? (i := 1204) rfl), ini_M, ⟨by decide +kernel, by decide +kernel⟩, by decide +kernel⟩
theorem mi_M_byteOf : MI y_M_byteOf := ⟨gT_t (List.mem_of_getElem? (i := 1202) (by decide +kernel)), gT_t (List.mem_of_getElem? (i := 1203) (by decide +kernel))⟩
set_option maxRecDepth 40000 in
theorem mw_M_most : MW y_M_most b_M_most 2 (some .int) 1 := ⟨gT_t (List.mem_of_getElem? (i := 1208) rfl), ini_M, ⟨by decide +kernel, by decide +kernel⟩, by decide +kernel⟩
theorem mi_M_most : MI y_M_most := ⟨gT_t (List.mem_of_getElem? (i := 1206) (by decide +kernel)), gT_t (List.mem_of_getElem? (i := 1207) (by decide +kernel))⟩
set_option maxRecDepth 40000 in
theorem mw_M_output : MW y_M_output b_M_output 2 (some .int) 1 := ⟨gT_t (List.mem_of_getElem? (i := 1212) rfl), ini_M, ⟨by decide +kernel, by decide +kernel⟩, by decide +kernel⟩
theorem mi_M_output : MI y_M_output := ⟨gT_t (List.mem_of_getElem? (i := 1210) (by decide +kernel)), gT_t (List.mem_of_getElem? (i := 1211) (by decide +kernel))⟩
set_option maxRecDepth 40000 in
theorem mw_B_init : MW y_B_init b_B_init 2 none 1 := ⟨gT_t (List.mem_of_getElem? (i := 52) rfl), ini_B, ⟨by decide +kernel, by decide +kernel⟩, by decide +kernel⟩
set_option maxRecDepth 40000 in
theorem mw_B_cut : MW y_B_cut b_B_cut 2 none 1 := ⟨gT_t (List.mem_of_getElem? (i := 320) rfl), ini_B, ⟨by decide +kernel, by decide +kernel⟩, by decide +kernel⟩
theorem mi_B_cut : MI y_B_cut := ⟨gT_t (List.mem_of_getElem? (i := 318) (by decide +kernel)), gT_t (List.mem_of_getElem? (i := 319) (by decide +kernel))⟩
set_option maxRecDepth 40000 in
theorem mw_B_put : MW y_B_put b_B_put 2 none 1 := ⟨gT_t (List.mem_of_getElem? (i := 312) rfl), ini_B, ⟨by decide +kernel, by decide +kernel⟩, by decide +kernel⟩
theorem mi_B_put : MI y_B_put := ⟨gT_t (List.mem_of_getElem? (i := 310) (by decide +kernel)), gT_t (List.mem_of_getElem? (i := 311) (by decide +kernel))⟩
set_option maxRecDepth 40000 in
theorem mw_B_highestFirst : MW y_B_highestFirst b_B_highestFirst 3 none 1 := ⟨gT_t (List.mem_of_getElem? (i := 308) rfl), ini_B, ⟨by decide +kernel, by decide +kernel⟩, by decide +kernel⟩
theorem mi_B_highestFirst : MI y_B_highestFirst := ⟨gT_t (List.mem_of_getElem? (i := 306) (by decide +kernel)), gT_t (List.mem_of_getElem? (i := 307) (by decide +kernel))⟩
set_option maxRecDepth 40000 in
theorem mw_B_lowestFirst : MW y_B_lowestFirst b_B_lowestFirst 5 none 2 := ⟨gT_t (List.mem_of_getElem? (i := 421) rfl), ini_B, ⟨by decide +kernel, by decide +kernel⟩, by decide +kernel⟩
theorem mi_B_lowestFirst : MI y_B_lowestFirst := ⟨gT_t (List.mem_of_getElem? (i := 419) (by decide +kernel)), gT_t (List.mem_of_getElem? (i := 420) (by decide +kernel))⟩
set_option maxRecDepth 40000 in
theorem mw_B_varint : MW y_B_varint b_B_varint 6 none 1 := ⟨gT_t (List.mem_of_getElem? (i := 416) rfl), ini_B, ⟨by decide +kernel, by decide +kernel⟩, by decide +kernel⟩
theorem mi_B_varint : MI y_B_varint := ⟨gT_t (List.mem_of_getElem? (i := 414) (by decide +kernel)), gT_t (List.mem_of_getElem? (i := 415) (by decide +kernel))⟩
set_option maxRecDepth 40000 in
theorem mw_B_append : MW y_B_append b_B_append 4 none 3 := ⟨gT_t (List.mem_of_getElem? (i := 324) rfl), ini_B, ⟨by decide +kernel, by decide +kernel⟩, by decide +kernel⟩
theorem mi_B_append : MI y_B_append := ⟨gT_t (List.mem_of_getElem? (i := 322) (by decide +kernel)), gT_t (List.mem_of_getElem? (i := 323) (by decide +kernel))⟩
set_option maxRecDepth 40000 in
theorem mw_B_sized : MW y_B_sized b_B_sized 2 none 1 := ⟨gT_t (List.mem_of_getElem? (i := 443) rfl), ini_B, ⟨by decide +kernel, by decide +kernel⟩, by decide +kernel⟩
theorem mi_B_sized : MI y_B_sized := ⟨gT_t (List.mem_of_getElem? (i := 441) (by decide +kernel)), gT_t (List.mem_of_getElem? (i := 442) (by decide +kernel))⟩
set_option maxRecDepth 40000 in
theorem mw_B_zeros : MW y_B_zeros b_B_zeros 2 none 1 := ⟨gT_t (List.mem_of_getElem? (i := 429) rfl), ini_B, ⟨by decide +kernel, by decide +kernel⟩, by decide +kernel⟩
theorem mi_B_zeros : MI y_B_zeros := ⟨gT_t (List.mem_of_getElem? (i := 427) (by decide +kernel)), gT_t (List.mem_of_getElem? (i := 428) (by decide +kernel))⟩
set_option maxRecDepth 40000 in
theorem mw_B_setBits : MW y_B_setBits b_B_setBits 8 none 3 := ⟨gT_t (List.mem_of_getElem? (i := 439) rfl), ini_B, ⟨by decide +kernel, by decide +kernel⟩, by decide +kernel⟩
theorem mi_B_setBits : MI y_B_setBits := ⟨gT_t (List.mem_of_getElem? (i := 437) (by decide +kernel)), gT_t (List.mem_of_getElem? (i := 438) (by decide +kernel))⟩
set_option maxRecDepth 40000 in
theorem mw_B_runs : MW y_B_runs b_B_runs 6 none 3 := ⟨gT_t (List.mem_of_getElem? (i := 404) rfl), ini_B, ⟨by decide +kernel, by decide +kernel⟩, by decide +kernel⟩
theorem mi_B_runs : MI y_B_runs := ⟨gT_t (List.mem_of_getElem? (i := 402) (by decide +kernel)), gT_t (List.mem_of_getElem? (i := 403) (by decide +kernel))⟩
set_option maxRecDepth 40000 in
theorem mw_B_beginsOne : MW y_B_beginsOne b_B_beginsOne 4 (some .boolean) 3 := ⟨gT_t (List.mem_of_getElem? (i := 407) rfl), ini_B, ⟨by decide +kernel, by decide +kernel⟩, by decide +kernel⟩
theorem ms_B_beginsOne : Cond.static y_B_beginsOne ∈ gT := gT_t (List.mem_of_getElem? (i := 406) (by decide +kernel))
set_option maxRecDepth 40000 in
theorem mw_B_putOne : MW y_B_putOne b_B_putOne 6 (some .int) 4 := ⟨gT_t (List.mem_of_getElem? (i := 411) rfl), ini_B, ⟨by decide +kernel, by decide +kernel⟩, by decide +kernel⟩
theorem mi_B_putOne : MI y_B_putOne := ⟨gT_t (List.mem_of_getElem? (i := 410) (by decide +kernel)), gT_p (List.mem_of_getElem? (i := 3) (by decide +kernel))⟩
set_option maxRecDepth 40000 in
theorem mw_B_putGroups : MW y_B_putGroups b_B_putGroups 9 (some .int) 4 := ⟨gT_t (List.mem_of_getElem? (i := 425) rfl), ini_B, ⟨by decide +kernel, by decide +kernel⟩, by decide +kernel⟩
theorem mi_B_putGroups : MI y_B_putGroups := ⟨gT_t (List.mem_of_getElem? (i := 424) (by decide +kernel)), gT_p (List.mem_of_getElem? (i := 4) (by decide +kernel))⟩
set_option maxRecDepth 40000 in
theorem mw_B_code : MW y_B_code b_B_code 4 none 2 := ⟨gT_t (List.mem_of_getElem? (i := 526) rfl), ini_B, ⟨by decide +kernel, by decide +kernel⟩, by decide +kernel⟩
theorem mi_B_code : MI y_B_code := ⟨gT_t (List.mem_of_getElem? (i := 524) (by decide +kernel)), gT_t (List.mem_of_getElem? (i := 525) (by decide +kernel))⟩
set_option maxRecDepth 40000 in
theorem mw_B_putBlock : MW y_B_putBlock b_B_putBlock 10 none 3 := ⟨gT_t (List.mem_of_getElem? (i := 534) rfl), ini_B, ⟨by decide +kernel, by decide +kernel⟩, by decide +kernel⟩
theorem mi_B_putBlock : MI y_B_putBlock := ⟨gT_t (List.mem_of_getElem? (i := 533) (by decide +kernel)), gT_p (List.mem_of_getElem? (i := 12) (by decide +kernel))⟩
set_option maxRecDepth 40000 in
theorem mw_B_putPart : MW y_B_putPart b_B_putPart 11 (some .int) 4 := ⟨gT_t (List.mem_of_getElem? (i := 541) rfl), ini_B, ⟨by decide +kernel, by decide +kernel⟩, by decide +kernel⟩
theorem mi_B_putPart : MI y_B_putPart := ⟨gT_t (List.mem_of_getElem? (i := 540) (by decide +kernel)), gT_p (List.mem_of_getElem? (i := 13) (by decide +kernel))⟩
set_option maxRecDepth 40000 in
theorem mw_C_init : MW y_C_init b_C_init 1 none 0 := ⟨gT_t (List.mem_of_getElem? (i := 28) rfl), ini_C, ⟨by decide +kernel, by decide +kernel⟩, by decide +kernel⟩
set_option maxRecDepth 40000 in
theorem mw_C_holds : MW y_C_holds b_C_holds 3 (some .boolean) 1 := ⟨gT_t (List.mem_of_getElem? (i := 351) rfl), ini_C, ⟨by decide +kernel, by decide +kernel⟩, by decide +kernel⟩
theorem mi_C_holds : MI y_C_holds := ⟨gT_t (List.mem_of_getElem? (i := 349) (by decide +kernel)), gT_t (List.mem_of_getElem? (i := 350) (by decide +kernel))⟩
set_option maxRecDepth 40000 in
theorem mw_C_lastCoding : MW y_C_lastCoding b_C_lastCoding 1 (some .int) 0 := ⟨gT_t (List.mem_of_getElem? (i := 388) rfl), ini_C, ⟨by decide +kernel, by decide +kernel⟩, by decide +kernel⟩
theorem mi_C_lastCoding : MI y_C_lastCoding := ⟨gT_t (List.mem_of_getElem? (i := 386) (by decide +kernel)), gT_t (List.mem_of_getElem? (i := 387) (by decide +kernel))⟩
set_option maxRecDepth 40000 in
theorem mw_D_init : MW y_D_init b_D_init 1 none 0 := ⟨gT_t (List.mem_of_getElem? (i := 80) rfl), ini_D, ⟨by decide +kernel, by decide +kernel⟩, by decide +kernel⟩
set_option maxRecDepth 40000 in
theorem mw_D_gather : MW y_D_gather b_D_gather 4 none 2 := ⟨gT_t (List.mem_of_getElem? (i := 474) rfl), ini_D, ⟨by decide +kernel, by decide +kernel⟩, by decide +kernel⟩
theorem mi_D_gather : MI y_D_gather := ⟨gT_t (List.mem_of_getElem? (i := 472) (by decide +kernel)), gT_t (List.mem_of_getElem? (i := 473) (by decide +kernel))⟩
set_option maxRecDepth 40000 in
theorem mw_D_numberOf : MW y_D_numberOf b_D_numberOf 7 (some .int) 2 := ⟨gT_t (List.mem_of_getElem? (i := 481) rfl), ini_D, ⟨by decide +kernel, by decide +kernel⟩, by decide +kernel⟩
theorem mi_D_numberOf : MI y_D_numberOf := ⟨gT_t (List.mem_of_getElem? (i := 480) (by decide +kernel)), gT_p (List.mem_of_getElem? (i := 8) (by decide +kernel))⟩
set_option maxRecDepth 40000 in
theorem mw_P_init : MW y_P_init b_P_init 1 none 0 := ⟨gT_t (List.mem_of_getElem? (i := 235) rfl), ini_P, ⟨by decide +kernel, by decide +kernel⟩, by decide +kernel⟩
set_option maxRecDepth 40000 in
theorem mw_P_makeEmpty : MW y_P_makeEmpty b_P_makeEmpty 2 none 1 := ⟨gT_t (List.mem_of_getElem? (i := 335) rfl), ini_P, ⟨by decide +kernel, by decide +kernel⟩, by decide +kernel⟩
theorem mi_P_makeEmpty : MI y_P_makeEmpty := ⟨gT_t (List.mem_of_getElem? (i := 333) (by decide +kernel)), gT_t (List.mem_of_getElem? (i := 334) (by decide +kernel))⟩
set_option maxRecDepth 40000 in
theorem mw_P_addLevels : MW y_P_addLevels b_P_addLevels 4 none 3 := ⟨gT_t (List.mem_of_getElem? (i := 359) rfl), ini_P, ⟨by decide +kernel, by decide +kernel⟩, by decide +kernel⟩
theorem mi_P_addLevels : MI y_P_addLevels := ⟨gT_t (List.mem_of_getElem? (i := 357) (by decide +kernel)), gT_t (List.mem_of_getElem? (i := 358) (by decide +kernel))⟩
set_option maxRecDepth 40000 in
theorem mw_R_init : MW y_R_init b_R_init 3 none 2 := ⟨gT_t (List.mem_of_getElem? (i := 128) rfl), ini_R, ⟨by decide +kernel, by decide +kernel⟩, by decide +kernel⟩
set_option maxRecDepth 40000 in
theorem mw_R_takeHead : MW y_R_takeHead b_R_takeHead 1 none 0 := ⟨gT_t (List.mem_of_getElem? (i := 573) rfl), ini_R, ⟨by decide +kernel, by decide +kernel⟩, by decide +kernel⟩
theorem mi_R_takeHead : MI y_R_takeHead := ⟨gT_t (List.mem_of_getElem? (i := 571) (by decide +kernel)), gT_t (List.mem_of_getElem? (i := 572) (by decide +kernel))⟩
set_option maxRecDepth 40000 in
theorem mw_R_takeEntries : MW y_R_takeEntries b_R_takeEntries 3 (some .int) 0 := ⟨gT_t (List.mem_of_getElem? (i := 581) rfl), ini_R, ⟨by decide +kernel, by decide +kernel⟩, by decide +kernel⟩
theorem mi_R_takeEntries : MI y_R_takeEntries := ⟨gT_t (List.mem_of_getElem? (i := 580) (by decide +kernel)), gT_p (List.mem_of_getElem? (i := 16) (by decide +kernel))⟩
set_option maxRecDepth 40000 in
theorem mw_R_takeNones : MW y_R_takeNones b_R_takeNones 3 (some .int) 0 := ⟨gT_t (List.mem_of_getElem? (i := 603) rfl), ini_R, ⟨by decide +kernel, by decide +kernel⟩, by decide +kernel⟩
theorem mi_R_takeNones : MI y_R_takeNones := ⟨gT_t (List.mem_of_getElem? (i := 602) (by decide +kernel)), gT_p (List.mem_of_getElem? (i := 17) (by decide +kernel))⟩
set_option maxRecDepth 40000 in
theorem mw_R_takeTold : MW y_R_takeTold b_R_takeTold 3 none 0 := ⟨gT_t (List.mem_of_getElem? (i := 610) rfl), ini_R, ⟨by decide +kernel, by decide +kernel⟩, by decide +kernel⟩
theorem mi_R_takeTold : MI y_R_takeTold := ⟨gT_t (List.mem_of_getElem? (i := 609) (by decide +kernel)), gT_p (List.mem_of_getElem? (i := 18) (by decide +kernel))⟩
set_option maxRecDepth 40000 in
theorem mw_R_takeNumber : MW y_R_takeNumber b_R_takeNumber 4 none 2 := ⟨gT_t (List.mem_of_getElem? (i := 625) rfl), ini_R, ⟨by decide +kernel, by decide +kernel⟩, by decide +kernel⟩
theorem mi_R_takeNumber : MI y_R_takeNumber := ⟨gT_t (List.mem_of_getElem? (i := 624) (by decide +kernel)), gT_p (List.mem_of_getElem? (i := 20) (by decide +kernel))⟩
set_option maxRecDepth 40000 in
theorem mw_R_takeText : MW y_R_takeText b_R_takeText 7 none 3 := ⟨gT_t (List.mem_of_getElem? (i := 614) rfl), ini_R, ⟨by decide +kernel, by decide +kernel⟩, by decide +kernel⟩
theorem mi_R_takeText : MI y_R_takeText := ⟨gT_t (List.mem_of_getElem? (i := 613) (by decide +kernel)), gT_p (List.mem_of_getElem? (i := 19) (by decide +kernel))⟩
set_option maxRecDepth 40000 in
theorem mw_R_openBody : MW y_R_openBody b_R_openBody 2 none 0 := ⟨gT_t (List.mem_of_getElem? (i := 639) rfl), ini_R, ⟨by decide +kernel, by decide +kernel⟩, by decide +kernel⟩
theorem mi_R_openBody : MI y_R_openBody := ⟨gT_t (List.mem_of_getElem? (i := 637) (by decide +kernel)), gT_t (List.mem_of_getElem? (i := 638) (by decide +kernel))⟩
set_option maxRecDepth 40000 in
theorem mw_R_takeLevels : MW y_R_takeLevels b_R_takeLevels 4 none 1 := ⟨gT_t (List.mem_of_getElem? (i := 644) rfl), ini_R, ⟨by decide +kernel, by decide +kernel⟩, by decide +kernel⟩
theorem mi_R_takeLevels : MI y_R_takeLevels := ⟨gT_t (List.mem_of_getElem? (i := 642) (by decide +kernel)), gT_t (List.mem_of_getElem? (i := 643) (by decide +kernel))⟩
set_option maxRecDepth 40000 in
theorem mw_R_takeLevelsOf : MW y_R_takeLevelsOf b_R_takeLevelsOf 5 none 2 := ⟨gT_t (List.mem_of_getElem? (i := 649) rfl), ini_R, ⟨by decide +kernel, by decide +kernel⟩, by decide +kernel⟩
theorem mi_R_takeLevelsOf : MI y_R_takeLevelsOf := ⟨gT_t (List.mem_of_getElem? (i := 648) (by decide +kernel)), gT_p (List.mem_of_getElem? (i := 21) (by decide +kernel))⟩
set_option maxRecDepth 40000 in
theorem mw_R_takeValues : MW y_R_takeValues b_R_takeValues 2 none 1 := ⟨gT_t (List.mem_of_getElem? (i := 685) rfl), ini_R, ⟨by decide +kernel, by decide +kernel⟩, by decide +kernel⟩
theorem mi_R_takeValues : MI y_R_takeValues := ⟨gT_t (List.mem_of_getElem? (i := 683) (by decide +kernel)), gT_t (List.mem_of_getElem? (i := 684) (by decide +kernel))⟩
set_option maxRecDepth 40000 in
theorem mw_R_takeBools : MW y_R_takeBools b_R_takeBools 6 none 1 := ⟨gT_t (List.mem_of_getElem? (i := 689) rfl), ini_R, ⟨by decide +kernel, by decide +kernel⟩, by decide +kernel⟩
theorem mi_R_takeBools : MI y_R_takeBools := ⟨gT_t (List.mem_of_getElem? (i := 688) (by decide +kernel)), gT_p (List.mem_of_getElem? (i := 25) (by decide +kernel))⟩
set_option maxRecDepth 40000 in
theorem mw_R_takePlain : MW y_R_takePlain b_R_takePlain 4 none 2 := ⟨gT_t (List.mem_of_getElem? (i := 698) rfl), ini_R, ⟨by decide +kernel, by decide +kernel⟩, by decide +kernel⟩
theorem mi_R_takePlain : MI y_R_takePlain := ⟨gT_t (List.mem_of_getElem? (i := 697) (by decide +kernel)), gT_p (List.mem_of_getElem? (i := 27) (by decide +kernel))⟩
set_option maxRecDepth 40000 in
theorem mw_R_mustBeCount : MW y_R_mustBeCount b_R_mustBeCount 2 none 1 := ⟨gT_t (List.mem_of_getElem? (i := 732) rfl), ini_R, ⟨by decide +kernel, by decide +kernel⟩, by decide +kernel⟩
theorem mi_R_mustBeCount : MI y_R_mustBeCount := ⟨gT_t (List.mem_of_getElem? (i := 731) (by decide +kernel)), gT_p (List.mem_of_getElem? (i := 32) (by decide +kernel))⟩
set_option maxRecDepth 40000 in
theorem mw_R_takeNumbers : MW y_R_takeNumbers b_R_takeNumbers 3 none 1 := ⟨gT_t (List.mem_of_getElem? (i := 693) rfl), ini_R, ⟨by decide +kernel, by decide +kernel⟩, by decide +kernel⟩
theorem mi_R_takeNumbers : MI y_R_takeNumbers := ⟨gT_t (List.mem_of_getElem? (i := 692) (by decide +kernel)), gT_p (List.mem_of_getElem? (i := 26) (by decide +kernel))⟩
set_option maxRecDepth 40000 in
theorem mw_R_lookAtLengths : MW y_R_lookAtLengths b_R_lookAtLengths 2 none 0 := ⟨gT_t (List.mem_of_getElem? (i := 736) rfl), ini_R, ⟨by decide +kernel, by decide +kernel⟩, by decide +kernel⟩
theorem mi_R_lookAtLengths : MI y_R_lookAtLengths := ⟨gT_t (List.mem_of_getElem? (i := 735) (by decide +kernel)), gT_p (List.mem_of_getElem? (i := 33) (by decide +kernel))⟩
set_option maxRecDepth 40000 in
theorem mw_R_takeTexts : MW y_R_takeTexts b_R_takeTexts 3 none 1 := ⟨gT_t (List.mem_of_getElem? (i := 740) rfl), ini_R, ⟨by decide +kernel, by decide +kernel⟩, by decide +kernel⟩
theorem mi_R_takeTexts : MI y_R_takeTexts := ⟨gT_t (List.mem_of_getElem? (i := 739) (by decide +kernel)), gT_p (List.mem_of_getElem? (i := 34) (by decide +kernel))⟩
set_option maxRecDepth 40000 in
theorem mw_R_takeSizedCode : MW y_R_takeSizedCode b_R_takeSizedCode 3 none 1 := ⟨gT_t (List.mem_of_getElem? (i := 713) rfl), ini_R, ⟨by decide +kernel, by decide +kernel⟩, by decide +kernel⟩
theorem mi_R_takeSizedCode : MI y_R_takeSizedCode := ⟨gT_t (List.mem_of_getElem? (i := 712) (by decide +kernel)), gT_p (List.mem_of_getElem? (i := 29) (by decide +kernel))⟩
set_option maxRecDepth 40000 in
theorem mw_R_takeByDictionary : MW y_R_takeByDictionary b_R_takeByDictionary 6 none 1 := ⟨gT_t (List.mem_of_getElem? (i := 702) rfl), ini_R, ⟨by decide +kernel, by decide +kernel⟩, by decide +kernel⟩
theorem mi_R_takeByDictionary : MI y_R_takeByDictionary := ⟨gT_t (List.mem_of_getElem? (i := 701) (by decide +kernel)), gT_p (List.mem_of_getElem? (i := 28) (by decide +kernel))⟩
set_option maxRecDepth 40000 in
theorem mw_R_compareTold : MW y_R_compareTold b_R_compareTold 2 none 1 := ⟨gT_t (List.mem_of_getElem? (i := 745) rfl), ini_R, ⟨by decide +kernel, by decide +kernel⟩, by decide +kernel⟩
theorem mi_R_compareTold : MI y_R_compareTold := ⟨gT_t (List.mem_of_getElem? (i := 743) (by decide +kernel)), gT_t (List.mem_of_getElem? (i := 744) (by decide +kernel))⟩
set_option maxRecDepth 40000 in
theorem mw_S_init : MW y_S_init b_S_init 2 none 1 := ⟨gT_t (List.mem_of_getElem? (i := 165) rfl), ini_S, ⟨by decide +kernel, by decide +kernel⟩, by decide +kernel⟩
set_option maxRecDepth 40000 in
theorem mw_S_open : MW y_S_open b_S_open 1 none 0 := ⟨gT_t (List.mem_of_getElem? (i := 577) rfl), ini_S, ⟨by decide +kernel, by decide +kernel⟩, by decide +kernel⟩
theorem mi_S_open : MI y_S_open := ⟨gT_t (List.mem_of_getElem? (i := 575) (by decide +kernel)), gT_t (List.mem_of_getElem? (i := 576) (by decide +kernel))⟩
set_option maxRecDepth 40000 in
theorem mw_S_fail : MW y_S_fail b_S_fail 2 none 1 := ⟨gT_t (List.mem_of_getElem? (i := 597) rfl), ini_S, ⟨by decide +kernel, by decide +kernel⟩, by decide +kernel⟩
theorem mi_S_fail : MI y_S_fail := ⟨gT_t (List.mem_of_getElem? (i := 595) (by decide +kernel)), gT_t (List.mem_of_getElem? (i := 596) (by decide +kernel))⟩
set_option maxRecDepth 40000 in
theorem mw_S_there : MW y_S_there b_S_there 3 (some .boolean) 1 := ⟨gT_t (List.mem_of_getElem? (i := 593) rfl), ini_S, ⟨by decide +kernel, by decide +kernel⟩, by decide +kernel⟩
theorem mi_S_there : MI y_S_there := ⟨gT_t (List.mem_of_getElem? (i := 591) (by decide +kernel)), gT_t (List.mem_of_getElem? (i := 592) (by decide +kernel))⟩
set_option maxRecDepth 40000 in
theorem mw_S_octet : MW y_S_octet b_S_octet 1 (some .int) 0 := ⟨gT_t (List.mem_of_getElem? (i := 589) rfl), ini_S, ⟨by decide +kernel, by decide +kernel⟩, by decide +kernel⟩
theorem mi_S_octet : MI y_S_octet := ⟨gT_t (List.mem_of_getElem? (i := 587) (by decide +kernel)), gT_t (List.mem_of_getElem? (i := 588) (by decide +kernel))⟩
set_option maxRecDepth 40000 in
theorem mw_S_lowestFirst : MW y_S_lowestFirst b_S_lowestFirst 4 (some .long) 1 := ⟨gT_t (List.mem_of_getElem? (i := 631) rfl), ini_S, ⟨by decide +kernel, by decide +kernel⟩, by decide +kernel⟩
theorem mi_S_lowestFirst : MI y_S_lowestFirst := ⟨gT_t (List.mem_of_getElem? (i := 629) (by decide +kernel)), gT_t (List.mem_of_getElem? (i := 630) (by decide +kernel))⟩
set_option maxRecDepth 40000 in
theorem mw_S_varint : MW y_S_varint b_S_varint 7 (some .long) 0 := ⟨gT_t (List.mem_of_getElem? (i := 585) rfl), ini_S, ⟨by decide +kernel, by decide +kernel⟩, by decide +kernel⟩
theorem mi_S_varint : MI y_S_varint := ⟨gT_t (List.mem_of_getElem? (i := 583) (by decide +kernel)), gT_t (List.mem_of_getElem? (i := 584) (by decide +kernel))⟩
set_option maxRecDepth 40000 in
theorem mw_S_narrow : MW y_S_narrow b_S_narrow 4 (some .int) 0 := ⟨gT_t (List.mem_of_getElem? (i := 654) rfl), ini_S, ⟨by decide +kernel, by decide +kernel⟩, by decide +kernel⟩
theorem mi_S_narrow : MI y_S_narrow := ⟨gT_t (List.mem_of_getElem? (i := 652) (by decide +kernel)), gT_t (List.mem_of_getElem? (i := 653) (by decide +kernel))⟩
set_option maxRecDepth 40000 in
theorem mw_S_mustBeAtEnd : MW y_S_mustBeAtEnd b_S_mustBeAtEnd 1 none 0 := ⟨gT_t (List.mem_of_getElem? (i := 680) rfl), ini_S, ⟨by decide +kernel, by decide +kernel⟩, by decide +kernel⟩
theorem mi_S_mustBeAtEnd : MI y_S_mustBeAtEnd := ⟨gT_t (List.mem_of_getElem? (i := 678) (by decide +kernel)), gT_t (List.mem_of_getElem? (i := 679) (by decide +kernel))⟩
set_option maxRecDepth 40000 in
theorem mw_S_bitsAt : MW y_S_bitsAt b_S_bitsAt 8 (some .long) 2 := ⟨gT_t (List.mem_of_getElem? (i := 635) rfl), ini_S, ⟨by decide +kernel, by decide +kernel⟩, by decide +kernel⟩
theorem mi_S_bitsAt : MI y_S_bitsAt := ⟨gT_t (List.mem_of_getElem? (i := 633) (by decide +kernel)), gT_t (List.mem_of_getElem? (i := 634) (by decide +kernel))⟩
set_option maxRecDepth 40000 in
theorem mw_S_runs : MW y_S_runs b_S_runs 11 none 3 := ⟨gT_t (List.mem_of_getElem? (i := 660) rfl), ini_S, ⟨by decide +kernel, by decide +kernel⟩, by decide +kernel⟩
theorem mi_S_runs : MI y_S_runs := ⟨gT_t (List.mem_of_getElem? (i := 658) (by decide +kernel)), gT_t (List.mem_of_getElem? (i := 659) (by decide +kernel))⟩
set_option maxRecDepth 40000 in
theorem mw_S_takeCount : MW y_S_takeCount b_S_takeCount 4 (some .int) 2 := ⟨gT_t (List.mem_of_getElem? (i := 664) rfl), ini_S, ⟨by decide +kernel, by decide +kernel⟩, by decide +kernel⟩
theorem mi_S_takeCount : MI y_S_takeCount := ⟨gT_t (List.mem_of_getElem? (i := 663) (by decide +kernel)), gT_p (List.mem_of_getElem? (i := 22) (by decide +kernel))⟩
set_option maxRecDepth 40000 in
theorem mw_S_takeOne : MW y_S_takeOne b_S_takeOne 7 none 4 := ⟨gT_t (List.mem_of_getElem? (i := 668) rfl), ini_S, ⟨by decide +kernel, by decide +kernel⟩, by decide +kernel⟩
theorem mi_S_takeOne : MI y_S_takeOne := ⟨gT_t (List.mem_of_getElem? (i := 667) (by decide +kernel)), gT_p (List.mem_of_getElem? (i := 23) (by decide +kernel))⟩
set_option maxRecDepth 40000 in
theorem mw_S_takeGroups : MW y_S_takeGroups b_S_takeGroups 9 none 5 := ⟨gT_t (List.mem_of_getElem? (i := 676) rfl), ini_S, ⟨by decide +kernel, by decide +kernel⟩, by decide +kernel⟩
theorem mi_S_takeGroups : MI y_S_takeGroups := ⟨gT_t (List.mem_of_getElem? (i := 675) (by decide +kernel)), gT_p (List.mem_of_getElem? (i := 24) (by decide +kernel))⟩
set_option maxRecDepth 40000 in
theorem mw_S_code : MW y_S_code b_S_code 6 (some .int) 1 := ⟨gT_t (List.mem_of_getElem? (i := 717) rfl), ini_S, ⟨by decide +kernel, by decide +kernel⟩, by decide +kernel⟩
theorem mi_S_code : MI y_S_code := ⟨gT_t (List.mem_of_getElem? (i := 715) (by decide +kernel)), gT_t (List.mem_of_getElem? (i := 716) (by decide +kernel))⟩
set_option maxRecDepth 40000 in
theorem mw_S_takeBlock : MW y_S_takeBlock b_S_takeBlock 8 none 3 := ⟨gT_t (List.mem_of_getElem? (i := 724) rfl), ini_S, ⟨by decide +kernel, by decide +kernel⟩, by decide +kernel⟩
theorem mi_S_takeBlock : MI y_S_takeBlock := ⟨gT_t (List.mem_of_getElem? (i := 723) (by decide +kernel)), gT_p (List.mem_of_getElem? (i := 30) (by decide +kernel))⟩
set_option maxRecDepth 40000 in
theorem mw_S_takePart : MW y_S_takePart b_S_takePart 10 none 5 := ⟨gT_t (List.mem_of_getElem? (i := 728) rfl), ini_S, ⟨by decide +kernel, by decide +kernel⟩, by decide +kernel⟩
theorem mi_S_takePart : MI y_S_takePart := ⟨gT_t (List.mem_of_getElem? (i := 727) (by decide +kernel)), gT_p (List.mem_of_getElem? (i := 31) (by decide +kernel))⟩
set_option maxRecDepth 40000 in
theorem mw_V_init : MW y_V_init b_V_init 3 none 2 := ⟨gT_t (List.mem_of_getElem? (i := 134) rfl), ini_V, ⟨by decide +kernel, by decide +kernel⟩, by decide +kernel⟩
set_option maxRecDepth 40000 in
theorem mw_V_makeEmpty : MW y_V_makeEmpty b_V_makeEmpty 2 none 1 := ⟨gT_t (List.mem_of_getElem? (i := 339) rfl), ini_V, ⟨by decide +kernel, by decide +kernel⟩, by decide +kernel⟩
theorem mi_V_makeEmpty : MI y_V_makeEmpty := ⟨gT_t (List.mem_of_getElem? (i := 337) (by decide +kernel)), gT_t (List.mem_of_getElem? (i := 338) (by decide +kernel))⟩
set_option maxRecDepth 40000 in
theorem mw_V_textBytes : MW y_V_textBytes b_V_textBytes 1 (some .int) 0 := ⟨gT_t (List.mem_of_getElem? (i := 355) rfl), ini_V, ⟨by decide +kernel, by decide +kernel⟩, by decide +kernel⟩
theorem mi_V_textBytes : MI y_V_textBytes := ⟨gT_t (List.mem_of_getElem? (i := 353) (by decide +kernel)), gT_t (List.mem_of_getElem? (i := 354) (by decide +kernel))⟩
set_option maxRecDepth 40000 in
theorem mw_V_sizeOf : MW y_V_sizeOf b_V_sizeOf 2 (some .int) 1 := ⟨gT_t (List.mem_of_getElem? (i := 466) rfl), ini_V, ⟨by decide +kernel, by decide +kernel⟩, by decide +kernel⟩
theorem mi_V_sizeOf : MI y_V_sizeOf := ⟨gT_t (List.mem_of_getElem? (i := 464) (by decide +kernel)), gT_t (List.mem_of_getElem? (i := 465) (by decide +kernel))⟩
set_option maxRecDepth 40000 in
theorem mw_V_octetOf : MW y_V_octetOf b_V_octetOf 3 (some .int) 2 := ⟨gT_t (List.mem_of_getElem? (i := 508) rfl), ini_V, ⟨by decide +kernel, by decide +kernel⟩, by decide +kernel⟩
theorem mi_V_octetOf : MI y_V_octetOf := ⟨gT_t (List.mem_of_getElem? (i := 506) (by decide +kernel)), gT_t (List.mem_of_getElem? (i := 507) (by decide +kernel))⟩
set_option maxRecDepth 40000 in
theorem mw_V_lastSize : MW y_V_lastSize b_V_lastSize 1 (some .int) 0 := ⟨gT_t (List.mem_of_getElem? (i := 371) rfl), ini_V, ⟨by decide +kernel, by decide +kernel⟩, by decide +kernel⟩
theorem mi_V_lastSize : MI y_V_lastSize := ⟨gT_t (List.mem_of_getElem? (i := 369) (by decide +kernel)), gT_t (List.mem_of_getElem? (i := 370) (by decide +kernel))⟩
set_option maxRecDepth 40000 in
theorem mw_V_addNumber : MW y_V_addNumber b_V_addNumber 3 (some .boolean) 1 := ⟨gT_t (List.mem_of_getElem? (i := 376) rfl), ini_V, ⟨by decide +kernel, by decide +kernel⟩, by decide +kernel⟩
theorem mi_V_addNumber : MI y_V_addNumber := ⟨gT_t (List.mem_of_getElem? (i := 374) (by decide +kernel)), gT_t (List.mem_of_getElem? (i := 375) (by decide +kernel))⟩
set_option maxRecDepth 40000 in
theorem mw_V_addText : MW y_V_addText b_V_addText 6 (some .boolean) 4 := ⟨gT_t (List.mem_of_getElem? (i := 367) rfl), ini_V, ⟨by decide +kernel, by decide +kernel⟩, by decide +kernel⟩
theorem mi_V_addText : MI y_V_addText := ⟨gT_t (List.mem_of_getElem? (i := 365) (by decide +kernel)), gT_t (List.mem_of_getElem? (i := 366) (by decide +kernel))⟩
set_option maxRecDepth 40000 in
theorem mw_V_addFrom : MW y_V_addFrom b_V_addFrom 3 (some .boolean) 2 := ⟨gT_t (List.mem_of_getElem? (i := 706) rfl), ini_V, ⟨by decide +kernel, by decide +kernel⟩, by decide +kernel⟩
theorem mi_V_addFrom : MI y_V_addFrom := ⟨gT_t (List.mem_of_getElem? (i := 704) (by decide +kernel)), gT_t (List.mem_of_getElem? (i := 705) (by decide +kernel))⟩
set_option maxRecDepth 40000 in
theorem mw_V_inCommon : MW y_V_inCommon b_V_inCommon 6 (some .int) 3 := ⟨gT_t (List.mem_of_getElem? (i := 497) rfl), ini_V, ⟨by decide +kernel, by decide +kernel⟩, by decide +kernel⟩
theorem mi_V_inCommon : MI y_V_inCommon := ⟨gT_t (List.mem_of_getElem? (i := 495) (by decide +kernel)), gT_t (List.mem_of_getElem? (i := 496) (by decide +kernel))⟩
set_option maxRecDepth 40000 in
theorem mw_V_compare : MW y_V_compare b_V_compare 5 (some .int) 3 := ⟨gT_t (List.mem_of_getElem? (i := 490) rfl), ini_V, ⟨by decide +kernel, by decide +kernel⟩, by decide +kernel⟩
theorem mi_V_compare : MI y_V_compare := ⟨gT_t (List.mem_of_getElem? (i := 488) (by decide +kernel)), gT_t (List.mem_of_getElem? (i := 489) (by decide +kernel))⟩
set_option maxRecDepth 40000 in
theorem mw_V_firstMost : MW y_V_firstMost b_V_firstMost 5 (some .int) 1 := ⟨gT_t (List.mem_of_getElem? (i := 554) rfl), ini_V, ⟨by decide +kernel, by decide +kernel⟩, by decide +kernel⟩
theorem mi_V_firstMost : MI y_V_firstMost := ⟨gT_t (List.mem_of_getElem? (i := 552) (by decide +kernel)), gT_t (List.mem_of_getElem? (i := 553) (by decide +kernel))⟩
set_option maxRecDepth 40000 in
theorem mw_V_slotOf : MW y_V_slotOf b_V_slotOf 4 (some .int) 1 := ⟨gT_t (List.mem_of_getElem? (i := 485) rfl), ini_V, ⟨by decide +kernel, by decide +kernel⟩, by decide +kernel⟩
theorem mi_V_slotOf : MI y_V_slotOf := ⟨gT_t (List.mem_of_getElem? (i := 483) (by decide +kernel)), gT_t (List.mem_of_getElem? (i := 484) (by decide +kernel))⟩
set_option maxRecDepth 40000 in
theorem mw_W_init : MW y_W_init b_W_init 2 none 1 := ⟨gT_t (List.mem_of_getElem? (i := 72) rfl), ini_W, ⟨by decide +kernel, by decide +kernel⟩, by decide +kernel⟩
set_option maxRecDepth 40000 in
theorem mw_W_putLevels : MW y_W_putLevels b_W_putLevels 2 none 1 := ⟨gT_t (List.mem_of_getElem? (i := 392) rfl), ini_W, ⟨by decide +kernel, by decide +kernel⟩, by decide +kernel⟩
theorem mi_W_putLevels : MI y_W_putLevels := ⟨gT_t (List.mem_of_getElem? (i := 390) (by decide +kernel)), gT_t (List.mem_of_getElem? (i := 391) (by decide +kernel))⟩
set_option maxRecDepth 40000 in
theorem mw_W_putLevelsOf : MW y_W_putLevelsOf b_W_putLevelsOf 4 none 2 := ⟨gT_t (List.mem_of_getElem? (i := 397) rfl), ini_W, ⟨by decide +kernel, by decide +kernel⟩, by decide +kernel⟩
theorem mi_W_putLevelsOf : MI y_W_putLevelsOf := ⟨gT_t (List.mem_of_getElem? (i := 396) (by decide +kernel)), gT_p (List.mem_of_getElem? (i := 2) (by decide +kernel))⟩
set_option maxRecDepth 40000 in
theorem mw_W_putValues : MW y_W_putValues b_W_putValues 3 (some .int) 1 := ⟨gT_t (List.mem_of_getElem? (i := 448) rfl), ini_W, ⟨by decide +kernel, by decide +kernel⟩, by decide +kernel⟩
theorem mi_W_putValues : MI y_W_putValues := ⟨gT_t (List.mem_of_getElem? (i := 446) (by decide +kernel)), gT_t (List.mem_of_getElem? (i := 447) (by decide +kernel))⟩
set_option maxRecDepth 40000 in
theorem mw_W_putBools : MW y_W_putBools b_W_putBools 4 none 1 := ⟨gT_t (List.mem_of_getElem? (i := 452) rfl), ini_W, ⟨by decide +kernel, by decide +kernel⟩, by decide +kernel⟩
theorem mi_W_putBools : MI y_W_putBools := ⟨gT_t (List.mem_of_getElem? (i := 451) (by decide +kernel)), gT_p (List.mem_of_getElem? (i := 5) (by decide +kernel))⟩
set_option maxRecDepth 40000 in
theorem mw_W_putPlain : MW y_W_putPlain b_W_putPlain 2 none 1 := ⟨gT_t (List.mem_of_getElem? (i := 458) rfl), ini_W, ⟨by decide +kernel, by decide +kernel⟩, by decide +kernel⟩
theorem mi_W_putPlain : MI y_W_putPlain := ⟨gT_t (List.mem_of_getElem? (i := 457) (by decide +kernel)), gT_p (List.mem_of_getElem? (i := 6) (by decide +kernel))⟩
set_option maxRecDepth 40000 in
theorem mw_W_putText : MW y_W_putText b_W_putText 3 none 2 := ⟨gT_t (List.mem_of_getElem? (i := 462) rfl), ini_W, ⟨by decide +kernel, by decide +kernel⟩, by decide +kernel⟩
theorem mi_W_putText : MI y_W_putText := ⟨gT_t (List.mem_of_getElem? (i := 461) (by decide +kernel)), gT_p (List.mem_of_getElem? (i := 7) (by decide +kernel))⟩
set_option maxRecDepth 40000 in
theorem mw_W_measureTexts : MW y_W_measureTexts b_W_measureTexts 4 none 1 := ⟨gT_t (List.mem_of_getElem? (i := 517) rfl), ini_W, ⟨by decide +kernel, by decide +kernel⟩, by decide +kernel⟩
theorem mi_W_measureTexts : MI y_W_measureTexts := ⟨gT_t (List.mem_of_getElem? (i := 516) (by decide +kernel)), gT_p (List.mem_of_getElem? (i := 10) (by decide +kernel))⟩
set_option maxRecDepth 40000 in
theorem mw_W_putTexts : MW y_W_putTexts b_W_putTexts 2 none 0 := ⟨gT_t (List.mem_of_getElem? (i := 546) rfl), ini_W, ⟨by decide +kernel, by decide +kernel⟩, by decide +kernel⟩
theorem mi_W_putTexts : MI y_W_putTexts := ⟨gT_t (List.mem_of_getElem? (i := 545) (by decide +kernel)), gT_p (List.mem_of_getElem? (i := 14) (by decide +kernel))⟩
set_option maxRecDepth 40000 in
theorem mw_W_putSizedCode : MW y_W_putSizedCode b_W_putSizedCode 2 none 1 := ⟨gT_t (List.mem_of_getElem? (i := 522) rfl), ini_W, ⟨by decide +kernel, by decide +kernel⟩, by decide +kernel⟩
theorem mi_W_putSizedCode : MI y_W_putSizedCode := ⟨gT_t (List.mem_of_getElem? (i := 521) (by decide +kernel)), gT_p (List.mem_of_getElem? (i := 11) (by decide +kernel))⟩
set_option maxRecDepth 40000 in
theorem mw_W_putByDictionary : MW y_W_putByDictionary b_W_putByDictionary 3 none 0 := ⟨gT_t (List.mem_of_getElem? (i := 512) rfl), ini_W, ⟨by decide +kernel, by decide +kernel⟩, by decide +kernel⟩
theorem mi_W_putByDictionary : MI y_W_putByDictionary := ⟨gT_t (List.mem_of_getElem? (i := 511) (by decide +kernel)), gT_p (List.mem_of_getElem? (i := 9) (by decide +kernel))⟩
set_option maxRecDepth 40000 in
theorem mw_W_finish : MW y_W_finish b_W_finish 3 none 2 := ⟨gT_t (List.mem_of_getElem? (i := 550) rfl), ini_W, ⟨by decide +kernel, by decide +kernel⟩, by decide +kernel⟩
theorem mi_W_finish : MI y_W_finish := ⟨gT_t (List.mem_of_getElem? (i := 548) (by decide +kernel)), gT_t (List.mem_of_getElem? (i := 549) (by decide +kernel))⟩
set_option maxRecDepth 40000 in
theorem mw_W_tell : MW y_W_tell b_W_tell 3 none 2 := ⟨gT_t (List.mem_of_getElem? (i := 559) rfl), ini_W, ⟨by decide +kernel, by decide +kernel⟩, by decide +kernel⟩
theorem mi_W_tell : MI y_W_tell := ⟨gT_t (List.mem_of_getElem? (i := 558) (by decide +kernel)), gT_p (List.mem_of_getElem? (i := 15) (by decide +kernel))⟩
set_option maxRecDepth 40000 in
theorem mw_JI_compare : MW y_JI_compare b_JI_compare 2 (some .int) 2 := ⟨gT_t (List.mem_of_getElem? (i := 504) rfl), ini_JI, ⟨by decide +kernel, by decide +kernel⟩, by decide +kernel⟩
theorem ms_JI_compare : Cond.static y_JI_compare ∈ gT := gT_t (List.mem_of_getElem? (i := 503) (by decide +kernel))
set_option maxRecDepth 40000 in
theorem mw_JL_compare : MW y_JL_compare b_JL_compare 4 (some .int) 2 := ⟨gT_t (List.mem_of_getElem? (i := 493) rfl), ini_JL, ⟨by decide +kernel, by decide +kernel⟩, by decide +kernel⟩
theorem ms_JL_compare : Cond.static y_JL_compare ∈ gT := gT_t (List.mem_of_getElem? (i := 492) (by decide +kernel))
set_option maxRecDepth 40000 in
theorem mw_JM_min_II : MW y_JM_min_II b_JM_min_II 2 (some .int) 2 := ⟨gT_t (List.mem_of_getElem? (i := 501) rfl), ini_JM, ⟨by decide +kernel, by decide +kernel⟩, by decide +kernel⟩
theorem ms_JM_min_II : Cond.static y_JM_min_II ∈ gT := gT_t (List.mem_of_getElem? (i := 500) (by decide +kernel))
set_option maxRecDepth 40000 in
theorem mw_JM_min_JJ : MW y_JM_min_JJ b_JM_min_JJ 4 (some .long) 2 := ⟨gT_t (List.mem_of_getElem? (i := 537) rfl), ini_JM, ⟨by decide +kernel, by decide +kernel⟩, by decide +kernel⟩
theorem ms_JM_min_JJ : Cond.static y_JM_min_JJ ∈ gT := gT_t (List.mem_of_getElem? (i := 536) (by decide +kernel))
set_option maxRecDepth 40000 in
theorem mw_JA_fill_aBIIB : MW y_JA_fill_aBIIB b_JA_fill_aBIIB 5 none 4 := ⟨gT_t (List.mem_of_getElem? (i := 432) rfl), ini_JA, ⟨by decide +kernel, by decide +kernel⟩, by decide +kernel⟩
theorem ms_JA_fill_aBIIB : Cond.static y_JA_fill_aBIIB ∈ gT := gT_t (List.mem_of_getElem? (i := 431) (by decide +kernel))
set_option maxRecDepth 40000 in
theorem mw_JA_fill_aII : MW y_JA_fill_aII b_JA_fill_aII 4 none 2 := ⟨gT_t (List.mem_of_getElem? (i := 477) rfl), ini_JA, ⟨by decide +kernel, by decide +kernel⟩, by decide +kernel⟩
theorem ms_JA_fill_aII : Cond.static y_JA_fill_aII ∈ gT := gT_t (List.mem_of_getElem? (i := 476) (by decide +kernel))
set_option maxRecDepth 40000 in
theorem mw_JA_fill_aJIIJ : MW y_JA_fill_aJIIJ b_JA_fill_aJIIJ 6 none 4 := ⟨gT_t (List.mem_of_getElem? (i := 672) rfl), ini_JA, ⟨by decide +kernel, by decide +kernel⟩, by decide +kernel⟩
theorem ms_JA_fill_aJIIJ : Cond.static y_JA_fill_aJIIJ ∈ gT := gT_t (List.mem_of_getElem? (i := 671) (by decide +kernel))
set_option maxRecDepth 40000 in
theorem mw_JA_rangeCheck : MW y_JA_rangeCheck b_JA_rangeCheck 3 none 3 := ⟨gT_t (List.mem_of_getElem? (i := 435) rfl), ini_JA, ⟨by decide +kernel, by decide +kernel⟩, by decide +kernel⟩
theorem ms_JA_rangeCheck : Cond.static y_JA_rangeCheck ∈ gT := gT_t (List.mem_of_getElem? (i := 434) (by decide +kernel))
theorem ml_L_9 : Cond.methodLink "PageFormLaw" 9 y_F_init ∈ gT := gT_t (List.mem_of_getElem? (i := 18) (by decide +kernel))
theorem ml_F_9 : Cond.methodLink "PageForm" 9 y_C_init ∈ gT := gT_t (List.mem_of_getElem? (i := 26) (by decide +kernel))
theorem ml_F_18 : Cond.methodLink "PageForm" 18 y_B_init ∈ gT := gT_t (List.mem_of_getElem? (i := 50) (by decide +kernel))
theorem ml_F_33 : Cond.methodLink "PageForm" 33 y_W_init ∈ gT := gT_t (List.mem_of_getElem? (i := 70) (by decide +kernel))
theorem ml_W_11 : Cond.methodLink "PageForm$Writer" 11 y_B_init ∈ gT := gT_t (List.mem_of_getElem? (i := 75) (by decide +kernel))
theorem ml_W_32 : Cond.methodLink "PageForm$Writer" 32 y_D_init ∈ gT := gT_t (List.mem_of_getElem? (i := 78) (by decide +kernel))
theorem ml_F_42 : Cond.methodLink "PageForm" 42 y_R_init ∈ gT := gT_t (List.mem_of_getElem? (i := 126) (by decide +kernel))
theorem ml_R_11 : Cond.methodLink "PageForm$Reader" 11 y_V_init ∈ gT := gT_t (List.mem_of_getElem? (i := 132) (by decide +kernel))
theorem ml_R_36 : Cond.methodLink "PageForm$Reader" 36 y_S_init ∈ gT := gT_t (List.mem_of_getElem? (i := 163) (by decide +kernel))
theorem ml_F_51 : Cond.methodLink "PageForm" 51 y_P_init ∈ gT := gT_t (List.mem_of_getElem? (i := 233) (by decide +kernel))
theorem ml_P_24 : Cond.methodLink "PageForm$Page" 24 y_V_init ∈ gT := gT_t (List.mem_of_getElem? (i := 238) (by decide +kernel))
theorem ml_L_13 : Cond.methodLink "PageFormLaw" 13 y_F_feed ∈ gT := gT_t (List.mem_of_getElem? (i := 301) (by decide +kernel))
theorem ml_F_63 : Cond.methodLink "PageForm" 63 y_B_highestFirst ∈ gT := gT_t (List.mem_of_getElem? (i := 305) (by decide +kernel))
theorem ml_B_19 : Cond.methodLink "PageForm$Bytes" 19 y_B_put ∈ gT := gT_t (List.mem_of_getElem? (i := 309) (by decide +kernel))
theorem ml_L_18 : Cond.methodLink "PageFormLaw" 18 y_F_end ∈ gT := gT_t (List.mem_of_getElem? (i := 313) (by decide +kernel))
theorem ml_F_66 : Cond.methodLink "PageForm" 66 y_B_cut ∈ gT := gT_t (List.mem_of_getElem? (i := 317) (by decide +kernel))
theorem ml_F_73 : Cond.methodLink "PageForm" 73 y_B_append ∈ gT := gT_t (List.mem_of_getElem? (i := 321) (by decide +kernel))
theorem ml_B_25 : Cond.methodLink "PageForm$Bytes" 25 arraycopyName ∈ gT := gT_t (List.mem_of_getElem? (i := 325) (by decide +kernel))
theorem ml_L_23 : Cond.methodLink "PageFormLaw" 23 y_F_column ∈ gT := gT_t (List.mem_of_getElem? (i := 328) (by decide +kernel))
theorem ml_F_86 : Cond.methodLink "PageForm" 86 y_P_makeEmpty ∈ gT := gT_t (List.mem_of_getElem? (i := 332) (by decide +kernel))
theorem ml_P_43 : Cond.methodLink "PageForm$Page" 43 y_V_makeEmpty ∈ gT := gT_t (List.mem_of_getElem? (i := 336) (by decide +kernel))
theorem ml_L_30 : Cond.methodLink "PageFormLaw" 30 y_F_add ∈ gT := gT_t (List.mem_of_getElem? (i := 340) (by decide +kernel))
theorem ml_F_92 : Cond.methodLink "PageForm" 92 y_F_takesValue ∈ gT := gT_t (List.mem_of_getElem? (i := 344) (by decide +kernel))
theorem ml_F_104 : Cond.methodLink "PageForm" 104 y_C_holds ∈ gT := gT_t (List.mem_of_getElem? (i := 348) (by decide +kernel))
theorem ml_F_112 : Cond.methodLink "PageForm" 112 y_V_textBytes ∈ gT := gT_t (List.mem_of_getElem? (i := 352) (by decide +kernel))
theorem ml_F_96 : Cond.methodLink "PageForm" 96 y_P_addLevels ∈ gT := gT_t (List.mem_of_getElem? (i := 356) (by decide +kernel))
theorem ml_F_100 : Cond.methodLink "PageForm" 100 y_F_addValue ∈ gT := gT_t (List.mem_of_getElem? (i := 360) (by decide +kernel))
theorem ml_F_118 : Cond.methodLink "PageForm" 118 y_V_addText ∈ gT := gT_t (List.mem_of_getElem? (i := 364) (by decide +kernel))
theorem ml_V_31 : Cond.methodLink "PageForm$Values" 31 y_V_lastSize ∈ gT := gT_t (List.mem_of_getElem? (i := 368) (by decide +kernel))
theorem ml_V_35 : Cond.methodLink "PageForm$Values" 35 arraycopyName ∈ gT := gT_t (List.mem_of_getElem? (i := 372) (by decide +kernel))
theorem ml_F_122 : Cond.methodLink "PageForm" 122 y_V_addNumber ∈ gT := gT_t (List.mem_of_getElem? (i := 373) (by decide +kernel))
theorem ml_L_35 : Cond.methodLink "PageFormLaw" 35 y_F_clear ∈ gT := gT_t (List.mem_of_getElem? (i := 377) (by decide +kernel))
theorem ml_L_39 : Cond.methodLink "PageFormLaw" 39 y_F_write ∈ gT := gT_t (List.mem_of_getElem? (i := 381) (by decide +kernel))
theorem ml_F_125 : Cond.methodLink "PageForm" 125 y_C_lastCoding ∈ gT := gT_t (List.mem_of_getElem? (i := 385) (by decide +kernel))
theorem ml_F_128 : Cond.methodLink "PageForm" 128 y_W_putLevels ∈ gT := gT_t (List.mem_of_getElem? (i := 389) (by decide +kernel))
theorem ml_W_53 : Cond.methodLink "PageForm$Writer" 53 y_B_cut ∈ gT := gT_t (List.mem_of_getElem? (i := 393) (by decide +kernel))
theorem ml_W_65 : Cond.methodLink "PageForm$Writer" 65 y_W_putLevelsOf ∈ gT := gT_t (List.mem_of_getElem? (i := 394) (by decide +kernel))
theorem ml_W_85 : Cond.methodLink "PageForm$Writer" 85 y_B_runs ∈ gT := gT_t (List.mem_of_getElem? (i := 401) (by decide +kernel))
theorem ml_B_45 : Cond.methodLink "PageForm$Bytes" 45 y_B_beginsOne ∈ gT := gT_t (List.mem_of_getElem? (i := 405) (by decide +kernel))
theorem ml_B_49 : Cond.methodLink "PageForm$Bytes" 49 y_B_putOne ∈ gT := gT_t (List.mem_of_getElem? (i := 408) (by decide +kernel))
theorem ml_B_31 : Cond.methodLink "PageForm$Bytes" 31 y_B_varint ∈ gT := gT_t (List.mem_of_getElem? (i := 413) (by decide +kernel))
theorem ml_B_58 : Cond.methodLink "PageForm$Bytes" 58 y_B_lowestFirst ∈ gT := gT_t (List.mem_of_getElem? (i := 418) (by decide +kernel))
theorem ml_B_53 : Cond.methodLink "PageForm$Bytes" 53 y_B_putGroups ∈ gT := gT_t (List.mem_of_getElem? (i := 422) (by decide +kernel))
theorem ml_B_62 : Cond.methodLink "PageForm$Bytes" 62 y_B_zeros ∈ gT := gT_t (List.mem_of_getElem? (i := 426) (by decide +kernel))
theorem ml_B_39 : Cond.methodLink "PageForm$Bytes" 39 y_JA_fill_aBIIB ∈ gT := gT_t (List.mem_of_getElem? (i := 430) (by decide +kernel))
theorem ml_JA_13 : Cond.methodLink "java/util/Arrays" 13 y_JA_rangeCheck ∈ gT := gT_t (List.mem_of_getElem? (i := 433) (by decide +kernel))
theorem ml_B_65 : Cond.methodLink "PageForm$Bytes" 65 y_B_setBits ∈ gT := gT_t (List.mem_of_getElem? (i := 436) (by decide +kernel))
theorem ml_W_89 : Cond.methodLink "PageForm$Writer" 89 y_B_sized ∈ gT := gT_t (List.mem_of_getElem? (i := 440) (by decide +kernel))
theorem ml_B_35 : Cond.methodLink "PageForm$Bytes" 35 y_B_append ∈ gT := gT_t (List.mem_of_getElem? (i := 444) (by decide +kernel))
theorem ml_F_132 : Cond.methodLink "PageForm" 132 y_W_putValues ∈ gT := gT_t (List.mem_of_getElem? (i := 445) (by decide +kernel))
theorem ml_W_96 : Cond.methodLink "PageForm$Writer" 96 y_W_putBools ∈ gT := gT_t (List.mem_of_getElem? (i := 449) (by decide +kernel))
theorem ml_W_134 : Cond.methodLink "PageForm$Writer" 134 y_B_zeros ∈ gT := gT_t (List.mem_of_getElem? (i := 453) (by decide +kernel))
theorem ml_W_137 : Cond.methodLink "PageForm$Writer" 137 y_B_setBits ∈ gT := gT_t (List.mem_of_getElem? (i := 454) (by decide +kernel))
theorem ml_W_104 : Cond.methodLink "PageForm$Writer" 104 y_W_putPlain ∈ gT := gT_t (List.mem_of_getElem? (i := 455) (by decide +kernel))
theorem ml_W_141 : Cond.methodLink "PageForm$Writer" 141 y_W_putText ∈ gT := gT_t (List.mem_of_getElem? (i := 459) (by decide +kernel))
theorem ml_W_149 : Cond.methodLink "PageForm$Writer" 149 y_V_sizeOf ∈ gT := gT_t (List.mem_of_getElem? (i := 463) (by decide +kernel))
theorem ml_W_153 : Cond.methodLink "PageForm$Writer" 153 y_B_varint ∈ gT := gT_t (List.mem_of_getElem? (i := 467) (by decide +kernel))
theorem ml_W_164 : Cond.methodLink "PageForm$Writer" 164 y_B_append ∈ gT := gT_t (List.mem_of_getElem? (i := 468) (by decide +kernel))
theorem ml_W_145 : Cond.methodLink "PageForm$Writer" 145 y_B_lowestFirst ∈ gT := gT_t (List.mem_of_getElem? (i := 469) (by decide +kernel))
theorem ml_W_107 : Cond.methodLink "PageForm$Writer" 107 y_C_lastCoding ∈ gT := gT_t (List.mem_of_getElem? (i := 470) (by decide +kernel))
theorem ml_W_111 : Cond.methodLink "PageForm$Writer" 111 y_D_gather ∈ gT := gT_t (List.mem_of_getElem? (i := 471) (by decide +kernel))
theorem ml_D_18 : Cond.methodLink "PageForm$Dictionary" 18 y_JA_fill_aII ∈ gT := gT_t (List.mem_of_getElem? (i := 475) (by decide +kernel))
theorem ml_D_31 : Cond.methodLink "PageForm$Dictionary" 31 y_D_numberOf ∈ gT := gT_t (List.mem_of_getElem? (i := 478) (by decide +kernel))
theorem ml_D_35 : Cond.methodLink "PageForm$Dictionary" 35 y_V_slotOf ∈ gT := gT_t (List.mem_of_getElem? (i := 482) (by decide +kernel))
theorem ml_D_39 : Cond.methodLink "PageForm$Dictionary" 39 y_V_compare ∈ gT := gT_t (List.mem_of_getElem? (i := 487) (by decide +kernel))
theorem ml_V_59 : Cond.methodLink "PageForm$Values" 59 y_JL_compare ∈ gT := gT_t (List.mem_of_getElem? (i := 491) (by decide +kernel))
theorem ml_V_65 : Cond.methodLink "PageForm$Values" 65 y_V_inCommon ∈ gT := gT_t (List.mem_of_getElem? (i := 494) (by decide +kernel))
theorem ml_V_41 : Cond.methodLink "PageForm$Values" 41 y_V_sizeOf ∈ gT := gT_t (List.mem_of_getElem? (i := 498) (by decide +kernel))
theorem ml_V_53 : Cond.methodLink "PageForm$Values" 53 y_JM_min_II ∈ gT := gT_t (List.mem_of_getElem? (i := 499) (by decide +kernel))
theorem ml_V_69 : Cond.methodLink "PageForm$Values" 69 y_JI_compare ∈ gT := gT_t (List.mem_of_getElem? (i := 502) (by decide +kernel))
theorem ml_V_73 : Cond.methodLink "PageForm$Values" 73 y_V_octetOf ∈ gT := gT_t (List.mem_of_getElem? (i := 505) (by decide +kernel))
theorem ml_W_115 : Cond.methodLink "PageForm$Writer" 115 y_W_putByDictionary ∈ gT := gT_t (List.mem_of_getElem? (i := 509) (by decide +kernel))
theorem ml_W_176 : Cond.methodLink "PageForm$Writer" 176 y_B_put ∈ gT := gT_t (List.mem_of_getElem? (i := 513) (by decide +kernel))
theorem ml_W_118 : Cond.methodLink "PageForm$Writer" 118 y_W_measureTexts ∈ gT := gT_t (List.mem_of_getElem? (i := 514) (by decide +kernel))
theorem ml_W_168 : Cond.methodLink "PageForm$Writer" 168 y_V_inCommon ∈ gT := gT_t (List.mem_of_getElem? (i := 518) (by decide +kernel))
theorem ml_W_122 : Cond.methodLink "PageForm$Writer" 122 y_W_putSizedCode ∈ gT := gT_t (List.mem_of_getElem? (i := 519) (by decide +kernel))
theorem ml_W_130 : Cond.methodLink "PageForm$Writer" 130 y_B_code ∈ gT := gT_t (List.mem_of_getElem? (i := 523) (by decide +kernel))
theorem ml_B_73 : Cond.methodLink "PageForm$Bytes" 73 y_JM_min_II ∈ gT := gT_t (List.mem_of_getElem? (i := 530) (by decide +kernel))
theorem ml_B_79 : Cond.methodLink "PageForm$Bytes" 79 y_B_putBlock ∈ gT := gT_t (List.mem_of_getElem? (i := 531) (by decide +kernel))
theorem ml_B_83 : Cond.methodLink "PageForm$Bytes" 83 y_JM_min_JJ ∈ gT := gT_t (List.mem_of_getElem? (i := 535) (by decide +kernel))
theorem ml_B_86 : Cond.methodLink "PageForm$Bytes" 86 y_B_putPart ∈ gT := gT_t (List.mem_of_getElem? (i := 538) (by decide +kernel))
theorem ml_W_126 : Cond.methodLink "PageForm$Writer" 126 y_W_putTexts ∈ gT := gT_t (List.mem_of_getElem? (i := 543) (by decide +kernel))
theorem ml_F_141 : Cond.methodLink "PageForm" 141 y_W_finish ∈ gT := gT_t (List.mem_of_getElem? (i := 547) (by decide +kernel))
theorem ml_W_179 : Cond.methodLink "PageForm$Writer" 179 y_V_firstMost ∈ gT := gT_t (List.mem_of_getElem? (i := 551) (by decide +kernel))
theorem ml_V_76 : Cond.methodLink "PageForm$Values" 76 y_V_compare ∈ gT := gT_t (List.mem_of_getElem? (i := 555) (by decide +kernel))
theorem ml_W_183 : Cond.methodLink "PageForm$Writer" 183 y_W_tell ∈ gT := gT_t (List.mem_of_getElem? (i := 556) (by decide +kernel))
theorem ml_L_44 : Cond.methodLink "PageFormLaw" 44 y_F_read ∈ gT := gT_t (List.mem_of_getElem? (i := 566) (by decide +kernel))
theorem ml_F_145 : Cond.methodLink "PageForm" 145 y_R_takeHead ∈ gT := gT_t (List.mem_of_getElem? (i := 570) (by decide +kernel))
theorem ml_R_43 : Cond.methodLink "PageForm$Reader" 43 y_S_open ∈ gT := gT_t (List.mem_of_getElem? (i := 574) (by decide +kernel))
theorem ml_R_46 : Cond.methodLink "PageForm$Reader" 46 y_R_takeEntries ∈ gT := gT_t (List.mem_of_getElem? (i := 578) (by decide +kernel))
theorem ml_R_85 : Cond.methodLink "PageForm$Reader" 85 y_S_varint ∈ gT := gT_t (List.mem_of_getElem? (i := 582) (by decide +kernel))
theorem ml_S_47 : Cond.methodLink "PageForm$Source" 47 y_S_octet ∈ gT := gT_t (List.mem_of_getElem? (i := 586) (by decide +kernel))
theorem ml_S_39 : Cond.methodLink "PageForm$Source" 39 y_S_there ∈ gT := gT_t (List.mem_of_getElem? (i := 590) (by decide +kernel))
theorem ml_S_51 : Cond.methodLink "PageForm$Source" 51 y_S_fail ∈ gT := gT_t (List.mem_of_getElem? (i := 594) (by decide +kernel))
theorem ml_R_71 : Cond.methodLink "PageForm$Reader" 71 y_S_fail ∈ gT := gT_t (List.mem_of_getElem? (i := 598) (by decide +kernel))
theorem ml_R_54 : Cond.methodLink "PageForm$Reader" 54 y_R_takeNones ∈ gT := gT_t (List.mem_of_getElem? (i := 600) (by decide +kernel))
theorem ml_R_60 : Cond.methodLink "PageForm$Reader" 60 y_S_octet ∈ gT := gT_t (List.mem_of_getElem? (i := 604) (by decide +kernel))
theorem ml_R_66 : Cond.methodLink "PageForm$Reader" 66 y_C_lastCoding ∈ gT := gT_t (List.mem_of_getElem? (i := 605) (by decide +kernel))
theorem ml_R_78 : Cond.methodLink "PageForm$Reader" 78 y_V_makeEmpty ∈ gT := gT_t (List.mem_of_getElem? (i := 606) (by decide +kernel))
theorem ml_R_82 : Cond.methodLink "PageForm$Reader" 82 y_R_takeTold ∈ gT := gT_t (List.mem_of_getElem? (i := 607) (by decide +kernel))
theorem ml_R_105 : Cond.methodLink "PageForm$Reader" 105 y_R_takeText ∈ gT := gT_t (List.mem_of_getElem? (i := 611) (by decide +kernel))
theorem ml_R_124 : Cond.methodLink "PageForm$Reader" 124 y_V_lastSize ∈ gT := gT_t (List.mem_of_getElem? (i := 615) (by decide +kernel))
theorem ml_R_129 : Cond.methodLink "PageForm$Reader" 129 y_S_there ∈ gT := gT_t (List.mem_of_getElem? (i := 617) (by decide +kernel))
theorem ml_R_139 : Cond.methodLink "PageForm$Reader" 139 y_V_addText ∈ gT := gT_t (List.mem_of_getElem? (i := 618) (by decide +kernel))
theorem ml_R_113 : Cond.methodLink "PageForm$Reader" 113 y_R_takeNumber ∈ gT := gT_t (List.mem_of_getElem? (i := 622) (by decide +kernel))
theorem ml_R_117 : Cond.methodLink "PageForm$Reader" 117 y_C_holds ∈ gT := gT_t (List.mem_of_getElem? (i := 626) (by decide +kernel))
theorem ml_R_121 : Cond.methodLink "PageForm$Reader" 121 y_V_addNumber ∈ gT := gT_t (List.mem_of_getElem? (i := 627) (by decide +kernel))
theorem ml_R_93 : Cond.methodLink "PageForm$Reader" 93 y_S_lowestFirst ∈ gT := gT_t (List.mem_of_getElem? (i := 628) (by decide +kernel))
theorem ml_S_43 : Cond.methodLink "PageForm$Source" 43 y_S_bitsAt ∈ gT := gT_t (List.mem_of_getElem? (i := 632) (by decide +kernel))
theorem ml_F_148 : Cond.methodLink "PageForm" 148 y_R_openBody ∈ gT := gT_t (List.mem_of_getElem? (i := 636) (by decide +kernel))
theorem ml_F_151 : Cond.methodLink "PageForm" 151 y_R_takeLevels ∈ gT := gT_t (List.mem_of_getElem? (i := 641) (by decide +kernel))
theorem ml_R_153 : Cond.methodLink "PageForm$Reader" 153 y_P_makeEmpty ∈ gT := gT_t (List.mem_of_getElem? (i := 645) (by decide +kernel))
theorem ml_R_164 : Cond.methodLink "PageForm$Reader" 164 y_R_takeLevelsOf ∈ gT := gT_t (List.mem_of_getElem? (i := 646) (by decide +kernel))
theorem ml_R_181 : Cond.methodLink "PageForm$Reader" 181 y_JA_fill_aBIIB ∈ gT := gT_t (List.mem_of_getElem? (i := 650) (by decide +kernel))
theorem ml_R_187 : Cond.methodLink "PageForm$Reader" 187 y_S_narrow ∈ gT := gT_t (List.mem_of_getElem? (i := 651) (by decide +kernel))
theorem ml_S_55 : Cond.methodLink "PageForm$Source" 55 y_S_varint ∈ gT := gT_t (List.mem_of_getElem? (i := 655) (by decide +kernel))
theorem ml_R_194 : Cond.methodLink "PageForm$Reader" 194 y_S_runs ∈ gT := gT_t (List.mem_of_getElem? (i := 657) (by decide +kernel))
theorem ml_S_59 : Cond.methodLink "PageForm$Source" 59 y_S_takeCount ∈ gT := gT_t (List.mem_of_getElem? (i := 661) (by decide +kernel))
theorem ml_S_63 : Cond.methodLink "PageForm$Source" 63 y_S_takeOne ∈ gT := gT_t (List.mem_of_getElem? (i := 665) (by decide +kernel))
theorem ml_S_74 : Cond.methodLink "PageForm$Source" 74 y_S_lowestFirst ∈ gT := gT_t (List.mem_of_getElem? (i := 669) (by decide +kernel))
theorem ml_S_78 : Cond.methodLink "PageForm$Source" 78 y_JA_fill_aJIIJ ∈ gT := gT_t (List.mem_of_getElem? (i := 670) (by decide +kernel))
theorem ml_S_67 : Cond.methodLink "PageForm$Source" 67 y_S_takeGroups ∈ gT := gT_t (List.mem_of_getElem? (i := 673) (by decide +kernel))
theorem ml_S_71 : Cond.methodLink "PageForm$Source" 71 y_S_mustBeAtEnd ∈ gT := gT_t (List.mem_of_getElem? (i := 677) (by decide +kernel))
theorem ml_R_174 : Cond.methodLink "PageForm$Reader" 174 y_P_addLevels ∈ gT := gT_t (List.mem_of_getElem? (i := 681) (by decide +kernel))
theorem ml_F_154 : Cond.methodLink "PageForm" 154 y_R_takeValues ∈ gT := gT_t (List.mem_of_getElem? (i := 682) (by decide +kernel))
theorem ml_R_198 : Cond.methodLink "PageForm$Reader" 198 y_R_takeBools ∈ gT := gT_t (List.mem_of_getElem? (i := 686) (by decide +kernel))
theorem ml_R_229 : Cond.methodLink "PageForm$Reader" 229 y_R_takeNumbers ∈ gT := gT_t (List.mem_of_getElem? (i := 690) (by decide +kernel))
theorem ml_R_235 : Cond.methodLink "PageForm$Reader" 235 y_S_bitsAt ∈ gT := gT_t (List.mem_of_getElem? (i := 694) (by decide +kernel))
theorem ml_R_202 : Cond.methodLink "PageForm$Reader" 202 y_R_takePlain ∈ gT := gT_t (List.mem_of_getElem? (i := 695) (by decide +kernel))
theorem ml_R_206 : Cond.methodLink "PageForm$Reader" 206 y_R_takeByDictionary ∈ gT := gT_t (List.mem_of_getElem? (i := 699) (by decide +kernel))
theorem ml_R_239 : Cond.methodLink "PageForm$Reader" 239 y_V_addFrom ∈ gT := gT_t (List.mem_of_getElem? (i := 703) (by decide +kernel))
theorem ml_V_45 : Cond.methodLink "PageForm$Values" 45 y_V_addText ∈ gT := gT_t (List.mem_of_getElem? (i := 707) (by decide +kernel))
theorem ml_V_49 : Cond.methodLink "PageForm$Values" 49 y_V_addNumber ∈ gT := gT_t (List.mem_of_getElem? (i := 708) (by decide +kernel))
theorem ml_R_209 : Cond.methodLink "PageForm$Reader" 209 y_JA_fill_aJIIJ ∈ gT := gT_t (List.mem_of_getElem? (i := 709) (by decide +kernel))
theorem ml_R_212 : Cond.methodLink "PageForm$Reader" 212 y_R_takeSizedCode ∈ gT := gT_t (List.mem_of_getElem? (i := 710) (by decide +kernel))
theorem ml_R_222 : Cond.methodLink "PageForm$Reader" 222 y_S_code ∈ gT := gT_t (List.mem_of_getElem? (i := 714) (by decide +kernel))
theorem ml_S_90 : Cond.methodLink "PageForm$Source" 90 y_JM_min_II ∈ gT := gT_t (List.mem_of_getElem? (i := 720) (by decide +kernel))
theorem ml_S_96 : Cond.methodLink "PageForm$Source" 96 y_S_takeBlock ∈ gT := gT_t (List.mem_of_getElem? (i := 721) (by decide +kernel))
theorem ml_S_100 : Cond.methodLink "PageForm$Source" 100 y_S_takePart ∈ gT := gT_t (List.mem_of_getElem? (i := 725) (by decide +kernel))
theorem ml_R_226 : Cond.methodLink "PageForm$Reader" 226 y_R_mustBeCount ∈ gT := gT_t (List.mem_of_getElem? (i := 729) (by decide +kernel))
theorem ml_R_216 : Cond.methodLink "PageForm$Reader" 216 y_R_lookAtLengths ∈ gT := gT_t (List.mem_of_getElem? (i := 733) (by decide +kernel))
theorem ml_R_219 : Cond.methodLink "PageForm$Reader" 219 y_R_takeTexts ∈ gT := gT_t (List.mem_of_getElem? (i := 737) (by decide +kernel))
theorem ml_R_232 : Cond.methodLink "PageForm$Reader" 232 y_S_mustBeAtEnd ∈ gT := gT_t (List.mem_of_getElem? (i := 741) (by decide +kernel))
theorem ml_F_158 : Cond.methodLink "PageForm" 158 y_R_compareTold ∈ gT := gT_t (List.mem_of_getElem? (i := 742) (by decide +kernel))
theorem ml_R_244 : Cond.methodLink "PageForm$Reader" 244 y_V_firstMost ∈ gT := gT_t (List.mem_of_getElem? (i := 746) (by decide +kernel))
theorem ml_R_248 : Cond.methodLink "PageForm$Reader" 248 y_V_compare ∈ gT := gT_t (List.mem_of_getElem? (i := 747) (by decide +kernel))
theorem ml_L_49 : Cond.methodLink "PageFormLaw" 49 y_F_turn ∈ gT := gT_t (List.mem_of_getElem? (i := 748) (by decide +kernel))
theorem ml_L_54 : Cond.methodLink "PageFormLaw" 54 y_F_about ∈ gT := gT_t (List.mem_of_getElem? (i := 752) (by decide +kernel))
theorem ml_L_58 : Cond.methodLink "PageFormLaw" 58 y_F_level ∈ gT := gT_t (List.mem_of_getElem? (i := 756) (by decide +kernel))
theorem ml_L_63 : Cond.methodLink "PageFormLaw" 63 y_F_value ∈ gT := gT_t (List.mem_of_getElem? (i := 760) (by decide +kernel))
theorem ml_L_68 : Cond.methodLink "PageFormLaw" 68 y_F_length ∈ gT := gT_t (List.mem_of_getElem? (i := 764) (by decide +kernel))
theorem ml_F_197 : Cond.methodLink "PageForm" 197 y_V_sizeOf ∈ gT := gT_t (List.mem_of_getElem? (i := 768) (by decide +kernel))
theorem ml_L_72 : Cond.methodLink "PageFormLaw" 72 y_F_byteOf ∈ gT := gT_t (List.mem_of_getElem? (i := 769) (by decide +kernel))
theorem ml_F_200 : Cond.methodLink "PageForm" 200 y_V_octetOf ∈ gT := gT_t (List.mem_of_getElem? (i := 773) (by decide +kernel))
theorem ml_L_76 : Cond.methodLink "PageFormLaw" 76 y_F_most ∈ gT := gT_t (List.mem_of_getElem? (i := 774) (by decide +kernel))
theorem ml_F_204 : Cond.methodLink "PageForm" 204 y_V_firstMost ∈ gT := gT_t (List.mem_of_getElem? (i := 778) (by decide +kernel))
theorem ml_L_81 : Cond.methodLink "PageFormLaw" 81 y_F_output ∈ gT := gT_t (List.mem_of_getElem? (i := 779) (by decide +kernel))
theorem ml_L_12 : Cond.methodLink "PageFormLaw" 12 y_M_init ∈ gT := gT_t (List.mem_of_getElem? (i := 785) (by decide +kernel))
theorem ml_L_17 : Cond.methodLink "PageFormLaw" 17 y_M_feed ∈ gT := gT_t (List.mem_of_getElem? (i := 914) (by decide +kernel))
theorem ml_L_22 : Cond.methodLink "PageFormLaw" 22 y_M_end ∈ gT := gT_t (List.mem_of_getElem? (i := 918) (by decide +kernel))
theorem ml_L_27 : Cond.methodLink "PageFormLaw" 27 y_M_column ∈ gT := gT_t (List.mem_of_getElem? (i := 922) (by decide +kernel))
theorem ml_M_190 : Cond.methodLink "PageFormModel" 190 y_M_empty ∈ gT := gT_t (List.mem_of_getElem? (i := 926) (by decide +kernel))
theorem ml_L_34 : Cond.methodLink "PageFormLaw" 34 y_M_add ∈ gT := gT_t (List.mem_of_getElem? (i := 930) (by decide +kernel))
theorem ml_M_193 : Cond.methodLink "PageFormModel" 193 y_M_isOne ∈ gT := gT_t (List.mem_of_getElem? (i := 934) (by decide +kernel))
theorem ml_L_38 : Cond.methodLink "PageFormLaw" 38 y_M_clear ∈ gT := gT_t (List.mem_of_getElem? (i := 938) (by decide +kernel))
theorem ml_L_43 : Cond.methodLink "PageFormLaw" 43 y_M_write ∈ gT := gT_t (List.mem_of_getElem? (i := 942) (by decide +kernel))
theorem ml_M_252 : Cond.methodLink "PageFormModel" 252 y_M_codings ∈ gT := gT_t (List.mem_of_getElem? (i := 946) (by decide +kernel))
theorem ml_M_258 : Cond.methodLink "PageFormModel" 258 y_M_writeValues ∈ gT := gT_t (List.mem_of_getElem? (i := 950) (by decide +kernel))
theorem ml_M_232 : Cond.methodLink "PageFormModel" 232 y_M_writeBools ∈ gT := gT_t (List.mem_of_getElem? (i := 954) (by decide +kernel))
theorem ml_M_217 : Cond.methodLink "PageFormModel" 217 y_M_writeRuns ∈ gT := gT_t (List.mem_of_getElem? (i := 958) (by decide +kernel))
theorem ml_M_103 : Cond.methodLink "PageFormModel" 103 y_M_alike ∈ gT := gT_t (List.mem_of_getElem? (i := 962) (by decide +kernel))
theorem ml_M_109 : Cond.methodLink "PageFormModel" 109 y_M_putVarint ∈ gT := gT_t (List.mem_of_getElem? (i := 966) (by decide +kernel))
theorem ml_M_99 : Cond.methodLink "PageFormModel" 99 y_M_put ∈ gT := gT_t (List.mem_of_getElem? (i := 971) (by decide +kernel))
theorem ml_M_235 : Cond.methodLink "PageFormModel" 235 y_M_writeWholes ∈ gT := gT_t (List.mem_of_getElem? (i := 975) (by decide +kernel))
theorem ml_M_221 : Cond.methodLink "PageFormModel" 221 y_M_wide ∈ gT := gT_t (List.mem_of_getElem? (i := 979) (by decide +kernel))
theorem ml_M_225 : Cond.methodLink "PageFormModel" 225 y_M_putFixed ∈ gT := gT_t (List.mem_of_getElem? (i := 983) (by decide +kernel))
theorem ml_M_132 : Cond.methodLink "PageFormModel" 132 y_M_writeLongs ∈ gT := gT_t (List.mem_of_getElem? (i := 987) (by decide +kernel))
theorem ml_M_138 : Cond.methodLink "PageFormModel" 138 y_M_zigzag ∈ gT := gT_t (List.mem_of_getElem? (i := 991) (by decide +kernel))
theorem ml_M_142 : Cond.methodLink "PageFormModel" 142 y_M_difference ∈ gT := gT_t (List.mem_of_getElem? (i := 995) (by decide +kernel))
theorem ml_M_145 : Cond.methodLink "PageFormModel" 145 y_M_widthOf ∈ gT := gT_t (List.mem_of_getElem? (i := 999) (by decide +kernel))
theorem ml_M_149 : Cond.methodLink "PageFormModel" 149 y_M_writePart ∈ gT := gT_t (List.mem_of_getElem? (i := 1003) (by decide +kernel))
theorem ml_M_229 : Cond.methodLink "PageFormModel" 229 y_M_firstWhole ∈ gT := gT_t (List.mem_of_getElem? (i := 1007) (by decide +kernel))
theorem ml_M_238 : Cond.methodLink "PageFormModel" 238 y_M_writeLengths ∈ gT := gT_t (List.mem_of_getElem? (i := 1011) (by decide +kernel))
theorem ml_M_197 : Cond.methodLink "PageFormModel" 197 y_M_lengthOf ∈ gT := gT_t (List.mem_of_getElem? (i := 1015) (by decide +kernel))
theorem ml_M_205 : Cond.methodLink "PageFormModel" 205 y_M_writeCode ∈ gT := gT_t (List.mem_of_getElem? (i := 1019) (by decide +kernel))
theorem ml_M_241 : Cond.methodLink "PageFormModel" 241 y_M_writeFront ∈ gT := gT_t (List.mem_of_getElem? (i := 1023) (by decide +kernel))
theorem ml_M_208 : Cond.methodLink "PageFormModel" 208 y_M_inCommon ∈ gT := gT_t (List.mem_of_getElem? (i := 1027) (by decide +kernel))
theorem ml_M_244 : Cond.methodLink "PageFormModel" 244 y_M_writeDictionary ∈ gT := gT_t (List.mem_of_getElem? (i := 1031) (by decide +kernel))
theorem ml_M_211 : Cond.methodLink "PageFormModel" 211 y_M_firstLike ∈ gT := gT_t (List.mem_of_getElem? (i := 1035) (by decide +kernel))
theorem ml_M_201 : Cond.methodLink "PageFormModel" 201 y_M_same ∈ gT := gT_t (List.mem_of_getElem? (i := 1039) (by decide +kernel))
theorem ml_M_214 : Cond.methodLink "PageFormModel" 214 y_M_putText ∈ gT := gT_t (List.mem_of_getElem? (i := 1043) (by decide +kernel))
theorem ml_M_261 : Cond.methodLink "PageFormModel" 261 y_M_putLevels ∈ gT := gT_t (List.mem_of_getElem? (i := 1047) (by decide +kernel))
theorem ml_M_268 : Cond.methodLink "PageFormModel" 268 y_M_mostOf ∈ gT := gT_t (List.mem_of_getElem? (i := 1051) (by decide +kernel))
theorem ml_M_247 : Cond.methodLink "PageFormModel" 247 y_M_compare ∈ gT := gT_t (List.mem_of_getElem? (i := 1055) (by decide +kernel))
theorem ml_M_272 : Cond.methodLink "PageFormModel" 272 y_M_putOne ∈ gT := gT_t (List.mem_of_getElem? (i := 1059) (by decide +kernel))
theorem ml_M_275 : Cond.methodLink "PageFormModel" 275 y_M_check ∈ gT := gT_t (List.mem_of_getElem? (i := 1063) (by decide +kernel))
theorem ml_L_48 : Cond.methodLink "PageFormLaw" 48 y_M_read ∈ gT := gT_t (List.mem_of_getElem? (i := 1067) (by decide +kernel))
theorem ml_M_113 : Cond.methodLink "PageFormModel" 113 y_M_varint ∈ gT := gT_t (List.mem_of_getElem? (i := 1071) (by decide +kernel))
theorem ml_M_312 : Cond.methodLink "PageFormModel" 312 y_M_fixed ∈ gT := gT_t (List.mem_of_getElem? (i := 1076) (by decide +kernel))
theorem ml_M_343 : Cond.methodLink "PageFormModel" 343 y_M_readTold ∈ gT := gT_t (List.mem_of_getElem? (i := 1080) (by decide +kernel))
theorem ml_M_162 : Cond.methodLink "PageFormModel" 162 y_M_unzigzag ∈ gT := gT_t (List.mem_of_getElem? (i := 1084) (by decide +kernel))
theorem ml_M_346 : Cond.methodLink "PageFormModel" 346 y_M_readBody ∈ gT := gT_t (List.mem_of_getElem? (i := 1088) (by decide +kernel))
theorem ml_M_326 : Cond.methodLink "PageFormModel" 326 y_M_readLevels ∈ gT := gT_t (List.mem_of_getElem? (i := 1092) (by decide +kernel))
theorem ml_M_299 : Cond.methodLink "PageFormModel" 299 y_M_readRuns ∈ gT := gT_t (List.mem_of_getElem? (i := 1096) (by decide +kernel))
theorem ml_M_117 : Cond.methodLink "PageFormModel" 117 y_M_readOne ∈ gT := gT_t (List.mem_of_getElem? (i := 1100) (by decide +kernel))
theorem ml_M_124 : Cond.methodLink "PageFormModel" 124 y_M_bitsAt ∈ gT := gT_t (List.mem_of_getElem? (i := 1104) (by decide +kernel))
theorem ml_M_121 : Cond.methodLink "PageFormModel" 121 y_M_readGroups ∈ gT := gT_t (List.mem_of_getElem? (i := 1108) (by decide +kernel))
theorem ml_M_329 : Cond.methodLink "PageFormModel" 329 y_M_readBools ∈ gT := gT_t (List.mem_of_getElem? (i := 1113) (by decide +kernel))
theorem ml_M_332 : Cond.methodLink "PageFormModel" 332 y_M_readTexts ∈ gT := gT_t (List.mem_of_getElem? (i := 1117) (by decide +kernel))
theorem ml_M_293 : Cond.methodLink "PageFormModel" 293 y_M_readPlain ∈ gT := gT_t (List.mem_of_getElem? (i := 1121) (by decide +kernel))
theorem ml_M_283 : Cond.methodLink "PageFormModel" 283 y_M_take ∈ gT := gT_t (List.mem_of_getElem? (i := 1125) (by decide +kernel))
theorem ml_M_303 : Cond.methodLink "PageFormModel" 303 y_M_readLengths ∈ gT := gT_t (List.mem_of_getElem? (i := 1129) (by decide +kernel))
theorem ml_M_286 : Cond.methodLink "PageFormModel" 286 y_M_readCode ∈ gT := gT_t (List.mem_of_getElem? (i := 1133) (by decide +kernel))
theorem ml_M_156 : Cond.methodLink "PageFormModel" 156 y_M_readLongs ∈ gT := gT_t (List.mem_of_getElem? (i := 1137) (by decide +kernel))
theorem ml_M_165 : Cond.methodLink "PageFormModel" 165 y_M_readBlock ∈ gT := gT_t (List.mem_of_getElem? (i := 1142) (by decide +kernel))
theorem ml_M_306 : Cond.methodLink "PageFormModel" 306 y_M_readFront ∈ gT := gT_t (List.mem_of_getElem? (i := 1146) (by decide +kernel))
theorem ml_M_289 : Cond.methodLink "PageFormModel" 289 y_M_told ∈ gT := gT_t (List.mem_of_getElem? (i := 1150) (by decide +kernel))
theorem ml_M_309 : Cond.methodLink "PageFormModel" 309 y_M_readDictionary ∈ gT := gT_t (List.mem_of_getElem? (i := 1153) (by decide +kernel))
theorem ml_M_335 : Cond.methodLink "PageFormModel" 335 y_M_readWholes ∈ gT := gT_t (List.mem_of_getElem? (i := 1157) (by decide +kernel))
theorem ml_M_316 : Cond.methodLink "PageFormModel" 316 y_M_whole ∈ gT := gT_t (List.mem_of_getElem? (i := 1161) (by decide +kernel))
theorem ml_M_320 : Cond.methodLink "PageFormModel" 320 y_M_readWords ∈ gT := gT_t (List.mem_of_getElem? (i := 1165) (by decide +kernel))
theorem ml_M_338 : Cond.methodLink "PageFormModel" 338 y_M_isMost ∈ gT := gT_t (List.mem_of_getElem? (i := 1169) (by decide +kernel))
theorem ml_M_323 : Cond.methodLink "PageFormModel" 323 y_M_against ∈ gT := gT_t (List.mem_of_getElem? (i := 1173) (by decide +kernel))
theorem ml_L_53 : Cond.methodLink "PageFormLaw" 53 y_M_turn ∈ gT := gT_t (List.mem_of_getElem? (i := 1177) (by decide +kernel))
theorem ml_L_57 : Cond.methodLink "PageFormLaw" 57 y_M_about ∈ gT := gT_t (List.mem_of_getElem? (i := 1181) (by decide +kernel))
theorem ml_L_62 : Cond.methodLink "PageFormLaw" 62 y_M_level ∈ gT := gT_t (List.mem_of_getElem? (i := 1185) (by decide +kernel))
theorem ml_L_67 : Cond.methodLink "PageFormLaw" 67 y_M_value ∈ gT := gT_t (List.mem_of_getElem? (i := 1189) (by decide +kernel))
theorem ml_M_349 : Cond.methodLink "PageFormModel" 349 y_M_isValue ∈ gT := gT_t (List.mem_of_getElem? (i := 1193) (by decide +kernel))
theorem ml_L_71 : Cond.methodLink "PageFormLaw" 71 y_M_length ∈ gT := gT_t (List.mem_of_getElem? (i := 1197) (by decide +kernel))
theorem ml_L_75 : Cond.methodLink "PageFormLaw" 75 y_M_byteOf ∈ gT := gT_t (List.mem_of_getElem? (i := 1201) (by decide +kernel))
theorem ml_L_80 : Cond.methodLink "PageFormLaw" 80 y_M_most ∈ gT := gT_t (List.mem_of_getElem? (i := 1205) (by decide +kernel))
theorem ml_L_84 : Cond.methodLink "PageFormLaw" 84 y_M_output ∈ gT := gT_t (List.mem_of_getElem? (i := 1209) (by decide +kernel))
def nestW : List Cond := [Cond.methodLinkNest "PageForm$Writer" 81 y_F_widthOf "PageForm", Cond.methodLinkNest "PageForm$Bytes" 69 y_F_zigzag "PageForm", Cond.methodLinkNest "PageForm$Bytes" 90 y_F_widthOf "PageForm", Cond.methodLinkNest "PageForm$Writer" 193 y_F_zigzag "PageForm", Cond.methodLinkNest "PageForm$Writer" 189 y_F_checkOf "PageForm", Cond.methodLinkNest "PageForm$Reader" 109 y_F_unzigzag "PageForm", Cond.methodLinkNest "PageForm$Reader" 146 y_F_checkOf "PageForm", Cond.methodLinkNest "PageForm$Reader" 190 y_F_widthOf "PageForm", Cond.methodLinkNest "PageForm$Source" 86 y_F_unzigzag "PageForm"]
theorem nestW_in : ∀ w ∈ nestW, w ∈ lw_tbl := by decide +kernel
theorem nestW_warm {s U : State} (hW : s.WarmedH U.vm) (h : ∀ w ∈ nestW, va_Nw w s) : ∀ w ∈ nestW, va_Nw w U := by
  intro w hw
  have h1 := h w hw
  simp only [nestW, List.mem_cons, List.not_mem_nil, or_false] at hw
  rcases hw with rfl | rfl | rfl | rfl | rfl | rfl | rfl | rfl | rfl <;> exact va_Nw.warmM hW h1
theorem nestW_same {U V : State} (e : U.vm = V.vm) (h : ∀ w ∈ nestW, va_Nw w U) : ∀ w ∈ nestW, va_Nw w V := by
  intro w hw
  have h1 := h w hw
  simp only [nestW, List.mem_cons, List.not_mem_nil, or_false] at hw
  rcases hw with rfl | rfl | rfl | rfl | rfl | rfl | rfl | rfl | rfl <;> exact va_Nw.same rfl e h1
theorem ml_W_81 : Cond.methodLinkNest "PageForm$Writer" 81 y_F_widthOf "PageForm" ∈ nestW := List.mem_of_getElem? (i := 0) rfl
theorem ml_B_69 : Cond.methodLinkNest "PageForm$Bytes" 69 y_F_zigzag "PageForm" ∈ nestW := List.mem_of_getElem? (i := 1) rfl
theorem ml_B_90 : Cond.methodLinkNest "PageForm$Bytes" 90 y_F_widthOf "PageForm" ∈ nestW := List.mem_of_getElem? (i := 2) rfl
theorem ml_W_193 : Cond.methodLinkNest "PageForm$Writer" 193 y_F_zigzag "PageForm" ∈ nestW := List.mem_of_getElem? (i := 3) rfl
theorem ml_W_189 : Cond.methodLinkNest "PageForm$Writer" 189 y_F_checkOf "PageForm" ∈ nestW := List.mem_of_getElem? (i := 4) rfl
theorem ml_R_109 : Cond.methodLinkNest "PageForm$Reader" 109 y_F_unzigzag "PageForm" ∈ nestW := List.mem_of_getElem? (i := 5) rfl
theorem ml_R_146 : Cond.methodLinkNest "PageForm$Reader" 146 y_F_checkOf "PageForm" ∈ nestW := List.mem_of_getElem? (i := 6) rfl
theorem ml_R_190 : Cond.methodLinkNest "PageForm$Reader" 190 y_F_widthOf "PageForm" ∈ nestW := List.mem_of_getElem? (i := 7) rfl
theorem ml_S_86 : Cond.methodLinkNest "PageForm$Source" 86 y_F_unzigzag "PageForm" ∈ nestW := List.mem_of_getElem? (i := 8) rfl
theorem fl_C_9 : Cond.fieldLink "PageForm$Column" 9 "PageForm$Column" "type" "I" ∈ gT := gT_t (List.mem_of_getElem? (i := 30) (by decide +kernel))
theorem fl_P_38 : Cond.fieldLink "PageForm$Page" 38 "PageForm$Column" "type" "I" ∈ gT := gT_t (List.mem_of_getElem? (i := 31) (by decide +kernel))
theorem fl_R_75 : Cond.fieldLink "PageForm$Reader" 75 "PageForm$Column" "type" "I" ∈ gT := gT_t (List.mem_of_getElem? (i := 32) (by decide +kernel))
theorem fl_W_93 : Cond.fieldLink "PageForm$Writer" 93 "PageForm$Column" "type" "I" ∈ gT := gT_t (List.mem_of_getElem? (i := 33) (by decide +kernel))
theorem fl_F_77 : Cond.fieldLink "PageForm" 77 "PageForm$Column" "type" "I" ∈ gT := gT_t (List.mem_of_getElem? (i := 34) (by decide +kernel))
theorem fl_W_60 : Cond.fieldLink "PageForm$Writer" 60 "PageForm$Column" "mostR" "I" ∈ gT := gT_t (List.mem_of_getElem? (i := 35) (by decide +kernel))
theorem fl_F_80 : Cond.fieldLink "PageForm" 80 "PageForm$Column" "mostR" "I" ∈ gT := gT_t (List.mem_of_getElem? (i := 36) (by decide +kernel))
theorem fl_R_161 : Cond.fieldLink "PageForm$Reader" 161 "PageForm$Column" "mostR" "I" ∈ gT := gT_t (List.mem_of_getElem? (i := 37) (by decide +kernel))
theorem fl_W_72 : Cond.fieldLink "PageForm$Writer" 72 "PageForm$Column" "mostD" "I" ∈ gT := gT_t (List.mem_of_getElem? (i := 38) (by decide +kernel))
theorem fl_F_83 : Cond.fieldLink "PageForm" 83 "PageForm$Column" "mostD" "I" ∈ gT := gT_t (List.mem_of_getElem? (i := 39) (by decide +kernel))
theorem fl_R_171 : Cond.fieldLink "PageForm$Reader" 171 "PageForm$Column" "mostD" "I" ∈ gT := gT_t (List.mem_of_getElem? (i := 40) (by decide +kernel))
theorem fl_B_9 : Cond.fieldLink "PageForm$Bytes" 9 "PageForm$Bytes" "row" "[B" ∈ gT := gT_t (List.mem_of_getElem? (i := 54) (by decide +kernel))
theorem fl_S_19 : Cond.fieldLink "PageForm$Source" 19 "PageForm$Bytes" "row" "[B" ∈ gT := gT_t (List.mem_of_getElem? (i := 55) (by decide +kernel))
theorem fl_F_69 : Cond.fieldLink "PageForm" 69 "PageForm$Bytes" "row" "[B" ∈ gT := gT_t (List.mem_of_getElem? (i := 56) (by decide +kernel))
theorem fl_W_186 : Cond.fieldLink "PageForm$Writer" 186 "PageForm$Bytes" "row" "[B" ∈ gT := gT_t (List.mem_of_getElem? (i := 57) (by decide +kernel))
theorem fl_B_15 : Cond.fieldLink "PageForm$Bytes" 15 "PageForm$Bytes" "size" "I" ∈ gT := gT_t (List.mem_of_getElem? (i := 58) (by decide +kernel))
theorem fl_F_59 : Cond.fieldLink "PageForm" 59 "PageForm$Bytes" "size" "I" ∈ gT := gT_t (List.mem_of_getElem? (i := 59) (by decide +kernel))
theorem fl_S_30 : Cond.fieldLink "PageForm$Source" 30 "PageForm$Bytes" "size" "I" ∈ gT := gT_t (List.mem_of_getElem? (i := 60) (by decide +kernel))
theorem fl_W_75 : Cond.fieldLink "PageForm$Writer" 75 "PageForm$Bytes" "size" "I" ∈ gT := gT_t (List.mem_of_getElem? (i := 61) (by decide +kernel))
theorem fl_D_9 : Cond.fieldLink "PageForm$Dictionary" 9 "PageForm$Dictionary" "slots" "[I" ∈ gT := gT_t (List.mem_of_getElem? (i := 82) (by decide +kernel))
theorem fl_D_15 : Cond.fieldLink "PageForm$Dictionary" 15 "PageForm$Dictionary" "firsts" "[I" ∈ gT := gT_t (List.mem_of_getElem? (i := 83) (by decide +kernel))
theorem fl_W_173 : Cond.fieldLink "PageForm$Writer" 173 "PageForm$Dictionary" "firsts" "[I" ∈ gT := gT_t (List.mem_of_getElem? (i := 84) (by decide +kernel))
theorem fl_D_24 : Cond.fieldLink "PageForm$Dictionary" 24 "PageForm$Dictionary" "count" "I" ∈ gT := gT_t (List.mem_of_getElem? (i := 85) (by decide +kernel))
theorem fl_W_172 : Cond.fieldLink "PageForm$Writer" 172 "PageForm$Dictionary" "count" "I" ∈ gT := gT_t (List.mem_of_getElem? (i := 86) (by decide +kernel))
theorem fl_W_37 : Cond.fieldLink "PageForm$Writer" 37 "PageForm$Writer" "column" "LPageForm$Column;" ∈ gT := gT_t (List.mem_of_getElem? (i := 96) (by decide +kernel))
theorem fl_W_14 : Cond.fieldLink "PageForm$Writer" 14 "PageForm$Writer" "body" "LPageForm$Bytes;" ∈ gT := gT_t (List.mem_of_getElem? (i := 97) (by decide +kernel))
theorem fl_W_20 : Cond.fieldLink "PageForm$Writer" 20 "PageForm$Writer" "piece" "LPageForm$Bytes;" ∈ gT := gT_t (List.mem_of_getElem? (i := 98) (by decide +kernel))
theorem fl_W_23 : Cond.fieldLink "PageForm$Writer" 23 "PageForm$Writer" "numbers" "[J" ∈ gT := gT_t (List.mem_of_getElem? (i := 99) (by decide +kernel))
theorem fl_W_27 : Cond.fieldLink "PageForm$Writer" 27 "PageForm$Writer" "commons" "[J" ∈ gT := gT_t (List.mem_of_getElem? (i := 100) (by decide +kernel))
theorem fl_W_33 : Cond.fieldLink "PageForm$Writer" 33 "PageForm$Writer" "dictionary" "LPageForm$Dictionary;" ∈ gT := gT_t (List.mem_of_getElem? (i := 101) (by decide +kernel))
theorem fl_W_47 : Cond.fieldLink "PageForm$Writer" 47 "PageForm$Writer" "values" "LPageForm$Values;" ∈ gT := gT_t (List.mem_of_getElem? (i := 102) (by decide +kernel))
theorem fl_W_52 : Cond.fieldLink "PageForm$Writer" 52 "PageForm$Writer" "entries" "I" ∈ gT := gT_t (List.mem_of_getElem? (i := 103) (by decide +kernel))
theorem fl_W_78 : Cond.fieldLink "PageForm$Writer" 78 "PageForm$Writer" "levelBytes" "I" ∈ gT := gT_t (List.mem_of_getElem? (i := 104) (by decide +kernel))
theorem fl_V_9 : Cond.fieldLink "PageForm$Values" 9 "PageForm$Values" "numbers" "[J" ∈ gT := gT_t (List.mem_of_getElem? (i := 136) (by decide +kernel))
theorem fl_W_129 : Cond.fieldLink "PageForm$Writer" 129 "PageForm$Values" "numbers" "[J" ∈ gT := gT_t (List.mem_of_getElem? (i := 137) (by decide +kernel))
theorem fl_F_193 : Cond.fieldLink "PageForm" 193 "PageForm$Values" "numbers" "[J" ∈ gT := gT_t (List.mem_of_getElem? (i := 138) (by decide +kernel))
theorem fl_V_15 : Cond.fieldLink "PageForm$Values" 15 "PageForm$Values" "texts" "[B" ∈ gT := gT_t (List.mem_of_getElem? (i := 139) (by decide +kernel))
theorem fl_W_157 : Cond.fieldLink "PageForm$Writer" 157 "PageForm$Values" "texts" "[B" ∈ gT := gT_t (List.mem_of_getElem? (i := 140) (by decide +kernel))
theorem fl_V_19 : Cond.fieldLink "PageForm$Values" 19 "PageForm$Values" "starts" "[I" ∈ gT := gT_t (List.mem_of_getElem? (i := 141) (by decide +kernel))
theorem fl_W_160 : Cond.fieldLink "PageForm$Writer" 160 "PageForm$Values" "starts" "[I" ∈ gT := gT_t (List.mem_of_getElem? (i := 142) (by decide +kernel))
theorem fl_V_23 : Cond.fieldLink "PageForm$Values" 23 "PageForm$Values" "ofTexts" "Z" ∈ gT := gT_t (List.mem_of_getElem? (i := 143) (by decide +kernel))
theorem fl_F_189 : Cond.fieldLink "PageForm" 189 "PageForm$Values" "ofTexts" "Z" ∈ gT := gT_t (List.mem_of_getElem? (i := 144) (by decide +kernel))
theorem fl_V_27 : Cond.fieldLink "PageForm$Values" 27 "PageForm$Values" "count" "I" ∈ gT := gT_t (List.mem_of_getElem? (i := 145) (by decide +kernel))
theorem fl_D_28 : Cond.fieldLink "PageForm$Dictionary" 28 "PageForm$Values" "count" "I" ∈ gT := gT_t (List.mem_of_getElem? (i := 146) (by decide +kernel))
theorem fl_W_99 : Cond.fieldLink "PageForm$Writer" 99 "PageForm$Values" "count" "I" ∈ gT := gT_t (List.mem_of_getElem? (i := 147) (by decide +kernel))
theorem fl_F_176 : Cond.fieldLink "PageForm" 176 "PageForm$Values" "count" "I" ∈ gT := gT_t (List.mem_of_getElem? (i := 148) (by decide +kernel))
theorem fl_R_243 : Cond.fieldLink "PageForm$Reader" 243 "PageForm$Values" "count" "I" ∈ gT := gT_t (List.mem_of_getElem? (i := 149) (by decide +kernel))
theorem fl_S_15 : Cond.fieldLink "PageForm$Source" 15 "PageForm$Source" "bytes" "LPageForm$Bytes;" ∈ gT := gT_t (List.mem_of_getElem? (i := 167) (by decide +kernel))
theorem fl_S_25 : Cond.fieldLink "PageForm$Source" 25 "PageForm$Source" "row" "[B" ∈ gT := gT_t (List.mem_of_getElem? (i := 168) (by decide +kernel))
theorem fl_R_132 : Cond.fieldLink "PageForm$Reader" 132 "PageForm$Source" "row" "[B" ∈ gT := gT_t (List.mem_of_getElem? (i := 169) (by decide +kernel))
theorem fl_S_9 : Cond.fieldLink "PageForm$Source" 9 "PageForm$Source" "widths" "[I" ∈ gT := gT_t (List.mem_of_getElem? (i := 170) (by decide +kernel))
theorem fl_S_26 : Cond.fieldLink "PageForm$Source" 26 "PageForm$Source" "at" "I" ∈ gT := gT_t (List.mem_of_getElem? (i := 171) (by decide +kernel))
theorem fl_R_136 : Cond.fieldLink "PageForm$Reader" 136 "PageForm$Source" "at" "I" ∈ gT := gT_t (List.mem_of_getElem? (i := 172) (by decide +kernel))
theorem fl_S_33 : Cond.fieldLink "PageForm$Source" 33 "PageForm$Source" "to" "I" ∈ gT := gT_t (List.mem_of_getElem? (i := 173) (by decide +kernel))
theorem fl_R_150 : Cond.fieldLink "PageForm$Reader" 150 "PageForm$Source" "to" "I" ∈ gT := gT_t (List.mem_of_getElem? (i := 174) (by decide +kernel))
theorem fl_S_36 : Cond.fieldLink "PageForm$Source" 36 "PageForm$Source" "fault" "I" ∈ gT := gT_t (List.mem_of_getElem? (i := 175) (by decide +kernel))
theorem fl_R_102 : Cond.fieldLink "PageForm$Reader" 102 "PageForm$Source" "fault" "I" ∈ gT := gT_t (List.mem_of_getElem? (i := 176) (by decide +kernel))
theorem fl_F_165 : Cond.fieldLink "PageForm" 165 "PageForm$Source" "fault" "I" ∈ gT := gT_t (List.mem_of_getElem? (i := 177) (by decide +kernel))
theorem fl_R_30 : Cond.fieldLink "PageForm$Reader" 30 "PageForm$Reader" "column" "LPageForm$Column;" ∈ gT := gT_t (List.mem_of_getElem? (i := 191) (by decide +kernel))
theorem fl_R_39 : Cond.fieldLink "PageForm$Reader" 39 "PageForm$Reader" "source" "LPageForm$Source;" ∈ gT := gT_t (List.mem_of_getElem? (i := 192) (by decide +kernel))
theorem fl_F_161 : Cond.fieldLink "PageForm" 161 "PageForm$Reader" "source" "LPageForm$Source;" ∈ gT := gT_t (List.mem_of_getElem? (i := 193) (by decide +kernel))
theorem fl_R_14 : Cond.fieldLink "PageForm$Reader" 14 "PageForm$Reader" "told" "LPageForm$Values;" ∈ gT := gT_t (List.mem_of_getElem? (i := 194) (by decide +kernel))
theorem fl_R_20 : Cond.fieldLink "PageForm$Reader" 20 "PageForm$Reader" "dictionary" "LPageForm$Values;" ∈ gT := gT_t (List.mem_of_getElem? (i := 195) (by decide +kernel))
theorem fl_R_23 : Cond.fieldLink "PageForm$Reader" 23 "PageForm$Reader" "numbers" "[J" ∈ gT := gT_t (List.mem_of_getElem? (i := 196) (by decide +kernel))
theorem fl_R_27 : Cond.fieldLink "PageForm$Reader" 27 "PageForm$Reader" "commons" "[J" ∈ gT := gT_t (List.mem_of_getElem? (i := 197) (by decide +kernel))
theorem fl_R_50 : Cond.fieldLink "PageForm$Reader" 50 "PageForm$Reader" "entries" "I" ∈ gT := gT_t (List.mem_of_getElem? (i := 198) (by decide +kernel))
theorem fl_R_57 : Cond.fieldLink "PageForm$Reader" 57 "PageForm$Reader" "count" "I" ∈ gT := gT_t (List.mem_of_getElem? (i := 199) (by decide +kernel))
theorem fl_R_89 : Cond.fieldLink "PageForm$Reader" 89 "PageForm$Reader" "bodyTold" "J" ∈ gT := gT_t (List.mem_of_getElem? (i := 200) (by decide +kernel))
theorem fl_R_97 : Cond.fieldLink "PageForm$Reader" 97 "PageForm$Reader" "check" "I" ∈ gT := gT_t (List.mem_of_getElem? (i := 201) (by decide +kernel))
theorem fl_R_63 : Cond.fieldLink "PageForm$Reader" 63 "PageForm$Reader" "coding" "I" ∈ gT := gT_t (List.mem_of_getElem? (i := 202) (by decide +kernel))
theorem fl_F_170 : Cond.fieldLink "PageForm" 170 "PageForm$Reader" "coding" "I" ∈ gT := gT_t (List.mem_of_getElem? (i := 203) (by decide +kernel))
theorem fl_R_143 : Cond.fieldLink "PageForm$Reader" 143 "PageForm$Reader" "bodySize" "I" ∈ gT := gT_t (List.mem_of_getElem? (i := 204) (by decide +kernel))
theorem fl_F_173 : Cond.fieldLink "PageForm" 173 "PageForm$Reader" "bodySize" "I" ∈ gT := gT_t (List.mem_of_getElem? (i := 205) (by decide +kernel))
theorem fl_P_9 : Cond.fieldLink "PageForm$Page" 9 "PageForm$Page" "repetitions" "[B" ∈ gT := gT_t (List.mem_of_getElem? (i := 239) (by decide +kernel))
theorem fl_W_56 : Cond.fieldLink "PageForm$Writer" 56 "PageForm$Page" "repetitions" "[B" ∈ gT := gT_t (List.mem_of_getElem? (i := 240) (by decide +kernel))
theorem fl_R_158 : Cond.fieldLink "PageForm$Reader" 158 "PageForm$Page" "repetitions" "[B" ∈ gT := gT_t (List.mem_of_getElem? (i := 241) (by decide +kernel))
theorem fl_F_179 : Cond.fieldLink "PageForm" 179 "PageForm$Page" "repetitions" "[B" ∈ gT := gT_t (List.mem_of_getElem? (i := 242) (by decide +kernel))
theorem fl_P_15 : Cond.fieldLink "PageForm$Page" 15 "PageForm$Page" "definitions" "[B" ∈ gT := gT_t (List.mem_of_getElem? (i := 243) (by decide +kernel))
theorem fl_W_69 : Cond.fieldLink "PageForm$Writer" 69 "PageForm$Page" "definitions" "[B" ∈ gT := gT_t (List.mem_of_getElem? (i := 244) (by decide +kernel))
theorem fl_R_168 : Cond.fieldLink "PageForm$Reader" 168 "PageForm$Page" "definitions" "[B" ∈ gT := gT_t (List.mem_of_getElem? (i := 245) (by decide +kernel))
theorem fl_F_182 : Cond.fieldLink "PageForm" 182 "PageForm$Page" "definitions" "[B" ∈ gT := gT_t (List.mem_of_getElem? (i := 246) (by decide +kernel))
theorem fl_P_18 : Cond.fieldLink "PageForm$Page" 18 "PageForm$Page" "valueNumbers" "[I" ∈ gT := gT_t (List.mem_of_getElem? (i := 247) (by decide +kernel))
theorem fl_F_185 : Cond.fieldLink "PageForm" 185 "PageForm$Page" "valueNumbers" "[I" ∈ gT := gT_t (List.mem_of_getElem? (i := 248) (by decide +kernel))
theorem fl_P_27 : Cond.fieldLink "PageForm$Page" 27 "PageForm$Page" "values" "LPageForm$Values;" ∈ gT := gT_t (List.mem_of_getElem? (i := 249) (by decide +kernel))
theorem fl_W_41 : Cond.fieldLink "PageForm$Writer" 41 "PageForm$Page" "values" "LPageForm$Values;" ∈ gT := gT_t (List.mem_of_getElem? (i := 250) (by decide +kernel))
theorem fl_F_108 : Cond.fieldLink "PageForm" 108 "PageForm$Page" "values" "LPageForm$Values;" ∈ gT := gT_t (List.mem_of_getElem? (i := 251) (by decide +kernel))
theorem fl_P_31 : Cond.fieldLink "PageForm$Page" 31 "PageForm$Page" "entries" "I" ∈ gT := gT_t (List.mem_of_getElem? (i := 252) (by decide +kernel))
theorem fl_W_48 : Cond.fieldLink "PageForm$Writer" 48 "PageForm$Page" "entries" "I" ∈ gT := gT_t (List.mem_of_getElem? (i := 253) (by decide +kernel))
theorem fl_F_89 : Cond.fieldLink "PageForm" 89 "PageForm$Page" "entries" "I" ∈ gT := gT_t (List.mem_of_getElem? (i := 254) (by decide +kernel))
theorem fl_P_35 : Cond.fieldLink "PageForm$Page" 35 "PageForm$Page" "valued" "I" ∈ gT := gT_t (List.mem_of_getElem? (i := 255) (by decide +kernel))
theorem fl_R_178 : Cond.fieldLink "PageForm$Reader" 178 "PageForm$Page" "valued" "I" ∈ gT := gT_t (List.mem_of_getElem? (i := 256) (by decide +kernel))
theorem fl_F_10 : Cond.fieldLink "PageForm" 10 "PageForm" "column" "LPageForm$Column;" ∈ gT := gT_t (List.mem_of_getElem? (i := 270) (by decide +kernel))
theorem fl_F_21 : Cond.fieldLink "PageForm" 21 "PageForm" "tape" "LPageForm$Bytes;" ∈ gT := gT_t (List.mem_of_getElem? (i := 271) (by decide +kernel))
theorem fl_F_25 : Cond.fieldLink "PageForm" 25 "PageForm" "input" "LPageForm$Bytes;" ∈ gT := gT_t (List.mem_of_getElem? (i := 272) (by decide +kernel))
theorem fl_F_28 : Cond.fieldLink "PageForm" 28 "PageForm" "output" "LPageForm$Bytes;" ∈ gT := gT_t (List.mem_of_getElem? (i := 273) (by decide +kernel))
theorem fl_F_36 : Cond.fieldLink "PageForm" 36 "PageForm" "writer" "LPageForm$Writer;" ∈ gT := gT_t (List.mem_of_getElem? (i := 274) (by decide +kernel))
theorem fl_F_45 : Cond.fieldLink "PageForm" 45 "PageForm" "reader" "LPageForm$Reader;" ∈ gT := gT_t (List.mem_of_getElem? (i := 275) (by decide +kernel))
theorem fl_F_52 : Cond.fieldLink "PageForm" 52 "PageForm" "page" "LPageForm$Page;" ∈ gT := gT_t (List.mem_of_getElem? (i := 276) (by decide +kernel))
theorem fl_F_56 : Cond.fieldLink "PageForm" 56 "PageForm" "spare" "LPageForm$Page;" ∈ gT := gT_t (List.mem_of_getElem? (i := 277) (by decide +kernel))
theorem fl_F_139 : Cond.fieldLink "PageForm" 139 "PageForm" "lastCoding" "I" ∈ gT := gT_t (List.mem_of_getElem? (i := 278) (by decide +kernel))
theorem fl_F_136 : Cond.fieldLink "PageForm" 136 "PageForm" "lastBody" "I" ∈ gT := gT_t (List.mem_of_getElem? (i := 279) (by decide +kernel))
theorem fl_F_208 : Cond.fieldLink "PageForm" 208 "PageForm" "CHECK_STEPS" "[I" ∈ gT := gT_t (List.mem_of_getElem? (i := 564) (by decide +kernel))
theorem fl_M_84 : Cond.fieldLink "PageFormModel" 84 "PageFormModel" "code" "I" ∈ gT := gT_t (List.mem_of_getElem? (i := 790) (by decide +kernel))
theorem fl_M_181 : Cond.fieldLink "PageFormModel" 181 "PageFormModel" "type" "I" ∈ gT := gT_t (List.mem_of_getElem? (i := 791) (by decide +kernel))
theorem fl_M_184 : Cond.fieldLink "PageFormModel" 184 "PageFormModel" "mostR" "I" ∈ gT := gT_t (List.mem_of_getElem? (i := 792) (by decide +kernel))
theorem fl_M_187 : Cond.fieldLink "PageFormModel" 187 "PageFormModel" "mostD" "I" ∈ gT := gT_t (List.mem_of_getElem? (i := 793) (by decide +kernel))
theorem fl_M_175 : Cond.fieldLink "PageFormModel" 175 "PageFormModel" "entries" "I" ∈ gT := gT_t (List.mem_of_getElem? (i := 794) (by decide +kernel))
theorem fl_M_178 : Cond.fieldLink "PageFormModel" 178 "PageFormModel" "values" "I" ∈ gT := gT_t (List.mem_of_getElem? (i := 795) (by decide +kernel))
theorem fl_M_255 : Cond.fieldLink "PageFormModel" 255 "PageFormModel" "coding" "I" ∈ gT := gT_t (List.mem_of_getElem? (i := 796) (by decide +kernel))
theorem fl_M_265 : Cond.fieldLink "PageFormModel" 265 "PageFormModel" "bodySize" "I" ∈ gT := gT_t (List.mem_of_getElem? (i := 797) (by decide +kernel))
theorem fl_M_7 : Cond.fieldLink "PageFormModel" 7 "PageFormModel" "repetitions" "[I" ∈ gT := gT_t (List.mem_of_getElem? (i := 798) (by decide +kernel))
theorem fl_M_13 : Cond.fieldLink "PageFormModel" 13 "PageFormModel" "definitions" "[I" ∈ gT := gT_t (List.mem_of_getElem? (i := 799) (by decide +kernel))
theorem fl_M_16 : Cond.fieldLink "PageFormModel" 16 "PageFormModel" "newRepetitions" "[I" ∈ gT := gT_t (List.mem_of_getElem? (i := 800) (by decide +kernel))
theorem fl_M_19 : Cond.fieldLink "PageFormModel" 19 "PageFormModel" "newDefinitions" "[I" ∈ gT := gT_t (List.mem_of_getElem? (i := 801) (by decide +kernel))
theorem fl_M_22 : Cond.fieldLink "PageFormModel" 22 "PageFormModel" "wholes" "[J" ∈ gT := gT_t (List.mem_of_getElem? (i := 802) (by decide +kernel))
theorem fl_M_26 : Cond.fieldLink "PageFormModel" 26 "PageFormModel" "newWholes" "[J" ∈ gT := gT_t (List.mem_of_getElem? (i := 803) (by decide +kernel))
theorem fl_M_29 : Cond.fieldLink "PageFormModel" 29 "PageFormModel" "words8" "[J" ∈ gT := gT_t (List.mem_of_getElem? (i := 804) (by decide +kernel))
theorem fl_M_32 : Cond.fieldLink "PageFormModel" 32 "PageFormModel" "from" "[I" ∈ gT := gT_t (List.mem_of_getElem? (i := 805) (by decide +kernel))
theorem fl_M_35 : Cond.fieldLink "PageFormModel" 35 "PageFormModel" "newFrom" "[I" ∈ gT := gT_t (List.mem_of_getElem? (i := 806) (by decide +kernel))
theorem fl_M_38 : Cond.fieldLink "PageFormModel" 38 "PageFormModel" "wordFrom" "[I" ∈ gT := gT_t (List.mem_of_getElem? (i := 807) (by decide +kernel))
theorem fl_M_41 : Cond.fieldLink "PageFormModel" 41 "PageFormModel" "bytes" "[I" ∈ gT := gT_t (List.mem_of_getElem? (i := 808) (by decide +kernel))
theorem fl_M_44 : Cond.fieldLink "PageFormModel" 44 "PageFormModel" "newBytes" "[I" ∈ gT := gT_t (List.mem_of_getElem? (i := 809) (by decide +kernel))
theorem fl_M_47 : Cond.fieldLink "PageFormModel" 47 "PageFormModel" "wordBytes" "[I" ∈ gT := gT_t (List.mem_of_getElem? (i := 810) (by decide +kernel))
theorem fl_M_278 : Cond.fieldLink "PageFormModel" 278 "PageFormModel" "newCount" "I" ∈ gT := gT_t (List.mem_of_getElem? (i := 811) (by decide +kernel))
theorem fl_M_296 : Cond.fieldLink "PageFormModel" 296 "PageFormModel" "words" "I" ∈ gT := gT_t (List.mem_of_getElem? (i := 812) (by decide +kernel))
theorem fl_M_50 : Cond.fieldLink "PageFormModel" 50 "PageFormModel" "tape" "[I" ∈ gT := gT_t (List.mem_of_getElem? (i := 813) (by decide +kernel))
theorem fl_M_53 : Cond.fieldLink "PageFormModel" 53 "PageFormModel" "input" "[I" ∈ gT := gT_t (List.mem_of_getElem? (i := 814) (by decide +kernel))
theorem fl_M_57 : Cond.fieldLink "PageFormModel" 57 "PageFormModel" "out" "[I" ∈ gT := gT_t (List.mem_of_getElem? (i := 815) (by decide +kernel))
theorem fl_M_60 : Cond.fieldLink "PageFormModel" 60 "PageFormModel" "body" "[I" ∈ gT := gT_t (List.mem_of_getElem? (i := 816) (by decide +kernel))
theorem fl_M_169 : Cond.fieldLink "PageFormModel" 169 "PageFormModel" "taped" "I" ∈ gT := gT_t (List.mem_of_getElem? (i := 817) (by decide +kernel))
theorem fl_M_172 : Cond.fieldLink "PageFormModel" 172 "PageFormModel" "inputSize" "I" ∈ gT := gT_t (List.mem_of_getElem? (i := 818) (by decide +kernel))
theorem fl_M_88 : Cond.fieldLink "PageFormModel" 88 "PageFormModel" "outSize" "I" ∈ gT := gT_t (List.mem_of_getElem? (i := 819) (by decide +kernel))
theorem fl_M_94 : Cond.fieldLink "PageFormModel" 94 "PageFormModel" "at" "I" ∈ gT := gT_t (List.mem_of_getElem? (i := 820) (by decide +kernel))
theorem fl_M_153 : Cond.fieldLink "PageFormModel" 153 "PageFormModel" "stop" "I" ∈ gT := gT_t (List.mem_of_getElem? (i := 821) (by decide +kernel))
theorem fl_M_91 : Cond.fieldLink "PageFormModel" 91 "PageFormModel" "fault" "I" ∈ gT := gT_t (List.mem_of_getElem? (i := 822) (by decide +kernel))
theorem fl_M_63 : Cond.fieldLink "PageFormModel" 63 "PageFormModel" "longs" "[J" ∈ gT := gT_t (List.mem_of_getElem? (i := 823) (by decide +kernel))
theorem fl_M_135 : Cond.fieldLink "PageFormModel" 135 "PageFormModel" "longCount" "I" ∈ gT := gT_t (List.mem_of_getElem? (i := 824) (by decide +kernel))
theorem fl_M_66 : Cond.fieldLink "PageFormModel" 66 "PageFormModel" "numbers" "[I" ∈ gT := gT_t (List.mem_of_getElem? (i := 825) (by decide +kernel))
theorem fl_M_69 : Cond.fieldLink "PageFormModel" 69 "PageFormModel" "common" "[I" ∈ gT := gT_t (List.mem_of_getElem? (i := 826) (by decide +kernel))
theorem fl_M_72 : Cond.fieldLink "PageFormModel" 72 "PageFormModel" "more" "[I" ∈ gT := gT_t (List.mem_of_getElem? (i := 827) (by decide +kernel))
theorem fl_M_75 : Cond.fieldLink "PageFormModel" 75 "PageFormModel" "told2" "[J" ∈ gT := gT_t (List.mem_of_getElem? (i := 828) (by decide +kernel))
theorem fl_M_78 : Cond.fieldLink "PageFormModel" 78 "PageFormModel" "toldSize" "[I" ∈ gT := gT_t (List.mem_of_getElem? (i := 829) (by decide +kernel))
theorem fl_M_81 : Cond.fieldLink "PageFormModel" 81 "PageFormModel" "toldBytes" "[I" ∈ gT := gT_t (List.mem_of_getElem? (i := 830) (by decide +kernel))
theorem kc_V_78 : Cond.constant "PageForm$Values" 78 (-1640531535) ∈ gT := gT_t (List.mem_of_getElem? (i := 486) (by decide +kernel))
theorem kc_M_56 : Cond.constant "PageFormModel" 56 (90000) ∈ gT := gT_t (List.mem_of_getElem? (i := 789) (by decide +kernel))
theorem kc_M_251 : Cond.constant "PageFormModel" 251 (-306674912) ∈ gT := gT_t (List.mem_of_getElem? (i := 1066) (by decide +kernel))
theorem kc_B_56 : Cond.constantLong "PageForm$Bytes" 56 (2) ∈ gT := gT_t (List.mem_of_getElem? (i := 412) (by decide +kernel))
theorem kc_B_23 : Cond.constantLong "PageForm$Bytes" 23 (127) ∈ gT := gT_t (List.mem_of_getElem? (i := 417) (by decide +kernel))
theorem kc_R_100 : Cond.constantLong "PageForm$Reader" 100 (1000) ∈ gT := gT_t (List.mem_of_getElem? (i := 599) (by decide +kernel))
theorem kc_R_127 : Cond.constantLong "PageForm$Reader" 127 (255) ∈ gT := gT_t (List.mem_of_getElem? (i := 616) (by decide +kernel))
theorem kc_S_84 : Cond.constantLong "PageForm$Source" 84 (2000) ∈ gT := gT_t (List.mem_of_getElem? (i := 718) (by decide +kernel))
theorem kc_M_107 : Cond.constantLong "PageFormModel" 107 (2) ∈ gT := gT_t (List.mem_of_getElem? (i := 965) (by decide +kernel))
theorem kc_M_97 : Cond.constantLong "PageFormModel" 97 (127) ∈ gT := gT_t (List.mem_of_getElem? (i := 970) (by decide +kernel))
theorem kc_M_130 : Cond.constantLong "PageFormModel" 130 (-2) ∈ gT := gT_t (List.mem_of_getElem? (i := 994) (by decide +kernel))
theorem kc_M_341 : Cond.constantLong "PageFormModel" 341 (1000) ∈ gT := gT_t (List.mem_of_getElem? (i := 1075) (by decide +kernel))
theorem kc_M_281 : Cond.constantLong "PageFormModel" 281 (255) ∈ gT := gT_t (List.mem_of_getElem? (i := 1087) (by decide +kernel))
theorem kc_M_128 : Cond.constantLong "PageFormModel" 128 (8) ∈ gT := gT_t (List.mem_of_getElem? (i := 1112) (by decide +kernel))
theorem kc_M_160 : Cond.constantLong "PageFormModel" 160 (2000) ∈ gT := gT_t (List.mem_of_getElem? (i := 1141) (by decide +kernel))
theorem kc_L_28 : Cond.constantLong "PageFormLaw" 28 (4294967295) ∈ gT := gT_t (List.mem_of_getElem? (i := 1213) (by decide +kernel))
theorem cl_L_7 : Cond.classLink "PageFormLaw" 7 "PageForm" ∈ gT := gT_t (List.mem_of_getElem? (i := 16) (by decide +kernel))
theorem cl_F_7 : Cond.classLink "PageForm" 7 "PageForm$Column" ∈ gT := gT_t (List.mem_of_getElem? (i := 24) (by decide +kernel))
theorem cl_F_16 : Cond.classLink "PageForm" 16 "PageForm$Bytes" ∈ gT := gT_t (List.mem_of_getElem? (i := 48) (by decide +kernel))
theorem cl_F_31 : Cond.classLink "PageForm" 31 "PageForm$Writer" ∈ gT := gT_t (List.mem_of_getElem? (i := 68) (by decide +kernel))
theorem cl_W_9 : Cond.classLink "PageForm$Writer" 9 "PageForm$Bytes" ∈ gT := gT_t (List.mem_of_getElem? (i := 74) (by decide +kernel))
theorem cl_W_30 : Cond.classLink "PageForm$Writer" 30 "PageForm$Dictionary" ∈ gT := gT_t (List.mem_of_getElem? (i := 76) (by decide +kernel))
theorem cl_F_40 : Cond.classLink "PageForm" 40 "PageForm$Reader" ∈ gT := gT_t (List.mem_of_getElem? (i := 124) (by decide +kernel))
theorem cl_R_9 : Cond.classLink "PageForm$Reader" 9 "PageForm$Values" ∈ gT := gT_t (List.mem_of_getElem? (i := 130) (by decide +kernel))
theorem cl_R_34 : Cond.classLink "PageForm$Reader" 34 "PageForm$Source" ∈ gT := gT_t (List.mem_of_getElem? (i := 161) (by decide +kernel))
theorem cl_F_49 : Cond.classLink "PageForm" 49 "PageForm$Page" ∈ gT := gT_t (List.mem_of_getElem? (i := 231) (by decide +kernel))
theorem cl_P_22 : Cond.classLink "PageForm$Page" 22 "PageForm$Values" ∈ gT := gT_t (List.mem_of_getElem? (i := 237) (by decide +kernel))
theorem cl_L_10 : Cond.classLink "PageFormLaw" 10 "PageFormModel" ∈ gT := gT_t (List.mem_of_getElem? (i := 783) (by decide +kernel))
theorem ib_F : Cond.instantiable "PageForm" 10 ∈ gT := gT_t (List.mem_of_getElem? (i := 17) (by decide +kernel))
theorem ib_C : Cond.instantiable "PageForm$Column" 3 ∈ gT := gT_t (List.mem_of_getElem? (i := 25) (by decide +kernel))
theorem ib_B : Cond.instantiable "PageForm$Bytes" 2 ∈ gT := gT_t (List.mem_of_getElem? (i := 49) (by decide +kernel))
theorem ib_W : Cond.instantiable "PageForm$Writer" 9 ∈ gT := gT_t (List.mem_of_getElem? (i := 69) (by decide +kernel))
theorem ib_D : Cond.instantiable "PageForm$Dictionary" 3 ∈ gT := gT_t (List.mem_of_getElem? (i := 77) (by decide +kernel))
theorem ib_R : Cond.instantiable "PageForm$Reader" 12 ∈ gT := gT_t (List.mem_of_getElem? (i := 125) (by decide +kernel))
theorem ib_V : Cond.instantiable "PageForm$Values" 5 ∈ gT := gT_t (List.mem_of_getElem? (i := 131) (by decide +kernel))
theorem ib_S : Cond.instantiable "PageForm$Source" 6 ∈ gT := gT_t (List.mem_of_getElem? (i := 162) (by decide +kernel))
theorem ib_P : Cond.instantiable "PageForm$Page" 6 ∈ gT := gT_t (List.mem_of_getElem? (i := 232) (by decide +kernel))
theorem ib_M : Cond.instantiable "PageFormModel" 41 ∈ gT := gT_t (List.mem_of_getElem? (i := 784) (by decide +kernel))
theorem nat_copy : Cond.native arraycopyName ∈ gT := gT_t (List.mem_of_getElem? (i := 327) (by decide +kernel))
theorem st_copy : Cond.static arraycopyName ∈ gT := gT_t (List.mem_of_getElem? (i := 326) (by decide +kernel))
theorem ac_byte : Cond.arrayClass .byte ∈ gT := gT_t (List.mem_of_getElem? (i := 67) (by decide +kernel))
theorem ac_int : Cond.arrayClass .int ∈ gT := gT_t (List.mem_of_getElem? (i := 95) (by decide +kernel))
theorem ac_long : Cond.arrayClass .long ∈ gT := gT_t (List.mem_of_getElem? (i := 94) (by decide +kernel))
