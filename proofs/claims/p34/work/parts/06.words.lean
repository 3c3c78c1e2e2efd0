/-! the tables' words that calls hand on, and each of them by its place -/
def UW : List Cond := lw_tbl.filter goodWord
theorem UW_tbl : ∀ w ∈ UW, w ∈ lw_tbl := fun w h => (List.mem_filter.mp h).1
theorem uw_t {w : Cond} (h : w ∈ tables_1) (g : goodWord w = true) : w ∈ UW := List.mem_filter.mpr ⟨List.mem_append_right _ h, g⟩
theorem uw_1 {w : Cond} {i : Nat} (h : tables_1_1[i]? = some w) (g : goodWord w = true) : w ∈ UW := uw_t (List.mem_append_left _ (List.mem_of_getElem? h)) g
theorem uw_2 {w : Cond} {i : Nat} (h : tables_1_2[i]? = some w) (g : goodWord w = true) : w ∈ UW := uw_t (List.mem_append_right _ (List.mem_append_left _ (List.mem_of_getElem? h))) g
theorem uw_3 {w : Cond} {i : Nat} (h : tables_1_3[i]? = some w) (g : goodWord w = true) : w ∈ UW := uw_t (List.mem_append_right _ (List.mem_append_right _ (List.mem_append_left _ (List.mem_of_getElem? h)))) g
theorem uw_4 {w : Cond} {i : Nat} (h : tables_1_4[i]? = some w) (g : goodWord w = true) : w ∈ UW := uw_t (List.mem_append_right _ (List.mem_append_right _ (List.mem_append_right _ (List.mem_of_getElem? h)))) g
theorem us_p {q : MethodName × Nat} {w : Cond} (h : q ∈ lw_privs) (e : Cond.selects q.1.cls q.1 q.1 = w) (g : goodWord w = true) : w ∈ UW := List.mem_filter.mpr ⟨List.mem_append_left _ (List.mem_map.mpr ⟨q, h, e⟩), g⟩
theorem us_1 {y : MethodName} {i n : Nat} (h : lw_privs_1[i]? = some (y, n)) (g : goodWord (Cond.selects y.cls y y) = true) : Cond.selects y.cls y y ∈ UW := us_p (List.mem_append_left _ (List.mem_of_getElem? h)) rfl g
theorem us_2 {y : MethodName} {i n : Nat} (h : lw_privs_2[i]? = some (y, n)) (g : goodWord (Cond.selects y.cls y y) = true) : Cond.selects y.cls y y ∈ UW := us_p (List.mem_append_right _ (List.mem_append_left _ (List.mem_of_getElem? h))) rfl g
theorem us_3 {y : MethodName} {i n : Nat} (h : lw_privs_3[i]? = some (y, n)) (g : goodWord (Cond.selects y.cls y y) = true) : Cond.selects y.cls y y ∈ UW := us_p (List.mem_append_right _ (List.mem_append_right _ (List.mem_of_getElem? h))) rfl g
theorem un_L : Cond.initialized RL ∈ UW := uw_1 (i := 0) rfl rfl
theorem un_X2 : Cond.initialized RX2 ∈ UW := uw_1 (i := 1) rfl rfl
theorem un_X0 : Cond.initialized RX0 ∈ UW := uw_1 (i := 2) rfl rfl
theorem un_Jxa1e45 : Cond.initialized RJxa1e45 ∈ UW := uw_1 (i := 3) rfl rfl
theorem un_Jxc12de : Cond.initialized RJxc12de ∈ UW := uw_1 (i := 4) rfl rfl
theorem un_Jx4a65c : Cond.initialized RJx4a65c ∈ UW := uw_1 (i := 5) rfl rfl
theorem un_java_lang_Throwable : Cond.initialized "java/lang/Throwable" ∈ UW := uw_1 (i := 6) rfl rfl
theorem un_java_lang_Exception : Cond.initialized "java/lang/Exception" ∈ UW := uw_1 (i := 7) rfl rfl
theorem un_java_lang_RuntimeException : Cond.initialized "java/lang/RuntimeException" ∈ UW := uw_1 (i := 8) rfl rfl
theorem un_java_lang_IndexOutOfBoundsException : Cond.initialized "java/lang/IndexOutOfBoundsException" ∈ UW := uw_1 (i := 9) rfl rfl
theorem un_J15 : Cond.initialized RJ15 ∈ UW := uw_1 (i := 10) rfl rfl
theorem un_J3 : Cond.initialized RJ3 ∈ UW := uw_1 (i := 11) rfl rfl
theorem un_J9 : Cond.initialized RJ9 ∈ UW := uw_1 (i := 12) rfl rfl
theorem un_java_lang_IllegalStateException : Cond.initialized "java/lang/IllegalStateException" ∈ UW := uw_1 (i := 13) rfl rfl
theorem un_X1 : Cond.initialized RX1 ∈ UW := uw_1 (i := 14) rfl rfl
theorem un_J7 : Cond.initialized RJ7 ∈ UW := uw_1 (i := 15) rfl rfl
theorem un_J8 : Cond.initialized RJ8 ∈ UW := uw_1 (i := 16) rfl rfl
theorem un_J10 : Cond.initialized RJ10 ∈ UW := uw_1 (i := 17) rfl rfl
theorem ul_L_9 : Cond.classLink RL 9 RX2 ∈ UW := uw_1 (i := 18) rfl rfl
theorem ux_X2 : Cond.instantiable RX2 7 ∈ UW := uw_1 (i := 19) rfl rfl
theorem um_L_204 : Cond.methodLink RL 204 yX2_init ∈ UW := uw_1 (i := 20) rfl rfl
theorem ui_X2_init : Cond.instanceMethod yX2_init ∈ UW := uw_1 (i := 21) rfl rfl
theorem uc_X2_init : Cond.code yX2_init cX2_init 2 (none : Option FieldType) ∈ UW := uw_1 (i := 22) rfl rfl
theorem um_X2_1 : Cond.methodLink RX2 1 ⟨"java/lang/Object", "<init>", "()V"⟩ ∈ UW := uw_1 (i := 23) rfl rfl
theorem ui_java_lang_Object__init____V : Cond.instanceMethod ⟨"java/lang/Object", "<init>", "()V"⟩ ∈ UW := uw_1 (i := 24) rfl rfl
theorem uc_java_lang_Object__init____V : Cond.code ⟨"java/lang/Object", "<init>", "()V"⟩ object_method_1_code 1 (none : Option FieldType) ∈ UW := uw_1 (i := 25) rfl rfl
theorem ul_X2_9 : Cond.classLink RX2 9 RX0 ∈ UW := uw_1 (i := 26) rfl rfl
theorem ux_X0 : Cond.instantiable RX0 9 ∈ UW := uw_1 (i := 28) rfl rfl
theorem um_X2_15 : Cond.methodLink RX2 15 yX0_init ∈ UW := uw_1 (i := 29) rfl rfl
theorem ui_X0_init : Cond.instanceMethod yX0_init ∈ UW := uw_1 (i := 30) rfl rfl
theorem uc_X0_init : Cond.code yX0_init cX0_init 2 (none : Option FieldType) ∈ UW := uw_1 (i := 31) rfl rfl
theorem um_X0_3 : Cond.methodLink RX0 3 ⟨"java/lang/Object", "<init>", "()V"⟩ ∈ UW := uw_1 (i := 32) rfl rfl
theorem ul_X0_19 : Cond.classLink RX0 19 RJx4a65c ∈ UW := uw_1 (i := 33) rfl rfl
theorem ux_Jx4a65c : Cond.instantiable RJx4a65c 3 ∈ UW := uw_1 (i := 34) rfl rfl
theorem um_X0_21 : Cond.methodLink RX0 21 yJx4a65c_init_da8c8 ∈ UW := uw_1 (i := 35) rfl rfl
theorem ui_Jx4a65c_init_da8c8 : Cond.instanceMethod yJx4a65c_init_da8c8 ∈ UW := uw_1 (i := 36) rfl rfl
theorem uc_Jx4a65c_init_da8c8 : Cond.code yJx4a65c_init_da8c8 cJx4a65c_init_da8c8 1 (none : Option FieldType) ∈ UW := uw_1 (i := 37) rfl rfl
theorem um_Jx4a65c_1 : Cond.methodLink RJx4a65c 1 yJxc12de_init_da8c8 ∈ UW := uw_1 (i := 38) rfl rfl
theorem ui_Jxc12de_init_da8c8 : Cond.instanceMethod yJxc12de_init_da8c8 ∈ UW := uw_1 (i := 39) rfl rfl
theorem uc_Jxc12de_init_da8c8 : Cond.code yJxc12de_init_da8c8 cJxc12de_init_da8c8 1 (none : Option FieldType) ∈ UW := uw_1 (i := 40) rfl rfl
theorem um_Jxc12de_1 : Cond.methodLink RJxc12de 1 yJxa1e45_init_da8c8 ∈ UW := uw_1 (i := 41) rfl rfl
theorem ui_Jxa1e45_init_da8c8 : Cond.instanceMethod yJxa1e45_init_da8c8 ∈ UW := uw_1 (i := 42) rfl rfl
theorem uc_Jxa1e45_init_da8c8 : Cond.code yJxa1e45_init_da8c8 cJxa1e45_init_da8c8 1 (none : Option FieldType) ∈ UW := uw_1 (i := 43) rfl rfl
theorem um_Jxa1e45_1 : Cond.methodLink RJxa1e45 1 ⟨"java/lang/Object", "<init>", "()V"⟩ ∈ UW := uw_1 (i := 44) rfl rfl
theorem uf_Jx4a65c_39 : Cond.fieldLink RJx4a65c 39 "java/util/ArrayList" "DEFAULTCAPACITY_EMPTY_ELEMENTDATA" "[Ljava/lang/Object;" ∈ UW := uw_1 (i := 45) rfl rfl
theorem uf_Jx4a65c_9 : Cond.fieldLink RJx4a65c 9 "java/util/ArrayList" "elementData" "[Ljava/lang/Object;" ∈ UW := uw_1 (i := 47) rfl rfl
theorem uf_Jx4a65c_48 : Cond.fieldLink RJx4a65c 48 "java/util/ArrayList" "size" "I" ∈ UW := uw_1 (i := 48) rfl rfl
theorem uf_Jxc12de_7 : Cond.fieldLink RJxc12de 7 "java/util/AbstractList" "modCount" "I" ∈ UW := uw_1 (i := 49) rfl rfl
theorem uf_Jx4a65c_63 : Cond.fieldLink RJx4a65c 63 "java/util/ArrayList" "modCount" "I" ∈ UW := uw_1 (i := 50) rfl rfl
theorem uz_sameField_1_51 : (Cond.sameField "java/util/ArrayList" "java/util/AbstractList" "modCount" "I") ∈ UW := uw_1 (i := 51) rfl rfl
theorem uz_arrayClass_1_59 : (Cond.arrayClass FieldType.int) ∈ UW := uw_1 (i := 59) rfl rfl
theorem uf_X0_9 : Cond.fieldLink RX0 9 "Causewaymail$Member" "id" "I" ∈ UW := uw_1 (i := 60) rfl rfl
theorem uf_X2_208 : Cond.fieldLink RX2 208 "Causewaymail$Member" "id" "I" ∈ UW := uw_1 (i := 61) rfl rfl
theorem uf_X0_15 : Cond.fieldLink RX0 15 "Causewaymail$Member" "clock" "[I" ∈ UW := uw_1 (i := 62) rfl rfl
theorem uf_X2_73 : Cond.fieldLink RX2 73 "Causewaymail$Member" "clock" "[I" ∈ UW := uw_1 (i := 63) rfl rfl
theorem uf_X0_22 : Cond.fieldLink RX0 22 "Causewaymail$Member" "received" "Ljava/util/ArrayList;" ∈ UW := uw_1 (i := 64) rfl rfl
theorem uf_X2_55 : Cond.fieldLink RX2 55 "Causewaymail$Member" "received" "Ljava/util/ArrayList;" ∈ UW := uw_1 (i := 65) rfl rfl
theorem uf_X0_26 : Cond.fieldLink RX0 26 "Causewaymail$Member" "held" "Ljava/util/ArrayList;" ∈ UW := uw_1 (i := 66) rfl rfl
theorem uf_X2_131 : Cond.fieldLink RX2 131 "Causewaymail$Member" "held" "Ljava/util/ArrayList;" ∈ UW := uw_1 (i := 67) rfl rfl
theorem uf_X2_153 : Cond.fieldLink RX2 153 "Causewaymail$Member" "known" "I" ∈ UW := uw_1 (i := 68) rfl rfl
theorem uf_X2_233 : Cond.fieldLink RX2 233 "Causewaymail$Member" "greatestProposed" "I" ∈ UW := uw_1 (i := 69) rfl rfl
theorem uf_X0_29 : Cond.fieldLink RX0 29 "Causewaymail$Member" "alive" "Z" ∈ UW := uw_1 (i := 70) rfl rfl
theorem uf_X2_34 : Cond.fieldLink RX2 34 "Causewaymail$Member" "alive" "Z" ∈ UW := uw_1 (i := 71) rfl rfl
theorem uf_X0_33 : Cond.fieldLink RX0 33 "Causewaymail$Member" "inView" "Z" ∈ UW := uw_1 (i := 72) rfl rfl
theorem uf_X2_202 : Cond.fieldLink RX2 202 "Causewaymail$Member" "inView" "Z" ∈ UW := uw_1 (i := 73) rfl rfl
theorem uf_X2_162 : Cond.fieldLink RX2 162 "Causewaymail$Member" "lastOrdered" "I" ∈ UW := uw_1 (i := 74) rfl rfl
theorem ul_X2_18 : Cond.classLink RX2 18 RJx4a65c ∈ UW := uw_1 (i := 94) rfl rfl
theorem um_X2_20 : Cond.methodLink RX2 20 yJx4a65c_init_da8c8 ∈ UW := uw_1 (i := 95) rfl rfl
theorem uf_X2_11 : Cond.fieldLink RX2 11 "Causewaymail" "members" "[LCausewaymail$Member;" ∈ UW := uw_1 (i := 96) rfl rfl
theorem uf_X2_21 : Cond.fieldLink RX2 21 "Causewaymail" "sent" "Ljava/util/ArrayList;" ∈ UW := uw_1 (i := 97) rfl rfl
theorem uf_X2_25 : Cond.fieldLink RX2 25 "Causewaymail" "numberedOrder" "Ljava/util/ArrayList;" ∈ UW := uw_1 (i := 98) rfl rfl
theorem uf_X2_28 : Cond.fieldLink RX2 28 "Causewaymail" "agreedOrder" "Ljava/util/ArrayList;" ∈ UW := uw_1 (i := 99) rfl rfl
theorem uf_X2_138 : Cond.fieldLink RX2 138 "Causewaymail" "tokenHolder" "I" ∈ UW := uw_1 (i := 100) rfl rfl
theorem uf_X2_236 : Cond.fieldLink RX2 236 "Causewaymail" "greatestAgreed" "I" ∈ UW := uw_1 (i := 101) rfl rfl
theorem uf_X2_190 : Cond.fieldLink RX2 190 "Causewaymail" "viewNumber" "I" ∈ UW := uw_1 (i := 102) rfl rfl
theorem um_L_209 : Cond.methodLink RL 209 yL_cell ∈ UW := uw_1 (i := 118) rfl rfl
theorem ut_L_cell : Cond.static yL_cell ∈ UW := uw_1 (i := 119) rfl rfl
theorem uc_L_cell : Cond.code yL_cell cL_cell 2 (some FieldType.int) ∈ UW := uw_1 (i := 120) rfl rfl
theorem uz_constant_1_121 : (Cond.constant "CausewaymailLaw" (7) (1272047983)) ∈ UW := uw_1 (i := 121) rfl rfl
theorem um_L_213 : Cond.methodLink RL 213 yL_keeps ∈ UW := uw_1 (i := 122) rfl rfl
theorem ut_L_keeps : Cond.static yL_keeps ∈ UW := uw_1 (i := 123) rfl rfl
theorem uc_L_keeps : Cond.code yL_keeps cL_keeps 19 (some FieldType.boolean) ∈ UW := uw_1 (i := 124) rfl rfl
theorem um_L_105 : Cond.methodLink RL 105 yL_low ∈ UW := uw_1 (i := 125) rfl rfl
theorem ut_L_low : Cond.static yL_low ∈ UW := uw_1 (i := 126) rfl rfl
theorem uc_L_low : Cond.code yL_low cL_low 2 (some FieldType.int) ∈ UW := uw_1 (i := 127) rfl rfl
theorem um_L_85 : Cond.methodLink RL 85 yL_has ∈ UW := uw_1 (i := 128) rfl rfl
theorem ut_L_has : Cond.static yL_has ∈ UW := uw_1 (i := 129) rfl rfl
theorem uc_L_has : Cond.code yL_has cL_has 2 (some FieldType.boolean) ∈ UW := uw_1 (i := 130) rfl rfl
theorem um_L_108 : Cond.methodLink RL 108 yL_send ∈ UW := uw_1 (i := 131) rfl rfl
theorem ut_L_send : Cond.static yL_send ∈ UW := uw_1 (i := 132) rfl rfl
theorem uw_L_send : Cond.codeWith yL_send cL_send 4 (some FieldType.int) [(0, 6, 9, 14), (0, 6, 13, 16)] ∈ UW := uw_1 (i := 133) rfl rfl
theorem ul_L_14 : Cond.classLink RL 14 "java/lang/IndexOutOfBoundsException" ∈ UW := uw_1 (i := 134) rfl rfl
theorem ul_L_16 : Cond.classLink RL 16 "java/lang/IllegalStateException" ∈ UW := uw_1 (i := 135) rfl rfl
theorem um_L_8 : Cond.methodLink RL 8 yX2_send ∈ UW := uw_1 (i := 136) rfl rfl
theorem ui_X2_send : Cond.instanceMethod yX2_send ∈ UW := uw_1 (i := 137) rfl rfl
theorem us_X2_send : Cond.selects RX2 yX2_send yX2_send ∈ UW := uw_1 (i := 138) rfl rfl
theorem uc_X2_send : Cond.code yX2_send cX2_send 4 (some FieldType.int) ∈ UW := uw_1 (i := 139) rfl rfl
theorem um_X2_31 : Cond.methodLink RX2 31 yX2_requireMember ∈ UW := uw_1 (i := 140) rfl rfl
theorem ui_X2_requireMember : Cond.instanceMethod yX2_requireMember ∈ UW := uw_1 (i := 142) rfl rfl
theorem uc_X2_requireMember : Cond.code yX2_requireMember cX2_requireMember 2 (none : Option FieldType) ∈ UW := uw_1 (i := 143) rfl rfl
theorem ul_X2_193 : Cond.classLink RX2 193 "java/lang/IndexOutOfBoundsException" ∈ UW := uw_1 (i := 144) rfl rfl
theorem ux_java_lang_IndexOutOfBoundsException : Cond.instantiable "java/lang/IndexOutOfBoundsException" 6 ∈ UW := uw_1 (i := 145) rfl rfl
theorem us_java_lang_Throwable_fillInStackTrace__I_Ljava_lang_Throwable__java_lang_IndexOutOfBoundsException : Cond.selects "java/lang/IndexOutOfBoundsException" ⟨"java/lang/Throwable", "fillInStackTrace", "(I)Ljava/lang/Throwable;"⟩ ⟨"java/lang/Throwable", "fillInStackTrace", "(I)Ljava/lang/Throwable;"⟩ ∈ UW := uw_1 (i := 153) rfl rfl
theorem us_java_lang_Throwable_fillInStackTrace___Ljava_lang_Throwable__java_lang_IndexOutOfBoundsException : Cond.selects "java/lang/IndexOutOfBoundsException" ⟨"java/lang/Throwable", "fillInStackTrace", "()Ljava/lang/Throwable;"⟩ ⟨"java/lang/Throwable", "fillInStackTrace", "()Ljava/lang/Throwable;"⟩ ∈ UW := uw_1 (i := 154) rfl rfl
theorem uf_java_lang_Throwable_198 : Cond.fieldLink "java/lang/Throwable" 198 "java/lang/Throwable" "backtrace" "Ljava/lang/Object;" ∈ UW := uw_1 (i := 165) rfl rfl
theorem ui_java_lang_Throwable__init____V : Cond.instanceMethod ⟨"java/lang/Throwable", "<init>", "()V"⟩ ∈ UW := uw_1 (i := 167) rfl rfl
theorem uc_java_lang_Throwable__init____V : Cond.code ⟨"java/lang/Throwable", "<init>", "()V"⟩ prog_16_method_1_code 1 (none : Option FieldType) ∈ UW := uw_1 (i := 168) rfl rfl
theorem um_java_lang_Throwable_1 : Cond.methodLink "java/lang/Throwable" 1 ⟨"java/lang/Object", "<init>", "()V"⟩ ∈ UW := uw_1 (i := 169) rfl rfl
theorem uf_java_lang_Throwable_13 : Cond.fieldLink "java/lang/Throwable" 13 "java/lang/Throwable" "UNASSIGNED_STACK" "[Ljava/lang/StackTraceElement;" ∈ UW := uw_1 (i := 170) rfl rfl
theorem uf_java_lang_Throwable_20 : Cond.fieldLink "java/lang/Throwable" 20 "java/lang/Throwable" "SUPPRESSED_SENTINEL" "Ljava/util/List;" ∈ UW := uw_1 (i := 172) rfl rfl
theorem um_java_lang_Throwable_27 : Cond.methodLink "java/lang/Throwable" 27 ⟨"java/lang/Throwable", "fillInStackTrace", "()Ljava/lang/Throwable;"⟩ ∈ UW := uw_1 (i := 174) rfl rfl
theorem ui_java_lang_Throwable_fillInStackTrace___Ljava_lang_Throwable_ : Cond.instanceMethod ⟨"java/lang/Throwable", "fillInStackTrace", "()Ljava/lang/Throwable;"⟩ ∈ UW := uw_1 (i := 175) rfl rfl
theorem us_java_lang_Throwable_fillInStackTrace___Ljava_lang_Throwable__java_lang_IllegalStateException : Cond.selects "java/lang/IllegalStateException" ⟨"java/lang/Throwable", "fillInStackTrace", "()Ljava/lang/Throwable;"⟩ ⟨"java/lang/Throwable", "fillInStackTrace", "()Ljava/lang/Throwable;"⟩ ∈ UW := uw_1 (i := 177) rfl rfl
theorem um_java_lang_Throwable_202 : Cond.methodLink "java/lang/Throwable" 202 ⟨"java/lang/Throwable", "fillInStackTrace", "(I)Ljava/lang/Throwable;"⟩ ∈ UW := uw_1 (i := 179) rfl rfl
theorem ui_java_lang_Throwable_fillInStackTrace__I_Ljava_lang_Throwable_ : Cond.instanceMethod ⟨"java/lang/Throwable", "fillInStackTrace", "(I)Ljava/lang/Throwable;"⟩ ∈ UW := uw_1 (i := 181) rfl rfl
theorem ux_java_lang_Throwable : Cond.instantiable "java/lang/Throwable" 6 ∈ UW := uw_1 (i := 182) rfl rfl
theorem uv_java_lang_Throwable_fillInStackTrace__I_Ljava_lang_Throwable_ : Cond.native ⟨"java/lang/Throwable", "fillInStackTrace", "(I)Ljava/lang/Throwable;"⟩ ∈ UW := uw_1 (i := 183) rfl rfl
theorem um_X2_197 : Cond.methodLink RX2 197 ⟨"java/lang/IndexOutOfBoundsException", "<init>", "(Ljava/lang/String;)V"⟩ ∈ UW := uw_1 (i := 185) rfl rfl
theorem ui_java_lang_IndexOutOfBoundsException__init___Ljava_lang_String__V : Cond.instanceMethod ⟨"java/lang/IndexOutOfBoundsException", "<init>", "(Ljava/lang/String;)V"⟩ ∈ UW := uw_1 (i := 186) rfl rfl
theorem uc_java_lang_IndexOutOfBoundsException__init___Ljava_lang_String__V : Cond.code ⟨"java/lang/IndexOutOfBoundsException", "<init>", "(Ljava/lang/String;)V"⟩ prog_10_method_2_code 2 (none : Option FieldType) ∈ UW := uw_1 (i := 187) rfl rfl
theorem um_java_lang_IndexOutOfBoundsException_7 : Cond.methodLink "java/lang/IndexOutOfBoundsException" 7 ⟨"java/lang/RuntimeException", "<init>", "(Ljava/lang/String;)V"⟩ ∈ UW := uw_1 (i := 188) rfl rfl
theorem ui_java_lang_RuntimeException__init___Ljava_lang_String__V : Cond.instanceMethod ⟨"java/lang/RuntimeException", "<init>", "(Ljava/lang/String;)V"⟩ ∈ UW := uw_1 (i := 189) rfl rfl
theorem uc_java_lang_RuntimeException__init___Ljava_lang_String__V : Cond.code ⟨"java/lang/RuntimeException", "<init>", "(Ljava/lang/String;)V"⟩ prog_13_method_2_code 2 (none : Option FieldType) ∈ UW := uw_1 (i := 190) rfl rfl
theorem um_java_lang_RuntimeException_7 : Cond.methodLink "java/lang/RuntimeException" 7 ⟨"java/lang/Exception", "<init>", "(Ljava/lang/String;)V"⟩ ∈ UW := uw_1 (i := 191) rfl rfl
theorem ui_java_lang_Exception__init___Ljava_lang_String__V : Cond.instanceMethod ⟨"java/lang/Exception", "<init>", "(Ljava/lang/String;)V"⟩ ∈ UW := uw_1 (i := 192) rfl rfl
theorem uc_java_lang_Exception__init___Ljava_lang_String__V : Cond.code ⟨"java/lang/Exception", "<init>", "(Ljava/lang/String;)V"⟩ prog_8_method_2_code 2 (none : Option FieldType) ∈ UW := uw_1 (i := 193) rfl rfl
theorem um_java_lang_Exception_7 : Cond.methodLink "java/lang/Exception" 7 ⟨"java/lang/Throwable", "<init>", "(Ljava/lang/String;)V"⟩ ∈ UW := uw_1 (i := 194) rfl rfl
theorem ui_java_lang_Throwable__init___Ljava_lang_String__V : Cond.instanceMethod ⟨"java/lang/Throwable", "<init>", "(Ljava/lang/String;)V"⟩ ∈ UW := uw_1 (i := 195) rfl rfl
theorem uc_java_lang_Throwable__init___Ljava_lang_String__V : Cond.code ⟨"java/lang/Throwable", "<init>", "(Ljava/lang/String;)V"⟩ prog_16_method_2_code 2 (none : Option FieldType) ∈ UW := uw_1 (i := 196) rfl rfl
theorem uf_java_lang_Throwable_31 : Cond.fieldLink "java/lang/Throwable" 31 "java/lang/Throwable" "detailMessage" "Ljava/lang/String;" ∈ UW := uw_1 (i := 198) rfl rfl
theorem uf_java_lang_Throwable_7 : Cond.fieldLink "java/lang/Throwable" 7 "java/lang/Throwable" "cause" "Ljava/lang/Throwable;" ∈ UW := uw_1 (i := 199) rfl rfl
theorem uf_java_lang_Throwable_17 : Cond.fieldLink "java/lang/Throwable" 17 "java/lang/Throwable" "stackTrace" "[Ljava/lang/StackTraceElement;" ∈ UW := uw_1 (i := 200) rfl rfl
theorem uf_java_lang_Throwable_24 : Cond.fieldLink "java/lang/Throwable" 24 "java/lang/Throwable" "suppressedExceptions" "Ljava/util/List;" ∈ UW := uw_1 (i := 201) rfl rfl
theorem uz_arrayClass_1_210 : (Cond.arrayClass FieldType.byte) ∈ UW := uw_1 (i := 210) rfl rfl
theorem um_X2_38 : Cond.methodLink RX2 38 yX2_hasFailureInView ∈ UW := uw_1 (i := 211) rfl rfl
theorem ui_X2_hasFailureInView : Cond.instanceMethod yX2_hasFailureInView ∈ UW := uw_1 (i := 213) rfl rfl
theorem uc_X2_hasFailureInView : Cond.code yX2_hasFailureInView cX2_hasFailureInView 2 (some FieldType.boolean) ∈ UW := uw_1 (i := 214) rfl rfl
theorem um_X2_42 : Cond.methodLink RX2 42 yJx4a65c_size_8abf5 ∈ UW := uw_1 (i := 215) rfl rfl
theorem ui_Jx4a65c_size_8abf5 : Cond.instanceMethod yJx4a65c_size_8abf5 ∈ UW := uw_1 (i := 216) rfl rfl
theorem us_Jx4a65c_size_8abf5 : Cond.selects RJx4a65c yJx4a65c_size_8abf5 yJx4a65c_size_8abf5 ∈ UW := uw_1 (i := 217) rfl rfl
theorem uc_Jx4a65c_size_8abf5 : Cond.code yJx4a65c_size_8abf5 cJx4a65c_size_8abf5 1 (some FieldType.int) ∈ UW := uw_1 (i := 218) rfl rfl
theorem ul_X2_46 : Cond.classLink RX2 46 "java/lang/IllegalStateException" ∈ UW := uw_1 (i := 219) rfl rfl
theorem ux_java_lang_IllegalStateException : Cond.instantiable "java/lang/IllegalStateException" 6 ∈ UW := uw_1 (i := 220) rfl rfl
theorem us_java_lang_Throwable_fillInStackTrace__I_Ljava_lang_Throwable__java_lang_IllegalStateException : Cond.selects "java/lang/IllegalStateException" ⟨"java/lang/Throwable", "fillInStackTrace", "(I)Ljava/lang/Throwable;"⟩ ⟨"java/lang/Throwable", "fillInStackTrace", "(I)Ljava/lang/Throwable;"⟩ ∈ UW := uw_1 (i := 222) rfl rfl
theorem um_X2_50 : Cond.methodLink RX2 50 ⟨"java/lang/IllegalStateException", "<init>", "(Ljava/lang/String;)V"⟩ ∈ UW := uw_1 (i := 229) rfl rfl
theorem ui_java_lang_IllegalStateException__init___Ljava_lang_String__V : Cond.instanceMethod ⟨"java/lang/IllegalStateException", "<init>", "(Ljava/lang/String;)V"⟩ ∈ UW := uw_1 (i := 230) rfl rfl
theorem uc_java_lang_IllegalStateException__init___Ljava_lang_String__V : Cond.code ⟨"java/lang/IllegalStateException", "<init>", "(Ljava/lang/String;)V"⟩ prog_9_method_2_code 2 (none : Option FieldType) ∈ UW := uw_1 (i := 231) rfl rfl
theorem um_java_lang_IllegalStateException_7 : Cond.methodLink "java/lang/IllegalStateException" 7 ⟨"java/lang/RuntimeException", "<init>", "(Ljava/lang/String;)V"⟩ ∈ UW := uw_1 (i := 232) rfl rfl
theorem ul_X2_53 : Cond.classLink RX2 53 RX1 ∈ UW := uw_1 (i := 235) rfl rfl
theorem ux_X1 : Cond.instantiable RX1 10 ∈ UW := uw_1 (i := 236) rfl rfl
theorem um_X2_58 : Cond.methodLink RX2 58 yX1_init ∈ UW := uw_1 (i := 237) rfl rfl
theorem ui_X1_init : Cond.instanceMethod yX1_init ∈ UW := uw_1 (i := 238) rfl rfl
theorem uc_X1_init : Cond.code yX1_init cX1_init 4 (none : Option FieldType) ∈ UW := uw_1 (i := 239) rfl rfl
theorem um_X1_3 : Cond.methodLink RX1 3 ⟨"java/lang/Object", "<init>", "()V"⟩ ∈ UW := uw_2 (i := 0) rfl rfl
theorem um_X1_34 : Cond.methodLink RX1 34 yJ7_fill_53178 ∈ UW := uw_2 (i := 1) rfl rfl
theorem ut_J7_fill_53178 : Cond.static yJ7_fill_53178 ∈ UW := uw_2 (i := 2) rfl rfl
theorem uc_J7_fill_53178 : Cond.code yJ7_fill_53178 cJ7_fill_53178 4 (none : Option FieldType) ∈ UW := uw_2 (i := 3) rfl rfl
theorem uf_X1_9 : Cond.fieldLink RX1 9 "Causewaymail$Message" "id" "I" ∈ UW := uw_2 (i := 4) rfl rfl
theorem uf_X2_89 : Cond.fieldLink RX2 89 "Causewaymail$Message" "id" "I" ∈ UW := uw_2 (i := 5) rfl rfl
theorem uf_X1_15 : Cond.fieldLink RX1 15 "Causewaymail$Message" "sender" "I" ∈ UW := uw_2 (i := 6) rfl rfl
theorem uf_X0_41 : Cond.fieldLink RX0 41 "Causewaymail$Message" "sender" "I" ∈ UW := uw_2 (i := 7) rfl rfl
theorem uf_X2_117 : Cond.fieldLink RX2 117 "Causewaymail$Message" "sender" "I" ∈ UW := uw_2 (i := 8) rfl rfl
theorem uf_X1_18 : Cond.fieldLink RX1 18 "Causewaymail$Message" "historyLength" "I" ∈ UW := uw_2 (i := 9) rfl rfl
theorem uf_X1_21 : Cond.fieldLink RX1 21 "Causewaymail$Message" "stamp" "[I" ∈ UW := uw_2 (i := 10) rfl rfl
theorem uf_X0_36 : Cond.fieldLink RX0 36 "Causewaymail$Message" "stamp" "[I" ∈ UW := uw_2 (i := 11) rfl rfl
theorem uf_X2_77 : Cond.fieldLink RX2 77 "Causewaymail$Message" "stamp" "[I" ∈ UW := uw_2 (i := 12) rfl rfl
theorem uf_X1_25 : Cond.fieldLink RX1 25 "Causewaymail$Message" "copies" "[I" ∈ UW := uw_2 (i := 13) rfl rfl
theorem uf_X2_101 : Cond.fieldLink RX2 101 "Causewaymail$Message" "copies" "[I" ∈ UW := uw_2 (i := 14) rfl rfl
theorem uf_X1_28 : Cond.fieldLink RX1 28 "Causewaymail$Message" "proposals" "[I" ∈ UW := uw_2 (i := 15) rfl rfl
theorem uf_X2_165 : Cond.fieldLink RX2 165 "Causewaymail$Message" "proposals" "[I" ∈ UW := uw_2 (i := 16) rfl rfl
theorem uf_X1_31 : Cond.fieldLink RX1 31 "Causewaymail$Message" "places" "[I" ∈ UW := uw_2 (i := 17) rfl rfl
theorem uf_X2_218 : Cond.fieldLink RX2 218 "Causewaymail$Message" "places" "[I" ∈ UW := uw_2 (i := 18) rfl rfl
theorem uf_X1_40 : Cond.fieldLink RX1 40 "Causewaymail$Message" "number" "I" ∈ UW := uw_2 (i := 19) rfl rfl
theorem uf_X2_156 : Cond.fieldLink RX2 156 "Causewaymail$Message" "number" "I" ∈ UW := uw_2 (i := 20) rfl rfl
theorem uf_X1_43 : Cond.fieldLink RX1 43 "Causewaymail$Message" "agreement" "I" ∈ UW := uw_2 (i := 21) rfl rfl
theorem uf_X2_168 : Cond.fieldLink RX2 168 "Causewaymail$Message" "agreement" "I" ∈ UW := uw_2 (i := 22) rfl rfl
theorem uf_X2_252 : Cond.fieldLink RX2 252 "Causewaymail$Message" "dropped" "Z" ∈ UW := uw_2 (i := 23) rfl rfl
theorem um_X2_61 : Cond.methodLink RX2 61 yJx4a65c_add_9ea2d ∈ UW := uw_2 (i := 45) rfl rfl
theorem ui_Jx4a65c_add_9ea2d : Cond.instanceMethod yJx4a65c_add_9ea2d ∈ UW := uw_2 (i := 46) rfl rfl
theorem us_Jx4a65c_add_9ea2d : Cond.selects RJx4a65c yJx4a65c_add_9ea2d yJx4a65c_add_9ea2d ∈ UW := uw_2 (i := 47) rfl rfl
theorem uc_Jx4a65c_add_9ea2d : Cond.code yJx4a65c_add_9ea2d cJx4a65c_add_9ea2d 2 (some FieldType.boolean) ∈ UW := uw_2 (i := 48) rfl rfl
theorem um_Jx4a65c_131 : Cond.methodLink RJx4a65c 131 yJx4a65c_add_72be8 ∈ UW := uw_2 (i := 49) rfl rfl
theorem ui_Jx4a65c_add_72be8 : Cond.instanceMethod yJx4a65c_add_72be8 ∈ UW := uw_2 (i := 51) rfl rfl
theorem uc_Jx4a65c_add_72be8 : Cond.code yJx4a65c_add_72be8 cJx4a65c_add_72be8 4 (none : Option FieldType) ∈ UW := uw_2 (i := 52) rfl rfl
theorem um_Jx4a65c_129 : Cond.methodLink RJx4a65c 129 yJx4a65c_grow_d5877 ∈ UW := uw_2 (i := 53) rfl rfl
theorem ui_Jx4a65c_grow_d5877 : Cond.instanceMethod yJx4a65c_grow_d5877 ∈ UW := uw_2 (i := 55) rfl rfl
theorem uc_Jx4a65c_grow_d5877 : Cond.code yJx4a65c_grow_d5877 cJx4a65c_grow_d5877 1 (some (FieldType.array (FieldType.object "java/lang/Object"))) ∈ UW := uw_2 (i := 56) rfl rfl
theorem um_Jx4a65c_69 : Cond.methodLink RJx4a65c 69 yJx4a65c_grow_92f84 ∈ UW := uw_2 (i := 57) rfl rfl
theorem ui_Jx4a65c_grow_92f84 : Cond.instanceMethod yJx4a65c_grow_92f84 ∈ UW := uw_2 (i := 59) rfl rfl
theorem uc_Jx4a65c_grow_92f84 : Cond.code yJx4a65c_grow_92f84 cJx4a65c_grow_92f84 4 (some (FieldType.array (FieldType.object "java/lang/Object"))) ∈ UW := uw_2 (i := 60) rfl rfl
theorem um_Jx4a65c_73 : Cond.methodLink RJx4a65c 73 yJ8_newLength_cabcc ∈ UW := uw_2 (i := 61) rfl rfl
theorem ut_J8_newLength_cabcc : Cond.static yJ8_newLength_cabcc ∈ UW := uw_2 (i := 62) rfl rfl
theorem uc_J8_newLength_cabcc : Cond.code yJ8_newLength_cabcc cJ8_newLength_cabcc 4 (some FieldType.int) ∈ UW := uw_2 (i := 63) rfl rfl
theorem um_J8_194 : Cond.methodLink RJ8 194 yJ9_max_7cf53 ∈ UW := uw_2 (i := 64) rfl rfl
theorem ut_J9_max_7cf53 : Cond.static yJ9_max_7cf53 ∈ UW := uw_2 (i := 65) rfl rfl
theorem uc_J9_max_7cf53 : Cond.code yJ9_max_7cf53 cJ9_max_7cf53 2 (some FieldType.int) ∈ UW := uw_2 (i := 66) rfl rfl
theorem uz_constant_2_67 : (Cond.constant "jdk/internal/util/ArraysSupport" (200) (2147483639)) ∈ UW := uw_2 (i := 67) rfl rfl
theorem um_J8_201 : Cond.methodLink RJ8 201 yJ8_hugeLength_7cf53 ∈ UW := uw_2 (i := 68) rfl rfl
theorem ut_J8_hugeLength_7cf53 : Cond.static yJ8_hugeLength_7cf53 ∈ UW := uw_2 (i := 69) rfl rfl
theorem uc_J8_hugeLength_7cf53 : Cond.code yJ8_hugeLength_7cf53 cJ8_hugeLength_7cf53 3 (some FieldType.int) ∈ UW := uw_2 (i := 70) rfl rfl
theorem um_Jx4a65c_66 : Cond.methodLink RJx4a65c 66 yJ7_copyOf_1904c ∈ UW := uw_2 (i := 71) rfl rfl
theorem ut_J7_copyOf_1904c : Cond.static yJ7_copyOf_1904c ∈ UW := uw_2 (i := 72) rfl rfl
theorem uc_J7_copyOf_1904c : Cond.code yJ7_copyOf_1904c cJ7_copyOf_1904c 2 (some (FieldType.array (FieldType.object "java/lang/Object"))) ∈ UW := uw_2 (i := 73) rfl rfl
theorem um_J7_86 : Cond.methodLink RJ7 86 ⟨"java/lang/Object", "getClass", "()Ljava/lang/Class;"⟩ ∈ UW := uw_2 (i := 74) rfl rfl
theorem ui_java_lang_Object_getClass___Ljava_lang_Class_ : Cond.instanceMethod ⟨"java/lang/Object", "getClass", "()Ljava/lang/Class;"⟩ ∈ UW := uw_2 (i := 75) rfl rfl
theorem us_java_lang_Object_getClass___Ljava_lang_Class__Causewaymail : Cond.selects RX2 ⟨"java/lang/Object", "getClass", "()Ljava/lang/Class;"⟩ ⟨"java/lang/Object", "getClass", "()Ljava/lang/Class;"⟩ ∈ UW := uw_2 (i := 77) rfl rfl
theorem us_java_lang_Object_getClass___Ljava_lang_Class__Causewaymail_Member : Cond.selects RX0 ⟨"java/lang/Object", "getClass", "()Ljava/lang/Class;"⟩ ⟨"java/lang/Object", "getClass", "()Ljava/lang/Class;"⟩ ∈ UW := uw_2 (i := 78) rfl rfl
theorem us_java_lang_Object_getClass___Ljava_lang_Class__Causewaymail_Message : Cond.selects RX1 ⟨"java/lang/Object", "getClass", "()Ljava/lang/Class;"⟩ ⟨"java/lang/Object", "getClass", "()Ljava/lang/Class;"⟩ ∈ UW := uw_2 (i := 79) rfl rfl
theorem us_java_lang_Object_getClass___Ljava_lang_Class__java_lang_IllegalStateException : Cond.selects "java/lang/IllegalStateException" ⟨"java/lang/Object", "getClass", "()Ljava/lang/Class;"⟩ ⟨"java/lang/Object", "getClass", "()Ljava/lang/Class;"⟩ ∈ UW := uw_2 (i := 80) rfl rfl
theorem us_java_lang_Object_getClass___Ljava_lang_Class__java_lang_IndexOutOfBoundsException : Cond.selects "java/lang/IndexOutOfBoundsException" ⟨"java/lang/Object", "getClass", "()Ljava/lang/Class;"⟩ ⟨"java/lang/Object", "getClass", "()Ljava/lang/Class;"⟩ ∈ UW := uw_2 (i := 81) rfl rfl
theorem us_java_lang_Object_getClass___Ljava_lang_Class__java_util_ArrayList : Cond.selects RJx4a65c ⟨"java/lang/Object", "getClass", "()Ljava/lang/Class;"⟩ ⟨"java/lang/Object", "getClass", "()Ljava/lang/Class;"⟩ ∈ UW := uw_2 (i := 82) rfl rfl
theorem uv_java_lang_Object_getClass___Ljava_lang_Class_ : Cond.native ⟨"java/lang/Object", "getClass", "()Ljava/lang/Class;"⟩ ∈ UW := uw_2 (i := 83) rfl rfl
theorem um_J7_300 : Cond.methodLink RJ7 300 yJ7_copyOf_6403c ∈ UW := uw_2 (i := 84) rfl rfl
theorem ut_J7_copyOf_6403c : Cond.static yJ7_copyOf_6403c ∈ UW := uw_2 (i := 85) rfl rfl
theorem uc_J7_copyOf_6403c : Cond.code yJ7_copyOf_6403c cJ7_copyOf_6403c 4 (some (FieldType.array (FieldType.object "java/lang/Object"))) ∈ UW := uw_2 (i := 86) rfl rfl
theorem ul_J7_110 : Cond.classLink RJ7 110 "[Ljava/lang/Object;" ∈ UW := uw_2 (i := 87) rfl rfl
theorem ul_J7_2 : Cond.classLink RJ7 2 "java/lang/Object" ∈ UW := uw_2 (i := 89) rfl rfl
theorem um_J7_304 : Cond.methodLink RJ7 304 yJ9_min_7cf53 ∈ UW := uw_2 (i := 90) rfl rfl
theorem ut_J9_min_7cf53 : Cond.static yJ9_min_7cf53 ∈ UW := uw_2 (i := 91) rfl rfl
theorem uc_J9_min_7cf53 : Cond.code yJ9_min_7cf53 cJ9_min_7cf53 2 (some FieldType.int) ∈ UW := uw_2 (i := 92) rfl rfl
theorem um_J7_150 : Cond.methodLink RJ7 150 ⟨"java/lang/System", "arraycopy", "(Ljava/lang/Object;ILjava/lang/Object;II)V"⟩ ∈ UW := uw_2 (i := 93) rfl rfl
theorem ut_java_lang_System_arraycopy__Ljava_lang_Object_ILjava_lang_Object_II_V : Cond.static ⟨"java/lang/System", "arraycopy", "(Ljava/lang/Object;ILjava/lang/Object;II)V"⟩ ∈ UW := uw_2 (i := 94) rfl rfl
theorem uv_java_lang_System_arraycopy__Ljava_lang_Object_ILjava_lang_Object_II_V : Cond.native ⟨"java/lang/System", "arraycopy", "(Ljava/lang/Object;ILjava/lang/Object;II)V"⟩ ∈ UW := uw_2 (i := 95) rfl rfl
theorem um_Jx4a65c_79 : Cond.methodLink RJx4a65c 79 yJ9_max_7cf53 ∈ UW := uw_2 (i := 96) rfl rfl
theorem ul_Jx4a65c_7 : Cond.classLink RJx4a65c 7 "java/lang/Object" ∈ UW := uw_2 (i := 97) rfl rfl
theorem um_X2_65 : Cond.methodLink RX2 65 yX2_putOnWay ∈ UW := uw_2 (i := 98) rfl rfl
theorem ui_X2_putOnWay : Cond.instanceMethod yX2_putOnWay ∈ UW := uw_2 (i := 100) rfl rfl
theorem uc_X2_putOnWay : Cond.code yX2_putOnWay cX2_putOnWay 3 (none : Option FieldType) ∈ UW := uw_2 (i := 101) rfl rfl
theorem um_X2_69 : Cond.methodLink RX2 69 yX2_deliver ∈ UW := uw_2 (i := 102) rfl rfl
theorem ui_X2_deliver : Cond.instanceMethod yX2_deliver ∈ UW := uw_2 (i := 104) rfl rfl
theorem uc_X2_deliver : Cond.code yX2_deliver cX2_deliver 3 (none : Option FieldType) ∈ UW := uw_2 (i := 105) rfl rfl
theorem um_X2_221 : Cond.methodLink RX2 221 yX2_giveNumber ∈ UW := uw_2 (i := 106) rfl rfl
theorem ui_X2_giveNumber : Cond.instanceMethod yX2_giveNumber ∈ UW := uw_2 (i := 108) rfl rfl
theorem uc_X2_giveNumber : Cond.code yX2_giveNumber cX2_giveNumber 2 (none : Option FieldType) ∈ UW := uw_2 (i := 109) rfl rfl
theorem um_X2_80 : Cond.methodLink RX2 80 ⟨"java/lang/System", "arraycopy", "(Ljava/lang/Object;ILjava/lang/Object;II)V"⟩ ∈ UW := uw_2 (i := 110) rfl rfl
theorem um_X2_86 : Cond.methodLink RX2 86 yX2_propose ∈ UW := uw_2 (i := 111) rfl rfl
theorem ui_X2_propose : Cond.instanceMethod yX2_propose ∈ UW := uw_2 (i := 113) rfl rfl
theorem uc_X2_propose : Cond.code yX2_propose cX2_propose 4 (none : Option FieldType) ∈ UW := uw_2 (i := 114) rfl rfl
theorem um_X2_239 : Cond.methodLink RX2 239 yJ9_max_7cf53 ∈ UW := uw_2 (i := 115) rfl rfl
theorem um_X2_242 : Cond.methodLink RX2 242 yX2_hasAllProposals ∈ UW := uw_2 (i := 116) rfl rfl
theorem ui_X2_hasAllProposals : Cond.instanceMethod yX2_hasAllProposals ∈ UW := uw_2 (i := 118) rfl rfl
theorem uc_X2_hasAllProposals : Cond.code yX2_hasAllProposals cX2_hasAllProposals 3 (some FieldType.boolean) ∈ UW := uw_2 (i := 119) rfl rfl
theorem um_X2_245 : Cond.methodLink RX2 245 yX1_greatestProposal ∈ UW := uw_2 (i := 120) rfl rfl
theorem ui_X1_greatestProposal : Cond.instanceMethod yX1_greatestProposal ∈ UW := uw_2 (i := 121) rfl rfl
theorem us_X1_greatestProposal : Cond.selects RX1 yX1_greatestProposal yX1_greatestProposal ∈ UW := uw_2 (i := 122) rfl rfl
theorem uc_X1_greatestProposal : Cond.code yX1_greatestProposal cX1_greatestProposal 3 (some FieldType.int) ∈ UW := uw_2 (i := 123) rfl rfl
theorem um_X1_46 : Cond.methodLink RX1 46 yJ9_max_7cf53 ∈ UW := uw_2 (i := 124) rfl rfl
theorem um_X2_248 : Cond.methodLink RX2 248 yX2_agreeOn ∈ UW := uw_2 (i := 125) rfl rfl
theorem ui_X2_agreeOn : Cond.instanceMethod yX2_agreeOn ∈ UW := uw_2 (i := 127) rfl rfl
theorem uc_X2_agreeOn : Cond.code yX2_agreeOn cX2_agreeOn 3 (none : Option FieldType) ∈ UW := uw_2 (i := 128) rfl rfl
theorem um_L_111 : Cond.methodLink RL 111 yL_sends ∈ UW := uw_2 (i := 129) rfl rfl
theorem ut_L_sends : Cond.static yL_sends ∈ UW := uw_2 (i := 130) rfl rfl
theorem uc_L_sends : Cond.code yL_sends cL_sends 12 (some FieldType.int) ∈ UW := uw_2 (i := 131) rfl rfl
theorem um_L_59 : Cond.methodLink RL 59 yL_becomes ∈ UW := uw_2 (i := 132) rfl rfl
theorem ut_L_becomes : Cond.static yL_becomes ∈ UW := uw_2 (i := 133) rfl rfl
theorem uc_L_becomes : Cond.code yL_becomes cL_becomes 4 (none : Option FieldType) ∈ UW := uw_2 (i := 134) rfl rfl
theorem um_L_81 : Cond.methodLink RL 81 yL_delivers ∈ UW := uw_2 (i := 135) rfl rfl
theorem ut_L_delivers : Cond.static yL_delivers ∈ UW := uw_2 (i := 136) rfl rfl
theorem uc_L_delivers : Cond.code yL_delivers cL_delivers 7 (none : Option FieldType) ∈ UW := uw_2 (i := 137) rfl rfl
theorem um_L_65 : Cond.methodLink RL 65 yL_many ∈ UW := uw_2 (i := 138) rfl rfl
theorem ut_L_many : Cond.static yL_many ∈ UW := uw_2 (i := 139) rfl rfl
theorem uc_L_many : Cond.code yL_many cL_many 5 (some FieldType.int) ∈ UW := uw_2 (i := 140) rfl rfl
theorem um_L_69 : Cond.methodLink RL 69 yL_with ∈ UW := uw_2 (i := 141) rfl rfl
theorem ut_L_with : Cond.static yL_with ∈ UW := uw_2 (i := 142) rfl rfl
theorem uc_L_with : Cond.code yL_with cL_with 4 (some FieldType.long) ∈ UW := uw_2 (i := 143) rfl rfl
theorem uz_constantLong_2_144 : (Cond.constantLong "CausewaymailLaw" (55) (4095)) ∈ UW := uw_2 (i := 144) rfl rfl
theorem uz_constantLong_2_145 : (Cond.constantLong "CausewaymailLaw" (57) (-1)) ∈ UW := uw_2 (i := 145) rfl rfl
theorem um_L_89 : Cond.methodLink RL 89 yL_proposes ∈ UW := uw_2 (i := 146) rfl rfl
theorem ut_L_proposes : Cond.static yL_proposes ∈ UW := uw_2 (i := 147) rfl rfl
theorem uc_L_proposes : Cond.code yL_proposes cL_proposes 8 (none : Option FieldType) ∈ UW := uw_2 (i := 148) rfl rfl
theorem um_L_77 : Cond.methodLink RL 77 yL_at ∈ UW := uw_2 (i := 149) rfl rfl
theorem ut_L_at : Cond.static yL_at ∈ UW := uw_2 (i := 150) rfl rfl
theorem uc_L_at : Cond.code yL_at cL_at 3 (some FieldType.int) ∈ UW := uw_2 (i := 151) rfl rfl
theorem um_L_73 : Cond.methodLink RL 73 yL_state ∈ UW := uw_2 (i := 152) rfl rfl
theorem ut_L_state : Cond.static yL_state ∈ UW := uw_2 (i := 153) rfl rfl
theorem uc_L_state : Cond.code yL_state cL_state 3 (some FieldType.int) ∈ UW := uw_2 (i := 154) rfl rfl
theorem um_L_115 : Cond.methodLink RL 115 yL_arrive ∈ UW := uw_2 (i := 155) rfl rfl
theorem ut_L_arrive : Cond.static yL_arrive ∈ UW := uw_2 (i := 156) rfl rfl
theorem uw_L_arrive : Cond.codeWith yL_arrive cL_arrive 5 (some FieldType.int) [(0, 7, 10, 14), (0, 7, 15, 16)] ∈ UW := uw_2 (i := 157) rfl rfl
theorem um_L_18 : Cond.methodLink RL 18 yX2_arrive ∈ UW := uw_2 (i := 158) rfl rfl
theorem ui_X2_arrive : Cond.instanceMethod yX2_arrive ∈ UW := uw_2 (i := 159) rfl rfl
theorem us_X2_arrive : Cond.selects RX2 yX2_arrive yX2_arrive ∈ UW := uw_2 (i := 160) rfl rfl
theorem uc_X2_arrive : Cond.code yX2_arrive cX2_arrive 3 (some FieldType.int) ∈ UW := uw_2 (i := 161) rfl rfl
theorem um_X2_93 : Cond.methodLink RX2 93 yX2_requireCopy ∈ UW := uw_2 (i := 162) rfl rfl
theorem ui_X2_requireCopy : Cond.instanceMethod yX2_requireCopy ∈ UW := uw_2 (i := 164) rfl rfl
theorem uc_X2_requireCopy : Cond.code yX2_requireCopy cX2_requireCopy 3 (none : Option FieldType) ∈ UW := uw_2 (i := 165) rfl rfl
theorem um_X2_114 : Cond.methodLink RX2 114 yX2_requireMessage ∈ UW := uw_2 (i := 166) rfl rfl
theorem ui_X2_requireMessage : Cond.instanceMethod yX2_requireMessage ∈ UW := uw_2 (i := 168) rfl rfl
theorem uc_X2_requireMessage : Cond.code yX2_requireMessage cX2_requireMessage 2 (none : Option FieldType) ∈ UW := uw_2 (i := 169) rfl rfl
theorem um_X2_97 : Cond.methodLink RX2 97 yJx4a65c_get_915e3 ∈ UW := uw_2 (i := 171) rfl rfl
theorem ui_Jx4a65c_get_915e3 : Cond.instanceMethod yJx4a65c_get_915e3 ∈ UW := uw_2 (i := 172) rfl rfl
theorem us_Jx4a65c_get_915e3 : Cond.selects RJx4a65c yJx4a65c_get_915e3 yJx4a65c_get_915e3 ∈ UW := uw_2 (i := 173) rfl rfl
theorem uc_Jx4a65c_get_915e3 : Cond.code yJx4a65c_get_915e3 cJx4a65c_get_915e3 2 (some (FieldType.object "java/lang/Object")) ∈ UW := uw_2 (i := 174) rfl rfl
theorem um_Jx4a65c_118 : Cond.methodLink RJx4a65c 118 yJ15_checkIndex_7cf53 ∈ UW := uw_2 (i := 175) rfl rfl
theorem ut_J15_checkIndex_7cf53 : Cond.static yJ15_checkIndex_7cf53 ∈ UW := uw_2 (i := 176) rfl rfl
theorem uc_J15_checkIndex_7cf53 : Cond.code yJ15_checkIndex_7cf53 cJ15_checkIndex_7cf53 2 (some FieldType.int) ∈ UW := uw_2 (i := 177) rfl rfl
theorem um_J15_105 : Cond.methodLink RJ15 105 yJ3_checkIndex_8e157 ∈ UW := uw_2 (i := 178) rfl rfl
theorem ut_J3_checkIndex_8e157 : Cond.static yJ3_checkIndex_8e157 ∈ UW := uw_2 (i := 179) rfl rfl
theorem uc_J3_checkIndex_8e157 : Cond.code yJ3_checkIndex_8e157 cJ3_checkIndex_8e157 3 (some FieldType.int) ∈ UW := uw_2 (i := 180) rfl rfl
theorem um_Jx4a65c_123 : Cond.methodLink RJx4a65c 123 yJx4a65c_elementData_915e3 ∈ UW := uw_2 (i := 181) rfl rfl
theorem ui_Jx4a65c_elementData_915e3 : Cond.instanceMethod yJx4a65c_elementData_915e3 ∈ UW := uw_2 (i := 182) rfl rfl
theorem us_Jx4a65c_elementData_915e3 : Cond.selects RJx4a65c yJx4a65c_elementData_915e3 yJx4a65c_elementData_915e3 ∈ UW := uw_2 (i := 183) rfl rfl
theorem uc_Jx4a65c_elementData_915e3 : Cond.code yJx4a65c_elementData_915e3 cJx4a65c_elementData_915e3 2 (some (FieldType.object "java/lang/Object")) ∈ UW := uw_2 (i := 184) rfl rfl
theorem um_X2_106 : Cond.methodLink RX2 106 yX2_takeIn ∈ UW := uw_2 (i := 186) rfl rfl
theorem ui_X2_takeIn : Cond.instanceMethod yX2_takeIn ∈ UW := uw_2 (i := 188) rfl rfl
theorem uc_X2_takeIn : Cond.code yX2_takeIn cX2_takeIn 3 (some FieldType.int) ∈ UW := uw_2 (i := 189) rfl rfl
theorem um_X2_205 : Cond.methodLink RX2 205 yX0_canReceive ∈ UW := uw_2 (i := 190) rfl rfl
theorem ui_X0_canReceive : Cond.instanceMethod yX0_canReceive ∈ UW := uw_2 (i := 191) rfl rfl
theorem us_X0_canReceive : Cond.selects RX0 yX0_canReceive yX0_canReceive ∈ UW := uw_2 (i := 192) rfl rfl
theorem uc_X0_canReceive : Cond.code yX0_canReceive cX0_canReceive 4 (some FieldType.boolean) ∈ UW := uw_2 (i := 193) rfl rfl
theorem um_X2_209 : Cond.methodLink RX2 209 yX2_deliverHeld ∈ UW := uw_2 (i := 194) rfl rfl
theorem ui_X2_deliverHeld : Cond.instanceMethod yX2_deliverHeld ∈ UW := uw_2 (i := 196) rfl rfl
theorem uc_X2_deliverHeld : Cond.code yX2_deliverHeld cX2_deliverHeld 5 (some FieldType.int) ∈ UW := uw_2 (i := 197) rfl rfl
theorem um_X2_212 : Cond.methodLink RX2 212 yX0_firstReceivable ∈ UW := uw_2 (i := 198) rfl rfl
theorem ui_X0_firstReceivable : Cond.instanceMethod yX0_firstReceivable ∈ UW := uw_2 (i := 199) rfl rfl
theorem us_X0_firstReceivable : Cond.selects RX0 yX0_firstReceivable yX0_firstReceivable ∈ UW := uw_2 (i := 200) rfl rfl
theorem uc_X0_firstReceivable : Cond.code yX0_firstReceivable cX0_firstReceivable 2 (some FieldType.int) ∈ UW := uw_2 (i := 201) rfl rfl
theorem um_X0_44 : Cond.methodLink RX0 44 yJx4a65c_size_8abf5 ∈ UW := uw_2 (i := 202) rfl rfl
theorem um_X0_48 : Cond.methodLink RX0 48 yJx4a65c_get_915e3 ∈ UW := uw_2 (i := 203) rfl rfl
theorem ul_X0_37 : Cond.classLink RX0 37 RX1 ∈ UW := uw_2 (i := 204) rfl rfl
theorem um_X0_52 : Cond.methodLink RX0 52 yX0_canReceive ∈ UW := uw_2 (i := 205) rfl rfl
theorem um_X2_215 : Cond.methodLink RX2 215 yJx4a65c_remove_915e3 ∈ UW := uw_2 (i := 206) rfl rfl
theorem ui_Jx4a65c_remove_915e3 : Cond.instanceMethod yJx4a65c_remove_915e3 ∈ UW := uw_2 (i := 207) rfl rfl
theorem us_Jx4a65c_remove_915e3 : Cond.selects RJx4a65c yJx4a65c_remove_915e3 yJx4a65c_remove_915e3 ∈ UW := uw_2 (i := 208) rfl rfl
theorem uc_Jx4a65c_remove_915e3 : Cond.code yJx4a65c_remove_915e3 cJx4a65c_remove_915e3 4 (some (FieldType.object "java/lang/Object")) ∈ UW := uw_2 (i := 209) rfl rfl
theorem um_Jx4a65c_144 : Cond.methodLink RJx4a65c 144 yJx4a65c_fastRemove_b59b0 ∈ UW := uw_2 (i := 210) rfl rfl
theorem ui_Jx4a65c_fastRemove_b59b0 : Cond.instanceMethod yJx4a65c_fastRemove_b59b0 ∈ UW := uw_2 (i := 212) rfl rfl
theorem uc_Jx4a65c_fastRemove_b59b0 : Cond.code yJx4a65c_fastRemove_b59b0 cJx4a65c_fastRemove_b59b0 4 (none : Option FieldType) ∈ UW := uw_2 (i := 213) rfl rfl
theorem um_Jx4a65c_112 : Cond.methodLink RJx4a65c 112 ⟨"java/lang/System", "arraycopy", "(Ljava/lang/Object;ILjava/lang/Object;II)V"⟩ ∈ UW := uw_2 (i := 214) rfl rfl
theorem um_L_97 : Cond.methodLink RL 97 yL_comes ∈ UW := uw_2 (i := 215) rfl rfl
theorem ut_L_comes : Cond.static yL_comes ∈ UW := uw_2 (i := 216) rfl rfl
theorem uc_L_comes : Cond.code yL_comes cL_comes 12 (some FieldType.int) ∈ UW := uw_2 (i := 217) rfl rfl
theorem um_L_118 : Cond.methodLink RL 118 yL_lose ∈ UW := uw_2 (i := 218) rfl rfl
theorem ut_L_lose : Cond.static yL_lose ∈ UW := uw_2 (i := 219) rfl rfl
theorem uw_L_lose : Cond.codeWith yL_lose cL_lose 4 (some FieldType.int) [(0, 6, 9, 14), (0, 6, 13, 16)] ∈ UW := uw_2 (i := 220) rfl rfl
theorem um_L_22 : Cond.methodLink RL 22 yX2_lose ∈ UW := uw_2 (i := 221) rfl rfl
theorem ui_X2_lose : Cond.instanceMethod yX2_lose ∈ UW := uw_2 (i := 222) rfl rfl
theorem us_X2_lose : Cond.selects RX2 yX2_lose yX2_lose ∈ UW := uw_2 (i := 223) rfl rfl
theorem uc_X2_lose : Cond.code yX2_lose cX2_lose 3 (none : Option FieldType) ∈ UW := uw_2 (i := 224) rfl rfl
theorem um_L_120 : Cond.methodLink RL 120 yL_sendAgain ∈ UW := uw_2 (i := 226) rfl rfl
theorem ut_L_sendAgain : Cond.static yL_sendAgain ∈ UW := uw_2 (i := 227) rfl rfl
theorem uw_L_sendAgain : Cond.codeWith yL_sendAgain cL_sendAgain 4 (some FieldType.int) [(0, 6, 9, 14), (0, 6, 13, 16)] ∈ UW := uw_2 (i := 228) rfl rfl
theorem um_L_26 : Cond.methodLink RL 26 yX2_sendAgain ∈ UW := uw_2 (i := 229) rfl rfl
theorem ui_X2_sendAgain : Cond.instanceMethod yX2_sendAgain ∈ UW := uw_2 (i := 230) rfl rfl
theorem us_X2_sendAgain : Cond.selects RX2 yX2_sendAgain yX2_sendAgain ∈ UW := uw_2 (i := 231) rfl rfl
theorem uc_X2_sendAgain : Cond.code yX2_sendAgain cX2_sendAgain 3 (none : Option FieldType) ∈ UW := uw_2 (i := 232) rfl rfl
theorem um_L_122 : Cond.methodLink RL 122 yL_passToken ∈ UW := uw_2 (i := 234) rfl rfl
theorem ut_L_passToken : Cond.static yL_passToken ∈ UW := uw_2 (i := 235) rfl rfl
theorem uw_L_passToken : Cond.codeWith yL_passToken cL_passToken 4 (some FieldType.int) [(0, 6, 9, 14), (0, 6, 13, 16)] ∈ UW := uw_2 (i := 236) rfl rfl
theorem um_L_29 : Cond.methodLink RL 29 yX2_passToken ∈ UW := uw_2 (i := 237) rfl rfl
theorem ui_X2_passToken : Cond.instanceMethod yX2_passToken ∈ UW := uw_2 (i := 238) rfl rfl
theorem us_X2_passToken : Cond.selects RX2 yX2_passToken yX2_passToken ∈ UW := uw_2 (i := 239) rfl rfl
theorem uc_X2_passToken : Cond.code yX2_passToken cX2_passToken 2 (some FieldType.int) ∈ UW := uw_3 (i := 0) rfl rfl
theorem um_X2_141 : Cond.methodLink RX2 141 yX2_hasAllNumbered ∈ UW := uw_3 (i := 1) rfl rfl
theorem ui_X2_hasAllNumbered : Cond.instanceMethod yX2_hasAllNumbered ∈ UW := uw_3 (i := 3) rfl rfl
theorem uc_X2_hasAllNumbered : Cond.code yX2_hasAllNumbered cX2_hasAllNumbered 3 (some FieldType.boolean) ∈ UW := uw_3 (i := 4) rfl rfl
theorem um_X2_224 : Cond.methodLink RX2 224 yX1_wasDeliveredTo ∈ UW := uw_3 (i := 5) rfl rfl
theorem ui_X1_wasDeliveredTo : Cond.instanceMethod yX1_wasDeliveredTo ∈ UW := uw_3 (i := 6) rfl rfl
theorem us_X1_wasDeliveredTo : Cond.selects RX1 yX1_wasDeliveredTo yX1_wasDeliveredTo ∈ UW := uw_3 (i := 7) rfl rfl
theorem uc_X1_wasDeliveredTo : Cond.code yX1_wasDeliveredTo cX1_wasDeliveredTo 2 (some FieldType.boolean) ∈ UW := uw_3 (i := 8) rfl rfl
theorem um_X2_147 : Cond.methodLink RX2 147 yX2_giveToken ∈ UW := uw_3 (i := 10) rfl rfl
theorem ui_X2_giveToken : Cond.instanceMethod yX2_giveToken ∈ UW := uw_3 (i := 12) rfl rfl
theorem uc_X2_giveToken : Cond.code yX2_giveToken cX2_giveToken 4 (some FieldType.int) ∈ UW := uw_3 (i := 13) rfl rfl
theorem um_L_101 : Cond.methodLink RL 101 yL_holds ∈ UW := uw_3 (i := 14) rfl rfl
theorem ut_L_holds : Cond.static yL_holds ∈ UW := uw_3 (i := 15) rfl rfl
theorem uc_L_holds : Cond.code yL_holds cL_holds 10 (some FieldType.int) ∈ UW := uw_3 (i := 16) rfl rfl
theorem um_L_124 : Cond.methodLink RL 124 yL_tell ∈ UW := uw_3 (i := 17) rfl rfl
theorem ut_L_tell : Cond.static yL_tell ∈ UW := uw_3 (i := 18) rfl rfl
theorem uw_L_tell : Cond.codeWith yL_tell cL_tell 4 (some FieldType.int) [(0, 6, 9, 14), (0, 6, 13, 16)] ∈ UW := uw_3 (i := 19) rfl rfl
theorem um_L_32 : Cond.methodLink RL 32 yX2_tell ∈ UW := uw_3 (i := 20) rfl rfl
theorem ui_X2_tell : Cond.instanceMethod yX2_tell ∈ UW := uw_3 (i := 21) rfl rfl
theorem us_X2_tell : Cond.selects RX2 yX2_tell yX2_tell ∈ UW := uw_3 (i := 22) rfl rfl
theorem uc_X2_tell : Cond.code yX2_tell cX2_tell 3 (some FieldType.int) ∈ UW := uw_3 (i := 23) rfl rfl
theorem um_L_93 : Cond.methodLink RL 93 yL_knows ∈ UW := uw_3 (i := 25) rfl rfl
theorem ut_L_knows : Cond.static yL_knows ∈ UW := uw_3 (i := 26) rfl rfl
theorem uc_L_knows : Cond.code yL_knows cL_knows 3 (some FieldType.int) ∈ UW := uw_3 (i := 27) rfl rfl
theorem um_L_126 : Cond.methodLink RL 126 yL_fail ∈ UW := uw_3 (i := 28) rfl rfl
theorem ut_L_fail : Cond.static yL_fail ∈ UW := uw_3 (i := 29) rfl rfl
theorem uw_L_fail : Cond.codeWith yL_fail cL_fail 3 (some FieldType.int) [(0, 5, 8, 14), (0, 5, 12, 16)] ∈ UW := uw_3 (i := 30) rfl rfl
theorem um_L_35 : Cond.methodLink RL 35 yX2_fail ∈ UW := uw_3 (i := 31) rfl rfl
theorem ui_X2_fail : Cond.instanceMethod yX2_fail ∈ UW := uw_3 (i := 32) rfl rfl
theorem us_X2_fail : Cond.selects RX2 yX2_fail yX2_fail ∈ UW := uw_3 (i := 33) rfl rfl
theorem uc_X2_fail : Cond.code yX2_fail cX2_fail 2 (none : Option FieldType) ∈ UW := uw_3 (i := 34) rfl rfl
theorem um_X2_171 : Cond.methodLink RX2 171 yX2_countAlive ∈ UW := uw_3 (i := 35) rfl rfl
theorem ui_X2_countAlive : Cond.instanceMethod yX2_countAlive ∈ UW := uw_3 (i := 37) rfl rfl
theorem uc_X2_countAlive : Cond.code yX2_countAlive cX2_countAlive 3 (some FieldType.int) ∈ UW := uw_3 (i := 38) rfl rfl
theorem um_X2_159 : Cond.methodLink RX2 159 yX2_countOrdered ∈ UW := uw_3 (i := 40) rfl rfl
theorem ui_X2_countOrdered : Cond.instanceMethod yX2_countOrdered ∈ UW := uw_3 (i := 42) rfl rfl
theorem uc_X2_countOrdered : Cond.code yX2_countOrdered cX2_countOrdered 4 (some FieldType.int) ∈ UW := uw_3 (i := 43) rfl rfl
theorem um_X2_227 : Cond.methodLink RX2 227 yJ9_min_7cf53 ∈ UW := uw_3 (i := 44) rfl rfl
theorem um_L_128 : Cond.methodLink RL 128 yL_ordered ∈ UW := uw_3 (i := 45) rfl rfl
theorem ut_L_ordered : Cond.static yL_ordered ∈ UW := uw_3 (i := 46) rfl rfl
theorem uc_L_ordered : Cond.code yL_ordered cL_ordered 7 (some FieldType.int) ∈ UW := uw_3 (i := 47) rfl rfl
theorem um_L_132 : Cond.methodLink RL 132 yL_flush ∈ UW := uw_3 (i := 48) rfl rfl
theorem ut_L_flush : Cond.static yL_flush ∈ UW := uw_3 (i := 49) rfl rfl
theorem uw_L_flush : Cond.codeWith yL_flush cL_flush 3 (some FieldType.int) [(0, 5, 8, 16)] ∈ UW := uw_3 (i := 50) rfl rfl
theorem um_L_39 : Cond.methodLink RL 39 yX2_flush ∈ UW := uw_3 (i := 51) rfl rfl
theorem ui_X2_flush : Cond.instanceMethod yX2_flush ∈ UW := uw_3 (i := 52) rfl rfl
theorem us_X2_flush : Cond.selects RX2 yX2_flush yX2_flush ∈ UW := uw_3 (i := 53) rfl rfl
theorem uc_X2_flush : Cond.code yX2_flush cX2_flush 2 (some FieldType.int) ∈ UW := uw_3 (i := 54) rfl rfl
theorem um_X2_178 : Cond.methodLink RX2 178 yX2_dropUndeliverable ∈ UW := uw_3 (i := 56) rfl rfl
theorem ui_X2_dropUndeliverable : Cond.instanceMethod yX2_dropUndeliverable ∈ UW := uw_3 (i := 58) rfl rfl
theorem uc_X2_dropUndeliverable : Cond.code yX2_dropUndeliverable cX2_dropUndeliverable 4 (some FieldType.int) ∈ UW := uw_3 (i := 59) rfl rfl
theorem um_X2_255 : Cond.methodLink RX2 255 yX2_isWithSomeoneAlive ∈ UW := uw_3 (i := 60) rfl rfl
theorem ui_X2_isWithSomeoneAlive : Cond.instanceMethod yX2_isWithSomeoneAlive ∈ UW := uw_3 (i := 62) rfl rfl
theorem uc_X2_isWithSomeoneAlive : Cond.code yX2_isWithSomeoneAlive cX2_isWithSomeoneAlive 4 (some FieldType.boolean) ∈ UW := uw_3 (i := 63) rfl rfl
theorem um_X2_258 : Cond.methodLink RX2 258 yX2_followsDropped ∈ UW := uw_3 (i := 64) rfl rfl
theorem ui_X2_followsDropped : Cond.instanceMethod yX2_followsDropped ∈ UW := uw_3 (i := 66) rfl rfl
theorem uc_X2_followsDropped : Cond.code yX2_followsDropped cX2_followsDropped 3 (some FieldType.boolean) ∈ UW := uw_3 (i := 67) rfl rfl
theorem um_X2_120 : Cond.methodLink RX2 120 yX1_isBefore ∈ UW := uw_3 (i := 68) rfl rfl
theorem ui_X1_isBefore : Cond.instanceMethod yX1_isBefore ∈ UW := uw_3 (i := 69) rfl rfl
theorem us_X1_isBefore : Cond.selects RX1 yX1_isBefore yX1_isBefore ∈ UW := uw_3 (i := 70) rfl rfl
theorem uc_X1_isBefore : Cond.code yX1_isBefore cX1_isBefore 2 (some FieldType.boolean) ∈ UW := uw_3 (i := 71) rfl rfl
theorem um_X2_261 : Cond.methodLink RX2 261 yX2_drop ∈ UW := uw_3 (i := 72) rfl rfl
theorem ui_X2_drop : Cond.instanceMethod yX2_drop ∈ UW := uw_3 (i := 74) rfl rfl
theorem uc_X2_drop : Cond.code yX2_drop cX2_drop 3 (none : Option FieldType) ∈ UW := uw_3 (i := 75) rfl rfl
theorem um_X2_264 : Cond.methodLink RX2 264 yJ7_fill_53178 ∈ UW := uw_3 (i := 76) rfl rfl
theorem um_X2_270 : Cond.methodLink RX2 270 yX2_takeOut ∈ UW := uw_3 (i := 77) rfl rfl
theorem ui_X2_takeOut : Cond.instanceMethod yX2_takeOut ∈ UW := uw_3 (i := 79) rfl rfl
theorem uc_X2_takeOut : Cond.code yX2_takeOut cX2_takeOut 4 (none : Option FieldType) ∈ UW := uw_3 (i := 80) rfl rfl
theorem um_X2_181 : Cond.methodLink RX2 181 yX2_letAllArrive ∈ UW := uw_3 (i := 81) rfl rfl
theorem ui_X2_letAllArrive : Cond.instanceMethod yX2_letAllArrive ∈ UW := uw_3 (i := 83) rfl rfl
theorem uc_X2_letAllArrive : Cond.code yX2_letAllArrive cX2_letAllArrive 4 (none : Option FieldType) ∈ UW := uw_3 (i := 84) rfl rfl
theorem um_X2_184 : Cond.methodLink RX2 184 yX2_changeView ∈ UW := uw_3 (i := 85) rfl rfl
theorem ui_X2_changeView : Cond.instanceMethod yX2_changeView ∈ UW := uw_3 (i := 87) rfl rfl
theorem uc_X2_changeView : Cond.code yX2_changeView cX2_changeView 2 (none : Option FieldType) ∈ UW := uw_3 (i := 88) rfl rfl
theorem um_X2_274 : Cond.methodLink RX2 274 yX2_leastAlive ∈ UW := uw_3 (i := 89) rfl rfl
theorem ui_X2_leastAlive : Cond.instanceMethod yX2_leastAlive ∈ UW := uw_3 (i := 91) rfl rfl
theorem uc_X2_leastAlive : Cond.code yX2_leastAlive cX2_leastAlive 2 (some (FieldType.object "Causewaymail$Member")) ∈ UW := uw_3 (i := 92) rfl rfl
theorem um_X2_187 : Cond.methodLink RX2 187 yX2_agreeOnTheRest ∈ UW := uw_3 (i := 93) rfl rfl
theorem ui_X2_agreeOnTheRest : Cond.instanceMethod yX2_agreeOnTheRest ∈ UW := uw_3 (i := 95) rfl rfl
theorem uc_X2_agreeOnTheRest : Cond.code yX2_agreeOnTheRest cX2_agreeOnTheRest 3 (none : Option FieldType) ∈ UW := uw_3 (i := 96) rfl rfl
theorem um_X2_278 : Cond.methodLink RX2 278 yX2_nextToAgreeOn ∈ UW := uw_3 (i := 97) rfl rfl
theorem ui_X2_nextToAgreeOn : Cond.instanceMethod yX2_nextToAgreeOn ∈ UW := uw_3 (i := 99) rfl rfl
theorem uc_X2_nextToAgreeOn : Cond.code yX2_nextToAgreeOn cX2_nextToAgreeOn 5 (some (FieldType.object "Causewaymail$Message")) ∈ UW := uw_3 (i := 100) rfl rfl
theorem um_L_135 : Cond.methodLink RL 135 yL_flushes ∈ UW := uw_3 (i := 101) rfl rfl
theorem ut_L_flushes : Cond.static yL_flushes ∈ UW := uw_3 (i := 102) rfl rfl
theorem uc_L_flushes : Cond.code yL_flushes cL_flushes 21 (some FieldType.int) ∈ UW := uw_3 (i := 103) rfl rfl
theorem um_L_205 : Cond.methodLink RL 205 yL_isRead ∈ UW := uw_3 (i := 104) rfl rfl
theorem ut_L_isRead : Cond.static yL_isRead ∈ UW := uw_3 (i := 105) rfl rfl
theorem uc_L_isRead : Cond.code yL_isRead cL_isRead 22 (some FieldType.boolean) ∈ UW := uw_3 (i := 106) rfl rfl
theorem um_L_139 : Cond.methodLink RL 139 yL_waitingAt ∈ UW := uw_3 (i := 107) rfl rfl
theorem ut_L_waitingAt : Cond.static yL_waitingAt ∈ UW := uw_3 (i := 108) rfl rfl
theorem uw_L_waitingAt : Cond.codeWith yL_waitingAt cL_waitingAt 5 (some FieldType.int) [(0, 7, 10, 14)] ∈ UW := uw_3 (i := 109) rfl rfl
theorem um_L_52 : Cond.methodLink RL 52 yX2_waitingAt ∈ UW := uw_3 (i := 110) rfl rfl
theorem ui_X2_waitingAt : Cond.instanceMethod yX2_waitingAt ∈ UW := uw_3 (i := 111) rfl rfl
theorem us_X2_waitingAt : Cond.selects RX2 yX2_waitingAt yX2_waitingAt ∈ UW := uw_3 (i := 112) rfl rfl
theorem uc_X2_waitingAt : Cond.code yX2_waitingAt cX2_waitingAt 3 (some FieldType.int) ∈ UW := uw_3 (i := 113) rfl rfl
theorem um_X2_127 : Cond.methodLink RX2 127 yX2_requirePlace ∈ UW := uw_3 (i := 114) rfl rfl
theorem ui_X2_requirePlace : Cond.instanceMethod yX2_requirePlace ∈ UW := uw_3 (i := 116) rfl rfl
theorem uc_X2_requirePlace : Cond.code yX2_requirePlace cX2_requirePlace 3 (none : Option FieldType) ∈ UW := uw_3 (i := 117) rfl rfl
theorem um_L_141 : Cond.methodLink RL 141 yX2_clock ∈ UW := uw_3 (i := 119) rfl rfl
theorem ui_X2_clock : Cond.instanceMethod yX2_clock ∈ UW := uw_3 (i := 120) rfl rfl
theorem us_X2_clock : Cond.selects RX2 yX2_clock yX2_clock ∈ UW := uw_3 (i := 121) rfl rfl
theorem uc_X2_clock : Cond.code yX2_clock cX2_clock 3 (some FieldType.int) ∈ UW := uw_3 (i := 122) rfl rfl
theorem um_L_144 : Cond.methodLink RL 144 yX2_waiting ∈ UW := uw_3 (i := 123) rfl rfl
theorem ui_X2_waiting : Cond.instanceMethod yX2_waiting ∈ UW := uw_3 (i := 124) rfl rfl
theorem us_X2_waiting : Cond.selects RX2 yX2_waiting yX2_waiting ∈ UW := uw_3 (i := 125) rfl rfl
theorem uc_X2_waiting : Cond.code yX2_waiting cX2_waiting 2 (some FieldType.int) ∈ UW := uw_3 (i := 126) rfl rfl
theorem um_L_147 : Cond.methodLink RL 147 yX2_delivered ∈ UW := uw_3 (i := 127) rfl rfl
theorem ui_X2_delivered : Cond.instanceMethod yX2_delivered ∈ UW := uw_3 (i := 128) rfl rfl
theorem us_X2_delivered : Cond.selects RX2 yX2_delivered yX2_delivered ∈ UW := uw_3 (i := 129) rfl rfl
theorem uc_X2_delivered : Cond.code yX2_delivered cX2_delivered 2 (some FieldType.int) ∈ UW := uw_3 (i := 130) rfl rfl
theorem um_L_150 : Cond.methodLink RL 150 yL_deliveredAt ∈ UW := uw_3 (i := 131) rfl rfl
theorem ut_L_deliveredAt : Cond.static yL_deliveredAt ∈ UW := uw_3 (i := 132) rfl rfl
theorem uw_L_deliveredAt : Cond.codeWith yL_deliveredAt cL_deliveredAt 5 (some FieldType.int) [(0, 7, 10, 14)] ∈ UW := uw_3 (i := 133) rfl rfl
theorem um_L_49 : Cond.methodLink RL 49 yX2_deliveredAt ∈ UW := uw_3 (i := 134) rfl rfl
theorem ui_X2_deliveredAt : Cond.instanceMethod yX2_deliveredAt ∈ UW := uw_3 (i := 135) rfl rfl
theorem us_X2_deliveredAt : Cond.selects RX2 yX2_deliveredAt yX2_deliveredAt ∈ UW := uw_3 (i := 136) rfl rfl
theorem uc_X2_deliveredAt : Cond.code yX2_deliveredAt cX2_deliveredAt 3 (some FieldType.int) ∈ UW := uw_3 (i := 137) rfl rfl
theorem um_L_152 : Cond.methodLink RL 152 yX2_isAlive ∈ UW := uw_3 (i := 138) rfl rfl
theorem ui_X2_isAlive : Cond.instanceMethod yX2_isAlive ∈ UW := uw_3 (i := 139) rfl rfl
theorem us_X2_isAlive : Cond.selects RX2 yX2_isAlive yX2_isAlive ∈ UW := uw_3 (i := 140) rfl rfl
theorem uc_X2_isAlive : Cond.code yX2_isAlive cX2_isAlive 2 (some FieldType.boolean) ∈ UW := uw_3 (i := 141) rfl rfl
theorem um_L_156 : Cond.methodLink RL 156 yX2_ordered ∈ UW := uw_3 (i := 142) rfl rfl
theorem ui_X2_ordered : Cond.instanceMethod yX2_ordered ∈ UW := uw_3 (i := 143) rfl rfl
theorem us_X2_ordered : Cond.selects RX2 yX2_ordered yX2_ordered ∈ UW := uw_3 (i := 144) rfl rfl
theorem uc_X2_ordered : Cond.code yX2_ordered cX2_ordered 2 (some FieldType.int) ∈ UW := uw_3 (i := 145) rfl rfl
theorem um_L_158 : Cond.methodLink RL 158 yL_copy ∈ UW := uw_3 (i := 146) rfl rfl
theorem ut_L_copy : Cond.static yL_copy ∈ UW := uw_3 (i := 147) rfl rfl
theorem uw_L_copy : Cond.codeWith yL_copy cL_copy 5 (some FieldType.int) [(0, 7, 10, 14)] ∈ UW := uw_3 (i := 148) rfl rfl
theorem um_L_43 : Cond.methodLink RL 43 yX2_copy ∈ UW := uw_3 (i := 149) rfl rfl
theorem ui_X2_copy : Cond.instanceMethod yX2_copy ∈ UW := uw_3 (i := 150) rfl rfl
theorem us_X2_copy : Cond.selects RX2 yX2_copy yX2_copy ∈ UW := uw_3 (i := 151) rfl rfl
theorem uc_X2_copy : Cond.code yX2_copy cX2_copy 3 (some FieldType.int) ∈ UW := uw_3 (i := 152) rfl rfl
theorem um_L_160 : Cond.methodLink RL 160 yX2_proposal ∈ UW := uw_3 (i := 153) rfl rfl
theorem ui_X2_proposal : Cond.instanceMethod yX2_proposal ∈ UW := uw_3 (i := 154) rfl rfl
theorem us_X2_proposal : Cond.selects RX2 yX2_proposal yX2_proposal ∈ UW := uw_3 (i := 155) rfl rfl
theorem uc_X2_proposal : Cond.code yX2_proposal cX2_proposal 3 (some FieldType.int) ∈ UW := uw_3 (i := 156) rfl rfl
theorem um_L_163 : Cond.methodLink RL 163 yX2_stamp ∈ UW := uw_3 (i := 157) rfl rfl
theorem ui_X2_stamp : Cond.instanceMethod yX2_stamp ∈ UW := uw_3 (i := 158) rfl rfl
theorem us_X2_stamp : Cond.selects RX2 yX2_stamp yX2_stamp ∈ UW := uw_3 (i := 159) rfl rfl
theorem uc_X2_stamp : Cond.code yX2_stamp cX2_stamp 3 (some FieldType.int) ∈ UW := uw_3 (i := 160) rfl rfl
theorem um_L_166 : Cond.methodLink RL 166 yX2_sender ∈ UW := uw_3 (i := 161) rfl rfl
theorem ui_X2_sender : Cond.instanceMethod yX2_sender ∈ UW := uw_3 (i := 162) rfl rfl
theorem us_X2_sender : Cond.selects RX2 yX2_sender yX2_sender ∈ UW := uw_3 (i := 163) rfl rfl
theorem uc_X2_sender : Cond.code yX2_sender cX2_sender 2 (some FieldType.int) ∈ UW := uw_3 (i := 164) rfl rfl
theorem um_L_169 : Cond.methodLink RL 169 yX2_numberOf ∈ UW := uw_3 (i := 165) rfl rfl
theorem ui_X2_numberOf : Cond.instanceMethod yX2_numberOf ∈ UW := uw_3 (i := 166) rfl rfl
theorem us_X2_numberOf : Cond.selects RX2 yX2_numberOf yX2_numberOf ∈ UW := uw_3 (i := 167) rfl rfl
theorem uc_X2_numberOf : Cond.code yX2_numberOf cX2_numberOf 2 (some FieldType.int) ∈ UW := uw_3 (i := 168) rfl rfl
theorem um_L_172 : Cond.methodLink RL 172 yX2_agreed ∈ UW := uw_3 (i := 169) rfl rfl
theorem ui_X2_agreed : Cond.instanceMethod yX2_agreed ∈ UW := uw_3 (i := 170) rfl rfl
theorem us_X2_agreed : Cond.selects RX2 yX2_agreed yX2_agreed ∈ UW := uw_3 (i := 171) rfl rfl
theorem uc_X2_agreed : Cond.code yX2_agreed cX2_agreed 2 (some FieldType.int) ∈ UW := uw_3 (i := 172) rfl rfl
theorem um_L_175 : Cond.methodLink RL 175 yL_agreedAt ∈ UW := uw_3 (i := 173) rfl rfl
theorem ut_L_agreedAt : Cond.static yL_agreedAt ∈ UW := uw_3 (i := 174) rfl rfl
theorem uw_L_agreedAt : Cond.codeWith yL_agreedAt cL_agreedAt 4 (some FieldType.int) [(0, 6, 9, 14)] ∈ UW := uw_3 (i := 175) rfl rfl
theorem um_L_46 : Cond.methodLink RL 46 yX2_agreedAt ∈ UW := uw_3 (i := 176) rfl rfl
theorem ui_X2_agreedAt : Cond.instanceMethod yX2_agreedAt ∈ UW := uw_3 (i := 177) rfl rfl
theorem us_X2_agreedAt : Cond.selects RX2 yX2_agreedAt yX2_agreedAt ∈ UW := uw_3 (i := 178) rfl rfl
theorem uc_X2_agreedAt : Cond.code yX2_agreedAt cX2_agreedAt 2 (some FieldType.int) ∈ UW := uw_3 (i := 179) rfl rfl
theorem um_L_177 : Cond.methodLink RL 177 yX2_messages ∈ UW := uw_3 (i := 180) rfl rfl
theorem ui_X2_messages : Cond.instanceMethod yX2_messages ∈ UW := uw_3 (i := 181) rfl rfl
theorem us_X2_messages : Cond.selects RX2 yX2_messages yX2_messages ∈ UW := uw_3 (i := 182) rfl rfl
theorem uc_X2_messages : Cond.code yX2_messages cX2_messages 1 (some FieldType.int) ∈ UW := uw_3 (i := 183) rfl rfl
theorem um_L_180 : Cond.methodLink RL 180 yX2_holder ∈ UW := uw_3 (i := 184) rfl rfl
theorem ui_X2_holder : Cond.instanceMethod yX2_holder ∈ UW := uw_3 (i := 185) rfl rfl
theorem us_X2_holder : Cond.selects RX2 yX2_holder yX2_holder ∈ UW := uw_3 (i := 186) rfl rfl
theorem uc_X2_holder : Cond.code yX2_holder cX2_holder 1 (some FieldType.int) ∈ UW := uw_3 (i := 187) rfl rfl
theorem um_L_183 : Cond.methodLink RL 183 yX2_numbered ∈ UW := uw_3 (i := 188) rfl rfl
theorem ui_X2_numbered : Cond.instanceMethod yX2_numbered ∈ UW := uw_3 (i := 189) rfl rfl
theorem us_X2_numbered : Cond.selects RX2 yX2_numbered yX2_numbered ∈ UW := uw_3 (i := 190) rfl rfl
theorem uc_X2_numbered : Cond.code yX2_numbered cX2_numbered 1 (some FieldType.int) ∈ UW := uw_3 (i := 191) rfl rfl
theorem um_L_186 : Cond.methodLink RL 186 yX2_view ∈ UW := uw_3 (i := 192) rfl rfl
theorem ui_X2_view : Cond.instanceMethod yX2_view ∈ UW := uw_3 (i := 193) rfl rfl
theorem us_X2_view : Cond.selects RX2 yX2_view yX2_view ∈ UW := uw_3 (i := 194) rfl rfl
theorem uc_X2_view : Cond.code yX2_view cX2_view 1 (some FieldType.int) ∈ UW := uw_3 (i := 195) rfl rfl
theorem um_L_189 : Cond.methodLink RL 189 yX2_needs ∈ UW := uw_3 (i := 196) rfl rfl
theorem ui_X2_needs : Cond.instanceMethod yX2_needs ∈ UW := uw_3 (i := 197) rfl rfl
theorem us_X2_needs : Cond.selects RX2 yX2_needs yX2_needs ∈ UW := uw_3 (i := 198) rfl rfl
theorem uc_X2_needs : Cond.code yX2_needs cX2_needs 5 (some FieldType.int) ∈ UW := uw_3 (i := 199) rfl rfl
theorem um_X2_134 : Cond.methodLink RX2 134 yX2_isNeeded ∈ UW := uw_3 (i := 200) rfl rfl
theorem ui_X2_isNeeded : Cond.instanceMethod yX2_isNeeded ∈ UW := uw_3 (i := 202) rfl rfl
theorem uc_X2_isNeeded : Cond.code yX2_isNeeded cX2_isNeeded 4 (some FieldType.boolean) ∈ UW := uw_3 (i := 203) rfl rfl
theorem um_L_192 : Cond.methodLink RL 192 yX2_firstNeeded ∈ UW := uw_3 (i := 204) rfl rfl
theorem ui_X2_firstNeeded : Cond.instanceMethod yX2_firstNeeded ∈ UW := uw_3 (i := 205) rfl rfl
theorem us_X2_firstNeeded : Cond.selects RX2 yX2_firstNeeded yX2_firstNeeded ∈ UW := uw_3 (i := 206) rfl rfl
theorem uc_X2_firstNeeded : Cond.code yX2_firstNeeded cX2_firstNeeded 4 (some FieldType.int) ∈ UW := uw_3 (i := 207) rfl rfl
theorem um_L_195 : Cond.methodLink RL 195 yX2_precedes ∈ UW := uw_3 (i := 208) rfl rfl
theorem ui_X2_precedes : Cond.instanceMethod yX2_precedes ∈ UW := uw_3 (i := 209) rfl rfl
theorem us_X2_precedes : Cond.selects RX2 yX2_precedes yX2_precedes ∈ UW := uw_3 (i := 210) rfl rfl
theorem uc_X2_precedes : Cond.code yX2_precedes cX2_precedes 3 (some FieldType.boolean) ∈ UW := uw_3 (i := 211) rfl rfl
theorem um_L_198 : Cond.methodLink RL 198 yX2_precedesByHistory ∈ UW := uw_3 (i := 212) rfl rfl
theorem ui_X2_precedesByHistory : Cond.instanceMethod yX2_precedesByHistory ∈ UW := uw_3 (i := 213) rfl rfl
theorem us_X2_precedesByHistory : Cond.selects RX2 yX2_precedesByHistory yX2_precedesByHistory ∈ UW := uw_3 (i := 214) rfl rfl
theorem uc_X2_precedesByHistory : Cond.code yX2_precedesByHistory cX2_precedesByHistory 3 (some FieldType.boolean) ∈ UW := uw_3 (i := 215) rfl rfl
theorem um_X2_124 : Cond.methodLink RX2 124 yX1_isInHistoryOf ∈ UW := uw_3 (i := 216) rfl rfl
theorem ui_X1_isInHistoryOf : Cond.instanceMethod yX1_isInHistoryOf ∈ UW := uw_3 (i := 217) rfl rfl
theorem us_X1_isInHistoryOf : Cond.selects RX1 yX1_isInHistoryOf yX1_isInHistoryOf ∈ UW := uw_3 (i := 218) rfl rfl
theorem uc_X1_isInHistoryOf : Cond.code yX1_isInHistoryOf cX1_isInHistoryOf 3 (some FieldType.boolean) ∈ UW := uw_3 (i := 219) rfl rfl
theorem um_L_201 : Cond.methodLink RL 201 yX2_areConcurrent ∈ UW := uw_3 (i := 220) rfl rfl
theorem ui_X2_areConcurrent : Cond.instanceMethod yX2_areConcurrent ∈ UW := uw_3 (i := 221) rfl rfl
theorem us_X2_areConcurrent : Cond.selects RX2 yX2_areConcurrent yX2_areConcurrent ∈ UW := uw_3 (i := 222) rfl rfl
theorem uc_X2_areConcurrent : Cond.code yX2_areConcurrent cX2_areConcurrent 5 (some FieldType.boolean) ∈ UW := uw_3 (i := 223) rfl rfl
theorem uz_arrayClass_3_224 : (Cond.arrayClass FieldType.long) ∈ UW := uw_3 (i := 224) rfl rfl
theorem us_java_lang_Object_getClass___Ljava_lang_Class___Ljava_lang_Object_ : Cond.selects "[Ljava/lang/Object;" ⟨"java/lang/Object", "getClass", "()Ljava/lang/Class;"⟩ ⟨"java/lang/Object", "getClass", "()Ljava/lang/Class;"⟩ ∈ UW := uw_3 (i := 235) rfl rfl
theorem us_X2_requireMember : Cond.selects RX2 yX2_requireMember yX2_requireMember ∈ UW := us_1 (i := 0) rfl rfl
theorem us_java_lang_Throwable_fillInStackTrace__I_Ljava_lang_Throwable_ : Cond.selects "java/lang/Throwable" ⟨"java/lang/Throwable", "fillInStackTrace", "(I)Ljava/lang/Throwable;"⟩ ⟨"java/lang/Throwable", "fillInStackTrace", "(I)Ljava/lang/Throwable;"⟩ ∈ UW := us_1 (i := 1) rfl rfl
theorem us_X2_hasFailureInView : Cond.selects RX2 yX2_hasFailureInView yX2_hasFailureInView ∈ UW := us_1 (i := 2) rfl rfl
theorem us_Jx4a65c_add_72be8 : Cond.selects RJx4a65c yJx4a65c_add_72be8 yJx4a65c_add_72be8 ∈ UW := us_1 (i := 3) rfl rfl
theorem us_Jx4a65c_grow_d5877 : Cond.selects RJx4a65c yJx4a65c_grow_d5877 yJx4a65c_grow_d5877 ∈ UW := us_1 (i := 4) rfl rfl
theorem us_Jx4a65c_grow_92f84 : Cond.selects RJx4a65c yJx4a65c_grow_92f84 yJx4a65c_grow_92f84 ∈ UW := us_1 (i := 5) rfl rfl
theorem us_X2_putOnWay : Cond.selects RX2 yX2_putOnWay yX2_putOnWay ∈ UW := us_1 (i := 6) rfl rfl
theorem us_X2_deliver : Cond.selects RX2 yX2_deliver yX2_deliver ∈ UW := us_1 (i := 7) rfl rfl
theorem us_X2_giveNumber : Cond.selects RX2 yX2_giveNumber yX2_giveNumber ∈ UW := us_1 (i := 8) rfl rfl
theorem us_X2_propose : Cond.selects RX2 yX2_propose yX2_propose ∈ UW := us_1 (i := 9) rfl rfl
theorem us_X2_hasAllProposals : Cond.selects RX2 yX2_hasAllProposals yX2_hasAllProposals ∈ UW := us_1 (i := 10) rfl rfl
theorem us_X2_agreeOn : Cond.selects RX2 yX2_agreeOn yX2_agreeOn ∈ UW := us_1 (i := 11) rfl rfl
theorem us_X2_requireCopy : Cond.selects RX2 yX2_requireCopy yX2_requireCopy ∈ UW := us_1 (i := 12) rfl rfl
theorem us_X2_requireMessage : Cond.selects RX2 yX2_requireMessage yX2_requireMessage ∈ UW := us_1 (i := 13) rfl rfl
theorem us_X2_takeIn : Cond.selects RX2 yX2_takeIn yX2_takeIn ∈ UW := us_1 (i := 14) rfl rfl
theorem us_X2_deliverHeld : Cond.selects RX2 yX2_deliverHeld yX2_deliverHeld ∈ UW := us_1 (i := 15) rfl rfl
theorem us_Jx4a65c_fastRemove_b59b0 : Cond.selects RJx4a65c yJx4a65c_fastRemove_b59b0 yJx4a65c_fastRemove_b59b0 ∈ UW := us_2 (i := 0) rfl rfl
theorem us_X2_hasAllNumbered : Cond.selects RX2 yX2_hasAllNumbered yX2_hasAllNumbered ∈ UW := us_2 (i := 1) rfl rfl
theorem us_X2_giveToken : Cond.selects RX2 yX2_giveToken yX2_giveToken ∈ UW := us_2 (i := 2) rfl rfl
theorem us_X2_countAlive : Cond.selects RX2 yX2_countAlive yX2_countAlive ∈ UW := us_2 (i := 3) rfl rfl
theorem us_X2_countOrdered : Cond.selects RX2 yX2_countOrdered yX2_countOrdered ∈ UW := us_2 (i := 4) rfl rfl
theorem us_X2_dropUndeliverable : Cond.selects RX2 yX2_dropUndeliverable yX2_dropUndeliverable ∈ UW := us_2 (i := 5) rfl rfl
theorem us_X2_isWithSomeoneAlive : Cond.selects RX2 yX2_isWithSomeoneAlive yX2_isWithSomeoneAlive ∈ UW := us_2 (i := 6) rfl rfl
theorem us_X2_followsDropped : Cond.selects RX2 yX2_followsDropped yX2_followsDropped ∈ UW := us_2 (i := 7) rfl rfl
theorem us_X2_drop : Cond.selects RX2 yX2_drop yX2_drop ∈ UW := us_2 (i := 8) rfl rfl
theorem us_X2_takeOut : Cond.selects RX2 yX2_takeOut yX2_takeOut ∈ UW := us_2 (i := 9) rfl rfl
theorem us_X2_letAllArrive : Cond.selects RX2 yX2_letAllArrive yX2_letAllArrive ∈ UW := us_2 (i := 10) rfl rfl
theorem us_X2_changeView : Cond.selects RX2 yX2_changeView yX2_changeView ∈ UW := us_2 (i := 11) rfl rfl
theorem us_X2_leastAlive : Cond.selects RX2 yX2_leastAlive yX2_leastAlive ∈ UW := us_2 (i := 12) rfl rfl
theorem us_X2_agreeOnTheRest : Cond.selects RX2 yX2_agreeOnTheRest yX2_agreeOnTheRest ∈ UW := us_2 (i := 13) rfl rfl
theorem us_X2_nextToAgreeOn : Cond.selects RX2 yX2_nextToAgreeOn yX2_nextToAgreeOn ∈ UW := us_2 (i := 14) rfl rfl
theorem us_X2_requirePlace : Cond.selects RX2 yX2_requirePlace yX2_requirePlace ∈ UW := us_2 (i := 15) rfl rfl
theorem us_X2_isNeeded : Cond.selects RX2 yX2_isNeeded yX2_isNeeded ∈ UW := us_3 (i := 0) rfl rfl
