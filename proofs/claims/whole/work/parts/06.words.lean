/-! the tables' words that calls hand on, and each of them by its place -/
def UW : List Cond := lw_tbl.filter goodWord
theorem UW_tbl : ∀ w ∈ UW, w ∈ lw_tbl := fun w h => (List.mem_filter.mp h).1
theorem uw_t {w : Cond} (h : w ∈ tables_1) (g : goodWord w = true) : w ∈ UW := List.mem_filter.mpr ⟨List.mem_append_right _ h, g⟩
theorem uw_1 {w : Cond} {i : Nat} (h : tables_1_1[i]? = some w) (g : goodWord w = true) : w ∈ UW := uw_t (List.mem_append_left _ (List.mem_of_getElem? h)) g
theorem uw_2 {w : Cond} {i : Nat} (h : tables_1_2[i]? = some w) (g : goodWord w = true) : w ∈ UW := uw_t (List.mem_append_right _ (List.mem_append_left _ (List.mem_of_getElem? h))) g
theorem uw_3 {w : Cond} {i : Nat} (h : tables_1_3[i]? = some w) (g : goodWord w = true) : w ∈ UW := uw_t (List.mem_append_right _ (List.mem_append_right _ (List.mem_append_left _ (List.mem_of_getElem? h)))) g
theorem uw_4 {w : Cond} {i : Nat} (h : tables_1_4[i]? = some w) (g : goodWord w = true) : w ∈ UW := uw_t (List.mem_append_right _ (List.mem_append_right _ (List.mem_append_right _ (List.mem_append_left _ (List.mem_of_getElem? h))))) g
theorem uw_5 {w : Cond} {i : Nat} (h : tables_1_5[i]? = some w) (g : goodWord w = true) : w ∈ UW := uw_t (List.mem_append_right _ (List.mem_append_right _ (List.mem_append_right _ (List.mem_append_right _ (List.mem_of_getElem? h))))) g
theorem us_p {q : MethodName × Nat} {w : Cond} (h : q ∈ lw_privs) (e : Cond.selects q.1.cls q.1 q.1 = w) (g : goodWord w = true) : w ∈ UW := List.mem_filter.mpr ⟨List.mem_append_left _ (List.mem_map.mpr ⟨q, h, e⟩), g⟩
theorem us_1 {y : MethodName} {i n : Nat} (h : lw_privs_1[i]? = some (y, n)) (g : goodWord (Cond.selects y.cls y y) = true) : Cond.selects y.cls y y ∈ UW := us_p (List.mem_append_left _ (List.mem_of_getElem? h)) rfl g
theorem us_2 {y : MethodName} {i n : Nat} (h : lw_privs_2[i]? = some (y, n)) (g : goodWord (Cond.selects y.cls y y) = true) : Cond.selects y.cls y y ∈ UW := us_p (List.mem_append_right _ (List.mem_append_left _ (List.mem_of_getElem? h))) rfl g
theorem us_3 {y : MethodName} {i n : Nat} (h : lw_privs_3[i]? = some (y, n)) (g : goodWord (Cond.selects y.cls y y) = true) : Cond.selects y.cls y y ∈ UW := us_p (List.mem_append_right _ (List.mem_append_right _ (List.mem_append_left _ (List.mem_of_getElem? h)))) rfl g
theorem us_4 {y : MethodName} {i n : Nat} (h : lw_privs_4[i]? = some (y, n)) (g : goodWord (Cond.selects y.cls y y) = true) : Cond.selects y.cls y y ∈ UW := us_p (List.mem_append_right _ (List.mem_append_right _ (List.mem_append_right _ (List.mem_of_getElem? h)))) rfl g
theorem un_L : Cond.initialized RL ∈ UW := uw_1 (i := 0) rfl rfl
theorem un_X2 : Cond.initialized RX2 ∈ UW := uw_1 (i := 1) rfl rfl
theorem un_X0 : Cond.initialized RX0 ∈ UW := uw_1 (i := 2) rfl rfl
theorem un_Jxa1e45 : Cond.initialized RJxa1e45 ∈ UW := uw_1 (i := 3) rfl rfl
theorem un_Jxc12de : Cond.initialized RJxc12de ∈ UW := uw_1 (i := 4) rfl rfl
theorem un_Jx4a65c : Cond.initialized RJx4a65c ∈ UW := uw_1 (i := 5) rfl rfl
theorem un_X3 : Cond.initialized RX3 ∈ UW := uw_1 (i := 6) rfl rfl
theorem un_java_lang_Throwable : Cond.initialized "java/lang/Throwable" ∈ UW := uw_1 (i := 7) rfl rfl
theorem un_java_lang_Exception : Cond.initialized "java/lang/Exception" ∈ UW := uw_1 (i := 8) rfl rfl
theorem un_java_lang_RuntimeException : Cond.initialized "java/lang/RuntimeException" ∈ UW := uw_1 (i := 9) rfl rfl
theorem un_java_lang_IndexOutOfBoundsException : Cond.initialized "java/lang/IndexOutOfBoundsException" ∈ UW := uw_1 (i := 10) rfl rfl
theorem un_java_lang_IllegalStateException : Cond.initialized "java/lang/IllegalStateException" ∈ UW := uw_1 (i := 11) rfl rfl
theorem un_X1 : Cond.initialized RX1 ∈ UW := uw_1 (i := 12) rfl rfl
theorem un_J7 : Cond.initialized RJ7 ∈ UW := uw_1 (i := 13) rfl rfl
theorem un_J8 : Cond.initialized RJ8 ∈ UW := uw_1 (i := 14) rfl rfl
theorem un_J9 : Cond.initialized RJ9 ∈ UW := uw_1 (i := 15) rfl rfl
theorem un_J10 : Cond.initialized RJ10 ∈ UW := uw_1 (i := 16) rfl rfl
theorem un_J15 : Cond.initialized RJ15 ∈ UW := uw_1 (i := 17) rfl rfl
theorem un_J3 : Cond.initialized RJ3 ∈ UW := uw_1 (i := 18) rfl rfl
theorem ul_L_8 : Cond.classLink RL 8 RX2 ∈ UW := uw_1 (i := 19) rfl rfl
theorem ux_X2 : Cond.instantiable RX2 7 ∈ UW := uw_1 (i := 20) rfl rfl
theorem um_L_101 : Cond.methodLink RL 101 yX2_init ∈ UW := uw_1 (i := 21) rfl rfl
theorem ui_X2_init : Cond.instanceMethod yX2_init ∈ UW := uw_1 (i := 22) rfl rfl
theorem uc_X2_init : Cond.code yX2_init cX2_init 2 (none : Option FieldType) ∈ UW := uw_1 (i := 23) rfl rfl
theorem um_X2_1 : Cond.methodLink RX2 1 ⟨"java/lang/Object", "<init>", "()V"⟩ ∈ UW := uw_1 (i := 24) rfl rfl
theorem ui_java_lang_Object__init____V : Cond.instanceMethod ⟨"java/lang/Object", "<init>", "()V"⟩ ∈ UW := uw_1 (i := 25) rfl rfl
theorem uc_java_lang_Object__init____V : Cond.code ⟨"java/lang/Object", "<init>", "()V"⟩ object_method_1_code 1 (none : Option FieldType) ∈ UW := uw_1 (i := 26) rfl rfl
theorem ul_X2_9 : Cond.classLink RX2 9 RX0 ∈ UW := uw_1 (i := 27) rfl rfl
theorem ux_X0 : Cond.instantiable RX0 9 ∈ UW := uw_1 (i := 29) rfl rfl
theorem um_X2_15 : Cond.methodLink RX2 15 yX0_init ∈ UW := uw_1 (i := 30) rfl rfl
theorem ui_X0_init : Cond.instanceMethod yX0_init ∈ UW := uw_1 (i := 31) rfl rfl
theorem uc_X0_init : Cond.code yX0_init cX0_init 2 (none : Option FieldType) ∈ UW := uw_1 (i := 32) rfl rfl
theorem um_X0_3 : Cond.methodLink RX0 3 ⟨"java/lang/Object", "<init>", "()V"⟩ ∈ UW := uw_1 (i := 33) rfl rfl
theorem ul_X0_19 : Cond.classLink RX0 19 RJx4a65c ∈ UW := uw_1 (i := 34) rfl rfl
theorem ux_Jx4a65c : Cond.instantiable RJx4a65c 3 ∈ UW := uw_1 (i := 35) rfl rfl
theorem um_X0_21 : Cond.methodLink RX0 21 yJx4a65c_init_da8c8 ∈ UW := uw_1 (i := 36) rfl rfl
theorem ui_Jx4a65c_init_da8c8 : Cond.instanceMethod yJx4a65c_init_da8c8 ∈ UW := uw_1 (i := 37) rfl rfl
theorem uc_Jx4a65c_init_da8c8 : Cond.code yJx4a65c_init_da8c8 cJx4a65c_init_da8c8 1 (none : Option FieldType) ∈ UW := uw_1 (i := 38) rfl rfl
theorem um_Jx4a65c_1 : Cond.methodLink RJx4a65c 1 yJxc12de_init_da8c8 ∈ UW := uw_1 (i := 39) rfl rfl
theorem ui_Jxc12de_init_da8c8 : Cond.instanceMethod yJxc12de_init_da8c8 ∈ UW := uw_1 (i := 40) rfl rfl
theorem uc_Jxc12de_init_da8c8 : Cond.code yJxc12de_init_da8c8 cJxc12de_init_da8c8 1 (none : Option FieldType) ∈ UW := uw_1 (i := 41) rfl rfl
theorem um_Jxc12de_1 : Cond.methodLink RJxc12de 1 yJxa1e45_init_da8c8 ∈ UW := uw_1 (i := 42) rfl rfl
theorem ui_Jxa1e45_init_da8c8 : Cond.instanceMethod yJxa1e45_init_da8c8 ∈ UW := uw_1 (i := 43) rfl rfl
theorem uc_Jxa1e45_init_da8c8 : Cond.code yJxa1e45_init_da8c8 cJxa1e45_init_da8c8 1 (none : Option FieldType) ∈ UW := uw_1 (i := 44) rfl rfl
theorem um_Jxa1e45_1 : Cond.methodLink RJxa1e45 1 ⟨"java/lang/Object", "<init>", "()V"⟩ ∈ UW := uw_1 (i := 45) rfl rfl
theorem uf_Jx4a65c_39 : Cond.fieldLink RJx4a65c 39 "java/util/ArrayList" "DEFAULTCAPACITY_EMPTY_ELEMENTDATA" "[Ljava/lang/Object;" ∈ UW := uw_1 (i := 46) rfl rfl
theorem uf_Jx4a65c_9 : Cond.fieldLink RJx4a65c 9 "java/util/ArrayList" "elementData" "[Ljava/lang/Object;" ∈ UW := uw_1 (i := 48) rfl rfl
theorem uf_Jx4a65c_48 : Cond.fieldLink RJx4a65c 48 "java/util/ArrayList" "size" "I" ∈ UW := uw_1 (i := 49) rfl rfl
theorem uf_Jxc12de_7 : Cond.fieldLink RJxc12de 7 "java/util/AbstractList" "modCount" "I" ∈ UW := uw_1 (i := 50) rfl rfl
theorem uf_Jx4a65c_63 : Cond.fieldLink RJx4a65c 63 "java/util/ArrayList" "modCount" "I" ∈ UW := uw_1 (i := 51) rfl rfl
theorem uz_sameField_1_52 : (Cond.sameField "java/util/ArrayList" "java/util/AbstractList" "modCount" "I") ∈ UW := uw_1 (i := 52) rfl rfl
theorem uz_arrayClass_1_60 : (Cond.arrayClass FieldType.int) ∈ UW := uw_1 (i := 60) rfl rfl
theorem uf_X0_9 : Cond.fieldLink RX0 9 "Causewaymail$Member" "id" "I" ∈ UW := uw_1 (i := 61) rfl rfl
theorem uf_X2_208 : Cond.fieldLink RX2 208 "Causewaymail$Member" "id" "I" ∈ UW := uw_1 (i := 62) rfl rfl
theorem uf_X0_15 : Cond.fieldLink RX0 15 "Causewaymail$Member" "clock" "[I" ∈ UW := uw_1 (i := 63) rfl rfl
theorem uf_X2_73 : Cond.fieldLink RX2 73 "Causewaymail$Member" "clock" "[I" ∈ UW := uw_1 (i := 64) rfl rfl
theorem uf_X0_22 : Cond.fieldLink RX0 22 "Causewaymail$Member" "received" "Ljava/util/ArrayList;" ∈ UW := uw_1 (i := 65) rfl rfl
theorem uf_X2_55 : Cond.fieldLink RX2 55 "Causewaymail$Member" "received" "Ljava/util/ArrayList;" ∈ UW := uw_1 (i := 66) rfl rfl
theorem uf_X0_26 : Cond.fieldLink RX0 26 "Causewaymail$Member" "held" "Ljava/util/ArrayList;" ∈ UW := uw_1 (i := 67) rfl rfl
theorem uf_X2_131 : Cond.fieldLink RX2 131 "Causewaymail$Member" "held" "Ljava/util/ArrayList;" ∈ UW := uw_1 (i := 68) rfl rfl
theorem uf_X2_153 : Cond.fieldLink RX2 153 "Causewaymail$Member" "known" "I" ∈ UW := uw_1 (i := 69) rfl rfl
theorem uf_X2_233 : Cond.fieldLink RX2 233 "Causewaymail$Member" "greatestProposed" "I" ∈ UW := uw_1 (i := 70) rfl rfl
theorem uf_X0_29 : Cond.fieldLink RX0 29 "Causewaymail$Member" "alive" "Z" ∈ UW := uw_1 (i := 71) rfl rfl
theorem uf_X2_34 : Cond.fieldLink RX2 34 "Causewaymail$Member" "alive" "Z" ∈ UW := uw_1 (i := 72) rfl rfl
theorem uf_X0_33 : Cond.fieldLink RX0 33 "Causewaymail$Member" "inView" "Z" ∈ UW := uw_1 (i := 73) rfl rfl
theorem uf_X2_202 : Cond.fieldLink RX2 202 "Causewaymail$Member" "inView" "Z" ∈ UW := uw_1 (i := 74) rfl rfl
theorem uf_X2_162 : Cond.fieldLink RX2 162 "Causewaymail$Member" "lastOrdered" "I" ∈ UW := uw_1 (i := 75) rfl rfl
theorem ul_X2_18 : Cond.classLink RX2 18 RJx4a65c ∈ UW := uw_1 (i := 95) rfl rfl
theorem um_X2_20 : Cond.methodLink RX2 20 yJx4a65c_init_da8c8 ∈ UW := uw_1 (i := 96) rfl rfl
theorem uf_X2_11 : Cond.fieldLink RX2 11 "Causewaymail" "members" "[LCausewaymail$Member;" ∈ UW := uw_1 (i := 97) rfl rfl
theorem uf_X2_21 : Cond.fieldLink RX2 21 "Causewaymail" "sent" "Ljava/util/ArrayList;" ∈ UW := uw_1 (i := 98) rfl rfl
theorem uf_X2_25 : Cond.fieldLink RX2 25 "Causewaymail" "numberedOrder" "Ljava/util/ArrayList;" ∈ UW := uw_1 (i := 99) rfl rfl
theorem uf_X2_28 : Cond.fieldLink RX2 28 "Causewaymail" "agreedOrder" "Ljava/util/ArrayList;" ∈ UW := uw_1 (i := 100) rfl rfl
theorem uf_X2_138 : Cond.fieldLink RX2 138 "Causewaymail" "tokenHolder" "I" ∈ UW := uw_1 (i := 101) rfl rfl
theorem uf_X2_236 : Cond.fieldLink RX2 236 "Causewaymail" "greatestAgreed" "I" ∈ UW := uw_1 (i := 102) rfl rfl
theorem uf_X2_190 : Cond.fieldLink RX2 190 "Causewaymail" "viewNumber" "I" ∈ UW := uw_1 (i := 103) rfl rfl
theorem um_L_125 : Cond.methodLink RL 125 yX2_messages ∈ UW := uw_1 (i := 119) rfl rfl
theorem ui_X2_messages : Cond.instanceMethod yX2_messages ∈ UW := uw_1 (i := 120) rfl rfl
theorem us_X2_messages : Cond.selects RX2 yX2_messages yX2_messages ∈ UW := uw_1 (i := 121) rfl rfl
theorem uc_X2_messages : Cond.code yX2_messages cX2_messages 1 (some FieldType.int) ∈ UW := uw_1 (i := 122) rfl rfl
theorem um_X2_42 : Cond.methodLink RX2 42 yJx4a65c_size_8abf5 ∈ UW := uw_1 (i := 123) rfl rfl
theorem ui_Jx4a65c_size_8abf5 : Cond.instanceMethod yJx4a65c_size_8abf5 ∈ UW := uw_1 (i := 124) rfl rfl
theorem us_Jx4a65c_size_8abf5 : Cond.selects RJx4a65c yJx4a65c_size_8abf5 yJx4a65c_size_8abf5 ∈ UW := uw_1 (i := 125) rfl rfl
theorem uc_Jx4a65c_size_8abf5 : Cond.code yJx4a65c_size_8abf5 cJx4a65c_size_8abf5 1 (some FieldType.int) ∈ UW := uw_1 (i := 126) rfl rfl
theorem um_L_168 : Cond.methodLink RL 168 yX2_holder ∈ UW := uw_1 (i := 127) rfl rfl
theorem ui_X2_holder : Cond.instanceMethod yX2_holder ∈ UW := uw_1 (i := 128) rfl rfl
theorem us_X2_holder : Cond.selects RX2 yX2_holder yX2_holder ∈ UW := uw_1 (i := 129) rfl rfl
theorem uc_X2_holder : Cond.code yX2_holder cX2_holder 1 (some FieldType.int) ∈ UW := uw_1 (i := 130) rfl rfl
theorem um_L_178 : Cond.methodLink RL 178 yX2_numbered ∈ UW := uw_1 (i := 131) rfl rfl
theorem ui_X2_numbered : Cond.instanceMethod yX2_numbered ∈ UW := uw_1 (i := 132) rfl rfl
theorem us_X2_numbered : Cond.selects RX2 yX2_numbered yX2_numbered ∈ UW := uw_1 (i := 133) rfl rfl
theorem uc_X2_numbered : Cond.code yX2_numbered cX2_numbered 1 (some FieldType.int) ∈ UW := uw_1 (i := 134) rfl rfl
theorem um_L_208 : Cond.methodLink RL 208 yX2_view ∈ UW := uw_1 (i := 135) rfl rfl
theorem ui_X2_view : Cond.instanceMethod yX2_view ∈ UW := uw_1 (i := 136) rfl rfl
theorem us_X2_view : Cond.selects RX2 yX2_view yX2_view ∈ UW := uw_1 (i := 137) rfl rfl
theorem uc_X2_view : Cond.code yX2_view cX2_view 1 (some FieldType.int) ∈ UW := uw_1 (i := 138) rfl rfl
theorem um_L_105 : Cond.methodLink RL 105 yL_send ∈ UW := uw_1 (i := 139) rfl rfl
theorem ut_L_send : Cond.static yL_send ∈ UW := uw_1 (i := 140) rfl rfl
theorem uw_L_send : Cond.codeWith yL_send cL_send 4 (some FieldType.int) [(0, 9, 12, 13), (0, 9, 15, 15)] ∈ UW := uw_1 (i := 141) rfl rfl
theorem ul_L_13 : Cond.classLink RL 13 "java/lang/IndexOutOfBoundsException" ∈ UW := uw_1 (i := 142) rfl rfl
theorem ul_L_15 : Cond.classLink RL 15 "java/lang/IllegalStateException" ∈ UW := uw_1 (i := 143) rfl rfl
theorem um_L_7 : Cond.methodLink RL 7 yX2_send ∈ UW := uw_1 (i := 144) rfl rfl
theorem ui_X2_send : Cond.instanceMethod yX2_send ∈ UW := uw_1 (i := 145) rfl rfl
theorem us_X2_send : Cond.selects RX2 yX2_send yX2_send ∈ UW := uw_1 (i := 146) rfl rfl
theorem uc_X2_send : Cond.code yX2_send cX2_send 4 (some FieldType.int) ∈ UW := uw_1 (i := 147) rfl rfl
theorem um_X2_31 : Cond.methodLink RX2 31 yX2_requireMember ∈ UW := uw_1 (i := 148) rfl rfl
theorem ui_X2_requireMember : Cond.instanceMethod yX2_requireMember ∈ UW := uw_1 (i := 150) rfl rfl
theorem uc_X2_requireMember : Cond.code yX2_requireMember cX2_requireMember 2 (none : Option FieldType) ∈ UW := uw_1 (i := 151) rfl rfl
theorem ul_X2_193 : Cond.classLink RX2 193 "java/lang/IndexOutOfBoundsException" ∈ UW := uw_1 (i := 152) rfl rfl
theorem ux_java_lang_IndexOutOfBoundsException : Cond.instantiable "java/lang/IndexOutOfBoundsException" 6 ∈ UW := uw_1 (i := 153) rfl rfl
theorem us_java_lang_Throwable_fillInStackTrace__I_Ljava_lang_Throwable__java_lang_IndexOutOfBoundsException : Cond.selects "java/lang/IndexOutOfBoundsException" ⟨"java/lang/Throwable", "fillInStackTrace", "(I)Ljava/lang/Throwable;"⟩ ⟨"java/lang/Throwable", "fillInStackTrace", "(I)Ljava/lang/Throwable;"⟩ ∈ UW := uw_1 (i := 161) rfl rfl
theorem us_java_lang_Throwable_fillInStackTrace___Ljava_lang_Throwable__java_lang_IndexOutOfBoundsException : Cond.selects "java/lang/IndexOutOfBoundsException" ⟨"java/lang/Throwable", "fillInStackTrace", "()Ljava/lang/Throwable;"⟩ ⟨"java/lang/Throwable", "fillInStackTrace", "()Ljava/lang/Throwable;"⟩ ∈ UW := uw_1 (i := 162) rfl rfl
theorem uf_java_lang_Throwable_198 : Cond.fieldLink "java/lang/Throwable" 198 "java/lang/Throwable" "backtrace" "Ljava/lang/Object;" ∈ UW := uw_1 (i := 173) rfl rfl
theorem ui_java_lang_Throwable__init____V : Cond.instanceMethod ⟨"java/lang/Throwable", "<init>", "()V"⟩ ∈ UW := uw_1 (i := 175) rfl rfl
theorem uc_java_lang_Throwable__init____V : Cond.code ⟨"java/lang/Throwable", "<init>", "()V"⟩ prog_16_method_1_code 1 (none : Option FieldType) ∈ UW := uw_1 (i := 176) rfl rfl
theorem um_java_lang_Throwable_1 : Cond.methodLink "java/lang/Throwable" 1 ⟨"java/lang/Object", "<init>", "()V"⟩ ∈ UW := uw_1 (i := 177) rfl rfl
theorem uf_java_lang_Throwable_13 : Cond.fieldLink "java/lang/Throwable" 13 "java/lang/Throwable" "UNASSIGNED_STACK" "[Ljava/lang/StackTraceElement;" ∈ UW := uw_1 (i := 178) rfl rfl
theorem uf_java_lang_Throwable_20 : Cond.fieldLink "java/lang/Throwable" 20 "java/lang/Throwable" "SUPPRESSED_SENTINEL" "Ljava/util/List;" ∈ UW := uw_1 (i := 180) rfl rfl
theorem um_java_lang_Throwable_27 : Cond.methodLink "java/lang/Throwable" 27 ⟨"java/lang/Throwable", "fillInStackTrace", "()Ljava/lang/Throwable;"⟩ ∈ UW := uw_1 (i := 182) rfl rfl
theorem ui_java_lang_Throwable_fillInStackTrace___Ljava_lang_Throwable_ : Cond.instanceMethod ⟨"java/lang/Throwable", "fillInStackTrace", "()Ljava/lang/Throwable;"⟩ ∈ UW := uw_1 (i := 183) rfl rfl
theorem us_java_lang_Throwable_fillInStackTrace___Ljava_lang_Throwable__java_lang_IllegalStateException : Cond.selects "java/lang/IllegalStateException" ⟨"java/lang/Throwable", "fillInStackTrace", "()Ljava/lang/Throwable;"⟩ ⟨"java/lang/Throwable", "fillInStackTrace", "()Ljava/lang/Throwable;"⟩ ∈ UW := uw_1 (i := 185) rfl rfl
theorem um_java_lang_Throwable_202 : Cond.methodLink "java/lang/Throwable" 202 ⟨"java/lang/Throwable", "fillInStackTrace", "(I)Ljava/lang/Throwable;"⟩ ∈ UW := uw_1 (i := 187) rfl rfl
theorem ui_java_lang_Throwable_fillInStackTrace__I_Ljava_lang_Throwable_ : Cond.instanceMethod ⟨"java/lang/Throwable", "fillInStackTrace", "(I)Ljava/lang/Throwable;"⟩ ∈ UW := uw_1 (i := 189) rfl rfl
theorem ux_java_lang_Throwable : Cond.instantiable "java/lang/Throwable" 6 ∈ UW := uw_1 (i := 190) rfl rfl
theorem uv_java_lang_Throwable_fillInStackTrace__I_Ljava_lang_Throwable_ : Cond.native ⟨"java/lang/Throwable", "fillInStackTrace", "(I)Ljava/lang/Throwable;"⟩ ∈ UW := uw_1 (i := 191) rfl rfl
theorem um_X2_197 : Cond.methodLink RX2 197 ⟨"java/lang/IndexOutOfBoundsException", "<init>", "(Ljava/lang/String;)V"⟩ ∈ UW := uw_1 (i := 193) rfl rfl
theorem ui_java_lang_IndexOutOfBoundsException__init___Ljava_lang_String__V : Cond.instanceMethod ⟨"java/lang/IndexOutOfBoundsException", "<init>", "(Ljava/lang/String;)V"⟩ ∈ UW := uw_1 (i := 194) rfl rfl
theorem uc_java_lang_IndexOutOfBoundsException__init___Ljava_lang_String__V : Cond.code ⟨"java/lang/IndexOutOfBoundsException", "<init>", "(Ljava/lang/String;)V"⟩ prog_10_method_2_code 2 (none : Option FieldType) ∈ UW := uw_1 (i := 195) rfl rfl
theorem um_java_lang_IndexOutOfBoundsException_7 : Cond.methodLink "java/lang/IndexOutOfBoundsException" 7 ⟨"java/lang/RuntimeException", "<init>", "(Ljava/lang/String;)V"⟩ ∈ UW := uw_1 (i := 196) rfl rfl
theorem ui_java_lang_RuntimeException__init___Ljava_lang_String__V : Cond.instanceMethod ⟨"java/lang/RuntimeException", "<init>", "(Ljava/lang/String;)V"⟩ ∈ UW := uw_1 (i := 197) rfl rfl
theorem uc_java_lang_RuntimeException__init___Ljava_lang_String__V : Cond.code ⟨"java/lang/RuntimeException", "<init>", "(Ljava/lang/String;)V"⟩ prog_13_method_2_code 2 (none : Option FieldType) ∈ UW := uw_1 (i := 198) rfl rfl
theorem um_java_lang_RuntimeException_7 : Cond.methodLink "java/lang/RuntimeException" 7 ⟨"java/lang/Exception", "<init>", "(Ljava/lang/String;)V"⟩ ∈ UW := uw_1 (i := 199) rfl rfl
theorem ui_java_lang_Exception__init___Ljava_lang_String__V : Cond.instanceMethod ⟨"java/lang/Exception", "<init>", "(Ljava/lang/String;)V"⟩ ∈ UW := uw_1 (i := 200) rfl rfl
theorem uc_java_lang_Exception__init___Ljava_lang_String__V : Cond.code ⟨"java/lang/Exception", "<init>", "(Ljava/lang/String;)V"⟩ prog_8_method_2_code 2 (none : Option FieldType) ∈ UW := uw_1 (i := 201) rfl rfl
theorem um_java_lang_Exception_7 : Cond.methodLink "java/lang/Exception" 7 ⟨"java/lang/Throwable", "<init>", "(Ljava/lang/String;)V"⟩ ∈ UW := uw_1 (i := 202) rfl rfl
theorem ui_java_lang_Throwable__init___Ljava_lang_String__V : Cond.instanceMethod ⟨"java/lang/Throwable", "<init>", "(Ljava/lang/String;)V"⟩ ∈ UW := uw_1 (i := 203) rfl rfl
theorem uc_java_lang_Throwable__init___Ljava_lang_String__V : Cond.code ⟨"java/lang/Throwable", "<init>", "(Ljava/lang/String;)V"⟩ prog_16_method_2_code 2 (none : Option FieldType) ∈ UW := uw_1 (i := 204) rfl rfl
theorem uf_java_lang_Throwable_31 : Cond.fieldLink "java/lang/Throwable" 31 "java/lang/Throwable" "detailMessage" "Ljava/lang/String;" ∈ UW := uw_1 (i := 206) rfl rfl
theorem uf_java_lang_Throwable_7 : Cond.fieldLink "java/lang/Throwable" 7 "java/lang/Throwable" "cause" "Ljava/lang/Throwable;" ∈ UW := uw_1 (i := 207) rfl rfl
theorem uf_java_lang_Throwable_17 : Cond.fieldLink "java/lang/Throwable" 17 "java/lang/Throwable" "stackTrace" "[Ljava/lang/StackTraceElement;" ∈ UW := uw_1 (i := 208) rfl rfl
theorem uf_java_lang_Throwable_24 : Cond.fieldLink "java/lang/Throwable" 24 "java/lang/Throwable" "suppressedExceptions" "Ljava/util/List;" ∈ UW := uw_1 (i := 209) rfl rfl
theorem uz_arrayClass_1_218 : (Cond.arrayClass FieldType.byte) ∈ UW := uw_1 (i := 218) rfl rfl
theorem um_X2_38 : Cond.methodLink RX2 38 yX2_hasFailureInView ∈ UW := uw_1 (i := 219) rfl rfl
theorem ui_X2_hasFailureInView : Cond.instanceMethod yX2_hasFailureInView ∈ UW := uw_1 (i := 221) rfl rfl
theorem uc_X2_hasFailureInView : Cond.code yX2_hasFailureInView cX2_hasFailureInView 2 (some FieldType.boolean) ∈ UW := uw_1 (i := 222) rfl rfl
theorem ul_X2_46 : Cond.classLink RX2 46 "java/lang/IllegalStateException" ∈ UW := uw_1 (i := 223) rfl rfl
theorem ux_java_lang_IllegalStateException : Cond.instantiable "java/lang/IllegalStateException" 6 ∈ UW := uw_1 (i := 224) rfl rfl
theorem us_java_lang_Throwable_fillInStackTrace__I_Ljava_lang_Throwable__java_lang_IllegalStateException : Cond.selects "java/lang/IllegalStateException" ⟨"java/lang/Throwable", "fillInStackTrace", "(I)Ljava/lang/Throwable;"⟩ ⟨"java/lang/Throwable", "fillInStackTrace", "(I)Ljava/lang/Throwable;"⟩ ∈ UW := uw_1 (i := 226) rfl rfl
theorem um_X2_50 : Cond.methodLink RX2 50 ⟨"java/lang/IllegalStateException", "<init>", "(Ljava/lang/String;)V"⟩ ∈ UW := uw_1 (i := 233) rfl rfl
theorem ui_java_lang_IllegalStateException__init___Ljava_lang_String__V : Cond.instanceMethod ⟨"java/lang/IllegalStateException", "<init>", "(Ljava/lang/String;)V"⟩ ∈ UW := uw_1 (i := 234) rfl rfl
theorem uc_java_lang_IllegalStateException__init___Ljava_lang_String__V : Cond.code ⟨"java/lang/IllegalStateException", "<init>", "(Ljava/lang/String;)V"⟩ prog_9_method_2_code 2 (none : Option FieldType) ∈ UW := uw_1 (i := 235) rfl rfl
theorem um_java_lang_IllegalStateException_7 : Cond.methodLink "java/lang/IllegalStateException" 7 ⟨"java/lang/RuntimeException", "<init>", "(Ljava/lang/String;)V"⟩ ∈ UW := uw_1 (i := 236) rfl rfl
theorem ul_X2_53 : Cond.classLink RX2 53 RX1 ∈ UW := uw_1 (i := 239) rfl rfl
theorem ux_X1 : Cond.instantiable RX1 10 ∈ UW := uw_2 (i := 0) rfl rfl
theorem um_X2_58 : Cond.methodLink RX2 58 yX1_init ∈ UW := uw_2 (i := 1) rfl rfl
theorem ui_X1_init : Cond.instanceMethod yX1_init ∈ UW := uw_2 (i := 2) rfl rfl
theorem uc_X1_init : Cond.code yX1_init cX1_init 4 (none : Option FieldType) ∈ UW := uw_2 (i := 3) rfl rfl
theorem um_X1_3 : Cond.methodLink RX1 3 ⟨"java/lang/Object", "<init>", "()V"⟩ ∈ UW := uw_2 (i := 4) rfl rfl
theorem um_X1_34 : Cond.methodLink RX1 34 yJ7_fill_53178 ∈ UW := uw_2 (i := 5) rfl rfl
theorem ut_J7_fill_53178 : Cond.static yJ7_fill_53178 ∈ UW := uw_2 (i := 6) rfl rfl
theorem uc_J7_fill_53178 : Cond.code yJ7_fill_53178 cJ7_fill_53178 4 (none : Option FieldType) ∈ UW := uw_2 (i := 7) rfl rfl
theorem uf_X1_9 : Cond.fieldLink RX1 9 "Causewaymail$Message" "id" "I" ∈ UW := uw_2 (i := 8) rfl rfl
theorem uf_X2_89 : Cond.fieldLink RX2 89 "Causewaymail$Message" "id" "I" ∈ UW := uw_2 (i := 9) rfl rfl
theorem uf_X1_15 : Cond.fieldLink RX1 15 "Causewaymail$Message" "sender" "I" ∈ UW := uw_2 (i := 10) rfl rfl
theorem uf_X0_41 : Cond.fieldLink RX0 41 "Causewaymail$Message" "sender" "I" ∈ UW := uw_2 (i := 11) rfl rfl
theorem uf_X2_117 : Cond.fieldLink RX2 117 "Causewaymail$Message" "sender" "I" ∈ UW := uw_2 (i := 12) rfl rfl
theorem uf_X1_18 : Cond.fieldLink RX1 18 "Causewaymail$Message" "historyLength" "I" ∈ UW := uw_2 (i := 13) rfl rfl
theorem uf_X1_21 : Cond.fieldLink RX1 21 "Causewaymail$Message" "stamp" "[I" ∈ UW := uw_2 (i := 14) rfl rfl
theorem uf_X0_36 : Cond.fieldLink RX0 36 "Causewaymail$Message" "stamp" "[I" ∈ UW := uw_2 (i := 15) rfl rfl
theorem uf_X2_77 : Cond.fieldLink RX2 77 "Causewaymail$Message" "stamp" "[I" ∈ UW := uw_2 (i := 16) rfl rfl
theorem uf_X1_25 : Cond.fieldLink RX1 25 "Causewaymail$Message" "copies" "[I" ∈ UW := uw_2 (i := 17) rfl rfl
theorem uf_X2_101 : Cond.fieldLink RX2 101 "Causewaymail$Message" "copies" "[I" ∈ UW := uw_2 (i := 18) rfl rfl
theorem uf_X1_28 : Cond.fieldLink RX1 28 "Causewaymail$Message" "proposals" "[I" ∈ UW := uw_2 (i := 19) rfl rfl
theorem uf_X2_165 : Cond.fieldLink RX2 165 "Causewaymail$Message" "proposals" "[I" ∈ UW := uw_2 (i := 20) rfl rfl
theorem uf_X1_31 : Cond.fieldLink RX1 31 "Causewaymail$Message" "places" "[I" ∈ UW := uw_2 (i := 21) rfl rfl
theorem uf_X2_218 : Cond.fieldLink RX2 218 "Causewaymail$Message" "places" "[I" ∈ UW := uw_2 (i := 22) rfl rfl
theorem uf_X1_40 : Cond.fieldLink RX1 40 "Causewaymail$Message" "number" "I" ∈ UW := uw_2 (i := 23) rfl rfl
theorem uf_X2_156 : Cond.fieldLink RX2 156 "Causewaymail$Message" "number" "I" ∈ UW := uw_2 (i := 24) rfl rfl
theorem uf_X1_43 : Cond.fieldLink RX1 43 "Causewaymail$Message" "agreement" "I" ∈ UW := uw_2 (i := 25) rfl rfl
theorem uf_X2_168 : Cond.fieldLink RX2 168 "Causewaymail$Message" "agreement" "I" ∈ UW := uw_2 (i := 26) rfl rfl
theorem uf_X2_252 : Cond.fieldLink RX2 252 "Causewaymail$Message" "dropped" "Z" ∈ UW := uw_2 (i := 27) rfl rfl
theorem um_X2_61 : Cond.methodLink RX2 61 yJx4a65c_add_9ea2d ∈ UW := uw_2 (i := 49) rfl rfl
theorem ui_Jx4a65c_add_9ea2d : Cond.instanceMethod yJx4a65c_add_9ea2d ∈ UW := uw_2 (i := 50) rfl rfl
theorem us_Jx4a65c_add_9ea2d : Cond.selects RJx4a65c yJx4a65c_add_9ea2d yJx4a65c_add_9ea2d ∈ UW := uw_2 (i := 51) rfl rfl
theorem uc_Jx4a65c_add_9ea2d : Cond.code yJx4a65c_add_9ea2d cJx4a65c_add_9ea2d 2 (some FieldType.boolean) ∈ UW := uw_2 (i := 52) rfl rfl
theorem um_Jx4a65c_131 : Cond.methodLink RJx4a65c 131 yJx4a65c_add_72be8 ∈ UW := uw_2 (i := 53) rfl rfl
theorem ui_Jx4a65c_add_72be8 : Cond.instanceMethod yJx4a65c_add_72be8 ∈ UW := uw_2 (i := 55) rfl rfl
theorem uc_Jx4a65c_add_72be8 : Cond.code yJx4a65c_add_72be8 cJx4a65c_add_72be8 4 (none : Option FieldType) ∈ UW := uw_2 (i := 56) rfl rfl
theorem um_Jx4a65c_129 : Cond.methodLink RJx4a65c 129 yJx4a65c_grow_d5877 ∈ UW := uw_2 (i := 57) rfl rfl
theorem ui_Jx4a65c_grow_d5877 : Cond.instanceMethod yJx4a65c_grow_d5877 ∈ UW := uw_2 (i := 59) rfl rfl
theorem uc_Jx4a65c_grow_d5877 : Cond.code yJx4a65c_grow_d5877 cJx4a65c_grow_d5877 1 (some (FieldType.array (FieldType.object "java/lang/Object"))) ∈ UW := uw_2 (i := 60) rfl rfl
theorem um_Jx4a65c_69 : Cond.methodLink RJx4a65c 69 yJx4a65c_grow_92f84 ∈ UW := uw_2 (i := 61) rfl rfl
theorem ui_Jx4a65c_grow_92f84 : Cond.instanceMethod yJx4a65c_grow_92f84 ∈ UW := uw_2 (i := 63) rfl rfl
theorem uc_Jx4a65c_grow_92f84 : Cond.code yJx4a65c_grow_92f84 cJx4a65c_grow_92f84 4 (some (FieldType.array (FieldType.object "java/lang/Object"))) ∈ UW := uw_2 (i := 64) rfl rfl
theorem um_Jx4a65c_73 : Cond.methodLink RJx4a65c 73 yJ8_newLength_cabcc ∈ UW := uw_2 (i := 65) rfl rfl
theorem ut_J8_newLength_cabcc : Cond.static yJ8_newLength_cabcc ∈ UW := uw_2 (i := 66) rfl rfl
theorem uc_J8_newLength_cabcc : Cond.code yJ8_newLength_cabcc cJ8_newLength_cabcc 4 (some FieldType.int) ∈ UW := uw_2 (i := 67) rfl rfl
theorem um_J8_194 : Cond.methodLink RJ8 194 yJ9_max_7cf53 ∈ UW := uw_2 (i := 68) rfl rfl
theorem ut_J9_max_7cf53 : Cond.static yJ9_max_7cf53 ∈ UW := uw_2 (i := 69) rfl rfl
theorem uc_J9_max_7cf53 : Cond.code yJ9_max_7cf53 cJ9_max_7cf53 2 (some FieldType.int) ∈ UW := uw_2 (i := 70) rfl rfl
theorem uz_constant_2_71 : (Cond.constant "jdk/internal/util/ArraysSupport" 200 2147483639) ∈ UW := uw_2 (i := 71) rfl rfl
theorem um_J8_201 : Cond.methodLink RJ8 201 yJ8_hugeLength_7cf53 ∈ UW := uw_2 (i := 72) rfl rfl
theorem ut_J8_hugeLength_7cf53 : Cond.static yJ8_hugeLength_7cf53 ∈ UW := uw_2 (i := 73) rfl rfl
theorem uc_J8_hugeLength_7cf53 : Cond.code yJ8_hugeLength_7cf53 cJ8_hugeLength_7cf53 3 (some FieldType.int) ∈ UW := uw_2 (i := 74) rfl rfl
theorem um_Jx4a65c_66 : Cond.methodLink RJx4a65c 66 yJ7_copyOf_1904c ∈ UW := uw_2 (i := 75) rfl rfl
theorem ut_J7_copyOf_1904c : Cond.static yJ7_copyOf_1904c ∈ UW := uw_2 (i := 76) rfl rfl
theorem uc_J7_copyOf_1904c : Cond.code yJ7_copyOf_1904c cJ7_copyOf_1904c 2 (some (FieldType.array (FieldType.object "java/lang/Object"))) ∈ UW := uw_2 (i := 77) rfl rfl
theorem um_J7_86 : Cond.methodLink RJ7 86 ⟨"java/lang/Object", "getClass", "()Ljava/lang/Class;"⟩ ∈ UW := uw_2 (i := 78) rfl rfl
theorem ui_java_lang_Object_getClass___Ljava_lang_Class_ : Cond.instanceMethod ⟨"java/lang/Object", "getClass", "()Ljava/lang/Class;"⟩ ∈ UW := uw_2 (i := 79) rfl rfl
theorem us_java_lang_Object_getClass___Ljava_lang_Class__Causewaymail : Cond.selects RX2 ⟨"java/lang/Object", "getClass", "()Ljava/lang/Class;"⟩ ⟨"java/lang/Object", "getClass", "()Ljava/lang/Class;"⟩ ∈ UW := uw_2 (i := 81) rfl rfl
theorem us_java_lang_Object_getClass___Ljava_lang_Class__Causewaymail_Member : Cond.selects RX0 ⟨"java/lang/Object", "getClass", "()Ljava/lang/Class;"⟩ ⟨"java/lang/Object", "getClass", "()Ljava/lang/Class;"⟩ ∈ UW := uw_2 (i := 82) rfl rfl
theorem us_java_lang_Object_getClass___Ljava_lang_Class__Causewaymail_Message : Cond.selects RX1 ⟨"java/lang/Object", "getClass", "()Ljava/lang/Class;"⟩ ⟨"java/lang/Object", "getClass", "()Ljava/lang/Class;"⟩ ∈ UW := uw_2 (i := 83) rfl rfl
theorem us_java_lang_Object_getClass___Ljava_lang_Class__CausewaymailModel : Cond.selects RX3 ⟨"java/lang/Object", "getClass", "()Ljava/lang/Class;"⟩ ⟨"java/lang/Object", "getClass", "()Ljava/lang/Class;"⟩ ∈ UW := uw_2 (i := 84) rfl rfl
theorem us_java_lang_Object_getClass___Ljava_lang_Class__java_lang_IllegalStateException : Cond.selects "java/lang/IllegalStateException" ⟨"java/lang/Object", "getClass", "()Ljava/lang/Class;"⟩ ⟨"java/lang/Object", "getClass", "()Ljava/lang/Class;"⟩ ∈ UW := uw_2 (i := 85) rfl rfl
theorem us_java_lang_Object_getClass___Ljava_lang_Class__java_lang_IndexOutOfBoundsException : Cond.selects "java/lang/IndexOutOfBoundsException" ⟨"java/lang/Object", "getClass", "()Ljava/lang/Class;"⟩ ⟨"java/lang/Object", "getClass", "()Ljava/lang/Class;"⟩ ∈ UW := uw_2 (i := 86) rfl rfl
theorem us_java_lang_Object_getClass___Ljava_lang_Class__java_util_ArrayList : Cond.selects RJx4a65c ⟨"java/lang/Object", "getClass", "()Ljava/lang/Class;"⟩ ⟨"java/lang/Object", "getClass", "()Ljava/lang/Class;"⟩ ∈ UW := uw_2 (i := 87) rfl rfl
theorem uv_java_lang_Object_getClass___Ljava_lang_Class_ : Cond.native ⟨"java/lang/Object", "getClass", "()Ljava/lang/Class;"⟩ ∈ UW := uw_2 (i := 88) rfl rfl
theorem um_J7_300 : Cond.methodLink RJ7 300 yJ7_copyOf_6403c ∈ UW := uw_2 (i := 89) rfl rfl
theorem ut_J7_copyOf_6403c : Cond.static yJ7_copyOf_6403c ∈ UW := uw_2 (i := 90) rfl rfl
theorem uc_J7_copyOf_6403c : Cond.code yJ7_copyOf_6403c cJ7_copyOf_6403c 4 (some (FieldType.array (FieldType.object "java/lang/Object"))) ∈ UW := uw_2 (i := 91) rfl rfl
theorem ul_J7_110 : Cond.classLink RJ7 110 "[Ljava/lang/Object;" ∈ UW := uw_2 (i := 92) rfl rfl
theorem ul_J7_2 : Cond.classLink RJ7 2 "java/lang/Object" ∈ UW := uw_2 (i := 94) rfl rfl
theorem um_J7_304 : Cond.methodLink RJ7 304 yJ9_min_7cf53 ∈ UW := uw_2 (i := 95) rfl rfl
theorem ut_J9_min_7cf53 : Cond.static yJ9_min_7cf53 ∈ UW := uw_2 (i := 96) rfl rfl
theorem uc_J9_min_7cf53 : Cond.code yJ9_min_7cf53 cJ9_min_7cf53 2 (some FieldType.int) ∈ UW := uw_2 (i := 97) rfl rfl
theorem um_J7_150 : Cond.methodLink RJ7 150 ⟨"java/lang/System", "arraycopy", "(Ljava/lang/Object;ILjava/lang/Object;II)V"⟩ ∈ UW := uw_2 (i := 98) rfl rfl
theorem ut_java_lang_System_arraycopy__Ljava_lang_Object_ILjava_lang_Object_II_V : Cond.static ⟨"java/lang/System", "arraycopy", "(Ljava/lang/Object;ILjava/lang/Object;II)V"⟩ ∈ UW := uw_2 (i := 99) rfl rfl
theorem uv_java_lang_System_arraycopy__Ljava_lang_Object_ILjava_lang_Object_II_V : Cond.native ⟨"java/lang/System", "arraycopy", "(Ljava/lang/Object;ILjava/lang/Object;II)V"⟩ ∈ UW := uw_2 (i := 100) rfl rfl
theorem um_Jx4a65c_79 : Cond.methodLink RJx4a65c 79 yJ9_max_7cf53 ∈ UW := uw_2 (i := 101) rfl rfl
theorem ul_Jx4a65c_7 : Cond.classLink RJx4a65c 7 "java/lang/Object" ∈ UW := uw_2 (i := 102) rfl rfl
theorem um_X2_65 : Cond.methodLink RX2 65 yX2_putOnWay ∈ UW := uw_2 (i := 103) rfl rfl
theorem ui_X2_putOnWay : Cond.instanceMethod yX2_putOnWay ∈ UW := uw_2 (i := 105) rfl rfl
theorem uc_X2_putOnWay : Cond.code yX2_putOnWay cX2_putOnWay 3 (none : Option FieldType) ∈ UW := uw_2 (i := 106) rfl rfl
theorem um_X2_69 : Cond.methodLink RX2 69 yX2_deliver ∈ UW := uw_2 (i := 107) rfl rfl
theorem ui_X2_deliver : Cond.instanceMethod yX2_deliver ∈ UW := uw_2 (i := 109) rfl rfl
theorem uc_X2_deliver : Cond.code yX2_deliver cX2_deliver 3 (none : Option FieldType) ∈ UW := uw_2 (i := 110) rfl rfl
theorem um_X2_221 : Cond.methodLink RX2 221 yX2_giveNumber ∈ UW := uw_2 (i := 111) rfl rfl
theorem ui_X2_giveNumber : Cond.instanceMethod yX2_giveNumber ∈ UW := uw_2 (i := 113) rfl rfl
theorem uc_X2_giveNumber : Cond.code yX2_giveNumber cX2_giveNumber 2 (none : Option FieldType) ∈ UW := uw_2 (i := 114) rfl rfl
theorem um_X2_80 : Cond.methodLink RX2 80 ⟨"java/lang/System", "arraycopy", "(Ljava/lang/Object;ILjava/lang/Object;II)V"⟩ ∈ UW := uw_2 (i := 115) rfl rfl
theorem um_X2_86 : Cond.methodLink RX2 86 yX2_propose ∈ UW := uw_2 (i := 116) rfl rfl
theorem ui_X2_propose : Cond.instanceMethod yX2_propose ∈ UW := uw_2 (i := 118) rfl rfl
theorem uc_X2_propose : Cond.code yX2_propose cX2_propose 4 (none : Option FieldType) ∈ UW := uw_2 (i := 119) rfl rfl
theorem um_X2_239 : Cond.methodLink RX2 239 yJ9_max_7cf53 ∈ UW := uw_2 (i := 120) rfl rfl
theorem um_X2_242 : Cond.methodLink RX2 242 yX2_hasAllProposals ∈ UW := uw_2 (i := 121) rfl rfl
theorem ui_X2_hasAllProposals : Cond.instanceMethod yX2_hasAllProposals ∈ UW := uw_2 (i := 123) rfl rfl
theorem uc_X2_hasAllProposals : Cond.code yX2_hasAllProposals cX2_hasAllProposals 3 (some FieldType.boolean) ∈ UW := uw_2 (i := 124) rfl rfl
theorem um_X2_245 : Cond.methodLink RX2 245 yX1_greatestProposal ∈ UW := uw_2 (i := 125) rfl rfl
theorem ui_X1_greatestProposal : Cond.instanceMethod yX1_greatestProposal ∈ UW := uw_2 (i := 126) rfl rfl
theorem us_X1_greatestProposal : Cond.selects RX1 yX1_greatestProposal yX1_greatestProposal ∈ UW := uw_2 (i := 127) rfl rfl
theorem uc_X1_greatestProposal : Cond.code yX1_greatestProposal cX1_greatestProposal 3 (some FieldType.int) ∈ UW := uw_2 (i := 128) rfl rfl
theorem um_X1_46 : Cond.methodLink RX1 46 yJ9_max_7cf53 ∈ UW := uw_2 (i := 129) rfl rfl
theorem um_X2_248 : Cond.methodLink RX2 248 yX2_agreeOn ∈ UW := uw_2 (i := 130) rfl rfl
theorem ui_X2_agreeOn : Cond.instanceMethod yX2_agreeOn ∈ UW := uw_2 (i := 132) rfl rfl
theorem uc_X2_agreeOn : Cond.code yX2_agreeOn cX2_agreeOn 3 (none : Option FieldType) ∈ UW := uw_2 (i := 133) rfl rfl
theorem um_L_114 : Cond.methodLink RL 114 yL_arrive ∈ UW := uw_2 (i := 134) rfl rfl
theorem ut_L_arrive : Cond.static yL_arrive ∈ UW := uw_2 (i := 135) rfl rfl
theorem uw_L_arrive : Cond.codeWith yL_arrive cL_arrive 5 (some FieldType.int) [(0, 10, 13, 13), (0, 10, 17, 15)] ∈ UW := uw_2 (i := 136) rfl rfl
theorem um_L_17 : Cond.methodLink RL 17 yX2_arrive ∈ UW := uw_2 (i := 137) rfl rfl
theorem ui_X2_arrive : Cond.instanceMethod yX2_arrive ∈ UW := uw_2 (i := 138) rfl rfl
theorem us_X2_arrive : Cond.selects RX2 yX2_arrive yX2_arrive ∈ UW := uw_2 (i := 139) rfl rfl
theorem uc_X2_arrive : Cond.code yX2_arrive cX2_arrive 3 (some FieldType.int) ∈ UW := uw_2 (i := 140) rfl rfl
theorem um_X2_93 : Cond.methodLink RX2 93 yX2_requireCopy ∈ UW := uw_2 (i := 141) rfl rfl
theorem ui_X2_requireCopy : Cond.instanceMethod yX2_requireCopy ∈ UW := uw_2 (i := 143) rfl rfl
theorem uc_X2_requireCopy : Cond.code yX2_requireCopy cX2_requireCopy 3 (none : Option FieldType) ∈ UW := uw_2 (i := 144) rfl rfl
theorem um_X2_114 : Cond.methodLink RX2 114 yX2_requireMessage ∈ UW := uw_2 (i := 145) rfl rfl
theorem ui_X2_requireMessage : Cond.instanceMethod yX2_requireMessage ∈ UW := uw_2 (i := 147) rfl rfl
theorem uc_X2_requireMessage : Cond.code yX2_requireMessage cX2_requireMessage 2 (none : Option FieldType) ∈ UW := uw_2 (i := 148) rfl rfl
theorem um_X2_97 : Cond.methodLink RX2 97 yJx4a65c_get_915e3 ∈ UW := uw_2 (i := 150) rfl rfl
theorem ui_Jx4a65c_get_915e3 : Cond.instanceMethod yJx4a65c_get_915e3 ∈ UW := uw_2 (i := 151) rfl rfl
theorem us_Jx4a65c_get_915e3 : Cond.selects RJx4a65c yJx4a65c_get_915e3 yJx4a65c_get_915e3 ∈ UW := uw_2 (i := 152) rfl rfl
theorem uc_Jx4a65c_get_915e3 : Cond.code yJx4a65c_get_915e3 cJx4a65c_get_915e3 2 (some (FieldType.object "java/lang/Object")) ∈ UW := uw_2 (i := 153) rfl rfl
theorem um_Jx4a65c_118 : Cond.methodLink RJx4a65c 118 yJ15_checkIndex_7cf53 ∈ UW := uw_2 (i := 154) rfl rfl
theorem ut_J15_checkIndex_7cf53 : Cond.static yJ15_checkIndex_7cf53 ∈ UW := uw_2 (i := 155) rfl rfl
theorem uc_J15_checkIndex_7cf53 : Cond.code yJ15_checkIndex_7cf53 cJ15_checkIndex_7cf53 2 (some FieldType.int) ∈ UW := uw_2 (i := 156) rfl rfl
theorem um_J15_105 : Cond.methodLink RJ15 105 yJ3_checkIndex_8e157 ∈ UW := uw_2 (i := 157) rfl rfl
theorem ut_J3_checkIndex_8e157 : Cond.static yJ3_checkIndex_8e157 ∈ UW := uw_2 (i := 158) rfl rfl
theorem uc_J3_checkIndex_8e157 : Cond.code yJ3_checkIndex_8e157 cJ3_checkIndex_8e157 3 (some FieldType.int) ∈ UW := uw_2 (i := 159) rfl rfl
theorem um_Jx4a65c_123 : Cond.methodLink RJx4a65c 123 yJx4a65c_elementData_915e3 ∈ UW := uw_2 (i := 160) rfl rfl
theorem ui_Jx4a65c_elementData_915e3 : Cond.instanceMethod yJx4a65c_elementData_915e3 ∈ UW := uw_2 (i := 161) rfl rfl
theorem us_Jx4a65c_elementData_915e3 : Cond.selects RJx4a65c yJx4a65c_elementData_915e3 yJx4a65c_elementData_915e3 ∈ UW := uw_2 (i := 162) rfl rfl
theorem uc_Jx4a65c_elementData_915e3 : Cond.code yJx4a65c_elementData_915e3 cJx4a65c_elementData_915e3 2 (some (FieldType.object "java/lang/Object")) ∈ UW := uw_2 (i := 163) rfl rfl
theorem um_X2_106 : Cond.methodLink RX2 106 yX2_takeIn ∈ UW := uw_2 (i := 165) rfl rfl
theorem ui_X2_takeIn : Cond.instanceMethod yX2_takeIn ∈ UW := uw_2 (i := 167) rfl rfl
theorem uc_X2_takeIn : Cond.code yX2_takeIn cX2_takeIn 3 (some FieldType.int) ∈ UW := uw_2 (i := 168) rfl rfl
theorem um_X2_205 : Cond.methodLink RX2 205 yX0_canReceive ∈ UW := uw_2 (i := 169) rfl rfl
theorem ui_X0_canReceive : Cond.instanceMethod yX0_canReceive ∈ UW := uw_2 (i := 170) rfl rfl
theorem us_X0_canReceive : Cond.selects RX0 yX0_canReceive yX0_canReceive ∈ UW := uw_2 (i := 171) rfl rfl
theorem uc_X0_canReceive : Cond.code yX0_canReceive cX0_canReceive 4 (some FieldType.boolean) ∈ UW := uw_2 (i := 172) rfl rfl
theorem um_X2_209 : Cond.methodLink RX2 209 yX2_deliverHeld ∈ UW := uw_2 (i := 173) rfl rfl
theorem ui_X2_deliverHeld : Cond.instanceMethod yX2_deliverHeld ∈ UW := uw_2 (i := 175) rfl rfl
theorem uc_X2_deliverHeld : Cond.code yX2_deliverHeld cX2_deliverHeld 5 (some FieldType.int) ∈ UW := uw_2 (i := 176) rfl rfl
theorem um_X2_212 : Cond.methodLink RX2 212 yX0_firstReceivable ∈ UW := uw_2 (i := 177) rfl rfl
theorem ui_X0_firstReceivable : Cond.instanceMethod yX0_firstReceivable ∈ UW := uw_2 (i := 178) rfl rfl
theorem us_X0_firstReceivable : Cond.selects RX0 yX0_firstReceivable yX0_firstReceivable ∈ UW := uw_2 (i := 179) rfl rfl
theorem uc_X0_firstReceivable : Cond.code yX0_firstReceivable cX0_firstReceivable 2 (some FieldType.int) ∈ UW := uw_2 (i := 180) rfl rfl
theorem um_X0_44 : Cond.methodLink RX0 44 yJx4a65c_size_8abf5 ∈ UW := uw_2 (i := 181) rfl rfl
theorem um_X0_48 : Cond.methodLink RX0 48 yJx4a65c_get_915e3 ∈ UW := uw_2 (i := 182) rfl rfl
theorem ul_X0_37 : Cond.classLink RX0 37 RX1 ∈ UW := uw_2 (i := 183) rfl rfl
theorem um_X0_52 : Cond.methodLink RX0 52 yX0_canReceive ∈ UW := uw_2 (i := 184) rfl rfl
theorem um_X2_215 : Cond.methodLink RX2 215 yJx4a65c_remove_915e3 ∈ UW := uw_2 (i := 185) rfl rfl
theorem ui_Jx4a65c_remove_915e3 : Cond.instanceMethod yJx4a65c_remove_915e3 ∈ UW := uw_2 (i := 186) rfl rfl
theorem us_Jx4a65c_remove_915e3 : Cond.selects RJx4a65c yJx4a65c_remove_915e3 yJx4a65c_remove_915e3 ∈ UW := uw_2 (i := 187) rfl rfl
theorem uc_Jx4a65c_remove_915e3 : Cond.code yJx4a65c_remove_915e3 cJx4a65c_remove_915e3 4 (some (FieldType.object "java/lang/Object")) ∈ UW := uw_2 (i := 188) rfl rfl
theorem um_Jx4a65c_144 : Cond.methodLink RJx4a65c 144 yJx4a65c_fastRemove_b59b0 ∈ UW := uw_2 (i := 189) rfl rfl
theorem ui_Jx4a65c_fastRemove_b59b0 : Cond.instanceMethod yJx4a65c_fastRemove_b59b0 ∈ UW := uw_2 (i := 191) rfl rfl
theorem uc_Jx4a65c_fastRemove_b59b0 : Cond.code yJx4a65c_fastRemove_b59b0 cJx4a65c_fastRemove_b59b0 4 (none : Option FieldType) ∈ UW := uw_2 (i := 192) rfl rfl
theorem um_Jx4a65c_112 : Cond.methodLink RJx4a65c 112 ⟨"java/lang/System", "arraycopy", "(Ljava/lang/Object;ILjava/lang/Object;II)V"⟩ ∈ UW := uw_2 (i := 193) rfl rfl
theorem um_L_118 : Cond.methodLink RL 118 yL_lose ∈ UW := uw_2 (i := 194) rfl rfl
theorem ut_L_lose : Cond.static yL_lose ∈ UW := uw_2 (i := 195) rfl rfl
theorem uw_L_lose : Cond.codeWith yL_lose cL_lose 4 (some FieldType.int) [(0, 6, 9, 13), (0, 6, 12, 15)] ∈ UW := uw_2 (i := 196) rfl rfl
theorem um_L_21 : Cond.methodLink RL 21 yX2_lose ∈ UW := uw_2 (i := 197) rfl rfl
theorem ui_X2_lose : Cond.instanceMethod yX2_lose ∈ UW := uw_2 (i := 198) rfl rfl
theorem us_X2_lose : Cond.selects RX2 yX2_lose yX2_lose ∈ UW := uw_2 (i := 199) rfl rfl
theorem uc_X2_lose : Cond.code yX2_lose cX2_lose 3 (none : Option FieldType) ∈ UW := uw_2 (i := 200) rfl rfl
theorem um_L_122 : Cond.methodLink RL 122 yL_sendAgain ∈ UW := uw_2 (i := 202) rfl rfl
theorem ut_L_sendAgain : Cond.static yL_sendAgain ∈ UW := uw_2 (i := 203) rfl rfl
theorem uw_L_sendAgain : Cond.codeWith yL_sendAgain cL_sendAgain 4 (some FieldType.int) [(0, 6, 9, 13), (0, 6, 12, 15)] ∈ UW := uw_2 (i := 204) rfl rfl
theorem um_L_25 : Cond.methodLink RL 25 yX2_sendAgain ∈ UW := uw_2 (i := 205) rfl rfl
theorem ui_X2_sendAgain : Cond.instanceMethod yX2_sendAgain ∈ UW := uw_2 (i := 206) rfl rfl
theorem us_X2_sendAgain : Cond.selects RX2 yX2_sendAgain yX2_sendAgain ∈ UW := uw_2 (i := 207) rfl rfl
theorem uc_X2_sendAgain : Cond.code yX2_sendAgain cX2_sendAgain 3 (none : Option FieldType) ∈ UW := uw_2 (i := 208) rfl rfl
theorem um_L_129 : Cond.methodLink RL 129 yL_sender ∈ UW := uw_2 (i := 210) rfl rfl
theorem ut_L_sender : Cond.static yL_sender ∈ UW := uw_2 (i := 211) rfl rfl
theorem uw_L_sender : Cond.codeWith yL_sender cL_sender 4 (some FieldType.int) [(0, 9, 12, 13)] ∈ UW := uw_2 (i := 212) rfl rfl
theorem um_L_28 : Cond.methodLink RL 28 yX2_sender ∈ UW := uw_2 (i := 213) rfl rfl
theorem ui_X2_sender : Cond.instanceMethod yX2_sender ∈ UW := uw_2 (i := 214) rfl rfl
theorem us_X2_sender : Cond.selects RX2 yX2_sender yX2_sender ∈ UW := uw_2 (i := 215) rfl rfl
theorem uc_X2_sender : Cond.code yX2_sender cX2_sender 2 (some FieldType.int) ∈ UW := uw_2 (i := 216) rfl rfl
theorem um_L_132 : Cond.methodLink RL 132 yL_copy ∈ UW := uw_2 (i := 217) rfl rfl
theorem ut_L_copy : Cond.static yL_copy ∈ UW := uw_2 (i := 218) rfl rfl
theorem uw_L_copy : Cond.codeWith yL_copy cL_copy 5 (some FieldType.int) [(0, 10, 13, 13)] ∈ UW := uw_2 (i := 219) rfl rfl
theorem um_L_31 : Cond.methodLink RL 31 yX2_copy ∈ UW := uw_2 (i := 220) rfl rfl
theorem ui_X2_copy : Cond.instanceMethod yX2_copy ∈ UW := uw_2 (i := 221) rfl rfl
theorem us_X2_copy : Cond.selects RX2 yX2_copy yX2_copy ∈ UW := uw_2 (i := 222) rfl rfl
theorem uc_X2_copy : Cond.code yX2_copy cX2_copy 3 (some FieldType.int) ∈ UW := uw_2 (i := 223) rfl rfl
theorem um_L_135 : Cond.methodLink RL 135 yL_clock ∈ UW := uw_2 (i := 224) rfl rfl
theorem ut_L_clock : Cond.static yL_clock ∈ UW := uw_2 (i := 225) rfl rfl
theorem uw_L_clock : Cond.codeWith yL_clock cL_clock 5 (some FieldType.int) [(0, 10, 13, 13)] ∈ UW := uw_2 (i := 226) rfl rfl
theorem um_L_34 : Cond.methodLink RL 34 yX2_clock ∈ UW := uw_2 (i := 227) rfl rfl
theorem ui_X2_clock : Cond.instanceMethod yX2_clock ∈ UW := uw_2 (i := 228) rfl rfl
theorem us_X2_clock : Cond.selects RX2 yX2_clock yX2_clock ∈ UW := uw_2 (i := 229) rfl rfl
theorem uc_X2_clock : Cond.code yX2_clock cX2_clock 3 (some FieldType.int) ∈ UW := uw_2 (i := 230) rfl rfl
theorem um_L_138 : Cond.methodLink RL 138 yL_stamp ∈ UW := uw_2 (i := 231) rfl rfl
theorem ut_L_stamp : Cond.static yL_stamp ∈ UW := uw_2 (i := 232) rfl rfl
theorem uw_L_stamp : Cond.codeWith yL_stamp cL_stamp 5 (some FieldType.int) [(0, 10, 13, 13)] ∈ UW := uw_2 (i := 233) rfl rfl
theorem um_L_37 : Cond.methodLink RL 37 yX2_stamp ∈ UW := uw_2 (i := 234) rfl rfl
theorem ui_X2_stamp : Cond.instanceMethod yX2_stamp ∈ UW := uw_2 (i := 235) rfl rfl
theorem us_X2_stamp : Cond.selects RX2 yX2_stamp yX2_stamp ∈ UW := uw_2 (i := 236) rfl rfl
theorem uc_X2_stamp : Cond.code yX2_stamp cX2_stamp 3 (some FieldType.int) ∈ UW := uw_2 (i := 237) rfl rfl
theorem um_L_141 : Cond.methodLink RL 141 yL_precedes ∈ UW := uw_2 (i := 238) rfl rfl
theorem ut_L_precedes : Cond.static yL_precedes ∈ UW := uw_2 (i := 239) rfl rfl
theorem uw_L_precedes : Cond.codeWith yL_precedes cL_precedes 5 (some FieldType.int) [(0, 17, 20, 13)] ∈ UW := uw_3 (i := 0) rfl rfl
theorem um_L_40 : Cond.methodLink RL 40 yX2_precedes ∈ UW := uw_3 (i := 1) rfl rfl
theorem ui_X2_precedes : Cond.instanceMethod yX2_precedes ∈ UW := uw_3 (i := 2) rfl rfl
theorem us_X2_precedes : Cond.selects RX2 yX2_precedes yX2_precedes ∈ UW := uw_3 (i := 3) rfl rfl
theorem uc_X2_precedes : Cond.code yX2_precedes cX2_precedes 3 (some FieldType.boolean) ∈ UW := uw_3 (i := 4) rfl rfl
theorem um_X2_120 : Cond.methodLink RX2 120 yX1_isBefore ∈ UW := uw_3 (i := 5) rfl rfl
theorem ui_X1_isBefore : Cond.instanceMethod yX1_isBefore ∈ UW := uw_3 (i := 6) rfl rfl
theorem us_X1_isBefore : Cond.selects RX1 yX1_isBefore yX1_isBefore ∈ UW := uw_3 (i := 7) rfl rfl
theorem uc_X1_isBefore : Cond.code yX1_isBefore cX1_isBefore 2 (some FieldType.boolean) ∈ UW := uw_3 (i := 8) rfl rfl
theorem um_L_144 : Cond.methodLink RL 144 yL_precedesByHistory ∈ UW := uw_3 (i := 9) rfl rfl
theorem ut_L_precedesByHistory : Cond.static yL_precedesByHistory ∈ UW := uw_3 (i := 10) rfl rfl
theorem uw_L_precedesByHistory : Cond.codeWith yL_precedesByHistory cL_precedesByHistory 5 (some FieldType.int) [(0, 17, 20, 13)] ∈ UW := uw_3 (i := 11) rfl rfl
theorem um_L_44 : Cond.methodLink RL 44 yX2_precedesByHistory ∈ UW := uw_3 (i := 12) rfl rfl
theorem ui_X2_precedesByHistory : Cond.instanceMethod yX2_precedesByHistory ∈ UW := uw_3 (i := 13) rfl rfl
theorem us_X2_precedesByHistory : Cond.selects RX2 yX2_precedesByHistory yX2_precedesByHistory ∈ UW := uw_3 (i := 14) rfl rfl
theorem uc_X2_precedesByHistory : Cond.code yX2_precedesByHistory cX2_precedesByHistory 3 (some FieldType.boolean) ∈ UW := uw_3 (i := 15) rfl rfl
theorem um_X2_124 : Cond.methodLink RX2 124 yX1_isInHistoryOf ∈ UW := uw_3 (i := 16) rfl rfl
theorem ui_X1_isInHistoryOf : Cond.instanceMethod yX1_isInHistoryOf ∈ UW := uw_3 (i := 17) rfl rfl
theorem us_X1_isInHistoryOf : Cond.selects RX1 yX1_isInHistoryOf yX1_isInHistoryOf ∈ UW := uw_3 (i := 18) rfl rfl
theorem uc_X1_isInHistoryOf : Cond.code yX1_isInHistoryOf cX1_isInHistoryOf 3 (some FieldType.boolean) ∈ UW := uw_3 (i := 19) rfl rfl
theorem um_L_147 : Cond.methodLink RL 147 yL_areConcurrent ∈ UW := uw_3 (i := 20) rfl rfl
theorem ut_L_areConcurrent : Cond.static yL_areConcurrent ∈ UW := uw_3 (i := 21) rfl rfl
theorem uw_L_areConcurrent : Cond.codeWith yL_areConcurrent cL_areConcurrent 5 (some FieldType.int) [(0, 17, 20, 13)] ∈ UW := uw_3 (i := 22) rfl rfl
theorem um_L_47 : Cond.methodLink RL 47 yX2_areConcurrent ∈ UW := uw_3 (i := 23) rfl rfl
theorem ui_X2_areConcurrent : Cond.instanceMethod yX2_areConcurrent ∈ UW := uw_3 (i := 24) rfl rfl
theorem us_X2_areConcurrent : Cond.selects RX2 yX2_areConcurrent yX2_areConcurrent ∈ UW := uw_3 (i := 25) rfl rfl
theorem uc_X2_areConcurrent : Cond.code yX2_areConcurrent cX2_areConcurrent 5 (some FieldType.boolean) ∈ UW := uw_3 (i := 26) rfl rfl
theorem um_L_150 : Cond.methodLink RL 150 yL_delivered ∈ UW := uw_3 (i := 27) rfl rfl
theorem ut_L_delivered : Cond.static yL_delivered ∈ UW := uw_3 (i := 28) rfl rfl
theorem uw_L_delivered : Cond.codeWith yL_delivered cL_delivered 4 (some FieldType.int) [(0, 9, 12, 13)] ∈ UW := uw_3 (i := 29) rfl rfl
theorem um_L_50 : Cond.methodLink RL 50 yX2_delivered ∈ UW := uw_3 (i := 30) rfl rfl
theorem ui_X2_delivered : Cond.instanceMethod yX2_delivered ∈ UW := uw_3 (i := 31) rfl rfl
theorem us_X2_delivered : Cond.selects RX2 yX2_delivered yX2_delivered ∈ UW := uw_3 (i := 32) rfl rfl
theorem uc_X2_delivered : Cond.code yX2_delivered cX2_delivered 2 (some FieldType.int) ∈ UW := uw_3 (i := 33) rfl rfl
theorem um_L_153 : Cond.methodLink RL 153 yL_deliveredAt ∈ UW := uw_3 (i := 34) rfl rfl
theorem ut_L_deliveredAt : Cond.static yL_deliveredAt ∈ UW := uw_3 (i := 35) rfl rfl
theorem uw_L_deliveredAt : Cond.codeWith yL_deliveredAt cL_deliveredAt 5 (some FieldType.int) [(0, 10, 13, 13)] ∈ UW := uw_3 (i := 36) rfl rfl
theorem um_L_53 : Cond.methodLink RL 53 yX2_deliveredAt ∈ UW := uw_3 (i := 37) rfl rfl
theorem ui_X2_deliveredAt : Cond.instanceMethod yX2_deliveredAt ∈ UW := uw_3 (i := 38) rfl rfl
theorem us_X2_deliveredAt : Cond.selects RX2 yX2_deliveredAt yX2_deliveredAt ∈ UW := uw_3 (i := 39) rfl rfl
theorem uc_X2_deliveredAt : Cond.code yX2_deliveredAt cX2_deliveredAt 3 (some FieldType.int) ∈ UW := uw_3 (i := 40) rfl rfl
theorem um_X2_127 : Cond.methodLink RX2 127 yX2_requirePlace ∈ UW := uw_3 (i := 41) rfl rfl
theorem ui_X2_requirePlace : Cond.instanceMethod yX2_requirePlace ∈ UW := uw_3 (i := 43) rfl rfl
theorem uc_X2_requirePlace : Cond.code yX2_requirePlace cX2_requirePlace 3 (none : Option FieldType) ∈ UW := uw_3 (i := 44) rfl rfl
theorem um_L_156 : Cond.methodLink RL 156 yL_waiting ∈ UW := uw_3 (i := 46) rfl rfl
theorem ut_L_waiting : Cond.static yL_waiting ∈ UW := uw_3 (i := 47) rfl rfl
theorem uw_L_waiting : Cond.codeWith yL_waiting cL_waiting 4 (some FieldType.int) [(0, 9, 12, 13)] ∈ UW := uw_3 (i := 48) rfl rfl
theorem um_L_56 : Cond.methodLink RL 56 yX2_waiting ∈ UW := uw_3 (i := 49) rfl rfl
theorem ui_X2_waiting : Cond.instanceMethod yX2_waiting ∈ UW := uw_3 (i := 50) rfl rfl
theorem us_X2_waiting : Cond.selects RX2 yX2_waiting yX2_waiting ∈ UW := uw_3 (i := 51) rfl rfl
theorem uc_X2_waiting : Cond.code yX2_waiting cX2_waiting 2 (some FieldType.int) ∈ UW := uw_3 (i := 52) rfl rfl
theorem um_L_159 : Cond.methodLink RL 159 yL_waitingAt ∈ UW := uw_3 (i := 53) rfl rfl
theorem ut_L_waitingAt : Cond.static yL_waitingAt ∈ UW := uw_3 (i := 54) rfl rfl
theorem uw_L_waitingAt : Cond.codeWith yL_waitingAt cL_waitingAt 5 (some FieldType.int) [(0, 10, 13, 13)] ∈ UW := uw_3 (i := 55) rfl rfl
theorem um_L_59 : Cond.methodLink RL 59 yX2_waitingAt ∈ UW := uw_3 (i := 56) rfl rfl
theorem ui_X2_waitingAt : Cond.instanceMethod yX2_waitingAt ∈ UW := uw_3 (i := 57) rfl rfl
theorem us_X2_waitingAt : Cond.selects RX2 yX2_waitingAt yX2_waitingAt ∈ UW := uw_3 (i := 58) rfl rfl
theorem uc_X2_waitingAt : Cond.code yX2_waitingAt cX2_waitingAt 3 (some FieldType.int) ∈ UW := uw_3 (i := 59) rfl rfl
theorem um_L_162 : Cond.methodLink RL 162 yL_needs ∈ UW := uw_3 (i := 60) rfl rfl
theorem ut_L_needs : Cond.static yL_needs ∈ UW := uw_3 (i := 61) rfl rfl
theorem uw_L_needs : Cond.codeWith yL_needs cL_needs 5 (some FieldType.int) [(0, 10, 13, 13)] ∈ UW := uw_3 (i := 62) rfl rfl
theorem um_L_62 : Cond.methodLink RL 62 yX2_needs ∈ UW := uw_3 (i := 63) rfl rfl
theorem ui_X2_needs : Cond.instanceMethod yX2_needs ∈ UW := uw_3 (i := 64) rfl rfl
theorem us_X2_needs : Cond.selects RX2 yX2_needs yX2_needs ∈ UW := uw_3 (i := 65) rfl rfl
theorem uc_X2_needs : Cond.code yX2_needs cX2_needs 5 (some FieldType.int) ∈ UW := uw_3 (i := 66) rfl rfl
theorem um_X2_134 : Cond.methodLink RX2 134 yX2_isNeeded ∈ UW := uw_3 (i := 67) rfl rfl
theorem ui_X2_isNeeded : Cond.instanceMethod yX2_isNeeded ∈ UW := uw_3 (i := 69) rfl rfl
theorem uc_X2_isNeeded : Cond.code yX2_isNeeded cX2_isNeeded 4 (some FieldType.boolean) ∈ UW := uw_3 (i := 70) rfl rfl
theorem um_X2_224 : Cond.methodLink RX2 224 yX1_wasDeliveredTo ∈ UW := uw_3 (i := 71) rfl rfl
theorem ui_X1_wasDeliveredTo : Cond.instanceMethod yX1_wasDeliveredTo ∈ UW := uw_3 (i := 72) rfl rfl
theorem us_X1_wasDeliveredTo : Cond.selects RX1 yX1_wasDeliveredTo yX1_wasDeliveredTo ∈ UW := uw_3 (i := 73) rfl rfl
theorem uc_X1_wasDeliveredTo : Cond.code yX1_wasDeliveredTo cX1_wasDeliveredTo 2 (some FieldType.boolean) ∈ UW := uw_3 (i := 74) rfl rfl
theorem um_L_165 : Cond.methodLink RL 165 yL_firstNeeded ∈ UW := uw_3 (i := 75) rfl rfl
theorem ut_L_firstNeeded : Cond.static yL_firstNeeded ∈ UW := uw_3 (i := 76) rfl rfl
theorem uw_L_firstNeeded : Cond.codeWith yL_firstNeeded cL_firstNeeded 5 (some FieldType.int) [(0, 10, 13, 13)] ∈ UW := uw_3 (i := 77) rfl rfl
theorem um_L_65 : Cond.methodLink RL 65 yX2_firstNeeded ∈ UW := uw_3 (i := 78) rfl rfl
theorem ui_X2_firstNeeded : Cond.instanceMethod yX2_firstNeeded ∈ UW := uw_3 (i := 79) rfl rfl
theorem us_X2_firstNeeded : Cond.selects RX2 yX2_firstNeeded yX2_firstNeeded ∈ UW := uw_3 (i := 80) rfl rfl
theorem uc_X2_firstNeeded : Cond.code yX2_firstNeeded cX2_firstNeeded 4 (some FieldType.int) ∈ UW := uw_3 (i := 81) rfl rfl
theorem um_L_172 : Cond.methodLink RL 172 yL_passToken ∈ UW := uw_3 (i := 82) rfl rfl
theorem ut_L_passToken : Cond.static yL_passToken ∈ UW := uw_3 (i := 83) rfl rfl
theorem uw_L_passToken : Cond.codeWith yL_passToken cL_passToken 4 (some FieldType.int) [(0, 9, 12, 13), (0, 9, 15, 15)] ∈ UW := uw_3 (i := 84) rfl rfl
theorem um_L_68 : Cond.methodLink RL 68 yX2_passToken ∈ UW := uw_3 (i := 85) rfl rfl
theorem ui_X2_passToken : Cond.instanceMethod yX2_passToken ∈ UW := uw_3 (i := 86) rfl rfl
theorem us_X2_passToken : Cond.selects RX2 yX2_passToken yX2_passToken ∈ UW := uw_3 (i := 87) rfl rfl
theorem uc_X2_passToken : Cond.code yX2_passToken cX2_passToken 2 (some FieldType.int) ∈ UW := uw_3 (i := 88) rfl rfl
theorem um_X2_141 : Cond.methodLink RX2 141 yX2_hasAllNumbered ∈ UW := uw_3 (i := 89) rfl rfl
theorem ui_X2_hasAllNumbered : Cond.instanceMethod yX2_hasAllNumbered ∈ UW := uw_3 (i := 91) rfl rfl
theorem uc_X2_hasAllNumbered : Cond.code yX2_hasAllNumbered cX2_hasAllNumbered 3 (some FieldType.boolean) ∈ UW := uw_3 (i := 92) rfl rfl
theorem um_X2_147 : Cond.methodLink RX2 147 yX2_giveToken ∈ UW := uw_3 (i := 94) rfl rfl
theorem ui_X2_giveToken : Cond.instanceMethod yX2_giveToken ∈ UW := uw_3 (i := 96) rfl rfl
theorem uc_X2_giveToken : Cond.code yX2_giveToken cX2_giveToken 4 (some FieldType.int) ∈ UW := uw_3 (i := 97) rfl rfl
theorem um_L_175 : Cond.methodLink RL 175 yL_tell ∈ UW := uw_3 (i := 98) rfl rfl
theorem ut_L_tell : Cond.static yL_tell ∈ UW := uw_3 (i := 99) rfl rfl
theorem uw_L_tell : Cond.codeWith yL_tell cL_tell 4 (some FieldType.int) [(0, 9, 12, 13), (0, 9, 15, 15)] ∈ UW := uw_3 (i := 100) rfl rfl
theorem um_L_71 : Cond.methodLink RL 71 yX2_tell ∈ UW := uw_3 (i := 101) rfl rfl
theorem ui_X2_tell : Cond.instanceMethod yX2_tell ∈ UW := uw_3 (i := 102) rfl rfl
theorem us_X2_tell : Cond.selects RX2 yX2_tell yX2_tell ∈ UW := uw_3 (i := 103) rfl rfl
theorem uc_X2_tell : Cond.code yX2_tell cX2_tell 3 (some FieldType.int) ∈ UW := uw_3 (i := 104) rfl rfl
theorem um_L_182 : Cond.methodLink RL 182 yL_numberOf ∈ UW := uw_3 (i := 106) rfl rfl
theorem ut_L_numberOf : Cond.static yL_numberOf ∈ UW := uw_3 (i := 107) rfl rfl
theorem uw_L_numberOf : Cond.codeWith yL_numberOf cL_numberOf 4 (some FieldType.int) [(0, 9, 12, 13)] ∈ UW := uw_3 (i := 108) rfl rfl
theorem um_L_74 : Cond.methodLink RL 74 yX2_numberOf ∈ UW := uw_3 (i := 109) rfl rfl
theorem ui_X2_numberOf : Cond.instanceMethod yX2_numberOf ∈ UW := uw_3 (i := 110) rfl rfl
theorem us_X2_numberOf : Cond.selects RX2 yX2_numberOf yX2_numberOf ∈ UW := uw_3 (i := 111) rfl rfl
theorem uc_X2_numberOf : Cond.code yX2_numberOf cX2_numberOf 2 (some FieldType.int) ∈ UW := uw_3 (i := 112) rfl rfl
theorem um_L_185 : Cond.methodLink RL 185 yL_ordered ∈ UW := uw_3 (i := 113) rfl rfl
theorem ut_L_ordered : Cond.static yL_ordered ∈ UW := uw_3 (i := 114) rfl rfl
theorem uw_L_ordered : Cond.codeWith yL_ordered cL_ordered 4 (some FieldType.int) [(0, 9, 12, 13)] ∈ UW := uw_3 (i := 115) rfl rfl
theorem um_L_77 : Cond.methodLink RL 77 yX2_ordered ∈ UW := uw_3 (i := 116) rfl rfl
theorem ui_X2_ordered : Cond.instanceMethod yX2_ordered ∈ UW := uw_3 (i := 117) rfl rfl
theorem us_X2_ordered : Cond.selects RX2 yX2_ordered yX2_ordered ∈ UW := uw_3 (i := 118) rfl rfl
theorem uc_X2_ordered : Cond.code yX2_ordered cX2_ordered 2 (some FieldType.int) ∈ UW := uw_3 (i := 119) rfl rfl
theorem um_X2_159 : Cond.methodLink RX2 159 yX2_countOrdered ∈ UW := uw_3 (i := 120) rfl rfl
theorem ui_X2_countOrdered : Cond.instanceMethod yX2_countOrdered ∈ UW := uw_3 (i := 122) rfl rfl
theorem uc_X2_countOrdered : Cond.code yX2_countOrdered cX2_countOrdered 4 (some FieldType.int) ∈ UW := uw_3 (i := 123) rfl rfl
theorem um_X2_227 : Cond.methodLink RX2 227 yJ9_min_7cf53 ∈ UW := uw_3 (i := 124) rfl rfl
theorem um_L_188 : Cond.methodLink RL 188 yL_proposal ∈ UW := uw_3 (i := 125) rfl rfl
theorem ut_L_proposal : Cond.static yL_proposal ∈ UW := uw_3 (i := 126) rfl rfl
theorem uw_L_proposal : Cond.codeWith yL_proposal cL_proposal 5 (some FieldType.int) [(0, 10, 13, 13)] ∈ UW := uw_3 (i := 127) rfl rfl
theorem um_L_80 : Cond.methodLink RL 80 yX2_proposal ∈ UW := uw_3 (i := 128) rfl rfl
theorem ui_X2_proposal : Cond.instanceMethod yX2_proposal ∈ UW := uw_3 (i := 129) rfl rfl
theorem us_X2_proposal : Cond.selects RX2 yX2_proposal yX2_proposal ∈ UW := uw_3 (i := 130) rfl rfl
theorem uc_X2_proposal : Cond.code yX2_proposal cX2_proposal 3 (some FieldType.int) ∈ UW := uw_3 (i := 131) rfl rfl
theorem um_L_191 : Cond.methodLink RL 191 yL_agreed ∈ UW := uw_3 (i := 132) rfl rfl
theorem ut_L_agreed : Cond.static yL_agreed ∈ UW := uw_3 (i := 133) rfl rfl
theorem uw_L_agreed : Cond.codeWith yL_agreed cL_agreed 4 (some FieldType.int) [(0, 9, 12, 13)] ∈ UW := uw_3 (i := 134) rfl rfl
theorem um_L_83 : Cond.methodLink RL 83 yX2_agreed ∈ UW := uw_3 (i := 135) rfl rfl
theorem ui_X2_agreed : Cond.instanceMethod yX2_agreed ∈ UW := uw_3 (i := 136) rfl rfl
theorem us_X2_agreed : Cond.selects RX2 yX2_agreed yX2_agreed ∈ UW := uw_3 (i := 137) rfl rfl
theorem uc_X2_agreed : Cond.code yX2_agreed cX2_agreed 2 (some FieldType.int) ∈ UW := uw_3 (i := 138) rfl rfl
theorem um_L_194 : Cond.methodLink RL 194 yL_agreedAt ∈ UW := uw_3 (i := 139) rfl rfl
theorem ut_L_agreedAt : Cond.static yL_agreedAt ∈ UW := uw_3 (i := 140) rfl rfl
theorem uw_L_agreedAt : Cond.codeWith yL_agreedAt cL_agreedAt 4 (some FieldType.int) [(0, 9, 12, 13)] ∈ UW := uw_3 (i := 141) rfl rfl
theorem um_L_86 : Cond.methodLink RL 86 yX2_agreedAt ∈ UW := uw_3 (i := 142) rfl rfl
theorem ui_X2_agreedAt : Cond.instanceMethod yX2_agreedAt ∈ UW := uw_3 (i := 143) rfl rfl
theorem us_X2_agreedAt : Cond.selects RX2 yX2_agreedAt yX2_agreedAt ∈ UW := uw_3 (i := 144) rfl rfl
theorem uc_X2_agreedAt : Cond.code yX2_agreedAt cX2_agreedAt 2 (some FieldType.int) ∈ UW := uw_3 (i := 145) rfl rfl
theorem um_L_197 : Cond.methodLink RL 197 yL_fail ∈ UW := uw_3 (i := 146) rfl rfl
theorem ut_L_fail : Cond.static yL_fail ∈ UW := uw_3 (i := 147) rfl rfl
theorem uw_L_fail : Cond.codeWith yL_fail cL_fail 3 (some FieldType.int) [(0, 5, 8, 13), (0, 5, 11, 15)] ∈ UW := uw_3 (i := 148) rfl rfl
theorem um_L_89 : Cond.methodLink RL 89 yX2_fail ∈ UW := uw_3 (i := 149) rfl rfl
theorem ui_X2_fail : Cond.instanceMethod yX2_fail ∈ UW := uw_3 (i := 150) rfl rfl
theorem us_X2_fail : Cond.selects RX2 yX2_fail yX2_fail ∈ UW := uw_3 (i := 151) rfl rfl
theorem uc_X2_fail : Cond.code yX2_fail cX2_fail 2 (none : Option FieldType) ∈ UW := uw_3 (i := 152) rfl rfl
theorem um_X2_171 : Cond.methodLink RX2 171 yX2_countAlive ∈ UW := uw_3 (i := 153) rfl rfl
theorem ui_X2_countAlive : Cond.instanceMethod yX2_countAlive ∈ UW := uw_3 (i := 155) rfl rfl
theorem uc_X2_countAlive : Cond.code yX2_countAlive cX2_countAlive 3 (some FieldType.int) ∈ UW := uw_3 (i := 156) rfl rfl
theorem um_L_201 : Cond.methodLink RL 201 yL_flush ∈ UW := uw_3 (i := 158) rfl rfl
theorem ut_L_flush : Cond.static yL_flush ∈ UW := uw_3 (i := 159) rfl rfl
theorem uw_L_flush : Cond.codeWith yL_flush cL_flush 3 (some FieldType.int) [(0, 8, 11, 15)] ∈ UW := uw_3 (i := 160) rfl rfl
theorem um_L_93 : Cond.methodLink RL 93 yX2_flush ∈ UW := uw_3 (i := 161) rfl rfl
theorem ui_X2_flush : Cond.instanceMethod yX2_flush ∈ UW := uw_3 (i := 162) rfl rfl
theorem us_X2_flush : Cond.selects RX2 yX2_flush yX2_flush ∈ UW := uw_3 (i := 163) rfl rfl
theorem uc_X2_flush : Cond.code yX2_flush cX2_flush 2 (some FieldType.int) ∈ UW := uw_3 (i := 164) rfl rfl
theorem um_X2_178 : Cond.methodLink RX2 178 yX2_dropUndeliverable ∈ UW := uw_3 (i := 166) rfl rfl
theorem ui_X2_dropUndeliverable : Cond.instanceMethod yX2_dropUndeliverable ∈ UW := uw_3 (i := 168) rfl rfl
theorem uc_X2_dropUndeliverable : Cond.code yX2_dropUndeliverable cX2_dropUndeliverable 4 (some FieldType.int) ∈ UW := uw_3 (i := 169) rfl rfl
theorem um_X2_255 : Cond.methodLink RX2 255 yX2_isWithSomeoneAlive ∈ UW := uw_3 (i := 170) rfl rfl
theorem ui_X2_isWithSomeoneAlive : Cond.instanceMethod yX2_isWithSomeoneAlive ∈ UW := uw_3 (i := 172) rfl rfl
theorem uc_X2_isWithSomeoneAlive : Cond.code yX2_isWithSomeoneAlive cX2_isWithSomeoneAlive 4 (some FieldType.boolean) ∈ UW := uw_3 (i := 173) rfl rfl
theorem um_X2_258 : Cond.methodLink RX2 258 yX2_followsDropped ∈ UW := uw_3 (i := 174) rfl rfl
theorem ui_X2_followsDropped : Cond.instanceMethod yX2_followsDropped ∈ UW := uw_3 (i := 176) rfl rfl
theorem uc_X2_followsDropped : Cond.code yX2_followsDropped cX2_followsDropped 3 (some FieldType.boolean) ∈ UW := uw_3 (i := 177) rfl rfl
theorem um_X2_261 : Cond.methodLink RX2 261 yX2_drop ∈ UW := uw_3 (i := 178) rfl rfl
theorem ui_X2_drop : Cond.instanceMethod yX2_drop ∈ UW := uw_3 (i := 180) rfl rfl
theorem uc_X2_drop : Cond.code yX2_drop cX2_drop 3 (none : Option FieldType) ∈ UW := uw_3 (i := 181) rfl rfl
theorem um_X2_264 : Cond.methodLink RX2 264 yJ7_fill_53178 ∈ UW := uw_3 (i := 182) rfl rfl
theorem um_X2_270 : Cond.methodLink RX2 270 yX2_takeOut ∈ UW := uw_3 (i := 183) rfl rfl
theorem ui_X2_takeOut : Cond.instanceMethod yX2_takeOut ∈ UW := uw_3 (i := 185) rfl rfl
theorem uc_X2_takeOut : Cond.code yX2_takeOut cX2_takeOut 4 (none : Option FieldType) ∈ UW := uw_3 (i := 186) rfl rfl
theorem um_X2_181 : Cond.methodLink RX2 181 yX2_letAllArrive ∈ UW := uw_3 (i := 187) rfl rfl
theorem ui_X2_letAllArrive : Cond.instanceMethod yX2_letAllArrive ∈ UW := uw_3 (i := 189) rfl rfl
theorem uc_X2_letAllArrive : Cond.code yX2_letAllArrive cX2_letAllArrive 4 (none : Option FieldType) ∈ UW := uw_3 (i := 190) rfl rfl
theorem um_X2_184 : Cond.methodLink RX2 184 yX2_changeView ∈ UW := uw_3 (i := 191) rfl rfl
theorem ui_X2_changeView : Cond.instanceMethod yX2_changeView ∈ UW := uw_3 (i := 193) rfl rfl
theorem uc_X2_changeView : Cond.code yX2_changeView cX2_changeView 2 (none : Option FieldType) ∈ UW := uw_3 (i := 194) rfl rfl
theorem um_X2_274 : Cond.methodLink RX2 274 yX2_leastAlive ∈ UW := uw_3 (i := 195) rfl rfl
theorem ui_X2_leastAlive : Cond.instanceMethod yX2_leastAlive ∈ UW := uw_3 (i := 197) rfl rfl
theorem uc_X2_leastAlive : Cond.code yX2_leastAlive cX2_leastAlive 2 (some (FieldType.object "Causewaymail$Member")) ∈ UW := uw_3 (i := 198) rfl rfl
theorem um_X2_187 : Cond.methodLink RX2 187 yX2_agreeOnTheRest ∈ UW := uw_3 (i := 199) rfl rfl
theorem ui_X2_agreeOnTheRest : Cond.instanceMethod yX2_agreeOnTheRest ∈ UW := uw_3 (i := 201) rfl rfl
theorem uc_X2_agreeOnTheRest : Cond.code yX2_agreeOnTheRest cX2_agreeOnTheRest 3 (none : Option FieldType) ∈ UW := uw_3 (i := 202) rfl rfl
theorem um_X2_278 : Cond.methodLink RX2 278 yX2_nextToAgreeOn ∈ UW := uw_3 (i := 203) rfl rfl
theorem ui_X2_nextToAgreeOn : Cond.instanceMethod yX2_nextToAgreeOn ∈ UW := uw_3 (i := 205) rfl rfl
theorem uc_X2_nextToAgreeOn : Cond.code yX2_nextToAgreeOn cX2_nextToAgreeOn 5 (some (FieldType.object "Causewaymail$Message")) ∈ UW := uw_3 (i := 206) rfl rfl
theorem um_L_205 : Cond.methodLink RL 205 yL_isAlive ∈ UW := uw_3 (i := 207) rfl rfl
theorem ut_L_isAlive : Cond.static yL_isAlive ∈ UW := uw_3 (i := 208) rfl rfl
theorem uw_L_isAlive : Cond.codeWith yL_isAlive cL_isAlive 4 (some FieldType.int) [(0, 16, 19, 13)] ∈ UW := uw_3 (i := 209) rfl rfl
theorem um_L_97 : Cond.methodLink RL 97 yX2_isAlive ∈ UW := uw_3 (i := 210) rfl rfl
theorem ui_X2_isAlive : Cond.instanceMethod yX2_isAlive ∈ UW := uw_3 (i := 211) rfl rfl
theorem us_X2_isAlive : Cond.selects RX2 yX2_isAlive yX2_isAlive ∈ UW := uw_3 (i := 212) rfl rfl
theorem uc_X2_isAlive : Cond.code yX2_isAlive cX2_isAlive 2 (some FieldType.boolean) ∈ UW := uw_3 (i := 213) rfl rfl
theorem ul_L_102 : Cond.classLink RL 102 RX3 ∈ UW := uw_3 (i := 214) rfl rfl
theorem ux_X3 : Cond.instantiable RX3 23 ∈ UW := uw_3 (i := 215) rfl rfl
theorem um_L_104 : Cond.methodLink RL 104 yX3_init ∈ UW := uw_3 (i := 216) rfl rfl
theorem ui_X3_init : Cond.instanceMethod yX3_init ∈ UW := uw_3 (i := 217) rfl rfl
theorem uc_X3_init : Cond.code yX3_init cX3_init 1 (none : Option FieldType) ∈ UW := uw_3 (i := 218) rfl rfl
theorem um_X3_1 : Cond.methodLink RX3 1 ⟨"java/lang/Object", "<init>", "()V"⟩ ∈ UW := uw_3 (i := 219) rfl rfl
theorem uf_X3_62 : Cond.fieldLink RX3 62 "CausewaymailModel" "thrown" "I" ∈ UW := uw_3 (i := 220) rfl rfl
theorem uf_X3_70 : Cond.fieldLink RX3 70 "CausewaymailModel" "messages" "I" ∈ UW := uw_3 (i := 221) rfl rfl
theorem uf_X3_7 : Cond.fieldLink RX3 7 "CausewaymailModel" "sender" "[I" ∈ UW := uw_3 (i := 222) rfl rfl
theorem uf_X3_13 : Cond.fieldLink RX3 13 "CausewaymailModel" "copy" "[I" ∈ UW := uw_3 (i := 223) rfl rfl
theorem uf_X3_16 : Cond.fieldLink RX3 16 "CausewaymailModel" "stamp" "[I" ∈ UW := uw_3 (i := 224) rfl rfl
theorem uf_X3_19 : Cond.fieldLink RX3 19 "CausewaymailModel" "proposed" "[I" ∈ UW := uw_3 (i := 225) rfl rfl
theorem uf_X3_22 : Cond.fieldLink RX3 22 "CausewaymailModel" "isDropped" "[Z" ∈ UW := uw_3 (i := 226) rfl rfl
theorem uf_X3_26 : Cond.fieldLink RX3 26 "CausewaymailModel" "number" "[I" ∈ UW := uw_3 (i := 227) rfl rfl
theorem uf_X3_29 : Cond.fieldLink RX3 29 "CausewaymailModel" "agreed" "[I" ∈ UW := uw_3 (i := 228) rfl rfl
theorem uf_X3_80 : Cond.fieldLink RX3 80 "CausewaymailModel" "numbered" "I" ∈ UW := uw_3 (i := 229) rfl rfl
theorem uf_X3_105 : Cond.fieldLink RX3 105 "CausewaymailModel" "greatest" "I" ∈ UW := uw_3 (i := 230) rfl rfl
theorem uf_X3_32 : Cond.fieldLink RX3 32 "CausewaymailModel" "hasFailed" "[Z" ∈ UW := uw_3 (i := 231) rfl rfl
theorem uf_X3_35 : Cond.fieldLink RX3 35 "CausewaymailModel" "isOut" "[Z" ∈ UW := uw_3 (i := 232) rfl rfl
theorem uf_X3_38 : Cond.fieldLink RX3 38 "CausewaymailModel" "clock" "[I" ∈ UW := uw_3 (i := 233) rfl rfl
theorem uf_X3_41 : Cond.fieldLink RX3 41 "CausewaymailModel" "delivered" "[I" ∈ UW := uw_3 (i := 234) rfl rfl
theorem uf_X3_44 : Cond.fieldLink RX3 44 "CausewaymailModel" "delivery" "[I" ∈ UW := uw_3 (i := 235) rfl rfl
theorem uf_X3_47 : Cond.fieldLink RX3 47 "CausewaymailModel" "waiting" "[I" ∈ UW := uw_3 (i := 236) rfl rfl
theorem uf_X3_50 : Cond.fieldLink RX3 50 "CausewaymailModel" "queue" "[I" ∈ UW := uw_3 (i := 237) rfl rfl
theorem uf_X3_53 : Cond.fieldLink RX3 53 "CausewaymailModel" "highest" "[I" ∈ UW := uw_3 (i := 238) rfl rfl
theorem uf_X3_56 : Cond.fieldLink RX3 56 "CausewaymailModel" "known" "[I" ∈ UW := uw_3 (i := 239) rfl rfl
theorem uf_X3_59 : Cond.fieldLink RX3 59 "CausewaymailModel" "kept" "[I" ∈ UW := uw_4 (i := 0) rfl rfl
theorem uf_X3_83 : Cond.fieldLink RX3 83 "CausewaymailModel" "holder" "I" ∈ UW := uw_4 (i := 1) rfl rfl
theorem uf_X3_156 : Cond.fieldLink RX3 156 "CausewaymailModel" "view" "I" ∈ UW := uw_4 (i := 2) rfl rfl
theorem uz_arrayClass_4_50 : (Cond.arrayClass FieldType.boolean) ∈ UW := uw_4 (i := 50) rfl rfl
theorem um_L_111 : Cond.methodLink RL 111 yX3_thrown ∈ UW := uw_4 (i := 51) rfl rfl
theorem ui_X3_thrown : Cond.instanceMethod yX3_thrown ∈ UW := uw_4 (i := 52) rfl rfl
theorem us_X3_thrown : Cond.selects RX3 yX3_thrown yX3_thrown ∈ UW := uw_4 (i := 53) rfl rfl
theorem uc_X3_thrown : Cond.code yX3_thrown cX3_thrown 1 (some FieldType.int) ∈ UW := uw_4 (i := 54) rfl rfl
theorem um_L_110 : Cond.methodLink RL 110 yX3_send ∈ UW := uw_4 (i := 55) rfl rfl
theorem ui_X3_send : Cond.instanceMethod yX3_send ∈ UW := uw_4 (i := 56) rfl rfl
theorem us_X3_send : Cond.selects RX3 yX3_send yX3_send ∈ UW := uw_4 (i := 57) rfl rfl
theorem uc_X3_send : Cond.code yX3_send cX3_send 4 (some FieldType.int) ∈ UW := uw_4 (i := 58) rfl rfl
theorem um_X3_77 : Cond.methodLink RX3 77 yX3_isMember ∈ UW := uw_4 (i := 59) rfl rfl
theorem ut_X3_isMember : Cond.static yX3_isMember ∈ UW := uw_4 (i := 60) rfl rfl
theorem uc_X3_isMember : Cond.code yX3_isMember cX3_isMember 1 (some FieldType.boolean) ∈ UW := uw_4 (i := 61) rfl rfl
theorem um_X3_66 : Cond.methodLink RX3 66 yX3_in ∈ UW := uw_4 (i := 62) rfl rfl
theorem ut_X3_in : Cond.static yX3_in ∈ UW := uw_4 (i := 63) rfl rfl
theorem uc_X3_in : Cond.code yX3_in cX3_in 3 (some FieldType.boolean) ∈ UW := uw_4 (i := 64) rfl rfl
theorem um_X3_111 : Cond.methodLink RX3 111 yX3_isBroken ∈ UW := uw_4 (i := 65) rfl rfl
theorem ui_X3_isBroken : Cond.instanceMethod yX3_isBroken ∈ UW := uw_4 (i := 67) rfl rfl
theorem uc_X3_isBroken : Cond.code yX3_isBroken cX3_isBroken 3 (some FieldType.boolean) ∈ UW := uw_4 (i := 68) rfl rfl
theorem um_X3_98 : Cond.methodLink RX3 98 yX3_delivers ∈ UW := uw_4 (i := 69) rfl rfl
theorem ui_X3_delivers : Cond.instanceMethod yX3_delivers ∈ UW := uw_4 (i := 71) rfl rfl
theorem uc_X3_delivers : Cond.code yX3_delivers cX3_delivers 3 (none : Option FieldType) ∈ UW := uw_4 (i := 72) rfl rfl
theorem um_X3_86 : Cond.methodLink RX3 86 yX3_numbers ∈ UW := uw_4 (i := 73) rfl rfl
theorem ui_X3_numbers : Cond.instanceMethod yX3_numbers ∈ UW := uw_4 (i := 75) rfl rfl
theorem uc_X3_numbers : Cond.code yX3_numbers cX3_numbers 2 (none : Option FieldType) ∈ UW := uw_4 (i := 76) rfl rfl
theorem um_X3_115 : Cond.methodLink RX3 115 yX3_proposes ∈ UW := uw_4 (i := 77) rfl rfl
theorem ui_X3_proposes : Cond.instanceMethod yX3_proposes ∈ UW := uw_4 (i := 79) rfl rfl
theorem uc_X3_proposes : Cond.code yX3_proposes cX3_proposes 8 (none : Option FieldType) ∈ UW := uw_4 (i := 80) rfl rfl
theorem um_X3_108 : Cond.methodLink RX3 108 yX3_agrees ∈ UW := uw_4 (i := 81) rfl rfl
theorem ui_X3_agrees : Cond.instanceMethod yX3_agrees ∈ UW := uw_4 (i := 83) rfl rfl
theorem uc_X3_agrees : Cond.code yX3_agrees cX3_agrees 3 (none : Option FieldType) ∈ UW := uw_4 (i := 84) rfl rfl
theorem um_L_117 : Cond.methodLink RL 117 yX3_arrive ∈ UW := uw_4 (i := 85) rfl rfl
theorem ui_X3_arrive : Cond.instanceMethod yX3_arrive ∈ UW := uw_4 (i := 86) rfl rfl
theorem us_X3_arrive : Cond.selects RX3 yX3_arrive yX3_arrive ∈ UW := uw_4 (i := 87) rfl rfl
theorem uc_X3_arrive : Cond.code yX3_arrive cX3_arrive 3 (some FieldType.int) ∈ UW := uw_4 (i := 88) rfl rfl
theorem um_X3_118 : Cond.methodLink RX3 118 yX3_isCopy ∈ UW := uw_4 (i := 89) rfl rfl
theorem ui_X3_isCopy : Cond.instanceMethod yX3_isCopy ∈ UW := uw_4 (i := 91) rfl rfl
theorem uc_X3_isCopy : Cond.code yX3_isCopy cX3_isCopy 3 (some FieldType.boolean) ∈ UW := uw_4 (i := 92) rfl rfl
theorem um_X3_73 : Cond.methodLink RX3 73 yX3_isMessage ∈ UW := uw_4 (i := 93) rfl rfl
theorem ui_X3_isMessage : Cond.instanceMethod yX3_isMessage ∈ UW := uw_4 (i := 95) rfl rfl
theorem uc_X3_isMessage : Cond.code yX3_isMessage cX3_isMessage 2 (some FieldType.boolean) ∈ UW := uw_4 (i := 96) rfl rfl
theorem um_X3_121 : Cond.methodLink RX3 121 yX3_comes ∈ UW := uw_4 (i := 97) rfl rfl
theorem ui_X3_comes : Cond.instanceMethod yX3_comes ∈ UW := uw_4 (i := 99) rfl rfl
theorem uc_X3_comes : Cond.code yX3_comes cX3_comes 5 (some FieldType.int) ∈ UW := uw_4 (i := 100) rfl rfl
theorem um_X3_90 : Cond.methodLink RX3 90 yX3_can ∈ UW := uw_4 (i := 101) rfl rfl
theorem ui_X3_can : Cond.instanceMethod yX3_can ∈ UW := uw_4 (i := 103) rfl rfl
theorem uc_X3_can : Cond.code yX3_can cX3_can 7 (some FieldType.boolean) ∈ UW := uw_4 (i := 104) rfl rfl
theorem um_X3_94 : Cond.methodLink RX3 94 yX3_leavesQueue ∈ UW := uw_4 (i := 105) rfl rfl
theorem ui_X3_leavesQueue : Cond.instanceMethod yX3_leavesQueue ∈ UW := uw_4 (i := 107) rfl rfl
theorem uc_X3_leavesQueue : Cond.code yX3_leavesQueue cX3_leavesQueue 6 (none : Option FieldType) ∈ UW := uw_4 (i := 108) rfl rfl
theorem um_X3_101 : Cond.methodLink RX3 101 yX3_next ∈ UW := uw_4 (i := 109) rfl rfl
theorem ui_X3_next : Cond.instanceMethod yX3_next ∈ UW := uw_4 (i := 111) rfl rfl
theorem uc_X3_next : Cond.code yX3_next cX3_next 4 (some FieldType.int) ∈ UW := uw_4 (i := 112) rfl rfl
theorem um_L_121 : Cond.methodLink RL 121 yX3_lose ∈ UW := uw_4 (i := 113) rfl rfl
theorem ui_X3_lose : Cond.instanceMethod yX3_lose ∈ UW := uw_4 (i := 114) rfl rfl
theorem us_X3_lose : Cond.selects RX3 yX3_lose yX3_lose ∈ UW := uw_4 (i := 115) rfl rfl
theorem uc_X3_lose : Cond.code yX3_lose cX3_lose 3 (none : Option FieldType) ∈ UW := uw_4 (i := 116) rfl rfl
theorem um_L_124 : Cond.methodLink RL 124 yX3_sendAgain ∈ UW := uw_4 (i := 117) rfl rfl
theorem ui_X3_sendAgain : Cond.instanceMethod yX3_sendAgain ∈ UW := uw_4 (i := 118) rfl rfl
theorem us_X3_sendAgain : Cond.selects RX3 yX3_sendAgain yX3_sendAgain ∈ UW := uw_4 (i := 119) rfl rfl
theorem uc_X3_sendAgain : Cond.code yX3_sendAgain cX3_sendAgain 3 (none : Option FieldType) ∈ UW := uw_4 (i := 120) rfl rfl
theorem um_L_128 : Cond.methodLink RL 128 yX3_messages ∈ UW := uw_4 (i := 121) rfl rfl
theorem ui_X3_messages : Cond.instanceMethod yX3_messages ∈ UW := uw_4 (i := 122) rfl rfl
theorem us_X3_messages : Cond.selects RX3 yX3_messages yX3_messages ∈ UW := uw_4 (i := 123) rfl rfl
theorem uc_X3_messages : Cond.code yX3_messages cX3_messages 1 (some FieldType.int) ∈ UW := uw_4 (i := 124) rfl rfl
theorem um_L_131 : Cond.methodLink RL 131 yX3_sender ∈ UW := uw_4 (i := 125) rfl rfl
theorem ui_X3_sender : Cond.instanceMethod yX3_sender ∈ UW := uw_4 (i := 126) rfl rfl
theorem us_X3_sender : Cond.selects RX3 yX3_sender yX3_sender ∈ UW := uw_4 (i := 127) rfl rfl
theorem uc_X3_sender : Cond.code yX3_sender cX3_sender 2 (some FieldType.int) ∈ UW := uw_4 (i := 128) rfl rfl
theorem um_L_134 : Cond.methodLink RL 134 yX3_copy ∈ UW := uw_4 (i := 129) rfl rfl
theorem ui_X3_copy : Cond.instanceMethod yX3_copy ∈ UW := uw_4 (i := 130) rfl rfl
theorem us_X3_copy : Cond.selects RX3 yX3_copy yX3_copy ∈ UW := uw_4 (i := 131) rfl rfl
theorem uc_X3_copy : Cond.code yX3_copy cX3_copy 3 (some FieldType.int) ∈ UW := uw_4 (i := 132) rfl rfl
theorem um_L_137 : Cond.methodLink RL 137 yX3_clock ∈ UW := uw_4 (i := 133) rfl rfl
theorem ui_X3_clock : Cond.instanceMethod yX3_clock ∈ UW := uw_4 (i := 134) rfl rfl
theorem us_X3_clock : Cond.selects RX3 yX3_clock yX3_clock ∈ UW := uw_4 (i := 135) rfl rfl
theorem uc_X3_clock : Cond.code yX3_clock cX3_clock 3 (some FieldType.int) ∈ UW := uw_4 (i := 136) rfl rfl
theorem um_L_140 : Cond.methodLink RL 140 yX3_stamp ∈ UW := uw_4 (i := 137) rfl rfl
theorem ui_X3_stamp : Cond.instanceMethod yX3_stamp ∈ UW := uw_4 (i := 138) rfl rfl
theorem us_X3_stamp : Cond.selects RX3 yX3_stamp yX3_stamp ∈ UW := uw_4 (i := 139) rfl rfl
theorem uc_X3_stamp : Cond.code yX3_stamp cX3_stamp 3 (some FieldType.int) ∈ UW := uw_4 (i := 140) rfl rfl
theorem um_L_143 : Cond.methodLink RL 143 yX3_precedes ∈ UW := uw_4 (i := 141) rfl rfl
theorem ui_X3_precedes : Cond.instanceMethod yX3_precedes ∈ UW := uw_4 (i := 142) rfl rfl
theorem us_X3_precedes : Cond.selects RX3 yX3_precedes yX3_precedes ∈ UW := uw_4 (i := 143) rfl rfl
theorem uc_X3_precedes : Cond.code yX3_precedes cX3_precedes 3 (some FieldType.boolean) ∈ UW := uw_4 (i := 144) rfl rfl
theorem um_X3_125 : Cond.methodLink RX3 125 yX3_areMessages ∈ UW := uw_4 (i := 145) rfl rfl
theorem ui_X3_areMessages : Cond.instanceMethod yX3_areMessages ∈ UW := uw_4 (i := 147) rfl rfl
theorem uc_X3_areMessages : Cond.code yX3_areMessages cX3_areMessages 3 (some FieldType.boolean) ∈ UW := uw_4 (i := 148) rfl rfl
theorem um_X3_128 : Cond.methodLink RX3 128 yX3_isBefore ∈ UW := uw_4 (i := 149) rfl rfl
theorem ui_X3_isBefore : Cond.instanceMethod yX3_isBefore ∈ UW := uw_4 (i := 151) rfl rfl
theorem uc_X3_isBefore : Cond.code yX3_isBefore cX3_isBefore 4 (some FieldType.boolean) ∈ UW := uw_4 (i := 152) rfl rfl
theorem um_L_146 : Cond.methodLink RL 146 yX3_precedesByHistory ∈ UW := uw_4 (i := 153) rfl rfl
theorem ui_X3_precedesByHistory : Cond.instanceMethod yX3_precedesByHistory ∈ UW := uw_4 (i := 154) rfl rfl
theorem us_X3_precedesByHistory : Cond.selects RX3 yX3_precedesByHistory yX3_precedesByHistory ∈ UW := uw_4 (i := 155) rfl rfl
theorem uc_X3_precedesByHistory : Cond.code yX3_precedesByHistory cX3_precedesByHistory 3 (some FieldType.boolean) ∈ UW := uw_4 (i := 156) rfl rfl
theorem um_L_149 : Cond.methodLink RL 149 yX3_areConcurrent ∈ UW := uw_4 (i := 157) rfl rfl
theorem ui_X3_areConcurrent : Cond.instanceMethod yX3_areConcurrent ∈ UW := uw_4 (i := 158) rfl rfl
theorem us_X3_areConcurrent : Cond.selects RX3 yX3_areConcurrent yX3_areConcurrent ∈ UW := uw_4 (i := 159) rfl rfl
theorem uc_X3_areConcurrent : Cond.code yX3_areConcurrent cX3_areConcurrent 3 (some FieldType.boolean) ∈ UW := uw_4 (i := 160) rfl rfl
theorem um_L_152 : Cond.methodLink RL 152 yX3_delivered ∈ UW := uw_4 (i := 161) rfl rfl
theorem ui_X3_delivered : Cond.instanceMethod yX3_delivered ∈ UW := uw_4 (i := 162) rfl rfl
theorem us_X3_delivered : Cond.selects RX3 yX3_delivered yX3_delivered ∈ UW := uw_4 (i := 163) rfl rfl
theorem uc_X3_delivered : Cond.code yX3_delivered cX3_delivered 2 (some FieldType.int) ∈ UW := uw_4 (i := 164) rfl rfl
theorem um_L_155 : Cond.methodLink RL 155 yX3_deliveredAt ∈ UW := uw_4 (i := 165) rfl rfl
theorem ui_X3_deliveredAt : Cond.instanceMethod yX3_deliveredAt ∈ UW := uw_4 (i := 166) rfl rfl
theorem us_X3_deliveredAt : Cond.selects RX3 yX3_deliveredAt yX3_deliveredAt ∈ UW := uw_4 (i := 167) rfl rfl
theorem uc_X3_deliveredAt : Cond.code yX3_deliveredAt cX3_deliveredAt 3 (some FieldType.int) ∈ UW := uw_4 (i := 168) rfl rfl
theorem um_L_158 : Cond.methodLink RL 158 yX3_waiting ∈ UW := uw_4 (i := 169) rfl rfl
theorem ui_X3_waiting : Cond.instanceMethod yX3_waiting ∈ UW := uw_4 (i := 170) rfl rfl
theorem us_X3_waiting : Cond.selects RX3 yX3_waiting yX3_waiting ∈ UW := uw_4 (i := 171) rfl rfl
theorem uc_X3_waiting : Cond.code yX3_waiting cX3_waiting 2 (some FieldType.int) ∈ UW := uw_4 (i := 172) rfl rfl
theorem um_L_161 : Cond.methodLink RL 161 yX3_waitingAt ∈ UW := uw_4 (i := 173) rfl rfl
theorem ui_X3_waitingAt : Cond.instanceMethod yX3_waitingAt ∈ UW := uw_4 (i := 174) rfl rfl
theorem us_X3_waitingAt : Cond.selects RX3 yX3_waitingAt yX3_waitingAt ∈ UW := uw_4 (i := 175) rfl rfl
theorem uc_X3_waitingAt : Cond.code yX3_waitingAt cX3_waitingAt 3 (some FieldType.int) ∈ UW := uw_4 (i := 176) rfl rfl
theorem um_L_164 : Cond.methodLink RL 164 yX3_needs ∈ UW := uw_4 (i := 177) rfl rfl
theorem ui_X3_needs : Cond.instanceMethod yX3_needs ∈ UW := uw_4 (i := 178) rfl rfl
theorem us_X3_needs : Cond.selects RX3 yX3_needs yX3_needs ∈ UW := uw_4 (i := 179) rfl rfl
theorem uc_X3_needs : Cond.code yX3_needs cX3_needs 5 (some FieldType.int) ∈ UW := uw_4 (i := 180) rfl rfl
theorem um_X3_131 : Cond.methodLink RX3 131 yX3_wasDelivered ∈ UW := uw_4 (i := 181) rfl rfl
theorem ui_X3_wasDelivered : Cond.instanceMethod yX3_wasDelivered ∈ UW := uw_4 (i := 183) rfl rfl
theorem uc_X3_wasDelivered : Cond.code yX3_wasDelivered cX3_wasDelivered 5 (some FieldType.boolean) ∈ UW := uw_4 (i := 184) rfl rfl
theorem um_L_167 : Cond.methodLink RL 167 yX3_firstNeeded ∈ UW := uw_4 (i := 185) rfl rfl
theorem ui_X3_firstNeeded : Cond.instanceMethod yX3_firstNeeded ∈ UW := uw_4 (i := 186) rfl rfl
theorem us_X3_firstNeeded : Cond.selects RX3 yX3_firstNeeded yX3_firstNeeded ∈ UW := uw_4 (i := 187) rfl rfl
theorem uc_X3_firstNeeded : Cond.code yX3_firstNeeded cX3_firstNeeded 5 (some FieldType.int) ∈ UW := uw_4 (i := 188) rfl rfl
theorem um_L_171 : Cond.methodLink RL 171 yX3_holder ∈ UW := uw_4 (i := 189) rfl rfl
theorem ui_X3_holder : Cond.instanceMethod yX3_holder ∈ UW := uw_4 (i := 190) rfl rfl
theorem us_X3_holder : Cond.selects RX3 yX3_holder yX3_holder ∈ UW := uw_4 (i := 191) rfl rfl
theorem uc_X3_holder : Cond.code yX3_holder cX3_holder 1 (some FieldType.int) ∈ UW := uw_4 (i := 192) rfl rfl
theorem um_L_174 : Cond.methodLink RL 174 yX3_passToken ∈ UW := uw_4 (i := 193) rfl rfl
theorem ui_X3_passToken : Cond.instanceMethod yX3_passToken ∈ UW := uw_4 (i := 194) rfl rfl
theorem us_X3_passToken : Cond.selects RX3 yX3_passToken yX3_passToken ∈ UW := uw_4 (i := 195) rfl rfl
theorem uc_X3_passToken : Cond.code yX3_passToken cX3_passToken 2 (some FieldType.int) ∈ UW := uw_4 (i := 196) rfl rfl
theorem um_X3_134 : Cond.methodLink RX3 134 yX3_hasAll ∈ UW := uw_4 (i := 197) rfl rfl
theorem ui_X3_hasAll : Cond.instanceMethod yX3_hasAll ∈ UW := uw_4 (i := 199) rfl rfl
theorem uc_X3_hasAll : Cond.code yX3_hasAll cX3_hasAll 4 (some FieldType.boolean) ∈ UW := uw_4 (i := 200) rfl rfl
theorem um_X3_137 : Cond.methodLink RX3 137 yX3_holds ∈ UW := uw_4 (i := 201) rfl rfl
theorem ui_X3_holds : Cond.instanceMethod yX3_holds ∈ UW := uw_4 (i := 203) rfl rfl
theorem uc_X3_holds : Cond.code yX3_holds cX3_holds 5 (some FieldType.int) ∈ UW := uw_4 (i := 204) rfl rfl
theorem um_L_177 : Cond.methodLink RL 177 yX3_tell ∈ UW := uw_4 (i := 205) rfl rfl
theorem ui_X3_tell : Cond.instanceMethod yX3_tell ∈ UW := uw_4 (i := 206) rfl rfl
theorem us_X3_tell : Cond.selects RX3 yX3_tell yX3_tell ∈ UW := uw_4 (i := 207) rfl rfl
theorem uc_X3_tell : Cond.code yX3_tell cX3_tell 3 (some FieldType.int) ∈ UW := uw_4 (i := 208) rfl rfl
theorem um_X3_140 : Cond.methodLink RX3 140 yX3_knows ∈ UW := uw_4 (i := 209) rfl rfl
theorem ui_X3_knows : Cond.instanceMethod yX3_knows ∈ UW := uw_4 (i := 211) rfl rfl
theorem uc_X3_knows : Cond.code yX3_knows cX3_knows 2 (some FieldType.int) ∈ UW := uw_4 (i := 212) rfl rfl
theorem um_L_181 : Cond.methodLink RL 181 yX3_numbered ∈ UW := uw_4 (i := 213) rfl rfl
theorem ui_X3_numbered : Cond.instanceMethod yX3_numbered ∈ UW := uw_4 (i := 214) rfl rfl
theorem us_X3_numbered : Cond.selects RX3 yX3_numbered yX3_numbered ∈ UW := uw_4 (i := 215) rfl rfl
theorem uc_X3_numbered : Cond.code yX3_numbered cX3_numbered 1 (some FieldType.int) ∈ UW := uw_4 (i := 216) rfl rfl
theorem um_L_184 : Cond.methodLink RL 184 yX3_numberOf ∈ UW := uw_4 (i := 217) rfl rfl
theorem ui_X3_numberOf : Cond.instanceMethod yX3_numberOf ∈ UW := uw_4 (i := 218) rfl rfl
theorem us_X3_numberOf : Cond.selects RX3 yX3_numberOf yX3_numberOf ∈ UW := uw_4 (i := 219) rfl rfl
theorem uc_X3_numberOf : Cond.code yX3_numberOf cX3_numberOf 2 (some FieldType.int) ∈ UW := uw_4 (i := 220) rfl rfl
theorem um_L_187 : Cond.methodLink RL 187 yX3_ordered ∈ UW := uw_4 (i := 221) rfl rfl
theorem ui_X3_ordered : Cond.instanceMethod yX3_ordered ∈ UW := uw_4 (i := 222) rfl rfl
theorem us_X3_ordered : Cond.selects RX3 yX3_ordered yX3_ordered ∈ UW := uw_4 (i := 223) rfl rfl
theorem uc_X3_ordered : Cond.code yX3_ordered cX3_ordered 2 (some FieldType.int) ∈ UW := uw_4 (i := 224) rfl rfl
theorem um_X3_146 : Cond.methodLink RX3 146 yX3_orders ∈ UW := uw_4 (i := 225) rfl rfl
theorem ui_X3_orders : Cond.instanceMethod yX3_orders ∈ UW := uw_4 (i := 227) rfl rfl
theorem uc_X3_orders : Cond.code yX3_orders cX3_orders 3 (some FieldType.int) ∈ UW := uw_4 (i := 228) rfl rfl
theorem um_X3_143 : Cond.methodLink RX3 143 yX3_withNumber ∈ UW := uw_4 (i := 229) rfl rfl
theorem ui_X3_withNumber : Cond.instanceMethod yX3_withNumber ∈ UW := uw_4 (i := 231) rfl rfl
theorem uc_X3_withNumber : Cond.code yX3_withNumber cX3_withNumber 4 (some FieldType.int) ∈ UW := uw_4 (i := 232) rfl rfl
theorem um_L_190 : Cond.methodLink RL 190 yX3_proposal ∈ UW := uw_4 (i := 233) rfl rfl
theorem ui_X3_proposal : Cond.instanceMethod yX3_proposal ∈ UW := uw_4 (i := 234) rfl rfl
theorem us_X3_proposal : Cond.selects RX3 yX3_proposal yX3_proposal ∈ UW := uw_4 (i := 235) rfl rfl
theorem uc_X3_proposal : Cond.code yX3_proposal cX3_proposal 3 (some FieldType.int) ∈ UW := uw_4 (i := 236) rfl rfl
theorem um_L_193 : Cond.methodLink RL 193 yX3_agreed ∈ UW := uw_4 (i := 237) rfl rfl
theorem ui_X3_agreed : Cond.instanceMethod yX3_agreed ∈ UW := uw_4 (i := 238) rfl rfl
theorem us_X3_agreed : Cond.selects RX3 yX3_agreed yX3_agreed ∈ UW := uw_4 (i := 239) rfl rfl
theorem uc_X3_agreed : Cond.code yX3_agreed cX3_agreed 2 (some FieldType.int) ∈ UW := uw_5 (i := 0) rfl rfl
theorem um_L_196 : Cond.methodLink RL 196 yX3_agreedAt ∈ UW := uw_5 (i := 1) rfl rfl
theorem ui_X3_agreedAt : Cond.instanceMethod yX3_agreedAt ∈ UW := uw_5 (i := 2) rfl rfl
theorem us_X3_agreedAt : Cond.selects RX3 yX3_agreedAt yX3_agreedAt ∈ UW := uw_5 (i := 3) rfl rfl
theorem uc_X3_agreedAt : Cond.code yX3_agreedAt cX3_agreedAt 6 (some FieldType.int) ∈ UW := uw_5 (i := 4) rfl rfl
theorem um_L_200 : Cond.methodLink RL 200 yX3_fail ∈ UW := uw_5 (i := 5) rfl rfl
theorem ui_X3_fail : Cond.instanceMethod yX3_fail ∈ UW := uw_5 (i := 6) rfl rfl
theorem us_X3_fail : Cond.selects RX3 yX3_fail yX3_fail ∈ UW := uw_5 (i := 7) rfl rfl
theorem uc_X3_fail : Cond.code yX3_fail cX3_fail 2 (none : Option FieldType) ∈ UW := uw_5 (i := 8) rfl rfl
theorem um_X3_149 : Cond.methodLink RX3 149 yX3_alive ∈ UW := uw_5 (i := 9) rfl rfl
theorem ui_X3_alive : Cond.instanceMethod yX3_alive ∈ UW := uw_5 (i := 11) rfl rfl
theorem uc_X3_alive : Cond.code yX3_alive cX3_alive 3 (some FieldType.int) ∈ UW := uw_5 (i := 12) rfl rfl
theorem um_L_204 : Cond.methodLink RL 204 yX3_flush ∈ UW := uw_5 (i := 13) rfl rfl
theorem ui_X3_flush : Cond.instanceMethod yX3_flush ∈ UW := uw_5 (i := 14) rfl rfl
theorem us_X3_flush : Cond.selects RX3 yX3_flush yX3_flush ∈ UW := uw_5 (i := 15) rfl rfl
theorem uc_X3_flush : Cond.code yX3_flush cX3_flush 4 (some FieldType.int) ∈ UW := uw_5 (i := 16) rfl rfl
theorem um_X3_159 : Cond.methodLink RX3 159 yX3_isLeft ∈ UW := uw_5 (i := 17) rfl rfl
theorem ui_X3_isLeft : Cond.instanceMethod yX3_isLeft ∈ UW := uw_5 (i := 19) rfl rfl
theorem uc_X3_isLeft : Cond.code yX3_isLeft cX3_isLeft 5 (some FieldType.boolean) ∈ UW := uw_5 (i := 20) rfl rfl
theorem um_X3_162 : Cond.methodLink RX3 162 yX3_drops ∈ UW := uw_5 (i := 21) rfl rfl
theorem ui_X3_drops : Cond.instanceMethod yX3_drops ∈ UW := uw_5 (i := 23) rfl rfl
theorem uc_X3_drops : Cond.code yX3_drops cX3_drops 3 (none : Option FieldType) ∈ UW := uw_5 (i := 24) rfl rfl
theorem um_X3_165 : Cond.methodLink RX3 165 yX3_leaves ∈ UW := uw_5 (i := 25) rfl rfl
theorem ui_X3_leaves : Cond.instanceMethod yX3_leaves ∈ UW := uw_5 (i := 27) rfl rfl
theorem uc_X3_leaves : Cond.code yX3_leaves cX3_leaves 2 (none : Option FieldType) ∈ UW := uw_5 (i := 28) rfl rfl
theorem um_X3_168 : Cond.methodLink RX3 168 yX3_nextToAgree ∈ UW := uw_5 (i := 29) rfl rfl
theorem ui_X3_nextToAgree : Cond.instanceMethod yX3_nextToAgree ∈ UW := uw_5 (i := 31) rfl rfl
theorem uc_X3_nextToAgree : Cond.code yX3_nextToAgree cX3_nextToAgree 4 (some FieldType.int) ∈ UW := uw_5 (i := 32) rfl rfl
theorem um_X3_153 : Cond.methodLink RX3 153 yX3_highestFor ∈ UW := uw_5 (i := 33) rfl rfl
theorem ui_X3_highestFor : Cond.instanceMethod yX3_highestFor ∈ UW := uw_5 (i := 35) rfl rfl
theorem uc_X3_highestFor : Cond.code yX3_highestFor cX3_highestFor 5 (some FieldType.int) ∈ UW := uw_5 (i := 36) rfl rfl
theorem um_L_207 : Cond.methodLink RL 207 yX3_isAlive ∈ UW := uw_5 (i := 37) rfl rfl
theorem ui_X3_isAlive : Cond.instanceMethod yX3_isAlive ∈ UW := uw_5 (i := 38) rfl rfl
theorem us_X3_isAlive : Cond.selects RX3 yX3_isAlive yX3_isAlive ∈ UW := uw_5 (i := 39) rfl rfl
theorem uc_X3_isAlive : Cond.code yX3_isAlive cX3_isAlive 2 (some FieldType.boolean) ∈ UW := uw_5 (i := 40) rfl rfl
theorem um_L_211 : Cond.methodLink RL 211 yX3_view ∈ UW := uw_5 (i := 41) rfl rfl
theorem ui_X3_view : Cond.instanceMethod yX3_view ∈ UW := uw_5 (i := 42) rfl rfl
theorem us_X3_view : Cond.selects RX3 yX3_view yX3_view ∈ UW := uw_5 (i := 43) rfl rfl
theorem uc_X3_view : Cond.code yX3_view cX3_view 1 (some FieldType.int) ∈ UW := uw_5 (i := 44) rfl rfl
theorem uz_arrayClass_5_45 : (Cond.arrayClass FieldType.long) ∈ UW := uw_5 (i := 45) rfl rfl
theorem us_java_lang_Object_getClass___Ljava_lang_Class___Ljava_lang_Object_ : Cond.selects "[Ljava/lang/Object;" ⟨"java/lang/Object", "getClass", "()Ljava/lang/Class;"⟩ ⟨"java/lang/Object", "getClass", "()Ljava/lang/Class;"⟩ ∈ UW := uw_5 (i := 57) rfl rfl
theorem us_X2_requireMember : Cond.selects RX2 yX2_requireMember yX2_requireMember ∈ UW := us_1 (i := 0) rfl rfl
theorem us_java_lang_Throwable_fillInStackTrace__I_Ljava_lang_Throwable_ : Cond.selects "java/lang/Throwable" ⟨"java/lang/Throwable", "fillInStackTrace", "(I)Ljava/lang/Throwable;"⟩ ⟨"java/lang/Throwable", "fillInStackTrace", "(I)Ljava/lang/Throwable;"⟩ ∈ UW := us_1 (i := 1) rfl rfl
theorem us_X2_hasFailureInView : Cond.selects RX2 yX2_hasFailureInView yX2_hasFailureInView ∈ UW := us_1 (i := 2) rfl rfl
theorem us_Jx4a65c_add_72be8 : Cond.selects RJx4a65c yJx4a65c_add_72be8 yJx4a65c_add_72be8 ∈ UW := us_1 (i := 3) rfl rfl
theorem us_Jx4a65c_grow_d5877 : Cond.selects RJx4a65c yJx4a65c_grow_d5877 yJx4a65c_grow_d5877 ∈ UW := us_1 (i := 4) rfl rfl
theorem us_Jx4a65c_grow_92f84 : Cond.selects RJx4a65c yJx4a65c_grow_92f84 yJx4a65c_grow_92f84 ∈ UW := us_1 (i := 5) rfl rfl
theorem us_X2_putOnWay : Cond.selects RX2 yX2_putOnWay yX2_putOnWay ∈ UW := us_1 (i := 6) rfl rfl
theorem us_X2_deliver : Cond.selects RX2 yX2_deliver yX2_deliver ∈ UW := us_1 (i := 7) rfl rfl
theorem us_X2_giveNumber : Cond.selects RX2 yX2_giveNumber yX2_giveNumber ∈ UW := us_1 (i := 8) rfl rfl
theorem us_X2_propose : Cond.selects RX2 yX2_propose yX2_propose ∈ UW := us_1 (i := 9) rfl rfl
theorem us_X2_hasAllProposals : Cond.selects RX2 yX2_hasAllProposals yX2_hasAllProposals ∈ UW := us_1 (i := 10) rfl rfl
theorem us_X2_agreeOn : Cond.selects RX2 yX2_agreeOn yX2_agreeOn ∈ UW := us_1 (i := 11) rfl rfl
theorem us_X2_requireCopy : Cond.selects RX2 yX2_requireCopy yX2_requireCopy ∈ UW := us_1 (i := 12) rfl rfl
theorem us_X2_requireMessage : Cond.selects RX2 yX2_requireMessage yX2_requireMessage ∈ UW := us_1 (i := 13) rfl rfl
theorem us_X2_takeIn : Cond.selects RX2 yX2_takeIn yX2_takeIn ∈ UW := us_1 (i := 14) rfl rfl
theorem us_X2_deliverHeld : Cond.selects RX2 yX2_deliverHeld yX2_deliverHeld ∈ UW := us_1 (i := 15) rfl rfl
theorem us_Jx4a65c_fastRemove_b59b0 : Cond.selects RJx4a65c yJx4a65c_fastRemove_b59b0 yJx4a65c_fastRemove_b59b0 ∈ UW := us_2 (i := 0) rfl rfl
theorem us_X2_requirePlace : Cond.selects RX2 yX2_requirePlace yX2_requirePlace ∈ UW := us_2 (i := 1) rfl rfl
theorem us_X2_isNeeded : Cond.selects RX2 yX2_isNeeded yX2_isNeeded ∈ UW := us_2 (i := 2) rfl rfl
theorem us_X2_hasAllNumbered : Cond.selects RX2 yX2_hasAllNumbered yX2_hasAllNumbered ∈ UW := us_2 (i := 3) rfl rfl
theorem us_X2_giveToken : Cond.selects RX2 yX2_giveToken yX2_giveToken ∈ UW := us_2 (i := 4) rfl rfl
theorem us_X2_countOrdered : Cond.selects RX2 yX2_countOrdered yX2_countOrdered ∈ UW := us_2 (i := 5) rfl rfl
theorem us_X2_countAlive : Cond.selects RX2 yX2_countAlive yX2_countAlive ∈ UW := us_2 (i := 6) rfl rfl
theorem us_X2_dropUndeliverable : Cond.selects RX2 yX2_dropUndeliverable yX2_dropUndeliverable ∈ UW := us_2 (i := 7) rfl rfl
theorem us_X2_isWithSomeoneAlive : Cond.selects RX2 yX2_isWithSomeoneAlive yX2_isWithSomeoneAlive ∈ UW := us_2 (i := 8) rfl rfl
theorem us_X2_followsDropped : Cond.selects RX2 yX2_followsDropped yX2_followsDropped ∈ UW := us_2 (i := 9) rfl rfl
theorem us_X2_drop : Cond.selects RX2 yX2_drop yX2_drop ∈ UW := us_2 (i := 10) rfl rfl
theorem us_X2_takeOut : Cond.selects RX2 yX2_takeOut yX2_takeOut ∈ UW := us_2 (i := 11) rfl rfl
theorem us_X2_letAllArrive : Cond.selects RX2 yX2_letAllArrive yX2_letAllArrive ∈ UW := us_2 (i := 12) rfl rfl
theorem us_X2_changeView : Cond.selects RX2 yX2_changeView yX2_changeView ∈ UW := us_2 (i := 13) rfl rfl
theorem us_X2_leastAlive : Cond.selects RX2 yX2_leastAlive yX2_leastAlive ∈ UW := us_2 (i := 14) rfl rfl
theorem us_X2_agreeOnTheRest : Cond.selects RX2 yX2_agreeOnTheRest yX2_agreeOnTheRest ∈ UW := us_2 (i := 15) rfl rfl
theorem us_X2_nextToAgreeOn : Cond.selects RX2 yX2_nextToAgreeOn yX2_nextToAgreeOn ∈ UW := us_3 (i := 0) rfl rfl
theorem us_X3_isBroken : Cond.selects RX3 yX3_isBroken yX3_isBroken ∈ UW := us_3 (i := 1) rfl rfl
theorem us_X3_delivers : Cond.selects RX3 yX3_delivers yX3_delivers ∈ UW := us_3 (i := 2) rfl rfl
theorem us_X3_numbers : Cond.selects RX3 yX3_numbers yX3_numbers ∈ UW := us_3 (i := 3) rfl rfl
theorem us_X3_proposes : Cond.selects RX3 yX3_proposes yX3_proposes ∈ UW := us_3 (i := 4) rfl rfl
theorem us_X3_agrees : Cond.selects RX3 yX3_agrees yX3_agrees ∈ UW := us_3 (i := 5) rfl rfl
theorem us_X3_isCopy : Cond.selects RX3 yX3_isCopy yX3_isCopy ∈ UW := us_3 (i := 6) rfl rfl
theorem us_X3_isMessage : Cond.selects RX3 yX3_isMessage yX3_isMessage ∈ UW := us_3 (i := 7) rfl rfl
theorem us_X3_comes : Cond.selects RX3 yX3_comes yX3_comes ∈ UW := us_3 (i := 8) rfl rfl
theorem us_X3_can : Cond.selects RX3 yX3_can yX3_can ∈ UW := us_3 (i := 9) rfl rfl
theorem us_X3_leavesQueue : Cond.selects RX3 yX3_leavesQueue yX3_leavesQueue ∈ UW := us_3 (i := 10) rfl rfl
theorem us_X3_next : Cond.selects RX3 yX3_next yX3_next ∈ UW := us_3 (i := 11) rfl rfl
theorem us_X3_areMessages : Cond.selects RX3 yX3_areMessages yX3_areMessages ∈ UW := us_3 (i := 12) rfl rfl
theorem us_X3_isBefore : Cond.selects RX3 yX3_isBefore yX3_isBefore ∈ UW := us_3 (i := 13) rfl rfl
theorem us_X3_wasDelivered : Cond.selects RX3 yX3_wasDelivered yX3_wasDelivered ∈ UW := us_3 (i := 14) rfl rfl
theorem us_X3_hasAll : Cond.selects RX3 yX3_hasAll yX3_hasAll ∈ UW := us_3 (i := 15) rfl rfl
theorem us_X3_holds : Cond.selects RX3 yX3_holds yX3_holds ∈ UW := us_4 (i := 0) rfl rfl
theorem us_X3_knows : Cond.selects RX3 yX3_knows yX3_knows ∈ UW := us_4 (i := 1) rfl rfl
theorem us_X3_orders : Cond.selects RX3 yX3_orders yX3_orders ∈ UW := us_4 (i := 2) rfl rfl
theorem us_X3_withNumber : Cond.selects RX3 yX3_withNumber yX3_withNumber ∈ UW := us_4 (i := 3) rfl rfl
theorem us_X3_alive : Cond.selects RX3 yX3_alive yX3_alive ∈ UW := us_4 (i := 4) rfl rfl
theorem us_X3_isLeft : Cond.selects RX3 yX3_isLeft yX3_isLeft ∈ UW := us_4 (i := 5) rfl rfl
theorem us_X3_drops : Cond.selects RX3 yX3_drops yX3_drops ∈ UW := us_4 (i := 6) rfl rfl
theorem us_X3_leaves : Cond.selects RX3 yX3_leaves yX3_leaves ∈ UW := us_4 (i := 7) rfl rfl
theorem us_X3_nextToAgree : Cond.selects RX3 yX3_nextToAgree yX3_nextToAgree ∈ UW := us_4 (i := 8) rfl rfl
theorem us_X3_highestFor : Cond.selects RX3 yX3_highestFor yX3_highestFor ∈ UW := us_4 (i := 9) rfl rfl
