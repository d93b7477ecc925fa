/-! Each word of the tables that is used, by its place. -/
theorem am_tb1 {w : Cond} (p : Nat) (h : tables_1_1[p]? = some w) (hg : goodWord w = true) : am_W w := by
  refine ⟨List.mem_append_right _ ?_, hg⟩
  unfold tables_1
  have h := List.mem_of_getElem? h
  refine List.mem_append_left _ h
theorem am_tb2 {w : Cond} (p : Nat) (h : tables_1_2[p]? = some w) (hg : goodWord w = true) : am_W w := by
  refine ⟨List.mem_append_right _ ?_, hg⟩
  unfold tables_1
  have h := List.mem_of_getElem? h
  refine List.mem_append_right _ (List.mem_append_left _ h)
theorem am_tb3 {w : Cond} (p : Nat) (h : tables_1_3[p]? = some w) (hg : goodWord w = true) : am_W w := by
  refine ⟨List.mem_append_right _ ?_, hg⟩
  unfold tables_1
  have h := List.mem_of_getElem? h
  refine List.mem_append_right _ (List.mem_append_right _ (List.mem_append_left _ h))
theorem am_tb4 {w : Cond} (p : Nat) (h : tables_1_4[p]? = some w) (hg : goodWord w = true) : am_W w := by
  refine ⟨List.mem_append_right _ ?_, hg⟩
  unfold tables_1
  have h := List.mem_of_getElem? h
  refine List.mem_append_right _ (List.mem_append_right _ (List.mem_append_right _ (List.mem_append_left _ h)))
theorem am_tb5 {w : Cond} (p : Nat) (h : tables_1_5[p]? = some w) (hg : goodWord w = true) : am_W w := by
  refine ⟨List.mem_append_right _ ?_, hg⟩
  unfold tables_1
  have h := List.mem_of_getElem? h
  refine List.mem_append_right _ (List.mem_append_right _ (List.mem_append_right _ (List.mem_append_right _ (List.mem_append_left _ h))))
theorem am_tb6 {w : Cond} (p : Nat) (h : tables_1_6[p]? = some w) (hg : goodWord w = true) : am_W w := by
  refine ⟨List.mem_append_right _ ?_, hg⟩
  unfold tables_1
  have h := List.mem_of_getElem? h
  refine List.mem_append_right _ (List.mem_append_right _ (List.mem_append_right _ (List.mem_append_right _ (List.mem_append_right _ (List.mem_append_left _ h)))))
theorem am_tb7 {w : Cond} (p : Nat) (h : tables_1_7[p]? = some w) (hg : goodWord w = true) : am_W w := by
  refine ⟨List.mem_append_right _ ?_, hg⟩
  unfold tables_1
  have h := List.mem_of_getElem? h
  refine List.mem_append_right _ (List.mem_append_right _ (List.mem_append_right _ (List.mem_append_right _ (List.mem_append_right _ (List.mem_append_right _ (h))))))
theorem am_tb0 {w : Cond} (p : Nat) (h : (k2_sels lw_privs)[p]? = some w) (hg : goodWord w = true) : am_W w := ⟨List.mem_append_left _ (List.mem_of_getElem? h), hg⟩
theorem am_w0 : am_W (Cond.code ({ cls := "NowhereMoney", name := "<init>", desc := "()V" } : Jvm.MethodName) prog_1_method_1_code (1 : Nat) (Option.none : Option Jvm.ClassFile.FieldType)) := am_tb1 25 (by decide +kernel) rfl
theorem am_w1 : am_W (Cond.initialized "NowhereMoney") := am_tb1 1 (by decide +kernel) rfl
theorem am_w2 : am_W (Cond.instanceMethod ({ cls := "NowhereMoney", name := "<init>", desc := "()V" } : Jvm.MethodName)) := am_tb1 24 (by decide +kernel) rfl
theorem am_w3 : am_W (Cond.code ({ cls := "NowhereMoneyModel", name := "<init>", desc := "()V" } : Jvm.MethodName) prog_13_method_3_code (3 : Nat) (Option.none : Option Jvm.ClassFile.FieldType)) := am_tb5 129 (by decide +kernel) rfl
theorem am_w4 : am_W (Cond.initialized "NowhereMoneyModel") := am_tb1 12 (by decide +kernel) rfl
theorem am_w5 : am_W (Cond.instanceMethod ({ cls := "NowhereMoneyModel", name := "<init>", desc := "()V" } : Jvm.MethodName)) := am_tb5 128 (by decide +kernel) rfl
theorem am_w6 : am_W (Cond.code ({ cls := "NowhereMoney", name := "town", desc := "(II)Z" } : Jvm.MethodName) prog_1_method_2_code (3 : Nat) (Option.some Jvm.ClassFile.FieldType.boolean)) := am_tb2 143 (by decide +kernel) rfl
theorem am_w7 : am_W (Cond.instanceMethod ({ cls := "NowhereMoney", name := "town", desc := "(II)Z" } : Jvm.MethodName)) := am_tb2 141 (by decide +kernel) rfl
theorem am_w8 : am_W (Cond.selects "NowhereMoney" ({ cls := "NowhereMoney", name := "town", desc := "(II)Z" } : Jvm.MethodName) ({ cls := "NowhereMoney", name := "town", desc := "(II)Z" } : Jvm.MethodName)) := am_tb2 142 (by decide +kernel) rfl
theorem am_w9 : am_W (Cond.code ({ cls := "NowhereMoneyModel", name := "town", desc := "(II)Z" } : Jvm.MethodName) prog_13_method_6_code (3 : Nat) (Option.some Jvm.ClassFile.FieldType.boolean)) := am_tb5 228 (by decide +kernel) rfl
theorem am_w10 : am_W (Cond.instanceMethod ({ cls := "NowhereMoneyModel", name := "town", desc := "(II)Z" } : Jvm.MethodName)) := am_tb5 226 (by decide +kernel) rfl
theorem am_w11 : am_W (Cond.selects "NowhereMoneyModel" ({ cls := "NowhereMoneyModel", name := "town", desc := "(II)Z" } : Jvm.MethodName) ({ cls := "NowhereMoneyModel", name := "town", desc := "(II)Z" } : Jvm.MethodName)) := am_tb5 227 (by decide +kernel) rfl
theorem am_w12 : am_W (Cond.code ({ cls := "NowhereMoney", name := "rail", desc := "(III)Z" } : Jvm.MethodName) prog_1_method_3_code (4 : Nat) (Option.some Jvm.ClassFile.FieldType.boolean)) := am_tb2 153 (by decide +kernel) rfl
theorem am_w13 : am_W (Cond.instanceMethod ({ cls := "NowhereMoney", name := "rail", desc := "(III)Z" } : Jvm.MethodName)) := am_tb2 151 (by decide +kernel) rfl
theorem am_w14 : am_W (Cond.selects "NowhereMoney" ({ cls := "NowhereMoney", name := "rail", desc := "(III)Z" } : Jvm.MethodName) ({ cls := "NowhereMoney", name := "rail", desc := "(III)Z" } : Jvm.MethodName)) := am_tb2 152 (by decide +kernel) rfl
theorem am_w15 : am_W (Cond.code ({ cls := "NowhereMoneyModel", name := "rail", desc := "(III)Z" } : Jvm.MethodName) prog_13_method_7_code (4 : Nat) (Option.some Jvm.ClassFile.FieldType.boolean)) := am_tb5 238 (by decide +kernel) rfl
theorem am_w16 : am_W (Cond.instanceMethod ({ cls := "NowhereMoneyModel", name := "rail", desc := "(III)Z" } : Jvm.MethodName)) := am_tb5 236 (by decide +kernel) rfl
theorem am_w17 : am_W (Cond.selects "NowhereMoneyModel" ({ cls := "NowhereMoneyModel", name := "rail", desc := "(III)Z" } : Jvm.MethodName) ({ cls := "NowhereMoneyModel", name := "rail", desc := "(III)Z" } : Jvm.MethodName)) := am_tb5 237 (by decide +kernel) rfl
theorem am_w18 : am_W (Cond.code ({ cls := "NowhereMoney", name := "told", desc := "(IIZ)Z" } : Jvm.MethodName) prog_1_method_4_code (4 : Nat) (Option.some Jvm.ClassFile.FieldType.boolean)) := am_tb2 157 (by decide +kernel) rfl
theorem am_w19 : am_W (Cond.instanceMethod ({ cls := "NowhereMoney", name := "told", desc := "(IIZ)Z" } : Jvm.MethodName)) := am_tb2 155 (by decide +kernel) rfl
theorem am_w20 : am_W (Cond.selects "NowhereMoney" ({ cls := "NowhereMoney", name := "told", desc := "(IIZ)Z" } : Jvm.MethodName) ({ cls := "NowhereMoney", name := "told", desc := "(IIZ)Z" } : Jvm.MethodName)) := am_tb2 156 (by decide +kernel) rfl
theorem am_w21 : am_W (Cond.code ({ cls := "NowhereMoneyModel", name := "told", desc := "(IIZ)Z" } : Jvm.MethodName) prog_13_method_8_code (4 : Nat) (Option.some Jvm.ClassFile.FieldType.boolean)) := am_tb6 2 (by decide +kernel) rfl
theorem am_w22 : am_W (Cond.instanceMethod ({ cls := "NowhereMoneyModel", name := "told", desc := "(IIZ)Z" } : Jvm.MethodName)) := am_tb6 0 (by decide +kernel) rfl
theorem am_w23 : am_W (Cond.selects "NowhereMoneyModel" ({ cls := "NowhereMoneyModel", name := "told", desc := "(IIZ)Z" } : Jvm.MethodName) ({ cls := "NowhereMoneyModel", name := "told", desc := "(IIZ)Z" } : Jvm.MethodName)) := am_tb6 1 (by decide +kernel) rfl
theorem am_w24 : am_W (Cond.code ({ cls := "NowhereMoney", name := "feed", desc := "(IIIII)I" } : Jvm.MethodName) prog_1_method_5_code (6 : Nat) (Option.some Jvm.ClassFile.FieldType.int)) := am_tb2 164 (by decide +kernel) rfl
theorem am_w25 : am_W (Cond.instanceMethod ({ cls := "NowhereMoney", name := "feed", desc := "(IIIII)I" } : Jvm.MethodName)) := am_tb2 162 (by decide +kernel) rfl
theorem am_w26 : am_W (Cond.selects "NowhereMoney" ({ cls := "NowhereMoney", name := "feed", desc := "(IIIII)I" } : Jvm.MethodName) ({ cls := "NowhereMoney", name := "feed", desc := "(IIIII)I" } : Jvm.MethodName)) := am_tb2 163 (by decide +kernel) rfl
theorem am_w27 : am_W (Cond.code ({ cls := "NowhereMoneyModel", name := "feed", desc := "(IIIII)I" } : Jvm.MethodName) prog_13_method_12_code (8 : Nat) (Option.some Jvm.ClassFile.FieldType.int)) := am_tb6 6 (by decide +kernel) rfl
theorem am_w28 : am_W (Cond.instanceMethod ({ cls := "NowhereMoneyModel", name := "feed", desc := "(IIIII)I" } : Jvm.MethodName)) := am_tb6 4 (by decide +kernel) rfl
theorem am_w29 : am_W (Cond.selects "NowhereMoneyModel" ({ cls := "NowhereMoneyModel", name := "feed", desc := "(IIIII)I" } : Jvm.MethodName) ({ cls := "NowhereMoneyModel", name := "feed", desc := "(IIIII)I" } : Jvm.MethodName)) := am_tb6 5 (by decide +kernel) rfl
theorem am_w30 : am_W (Cond.code ({ cls := "NowhereMoney", name := "end", desc := "(I)Z" } : Jvm.MethodName) prog_1_method_6_code (2 : Nat) (Option.some Jvm.ClassFile.FieldType.boolean)) := am_tb2 172 (by decide +kernel) rfl
theorem am_w31 : am_W (Cond.instanceMethod ({ cls := "NowhereMoney", name := "end", desc := "(I)Z" } : Jvm.MethodName)) := am_tb2 170 (by decide +kernel) rfl
theorem am_w32 : am_W (Cond.selects "NowhereMoney" ({ cls := "NowhereMoney", name := "end", desc := "(I)Z" } : Jvm.MethodName) ({ cls := "NowhereMoney", name := "end", desc := "(I)Z" } : Jvm.MethodName)) := am_tb2 171 (by decide +kernel) rfl
theorem am_w33 : am_W (Cond.code ({ cls := "NowhereMoneyModel", name := "end", desc := "(I)Z" } : Jvm.MethodName) prog_13_method_13_code (2 : Nat) (Option.some Jvm.ClassFile.FieldType.boolean)) := am_tb6 10 (by decide +kernel) rfl
theorem am_w34 : am_W (Cond.instanceMethod ({ cls := "NowhereMoneyModel", name := "end", desc := "(I)Z" } : Jvm.MethodName)) := am_tb6 8 (by decide +kernel) rfl
theorem am_w35 : am_W (Cond.selects "NowhereMoneyModel" ({ cls := "NowhereMoneyModel", name := "end", desc := "(I)Z" } : Jvm.MethodName) ({ cls := "NowhereMoneyModel", name := "end", desc := "(I)Z" } : Jvm.MethodName)) := am_tb6 9 (by decide +kernel) rfl
theorem am_w36 : am_W (Cond.code ({ cls := "NowhereMoney", name := "text", desc := "(I)I" } : Jvm.MethodName) prog_1_method_7_code (3 : Nat) (Option.some Jvm.ClassFile.FieldType.int)) := am_tb2 176 (by decide +kernel) rfl
theorem am_w37 : am_W (Cond.instanceMethod ({ cls := "NowhereMoney", name := "text", desc := "(I)I" } : Jvm.MethodName)) := am_tb2 174 (by decide +kernel) rfl
theorem am_w38 : am_W (Cond.selects "NowhereMoney" ({ cls := "NowhereMoney", name := "text", desc := "(I)I" } : Jvm.MethodName) ({ cls := "NowhereMoney", name := "text", desc := "(I)I" } : Jvm.MethodName)) := am_tb2 175 (by decide +kernel) rfl
theorem am_w39 : am_W (Cond.code ({ cls := "NowhereMoneyModel", name := "text", desc := "(I)I" } : Jvm.MethodName) prog_13_method_33_code (4 : Nat) (Option.some Jvm.ClassFile.FieldType.int)) := am_tb6 14 (by decide +kernel) rfl
theorem am_w40 : am_W (Cond.instanceMethod ({ cls := "NowhereMoneyModel", name := "text", desc := "(I)I" } : Jvm.MethodName)) := am_tb6 12 (by decide +kernel) rfl
theorem am_w41 : am_W (Cond.selects "NowhereMoneyModel" ({ cls := "NowhereMoneyModel", name := "text", desc := "(I)I" } : Jvm.MethodName) ({ cls := "NowhereMoneyModel", name := "text", desc := "(I)I" } : Jvm.MethodName)) := am_tb6 13 (by decide +kernel) rfl
theorem am_w42 : am_W (Cond.code ({ cls := "NowhereMoney", name := "fault", desc := "(I)I" } : Jvm.MethodName) prog_1_method_8_code (2 : Nat) (Option.some Jvm.ClassFile.FieldType.int)) := am_tb3 163 (by decide +kernel) rfl
theorem am_w43 : am_W (Cond.instanceMethod ({ cls := "NowhereMoney", name := "fault", desc := "(I)I" } : Jvm.MethodName)) := am_tb3 161 (by decide +kernel) rfl
theorem am_w44 : am_W (Cond.selects "NowhereMoney" ({ cls := "NowhereMoney", name := "fault", desc := "(I)I" } : Jvm.MethodName) ({ cls := "NowhereMoney", name := "fault", desc := "(I)I" } : Jvm.MethodName)) := am_tb3 162 (by decide +kernel) rfl
theorem am_w45 : am_W (Cond.code ({ cls := "NowhereMoneyModel", name := "fault", desc := "(I)I" } : Jvm.MethodName) prog_13_method_34_code (2 : Nat) (Option.some Jvm.ClassFile.FieldType.int)) := am_tb6 113 (by decide +kernel) rfl
theorem am_w46 : am_W (Cond.instanceMethod ({ cls := "NowhereMoneyModel", name := "fault", desc := "(I)I" } : Jvm.MethodName)) := am_tb6 111 (by decide +kernel) rfl
theorem am_w47 : am_W (Cond.selects "NowhereMoneyModel" ({ cls := "NowhereMoneyModel", name := "fault", desc := "(I)I" } : Jvm.MethodName) ({ cls := "NowhereMoneyModel", name := "fault", desc := "(I)I" } : Jvm.MethodName)) := am_tb6 112 (by decide +kernel) rfl
theorem am_w48 : am_W (Cond.code ({ cls := "NowhereMoney", name := "cash", desc := "(III)Z" } : Jvm.MethodName) prog_1_method_9_code (6 : Nat) (Option.some Jvm.ClassFile.FieldType.boolean)) := am_tb3 167 (by decide +kernel) rfl
theorem am_w49 : am_W (Cond.instanceMethod ({ cls := "NowhereMoney", name := "cash", desc := "(III)Z" } : Jvm.MethodName)) := am_tb3 165 (by decide +kernel) rfl
theorem am_w50 : am_W (Cond.selects "NowhereMoney" ({ cls := "NowhereMoney", name := "cash", desc := "(III)Z" } : Jvm.MethodName) ({ cls := "NowhereMoney", name := "cash", desc := "(III)Z" } : Jvm.MethodName)) := am_tb3 166 (by decide +kernel) rfl
theorem am_w51 : am_W (Cond.code ({ cls := "NowhereMoneyModel", name := "cash", desc := "(III)Z" } : Jvm.MethodName) prog_13_method_47_code (4 : Nat) (Option.some Jvm.ClassFile.FieldType.boolean)) := am_tb6 122 (by decide +kernel) rfl
theorem am_w52 : am_W (Cond.instanceMethod ({ cls := "NowhereMoneyModel", name := "cash", desc := "(III)Z" } : Jvm.MethodName)) := am_tb6 120 (by decide +kernel) rfl
theorem am_w53 : am_W (Cond.selects "NowhereMoneyModel" ({ cls := "NowhereMoneyModel", name := "cash", desc := "(III)Z" } : Jvm.MethodName) ({ cls := "NowhereMoneyModel", name := "cash", desc := "(III)Z" } : Jvm.MethodName)) := am_tb6 121 (by decide +kernel) rfl
theorem am_w54 : am_W (Cond.code ({ cls := "NowhereMoney", name := "pay", desc := "(IIIII)I" } : Jvm.MethodName) prog_1_method_10_code (7 : Nat) (Option.some Jvm.ClassFile.FieldType.int)) := am_tb3 239 (by decide +kernel) rfl
theorem am_w55 : am_W (Cond.instanceMethod ({ cls := "NowhereMoney", name := "pay", desc := "(IIIII)I" } : Jvm.MethodName)) := am_tb3 237 (by decide +kernel) rfl
theorem am_w56 : am_W (Cond.selects "NowhereMoney" ({ cls := "NowhereMoney", name := "pay", desc := "(IIIII)I" } : Jvm.MethodName) ({ cls := "NowhereMoney", name := "pay", desc := "(IIIII)I" } : Jvm.MethodName)) := am_tb3 238 (by decide +kernel) rfl
theorem am_w57 : am_W (Cond.code ({ cls := "NowhereMoneyModel", name := "pay", desc := "(IIIII)I" } : Jvm.MethodName) prog_13_method_48_code (9 : Nat) (Option.some Jvm.ClassFile.FieldType.int)) := am_tb6 170 (by decide +kernel) rfl
theorem am_w58 : am_W (Cond.instanceMethod ({ cls := "NowhereMoneyModel", name := "pay", desc := "(IIIII)I" } : Jvm.MethodName)) := am_tb6 168 (by decide +kernel) rfl
theorem am_w59 : am_W (Cond.selects "NowhereMoneyModel" ({ cls := "NowhereMoneyModel", name := "pay", desc := "(IIIII)I" } : Jvm.MethodName) ({ cls := "NowhereMoneyModel", name := "pay", desc := "(IIIII)I" } : Jvm.MethodName)) := am_tb6 169 (by decide +kernel) rfl
theorem am_w60 : am_W (Cond.code ({ cls := "NowhereMoney", name := "day", desc := "()I" } : Jvm.MethodName) prog_1_method_11_code (3 : Nat) (Option.some Jvm.ClassFile.FieldType.int)) := am_tb4 17 (by decide +kernel) rfl
theorem am_w61 : am_W (Cond.instanceMethod ({ cls := "NowhereMoney", name := "day", desc := "()I" } : Jvm.MethodName)) := am_tb4 15 (by decide +kernel) rfl
theorem am_w62 : am_W (Cond.selects "NowhereMoney" ({ cls := "NowhereMoney", name := "day", desc := "()I" } : Jvm.MethodName) ({ cls := "NowhereMoney", name := "day", desc := "()I" } : Jvm.MethodName)) := am_tb4 16 (by decide +kernel) rfl
theorem am_w63 : am_W (Cond.code ({ cls := "NowhereMoneyModel", name := "day", desc := "()I" } : Jvm.MethodName) prog_13_method_65_code (6 : Nat) (Option.some Jvm.ClassFile.FieldType.int)) := am_tb6 227 (by decide +kernel) rfl
theorem am_w64 : am_W (Cond.instanceMethod ({ cls := "NowhereMoneyModel", name := "day", desc := "()I" } : Jvm.MethodName)) := am_tb6 225 (by decide +kernel) rfl
theorem am_w65 : am_W (Cond.selects "NowhereMoneyModel" ({ cls := "NowhereMoneyModel", name := "day", desc := "()I" } : Jvm.MethodName) ({ cls := "NowhereMoneyModel", name := "day", desc := "()I" } : Jvm.MethodName)) := am_tb6 226 (by decide +kernel) rfl
theorem am_w66 : am_W (Cond.code ({ cls := "NowhereMoney", name := "book", desc := "(III)I" } : Jvm.MethodName) prog_1_method_12_code (5 : Nat) (Option.some Jvm.ClassFile.FieldType.int)) := am_tb4 108 (by decide +kernel) rfl
theorem am_w67 : am_W (Cond.instanceMethod ({ cls := "NowhereMoney", name := "book", desc := "(III)I" } : Jvm.MethodName)) := am_tb4 106 (by decide +kernel) rfl
theorem am_w68 : am_W (Cond.selects "NowhereMoney" ({ cls := "NowhereMoney", name := "book", desc := "(III)I" } : Jvm.MethodName) ({ cls := "NowhereMoney", name := "book", desc := "(III)I" } : Jvm.MethodName)) := am_tb4 107 (by decide +kernel) rfl
theorem am_w69 : am_W (Cond.code ({ cls := "NowhereMoneyModel", name := "book", desc := "(III)I" } : Jvm.MethodName) prog_13_method_49_code (4 : Nat) (Option.some Jvm.ClassFile.FieldType.int)) := am_tb6 183 (by decide +kernel) rfl
theorem am_w70 : am_W (Cond.instanceMethod ({ cls := "NowhereMoneyModel", name := "book", desc := "(III)I" } : Jvm.MethodName)) := am_tb6 181 (by decide +kernel) rfl
theorem am_w71 : am_W (Cond.selects "NowhereMoneyModel" ({ cls := "NowhereMoneyModel", name := "book", desc := "(III)I" } : Jvm.MethodName) ({ cls := "NowhereMoneyModel", name := "book", desc := "(III)I" } : Jvm.MethodName)) := am_tb6 182 (by decide +kernel) rfl
theorem am_w72 : am_W (Cond.code ({ cls := "NowhereMoney", name := "cheque", desc := "(II)I" } : Jvm.MethodName) prog_1_method_13_code (3 : Nat) (Option.some Jvm.ClassFile.FieldType.int)) := am_tb4 115 (by decide +kernel) rfl
theorem am_w73 : am_W (Cond.instanceMethod ({ cls := "NowhereMoney", name := "cheque", desc := "(II)I" } : Jvm.MethodName)) := am_tb4 113 (by decide +kernel) rfl
theorem am_w74 : am_W (Cond.selects "NowhereMoney" ({ cls := "NowhereMoney", name := "cheque", desc := "(II)I" } : Jvm.MethodName) ({ cls := "NowhereMoney", name := "cheque", desc := "(II)I" } : Jvm.MethodName)) := am_tb4 114 (by decide +kernel) rfl
theorem am_w75 : am_W (Cond.code ({ cls := "NowhereMoneyModel", name := "cheque", desc := "(II)I" } : Jvm.MethodName) prog_13_method_50_code (3 : Nat) (Option.some Jvm.ClassFile.FieldType.int)) := am_tb6 187 (by decide +kernel) rfl
theorem am_w76 : am_W (Cond.instanceMethod ({ cls := "NowhereMoneyModel", name := "cheque", desc := "(II)I" } : Jvm.MethodName)) := am_tb6 185 (by decide +kernel) rfl
theorem am_w77 : am_W (Cond.selects "NowhereMoneyModel" ({ cls := "NowhereMoneyModel", name := "cheque", desc := "(II)I" } : Jvm.MethodName) ({ cls := "NowhereMoneyModel", name := "cheque", desc := "(II)I" } : Jvm.MethodName)) := am_tb6 186 (by decide +kernel) rfl
theorem am_w78 : am_W (Cond.code ({ cls := "NowhereMoney", name := "really", desc := "(II)I" } : Jvm.MethodName) prog_1_method_14_code (5 : Nat) (Option.some Jvm.ClassFile.FieldType.int)) := am_tb4 123 (by decide +kernel) rfl
theorem am_w79 : am_W (Cond.instanceMethod ({ cls := "NowhereMoney", name := "really", desc := "(II)I" } : Jvm.MethodName)) := am_tb4 121 (by decide +kernel) rfl
theorem am_w80 : am_W (Cond.selects "NowhereMoney" ({ cls := "NowhereMoney", name := "really", desc := "(II)I" } : Jvm.MethodName) ({ cls := "NowhereMoney", name := "really", desc := "(II)I" } : Jvm.MethodName)) := am_tb4 122 (by decide +kernel) rfl
theorem am_w81 : am_W (Cond.code ({ cls := "NowhereMoneyModel", name := "really", desc := "(II)I" } : Jvm.MethodName) prog_13_method_55_code (3 : Nat) (Option.some Jvm.ClassFile.FieldType.int)) := am_tb6 199 (by decide +kernel) rfl
theorem am_w82 : am_W (Cond.instanceMethod ({ cls := "NowhereMoneyModel", name := "really", desc := "(II)I" } : Jvm.MethodName)) := am_tb6 197 (by decide +kernel) rfl
theorem am_w83 : am_W (Cond.selects "NowhereMoneyModel" ({ cls := "NowhereMoneyModel", name := "really", desc := "(II)I" } : Jvm.MethodName) ({ cls := "NowhereMoneyModel", name := "really", desc := "(II)I" } : Jvm.MethodName)) := am_tb6 198 (by decide +kernel) rfl
theorem am_w84 : am_W (Cond.code ({ cls := "NowhereMoney", name := "kept", desc := "(III)I" } : Jvm.MethodName) prog_1_method_15_code (5 : Nat) (Option.some Jvm.ClassFile.FieldType.int)) := am_tb4 129 (by decide +kernel) rfl
theorem am_w85 : am_W (Cond.instanceMethod ({ cls := "NowhereMoney", name := "kept", desc := "(III)I" } : Jvm.MethodName)) := am_tb4 127 (by decide +kernel) rfl
theorem am_w86 : am_W (Cond.selects "NowhereMoney" ({ cls := "NowhereMoney", name := "kept", desc := "(III)I" } : Jvm.MethodName) ({ cls := "NowhereMoney", name := "kept", desc := "(III)I" } : Jvm.MethodName)) := am_tb4 128 (by decide +kernel) rfl
theorem am_w87 : am_W (Cond.code ({ cls := "NowhereMoneyModel", name := "kept", desc := "(III)I" } : Jvm.MethodName) prog_13_method_56_code (4 : Nat) (Option.some Jvm.ClassFile.FieldType.int)) := am_tb6 211 (by decide +kernel) rfl
theorem am_w88 : am_W (Cond.instanceMethod ({ cls := "NowhereMoneyModel", name := "kept", desc := "(III)I" } : Jvm.MethodName)) := am_tb6 209 (by decide +kernel) rfl
theorem am_w89 : am_W (Cond.selects "NowhereMoneyModel" ({ cls := "NowhereMoneyModel", name := "kept", desc := "(III)I" } : Jvm.MethodName) ({ cls := "NowhereMoneyModel", name := "kept", desc := "(III)I" } : Jvm.MethodName)) := am_tb6 210 (by decide +kernel) rfl
theorem am_w90 : am_W (Cond.code ({ cls := "NowhereMoney", name := "sums", desc := "(I)I" } : Jvm.MethodName) prog_1_method_16_code (3 : Nat) (Option.some Jvm.ClassFile.FieldType.int)) := am_tb4 133 (by decide +kernel) rfl
theorem am_w91 : am_W (Cond.instanceMethod ({ cls := "NowhereMoney", name := "sums", desc := "(I)I" } : Jvm.MethodName)) := am_tb4 131 (by decide +kernel) rfl
theorem am_w92 : am_W (Cond.selects "NowhereMoney" ({ cls := "NowhereMoney", name := "sums", desc := "(I)I" } : Jvm.MethodName) ({ cls := "NowhereMoney", name := "sums", desc := "(I)I" } : Jvm.MethodName)) := am_tb4 132 (by decide +kernel) rfl
theorem am_w93 : am_W (Cond.code ({ cls := "NowhereMoneyModel", name := "sums", desc := "(I)I" } : Jvm.MethodName) prog_13_method_59_code (4 : Nat) (Option.some Jvm.ClassFile.FieldType.int)) := am_tb6 215 (by decide +kernel) rfl
theorem am_w94 : am_W (Cond.instanceMethod ({ cls := "NowhereMoneyModel", name := "sums", desc := "(I)I" } : Jvm.MethodName)) := am_tb6 213 (by decide +kernel) rfl
theorem am_w95 : am_W (Cond.selects "NowhereMoneyModel" ({ cls := "NowhereMoneyModel", name := "sums", desc := "(I)I" } : Jvm.MethodName) ({ cls := "NowhereMoneyModel", name := "sums", desc := "(I)I" } : Jvm.MethodName)) := am_tb6 214 (by decide +kernel) rfl
theorem am_w96 : am_W (Cond.code ({ cls := "NowhereMoney", name := "flight", desc := "(III)I" } : Jvm.MethodName) prog_1_method_17_code (4 : Nat) (Option.some Jvm.ClassFile.FieldType.int)) := am_tb4 148 (by decide +kernel) rfl
theorem am_w97 : am_W (Cond.instanceMethod ({ cls := "NowhereMoney", name := "flight", desc := "(III)I" } : Jvm.MethodName)) := am_tb4 146 (by decide +kernel) rfl
theorem am_w98 : am_W (Cond.selects "NowhereMoney" ({ cls := "NowhereMoney", name := "flight", desc := "(III)I" } : Jvm.MethodName) ({ cls := "NowhereMoney", name := "flight", desc := "(III)I" } : Jvm.MethodName)) := am_tb4 147 (by decide +kernel) rfl
theorem am_w99 : am_W (Cond.code ({ cls := "NowhereMoneyModel", name := "flight", desc := "(III)I" } : Jvm.MethodName) prog_13_method_68_code (4 : Nat) (Option.some Jvm.ClassFile.FieldType.int)) := am_tb7 34 (by decide +kernel) rfl
theorem am_w100 : am_W (Cond.instanceMethod ({ cls := "NowhereMoneyModel", name := "flight", desc := "(III)I" } : Jvm.MethodName)) := am_tb7 32 (by decide +kernel) rfl
theorem am_w101 : am_W (Cond.selects "NowhereMoneyModel" ({ cls := "NowhereMoneyModel", name := "flight", desc := "(III)I" } : Jvm.MethodName) ({ cls := "NowhereMoneyModel", name := "flight", desc := "(III)I" } : Jvm.MethodName)) := am_tb7 33 (by decide +kernel) rfl
theorem am_w102 : am_W (Cond.code ({ cls := "NowhereMoney", name := "ring", desc := "(IIII)I" } : Jvm.MethodName) prog_1_method_18_code (5 : Nat) (Option.some Jvm.ClassFile.FieldType.int)) := am_tb4 163 (by decide +kernel) rfl
theorem am_w103 : am_W (Cond.instanceMethod ({ cls := "NowhereMoney", name := "ring", desc := "(IIII)I" } : Jvm.MethodName)) := am_tb4 161 (by decide +kernel) rfl
theorem am_w104 : am_W (Cond.selects "NowhereMoney" ({ cls := "NowhereMoney", name := "ring", desc := "(IIII)I" } : Jvm.MethodName) ({ cls := "NowhereMoney", name := "ring", desc := "(IIII)I" } : Jvm.MethodName)) := am_tb4 162 (by decide +kernel) rfl
theorem am_w105 : am_W (Cond.code ({ cls := "NowhereMoneyModel", name := "ring", desc := "(IIII)I" } : Jvm.MethodName) prog_13_method_71_code (7 : Nat) (Option.some Jvm.ClassFile.FieldType.int)) := am_tb7 46 (by decide +kernel) rfl
theorem am_w106 : am_W (Cond.instanceMethod ({ cls := "NowhereMoneyModel", name := "ring", desc := "(IIII)I" } : Jvm.MethodName)) := am_tb7 44 (by decide +kernel) rfl
theorem am_w107 : am_W (Cond.selects "NowhereMoneyModel" ({ cls := "NowhereMoneyModel", name := "ring", desc := "(IIII)I" } : Jvm.MethodName) ({ cls := "NowhereMoneyModel", name := "ring", desc := "(IIII)I" } : Jvm.MethodName)) := am_tb7 45 (by decide +kernel) rfl
theorem am_w108 : am_W (Cond.code ({ cls := "NowhereMoney", name := "letIn", desc := "(IIII)I" } : Jvm.MethodName) prog_1_method_19_code (5 : Nat) (Option.some Jvm.ClassFile.FieldType.int)) := am_tb4 190 (by decide +kernel) rfl
theorem am_w109 : am_W (Cond.instanceMethod ({ cls := "NowhereMoney", name := "letIn", desc := "(IIII)I" } : Jvm.MethodName)) := am_tb4 188 (by decide +kernel) rfl
theorem am_w110 : am_W (Cond.selects "NowhereMoney" ({ cls := "NowhereMoney", name := "letIn", desc := "(IIII)I" } : Jvm.MethodName) ({ cls := "NowhereMoney", name := "letIn", desc := "(IIII)I" } : Jvm.MethodName)) := am_tb4 189 (by decide +kernel) rfl
theorem am_w111 : am_W (Cond.code ({ cls := "NowhereMoneyModel", name := "letIn", desc := "(IIII)I" } : Jvm.MethodName) prog_13_method_72_code (6 : Nat) (Option.some Jvm.ClassFile.FieldType.int)) := am_tb7 58 (by decide +kernel) rfl
theorem am_w112 : am_W (Cond.instanceMethod ({ cls := "NowhereMoneyModel", name := "letIn", desc := "(IIII)I" } : Jvm.MethodName)) := am_tb7 56 (by decide +kernel) rfl
theorem am_w113 : am_W (Cond.selects "NowhereMoneyModel" ({ cls := "NowhereMoneyModel", name := "letIn", desc := "(IIII)I" } : Jvm.MethodName) ({ cls := "NowhereMoneyModel", name := "letIn", desc := "(IIII)I" } : Jvm.MethodName)) := am_tb7 57 (by decide +kernel) rfl
theorem am_w114 : am_W (Cond.code ({ cls := "NowhereMoney", name := "leastHold", desc := "(III)I" } : Jvm.MethodName) prog_1_method_20_code (10 : Nat) (Option.some Jvm.ClassFile.FieldType.int)) := am_tb4 194 (by decide +kernel) rfl
theorem am_w115 : am_W (Cond.instanceMethod ({ cls := "NowhereMoney", name := "leastHold", desc := "(III)I" } : Jvm.MethodName)) := am_tb4 192 (by decide +kernel) rfl
theorem am_w116 : am_W (Cond.selects "NowhereMoney" ({ cls := "NowhereMoney", name := "leastHold", desc := "(III)I" } : Jvm.MethodName) ({ cls := "NowhereMoney", name := "leastHold", desc := "(III)I" } : Jvm.MethodName)) := am_tb4 193 (by decide +kernel) rfl
theorem am_w117 : am_W (Cond.code ({ cls := "NowhereMoneyModel", name := "leastHold", desc := "(III)I" } : Jvm.MethodName) prog_13_method_73_code (8 : Nat) (Option.some Jvm.ClassFile.FieldType.int)) := am_tb7 63 (by decide +kernel) rfl
theorem am_w118 : am_W (Cond.instanceMethod ({ cls := "NowhereMoneyModel", name := "leastHold", desc := "(III)I" } : Jvm.MethodName)) := am_tb7 61 (by decide +kernel) rfl
theorem am_w119 : am_W (Cond.selects "NowhereMoneyModel" ({ cls := "NowhereMoneyModel", name := "leastHold", desc := "(III)I" } : Jvm.MethodName) ({ cls := "NowhereMoneyModel", name := "leastHold", desc := "(III)I" } : Jvm.MethodName)) := am_tb7 62 (by decide +kernel) rfl
theorem am_w120 : am_W (Cond.code ({ cls := "NowhereMoney", name := "chain", desc := "(II)I" } : Jvm.MethodName) prog_1_method_21_code (7 : Nat) (Option.some Jvm.ClassFile.FieldType.int)) := am_tb4 199 (by decide +kernel) rfl
theorem am_w121 : am_W (Cond.instanceMethod ({ cls := "NowhereMoney", name := "chain", desc := "(II)I" } : Jvm.MethodName)) := am_tb4 197 (by decide +kernel) rfl
theorem am_w122 : am_W (Cond.selects "NowhereMoney" ({ cls := "NowhereMoney", name := "chain", desc := "(II)I" } : Jvm.MethodName) ({ cls := "NowhereMoney", name := "chain", desc := "(II)I" } : Jvm.MethodName)) := am_tb4 198 (by decide +kernel) rfl
theorem am_w123 : am_W (Cond.code ({ cls := "NowhereMoneyModel", name := "chain", desc := "(II)I" } : Jvm.MethodName) prog_13_method_52_code (6 : Nat) (Option.some Jvm.ClassFile.FieldType.int)) := am_tb6 191 (by decide +kernel) rfl
theorem am_w124 : am_W (Cond.instanceMethod ({ cls := "NowhereMoneyModel", name := "chain", desc := "(II)I" } : Jvm.MethodName)) := am_tb6 189 (by decide +kernel) rfl
theorem am_w125 : am_W (Cond.selects "NowhereMoneyModel" ({ cls := "NowhereMoneyModel", name := "chain", desc := "(II)I" } : Jvm.MethodName) ({ cls := "NowhereMoneyModel", name := "chain", desc := "(II)I" } : Jvm.MethodName)) := am_tb6 190 (by decide +kernel) rfl
theorem am_w126 : am_W (Cond.code ({ cls := "NowhereMoney", name := "entry", desc := "(II)I" } : Jvm.MethodName) prog_1_method_22_code (3 : Nat) (Option.some Jvm.ClassFile.FieldType.int)) := am_tb4 208 (by decide +kernel) rfl
theorem am_w127 : am_W (Cond.instanceMethod ({ cls := "NowhereMoney", name := "entry", desc := "(II)I" } : Jvm.MethodName)) := am_tb4 206 (by decide +kernel) rfl
theorem am_w128 : am_W (Cond.selects "NowhereMoney" ({ cls := "NowhereMoney", name := "entry", desc := "(II)I" } : Jvm.MethodName) ({ cls := "NowhereMoney", name := "entry", desc := "(II)I" } : Jvm.MethodName)) := am_tb4 207 (by decide +kernel) rfl
theorem am_w129 : am_W (Cond.code ({ cls := "NowhereMoneyModel", name := "entry", desc := "(II)I" } : Jvm.MethodName) prog_13_method_46_code (3 : Nat) (Option.some Jvm.ClassFile.FieldType.int)) := am_tb6 117 (by decide +kernel) rfl
theorem am_w130 : am_W (Cond.instanceMethod ({ cls := "NowhereMoneyModel", name := "entry", desc := "(II)I" } : Jvm.MethodName)) := am_tb6 115 (by decide +kernel) rfl
theorem am_w131 : am_W (Cond.selects "NowhereMoneyModel" ({ cls := "NowhereMoneyModel", name := "entry", desc := "(II)I" } : Jvm.MethodName) ({ cls := "NowhereMoneyModel", name := "entry", desc := "(II)I" } : Jvm.MethodName)) := am_tb6 116 (by decide +kernel) rfl
theorem am_w132 : am_W (Cond.code ({ cls := "NowhereMoney", name := "growth", desc := "(III)I" } : Jvm.MethodName) prog_1_method_23_code (8 : Nat) (Option.some Jvm.ClassFile.FieldType.int)) := am_tb4 212 (by decide +kernel) rfl
theorem am_w133 : am_W (Cond.instanceMethod ({ cls := "NowhereMoney", name := "growth", desc := "(III)I" } : Jvm.MethodName)) := am_tb4 210 (by decide +kernel) rfl
theorem am_w134 : am_W (Cond.selects "NowhereMoney" ({ cls := "NowhereMoney", name := "growth", desc := "(III)I" } : Jvm.MethodName) ({ cls := "NowhereMoney", name := "growth", desc := "(III)I" } : Jvm.MethodName)) := am_tb4 211 (by decide +kernel) rfl
theorem am_w135 : am_W (Cond.code ({ cls := "NowhereMoneyModel", name := "growth", desc := "(III)I" } : Jvm.MethodName) prog_13_method_74_code (7 : Nat) (Option.some Jvm.ClassFile.FieldType.int)) := am_tb7 67 (by decide +kernel) rfl
theorem am_w136 : am_W (Cond.instanceMethod ({ cls := "NowhereMoneyModel", name := "growth", desc := "(III)I" } : Jvm.MethodName)) := am_tb7 65 (by decide +kernel) rfl
theorem am_w137 : am_W (Cond.selects "NowhereMoneyModel" ({ cls := "NowhereMoneyModel", name := "growth", desc := "(III)I" } : Jvm.MethodName) ({ cls := "NowhereMoneyModel", name := "growth", desc := "(III)I" } : Jvm.MethodName)) := am_tb7 66 (by decide +kernel) rfl
theorem am_w138 : am_W (Cond.code ({ cls := "NowhereMoney", name := "sign", desc := "(III)I" } : Jvm.MethodName) prog_1_method_24_code (4 : Nat) (Option.some Jvm.ClassFile.FieldType.int)) := am_tb4 222 (by decide +kernel) rfl
theorem am_w139 : am_W (Cond.instanceMethod ({ cls := "NowhereMoney", name := "sign", desc := "(III)I" } : Jvm.MethodName)) := am_tb4 220 (by decide +kernel) rfl
theorem am_w140 : am_W (Cond.selects "NowhereMoney" ({ cls := "NowhereMoney", name := "sign", desc := "(III)I" } : Jvm.MethodName) ({ cls := "NowhereMoney", name := "sign", desc := "(III)I" } : Jvm.MethodName)) := am_tb4 221 (by decide +kernel) rfl
theorem am_w141 : am_W (Cond.code ({ cls := "NowhereMoneyModel", name := "sign", desc := "(III)I" } : Jvm.MethodName) prog_13_method_78_code (5 : Nat) (Option.some Jvm.ClassFile.FieldType.int)) := am_tb7 74 (by decide +kernel) rfl
theorem am_w142 : am_W (Cond.instanceMethod ({ cls := "NowhereMoneyModel", name := "sign", desc := "(III)I" } : Jvm.MethodName)) := am_tb7 72 (by decide +kernel) rfl
theorem am_w143 : am_W (Cond.selects "NowhereMoneyModel" ({ cls := "NowhereMoneyModel", name := "sign", desc := "(III)I" } : Jvm.MethodName) ({ cls := "NowhereMoneyModel", name := "sign", desc := "(III)I" } : Jvm.MethodName)) := am_tb7 73 (by decide +kernel) rfl
theorem am_w144 : am_W (Cond.code ({ cls := "NowhereMoney", name := "kiters", desc := "(I)Z" } : Jvm.MethodName) prog_1_method_25_code (2 : Nat) (Option.some Jvm.ClassFile.FieldType.boolean)) := am_tb4 231 (by decide +kernel) rfl
theorem am_w145 : am_W (Cond.instanceMethod ({ cls := "NowhereMoney", name := "kiters", desc := "(I)Z" } : Jvm.MethodName)) := am_tb4 229 (by decide +kernel) rfl
theorem am_w146 : am_W (Cond.selects "NowhereMoney" ({ cls := "NowhereMoney", name := "kiters", desc := "(I)Z" } : Jvm.MethodName) ({ cls := "NowhereMoney", name := "kiters", desc := "(I)Z" } : Jvm.MethodName)) := am_tb4 230 (by decide +kernel) rfl
theorem am_w147 : am_W (Cond.code ({ cls := "NowhereMoneyModel", name := "kiters", desc := "(I)Z" } : Jvm.MethodName) prog_13_method_79_code (2 : Nat) (Option.some Jvm.ClassFile.FieldType.boolean)) := am_tb7 78 (by decide +kernel) rfl
theorem am_w148 : am_W (Cond.instanceMethod ({ cls := "NowhereMoneyModel", name := "kiters", desc := "(I)Z" } : Jvm.MethodName)) := am_tb7 76 (by decide +kernel) rfl
theorem am_w149 : am_W (Cond.selects "NowhereMoneyModel" ({ cls := "NowhereMoneyModel", name := "kiters", desc := "(I)Z" } : Jvm.MethodName) ({ cls := "NowhereMoneyModel", name := "kiters", desc := "(I)Z" } : Jvm.MethodName)) := am_tb7 77 (by decide +kernel) rfl
theorem am_w150 : am_W (Cond.code ({ cls := "NowhereMoney", name := "cries", desc := "(II)I" } : Jvm.MethodName) prog_1_method_26_code (6 : Nat) (Option.some Jvm.ClassFile.FieldType.int)) := am_tb4 235 (by decide +kernel) rfl
theorem am_w151 : am_W (Cond.instanceMethod ({ cls := "NowhereMoney", name := "cries", desc := "(II)I" } : Jvm.MethodName)) := am_tb4 233 (by decide +kernel) rfl
theorem am_w152 : am_W (Cond.selects "NowhereMoney" ({ cls := "NowhereMoney", name := "cries", desc := "(II)I" } : Jvm.MethodName) ({ cls := "NowhereMoney", name := "cries", desc := "(II)I" } : Jvm.MethodName)) := am_tb4 234 (by decide +kernel) rfl
theorem am_w153 : am_W (Cond.code ({ cls := "NowhereMoneyModel", name := "cries", desc := "(II)I" } : Jvm.MethodName) prog_13_method_81_code (5 : Nat) (Option.some Jvm.ClassFile.FieldType.int)) := am_tb7 82 (by decide +kernel) rfl
theorem am_w154 : am_W (Cond.instanceMethod ({ cls := "NowhereMoneyModel", name := "cries", desc := "(II)I" } : Jvm.MethodName)) := am_tb7 80 (by decide +kernel) rfl
theorem am_w155 : am_W (Cond.selects "NowhereMoneyModel" ({ cls := "NowhereMoneyModel", name := "cries", desc := "(II)I" } : Jvm.MethodName) ({ cls := "NowhereMoneyModel", name := "cries", desc := "(II)I" } : Jvm.MethodName)) := am_tb7 81 (by decide +kernel) rfl
theorem am_w156 : am_W (Cond.code ({ cls := "NowhereMoney", name := "like", desc := "(III)I" } : Jvm.MethodName) prog_1_method_27_code (9 : Nat) (Option.some Jvm.ClassFile.FieldType.int)) := am_tb5 4 (by decide +kernel) rfl
theorem am_w157 : am_W (Cond.instanceMethod ({ cls := "NowhereMoney", name := "like", desc := "(III)I" } : Jvm.MethodName)) := am_tb5 2 (by decide +kernel) rfl
theorem am_w158 : am_W (Cond.selects "NowhereMoney" ({ cls := "NowhereMoney", name := "like", desc := "(III)I" } : Jvm.MethodName) ({ cls := "NowhereMoney", name := "like", desc := "(III)I" } : Jvm.MethodName)) := am_tb5 3 (by decide +kernel) rfl
theorem am_w159 : am_W (Cond.code ({ cls := "NowhereMoneyModel", name := "like", desc := "(III)I" } : Jvm.MethodName) prog_13_method_82_code (8 : Nat) (Option.some Jvm.ClassFile.FieldType.int)) := am_tb7 89 (by decide +kernel) rfl
theorem am_w160 : am_W (Cond.instanceMethod ({ cls := "NowhereMoneyModel", name := "like", desc := "(III)I" } : Jvm.MethodName)) := am_tb7 87 (by decide +kernel) rfl
theorem am_w161 : am_W (Cond.selects "NowhereMoneyModel" ({ cls := "NowhereMoneyModel", name := "like", desc := "(III)I" } : Jvm.MethodName) ({ cls := "NowhereMoneyModel", name := "like", desc := "(III)I" } : Jvm.MethodName)) := am_tb7 88 (by decide +kernel) rfl
theorem am_w162 : am_W (Cond.code ({ cls := "NowhereMoney", name := "alone", desc := "(II)I" } : Jvm.MethodName) prog_1_method_28_code (3 : Nat) (Option.some Jvm.ClassFile.FieldType.int)) := am_tb5 16 (by decide +kernel) rfl
theorem am_w163 : am_W (Cond.instanceMethod ({ cls := "NowhereMoney", name := "alone", desc := "(II)I" } : Jvm.MethodName)) := am_tb5 14 (by decide +kernel) rfl
theorem am_w164 : am_W (Cond.selects "NowhereMoney" ({ cls := "NowhereMoney", name := "alone", desc := "(II)I" } : Jvm.MethodName) ({ cls := "NowhereMoney", name := "alone", desc := "(II)I" } : Jvm.MethodName)) := am_tb5 15 (by decide +kernel) rfl
theorem am_w165 : am_W (Cond.code ({ cls := "NowhereMoneyModel", name := "alone", desc := "(II)I" } : Jvm.MethodName) prog_13_method_83_code (3 : Nat) (Option.some Jvm.ClassFile.FieldType.int)) := am_tb7 93 (by decide +kernel) rfl
theorem am_w166 : am_W (Cond.instanceMethod ({ cls := "NowhereMoneyModel", name := "alone", desc := "(II)I" } : Jvm.MethodName)) := am_tb7 91 (by decide +kernel) rfl
theorem am_w167 : am_W (Cond.selects "NowhereMoneyModel" ({ cls := "NowhereMoneyModel", name := "alone", desc := "(II)I" } : Jvm.MethodName) ({ cls := "NowhereMoneyModel", name := "alone", desc := "(II)I" } : Jvm.MethodName)) := am_tb7 92 (by decide +kernel) rfl
theorem am_w168 : am_W (Cond.code ({ cls := "NowhereMoney", name := "ending", desc := "(II)I" } : Jvm.MethodName) prog_1_method_29_code (7 : Nat) (Option.some Jvm.ClassFile.FieldType.int)) := am_tb5 20 (by decide +kernel) rfl
theorem am_w169 : am_W (Cond.instanceMethod ({ cls := "NowhereMoney", name := "ending", desc := "(II)I" } : Jvm.MethodName)) := am_tb5 18 (by decide +kernel) rfl
theorem am_w170 : am_W (Cond.selects "NowhereMoney" ({ cls := "NowhereMoney", name := "ending", desc := "(II)I" } : Jvm.MethodName) ({ cls := "NowhereMoney", name := "ending", desc := "(II)I" } : Jvm.MethodName)) := am_tb5 19 (by decide +kernel) rfl
theorem am_w171 : am_W (Cond.code ({ cls := "NowhereMoneyModel", name := "ending", desc := "(II)I" } : Jvm.MethodName) prog_13_method_87_code (5 : Nat) (Option.some Jvm.ClassFile.FieldType.int)) := am_tb7 97 (by decide +kernel) rfl
theorem am_w172 : am_W (Cond.instanceMethod ({ cls := "NowhereMoneyModel", name := "ending", desc := "(II)I" } : Jvm.MethodName)) := am_tb7 95 (by decide +kernel) rfl
theorem am_w173 : am_W (Cond.selects "NowhereMoneyModel" ({ cls := "NowhereMoneyModel", name := "ending", desc := "(II)I" } : Jvm.MethodName) ({ cls := "NowhereMoneyModel", name := "ending", desc := "(II)I" } : Jvm.MethodName)) := am_tb7 96 (by decide +kernel) rfl
theorem am_w174 : am_W (Cond.code ({ cls := "NowhereMoney", name := "snowed", desc := "()I" } : Jvm.MethodName) prog_1_method_30_code (6 : Nat) (Option.some Jvm.ClassFile.FieldType.int)) := am_tb5 42 (by decide +kernel) rfl
theorem am_w175 : am_W (Cond.instanceMethod ({ cls := "NowhereMoney", name := "snowed", desc := "()I" } : Jvm.MethodName)) := am_tb5 40 (by decide +kernel) rfl
theorem am_w176 : am_W (Cond.selects "NowhereMoney" ({ cls := "NowhereMoney", name := "snowed", desc := "()I" } : Jvm.MethodName) ({ cls := "NowhereMoney", name := "snowed", desc := "()I" } : Jvm.MethodName)) := am_tb5 41 (by decide +kernel) rfl
theorem am_w177 : am_W (Cond.code ({ cls := "NowhereMoneyModel", name := "snowed", desc := "()I" } : Jvm.MethodName) prog_13_method_88_code (4 : Nat) (Option.some Jvm.ClassFile.FieldType.int)) := am_tb7 113 (by decide +kernel) rfl
theorem am_w178 : am_W (Cond.instanceMethod ({ cls := "NowhereMoneyModel", name := "snowed", desc := "()I" } : Jvm.MethodName)) := am_tb7 111 (by decide +kernel) rfl
theorem am_w179 : am_W (Cond.selects "NowhereMoneyModel" ({ cls := "NowhereMoneyModel", name := "snowed", desc := "()I" } : Jvm.MethodName) ({ cls := "NowhereMoneyModel", name := "snowed", desc := "()I" } : Jvm.MethodName)) := am_tb7 112 (by decide +kernel) rfl
theorem am_w180 : am_W (Cond.code ({ cls := "NowhereMoney", name := "payment", desc := "(II)I" } : Jvm.MethodName) prog_1_method_31_code (3 : Nat) (Option.some Jvm.ClassFile.FieldType.int)) := am_tb5 48 (by decide +kernel) rfl
theorem am_w181 : am_W (Cond.instanceMethod ({ cls := "NowhereMoney", name := "payment", desc := "(II)I" } : Jvm.MethodName)) := am_tb5 46 (by decide +kernel) rfl
theorem am_w182 : am_W (Cond.selects "NowhereMoney" ({ cls := "NowhereMoney", name := "payment", desc := "(II)I" } : Jvm.MethodName) ({ cls := "NowhereMoney", name := "payment", desc := "(II)I" } : Jvm.MethodName)) := am_tb5 47 (by decide +kernel) rfl
theorem am_w183 : am_W (Cond.code ({ cls := "NowhereMoneyModel", name := "payment", desc := "(II)I" } : Jvm.MethodName) prog_13_method_89_code (3 : Nat) (Option.some Jvm.ClassFile.FieldType.int)) := am_tb7 117 (by decide +kernel) rfl
theorem am_w184 : am_W (Cond.instanceMethod ({ cls := "NowhereMoneyModel", name := "payment", desc := "(II)I" } : Jvm.MethodName)) := am_tb7 115 (by decide +kernel) rfl
theorem am_w185 : am_W (Cond.selects "NowhereMoneyModel" ({ cls := "NowhereMoneyModel", name := "payment", desc := "(II)I" } : Jvm.MethodName) ({ cls := "NowhereMoneyModel", name := "payment", desc := "(II)I" } : Jvm.MethodName)) := am_tb7 116 (by decide +kernel) rfl
theorem am_w186 : am_W (Cond.code ({ cls := "NowhereMoney", name := "payFloat", desc := "(II)I" } : Jvm.MethodName) prog_1_method_32_code (3 : Nat) (Option.some Jvm.ClassFile.FieldType.int)) := am_tb5 52 (by decide +kernel) rfl
theorem am_w187 : am_W (Cond.instanceMethod ({ cls := "NowhereMoney", name := "payFloat", desc := "(II)I" } : Jvm.MethodName)) := am_tb5 50 (by decide +kernel) rfl
theorem am_w188 : am_W (Cond.selects "NowhereMoney" ({ cls := "NowhereMoney", name := "payFloat", desc := "(II)I" } : Jvm.MethodName) ({ cls := "NowhereMoney", name := "payFloat", desc := "(II)I" } : Jvm.MethodName)) := am_tb5 51 (by decide +kernel) rfl
theorem am_w189 : am_W (Cond.code ({ cls := "NowhereMoneyModel", name := "payFloat", desc := "(II)I" } : Jvm.MethodName) prog_13_method_91_code (9 : Nat) (Option.some Jvm.ClassFile.FieldType.int)) := am_tb7 121 (by decide +kernel) rfl
theorem am_w190 : am_W (Cond.instanceMethod ({ cls := "NowhereMoneyModel", name := "payFloat", desc := "(II)I" } : Jvm.MethodName)) := am_tb7 119 (by decide +kernel) rfl
theorem am_w191 : am_W (Cond.selects "NowhereMoneyModel" ({ cls := "NowhereMoneyModel", name := "payFloat", desc := "(II)I" } : Jvm.MethodName) ({ cls := "NowhereMoneyModel", name := "payFloat", desc := "(II)I" } : Jvm.MethodName)) := am_tb7 120 (by decide +kernel) rfl
theorem am_w192 : am_W (Cond.code ({ cls := "NowhereMoney", name := "room", desc := "(II)I" } : Jvm.MethodName) prog_1_method_33_code (3 : Nat) (Option.some Jvm.ClassFile.FieldType.int)) := am_tb5 74 (by decide +kernel) rfl
theorem am_w193 : am_W (Cond.instanceMethod ({ cls := "NowhereMoney", name := "room", desc := "(II)I" } : Jvm.MethodName)) := am_tb5 72 (by decide +kernel) rfl
theorem am_w194 : am_W (Cond.selects "NowhereMoney" ({ cls := "NowhereMoney", name := "room", desc := "(II)I" } : Jvm.MethodName) ({ cls := "NowhereMoney", name := "room", desc := "(II)I" } : Jvm.MethodName)) := am_tb5 73 (by decide +kernel) rfl
theorem am_w195 : am_W (Cond.code ({ cls := "NowhereMoneyModel", name := "room", desc := "(II)I" } : Jvm.MethodName) prog_13_method_92_code (6 : Nat) (Option.some Jvm.ClassFile.FieldType.int)) := am_tb7 129 (by decide +kernel) rfl
theorem am_w196 : am_W (Cond.instanceMethod ({ cls := "NowhereMoneyModel", name := "room", desc := "(II)I" } : Jvm.MethodName)) := am_tb7 127 (by decide +kernel) rfl
theorem am_w197 : am_W (Cond.selects "NowhereMoneyModel" ({ cls := "NowhereMoneyModel", name := "room", desc := "(II)I" } : Jvm.MethodName) ({ cls := "NowhereMoneyModel", name := "room", desc := "(II)I" } : Jvm.MethodName)) := am_tb7 128 (by decide +kernel) rfl
theorem am_w198 : am_W (Cond.code ({ cls := "NowhereMoney", name := "seen", desc := "(I)I" } : Jvm.MethodName) prog_1_method_34_code (3 : Nat) (Option.some Jvm.ClassFile.FieldType.int)) := am_tb5 87 (by decide +kernel) rfl
theorem am_w199 : am_W (Cond.instanceMethod ({ cls := "NowhereMoney", name := "seen", desc := "(I)I" } : Jvm.MethodName)) := am_tb5 85 (by decide +kernel) rfl
theorem am_w200 : am_W (Cond.selects "NowhereMoney" ({ cls := "NowhereMoney", name := "seen", desc := "(I)I" } : Jvm.MethodName) ({ cls := "NowhereMoney", name := "seen", desc := "(I)I" } : Jvm.MethodName)) := am_tb5 86 (by decide +kernel) rfl
theorem am_w201 : am_W (Cond.code ({ cls := "NowhereMoneyModel", name := "seen", desc := "(I)I" } : Jvm.MethodName) prog_13_method_93_code (4 : Nat) (Option.some Jvm.ClassFile.FieldType.int)) := am_tb7 133 (by decide +kernel) rfl
theorem am_w202 : am_W (Cond.instanceMethod ({ cls := "NowhereMoneyModel", name := "seen", desc := "(I)I" } : Jvm.MethodName)) := am_tb7 131 (by decide +kernel) rfl
theorem am_w203 : am_W (Cond.selects "NowhereMoneyModel" ({ cls := "NowhereMoneyModel", name := "seen", desc := "(I)I" } : Jvm.MethodName) ({ cls := "NowhereMoneyModel", name := "seen", desc := "(I)I" } : Jvm.MethodName)) := am_tb7 132 (by decide +kernel) rfl
theorem am_w204 : am_W (Cond.code ({ cls := "NowhereMoney", name := "burnt", desc := "(IIII)I" } : Jvm.MethodName) prog_1_method_35_code (10 : Nat) (Option.some Jvm.ClassFile.FieldType.int)) := am_tb5 91 (by decide +kernel) rfl
theorem am_w205 : am_W (Cond.instanceMethod ({ cls := "NowhereMoney", name := "burnt", desc := "(IIII)I" } : Jvm.MethodName)) := am_tb5 89 (by decide +kernel) rfl
theorem am_w206 : am_W (Cond.selects "NowhereMoney" ({ cls := "NowhereMoney", name := "burnt", desc := "(IIII)I" } : Jvm.MethodName) ({ cls := "NowhereMoney", name := "burnt", desc := "(IIII)I" } : Jvm.MethodName)) := am_tb5 90 (by decide +kernel) rfl
theorem am_w207 : am_W (Cond.code ({ cls := "NowhereMoneyModel", name := "burnt", desc := "(IIII)I" } : Jvm.MethodName) prog_13_method_94_code (7 : Nat) (Option.some Jvm.ClassFile.FieldType.int)) := am_tb7 138 (by decide +kernel) rfl
theorem am_w208 : am_W (Cond.instanceMethod ({ cls := "NowhereMoneyModel", name := "burnt", desc := "(IIII)I" } : Jvm.MethodName)) := am_tb7 136 (by decide +kernel) rfl
theorem am_w209 : am_W (Cond.selects "NowhereMoneyModel" ({ cls := "NowhereMoneyModel", name := "burnt", desc := "(IIII)I" } : Jvm.MethodName) ({ cls := "NowhereMoneyModel", name := "burnt", desc := "(IIII)I" } : Jvm.MethodName)) := am_tb7 137 (by decide +kernel) rfl
theorem am_w210 : am_W (Cond.code ({ cls := "NowhereMoney", name := "honest", desc := "(I)I" } : Jvm.MethodName) prog_1_method_36_code (5 : Nat) (Option.some Jvm.ClassFile.FieldType.int)) := am_tb5 99 (by decide +kernel) rfl
theorem am_w211 : am_W (Cond.instanceMethod ({ cls := "NowhereMoney", name := "honest", desc := "(I)I" } : Jvm.MethodName)) := am_tb5 97 (by decide +kernel) rfl
theorem am_w212 : am_W (Cond.selects "NowhereMoney" ({ cls := "NowhereMoney", name := "honest", desc := "(I)I" } : Jvm.MethodName) ({ cls := "NowhereMoney", name := "honest", desc := "(I)I" } : Jvm.MethodName)) := am_tb5 98 (by decide +kernel) rfl
theorem am_w213 : am_W (Cond.code ({ cls := "NowhereMoneyModel", name := "honest", desc := "(I)I" } : Jvm.MethodName) prog_13_method_95_code (4 : Nat) (Option.some Jvm.ClassFile.FieldType.int)) := am_tb7 142 (by decide +kernel) rfl
theorem am_w214 : am_W (Cond.instanceMethod ({ cls := "NowhereMoneyModel", name := "honest", desc := "(I)I" } : Jvm.MethodName)) := am_tb7 140 (by decide +kernel) rfl
theorem am_w215 : am_W (Cond.selects "NowhereMoneyModel" ({ cls := "NowhereMoneyModel", name := "honest", desc := "(I)I" } : Jvm.MethodName) ({ cls := "NowhereMoneyModel", name := "honest", desc := "(I)I" } : Jvm.MethodName)) := am_tb7 141 (by decide +kernel) rfl
theorem am_w216 : am_W (Cond.code ({ cls := "NowhereMoney", name := "image", desc := "(Z)Z" } : Jvm.MethodName) prog_1_method_37_code (2 : Nat) (Option.some Jvm.ClassFile.FieldType.boolean)) := am_tb5 103 (by decide +kernel) rfl
theorem am_w217 : am_W (Cond.instanceMethod ({ cls := "NowhereMoney", name := "image", desc := "(Z)Z" } : Jvm.MethodName)) := am_tb5 101 (by decide +kernel) rfl
theorem am_w218 : am_W (Cond.selects "NowhereMoney" ({ cls := "NowhereMoney", name := "image", desc := "(Z)Z" } : Jvm.MethodName) ({ cls := "NowhereMoney", name := "image", desc := "(Z)Z" } : Jvm.MethodName)) := am_tb5 102 (by decide +kernel) rfl
theorem am_w219 : am_W (Cond.code ({ cls := "NowhereMoneyModel", name := "image", desc := "(Z)Z" } : Jvm.MethodName) prog_13_method_96_code (3 : Nat) (Option.some Jvm.ClassFile.FieldType.boolean)) := am_tb7 146 (by decide +kernel) rfl
theorem am_w220 : am_W (Cond.instanceMethod ({ cls := "NowhereMoneyModel", name := "image", desc := "(Z)Z" } : Jvm.MethodName)) := am_tb7 144 (by decide +kernel) rfl
theorem am_w221 : am_W (Cond.selects "NowhereMoneyModel" ({ cls := "NowhereMoneyModel", name := "image", desc := "(Z)Z" } : Jvm.MethodName) ({ cls := "NowhereMoneyModel", name := "image", desc := "(Z)Z" } : Jvm.MethodName)) := am_tb7 145 (by decide +kernel) rfl
theorem am_w222 : am_W (Cond.code ({ cls := "NowhereMoney", name := "look", desc := "(I)I" } : Jvm.MethodName) prog_1_method_38_code (2 : Nat) (Option.some Jvm.ClassFile.FieldType.int)) := am_tb5 124 (by decide +kernel) rfl
theorem am_w223 : am_W (Cond.instanceMethod ({ cls := "NowhereMoney", name := "look", desc := "(I)I" } : Jvm.MethodName)) := am_tb5 122 (by decide +kernel) rfl
theorem am_w224 : am_W (Cond.selects "NowhereMoney" ({ cls := "NowhereMoney", name := "look", desc := "(I)I" } : Jvm.MethodName) ({ cls := "NowhereMoney", name := "look", desc := "(I)I" } : Jvm.MethodName)) := am_tb5 123 (by decide +kernel) rfl
theorem am_w225 : am_W (Cond.code ({ cls := "NowhereMoneyModel", name := "look", desc := "(I)I" } : Jvm.MethodName) prog_13_method_97_code (2 : Nat) (Option.some Jvm.ClassFile.FieldType.int)) := am_tb7 150 (by decide +kernel) rfl
theorem am_w226 : am_W (Cond.instanceMethod ({ cls := "NowhereMoneyModel", name := "look", desc := "(I)I" } : Jvm.MethodName)) := am_tb7 148 (by decide +kernel) rfl
theorem am_w227 : am_W (Cond.selects "NowhereMoneyModel" ({ cls := "NowhereMoneyModel", name := "look", desc := "(I)I" } : Jvm.MethodName) ({ cls := "NowhereMoneyModel", name := "look", desc := "(I)I" } : Jvm.MethodName)) := am_tb7 149 (by decide +kernel) rfl
theorem am_w228 : am_W (Cond.code ({ cls := "NowhereMoney$Script", name := "<init>", desc := "()V" } : Jvm.MethodName) prog_7_method_1_code (1 : Nat) (Option.none : Option Jvm.ClassFile.FieldType)) := am_tb1 56 (by decide +kernel) rfl
theorem am_w229 : am_W (Cond.initialized "NowhereMoney$Script") := am_tb1 4 (by decide +kernel) rfl
theorem am_w230 : am_W (Cond.instanceMethod ({ cls := "NowhereMoney$Script", name := "<init>", desc := "()V" } : Jvm.MethodName)) := am_tb1 55 (by decide +kernel) rfl
theorem am_w231 : am_W (Cond.code ({ cls := "NowhereMoney$Script", name := "copyFrom", desc := "(LNowhereMoney$Script;)V" } : Jvm.MethodName) prog_7_method_7_code (2 : Nat) (Option.none : Option Jvm.ClassFile.FieldType)) := am_tb3 155 (by decide +kernel) rfl
theorem am_w232 : am_W (Cond.instanceMethod ({ cls := "NowhereMoney$Script", name := "copyFrom", desc := "(LNowhereMoney$Script;)V" } : Jvm.MethodName)) := am_tb3 153 (by decide +kernel) rfl
theorem am_w233 : am_W (Cond.selects "NowhereMoney$Script" ({ cls := "NowhereMoney$Script", name := "copyFrom", desc := "(LNowhereMoney$Script;)V" } : Jvm.MethodName) ({ cls := "NowhereMoney$Script", name := "copyFrom", desc := "(LNowhereMoney$Script;)V" } : Jvm.MethodName)) := am_tb3 154 (by decide +kernel) rfl
theorem am_w234 : am_W (Cond.code ({ cls := "NowhereMoney", name := "isDay", desc := "(I)Z" } : Jvm.MethodName) prog_1_method_42_code (1 : Nat) (Option.some Jvm.ClassFile.FieldType.boolean)) := am_tb2 160 (by decide +kernel) rfl
theorem am_w235 : am_W (Cond.static ({ cls := "NowhereMoney", name := "isDay", desc := "(I)Z" } : Jvm.MethodName)) := am_tb2 159 (by decide +kernel) rfl
theorem am_w236 : am_W (Cond.code ({ cls := "NowhereMoney$Country", name := "railBetween", desc := "(II)I" } : Jvm.MethodName) prog_2_method_6_code (3 : Nat) (Option.some Jvm.ClassFile.FieldType.int)) := am_tb3 188 (by decide +kernel) rfl
theorem am_w237 : am_W (Cond.initialized "NowhereMoney$Country") := am_tb1 6 (by decide +kernel) rfl
theorem am_w238 : am_W (Cond.instanceMethod ({ cls := "NowhereMoney$Country", name := "railBetween", desc := "(II)I" } : Jvm.MethodName)) := am_tb3 186 (by decide +kernel) rfl
theorem am_w239 : am_W (Cond.selects "NowhereMoney$Country" ({ cls := "NowhereMoney$Country", name := "railBetween", desc := "(II)I" } : Jvm.MethodName) ({ cls := "NowhereMoney$Country", name := "railBetween", desc := "(II)I" } : Jvm.MethodName)) := am_tb3 187 (by decide +kernel) rfl
theorem am_w240 : am_W (Cond.code ({ cls := "NowhereMoney$Country", name := "hasSnow", desc := "(I)Z" } : Jvm.MethodName) prog_2_method_4_code (2 : Nat) (Option.some Jvm.ClassFile.FieldType.boolean)) := am_tb4 29 (by decide +kernel) rfl
theorem am_w241 : am_W (Cond.instanceMethod ({ cls := "NowhereMoney$Country", name := "hasSnow", desc := "(I)Z" } : Jvm.MethodName)) := am_tb4 27 (by decide +kernel) rfl
theorem am_w242 : am_W (Cond.selects "NowhereMoney$Country" ({ cls := "NowhereMoney$Country", name := "hasSnow", desc := "(I)Z" } : Jvm.MethodName) ({ cls := "NowhereMoney$Country", name := "hasSnow", desc := "(I)Z" } : Jvm.MethodName)) := am_tb4 28 (by decide +kernel) rfl
theorem am_w243 : am_W (Cond.code ({ cls := "NowhereMoney$Country", name := "isBusiness", desc := "(I)Z" } : Jvm.MethodName) prog_2_method_3_code (2 : Nat) (Option.some Jvm.ClassFile.FieldType.boolean)) := am_tb3 176 (by decide +kernel) rfl
theorem am_w244 : am_W (Cond.instanceMethod ({ cls := "NowhereMoney$Country", name := "isBusiness", desc := "(I)Z" } : Jvm.MethodName)) := am_tb3 174 (by decide +kernel) rfl
theorem am_w245 : am_W (Cond.selects "NowhereMoney$Country" ({ cls := "NowhereMoney$Country", name := "isBusiness", desc := "(I)Z" } : Jvm.MethodName) ({ cls := "NowhereMoney$Country", name := "isBusiness", desc := "(I)Z" } : Jvm.MethodName)) := am_tb3 175 (by decide +kernel) rfl
theorem am_w246 : am_W (Cond.code ({ cls := "NowhereMoney$Ledger", name := "part", desc := "(II)I" } : Jvm.MethodName) prog_4_method_3_code (3 : Nat) (Option.some Jvm.ClassFile.FieldType.int)) := am_tb3 200 (by decide +kernel) rfl
theorem am_w247 : am_W (Cond.initialized "NowhereMoney$Ledger") := am_tb1 8 (by decide +kernel) rfl
theorem am_w248 : am_W (Cond.instanceMethod ({ cls := "NowhereMoney$Ledger", name := "part", desc := "(II)I" } : Jvm.MethodName)) := am_tb3 198 (by decide +kernel) rfl
theorem am_w249 : am_W (Cond.selects "NowhereMoney$Ledger" ({ cls := "NowhereMoney$Ledger", name := "part", desc := "(II)I" } : Jvm.MethodName) ({ cls := "NowhereMoney$Ledger", name := "part", desc := "(II)I" } : Jvm.MethodName)) := am_tb3 199 (by decide +kernel) rfl
theorem am_w250 : am_W (Cond.code ({ cls := "NowhereMoney$Ledger", name := "isPaidIn", desc := "(III)Z" } : Jvm.MethodName) prog_4_method_6_code (4 : Nat) (Option.some Jvm.ClassFile.FieldType.boolean)) := am_tb3 196 (by decide +kernel) rfl
theorem am_w251 : am_W (Cond.instanceMethod ({ cls := "NowhereMoney$Ledger", name := "isPaidIn", desc := "(III)Z" } : Jvm.MethodName)) := am_tb3 194 (by decide +kernel) rfl
theorem am_w252 : am_W (Cond.selects "NowhereMoney$Ledger" ({ cls := "NowhereMoney$Ledger", name := "isPaidIn", desc := "(III)Z" } : Jvm.MethodName) ({ cls := "NowhereMoney$Ledger", name := "isPaidIn", desc := "(III)Z" } : Jvm.MethodName)) := am_tb3 195 (by decide +kernel) rfl
theorem am_w253 : am_W (Cond.code ({ cls := "NowhereMoney$Ledger", name := "held", desc := "(II)I" } : Jvm.MethodName) prog_4_method_8_code (6 : Nat) (Option.some Jvm.ClassFile.FieldType.int)) := am_tb3 227 (by decide +kernel) rfl
theorem am_w254 : am_W (Cond.instanceMethod ({ cls := "NowhereMoney$Ledger", name := "held", desc := "(II)I" } : Jvm.MethodName)) := am_tb3 225 (by decide +kernel) rfl
theorem am_w255 : am_W (Cond.selects "NowhereMoney$Ledger" ({ cls := "NowhereMoney$Ledger", name := "held", desc := "(II)I" } : Jvm.MethodName) ({ cls := "NowhereMoney$Ledger", name := "held", desc := "(II)I" } : Jvm.MethodName)) := am_tb3 226 (by decide +kernel) rfl
theorem am_w256 : am_W (Cond.code ({ cls := "NowhereMoney$Ledger", name := "isOfLastWeek", desc := "(I)Z" } : Jvm.MethodName) prog_4_method_7_code (2 : Nat) (Option.some Jvm.ClassFile.FieldType.boolean)) := am_tb3 204 (by decide +kernel) rfl
theorem am_w257 : am_W (Cond.instanceMethod ({ cls := "NowhereMoney$Ledger", name := "isOfLastWeek", desc := "(I)Z" } : Jvm.MethodName)) := am_tb3 202 (by decide +kernel) rfl
theorem am_w258 : am_W (Cond.selects "NowhereMoney$Ledger" ({ cls := "NowhereMoney$Ledger", name := "isOfLastWeek", desc := "(I)Z" } : Jvm.MethodName) ({ cls := "NowhereMoney$Ledger", name := "isOfLastWeek", desc := "(I)Z" } : Jvm.MethodName)) := am_tb3 203 (by decide +kernel) rfl
theorem am_w259 : am_W (Cond.code ({ cls := "NowhereMoney$Country", name := "areFar", desc := "(II)Z" } : Jvm.MethodName) prog_2_method_5_code (3 : Nat) (Option.some Jvm.ClassFile.FieldType.boolean)) := am_tb3 184 (by decide +kernel) rfl
theorem am_w260 : am_W (Cond.instanceMethod ({ cls := "NowhereMoney$Country", name := "areFar", desc := "(II)Z" } : Jvm.MethodName)) := am_tb3 182 (by decide +kernel) rfl
theorem am_w261 : am_W (Cond.selects "NowhereMoney$Country" ({ cls := "NowhereMoney$Country", name := "areFar", desc := "(II)Z" } : Jvm.MethodName) ({ cls := "NowhereMoney$Country", name := "areFar", desc := "(II)Z" } : Jvm.MethodName)) := am_tb3 183 (by decide +kernel) rfl
theorem am_w262 : am_W (Cond.code ({ cls := "NowhereMoney$Ledger", name := "paidInLately", desc := "(II)I" } : Jvm.MethodName) prog_4_method_10_code (5 : Nat) (Option.some Jvm.ClassFile.FieldType.int)) := am_tb3 192 (by decide +kernel) rfl
theorem am_w263 : am_W (Cond.instanceMethod ({ cls := "NowhereMoney$Ledger", name := "paidInLately", desc := "(II)I" } : Jvm.MethodName)) := am_tb3 190 (by decide +kernel) rfl
theorem am_w264 : am_W (Cond.selects "NowhereMoney$Ledger" ({ cls := "NowhereMoney$Ledger", name := "paidInLately", desc := "(II)I" } : Jvm.MethodName) ({ cls := "NowhereMoney$Ledger", name := "paidInLately", desc := "(II)I" } : Jvm.MethodName)) := am_tb3 191 (by decide +kernel) rfl
theorem am_w265 : am_W (Cond.code ({ cls := "NowhereMoney$Script", name := "firstValue", desc := "(I[I)I" } : Jvm.MethodName) prog_7_method_8_code (4 : Nat) (Option.some Jvm.ClassFile.FieldType.int)) := am_tb3 209 (by decide +kernel) rfl
theorem am_w266 : am_W (Cond.instanceMethod ({ cls := "NowhereMoney$Script", name := "firstValue", desc := "(I[I)I" } : Jvm.MethodName)) := am_tb3 207 (by decide +kernel) rfl
theorem am_w267 : am_W (Cond.selects "NowhereMoney$Script" ({ cls := "NowhereMoney$Script", name := "firstValue", desc := "(I[I)I" } : Jvm.MethodName) ({ cls := "NowhereMoney$Script", name := "firstValue", desc := "(I[I)I" } : Jvm.MethodName)) := am_tb3 208 (by decide +kernel) rfl
theorem am_w268 : am_W (Cond.code ({ cls := "NowhereMoney$Entries", name := "add", desc := "(IIIIII)V" } : Jvm.MethodName) prog_3_method_2_code (8 : Nat) (Option.none : Option Jvm.ClassFile.FieldType)) := am_tb3 235 (by decide +kernel) rfl
theorem am_w269 : am_W (Cond.initialized "NowhereMoney$Entries") := am_tb1 7 (by decide +kernel) rfl
theorem am_w270 : am_W (Cond.instanceMethod ({ cls := "NowhereMoney$Entries", name := "add", desc := "(IIIIII)V" } : Jvm.MethodName)) := am_tb3 233 (by decide +kernel) rfl
theorem am_w271 : am_W (Cond.selects "NowhereMoney$Entries" ({ cls := "NowhereMoney$Entries", name := "add", desc := "(IIIIII)V" } : Jvm.MethodName) ({ cls := "NowhereMoney$Entries", name := "add", desc := "(IIIIII)V" } : Jvm.MethodName)) := am_tb3 234 (by decide +kernel) rfl
theorem am_w272 : am_W (Cond.code ({ cls := "NowhereMoney$Ledger", name := "lawValue", desc := "(IIIIII)I" } : Jvm.MethodName) prog_4_method_11_code (8 : Nat) (Option.some Jvm.ClassFile.FieldType.int)) := am_tb3 180 (by decide +kernel) rfl
theorem am_w273 : am_W (Cond.instanceMethod ({ cls := "NowhereMoney$Ledger", name := "lawValue", desc := "(IIIIII)I" } : Jvm.MethodName)) := am_tb3 178 (by decide +kernel) rfl
theorem am_w274 : am_W (Cond.selects "NowhereMoney$Ledger" ({ cls := "NowhereMoney$Ledger", name := "lawValue", desc := "(IIIIII)I" } : Jvm.MethodName) ({ cls := "NowhereMoney$Ledger", name := "lawValue", desc := "(IIIIII)I" } : Jvm.MethodName)) := am_tb3 179 (by decide +kernel) rfl
theorem am_w275 : am_W (Cond.code ({ cls := "NowhereMoney$Ledger", name := "put", desc := "(III)V" } : Jvm.MethodName) prog_4_method_4_code (4 : Nat) (Option.none : Option Jvm.ClassFile.FieldType)) := am_tb4 12 (by decide +kernel) rfl
theorem am_w276 : am_W (Cond.instanceMethod ({ cls := "NowhereMoney$Ledger", name := "put", desc := "(III)V" } : Jvm.MethodName)) := am_tb4 11 (by decide +kernel) rfl
theorem am_w277 : am_W (Cond.selects "NowhereMoney$Ledger" ({ cls := "NowhereMoney$Ledger", name := "put", desc := "(III)V" } : Jvm.MethodName) ({ cls := "NowhereMoney$Ledger", name := "put", desc := "(III)V" } : Jvm.MethodName)) := am_tb0 14 (by decide +kernel) rfl
theorem am_w278 : am_W (Cond.code ({ cls := "NowhereMoney$Ledger", name := "change", desc := "(IIIII)V" } : Jvm.MethodName) prog_4_method_12_code (7 : Nat) (Option.none : Option Jvm.ClassFile.FieldType)) := am_tb3 231 (by decide +kernel) rfl
theorem am_w279 : am_W (Cond.instanceMethod ({ cls := "NowhereMoney$Ledger", name := "change", desc := "(IIIII)V" } : Jvm.MethodName)) := am_tb3 229 (by decide +kernel) rfl
theorem am_w280 : am_W (Cond.selects "NowhereMoney$Ledger" ({ cls := "NowhereMoney$Ledger", name := "change", desc := "(IIIII)V" } : Jvm.MethodName) ({ cls := "NowhereMoney$Ledger", name := "change", desc := "(IIIII)V" } : Jvm.MethodName)) := am_tb3 230 (by decide +kernel) rfl
theorem am_w281 : am_W (Cond.code ({ cls := "NowhereMoney$Ledger", name := "rideTrains", desc := "()V" } : Jvm.MethodName) prog_4_method_15_code (2 : Nat) (Option.none : Option Jvm.ClassFile.FieldType)) := am_tb4 25 (by decide +kernel) rfl
theorem am_w282 : am_W (Cond.instanceMethod ({ cls := "NowhereMoney$Ledger", name := "rideTrains", desc := "()V" } : Jvm.MethodName)) := am_tb4 24 (by decide +kernel) rfl
theorem am_w283 : am_W (Cond.selects "NowhereMoney$Ledger" ({ cls := "NowhereMoney$Ledger", name := "rideTrains", desc := "()V" } : Jvm.MethodName) ({ cls := "NowhereMoney$Ledger", name := "rideTrains", desc := "()V" } : Jvm.MethodName)) := am_tb0 15 (by decide +kernel) rfl
theorem am_w284 : am_W (Cond.code ({ cls := "NowhereMoney$Ledger", name := "comeBack", desc := "()V" } : Jvm.MethodName) prog_4_method_16_code (2 : Nat) (Option.none : Option Jvm.ClassFile.FieldType)) := am_tb4 39 (by decide +kernel) rfl
theorem am_w285 : am_W (Cond.instanceMethod ({ cls := "NowhereMoney$Ledger", name := "comeBack", desc := "()V" } : Jvm.MethodName)) := am_tb4 38 (by decide +kernel) rfl
theorem am_w286 : am_W (Cond.selects "NowhereMoney$Ledger" ({ cls := "NowhereMoney$Ledger", name := "comeBack", desc := "()V" } : Jvm.MethodName) ({ cls := "NowhereMoney$Ledger", name := "comeBack", desc := "()V" } : Jvm.MethodName)) := am_tb0 16 (by decide +kernel) rfl
theorem am_w287 : am_W (Cond.code ({ cls := "NowhereMoney$Ledger", name := "listAsked", desc := "(II)I" } : Jvm.MethodName) prog_4_method_17_code (7 : Nat) (Option.some Jvm.ClassFile.FieldType.int)) := am_tb4 43 (by decide +kernel) rfl
theorem am_w288 : am_W (Cond.instanceMethod ({ cls := "NowhereMoney$Ledger", name := "listAsked", desc := "(II)I" } : Jvm.MethodName)) := am_tb4 42 (by decide +kernel) rfl
theorem am_w289 : am_W (Cond.selects "NowhereMoney$Ledger" ({ cls := "NowhereMoney$Ledger", name := "listAsked", desc := "(II)I" } : Jvm.MethodName) ({ cls := "NowhereMoney$Ledger", name := "listAsked", desc := "(II)I" } : Jvm.MethodName)) := am_tb0 17 (by decide +kernel) rfl
theorem am_w290 : am_W (Cond.code ({ cls := "NowhereMoney$Ledger", name := "askFor", desc := "(I)Z" } : Jvm.MethodName) prog_4_method_19_code (8 : Nat) (Option.some Jvm.ClassFile.FieldType.boolean)) := am_tb4 51 (by decide +kernel) rfl
theorem am_w291 : am_W (Cond.instanceMethod ({ cls := "NowhereMoney$Ledger", name := "askFor", desc := "(I)Z" } : Jvm.MethodName)) := am_tb4 50 (by decide +kernel) rfl
theorem am_w292 : am_W (Cond.selects "NowhereMoney$Ledger" ({ cls := "NowhereMoney$Ledger", name := "askFor", desc := "(I)Z" } : Jvm.MethodName) ({ cls := "NowhereMoney$Ledger", name := "askFor", desc := "(I)Z" } : Jvm.MethodName)) := am_tb0 19 (by decide +kernel) rfl
theorem am_w293 : am_W (Cond.code ({ cls := "NowhereMoney$Ledger", name := "isInFlight", desc := "(I)Z" } : Jvm.MethodName) prog_4_method_5_code (3 : Nat) (Option.some Jvm.ClassFile.FieldType.boolean)) := am_tb4 34 (by decide +kernel) rfl
theorem am_w294 : am_W (Cond.instanceMethod ({ cls := "NowhereMoney$Ledger", name := "isInFlight", desc := "(I)Z" } : Jvm.MethodName)) := am_tb4 32 (by decide +kernel) rfl
theorem am_w295 : am_W (Cond.selects "NowhereMoney$Ledger" ({ cls := "NowhereMoney$Ledger", name := "isInFlight", desc := "(I)Z" } : Jvm.MethodName) ({ cls := "NowhereMoney$Ledger", name := "isInFlight", desc := "(I)Z" } : Jvm.MethodName)) := am_tb4 33 (by decide +kernel) rfl
theorem am_w296 : am_W (Cond.code ({ cls := "NowhereMoney$Ledger", name := "isAhead", desc := "(III)Z" } : Jvm.MethodName) prog_4_method_18_code (4 : Nat) (Option.some Jvm.ClassFile.FieldType.boolean)) := am_tb4 47 (by decide +kernel) rfl
theorem am_w297 : am_W (Cond.instanceMethod ({ cls := "NowhereMoney$Ledger", name := "isAhead", desc := "(III)Z" } : Jvm.MethodName)) := am_tb4 46 (by decide +kernel) rfl
theorem am_w298 : am_W (Cond.selects "NowhereMoney$Ledger" ({ cls := "NowhereMoney$Ledger", name := "isAhead", desc := "(III)Z" } : Jvm.MethodName) ({ cls := "NowhereMoney$Ledger", name := "isAhead", desc := "(III)Z" } : Jvm.MethodName)) := am_tb0 18 (by decide +kernel) rfl
theorem am_w299 : am_W (Cond.code ({ cls := "NowhereMoney$Ledger", name := "usable", desc := "(II)I" } : Jvm.MethodName) prog_4_method_9_code (3 : Nat) (Option.some Jvm.ClassFile.FieldType.int)) := am_tb3 223 (by decide +kernel) rfl
theorem am_w300 : am_W (Cond.instanceMethod ({ cls := "NowhereMoney$Ledger", name := "usable", desc := "(II)I" } : Jvm.MethodName)) := am_tb3 221 (by decide +kernel) rfl
theorem am_w301 : am_W (Cond.selects "NowhereMoney$Ledger" ({ cls := "NowhereMoney$Ledger", name := "usable", desc := "(II)I" } : Jvm.MethodName) ({ cls := "NowhereMoney$Ledger", name := "usable", desc := "(II)I" } : Jvm.MethodName)) := am_tb3 222 (by decide +kernel) rfl
theorem am_w302 : am_W (Cond.code ({ cls := "NowhereMoney$Ledger", name := "lossOf", desc := "(I)I" } : Jvm.MethodName) prog_4_method_24_code (4 : Nat) (Option.some Jvm.ClassFile.FieldType.int)) := am_tb5 37 (by decide +kernel) rfl
theorem am_w303 : am_W (Cond.instanceMethod ({ cls := "NowhereMoney$Ledger", name := "lossOf", desc := "(I)I" } : Jvm.MethodName)) := am_tb5 35 (by decide +kernel) rfl
theorem am_w304 : am_W (Cond.selects "NowhereMoney$Ledger" ({ cls := "NowhereMoney$Ledger", name := "lossOf", desc := "(I)I" } : Jvm.MethodName) ({ cls := "NowhereMoney$Ledger", name := "lossOf", desc := "(I)I" } : Jvm.MethodName)) := am_tb5 36 (by decide +kernel) rfl
theorem am_w305 : am_W (Cond.code ({ cls := "NowhereMoney$Reader", name := "scan", desc := "(LNowhereMoney$Tape;)V" } : Jvm.MethodName) prog_5_method_11_code (6 : Nat) (Option.none : Option Jvm.ClassFile.FieldType)) := am_tb2 184 (by decide +kernel) rfl
theorem am_w306 : am_W (Cond.initialized "NowhereMoney$Reader") := am_tb1 3 (by decide +kernel) rfl
theorem am_w307 : am_W (Cond.instanceMethod ({ cls := "NowhereMoney$Reader", name := "scan", desc := "(LNowhereMoney$Tape;)V" } : Jvm.MethodName)) := am_tb2 183 (by decide +kernel) rfl
theorem am_w308 : am_W (Cond.selects "NowhereMoney$Reader" ({ cls := "NowhereMoney$Reader", name := "scan", desc := "(LNowhereMoney$Tape;)V" } : Jvm.MethodName) ({ cls := "NowhereMoney$Reader", name := "scan", desc := "(LNowhereMoney$Tape;)V" } : Jvm.MethodName)) := am_tb0 0 (by decide +kernel) rfl
theorem am_w309 : am_W (Cond.code ({ cls := "NowhereMoney$Script", name := "clear", desc := "()V" } : Jvm.MethodName) prog_7_method_2_code (1 : Nat) (Option.none : Option Jvm.ClassFile.FieldType)) := am_tb3 103 (by decide +kernel) rfl
theorem am_w310 : am_W (Cond.instanceMethod ({ cls := "NowhereMoney$Script", name := "clear", desc := "()V" } : Jvm.MethodName)) := am_tb3 101 (by decide +kernel) rfl
theorem am_w311 : am_W (Cond.selects "NowhereMoney$Script" ({ cls := "NowhereMoney$Script", name := "clear", desc := "()V" } : Jvm.MethodName) ({ cls := "NowhereMoney$Script", name := "clear", desc := "()V" } : Jvm.MethodName)) := am_tb3 102 (by decide +kernel) rfl
theorem am_w312 : am_W (Cond.code ({ cls := "NowhereMoney$Reader", name := "kind", desc := "()I" } : Jvm.MethodName) prog_5_method_4_code (1 : Nat) (Option.some Jvm.ClassFile.FieldType.int)) := am_tb3 107 (by decide +kernel) rfl
theorem am_w313 : am_W (Cond.instanceMethod ({ cls := "NowhereMoney$Reader", name := "kind", desc := "()I" } : Jvm.MethodName)) := am_tb3 106 (by decide +kernel) rfl
theorem am_w314 : am_W (Cond.selects "NowhereMoney$Reader" ({ cls := "NowhereMoney$Reader", name := "kind", desc := "()I" } : Jvm.MethodName) ({ cls := "NowhereMoney$Reader", name := "kind", desc := "()I" } : Jvm.MethodName)) := am_tb0 4 (by decide +kernel) rfl
theorem am_w315 : am_W (Cond.code ({ cls := "NowhereMoney$Reader", name := "isLineWord", desc := "(I)Z" } : Jvm.MethodName) prog_5_method_3_code (2 : Nat) (Option.some Jvm.ClassFile.FieldType.boolean)) := am_tb3 111 (by decide +kernel) rfl
theorem am_w316 : am_W (Cond.instanceMethod ({ cls := "NowhereMoney$Reader", name := "isLineWord", desc := "(I)Z" } : Jvm.MethodName)) := am_tb3 110 (by decide +kernel) rfl
theorem am_w317 : am_W (Cond.selects "NowhereMoney$Reader" ({ cls := "NowhereMoney$Reader", name := "isLineWord", desc := "(I)Z" } : Jvm.MethodName) ({ cls := "NowhereMoney$Reader", name := "isLineWord", desc := "(I)Z" } : Jvm.MethodName)) := am_tb0 5 (by decide +kernel) rfl
theorem am_w318 : am_W (Cond.code ({ cls := "NowhereMoney$Reader", name := "fails", desc := "(I)Z" } : Jvm.MethodName) prog_5_method_5_code (2 : Nat) (Option.some Jvm.ClassFile.FieldType.boolean)) := am_tb3 115 (by decide +kernel) rfl
theorem am_w319 : am_W (Cond.instanceMethod ({ cls := "NowhereMoney$Reader", name := "fails", desc := "(I)Z" } : Jvm.MethodName)) := am_tb3 114 (by decide +kernel) rfl
theorem am_w320 : am_W (Cond.selects "NowhereMoney$Reader" ({ cls := "NowhereMoney$Reader", name := "fails", desc := "(I)Z" } : Jvm.MethodName) ({ cls := "NowhereMoney$Reader", name := "fails", desc := "(I)Z" } : Jvm.MethodName)) := am_tb0 6 (by decide +kernel) rfl
theorem am_w321 : am_W (Cond.code ({ cls := "NowhereMoney$Script", name := "openLine", desc := "(I)V" } : Jvm.MethodName) prog_7_method_4_code (2 : Nat) (Option.none : Option Jvm.ClassFile.FieldType)) := am_tb3 119 (by decide +kernel) rfl
theorem am_w322 : am_W (Cond.instanceMethod ({ cls := "NowhereMoney$Script", name := "openLine", desc := "(I)V" } : Jvm.MethodName)) := am_tb3 117 (by decide +kernel) rfl
theorem am_w323 : am_W (Cond.selects "NowhereMoney$Script" ({ cls := "NowhereMoney$Script", name := "openLine", desc := "(I)V" } : Jvm.MethodName) ({ cls := "NowhereMoney$Script", name := "openLine", desc := "(I)V" } : Jvm.MethodName)) := am_tb3 118 (by decide +kernel) rfl
theorem am_w324 : am_W (Cond.code ({ cls := "NowhereMoney$Reader", name := "sum", desc := "()Z" } : Jvm.MethodName) prog_5_method_9_code (3 : Nat) (Option.some Jvm.ClassFile.FieldType.boolean)) := am_tb3 123 (by decide +kernel) rfl
theorem am_w325 : am_W (Cond.instanceMethod ({ cls := "NowhereMoney$Reader", name := "sum", desc := "()Z" } : Jvm.MethodName)) := am_tb3 122 (by decide +kernel) rfl
theorem am_w326 : am_W (Cond.selects "NowhereMoney$Reader" ({ cls := "NowhereMoney$Reader", name := "sum", desc := "()Z" } : Jvm.MethodName) ({ cls := "NowhereMoney$Reader", name := "sum", desc := "()Z" } : Jvm.MethodName)) := am_tb0 7 (by decide +kernel) rfl
theorem am_w327 : am_W (Cond.code ({ cls := "NowhereMoney$Script", name := "openCondition", desc := "()V" } : Jvm.MethodName) prog_7_method_5_code (1 : Nat) (Option.none : Option Jvm.ClassFile.FieldType)) := am_tb3 135 (by decide +kernel) rfl
theorem am_w328 : am_W (Cond.instanceMethod ({ cls := "NowhereMoney$Script", name := "openCondition", desc := "()V" } : Jvm.MethodName)) := am_tb3 133 (by decide +kernel) rfl
theorem am_w329 : am_W (Cond.selects "NowhereMoney$Script" ({ cls := "NowhereMoney$Script", name := "openCondition", desc := "()V" } : Jvm.MethodName) ({ cls := "NowhereMoney$Script", name := "openCondition", desc := "()V" } : Jvm.MethodName)) := am_tb3 134 (by decide +kernel) rfl
theorem am_w330 : am_W (Cond.code ({ cls := "NowhereMoney$Reader", name := "either", desc := "(I)Z" } : Jvm.MethodName) prog_5_method_6_code (3 : Nat) (Option.some Jvm.ClassFile.FieldType.boolean)) := am_tb3 139 (by decide +kernel) rfl
theorem am_w331 : am_W (Cond.instanceMethod ({ cls := "NowhereMoney$Reader", name := "either", desc := "(I)Z" } : Jvm.MethodName)) := am_tb3 138 (by decide +kernel) rfl
theorem am_w332 : am_W (Cond.selects "NowhereMoney$Reader" ({ cls := "NowhereMoney$Reader", name := "either", desc := "(I)Z" } : Jvm.MethodName) ({ cls := "NowhereMoney$Reader", name := "either", desc := "(I)Z" } : Jvm.MethodName)) := am_tb0 9 (by decide +kernel) rfl
theorem am_w333 : am_W (Cond.code ({ cls := "NowhereMoney$Script", name := "closeLine", desc := "()V" } : Jvm.MethodName) prog_7_method_6_code (1 : Nat) (Option.none : Option Jvm.ClassFile.FieldType)) := am_tb3 151 (by decide +kernel) rfl
theorem am_w334 : am_W (Cond.instanceMethod ({ cls := "NowhereMoney$Script", name := "closeLine", desc := "()V" } : Jvm.MethodName)) := am_tb3 149 (by decide +kernel) rfl
theorem am_w335 : am_W (Cond.selects "NowhereMoney$Script" ({ cls := "NowhereMoney$Script", name := "closeLine", desc := "()V" } : Jvm.MethodName) ({ cls := "NowhereMoney$Script", name := "closeLine", desc := "()V" } : Jvm.MethodName)) := am_tb3 150 (by decide +kernel) rfl
theorem am_w336 : am_W (Cond.code ({ cls := "NowhereMoney$Reader", name := "both", desc := "(I)Z" } : Jvm.MethodName) prog_5_method_7_code (3 : Nat) (Option.some Jvm.ClassFile.FieldType.boolean)) := am_tb3 143 (by decide +kernel) rfl
theorem am_w337 : am_W (Cond.instanceMethod ({ cls := "NowhereMoney$Reader", name := "both", desc := "(I)Z" } : Jvm.MethodName)) := am_tb3 142 (by decide +kernel) rfl
theorem am_w338 : am_W (Cond.selects "NowhereMoney$Reader" ({ cls := "NowhereMoney$Reader", name := "both", desc := "(I)Z" } : Jvm.MethodName) ({ cls := "NowhereMoney$Reader", name := "both", desc := "(I)Z" } : Jvm.MethodName)) := am_tb0 10 (by decide +kernel) rfl
theorem am_w339 : am_W (Cond.code ({ cls := "NowhereMoney$Script", name := "add", desc := "(I)V" } : Jvm.MethodName) prog_7_method_3_code (2 : Nat) (Option.none : Option Jvm.ClassFile.FieldType)) := am_tb3 131 (by decide +kernel) rfl
theorem am_w340 : am_W (Cond.instanceMethod ({ cls := "NowhereMoney$Script", name := "add", desc := "(I)V" } : Jvm.MethodName)) := am_tb3 129 (by decide +kernel) rfl
theorem am_w341 : am_W (Cond.selects "NowhereMoney$Script" ({ cls := "NowhereMoney$Script", name := "add", desc := "(I)V" } : Jvm.MethodName) ({ cls := "NowhereMoney$Script", name := "add", desc := "(I)V" } : Jvm.MethodName)) := am_tb3 130 (by decide +kernel) rfl
theorem am_w342 : am_W (Cond.code ({ cls := "NowhereMoney$Reader", name := "single", desc := "(I)Z" } : Jvm.MethodName) prog_5_method_8_code (5 : Nat) (Option.some Jvm.ClassFile.FieldType.boolean)) := am_tb3 147 (by decide +kernel) rfl
theorem am_w343 : am_W (Cond.instanceMethod ({ cls := "NowhereMoney$Reader", name := "single", desc := "(I)Z" } : Jvm.MethodName)) := am_tb3 146 (by decide +kernel) rfl
theorem am_w344 : am_W (Cond.selects "NowhereMoney$Reader" ({ cls := "NowhereMoney$Reader", name := "single", desc := "(I)Z" } : Jvm.MethodName) ({ cls := "NowhereMoney$Reader", name := "single", desc := "(I)Z" } : Jvm.MethodName)) := am_tb0 11 (by decide +kernel) rfl
theorem am_w345 : am_W (Cond.code ({ cls := "NowhereMoney$Reader", name := "product", desc := "()Z" } : Jvm.MethodName) prog_5_method_10_code (4 : Nat) (Option.some Jvm.ClassFile.FieldType.boolean)) := am_tb3 127 (by decide +kernel) rfl
theorem am_w346 : am_W (Cond.instanceMethod ({ cls := "NowhereMoney$Reader", name := "product", desc := "()Z" } : Jvm.MethodName)) := am_tb3 126 (by decide +kernel) rfl
theorem am_w347 : am_W (Cond.selects "NowhereMoney$Reader" ({ cls := "NowhereMoney$Reader", name := "product", desc := "()Z" } : Jvm.MethodName) ({ cls := "NowhereMoney$Reader", name := "product", desc := "()Z" } : Jvm.MethodName)) := am_tb0 8 (by decide +kernel) rfl
theorem am_w348 : am_W (Cond.code ({ cls := "NowhereMoney$Reader", name := "isLetter", desc := "(I)Z" } : Jvm.MethodName) prog_5_method_12_code (1 : Nat) (Option.some Jvm.ClassFile.FieldType.boolean)) := am_tb2 187 (by decide +kernel) rfl
theorem am_w349 : am_W (Cond.static ({ cls := "NowhereMoney$Reader", name := "isLetter", desc := "(I)Z" } : Jvm.MethodName)) := am_tb2 186 (by decide +kernel) rfl
theorem am_w350 : am_W (Cond.code ({ cls := "NowhereMoney$Reader", name := "addWord", desc := "(LNowhereMoney$Tape;II)V" } : Jvm.MethodName) prog_5_method_16_code (7 : Nat) (Option.none : Option Jvm.ClassFile.FieldType)) := am_tb2 191 (by decide +kernel) rfl
theorem am_w351 : am_W (Cond.instanceMethod ({ cls := "NowhereMoney$Reader", name := "addWord", desc := "(LNowhereMoney$Tape;II)V" } : Jvm.MethodName)) := am_tb2 190 (by decide +kernel) rfl
theorem am_w352 : am_W (Cond.selects "NowhereMoney$Reader" ({ cls := "NowhereMoney$Reader", name := "addWord", desc := "(LNowhereMoney$Tape;II)V" } : Jvm.MethodName) ({ cls := "NowhereMoney$Reader", name := "addWord", desc := "(LNowhereMoney$Tape;II)V" } : Jvm.MethodName)) := am_tb0 1 (by decide +kernel) rfl
theorem am_w353 : am_W (Cond.code ({ cls := "NowhereMoney$Reader", name := "isDigit", desc := "(I)Z" } : Jvm.MethodName) prog_5_method_13_code (1 : Nat) (Option.some Jvm.ClassFile.FieldType.boolean)) := am_tb3 35 (by decide +kernel) rfl
theorem am_w354 : am_W (Cond.static ({ cls := "NowhereMoney$Reader", name := "isDigit", desc := "(I)Z" } : Jvm.MethodName)) := am_tb3 34 (by decide +kernel) rfl
theorem am_w355 : am_W (Cond.code ({ cls := "NowhereMoney$Reader", name := "addNumber", desc := "(LNowhereMoney$Tape;II)V" } : Jvm.MethodName) prog_5_method_15_code (6 : Nat) (Option.none : Option Jvm.ClassFile.FieldType)) := am_tb3 39 (by decide +kernel) rfl
theorem am_w356 : am_W (Cond.instanceMethod ({ cls := "NowhereMoney$Reader", name := "addNumber", desc := "(LNowhereMoney$Tape;II)V" } : Jvm.MethodName)) := am_tb3 38 (by decide +kernel) rfl
theorem am_w357 : am_W (Cond.selects "NowhereMoney$Reader" ({ cls := "NowhereMoney$Reader", name := "addNumber", desc := "(LNowhereMoney$Tape;II)V" } : Jvm.MethodName) ({ cls := "NowhereMoney$Reader", name := "addNumber", desc := "(LNowhereMoney$Tape;II)V" } : Jvm.MethodName)) := am_tb0 3 (by decide +kernel) rfl
theorem am_w358 : am_W (Cond.code ({ cls := "java/lang/String", name := "indexOf", desc := "(I)I" } : Jvm.MethodName) prog_17_method_79_code (2 : Nat) (Option.some Jvm.ClassFile.FieldType.int)) := am_tb3 44 (by decide +kernel) rfl
theorem am_w359 : am_W (Cond.initialized "java/lang/String") := am_tb1 13 (by decide +kernel) rfl
theorem am_w360 : am_W (Cond.instanceMethod ({ cls := "java/lang/String", name := "indexOf", desc := "(I)I" } : Jvm.MethodName)) := am_tb3 42 (by decide +kernel) rfl
theorem am_w361 : am_W (Cond.selects "java/lang/String" ({ cls := "java/lang/String", name := "indexOf", desc := "(I)I" } : Jvm.MethodName) ({ cls := "java/lang/String", name := "indexOf", desc := "(I)I" } : Jvm.MethodName)) := am_tb3 43 (by decide +kernel) rfl
theorem am_w362 : am_W (Cond.code ({ cls := "NowhereMoney$Reader", name := "addToken", desc := "(III)V" } : Jvm.MethodName) prog_5_method_14_code (4 : Nat) (Option.none : Option Jvm.ClassFile.FieldType)) := am_tb3 32 (by decide +kernel) rfl
theorem am_w363 : am_W (Cond.instanceMethod ({ cls := "NowhereMoney$Reader", name := "addToken", desc := "(III)V" } : Jvm.MethodName)) := am_tb3 31 (by decide +kernel) rfl
theorem am_w364 : am_W (Cond.selects "NowhereMoney$Reader" ({ cls := "NowhereMoney$Reader", name := "addToken", desc := "(III)V" } : Jvm.MethodName) ({ cls := "NowhereMoney$Reader", name := "addToken", desc := "(III)V" } : Jvm.MethodName)) := am_tb0 2 (by decide +kernel) rfl
theorem am_w365 : am_W (Cond.code ({ cls := "NowhereMoney$Reader", name := "signWord", desc := "(I)Ljava/lang/String;" } : Jvm.MethodName) prog_5_method_19_code (1 : Nat) (Option.some (Jvm.ClassFile.FieldType.object "java/lang/String"))) := am_tb2 194 (by decide +kernel) rfl
theorem am_w366 : am_W (Cond.static ({ cls := "NowhereMoney$Reader", name := "signWord", desc := "(I)Ljava/lang/String;" } : Jvm.MethodName)) := am_tb2 193 (by decide +kernel) rfl
theorem am_w367 : am_W (Cond.code ({ cls := "NowhereMoney$Reader", name := "lawWord", desc := "(I)Ljava/lang/String;" } : Jvm.MethodName) prog_5_method_18_code (1 : Nat) (Option.some (Jvm.ClassFile.FieldType.object "java/lang/String"))) := am_tb2 210 (by decide +kernel) rfl
theorem am_w368 : am_W (Cond.static ({ cls := "NowhereMoney$Reader", name := "lawWord", desc := "(I)Ljava/lang/String;" } : Jvm.MethodName)) := am_tb2 209 (by decide +kernel) rfl
theorem am_w369 : am_W (Cond.code ({ cls := "NowhereMoney$Reader", name := "isWord", desc := "(LNowhereMoney$Tape;IILjava/lang/String;)Z" } : Jvm.MethodName) prog_5_method_17_code (5 : Nat) (Option.some Jvm.ClassFile.FieldType.boolean)) := am_tb2 220 (by decide +kernel) rfl
theorem am_w370 : am_W (Cond.static ({ cls := "NowhereMoney$Reader", name := "isWord", desc := "(LNowhereMoney$Tape;IILjava/lang/String;)Z" } : Jvm.MethodName)) := am_tb2 219 (by decide +kernel) rfl
theorem am_w371 : am_W (Cond.code ({ cls := "java/lang/String", name := "length", desc := "()I" } : Jvm.MethodName) prog_17_method_54_code (1 : Nat) (Option.some Jvm.ClassFile.FieldType.int)) := am_tb2 224 (by decide +kernel) rfl
theorem am_w372 : am_W (Cond.instanceMethod ({ cls := "java/lang/String", name := "length", desc := "()I" } : Jvm.MethodName)) := am_tb2 222 (by decide +kernel) rfl
theorem am_w373 : am_W (Cond.selects "java/lang/String" ({ cls := "java/lang/String", name := "length", desc := "()I" } : Jvm.MethodName) ({ cls := "java/lang/String", name := "length", desc := "()I" } : Jvm.MethodName)) := am_tb2 223 (by decide +kernel) rfl
theorem am_w374 : am_W (Cond.code ({ cls := "java/lang/String", name := "charAt", desc := "(I)C" } : Jvm.MethodName) prog_17_method_56_code (2 : Nat) (Option.some Jvm.ClassFile.FieldType.char)) := am_tb2 234 (by decide +kernel) rfl
theorem am_w375 : am_W (Cond.instanceMethod ({ cls := "java/lang/String", name := "charAt", desc := "(I)C" } : Jvm.MethodName)) := am_tb2 232 (by decide +kernel) rfl
theorem am_w376 : am_W (Cond.selects "java/lang/String" ({ cls := "java/lang/String", name := "charAt", desc := "(I)C" } : Jvm.MethodName) ({ cls := "java/lang/String", name := "charAt", desc := "(I)C" } : Jvm.MethodName)) := am_tb2 233 (by decide +kernel) rfl
theorem am_w377 : am_W (Cond.code ({ cls := "NowhereMoney$Rings", name := "unfold", desc := "(II)Z" } : Jvm.MethodName) prog_6_method_3_code (5 : Nat) (Option.some Jvm.ClassFile.FieldType.boolean)) := am_tb4 180 (by decide +kernel) rfl
theorem am_w378 : am_W (Cond.initialized "NowhereMoney$Rings") := am_tb1 10 (by decide +kernel) rfl
theorem am_w379 : am_W (Cond.instanceMethod ({ cls := "NowhereMoney$Rings", name := "unfold", desc := "(II)Z" } : Jvm.MethodName)) := am_tb4 179 (by decide +kernel) rfl
theorem am_w380 : am_W (Cond.selects "NowhereMoney$Rings" ({ cls := "NowhereMoney$Rings", name := "unfold", desc := "(II)Z" } : Jvm.MethodName) ({ cls := "NowhereMoney$Rings", name := "unfold", desc := "(II)Z" } : Jvm.MethodName)) := am_tb0 27 (by decide +kernel) rfl
theorem am_w381 : am_W (Cond.code ({ cls := "java/lang/Integer", name := "bitCount", desc := "(I)I" } : Jvm.MethodName) prog_15_method_49_code (1 : Nat) (Option.some Jvm.ClassFile.FieldType.int)) := am_tb4 183 (by decide +kernel) rfl
theorem am_w382 : am_W (Cond.initialized "java/lang/Integer") := am_tb1 20 (by decide +kernel) rfl
theorem am_w383 : am_W (Cond.static ({ cls := "java/lang/Integer", name := "bitCount", desc := "(I)I" } : Jvm.MethodName)) := am_tb4 182 (by decide +kernel) rfl
theorem am_w384 : am_W (Cond.code ({ cls := "NowhereMoney$Script", name := "isSo", desc := "(I[I)Z" } : Jvm.MethodName) prog_7_method_10_code (4 : Nat) (Option.some Jvm.ClassFile.FieldType.boolean)) := am_tb3 213 (by decide +kernel) rfl
theorem am_w385 : am_W (Cond.instanceMethod ({ cls := "NowhereMoney$Script", name := "isSo", desc := "(I[I)Z" } : Jvm.MethodName)) := am_tb3 212 (by decide +kernel) rfl
theorem am_w386 : am_W (Cond.selects "NowhereMoney$Script" ({ cls := "NowhereMoney$Script", name := "isSo", desc := "(I[I)Z" } : Jvm.MethodName) ({ cls := "NowhereMoney$Script", name := "isSo", desc := "(I[I)Z" } : Jvm.MethodName)) := am_tb0 12 (by decide +kernel) rfl
theorem am_w387 : am_W (Cond.code ({ cls := "NowhereMoney$Script", name := "run", desc := "(II[I)I" } : Jvm.MethodName) prog_7_method_11_code (10 : Nat) (Option.some Jvm.ClassFile.FieldType.int)) := am_tb3 217 (by decide +kernel) rfl
theorem am_w388 : am_W (Cond.instanceMethod ({ cls := "NowhereMoney$Script", name := "run", desc := "(II[I)I" } : Jvm.MethodName)) := am_tb3 216 (by decide +kernel) rfl
theorem am_w389 : am_W (Cond.selects "NowhereMoney$Script" ({ cls := "NowhereMoney$Script", name := "run", desc := "(II[I)I" } : Jvm.MethodName) ({ cls := "NowhereMoney$Script", name := "run", desc := "(II[I)I" } : Jvm.MethodName)) := am_tb0 13 (by decide +kernel) rfl
theorem am_w390 : am_W (Cond.code ({ cls := "NowhereMoney$Watch", name := "gather", desc := "(II)V" } : Jvm.MethodName) prog_9_method_6_code (7 : Nat) (Option.none : Option Jvm.ClassFile.FieldType)) := am_tb4 77 (by decide +kernel) rfl
theorem am_w391 : am_W (Cond.initialized "NowhereMoney$Watch") := am_tb1 9 (by decide +kernel) rfl
theorem am_w392 : am_W (Cond.instanceMethod ({ cls := "NowhereMoney$Watch", name := "gather", desc := "(II)V" } : Jvm.MethodName)) := am_tb4 75 (by decide +kernel) rfl
theorem am_w393 : am_W (Cond.selects "NowhereMoney$Watch" ({ cls := "NowhereMoney$Watch", name := "gather", desc := "(II)V" } : Jvm.MethodName) ({ cls := "NowhereMoney$Watch", name := "gather", desc := "(II)V" } : Jvm.MethodName)) := am_tb4 76 (by decide +kernel) rfl
theorem am_w394 : am_W (Cond.code ({ cls := "NowhereMoney$Script", name := "anyIsSo", desc := "([I)Z" } : Jvm.MethodName) prog_7_method_9_code (3 : Nat) (Option.some Jvm.ClassFile.FieldType.boolean)) := am_tb4 104 (by decide +kernel) rfl
theorem am_w395 : am_W (Cond.instanceMethod ({ cls := "NowhereMoney$Script", name := "anyIsSo", desc := "([I)Z" } : Jvm.MethodName)) := am_tb4 102 (by decide +kernel) rfl
theorem am_w396 : am_W (Cond.selects "NowhereMoney$Script" ({ cls := "NowhereMoney$Script", name := "anyIsSo", desc := "([I)Z" } : Jvm.MethodName) ({ cls := "NowhereMoney$Script", name := "anyIsSo", desc := "([I)Z" } : Jvm.MethodName)) := am_tb4 103 (by decide +kernel) rfl
theorem am_w397 : am_W (Cond.code ({ cls := "NowhereMoney$Watch", name := "criesFor", desc := "(II)Z" } : Jvm.MethodName) prog_9_method_2_code (3 : Nat) (Option.some Jvm.ClassFile.FieldType.boolean)) := am_tb4 73 (by decide +kernel) rfl
theorem am_w398 : am_W (Cond.instanceMethod ({ cls := "NowhereMoney$Watch", name := "criesFor", desc := "(II)Z" } : Jvm.MethodName)) := am_tb4 71 (by decide +kernel) rfl
theorem am_w399 : am_W (Cond.selects "NowhereMoney$Watch" ({ cls := "NowhereMoney$Watch", name := "criesFor", desc := "(II)Z" } : Jvm.MethodName) ({ cls := "NowhereMoney$Watch", name := "criesFor", desc := "(II)Z" } : Jvm.MethodName)) := am_tb4 72 (by decide +kernel) rfl
theorem am_w400 : am_W (Cond.code ({ cls := "NowhereMoney$Watch", name := "isAmong", desc := "(III)Z" } : Jvm.MethodName) prog_9_method_7_code (7 : Nat) (Option.some Jvm.ClassFile.FieldType.boolean)) := am_tb4 81 (by decide +kernel) rfl
theorem am_w401 : am_W (Cond.instanceMethod ({ cls := "NowhereMoney$Watch", name := "isAmong", desc := "(III)Z" } : Jvm.MethodName)) := am_tb4 80 (by decide +kernel) rfl
theorem am_w402 : am_W (Cond.selects "NowhereMoney$Watch" ({ cls := "NowhereMoney$Watch", name := "isAmong", desc := "(III)Z" } : Jvm.MethodName) ({ cls := "NowhereMoney$Watch", name := "isAmong", desc := "(III)Z" } : Jvm.MethodName)) := am_tb0 20 (by decide +kernel) rfl
theorem am_w403 : am_W (Cond.code ({ cls := "NowhereMoney$Watch", name := "hasMatch", desc := "(III)Z" } : Jvm.MethodName) prog_9_method_8_code (8 : Nat) (Option.some Jvm.ClassFile.FieldType.boolean)) := am_tb4 87 (by decide +kernel) rfl
theorem am_w404 : am_W (Cond.instanceMethod ({ cls := "NowhereMoney$Watch", name := "hasMatch", desc := "(III)Z" } : Jvm.MethodName)) := am_tb4 86 (by decide +kernel) rfl
theorem am_w405 : am_W (Cond.selects "NowhereMoney$Watch" ({ cls := "NowhereMoney$Watch", name := "hasMatch", desc := "(III)Z" } : Jvm.MethodName) ({ cls := "NowhereMoney$Watch", name := "hasMatch", desc := "(III)Z" } : Jvm.MethodName)) := am_tb0 21 (by decide +kernel) rfl
theorem am_w406 : am_W (Cond.code ({ cls := "NowhereMoney$Watch", name := "lowOf", desc := "(III)I" } : Jvm.MethodName) prog_9_method_9_code (9 : Nat) (Option.some Jvm.ClassFile.FieldType.int)) := am_tb4 95 (by decide +kernel) rfl
theorem am_w407 : am_W (Cond.instanceMethod ({ cls := "NowhereMoney$Watch", name := "lowOf", desc := "(III)I" } : Jvm.MethodName)) := am_tb4 94 (by decide +kernel) rfl
theorem am_w408 : am_W (Cond.selects "NowhereMoney$Watch" ({ cls := "NowhereMoney$Watch", name := "lowOf", desc := "(III)I" } : Jvm.MethodName) ({ cls := "NowhereMoney$Watch", name := "lowOf", desc := "(III)I" } : Jvm.MethodName)) := am_tb0 22 (by decide +kernel) rfl
theorem am_w409 : am_W (Cond.code ({ cls := "NowhereMoney$World", name := "keptAt", desc := "(III)I" } : Jvm.MethodName) prog_11_method_5_code (6 : Nat) (Option.some Jvm.ClassFile.FieldType.int)) := am_tb4 100 (by decide +kernel) rfl
theorem am_w410 : am_W (Cond.initialized "NowhereMoney$World") := am_tb1 5 (by decide +kernel) rfl
theorem am_w411 : am_W (Cond.instanceMethod ({ cls := "NowhereMoney$World", name := "keptAt", desc := "(III)I" } : Jvm.MethodName)) := am_tb4 98 (by decide +kernel) rfl
theorem am_w412 : am_W (Cond.selects "NowhereMoney$World" ({ cls := "NowhereMoney$World", name := "keptAt", desc := "(III)I" } : Jvm.MethodName) ({ cls := "NowhereMoney$World", name := "keptAt", desc := "(III)I" } : Jvm.MethodName)) := am_tb4 99 (by decide +kernel) rfl
theorem am_w413 : am_W (Cond.code ({ cls := "NowhereMoney$Ways", name := "isWay", desc := "(LNowhereMoney$World;I)Z" } : Jvm.MethodName) prog_10_method_4_code (5 : Nat) (Option.some Jvm.ClassFile.FieldType.boolean)) := am_tb5 61 (by decide +kernel) rfl
theorem am_w414 : am_W (Cond.initialized "NowhereMoney$Ways") := am_tb1 11 (by decide +kernel) rfl
theorem am_w415 : am_W (Cond.instanceMethod ({ cls := "NowhereMoney$Ways", name := "isWay", desc := "(LNowhereMoney$World;I)Z" } : Jvm.MethodName)) := am_tb5 60 (by decide +kernel) rfl
theorem am_w416 : am_W (Cond.selects "NowhereMoney$Ways" ({ cls := "NowhereMoney$Ways", name := "isWay", desc := "(LNowhereMoney$World;I)Z" } : Jvm.MethodName) ({ cls := "NowhereMoney$Ways", name := "isWay", desc := "(LNowhereMoney$World;I)Z" } : Jvm.MethodName)) := am_tb0 29 (by decide +kernel) rfl
theorem am_w417 : am_W (Cond.code ({ cls := "NowhereMoney$Ways", name := "floatOf", desc := "(LNowhereMoney$World;I)I" } : Jvm.MethodName) prog_10_method_5_code (6 : Nat) (Option.some Jvm.ClassFile.FieldType.int)) := am_tb5 69 (by decide +kernel) rfl
theorem am_w418 : am_W (Cond.instanceMethod ({ cls := "NowhereMoney$Ways", name := "floatOf", desc := "(LNowhereMoney$World;I)I" } : Jvm.MethodName)) := am_tb5 68 (by decide +kernel) rfl
theorem am_w419 : am_W (Cond.selects "NowhereMoney$Ways" ({ cls := "NowhereMoney$Ways", name := "floatOf", desc := "(LNowhereMoney$World;I)I" } : Jvm.MethodName) ({ cls := "NowhereMoney$Ways", name := "floatOf", desc := "(LNowhereMoney$World;I)I" } : Jvm.MethodName)) := am_tb0 30 (by decide +kernel) rfl
theorem am_w420 : am_W (Cond.code ({ cls := "NowhereMoney$Ways", name := "bankOf", desc := "(III)I" } : Jvm.MethodName) prog_10_method_3_code (4 : Nat) (Option.some Jvm.ClassFile.FieldType.int)) := am_tb5 65 (by decide +kernel) rfl
theorem am_w421 : am_W (Cond.instanceMethod ({ cls := "NowhereMoney$Ways", name := "bankOf", desc := "(III)I" } : Jvm.MethodName)) := am_tb5 63 (by decide +kernel) rfl
theorem am_w422 : am_W (Cond.selects "NowhereMoney$Ways" ({ cls := "NowhereMoney$Ways", name := "bankOf", desc := "(III)I" } : Jvm.MethodName) ({ cls := "NowhereMoney$Ways", name := "bankOf", desc := "(III)I" } : Jvm.MethodName)) := am_tb5 64 (by decide +kernel) rfl
theorem am_w423 : am_W (Cond.code ({ cls := "NowhereMoney$Country", name := "<init>", desc := "()V" } : Jvm.MethodName) prog_2_method_1_code (3 : Nat) (Option.none : Option Jvm.ClassFile.FieldType)) := am_tb1 125 (by decide +kernel) rfl
theorem am_w424 : am_W (Cond.instanceMethod ({ cls := "NowhereMoney$Country", name := "<init>", desc := "()V" } : Jvm.MethodName)) := am_tb1 124 (by decide +kernel) rfl
theorem am_w425 : am_W (Cond.code ({ cls := "NowhereMoney$Entries", name := "<init>", desc := "()V" } : Jvm.MethodName) prog_3_method_1_code (1 : Nat) (Option.none : Option Jvm.ClassFile.FieldType)) := am_tb1 163 (by decide +kernel) rfl
theorem am_w426 : am_W (Cond.instanceMethod ({ cls := "NowhereMoney$Entries", name := "<init>", desc := "()V" } : Jvm.MethodName)) := am_tb1 162 (by decide +kernel) rfl
theorem am_w427 : am_W (Cond.code ({ cls := "NowhereMoney$Ledger", name := "<init>", desc := "(LNowhereMoney$Country;LNowhereMoney$Entries;)V" } : Jvm.MethodName) prog_4_method_1_code (3 : Nat) (Option.none : Option Jvm.ClassFile.FieldType)) := am_tb1 178 (by decide +kernel) rfl
theorem am_w428 : am_W (Cond.instanceMethod ({ cls := "NowhereMoney$Ledger", name := "<init>", desc := "(LNowhereMoney$Country;LNowhereMoney$Entries;)V" } : Jvm.MethodName)) := am_tb1 177 (by decide +kernel) rfl
theorem am_w429 : am_W (Cond.code ({ cls := "NowhereMoney$Country", name := "copyFrom", desc := "(LNowhereMoney$Country;)V" } : Jvm.MethodName) prog_2_method_2_code (3 : Nat) (Option.none : Option Jvm.ClassFile.FieldType)) := am_tb5 111 (by decide +kernel) rfl
theorem am_w430 : am_W (Cond.instanceMethod ({ cls := "NowhereMoney$Country", name := "copyFrom", desc := "(LNowhereMoney$Country;)V" } : Jvm.MethodName)) := am_tb5 109 (by decide +kernel) rfl
theorem am_w431 : am_W (Cond.selects "NowhereMoney$Country" ({ cls := "NowhereMoney$Country", name := "copyFrom", desc := "(LNowhereMoney$Country;)V" } : Jvm.MethodName) ({ cls := "NowhereMoney$Country", name := "copyFrom", desc := "(LNowhereMoney$Country;)V" } : Jvm.MethodName)) := am_tb5 110 (by decide +kernel) rfl
theorem am_w432 : am_W (Cond.code ({ cls := "NowhereMoney$Entries", name := "copyFrom", desc := "(LNowhereMoney$Entries;)V" } : Jvm.MethodName) prog_3_method_3_code (2 : Nat) (Option.none : Option Jvm.ClassFile.FieldType)) := am_tb5 117 (by decide +kernel) rfl
theorem am_w433 : am_W (Cond.instanceMethod ({ cls := "NowhereMoney$Entries", name := "copyFrom", desc := "(LNowhereMoney$Entries;)V" } : Jvm.MethodName)) := am_tb5 115 (by decide +kernel) rfl
theorem am_w434 : am_W (Cond.selects "NowhereMoney$Entries" ({ cls := "NowhereMoney$Entries", name := "copyFrom", desc := "(LNowhereMoney$Entries;)V" } : Jvm.MethodName) ({ cls := "NowhereMoney$Entries", name := "copyFrom", desc := "(LNowhereMoney$Entries;)V" } : Jvm.MethodName)) := am_tb5 116 (by decide +kernel) rfl
theorem am_w435 : am_W (Cond.code ({ cls := "NowhereMoney$Ledger", name := "copyFrom", desc := "(LNowhereMoney$Ledger;)V" } : Jvm.MethodName) prog_4_method_2_code (2 : Nat) (Option.none : Option Jvm.ClassFile.FieldType)) := am_tb5 28 (by decide +kernel) rfl
theorem am_w436 : am_W (Cond.instanceMethod ({ cls := "NowhereMoney$Ledger", name := "copyFrom", desc := "(LNowhereMoney$Ledger;)V" } : Jvm.MethodName)) := am_tb5 26 (by decide +kernel) rfl
theorem am_w437 : am_W (Cond.selects "NowhereMoney$Ledger" ({ cls := "NowhereMoney$Ledger", name := "copyFrom", desc := "(LNowhereMoney$Ledger;)V" } : Jvm.MethodName) ({ cls := "NowhereMoney$Ledger", name := "copyFrom", desc := "(LNowhereMoney$Ledger;)V" } : Jvm.MethodName)) := am_tb5 27 (by decide +kernel) rfl
theorem am_w438 : am_W (Cond.code ({ cls := "NowhereMoney$Ledger", name := "booksOf", desc := "(I)I" } : Jvm.MethodName) prog_4_method_20_code (4 : Nat) (Option.some Jvm.ClassFile.FieldType.int)) := am_tb4 61 (by decide +kernel) rfl
theorem am_w439 : am_W (Cond.instanceMethod ({ cls := "NowhereMoney$Ledger", name := "booksOf", desc := "(I)I" } : Jvm.MethodName)) := am_tb4 59 (by decide +kernel) rfl
theorem am_w440 : am_W (Cond.selects "NowhereMoney$Ledger" ({ cls := "NowhereMoney$Ledger", name := "booksOf", desc := "(I)I" } : Jvm.MethodName) ({ cls := "NowhereMoney$Ledger", name := "booksOf", desc := "(I)I" } : Jvm.MethodName)) := am_tb4 60 (by decide +kernel) rfl
theorem am_w441 : am_W (Cond.code ({ cls := "NowhereMoney$Ledger", name := "waterOf", desc := "(I)I" } : Jvm.MethodName) prog_4_method_21_code (4 : Nat) (Option.some Jvm.ClassFile.FieldType.int)) := am_tb4 65 (by decide +kernel) rfl
theorem am_w442 : am_W (Cond.instanceMethod ({ cls := "NowhereMoney$Ledger", name := "waterOf", desc := "(I)I" } : Jvm.MethodName)) := am_tb4 63 (by decide +kernel) rfl
theorem am_w443 : am_W (Cond.selects "NowhereMoney$Ledger" ({ cls := "NowhereMoney$Ledger", name := "waterOf", desc := "(I)I" } : Jvm.MethodName) ({ cls := "NowhereMoney$Ledger", name := "waterOf", desc := "(I)I" } : Jvm.MethodName)) := am_tb4 64 (by decide +kernel) rfl
theorem am_w444 : am_W (Cond.code ({ cls := "NowhereMoney$Tape", name := "<init>", desc := "()V" } : Jvm.MethodName) prog_8_method_1_code (1 : Nat) (Option.none : Option Jvm.ClassFile.FieldType)) := am_tb1 33 (by decide +kernel) rfl
theorem am_w445 : am_W (Cond.initialized "NowhereMoney$Tape") := am_tb1 2 (by decide +kernel) rfl
theorem am_w446 : am_W (Cond.instanceMethod ({ cls := "NowhereMoney$Tape", name := "<init>", desc := "()V" } : Jvm.MethodName)) := am_tb1 32 (by decide +kernel) rfl
theorem am_w447 : am_W (Cond.code ({ cls := "NowhereMoney$Reader", name := "<init>", desc := "()V" } : Jvm.MethodName) prog_5_method_1_code (1 : Nat) (Option.none : Option Jvm.ClassFile.FieldType)) := am_tb1 50 (by decide +kernel) rfl
theorem am_w448 : am_W (Cond.instanceMethod ({ cls := "NowhereMoney$Reader", name := "<init>", desc := "()V" } : Jvm.MethodName)) := am_tb1 49 (by decide +kernel) rfl
theorem am_w449 : am_W (Cond.code ({ cls := "NowhereMoney$World", name := "<init>", desc := "()V" } : Jvm.MethodName) prog_11_method_1_code (2 : Nat) (Option.none : Option Jvm.ClassFile.FieldType)) := am_tb1 119 (by decide +kernel) rfl
theorem am_w450 : am_W (Cond.instanceMethod ({ cls := "NowhereMoney$World", name := "<init>", desc := "()V" } : Jvm.MethodName)) := am_tb1 118 (by decide +kernel) rfl
theorem am_w451 : am_W (Cond.code ({ cls := "NowhereMoney$Watch", name := "<init>", desc := "(LNowhereMoney$World;)V" } : Jvm.MethodName) prog_9_method_1_code (2 : Nat) (Option.none : Option Jvm.ClassFile.FieldType)) := am_tb2 33 (by decide +kernel) rfl
theorem am_w452 : am_W (Cond.instanceMethod ({ cls := "NowhereMoney$Watch", name := "<init>", desc := "(LNowhereMoney$World;)V" } : Jvm.MethodName)) := am_tb2 32 (by decide +kernel) rfl
theorem am_w453 : am_W (Cond.code ({ cls := "NowhereMoney$Rings", name := "<init>", desc := "()V" } : Jvm.MethodName) prog_6_method_1_code (1 : Nat) (Option.none : Option Jvm.ClassFile.FieldType)) := am_tb2 47 (by decide +kernel) rfl
theorem am_w454 : am_W (Cond.instanceMethod ({ cls := "NowhereMoney$Rings", name := "<init>", desc := "()V" } : Jvm.MethodName)) := am_tb2 46 (by decide +kernel) rfl
theorem am_w455 : am_W (Cond.code ({ cls := "NowhereMoney$Ways", name := "<init>", desc := "()V" } : Jvm.MethodName) prog_10_method_1_code (1 : Nat) (Option.none : Option Jvm.ClassFile.FieldType)) := am_tb2 69 (by decide +kernel) rfl
theorem am_w456 : am_W (Cond.instanceMethod ({ cls := "NowhereMoney$Ways", name := "<init>", desc := "()V" } : Jvm.MethodName)) := am_tb2 68 (by decide +kernel) rfl
theorem am_w457 : am_W (Cond.code ({ cls := "NowhereMoney", name := "isBank", desc := "(I)Z" } : Jvm.MethodName) prog_1_method_39_code (1 : Nat) (Option.some Jvm.ClassFile.FieldType.boolean)) := am_tb2 146 (by decide +kernel) rfl
theorem am_w458 : am_W (Cond.static ({ cls := "NowhereMoney", name := "isBank", desc := "(I)Z" } : Jvm.MethodName)) := am_tb2 145 (by decide +kernel) rfl
theorem am_w459 : am_W (Cond.code ({ cls := "NowhereMoney", name := "isTown", desc := "(I)Z" } : Jvm.MethodName) prog_1_method_41_code (1 : Nat) (Option.some Jvm.ClassFile.FieldType.boolean)) := am_tb2 149 (by decide +kernel) rfl
theorem am_w460 : am_W (Cond.static ({ cls := "NowhereMoney", name := "isTown", desc := "(I)Z" } : Jvm.MethodName)) := am_tb2 148 (by decide +kernel) rfl
theorem am_w461 : am_W (Cond.code ({ cls := "NowhereMoney$Tape", name := "put", desc := "(I)V" } : Jvm.MethodName) prog_8_method_2_code (3 : Nat) (Option.none : Option Jvm.ClassFile.FieldType)) := am_tb2 168 (by decide +kernel) rfl
theorem am_w462 : am_W (Cond.instanceMethod ({ cls := "NowhereMoney$Tape", name := "put", desc := "(I)V" } : Jvm.MethodName)) := am_tb2 166 (by decide +kernel) rfl
theorem am_w463 : am_W (Cond.selects "NowhereMoney$Tape" ({ cls := "NowhereMoney$Tape", name := "put", desc := "(I)V" } : Jvm.MethodName) ({ cls := "NowhereMoney$Tape", name := "put", desc := "(I)V" } : Jvm.MethodName)) := am_tb2 167 (by decide +kernel) rfl
theorem am_w464 : am_W (Cond.code ({ cls := "NowhereMoney$Reader", name := "compile", desc := "(LNowhereMoney$Tape;Z)Z" } : Jvm.MethodName) prog_5_method_2_code (4 : Nat) (Option.some Jvm.ClassFile.FieldType.boolean)) := am_tb2 180 (by decide +kernel) rfl
theorem am_w465 : am_W (Cond.instanceMethod ({ cls := "NowhereMoney$Reader", name := "compile", desc := "(LNowhereMoney$Tape;Z)Z" } : Jvm.MethodName)) := am_tb2 178 (by decide +kernel) rfl
theorem am_w466 : am_W (Cond.selects "NowhereMoney$Reader" ({ cls := "NowhereMoney$Reader", name := "compile", desc := "(LNowhereMoney$Tape;Z)Z" } : Jvm.MethodName) ({ cls := "NowhereMoney$Reader", name := "compile", desc := "(LNowhereMoney$Tape;Z)Z" } : Jvm.MethodName)) := am_tb2 179 (by decide +kernel) rfl
theorem am_w467 : am_W (Cond.code ({ cls := "NowhereMoney", name := "isHouse", desc := "(I)Z" } : Jvm.MethodName) prog_1_method_40_code (1 : Nat) (Option.some Jvm.ClassFile.FieldType.boolean)) := am_tb3 170 (by decide +kernel) rfl
theorem am_w468 : am_W (Cond.static ({ cls := "NowhereMoney", name := "isHouse", desc := "(I)Z" } : Jvm.MethodName)) := am_tb3 169 (by decide +kernel) rfl
theorem am_w469 : am_W (Cond.code ({ cls := "NowhereMoney", name := "isAmount", desc := "(I)Z" } : Jvm.MethodName) prog_1_method_43_code (1 : Nat) (Option.some Jvm.ClassFile.FieldType.boolean)) := am_tb4 2 (by decide +kernel) rfl
theorem am_w470 : am_W (Cond.static ({ cls := "NowhereMoney", name := "isAmount", desc := "(I)Z" } : Jvm.MethodName)) := am_tb4 1 (by decide +kernel) rfl
theorem am_w471 : am_W (Cond.code ({ cls := "NowhereMoney$Ledger", name := "takeIn", desc := "(IIIII)I" } : Jvm.MethodName) prog_4_method_13_code (8 : Nat) (Option.some Jvm.ClassFile.FieldType.int)) := am_tb4 7 (by decide +kernel) rfl
theorem am_w472 : am_W (Cond.instanceMethod ({ cls := "NowhereMoney$Ledger", name := "takeIn", desc := "(IIIII)I" } : Jvm.MethodName)) := am_tb4 5 (by decide +kernel) rfl
theorem am_w473 : am_W (Cond.selects "NowhereMoney$Ledger" ({ cls := "NowhereMoney$Ledger", name := "takeIn", desc := "(IIIII)I" } : Jvm.MethodName) ({ cls := "NowhereMoney$Ledger", name := "takeIn", desc := "(IIIII)I" } : Jvm.MethodName)) := am_tb4 6 (by decide +kernel) rfl
theorem am_w474 : am_W (Cond.code ({ cls := "NowhereMoney$Ledger", name := "morning", desc := "(I)I" } : Jvm.MethodName) prog_4_method_14_code (6 : Nat) (Option.some Jvm.ClassFile.FieldType.int)) := am_tb4 21 (by decide +kernel) rfl
theorem am_w475 : am_W (Cond.instanceMethod ({ cls := "NowhereMoney$Ledger", name := "morning", desc := "(I)I" } : Jvm.MethodName)) := am_tb4 19 (by decide +kernel) rfl
theorem am_w476 : am_W (Cond.selects "NowhereMoney$Ledger" ({ cls := "NowhereMoney$Ledger", name := "morning", desc := "(I)I" } : Jvm.MethodName) ({ cls := "NowhereMoney$Ledger", name := "morning", desc := "(I)I" } : Jvm.MethodName)) := am_tb4 20 (by decide +kernel) rfl
theorem am_w477 : am_W (Cond.code ({ cls := "NowhereMoney$World", name := "keep", desc := "()V" } : Jvm.MethodName) prog_11_method_4_code (4 : Nat) (Option.none : Option Jvm.ClassFile.FieldType)) := am_tb4 56 (by decide +kernel) rfl
theorem am_w478 : am_W (Cond.instanceMethod ({ cls := "NowhereMoney$World", name := "keep", desc := "()V" } : Jvm.MethodName)) := am_tb4 54 (by decide +kernel) rfl
theorem am_w479 : am_W (Cond.selects "NowhereMoney$World" ({ cls := "NowhereMoney$World", name := "keep", desc := "()V" } : Jvm.MethodName) ({ cls := "NowhereMoney$World", name := "keep", desc := "()V" } : Jvm.MethodName)) := am_tb4 55 (by decide +kernel) rfl
theorem am_w480 : am_W (Cond.code ({ cls := "NowhereMoney$Watch", name := "lookAlone", desc := "()V" } : Jvm.MethodName) prog_9_method_4_code (4 : Nat) (Option.none : Option Jvm.ClassFile.FieldType)) := am_tb4 69 (by decide +kernel) rfl
theorem am_w481 : am_W (Cond.instanceMethod ({ cls := "NowhereMoney$Watch", name := "lookAlone", desc := "()V" } : Jvm.MethodName)) := am_tb4 67 (by decide +kernel) rfl
theorem am_w482 : am_W (Cond.selects "NowhereMoney$Watch" ({ cls := "NowhereMoney$Watch", name := "lookAlone", desc := "()V" } : Jvm.MethodName) ({ cls := "NowhereMoney$Watch", name := "lookAlone", desc := "()V" } : Jvm.MethodName)) := am_tb4 68 (by decide +kernel) rfl
theorem am_w483 : am_W (Cond.code ({ cls := "NowhereMoney", name := "isCheque", desc := "(I)Z" } : Jvm.MethodName) prog_1_method_45_code (2 : Nat) (Option.some Jvm.ClassFile.FieldType.boolean)) := am_tb4 119 (by decide +kernel) rfl
theorem am_w484 : am_W (Cond.instanceMethod ({ cls := "NowhereMoney", name := "isCheque", desc := "(I)Z" } : Jvm.MethodName)) := am_tb4 118 (by decide +kernel) rfl
theorem am_w485 : am_W (Cond.selects "NowhereMoney" ({ cls := "NowhereMoney", name := "isCheque", desc := "(I)Z" } : Jvm.MethodName) ({ cls := "NowhereMoney", name := "isCheque", desc := "(I)Z" } : Jvm.MethodName)) := am_tb0 23 (by decide +kernel) rfl
theorem am_w486 : am_W (Cond.code ({ cls := "NowhereMoney", name := "sumOf", desc := "([I)I" } : Jvm.MethodName) prog_1_method_48_code (6 : Nat) (Option.some Jvm.ClassFile.FieldType.int)) := am_tb4 136 (by decide +kernel) rfl
theorem am_w487 : am_W (Cond.static ({ cls := "NowhereMoney", name := "sumOf", desc := "([I)I" } : Jvm.MethodName)) := am_tb4 135 (by decide +kernel) rfl
theorem am_w488 : am_W (Cond.code ({ cls := "NowhereMoney$Ledger", name := "sumInFlight", desc := "()I" } : Jvm.MethodName) prog_4_method_22_code (3 : Nat) (Option.some Jvm.ClassFile.FieldType.int)) := am_tb4 140 (by decide +kernel) rfl
theorem am_w489 : am_W (Cond.instanceMethod ({ cls := "NowhereMoney$Ledger", name := "sumInFlight", desc := "()I" } : Jvm.MethodName)) := am_tb4 138 (by decide +kernel) rfl
theorem am_w490 : am_W (Cond.selects "NowhereMoney$Ledger" ({ cls := "NowhereMoney$Ledger", name := "sumInFlight", desc := "()I" } : Jvm.MethodName) ({ cls := "NowhereMoney$Ledger", name := "sumInFlight", desc := "()I" } : Jvm.MethodName)) := am_tb4 139 (by decide +kernel) rfl
theorem am_w491 : am_W (Cond.code ({ cls := "NowhereMoney$Ledger", name := "countInFlight", desc := "()I" } : Jvm.MethodName) prog_4_method_23_code (3 : Nat) (Option.some Jvm.ClassFile.FieldType.int)) := am_tb4 144 (by decide +kernel) rfl
theorem am_w492 : am_W (Cond.instanceMethod ({ cls := "NowhereMoney$Ledger", name := "countInFlight", desc := "()I" } : Jvm.MethodName)) := am_tb4 142 (by decide +kernel) rfl
theorem am_w493 : am_W (Cond.selects "NowhereMoney$Ledger" ({ cls := "NowhereMoney$Ledger", name := "countInFlight", desc := "()I" } : Jvm.MethodName) ({ cls := "NowhereMoney$Ledger", name := "countInFlight", desc := "()I" } : Jvm.MethodName)) := am_tb4 143 (by decide +kernel) rfl
theorem am_w494 : am_W (Cond.code ({ cls := "NowhereMoney", name := "isBusinessDay", desc := "(I)Z" } : Jvm.MethodName) prog_1_method_46_code (2 : Nat) (Option.some Jvm.ClassFile.FieldType.boolean)) := am_tb4 152 (by decide +kernel) rfl
theorem am_w495 : am_W (Cond.instanceMethod ({ cls := "NowhereMoney", name := "isBusinessDay", desc := "(I)Z" } : Jvm.MethodName)) := am_tb4 151 (by decide +kernel) rfl
theorem am_w496 : am_W (Cond.selects "NowhereMoney" ({ cls := "NowhereMoney", name := "isBusinessDay", desc := "(I)Z" } : Jvm.MethodName) ({ cls := "NowhereMoney", name := "isBusinessDay", desc := "(I)Z" } : Jvm.MethodName)) := am_tb0 24 (by decide +kernel) rfl
theorem am_w497 : am_W (Cond.code ({ cls := "NowhereMoney$Country", name := "flightDays", desc := "(III)I" } : Jvm.MethodName) prog_2_method_7_code (6 : Nat) (Option.some Jvm.ClassFile.FieldType.int)) := am_tb4 156 (by decide +kernel) rfl
theorem am_w498 : am_W (Cond.instanceMethod ({ cls := "NowhereMoney$Country", name := "flightDays", desc := "(III)I" } : Jvm.MethodName)) := am_tb4 154 (by decide +kernel) rfl
theorem am_w499 : am_W (Cond.selects "NowhereMoney$Country" ({ cls := "NowhereMoney$Country", name := "flightDays", desc := "(III)I" } : Jvm.MethodName) ({ cls := "NowhereMoney$Country", name := "flightDays", desc := "(III)I" } : Jvm.MethodName)) := am_tb4 155 (by decide +kernel) rfl
theorem am_w500 : am_W (Cond.code ({ cls := "NowhereMoney", name := "isRing", desc := "(III)Z" } : Jvm.MethodName) prog_1_method_47_code (5 : Nat) (Option.some Jvm.ClassFile.FieldType.boolean)) := am_tb4 167 (by decide +kernel) rfl
theorem am_w501 : am_W (Cond.instanceMethod ({ cls := "NowhereMoney", name := "isRing", desc := "(III)Z" } : Jvm.MethodName)) := am_tb4 166 (by decide +kernel) rfl
theorem am_w502 : am_W (Cond.selects "NowhereMoney" ({ cls := "NowhereMoney", name := "isRing", desc := "(III)Z" } : Jvm.MethodName) ({ cls := "NowhereMoney", name := "isRing", desc := "(III)Z" } : Jvm.MethodName)) := am_tb0 25 (by decide +kernel) rfl
theorem am_w503 : am_W (Cond.code ({ cls := "NowhereMoney", name := "fillRings", desc := "(III)V" } : Jvm.MethodName) prog_1_method_49_code (8 : Nat) (Option.none : Option Jvm.ClassFile.FieldType)) := am_tb4 171 (by decide +kernel) rfl
theorem am_w504 : am_W (Cond.instanceMethod ({ cls := "NowhereMoney", name := "fillRings", desc := "(III)V" } : Jvm.MethodName)) := am_tb4 170 (by decide +kernel) rfl
theorem am_w505 : am_W (Cond.selects "NowhereMoney" ({ cls := "NowhereMoney", name := "fillRings", desc := "(III)V" } : Jvm.MethodName) ({ cls := "NowhereMoney", name := "fillRings", desc := "(III)V" } : Jvm.MethodName)) := am_tb0 26 (by decide +kernel) rfl
theorem am_w506 : am_W (Cond.code ({ cls := "NowhereMoney$Rings", name := "search", desc := "(I)V" } : Jvm.MethodName) prog_6_method_2_code (7 : Nat) (Option.none : Option Jvm.ClassFile.FieldType)) := am_tb4 176 (by decide +kernel) rfl
theorem am_w507 : am_W (Cond.instanceMethod ({ cls := "NowhereMoney$Rings", name := "search", desc := "(I)V" } : Jvm.MethodName)) := am_tb4 174 (by decide +kernel) rfl
theorem am_w508 : am_W (Cond.selects "NowhereMoney$Rings" ({ cls := "NowhereMoney$Rings", name := "search", desc := "(I)V" } : Jvm.MethodName) ({ cls := "NowhereMoney$Rings", name := "search", desc := "(I)V" } : Jvm.MethodName)) := am_tb4 175 (by decide +kernel) rfl
theorem am_w509 : am_W (Cond.code ({ cls := "NowhereMoney$Ledger", name := "restsOn", desc := "(I)I" } : Jvm.MethodName) prog_4_method_26_code (4 : Nat) (Option.some Jvm.ClassFile.FieldType.int)) := am_tb4 203 (by decide +kernel) rfl
theorem am_w510 : am_W (Cond.instanceMethod ({ cls := "NowhereMoney$Ledger", name := "restsOn", desc := "(I)I" } : Jvm.MethodName)) := am_tb4 201 (by decide +kernel) rfl
theorem am_w511 : am_W (Cond.selects "NowhereMoney$Ledger" ({ cls := "NowhereMoney$Ledger", name := "restsOn", desc := "(I)I" } : Jvm.MethodName) ({ cls := "NowhereMoney$Ledger", name := "restsOn", desc := "(I)I" } : Jvm.MethodName)) := am_tb4 202 (by decide +kernel) rfl
theorem am_w512 : am_W (Cond.code ({ cls := "NowhereMoney", name := "isBankSet", desc := "(I)Z" } : Jvm.MethodName) prog_1_method_44_code (1 : Nat) (Option.some Jvm.ClassFile.FieldType.boolean)) := am_tb4 225 (by decide +kernel) rfl
theorem am_w513 : am_W (Cond.static ({ cls := "NowhereMoney", name := "isBankSet", desc := "(I)Z" } : Jvm.MethodName)) := am_tb4 224 (by decide +kernel) rfl
theorem am_w514 : am_W (Cond.code ({ cls := "NowhereMoney$Watch", name := "cryingHouses", desc := "(I)I" } : Jvm.MethodName) prog_9_method_3_code (4 : Nat) (Option.some Jvm.ClassFile.FieldType.int)) := am_tb4 239 (by decide +kernel) rfl
theorem am_w515 : am_W (Cond.instanceMethod ({ cls := "NowhereMoney$Watch", name := "cryingHouses", desc := "(I)I" } : Jvm.MethodName)) := am_tb4 237 (by decide +kernel) rfl
theorem am_w516 : am_W (Cond.selects "NowhereMoney$Watch" ({ cls := "NowhereMoney$Watch", name := "cryingHouses", desc := "(I)I" } : Jvm.MethodName) ({ cls := "NowhereMoney$Watch", name := "cryingHouses", desc := "(I)I" } : Jvm.MethodName)) := am_tb4 238 (by decide +kernel) rfl
theorem am_w517 : am_W (Cond.code ({ cls := "NowhereMoney$Watch", name := "turnOf", desc := "(II)I" } : Jvm.MethodName) prog_9_method_5_code (5 : Nat) (Option.some Jvm.ClassFile.FieldType.int)) := am_tb5 8 (by decide +kernel) rfl
theorem am_w518 : am_W (Cond.instanceMethod ({ cls := "NowhereMoney$Watch", name := "turnOf", desc := "(II)I" } : Jvm.MethodName)) := am_tb5 6 (by decide +kernel) rfl
theorem am_w519 : am_W (Cond.selects "NowhereMoney$Watch" ({ cls := "NowhereMoney$Watch", name := "turnOf", desc := "(II)I" } : Jvm.MethodName) ({ cls := "NowhereMoney$Watch", name := "turnOf", desc := "(II)I" } : Jvm.MethodName)) := am_tb5 7 (by decide +kernel) rfl
theorem am_w520 : am_W (Cond.code ({ cls := "NowhereMoney$World", name := "isKiter", desc := "(I)Z" } : Jvm.MethodName) prog_11_method_3_code (2 : Nat) (Option.some Jvm.ClassFile.FieldType.boolean)) := am_tb5 12 (by decide +kernel) rfl
theorem am_w521 : am_W (Cond.instanceMethod ({ cls := "NowhereMoney$World", name := "isKiter", desc := "(I)Z" } : Jvm.MethodName)) := am_tb5 10 (by decide +kernel) rfl
theorem am_w522 : am_W (Cond.selects "NowhereMoney$World" ({ cls := "NowhereMoney$World", name := "isKiter", desc := "(I)Z" } : Jvm.MethodName) ({ cls := "NowhereMoney$World", name := "isKiter", desc := "(I)Z" } : Jvm.MethodName)) := am_tb5 11 (by decide +kernel) rfl
theorem am_w523 : am_W (Cond.code ({ cls := "NowhereMoney", name := "thinkEnd", desc := "(I)I" } : Jvm.MethodName) prog_1_method_50_code (3 : Nat) (Option.some Jvm.ClassFile.FieldType.int)) := am_tb5 24 (by decide +kernel) rfl
theorem am_w524 : am_W (Cond.instanceMethod ({ cls := "NowhereMoney", name := "thinkEnd", desc := "(I)I" } : Jvm.MethodName)) := am_tb5 23 (by decide +kernel) rfl
theorem am_w525 : am_W (Cond.selects "NowhereMoney" ({ cls := "NowhereMoney", name := "thinkEnd", desc := "(I)I" } : Jvm.MethodName) ({ cls := "NowhereMoney", name := "thinkEnd", desc := "(I)I" } : Jvm.MethodName)) := am_tb0 28 (by decide +kernel) rfl
theorem am_w526 : am_W (Cond.code ({ cls := "NowhereMoney$Ways", name := "search", desc := "(LNowhereMoney$World;I)Z" } : Jvm.MethodName) prog_10_method_2_code (7 : Nat) (Option.some Jvm.ClassFile.FieldType.boolean)) := am_tb5 56 (by decide +kernel) rfl
theorem am_w527 : am_W (Cond.instanceMethod ({ cls := "NowhereMoney$Ways", name := "search", desc := "(LNowhereMoney$World;I)Z" } : Jvm.MethodName)) := am_tb5 54 (by decide +kernel) rfl
theorem am_w528 : am_W (Cond.selects "NowhereMoney$Ways" ({ cls := "NowhereMoney$Ways", name := "search", desc := "(LNowhereMoney$World;I)Z" } : Jvm.MethodName) ({ cls := "NowhereMoney$Ways", name := "search", desc := "(LNowhereMoney$World;I)Z" } : Jvm.MethodName)) := am_tb5 55 (by decide +kernel) rfl
theorem am_w529 : am_W (Cond.code ({ cls := "NowhereMoney", name := "netOut", desc := "(I)V" } : Jvm.MethodName) prog_1_method_51_code (5 : Nat) (Option.none : Option Jvm.ClassFile.FieldType)) := am_tb5 78 (by decide +kernel) rfl
theorem am_w530 : am_W (Cond.instanceMethod ({ cls := "NowhereMoney", name := "netOut", desc := "(I)V" } : Jvm.MethodName)) := am_tb5 77 (by decide +kernel) rfl
theorem am_w531 : am_W (Cond.selects "NowhereMoney" ({ cls := "NowhereMoney", name := "netOut", desc := "(I)V" } : Jvm.MethodName) ({ cls := "NowhereMoney", name := "netOut", desc := "(I)V" } : Jvm.MethodName)) := am_tb0 31 (by decide +kernel) rfl
theorem am_w532 : am_W (Cond.code ({ cls := "NowhereMoney", name := "roundOfRoom", desc := "()I" } : Jvm.MethodName) prog_1_method_52_code (6 : Nat) (Option.some Jvm.ClassFile.FieldType.int)) := am_tb5 82 (by decide +kernel) rfl
theorem am_w533 : am_W (Cond.instanceMethod ({ cls := "NowhereMoney", name := "roundOfRoom", desc := "()I" } : Jvm.MethodName)) := am_tb5 81 (by decide +kernel) rfl
theorem am_w534 : am_W (Cond.selects "NowhereMoney" ({ cls := "NowhereMoney", name := "roundOfRoom", desc := "()I" } : Jvm.MethodName) ({ cls := "NowhereMoney", name := "roundOfRoom", desc := "()I" } : Jvm.MethodName)) := am_tb0 32 (by decide +kernel) rfl
theorem am_w535 : am_W (Cond.code ({ cls := "NowhereMoney$Ledger", name := "provenBook", desc := "(II)I" } : Jvm.MethodName) prog_4_method_27_code (5 : Nat) (Option.some Jvm.ClassFile.FieldType.int)) := am_tb5 95 (by decide +kernel) rfl
theorem am_w536 : am_W (Cond.instanceMethod ({ cls := "NowhereMoney$Ledger", name := "provenBook", desc := "(II)I" } : Jvm.MethodName)) := am_tb5 93 (by decide +kernel) rfl
theorem am_w537 : am_W (Cond.selects "NowhereMoney$Ledger" ({ cls := "NowhereMoney$Ledger", name := "provenBook", desc := "(II)I" } : Jvm.MethodName) ({ cls := "NowhereMoney$Ledger", name := "provenBook", desc := "(II)I" } : Jvm.MethodName)) := am_tb5 94 (by decide +kernel) rfl
theorem am_w538 : am_W (Cond.code ({ cls := "NowhereMoney$World", name := "copyFrom", desc := "(LNowhereMoney$World;)V" } : Jvm.MethodName) prog_11_method_2_code (2 : Nat) (Option.none : Option Jvm.ClassFile.FieldType)) := am_tb5 107 (by decide +kernel) rfl
theorem am_w539 : am_W (Cond.instanceMethod ({ cls := "NowhereMoney$World", name := "copyFrom", desc := "(LNowhereMoney$World;)V" } : Jvm.MethodName)) := am_tb5 105 (by decide +kernel) rfl
theorem am_w540 : am_W (Cond.selects "NowhereMoney$World" ({ cls := "NowhereMoney$World", name := "copyFrom", desc := "(LNowhereMoney$World;)V" } : Jvm.MethodName) ({ cls := "NowhereMoney$World", name := "copyFrom", desc := "(LNowhereMoney$World;)V" } : Jvm.MethodName)) := am_tb5 106 (by decide +kernel) rfl
theorem am_w541 : am_W (Cond.code ({ cls := "NowhereMoney$Ledger", name := "lossOfAll", desc := "()I" } : Jvm.MethodName) prog_4_method_25_code (3 : Nat) (Option.some Jvm.ClassFile.FieldType.int)) := am_tb5 33 (by decide +kernel) rfl
theorem am_w542 : am_W (Cond.instanceMethod ({ cls := "NowhereMoney$Ledger", name := "lossOfAll", desc := "()I" } : Jvm.MethodName)) := am_tb5 31 (by decide +kernel) rfl
theorem am_w543 : am_W (Cond.selects "NowhereMoney$Ledger" ({ cls := "NowhereMoney$Ledger", name := "lossOfAll", desc := "()I" } : Jvm.MethodName) ({ cls := "NowhereMoney$Ledger", name := "lossOfAll", desc := "()I" } : Jvm.MethodName)) := am_tb5 32 (by decide +kernel) rfl
theorem am_w544 : am_W (Cond.code ({ cls := "NowhereMoneyModel", name := "isIn", desc := "(III)Z" } : Jvm.MethodName) prog_13_method_1_code (3 : Nat) (Option.some Jvm.ClassFile.FieldType.boolean)) := am_tb5 234 (by decide +kernel) rfl
theorem am_w545 : am_W (Cond.static ({ cls := "NowhereMoneyModel", name := "isIn", desc := "(III)Z" } : Jvm.MethodName)) := am_tb5 233 (by decide +kernel) rfl
theorem am_w546 : am_W (Cond.code ({ cls := "NowhereMoneyModel", name := "isBank", desc := "(I)Z" } : Jvm.MethodName) prog_13_method_4_code (1 : Nat) (Option.some Jvm.ClassFile.FieldType.boolean)) := am_tb5 231 (by decide +kernel) rfl
theorem am_w547 : am_W (Cond.static ({ cls := "NowhereMoneyModel", name := "isBank", desc := "(I)Z" } : Jvm.MethodName)) := am_tb5 230 (by decide +kernel) rfl
theorem am_w548 : am_W (Cond.code ({ cls := "NowhereMoneyModel", name := "is", desc := "(Ljava/lang/String;)Z" } : Jvm.MethodName) prog_13_method_17_code (4 : Nat) (Option.some Jvm.ClassFile.FieldType.boolean)) := am_tb6 34 (by decide +kernel) rfl
theorem am_w549 : am_W (Cond.instanceMethod ({ cls := "NowhereMoneyModel", name := "is", desc := "(Ljava/lang/String;)Z" } : Jvm.MethodName)) := am_tb6 33 (by decide +kernel) rfl
theorem am_w550 : am_W (Cond.selects "NowhereMoneyModel" ({ cls := "NowhereMoneyModel", name := "is", desc := "(Ljava/lang/String;)Z" } : Jvm.MethodName) ({ cls := "NowhereMoneyModel", name := "is", desc := "(Ljava/lang/String;)Z" } : Jvm.MethodName)) := am_tb0 36 (by decide +kernel) rfl
theorem am_w551 : am_W (Cond.code ({ cls := "NowhereMoneyModel", name := "lawWord", desc := "()I" } : Jvm.MethodName) prog_13_method_18_code (1 : Nat) (Option.some Jvm.ClassFile.FieldType.int)) := am_tb6 46 (by decide +kernel) rfl
theorem am_w552 : am_W (Cond.instanceMethod ({ cls := "NowhereMoneyModel", name := "lawWord", desc := "()I" } : Jvm.MethodName)) := am_tb6 45 (by decide +kernel) rfl
theorem am_w553 : am_W (Cond.selects "NowhereMoneyModel" ({ cls := "NowhereMoneyModel", name := "lawWord", desc := "()I" } : Jvm.MethodName) ({ cls := "NowhereMoneyModel", name := "lawWord", desc := "()I" } : Jvm.MethodName)) := am_tb0 37 (by decide +kernel) rfl
theorem am_w554 : am_W (Cond.code ({ cls := "NowhereMoneyModel", name := "signWord", desc := "()I" } : Jvm.MethodName) prog_13_method_19_code (1 : Nat) (Option.some Jvm.ClassFile.FieldType.int)) := am_tb6 57 (by decide +kernel) rfl
theorem am_w555 : am_W (Cond.instanceMethod ({ cls := "NowhereMoneyModel", name := "signWord", desc := "()I" } : Jvm.MethodName)) := am_tb6 56 (by decide +kernel) rfl
theorem am_w556 : am_W (Cond.selects "NowhereMoneyModel" ({ cls := "NowhereMoneyModel", name := "signWord", desc := "()I" } : Jvm.MethodName) ({ cls := "NowhereMoneyModel", name := "signWord", desc := "()I" } : Jvm.MethodName)) := am_tb0 38 (by decide +kernel) rfl
theorem am_w557 : am_W (Cond.code ({ cls := "NowhereMoneyModel", name := "see", desc := "(I)I" } : Jvm.MethodName) prog_13_method_14_code (2 : Nat) (Option.some Jvm.ClassFile.FieldType.int)) := am_tb6 22 (by decide +kernel) rfl
theorem am_w558 : am_W (Cond.instanceMethod ({ cls := "NowhereMoneyModel", name := "see", desc := "(I)I" } : Jvm.MethodName)) := am_tb6 21 (by decide +kernel) rfl
theorem am_w559 : am_W (Cond.selects "NowhereMoneyModel" ({ cls := "NowhereMoneyModel", name := "see", desc := "(I)I" } : Jvm.MethodName) ({ cls := "NowhereMoneyModel", name := "see", desc := "(I)I" } : Jvm.MethodName)) := am_tb0 34 (by decide +kernel) rfl
theorem am_w560 : am_W (Cond.code ({ cls := "NowhereMoneyModel", name := "isLetter", desc := "(I)Z" } : Jvm.MethodName) prog_13_method_15_code (1 : Nat) (Option.some Jvm.ClassFile.FieldType.boolean)) := am_tb6 25 (by decide +kernel) rfl
theorem am_w561 : am_W (Cond.static ({ cls := "NowhereMoneyModel", name := "isLetter", desc := "(I)Z" } : Jvm.MethodName)) := am_tb6 24 (by decide +kernel) rfl
theorem am_w562 : am_W (Cond.code ({ cls := "NowhereMoneyModel", name := "word", desc := "()I" } : Jvm.MethodName) prog_13_method_20_code (1 : Nat) (Option.some Jvm.ClassFile.FieldType.int)) := am_tb6 29 (by decide +kernel) rfl
theorem am_w563 : am_W (Cond.instanceMethod ({ cls := "NowhereMoneyModel", name := "word", desc := "()I" } : Jvm.MethodName)) := am_tb6 28 (by decide +kernel) rfl
theorem am_w564 : am_W (Cond.selects "NowhereMoneyModel" ({ cls := "NowhereMoneyModel", name := "word", desc := "()I" } : Jvm.MethodName) ({ cls := "NowhereMoneyModel", name := "word", desc := "()I" } : Jvm.MethodName)) := am_tb0 35 (by decide +kernel) rfl
theorem am_w565 : am_W (Cond.code ({ cls := "NowhereMoneyModel", name := "isDigit", desc := "(I)Z" } : Jvm.MethodName) prog_13_method_16_code (1 : Nat) (Option.some Jvm.ClassFile.FieldType.boolean)) := am_tb6 65 (by decide +kernel) rfl
theorem am_w566 : am_W (Cond.static ({ cls := "NowhereMoneyModel", name := "isDigit", desc := "(I)Z" } : Jvm.MethodName)) := am_tb6 64 (by decide +kernel) rfl
theorem am_w567 : am_W (Cond.code ({ cls := "NowhereMoneyModel", name := "bad", desc := "(I)Z" } : Jvm.MethodName) prog_13_method_22_code (2 : Nat) (Option.some Jvm.ClassFile.FieldType.boolean)) := am_tb6 73 (by decide +kernel) rfl
theorem am_w568 : am_W (Cond.instanceMethod ({ cls := "NowhereMoneyModel", name := "bad", desc := "(I)Z" } : Jvm.MethodName)) := am_tb6 72 (by decide +kernel) rfl
theorem am_w569 : am_W (Cond.selects "NowhereMoneyModel" ({ cls := "NowhereMoneyModel", name := "bad", desc := "(I)Z" } : Jvm.MethodName) ({ cls := "NowhereMoneyModel", name := "bad", desc := "(I)Z" } : Jvm.MethodName)) := am_tb0 40 (by decide +kernel) rfl
theorem am_w570 : am_W (Cond.code ({ cls := "NowhereMoneyModel", name := "next0", desc := "()V" } : Jvm.MethodName) prog_13_method_21_code (3 : Nat) (Option.none : Option Jvm.ClassFile.FieldType)) := am_tb6 18 (by decide +kernel) rfl
theorem am_w571 : am_W (Cond.instanceMethod ({ cls := "NowhereMoneyModel", name := "next0", desc := "()V" } : Jvm.MethodName)) := am_tb6 17 (by decide +kernel) rfl
theorem am_w572 : am_W (Cond.selects "NowhereMoneyModel" ({ cls := "NowhereMoneyModel", name := "next0", desc := "()V" } : Jvm.MethodName) ({ cls := "NowhereMoneyModel", name := "next0", desc := "()V" } : Jvm.MethodName)) := am_tb0 33 (by decide +kernel) rfl
theorem am_w573 : am_W (Cond.code ({ cls := "NowhereMoneyModel", name := "product", desc := "()Z" } : Jvm.MethodName) prog_13_method_27_code (2 : Nat) (Option.some Jvm.ClassFile.FieldType.boolean)) := am_tb6 81 (by decide +kernel) rfl
theorem am_w574 : am_W (Cond.instanceMethod ({ cls := "NowhereMoneyModel", name := "product", desc := "()Z" } : Jvm.MethodName)) := am_tb6 80 (by decide +kernel) rfl
theorem am_w575 : am_W (Cond.selects "NowhereMoneyModel" ({ cls := "NowhereMoneyModel", name := "product", desc := "()Z" } : Jvm.MethodName) ({ cls := "NowhereMoneyModel", name := "product", desc := "()Z" } : Jvm.MethodName)) := am_tb0 42 (by decide +kernel) rfl
theorem am_w576 : am_W (Cond.code ({ cls := "NowhereMoneyModel", name := "lay", desc := "(II)V" } : Jvm.MethodName) prog_13_method_24_code (3 : Nat) (Option.none : Option Jvm.ClassFile.FieldType)) := am_tb6 89 (by decide +kernel) rfl
theorem am_w577 : am_W (Cond.instanceMethod ({ cls := "NowhereMoneyModel", name := "lay", desc := "(II)V" } : Jvm.MethodName)) := am_tb6 88 (by decide +kernel) rfl
theorem am_w578 : am_W (Cond.selects "NowhereMoneyModel" ({ cls := "NowhereMoneyModel", name := "lay", desc := "(II)V" } : Jvm.MethodName) ({ cls := "NowhereMoneyModel", name := "lay", desc := "(II)V" } : Jvm.MethodName)) := am_tb0 44 (by decide +kernel) rfl
theorem am_w579 : am_W (Cond.code ({ cls := "NowhereMoneyModel", name := "unit", desc := "()Z" } : Jvm.MethodName) prog_13_method_28_code (2 : Nat) (Option.some Jvm.ClassFile.FieldType.boolean)) := am_tb6 85 (by decide +kernel) rfl
theorem am_w580 : am_W (Cond.instanceMethod ({ cls := "NowhereMoneyModel", name := "unit", desc := "()Z" } : Jvm.MethodName)) := am_tb6 84 (by decide +kernel) rfl
theorem am_w581 : am_W (Cond.selects "NowhereMoneyModel" ({ cls := "NowhereMoneyModel", name := "unit", desc := "()Z" } : Jvm.MethodName) ({ cls := "NowhereMoneyModel", name := "unit", desc := "()Z" } : Jvm.MethodName)) := am_tb0 43 (by decide +kernel) rfl
theorem am_w582 : am_W (Cond.code ({ cls := "NowhereMoneyModel", name := "every", desc := "()Z" } : Jvm.MethodName) prog_13_method_30_code (1 : Nat) (Option.some Jvm.ClassFile.FieldType.boolean)) := am_tb6 101 (by decide +kernel) rfl
theorem am_w583 : am_W (Cond.instanceMethod ({ cls := "NowhereMoneyModel", name := "every", desc := "()Z" } : Jvm.MethodName)) := am_tb6 100 (by decide +kernel) rfl
theorem am_w584 : am_W (Cond.selects "NowhereMoneyModel" ({ cls := "NowhereMoneyModel", name := "every", desc := "()Z" } : Jvm.MethodName) ({ cls := "NowhereMoneyModel", name := "every", desc := "()Z" } : Jvm.MethodName)) := am_tb0 47 (by decide +kernel) rfl
theorem am_w585 : am_W (Cond.code ({ cls := "NowhereMoneyModel", name := "one", desc := "()Z" } : Jvm.MethodName) prog_13_method_31_code (2 : Nat) (Option.some Jvm.ClassFile.FieldType.boolean)) := am_tb6 105 (by decide +kernel) rfl
theorem am_w586 : am_W (Cond.instanceMethod ({ cls := "NowhereMoneyModel", name := "one", desc := "()Z" } : Jvm.MethodName)) := am_tb6 104 (by decide +kernel) rfl
theorem am_w587 : am_W (Cond.selects "NowhereMoneyModel" ({ cls := "NowhereMoneyModel", name := "one", desc := "()Z" } : Jvm.MethodName) ({ cls := "NowhereMoneyModel", name := "one", desc := "()Z" } : Jvm.MethodName)) := am_tb0 48 (by decide +kernel) rfl
theorem am_w588 : am_W (Cond.code ({ cls := "NowhereMoneyModel", name := "opens", desc := "()Z" } : Jvm.MethodName) prog_13_method_25_code (1 : Nat) (Option.some Jvm.ClassFile.FieldType.boolean)) := am_tb6 109 (by decide +kernel) rfl
theorem am_w589 : am_W (Cond.instanceMethod ({ cls := "NowhereMoneyModel", name := "opens", desc := "()Z" } : Jvm.MethodName)) := am_tb6 108 (by decide +kernel) rfl
theorem am_w590 : am_W (Cond.selects "NowhereMoneyModel" ({ cls := "NowhereMoneyModel", name := "opens", desc := "()Z" } : Jvm.MethodName) ({ cls := "NowhereMoneyModel", name := "opens", desc := "()Z" } : Jvm.MethodName)) := am_tb0 49 (by decide +kernel) rfl
theorem am_w591 : am_W (Cond.code ({ cls := "NowhereMoneyModel", name := "any", desc := "()Z" } : Jvm.MethodName) prog_13_method_29_code (1 : Nat) (Option.some Jvm.ClassFile.FieldType.boolean)) := am_tb6 97 (by decide +kernel) rfl
theorem am_w592 : am_W (Cond.instanceMethod ({ cls := "NowhereMoneyModel", name := "any", desc := "()Z" } : Jvm.MethodName)) := am_tb6 96 (by decide +kernel) rfl
theorem am_w593 : am_W (Cond.selects "NowhereMoneyModel" ({ cls := "NowhereMoneyModel", name := "any", desc := "()Z" } : Jvm.MethodName) ({ cls := "NowhereMoneyModel", name := "any", desc := "()Z" } : Jvm.MethodName)) := am_tb0 46 (by decide +kernel) rfl
theorem am_w594 : am_W (Cond.code ({ cls := "NowhereMoneyModel", name := "need", desc := "(I)Z" } : Jvm.MethodName) prog_13_method_23_code (2 : Nat) (Option.some Jvm.ClassFile.FieldType.boolean)) := am_tb6 93 (by decide +kernel) rfl
theorem am_w595 : am_W (Cond.instanceMethod ({ cls := "NowhereMoneyModel", name := "need", desc := "(I)Z" } : Jvm.MethodName)) := am_tb6 92 (by decide +kernel) rfl
theorem am_w596 : am_W (Cond.selects "NowhereMoneyModel" ({ cls := "NowhereMoneyModel", name := "need", desc := "(I)Z" } : Jvm.MethodName) ({ cls := "NowhereMoneyModel", name := "need", desc := "(I)Z" } : Jvm.MethodName)) := am_tb0 45 (by decide +kernel) rfl
theorem am_w597 : am_W (Cond.code ({ cls := "NowhereMoneyModel", name := "sumUp", desc := "()Z" } : Jvm.MethodName) prog_13_method_26_code (2 : Nat) (Option.some Jvm.ClassFile.FieldType.boolean)) := am_tb6 77 (by decide +kernel) rfl
theorem am_w598 : am_W (Cond.instanceMethod ({ cls := "NowhereMoneyModel", name := "sumUp", desc := "()Z" } : Jvm.MethodName)) := am_tb6 76 (by decide +kernel) rfl
theorem am_w599 : am_W (Cond.selects "NowhereMoneyModel" ({ cls := "NowhereMoneyModel", name := "sumUp", desc := "()Z" } : Jvm.MethodName) ({ cls := "NowhereMoneyModel", name := "sumUp", desc := "()Z" } : Jvm.MethodName)) := am_tb0 41 (by decide +kernel) rfl
theorem am_w600 : am_W (Cond.code ({ cls := "NowhereMoneyModel", name := "aLine", desc := "()Z" } : Jvm.MethodName) prog_13_method_32_code (2 : Nat) (Option.some Jvm.ClassFile.FieldType.boolean)) := am_tb6 69 (by decide +kernel) rfl
theorem am_w601 : am_W (Cond.instanceMethod ({ cls := "NowhereMoneyModel", name := "aLine", desc := "()Z" } : Jvm.MethodName)) := am_tb6 68 (by decide +kernel) rfl
theorem am_w602 : am_W (Cond.selects "NowhereMoneyModel" ({ cls := "NowhereMoneyModel", name := "aLine", desc := "()Z" } : Jvm.MethodName) ({ cls := "NowhereMoneyModel", name := "aLine", desc := "()Z" } : Jvm.MethodName)) := am_tb0 39 (by decide +kernel) rfl
theorem am_w603 : am_W (Cond.code ({ cls := "NowhereMoneyModel", name := "both", desc := "(III)I" } : Jvm.MethodName) prog_13_method_35_code (3 : Nat) (Option.some Jvm.ClassFile.FieldType.int)) := am_tb6 162 (by decide +kernel) rfl
theorem am_w604 : am_W (Cond.static ({ cls := "NowhereMoneyModel", name := "both", desc := "(III)I" } : Jvm.MethodName)) := am_tb6 161 (by decide +kernel) rfl
theorem am_w605 : am_W (Cond.code ({ cls := "NowhereMoneyModel", name := "comesTo", desc := "(III)I" } : Jvm.MethodName) prog_13_method_36_code (8 : Nat) (Option.some Jvm.ClassFile.FieldType.int)) := am_tb6 159 (by decide +kernel) rfl
theorem am_w606 : am_W (Cond.instanceMethod ({ cls := "NowhereMoneyModel", name := "comesTo", desc := "(III)I" } : Jvm.MethodName)) := am_tb6 158 (by decide +kernel) rfl
theorem am_w607 : am_W (Cond.selects "NowhereMoneyModel" ({ cls := "NowhereMoneyModel", name := "comesTo", desc := "(III)I" } : Jvm.MethodName) ({ cls := "NowhereMoneyModel", name := "comesTo", desc := "(III)I" } : Jvm.MethodName)) := am_tb0 57 (by decide +kernel) rfl
theorem am_w608 : am_W (Cond.code ({ cls := "NowhereMoneyModel", name := "of", desc := "(II)I" } : Jvm.MethodName) prog_13_method_38_code (3 : Nat) (Option.some Jvm.ClassFile.FieldType.int)) := am_tb6 143 (by decide +kernel) rfl
theorem am_w609 : am_W (Cond.instanceMethod ({ cls := "NowhereMoneyModel", name := "of", desc := "(II)I" } : Jvm.MethodName)) := am_tb6 142 (by decide +kernel) rfl
theorem am_w610 : am_W (Cond.selects "NowhereMoneyModel" ({ cls := "NowhereMoneyModel", name := "of", desc := "(II)I" } : Jvm.MethodName) ({ cls := "NowhereMoneyModel", name := "of", desc := "(II)I" } : Jvm.MethodName)) := am_tb0 53 (by decide +kernel) rfl
theorem am_w611 : am_W (Cond.code ({ cls := "NowhereMoneyModel", name := "countOf", desc := "(II)I" } : Jvm.MethodName) prog_13_method_39_code (5 : Nat) (Option.some Jvm.ClassFile.FieldType.int)) := am_tb6 139 (by decide +kernel) rfl
theorem am_w612 : am_W (Cond.instanceMethod ({ cls := "NowhereMoneyModel", name := "countOf", desc := "(II)I" } : Jvm.MethodName)) := am_tb6 138 (by decide +kernel) rfl
theorem am_w613 : am_W (Cond.selects "NowhereMoneyModel" ({ cls := "NowhereMoneyModel", name := "countOf", desc := "(II)I" } : Jvm.MethodName) ({ cls := "NowhereMoneyModel", name := "countOf", desc := "(II)I" } : Jvm.MethodName)) := am_tb0 52 (by decide +kernel) rfl
theorem am_w614 : am_W (Cond.code ({ cls := "NowhereMoneyModel", name := "railBetween", desc := "(II)I" } : Jvm.MethodName) prog_13_method_11_code (3 : Nat) (Option.some Jvm.ClassFile.FieldType.int)) := am_tb6 175 (by decide +kernel) rfl
theorem am_w615 : am_W (Cond.instanceMethod ({ cls := "NowhereMoneyModel", name := "railBetween", desc := "(II)I" } : Jvm.MethodName)) := am_tb6 174 (by decide +kernel) rfl
theorem am_w616 : am_W (Cond.selects "NowhereMoneyModel" ({ cls := "NowhereMoneyModel", name := "railBetween", desc := "(II)I" } : Jvm.MethodName) ({ cls := "NowhereMoneyModel", name := "railBetween", desc := "(II)I" } : Jvm.MethodName)) := am_tb0 59 (by decide +kernel) rfl
theorem am_w617 : am_W (Cond.code ({ cls := "NowhereMoneyModel", name := "isFar", desc := "(II)Z" } : Jvm.MethodName) prog_13_method_41_code (3 : Nat) (Option.some Jvm.ClassFile.FieldType.boolean)) := am_tb6 179 (by decide +kernel) rfl
theorem am_w618 : am_W (Cond.instanceMethod ({ cls := "NowhereMoneyModel", name := "isFar", desc := "(II)Z" } : Jvm.MethodName)) := am_tb6 178 (by decide +kernel) rfl
theorem am_w619 : am_W (Cond.selects "NowhereMoneyModel" ({ cls := "NowhereMoneyModel", name := "isFar", desc := "(II)Z" } : Jvm.MethodName) ({ cls := "NowhereMoneyModel", name := "isFar", desc := "(II)Z" } : Jvm.MethodName)) := am_tb0 60 (by decide +kernel) rfl
theorem am_w620 : am_W (Cond.code ({ cls := "NowhereMoneyModel", name := "gathers", desc := "(IIIIZI)V" } : Jvm.MethodName) prog_13_method_40_code (7 : Nat) (Option.none : Option Jvm.ClassFile.FieldType)) := am_tb6 135 (by decide +kernel) rfl
theorem am_w621 : am_W (Cond.instanceMethod ({ cls := "NowhereMoneyModel", name := "gathers", desc := "(IIIIZI)V" } : Jvm.MethodName)) := am_tb6 134 (by decide +kernel) rfl
theorem am_w622 : am_W (Cond.selects "NowhereMoneyModel" ({ cls := "NowhereMoneyModel", name := "gathers", desc := "(IIIIZI)V" } : Jvm.MethodName) ({ cls := "NowhereMoneyModel", name := "gathers", desc := "(IIIIZI)V" } : Jvm.MethodName)) := am_tb0 51 (by decide +kernel) rfl
theorem am_w623 : am_W (Cond.code ({ cls := "NowhereMoneyModel", name := "heldOf", desc := "(II)I" } : Jvm.MethodName) prog_13_method_43_code (5 : Nat) (Option.some Jvm.ClassFile.FieldType.int)) := am_tb6 151 (by decide +kernel) rfl
theorem am_w624 : am_W (Cond.instanceMethod ({ cls := "NowhereMoneyModel", name := "heldOf", desc := "(II)I" } : Jvm.MethodName)) := am_tb6 150 (by decide +kernel) rfl
theorem am_w625 : am_W (Cond.selects "NowhereMoneyModel" ({ cls := "NowhereMoneyModel", name := "heldOf", desc := "(II)I" } : Jvm.MethodName) ({ cls := "NowhereMoneyModel", name := "heldOf", desc := "(II)I" } : Jvm.MethodName)) := am_tb0 55 (by decide +kernel) rfl
theorem am_w626 : am_W (Cond.code ({ cls := "NowhereMoneyModel", name := "isHouse", desc := "(I)Z" } : Jvm.MethodName) prog_13_method_5_code (1 : Nat) (Option.some Jvm.ClassFile.FieldType.boolean)) := am_tb6 125 (by decide +kernel) rfl
theorem am_w627 : am_W (Cond.static ({ cls := "NowhereMoneyModel", name := "isHouse", desc := "(I)Z" } : Jvm.MethodName)) := am_tb6 124 (by decide +kernel) rfl
theorem am_w628 : am_W (Cond.code ({ cls := "NowhereMoneyModel", name := "isBusiness", desc := "(I)Z" } : Jvm.MethodName) prog_13_method_9_code (2 : Nat) (Option.some Jvm.ClassFile.FieldType.boolean)) := am_tb6 131 (by decide +kernel) rfl
theorem am_w629 : am_W (Cond.instanceMethod ({ cls := "NowhereMoneyModel", name := "isBusiness", desc := "(I)Z" } : Jvm.MethodName)) := am_tb6 130 (by decide +kernel) rfl
theorem am_w630 : am_W (Cond.selects "NowhereMoneyModel" ({ cls := "NowhereMoneyModel", name := "isBusiness", desc := "(I)Z" } : Jvm.MethodName) ({ cls := "NowhereMoneyModel", name := "isBusiness", desc := "(I)Z" } : Jvm.MethodName)) := am_tb0 50 (by decide +kernel) rfl
theorem am_w631 : am_W (Cond.code ({ cls := "NowhereMoneyModel", name := "usable", desc := "(II)I" } : Jvm.MethodName) prog_13_method_44_code (3 : Nat) (Option.some Jvm.ClassFile.FieldType.int)) := am_tb6 147 (by decide +kernel) rfl
theorem am_w632 : am_W (Cond.instanceMethod ({ cls := "NowhereMoneyModel", name := "usable", desc := "(II)I" } : Jvm.MethodName)) := am_tb6 146 (by decide +kernel) rfl
theorem am_w633 : am_W (Cond.selects "NowhereMoneyModel" ({ cls := "NowhereMoneyModel", name := "usable", desc := "(II)I" } : Jvm.MethodName) ({ cls := "NowhereMoneyModel", name := "usable", desc := "(II)I" } : Jvm.MethodName)) := am_tb0 54 (by decide +kernel) rfl
theorem am_w634 : am_W (Cond.code ({ cls := "NowhereMoneyModel", name := "tells", desc := "(II)I" } : Jvm.MethodName) prog_13_method_37_code (7 : Nat) (Option.some Jvm.ClassFile.FieldType.int)) := am_tb6 155 (by decide +kernel) rfl
theorem am_w635 : am_W (Cond.instanceMethod ({ cls := "NowhereMoneyModel", name := "tells", desc := "(II)I" } : Jvm.MethodName)) := am_tb6 154 (by decide +kernel) rfl
theorem am_w636 : am_W (Cond.selects "NowhereMoneyModel" ({ cls := "NowhereMoneyModel", name := "tells", desc := "(II)I" } : Jvm.MethodName) ({ cls := "NowhereMoneyModel", name := "tells", desc := "(II)I" } : Jvm.MethodName)) := am_tb0 56 (by decide +kernel) rfl
theorem am_w637 : am_W (Cond.code ({ cls := "NowhereMoneyModel", name := "books", desc := "(IIIII)V" } : Jvm.MethodName) prog_13_method_45_code (7 : Nat) (Option.none : Option Jvm.ClassFile.FieldType)) := am_tb6 166 (by decide +kernel) rfl
theorem am_w638 : am_W (Cond.instanceMethod ({ cls := "NowhereMoneyModel", name := "books", desc := "(IIIII)V" } : Jvm.MethodName)) := am_tb6 165 (by decide +kernel) rfl
theorem am_w639 : am_W (Cond.selects "NowhereMoneyModel" ({ cls := "NowhereMoneyModel", name := "books", desc := "(IIIII)V" } : Jvm.MethodName) ({ cls := "NowhereMoneyModel", name := "books", desc := "(IIIII)V" } : Jvm.MethodName)) := am_tb0 58 (by decide +kernel) rfl
theorem am_w640 : am_W (Cond.code ({ cls := "NowhereMoneyModel", name := "restsOn", desc := "(I)I" } : Jvm.MethodName) prog_13_method_51_code (3 : Nat) (Option.some Jvm.ClassFile.FieldType.int)) := am_tb6 195 (by decide +kernel) rfl
theorem am_w641 : am_W (Cond.instanceMethod ({ cls := "NowhereMoneyModel", name := "restsOn", desc := "(I)I" } : Jvm.MethodName)) := am_tb6 194 (by decide +kernel) rfl
theorem am_w642 : am_W (Cond.selects "NowhereMoneyModel" ({ cls := "NowhereMoneyModel", name := "restsOn", desc := "(I)I" } : Jvm.MethodName) ({ cls := "NowhereMoneyModel", name := "restsOn", desc := "(I)I" } : Jvm.MethodName)) := am_tb0 61 (by decide +kernel) rfl
theorem am_w643 : am_W (Cond.code ({ cls := "NowhereMoneyModel", name := "booksOf", desc := "(I)I" } : Jvm.MethodName) prog_13_method_53_code (4 : Nat) (Option.some Jvm.ClassFile.FieldType.int)) := am_tb6 203 (by decide +kernel) rfl
theorem am_w644 : am_W (Cond.instanceMethod ({ cls := "NowhereMoneyModel", name := "booksOf", desc := "(I)I" } : Jvm.MethodName)) := am_tb6 202 (by decide +kernel) rfl
theorem am_w645 : am_W (Cond.selects "NowhereMoneyModel" ({ cls := "NowhereMoneyModel", name := "booksOf", desc := "(I)I" } : Jvm.MethodName) ({ cls := "NowhereMoneyModel", name := "booksOf", desc := "(I)I" } : Jvm.MethodName)) := am_tb0 62 (by decide +kernel) rfl
theorem am_w646 : am_W (Cond.code ({ cls := "NowhereMoneyModel", name := "waterOf", desc := "(I)I" } : Jvm.MethodName) prog_13_method_54_code (4 : Nat) (Option.some Jvm.ClassFile.FieldType.int)) := am_tb6 207 (by decide +kernel) rfl
theorem am_w647 : am_W (Cond.instanceMethod ({ cls := "NowhereMoneyModel", name := "waterOf", desc := "(I)I" } : Jvm.MethodName)) := am_tb6 206 (by decide +kernel) rfl
theorem am_w648 : am_W (Cond.selects "NowhereMoneyModel" ({ cls := "NowhereMoneyModel", name := "waterOf", desc := "(I)I" } : Jvm.MethodName) ({ cls := "NowhereMoneyModel", name := "waterOf", desc := "(I)I" } : Jvm.MethodName)) := am_tb0 63 (by decide +kernel) rfl
theorem am_w649 : am_W (Cond.code ({ cls := "NowhereMoneyModel", name := "isFlying", desc := "(I)Z" } : Jvm.MethodName) prog_13_method_57_code (2 : Nat) (Option.some Jvm.ClassFile.FieldType.boolean)) := am_tb6 223 (by decide +kernel) rfl
theorem am_w650 : am_W (Cond.instanceMethod ({ cls := "NowhereMoneyModel", name := "isFlying", desc := "(I)Z" } : Jvm.MethodName)) := am_tb6 222 (by decide +kernel) rfl
theorem am_w651 : am_W (Cond.selects "NowhereMoneyModel" ({ cls := "NowhereMoneyModel", name := "isFlying", desc := "(I)Z" } : Jvm.MethodName) ({ cls := "NowhereMoneyModel", name := "isFlying", desc := "(I)Z" } : Jvm.MethodName)) := am_tb0 65 (by decide +kernel) rfl
theorem am_w652 : am_W (Cond.code ({ cls := "NowhereMoneyModel", name := "flying", desc := "(Z)I" } : Jvm.MethodName) prog_13_method_58_code (4 : Nat) (Option.some Jvm.ClassFile.FieldType.int)) := am_tb6 219 (by decide +kernel) rfl
theorem am_w653 : am_W (Cond.instanceMethod ({ cls := "NowhereMoneyModel", name := "flying", desc := "(Z)I" } : Jvm.MethodName)) := am_tb6 218 (by decide +kernel) rfl
theorem am_w654 : am_W (Cond.selects "NowhereMoneyModel" ({ cls := "NowhereMoneyModel", name := "flying", desc := "(Z)I" } : Jvm.MethodName) ({ cls := "NowhereMoneyModel", name := "flying", desc := "(Z)I" } : Jvm.MethodName)) := am_tb0 64 (by decide +kernel) rfl
theorem am_w655 : am_W (Cond.code ({ cls := "NowhereMoneyModel", name := "isDue", desc := "(II)Z" } : Jvm.MethodName) prog_13_method_60_code (3 : Nat) (Option.some Jvm.ClassFile.FieldType.boolean)) := am_tb6 239 (by decide +kernel) rfl
theorem am_w656 : am_W (Cond.instanceMethod ({ cls := "NowhereMoneyModel", name := "isDue", desc := "(II)Z" } : Jvm.MethodName)) := am_tb6 238 (by decide +kernel) rfl
theorem am_w657 : am_W (Cond.selects "NowhereMoneyModel" ({ cls := "NowhereMoneyModel", name := "isDue", desc := "(II)Z" } : Jvm.MethodName) ({ cls := "NowhereMoneyModel", name := "isDue", desc := "(II)Z" } : Jvm.MethodName)) := am_tb0 68 (by decide +kernel) rfl
theorem am_w658 : am_W (Cond.code ({ cls := "NowhereMoneyModel", name := "isBehind", desc := "(III)Z" } : Jvm.MethodName) prog_13_method_61_code (4 : Nat) (Option.some Jvm.ClassFile.FieldType.boolean)) := am_tb7 7 (by decide +kernel) rfl
theorem am_w659 : am_W (Cond.instanceMethod ({ cls := "NowhereMoneyModel", name := "isBehind", desc := "(III)Z" } : Jvm.MethodName)) := am_tb7 6 (by decide +kernel) rfl
theorem am_w660 : am_W (Cond.selects "NowhereMoneyModel" ({ cls := "NowhereMoneyModel", name := "isBehind", desc := "(III)Z" } : Jvm.MethodName) ({ cls := "NowhereMoneyModel", name := "isBehind", desc := "(III)Z" } : Jvm.MethodName)) := am_tb0 70 (by decide +kernel) rfl
theorem am_w661 : am_W (Cond.code ({ cls := "NowhereMoneyModel", name := "gathersOf", desc := "(III)V" } : Jvm.MethodName) prog_13_method_42_code (4 : Nat) (Option.none : Option Jvm.ClassFile.FieldType)) := am_tb7 15 (by decide +kernel) rfl
theorem am_w662 : am_W (Cond.instanceMethod ({ cls := "NowhereMoneyModel", name := "gathersOf", desc := "(III)V" } : Jvm.MethodName)) := am_tb7 14 (by decide +kernel) rfl
theorem am_w663 : am_W (Cond.selects "NowhereMoneyModel" ({ cls := "NowhereMoneyModel", name := "gathersOf", desc := "(III)V" } : Jvm.MethodName) ({ cls := "NowhereMoneyModel", name := "gathersOf", desc := "(III)V" } : Jvm.MethodName)) := am_tb0 72 (by decide +kernel) rfl
theorem am_w664 : am_W (Cond.code ({ cls := "NowhereMoneyModel", name := "hasTrain", desc := "(I)Z" } : Jvm.MethodName) prog_13_method_10_code (2 : Nat) (Option.some Jvm.ClassFile.FieldType.boolean)) := am_tb6 235 (by decide +kernel) rfl
theorem am_w665 : am_W (Cond.instanceMethod ({ cls := "NowhereMoneyModel", name := "hasTrain", desc := "(I)Z" } : Jvm.MethodName)) := am_tb6 234 (by decide +kernel) rfl
theorem am_w666 : am_W (Cond.selects "NowhereMoneyModel" ({ cls := "NowhereMoneyModel", name := "hasTrain", desc := "(I)Z" } : Jvm.MethodName) ({ cls := "NowhereMoneyModel", name := "hasTrain", desc := "(I)Z" } : Jvm.MethodName)) := am_tb0 67 (by decide +kernel) rfl
theorem am_w667 : am_W (Cond.code ({ cls := "NowhereMoneyModel", name := "gathersAsked", desc := "(II)V" } : Jvm.MethodName) prog_13_method_62_code (5 : Nat) (Option.none : Option Jvm.ClassFile.FieldType)) := am_tb7 3 (by decide +kernel) rfl
theorem am_w668 : am_W (Cond.instanceMethod ({ cls := "NowhereMoneyModel", name := "gathersAsked", desc := "(II)V" } : Jvm.MethodName)) := am_tb7 2 (by decide +kernel) rfl
theorem am_w669 : am_W (Cond.selects "NowhereMoneyModel" ({ cls := "NowhereMoneyModel", name := "gathersAsked", desc := "(II)V" } : Jvm.MethodName) ({ cls := "NowhereMoneyModel", name := "gathersAsked", desc := "(II)V" } : Jvm.MethodName)) := am_tb0 69 (by decide +kernel) rfl
theorem am_w670 : am_W (Cond.code ({ cls := "NowhereMoneyModel", name := "isReturned", desc := "(I)Z" } : Jvm.MethodName) prog_13_method_63_code (6 : Nat) (Option.some Jvm.ClassFile.FieldType.boolean)) := am_tb7 11 (by decide +kernel) rfl
theorem am_w671 : am_W (Cond.instanceMethod ({ cls := "NowhereMoneyModel", name := "isReturned", desc := "(I)Z" } : Jvm.MethodName)) := am_tb7 10 (by decide +kernel) rfl
theorem am_w672 : am_W (Cond.selects "NowhereMoneyModel" ({ cls := "NowhereMoneyModel", name := "isReturned", desc := "(I)Z" } : Jvm.MethodName) ({ cls := "NowhereMoneyModel", name := "isReturned", desc := "(I)Z" } : Jvm.MethodName)) := am_tb0 71 (by decide +kernel) rfl
theorem am_w673 : am_W (Cond.code ({ cls := "NowhereMoneyModel", name := "morning", desc := "(I)I" } : Jvm.MethodName) prog_13_method_64_code (5 : Nat) (Option.some Jvm.ClassFile.FieldType.int)) := am_tb6 231 (by decide +kernel) rfl
theorem am_w674 : am_W (Cond.instanceMethod ({ cls := "NowhereMoneyModel", name := "morning", desc := "(I)I" } : Jvm.MethodName)) := am_tb6 230 (by decide +kernel) rfl
theorem am_w675 : am_W (Cond.selects "NowhereMoneyModel" ({ cls := "NowhereMoneyModel", name := "morning", desc := "(I)I" } : Jvm.MethodName) ({ cls := "NowhereMoneyModel", name := "morning", desc := "(I)I" } : Jvm.MethodName)) := am_tb0 66 (by decide +kernel) rfl
theorem am_w676 : am_W (Cond.code ({ cls := "NowhereMoneyModel", name := "cryOf", desc := "(II)Z" } : Jvm.MethodName) prog_13_method_77_code (4 : Nat) (Option.some Jvm.ClassFile.FieldType.boolean)) := am_tb7 19 (by decide +kernel) rfl
theorem am_w677 : am_W (Cond.instanceMethod ({ cls := "NowhereMoneyModel", name := "cryOf", desc := "(II)Z" } : Jvm.MethodName)) := am_tb7 18 (by decide +kernel) rfl
theorem am_w678 : am_W (Cond.selects "NowhereMoneyModel" ({ cls := "NowhereMoneyModel", name := "cryOf", desc := "(II)Z" } : Jvm.MethodName) ({ cls := "NowhereMoneyModel", name := "cryOf", desc := "(II)Z" } : Jvm.MethodName)) := am_tb0 73 (by decide +kernel) rfl
theorem am_w679 : am_W (Cond.code ({ cls := "NowhereMoneyModel", name := "isDay", desc := "(I)Z" } : Jvm.MethodName) prog_13_method_67_code (2 : Nat) (Option.some Jvm.ClassFile.FieldType.boolean)) := am_tb7 38 (by decide +kernel) rfl
theorem am_w680 : am_W (Cond.instanceMethod ({ cls := "NowhereMoneyModel", name := "isDay", desc := "(I)Z" } : Jvm.MethodName)) := am_tb7 37 (by decide +kernel) rfl
theorem am_w681 : am_W (Cond.selects "NowhereMoneyModel" ({ cls := "NowhereMoneyModel", name := "isDay", desc := "(I)Z" } : Jvm.MethodName) ({ cls := "NowhereMoneyModel", name := "isDay", desc := "(I)Z" } : Jvm.MethodName)) := am_tb0 76 (by decide +kernel) rfl
theorem am_w682 : am_W (Cond.code ({ cls := "NowhereMoneyModel", name := "flightOf", desc := "(III)I" } : Jvm.MethodName) prog_13_method_66_code (6 : Nat) (Option.some Jvm.ClassFile.FieldType.int)) := am_tb7 42 (by decide +kernel) rfl
theorem am_w683 : am_W (Cond.instanceMethod ({ cls := "NowhereMoneyModel", name := "flightOf", desc := "(III)I" } : Jvm.MethodName)) := am_tb7 41 (by decide +kernel) rfl
theorem am_w684 : am_W (Cond.selects "NowhereMoneyModel" ({ cls := "NowhereMoneyModel", name := "flightOf", desc := "(III)I" } : Jvm.MethodName) ({ cls := "NowhereMoneyModel", name := "flightOf", desc := "(III)I" } : Jvm.MethodName)) := am_tb0 77 (by decide +kernel) rfl
theorem am_w685 : am_W (Cond.code ({ cls := "NowhereMoneyModel", name := "holdsUp", desc := "(IIII)I" } : Jvm.MethodName) prog_13_method_69_code (6 : Nat) (Option.some Jvm.ClassFile.FieldType.int)) := am_tb7 54 (by decide +kernel) rfl
theorem am_w686 : am_W (Cond.instanceMethod ({ cls := "NowhereMoneyModel", name := "holdsUp", desc := "(IIII)I" } : Jvm.MethodName)) := am_tb7 53 (by decide +kernel) rfl
theorem am_w687 : am_W (Cond.selects "NowhereMoneyModel" ({ cls := "NowhereMoneyModel", name := "holdsUp", desc := "(IIII)I" } : Jvm.MethodName) ({ cls := "NowhereMoneyModel", name := "holdsUp", desc := "(IIII)I" } : Jvm.MethodName)) := am_tb0 79 (by decide +kernel) rfl
theorem am_w688 : am_W (Cond.code ({ cls := "NowhereMoneyModel", name := "rings", desc := "(IIIII)V" } : Jvm.MethodName) prog_13_method_70_code (8 : Nat) (Option.none : Option Jvm.ClassFile.FieldType)) := am_tb7 50 (by decide +kernel) rfl
theorem am_w689 : am_W (Cond.instanceMethod ({ cls := "NowhereMoneyModel", name := "rings", desc := "(IIIII)V" } : Jvm.MethodName)) := am_tb7 49 (by decide +kernel) rfl
theorem am_w690 : am_W (Cond.selects "NowhereMoneyModel" ({ cls := "NowhereMoneyModel", name := "rings", desc := "(IIIII)V" } : Jvm.MethodName) ({ cls := "NowhereMoneyModel", name := "rings", desc := "(IIIII)V" } : Jvm.MethodName)) := am_tb0 78 (by decide +kernel) rfl
theorem am_w691 : am_W (Cond.code ({ cls := "NowhereMoneyModel", name := "apart", desc := "(II)I" } : Jvm.MethodName) prog_13_method_2_code (2 : Nat) (Option.some Jvm.ClassFile.FieldType.int)) := am_tb7 30 (by decide +kernel) rfl
theorem am_w692 : am_W (Cond.static ({ cls := "NowhereMoneyModel", name := "apart", desc := "(II)I" } : Jvm.MethodName)) := am_tb7 29 (by decide +kernel) rfl
theorem am_w693 : am_W (Cond.code ({ cls := "NowhereMoneyModel", name := "isMatched", desc := "(I)Z" } : Jvm.MethodName) prog_13_method_75_code (3 : Nat) (Option.some Jvm.ClassFile.FieldType.boolean)) := am_tb7 27 (by decide +kernel) rfl
theorem am_w694 : am_W (Cond.instanceMethod ({ cls := "NowhereMoneyModel", name := "isMatched", desc := "(I)Z" } : Jvm.MethodName)) := am_tb7 26 (by decide +kernel) rfl
theorem am_w695 : am_W (Cond.selects "NowhereMoneyModel" ({ cls := "NowhereMoneyModel", name := "isMatched", desc := "(I)Z" } : Jvm.MethodName) ({ cls := "NowhereMoneyModel", name := "isMatched", desc := "(I)Z" } : Jvm.MethodName)) := am_tb0 75 (by decide +kernel) rfl
theorem am_w696 : am_W (Cond.code ({ cls := "NowhereMoneyModel", name := "signs", desc := "(II)V" } : Jvm.MethodName) prog_13_method_76_code (7 : Nat) (Option.none : Option Jvm.ClassFile.FieldType)) := am_tb7 23 (by decide +kernel) rfl
theorem am_w697 : am_W (Cond.instanceMethod ({ cls := "NowhereMoneyModel", name := "signs", desc := "(II)V" } : Jvm.MethodName)) := am_tb7 22 (by decide +kernel) rfl
theorem am_w698 : am_W (Cond.selects "NowhereMoneyModel" ({ cls := "NowhereMoneyModel", name := "signs", desc := "(II)V" } : Jvm.MethodName) ({ cls := "NowhereMoneyModel", name := "signs", desc := "(II)V" } : Jvm.MethodName)) := am_tb0 74 (by decide +kernel) rfl
theorem am_w699 : am_W (Cond.code ({ cls := "NowhereMoneyModel", name := "count", desc := "(I)I" } : Jvm.MethodName) prog_13_method_80_code (3 : Nat) (Option.some Jvm.ClassFile.FieldType.int)) := am_tb7 85 (by decide +kernel) rfl
theorem am_w700 : am_W (Cond.static ({ cls := "NowhereMoneyModel", name := "count", desc := "(I)I" } : Jvm.MethodName)) := am_tb7 84 (by decide +kernel) rfl
theorem am_w701 : am_W (Cond.code ({ cls := "NowhereMoneyModel", name := "lossOf", desc := "(I)I" } : Jvm.MethodName) prog_13_method_84_code (4 : Nat) (Option.some Jvm.ClassFile.FieldType.int)) := am_tb7 109 (by decide +kernel) rfl
theorem am_w702 : am_W (Cond.instanceMethod ({ cls := "NowhereMoneyModel", name := "lossOf", desc := "(I)I" } : Jvm.MethodName)) := am_tb7 108 (by decide +kernel) rfl
theorem am_w703 : am_W (Cond.selects "NowhereMoneyModel" ({ cls := "NowhereMoneyModel", name := "lossOf", desc := "(I)I" } : Jvm.MethodName) ({ cls := "NowhereMoneyModel", name := "lossOf", desc := "(I)I" } : Jvm.MethodName)) := am_tb0 82 (by decide +kernel) rfl
theorem am_w704 : am_W (Cond.code ({ cls := "NowhereMoneyModel", name := "lossOfAll", desc := "()I" } : Jvm.MethodName) prog_13_method_85_code (3 : Nat) (Option.some Jvm.ClassFile.FieldType.int)) := am_tb7 105 (by decide +kernel) rfl
theorem am_w705 : am_W (Cond.instanceMethod ({ cls := "NowhereMoneyModel", name := "lossOfAll", desc := "()I" } : Jvm.MethodName)) := am_tb7 104 (by decide +kernel) rfl
theorem am_w706 : am_W (Cond.selects "NowhereMoneyModel" ({ cls := "NowhereMoneyModel", name := "lossOfAll", desc := "()I" } : Jvm.MethodName) ({ cls := "NowhereMoneyModel", name := "lossOfAll", desc := "()I" } : Jvm.MethodName)) := am_tb0 81 (by decide +kernel) rfl
theorem am_w707 : am_W (Cond.code ({ cls := "NowhereMoneyModel", name := "ends", desc := "(II)I" } : Jvm.MethodName) prog_13_method_86_code (5 : Nat) (Option.some Jvm.ClassFile.FieldType.int)) := am_tb7 101 (by decide +kernel) rfl
theorem am_w708 : am_W (Cond.instanceMethod ({ cls := "NowhereMoneyModel", name := "ends", desc := "(II)I" } : Jvm.MethodName)) := am_tb7 100 (by decide +kernel) rfl
theorem am_w709 : am_W (Cond.selects "NowhereMoneyModel" ({ cls := "NowhereMoneyModel", name := "ends", desc := "(II)I" } : Jvm.MethodName) ({ cls := "NowhereMoneyModel", name := "ends", desc := "(II)I" } : Jvm.MethodName)) := am_tb0 80 (by decide +kernel) rfl
theorem am_w710 : am_W (Cond.code ({ cls := "NowhereMoneyModel", name := "floats", desc := "(II)I" } : Jvm.MethodName) prog_13_method_90_code (7 : Nat) (Option.some Jvm.ClassFile.FieldType.int)) := am_tb7 125 (by decide +kernel) rfl
theorem am_w711 : am_W (Cond.instanceMethod ({ cls := "NowhereMoneyModel", name := "floats", desc := "(II)I" } : Jvm.MethodName)) := am_tb7 124 (by decide +kernel) rfl
theorem am_w712 : am_W (Cond.selects "NowhereMoneyModel" ({ cls := "NowhereMoneyModel", name := "floats", desc := "(II)I" } : Jvm.MethodName) ({ cls := "NowhereMoneyModel", name := "floats", desc := "(II)I" } : Jvm.MethodName)) := am_tb0 83 (by decide +kernel) rfl
theorem am_w713 : am_W (Cond.code ({ cls := "java/lang/String", name := "coder", desc := "()B" } : Jvm.MethodName) prog_17_method_152_code (1 : Nat) (Option.some Jvm.ClassFile.FieldType.byte)) := am_tb2 228 (by decide +kernel) rfl
theorem am_w714 : am_W (Cond.instanceMethod ({ cls := "java/lang/String", name := "coder", desc := "()B" } : Jvm.MethodName)) := am_tb2 226 (by decide +kernel) rfl
theorem am_w715 : am_W (Cond.selects "java/lang/String" ({ cls := "java/lang/String", name := "coder", desc := "()B" } : Jvm.MethodName) ({ cls := "java/lang/String", name := "coder", desc := "()B" } : Jvm.MethodName)) := am_tb2 227 (by decide +kernel) rfl
theorem am_w716 : am_W (Cond.code ({ cls := "java/lang/String", name := "isLatin1", desc := "()Z" } : Jvm.MethodName) prog_17_method_154_code (1 : Nat) (Option.some Jvm.ClassFile.FieldType.boolean)) := am_tb2 238 (by decide +kernel) rfl
theorem am_w717 : am_W (Cond.instanceMethod ({ cls := "java/lang/String", name := "isLatin1", desc := "()Z" } : Jvm.MethodName)) := am_tb2 236 (by decide +kernel) rfl
theorem am_w718 : am_W (Cond.selects "java/lang/String" ({ cls := "java/lang/String", name := "isLatin1", desc := "()Z" } : Jvm.MethodName) ({ cls := "java/lang/String", name := "isLatin1", desc := "()Z" } : Jvm.MethodName)) := am_tb2 237 (by decide +kernel) rfl
theorem am_w719 : am_W (Cond.code ({ cls := "java/lang/StringLatin1", name := "charAt", desc := "([BI)C" } : Jvm.MethodName) prog_18_method_2_code (2 : Nat) (Option.some Jvm.ClassFile.FieldType.char)) := am_tb3 1 (by decide +kernel) rfl
theorem am_w720 : am_W (Cond.initialized "java/lang/StringLatin1") := am_tb1 14 (by decide +kernel) rfl
theorem am_w721 : am_W (Cond.static ({ cls := "java/lang/StringLatin1", name := "charAt", desc := "([BI)C" } : Jvm.MethodName)) := am_tb3 0 (by decide +kernel) rfl
theorem am_w722 : am_W (Cond.code ({ cls := "java/lang/String", name := "indexOf", desc := "(II)I" } : Jvm.MethodName) prog_17_method_80_code (3 : Nat) (Option.some Jvm.ClassFile.FieldType.int)) := am_tb3 48 (by decide +kernel) rfl
theorem am_w723 : am_W (Cond.instanceMethod ({ cls := "java/lang/String", name := "indexOf", desc := "(II)I" } : Jvm.MethodName)) := am_tb3 46 (by decide +kernel) rfl
theorem am_w724 : am_W (Cond.selects "java/lang/String" ({ cls := "java/lang/String", name := "indexOf", desc := "(II)I" } : Jvm.MethodName) ({ cls := "java/lang/String", name := "indexOf", desc := "(II)I" } : Jvm.MethodName)) := am_tb3 47 (by decide +kernel) rfl
theorem am_w725 : am_W (Cond.code ({ cls := "java/lang/StringLatin1", name := "indexOf", desc := "([BIII)I" } : Jvm.MethodName) prog_18_method_22_code (4 : Nat) (Option.some Jvm.ClassFile.FieldType.int)) := am_tb3 52 (by decide +kernel) rfl
theorem am_w726 : am_W (Cond.static ({ cls := "java/lang/StringLatin1", name := "indexOf", desc := "([BIII)I" } : Jvm.MethodName)) := am_tb3 51 (by decide +kernel) rfl
theorem am_w727 : am_W (Cond.code ({ cls := "jdk/internal/util/Preconditions", name := "checkIndex", desc := "(IILjava/util/function/BiFunction;)I" } : Jvm.MethodName) prog_21_method_11_code (3 : Nat) (Option.some Jvm.ClassFile.FieldType.int)) := am_tb3 9 (by decide +kernel) rfl
theorem am_w728 : am_W (Cond.initialized "jdk/internal/util/Preconditions") := am_tb1 15 (by decide +kernel) rfl
theorem am_w729 : am_W (Cond.static ({ cls := "jdk/internal/util/Preconditions", name := "checkIndex", desc := "(IILjava/util/function/BiFunction;)I" } : Jvm.MethodName)) := am_tb3 8 (by decide +kernel) rfl
theorem am_w730 : am_W (Cond.code ({ cls := "java/lang/String", name := "checkIndex", desc := "(II)V" } : Jvm.MethodName) prog_17_method_155_code (2 : Nat) (Option.none : Option Jvm.ClassFile.FieldType)) := am_tb3 4 (by decide +kernel) rfl
theorem am_w731 : am_W (Cond.static ({ cls := "java/lang/String", name := "checkIndex", desc := "(II)V" } : Jvm.MethodName)) := am_tb3 3 (by decide +kernel) rfl
theorem am_w732 : am_W (Cond.code ({ cls := "java/lang/StringLatin1", name := "canEncode", desc := "(I)Z" } : Jvm.MethodName) prog_18_method_4_code (1 : Nat) (Option.some Jvm.ClassFile.FieldType.boolean)) := am_tb3 55 (by decide +kernel) rfl
theorem am_w733 : am_W (Cond.static ({ cls := "java/lang/StringLatin1", name := "canEncode", desc := "(I)Z" } : Jvm.MethodName)) := am_tb3 54 (by decide +kernel) rfl
theorem am_w734 : am_W (Cond.code ({ cls := "java/lang/StringLatin1", name := "indexOfChar", desc := "([BIII)I" } : Jvm.MethodName) prog_18_method_23_code (6 : Nat) (Option.some Jvm.ClassFile.FieldType.int)) := am_tb3 64 (by decide +kernel) rfl
theorem am_w735 : am_W (Cond.static ({ cls := "java/lang/StringLatin1", name := "indexOfChar", desc := "([BIII)I" } : Jvm.MethodName)) := am_tb3 63 (by decide +kernel) rfl
theorem am_w736 : am_W (Cond.classLink "NowhereMoneyLaw" (7 : Nat) "NowhereMoney") := am_tb1 21 (by decide +kernel) rfl
theorem am_w737 : am_W (Cond.instantiable "NowhereMoney" (15 : Nat)) := am_tb1 22 (by decide +kernel) rfl
theorem am_w738 : am_W (Cond.methodLink "NowhereMoneyLaw" (9 : Nat) ({ cls := "NowhereMoney", name := "<init>", desc := "()V" } : Jvm.MethodName)) := am_tb1 23 (by decide +kernel) rfl
theorem am_w739 : am_W (Cond.classLink "NowhereMoneyLaw" (10 : Nat) "NowhereMoneyModel") := am_tb5 125 (by decide +kernel) rfl
theorem am_w740 : am_W (Cond.instantiable "NowhereMoneyModel" (31 : Nat)) := am_tb5 126 (by decide +kernel) rfl
theorem am_w741 : am_W (Cond.methodLink "NowhereMoneyLaw" (12 : Nat) ({ cls := "NowhereMoneyModel", name := "<init>", desc := "()V" } : Jvm.MethodName)) := am_tb5 127 (by decide +kernel) rfl
theorem am_w742 : am_W (Cond.methodLink "NowhereMoneyLaw" (13 : Nat) ({ cls := "NowhereMoney", name := "town", desc := "(II)Z" } : Jvm.MethodName)) := am_tb2 140 (by decide +kernel) rfl
theorem am_w743 : am_W (Cond.methodLink "NowhereMoneyLaw" (17 : Nat) ({ cls := "NowhereMoneyModel", name := "town", desc := "(II)Z" } : Jvm.MethodName)) := am_tb5 225 (by decide +kernel) rfl
theorem am_w744 : am_W (Cond.methodLink "NowhereMoneyLaw" (18 : Nat) ({ cls := "NowhereMoney", name := "rail", desc := "(III)Z" } : Jvm.MethodName)) := am_tb2 150 (by decide +kernel) rfl
theorem am_w745 : am_W (Cond.methodLink "NowhereMoneyLaw" (22 : Nat) ({ cls := "NowhereMoneyModel", name := "rail", desc := "(III)Z" } : Jvm.MethodName)) := am_tb5 235 (by decide +kernel) rfl
theorem am_w746 : am_W (Cond.methodLink "NowhereMoneyLaw" (23 : Nat) ({ cls := "NowhereMoney", name := "told", desc := "(IIZ)Z" } : Jvm.MethodName)) := am_tb2 154 (by decide +kernel) rfl
theorem am_w747 : am_W (Cond.methodLink "NowhereMoneyLaw" (27 : Nat) ({ cls := "NowhereMoneyModel", name := "told", desc := "(IIZ)Z" } : Jvm.MethodName)) := am_tb5 239 (by decide +kernel) rfl
theorem am_w748 : am_W (Cond.methodLink "NowhereMoneyLaw" (28 : Nat) ({ cls := "NowhereMoney", name := "feed", desc := "(IIIII)I" } : Jvm.MethodName)) := am_tb2 161 (by decide +kernel) rfl
theorem am_w749 : am_W (Cond.methodLink "NowhereMoneyLaw" (32 : Nat) ({ cls := "NowhereMoneyModel", name := "feed", desc := "(IIIII)I" } : Jvm.MethodName)) := am_tb6 3 (by decide +kernel) rfl
theorem am_w750 : am_W (Cond.methodLink "NowhereMoneyLaw" (33 : Nat) ({ cls := "NowhereMoney", name := "end", desc := "(I)Z" } : Jvm.MethodName)) := am_tb2 169 (by decide +kernel) rfl
theorem am_w751 : am_W (Cond.methodLink "NowhereMoneyLaw" (37 : Nat) ({ cls := "NowhereMoneyModel", name := "end", desc := "(I)Z" } : Jvm.MethodName)) := am_tb6 7 (by decide +kernel) rfl
theorem am_w752 : am_W (Cond.methodLink "NowhereMoneyLaw" (38 : Nat) ({ cls := "NowhereMoney", name := "text", desc := "(I)I" } : Jvm.MethodName)) := am_tb2 173 (by decide +kernel) rfl
theorem am_w753 : am_W (Cond.methodLink "NowhereMoneyLaw" (42 : Nat) ({ cls := "NowhereMoneyModel", name := "text", desc := "(I)I" } : Jvm.MethodName)) := am_tb6 11 (by decide +kernel) rfl
theorem am_w754 : am_W (Cond.methodLink "NowhereMoneyLaw" (43 : Nat) ({ cls := "NowhereMoney", name := "fault", desc := "(I)I" } : Jvm.MethodName)) := am_tb3 160 (by decide +kernel) rfl
theorem am_w755 : am_W (Cond.methodLink "NowhereMoneyLaw" (46 : Nat) ({ cls := "NowhereMoneyModel", name := "fault", desc := "(I)I" } : Jvm.MethodName)) := am_tb6 110 (by decide +kernel) rfl
theorem am_w756 : am_W (Cond.methodLink "NowhereMoneyLaw" (47 : Nat) ({ cls := "NowhereMoney", name := "cash", desc := "(III)Z" } : Jvm.MethodName)) := am_tb3 164 (by decide +kernel) rfl
theorem am_w757 : am_W (Cond.methodLink "NowhereMoneyLaw" (50 : Nat) ({ cls := "NowhereMoneyModel", name := "cash", desc := "(III)Z" } : Jvm.MethodName)) := am_tb6 119 (by decide +kernel) rfl
theorem am_w758 : am_W (Cond.methodLink "NowhereMoneyLaw" (51 : Nat) ({ cls := "NowhereMoney", name := "pay", desc := "(IIIII)I" } : Jvm.MethodName)) := am_tb3 236 (by decide +kernel) rfl
theorem am_w759 : am_W (Cond.methodLink "NowhereMoneyLaw" (54 : Nat) ({ cls := "NowhereMoneyModel", name := "pay", desc := "(IIIII)I" } : Jvm.MethodName)) := am_tb6 167 (by decide +kernel) rfl
theorem am_w760 : am_W (Cond.methodLink "NowhereMoneyLaw" (55 : Nat) ({ cls := "NowhereMoney", name := "day", desc := "()I" } : Jvm.MethodName)) := am_tb4 14 (by decide +kernel) rfl
theorem am_w761 : am_W (Cond.methodLink "NowhereMoneyLaw" (59 : Nat) ({ cls := "NowhereMoneyModel", name := "day", desc := "()I" } : Jvm.MethodName)) := am_tb6 224 (by decide +kernel) rfl
theorem am_w762 : am_W (Cond.methodLink "NowhereMoneyLaw" (60 : Nat) ({ cls := "NowhereMoney", name := "book", desc := "(III)I" } : Jvm.MethodName)) := am_tb4 105 (by decide +kernel) rfl
theorem am_w763 : am_W (Cond.methodLink "NowhereMoneyLaw" (64 : Nat) ({ cls := "NowhereMoneyModel", name := "book", desc := "(III)I" } : Jvm.MethodName)) := am_tb6 180 (by decide +kernel) rfl
theorem am_w764 : am_W (Cond.methodLink "NowhereMoneyLaw" (65 : Nat) ({ cls := "NowhereMoney", name := "cheque", desc := "(II)I" } : Jvm.MethodName)) := am_tb4 112 (by decide +kernel) rfl
theorem am_w765 : am_W (Cond.methodLink "NowhereMoneyLaw" (69 : Nat) ({ cls := "NowhereMoneyModel", name := "cheque", desc := "(II)I" } : Jvm.MethodName)) := am_tb6 184 (by decide +kernel) rfl
theorem am_w766 : am_W (Cond.methodLink "NowhereMoneyLaw" (70 : Nat) ({ cls := "NowhereMoney", name := "really", desc := "(II)I" } : Jvm.MethodName)) := am_tb4 120 (by decide +kernel) rfl
theorem am_w767 : am_W (Cond.methodLink "NowhereMoneyLaw" (73 : Nat) ({ cls := "NowhereMoneyModel", name := "really", desc := "(II)I" } : Jvm.MethodName)) := am_tb6 196 (by decide +kernel) rfl
theorem am_w768 : am_W (Cond.methodLink "NowhereMoneyLaw" (74 : Nat) ({ cls := "NowhereMoney", name := "kept", desc := "(III)I" } : Jvm.MethodName)) := am_tb4 126 (by decide +kernel) rfl
theorem am_w769 : am_W (Cond.methodLink "NowhereMoneyLaw" (77 : Nat) ({ cls := "NowhereMoneyModel", name := "kept", desc := "(III)I" } : Jvm.MethodName)) := am_tb6 208 (by decide +kernel) rfl
theorem am_w770 : am_W (Cond.methodLink "NowhereMoneyLaw" (78 : Nat) ({ cls := "NowhereMoney", name := "sums", desc := "(I)I" } : Jvm.MethodName)) := am_tb4 130 (by decide +kernel) rfl
theorem am_w771 : am_W (Cond.methodLink "NowhereMoneyLaw" (81 : Nat) ({ cls := "NowhereMoneyModel", name := "sums", desc := "(I)I" } : Jvm.MethodName)) := am_tb6 212 (by decide +kernel) rfl
theorem am_w772 : am_W (Cond.methodLink "NowhereMoneyLaw" (82 : Nat) ({ cls := "NowhereMoney", name := "flight", desc := "(III)I" } : Jvm.MethodName)) := am_tb4 145 (by decide +kernel) rfl
theorem am_w773 : am_W (Cond.methodLink "NowhereMoneyLaw" (85 : Nat) ({ cls := "NowhereMoneyModel", name := "flight", desc := "(III)I" } : Jvm.MethodName)) := am_tb7 31 (by decide +kernel) rfl
theorem am_w774 : am_W (Cond.methodLink "NowhereMoneyLaw" (86 : Nat) ({ cls := "NowhereMoney", name := "ring", desc := "(IIII)I" } : Jvm.MethodName)) := am_tb4 160 (by decide +kernel) rfl
theorem am_w775 : am_W (Cond.methodLink "NowhereMoneyLaw" (90 : Nat) ({ cls := "NowhereMoneyModel", name := "ring", desc := "(IIII)I" } : Jvm.MethodName)) := am_tb7 43 (by decide +kernel) rfl
theorem am_w776 : am_W (Cond.methodLink "NowhereMoneyLaw" (91 : Nat) ({ cls := "NowhereMoney", name := "letIn", desc := "(IIII)I" } : Jvm.MethodName)) := am_tb4 187 (by decide +kernel) rfl
theorem am_w777 : am_W (Cond.methodLink "NowhereMoneyLaw" (94 : Nat) ({ cls := "NowhereMoneyModel", name := "letIn", desc := "(IIII)I" } : Jvm.MethodName)) := am_tb7 55 (by decide +kernel) rfl
theorem am_w778 : am_W (Cond.methodLink "NowhereMoneyLaw" (95 : Nat) ({ cls := "NowhereMoney", name := "leastHold", desc := "(III)I" } : Jvm.MethodName)) := am_tb4 191 (by decide +kernel) rfl
theorem am_w779 : am_W (Cond.methodLink "NowhereMoneyLaw" (98 : Nat) ({ cls := "NowhereMoneyModel", name := "leastHold", desc := "(III)I" } : Jvm.MethodName)) := am_tb7 60 (by decide +kernel) rfl
theorem am_w780 : am_W (Cond.methodLink "NowhereMoneyLaw" (99 : Nat) ({ cls := "NowhereMoney", name := "chain", desc := "(II)I" } : Jvm.MethodName)) := am_tb4 196 (by decide +kernel) rfl
theorem am_w781 : am_W (Cond.methodLink "NowhereMoneyLaw" (102 : Nat) ({ cls := "NowhereMoneyModel", name := "chain", desc := "(II)I" } : Jvm.MethodName)) := am_tb6 188 (by decide +kernel) rfl
theorem am_w782 : am_W (Cond.methodLink "NowhereMoneyLaw" (103 : Nat) ({ cls := "NowhereMoney", name := "entry", desc := "(II)I" } : Jvm.MethodName)) := am_tb4 205 (by decide +kernel) rfl
theorem am_w783 : am_W (Cond.methodLink "NowhereMoneyLaw" (106 : Nat) ({ cls := "NowhereMoneyModel", name := "entry", desc := "(II)I" } : Jvm.MethodName)) := am_tb6 114 (by decide +kernel) rfl
theorem am_w784 : am_W (Cond.methodLink "NowhereMoneyLaw" (107 : Nat) ({ cls := "NowhereMoney", name := "growth", desc := "(III)I" } : Jvm.MethodName)) := am_tb4 209 (by decide +kernel) rfl
theorem am_w785 : am_W (Cond.methodLink "NowhereMoneyLaw" (110 : Nat) ({ cls := "NowhereMoneyModel", name := "growth", desc := "(III)I" } : Jvm.MethodName)) := am_tb7 64 (by decide +kernel) rfl
theorem am_w786 : am_W (Cond.methodLink "NowhereMoneyLaw" (111 : Nat) ({ cls := "NowhereMoney", name := "sign", desc := "(III)I" } : Jvm.MethodName)) := am_tb4 219 (by decide +kernel) rfl
theorem am_w787 : am_W (Cond.methodLink "NowhereMoneyLaw" (114 : Nat) ({ cls := "NowhereMoneyModel", name := "sign", desc := "(III)I" } : Jvm.MethodName)) := am_tb7 71 (by decide +kernel) rfl
theorem am_w788 : am_W (Cond.methodLink "NowhereMoneyLaw" (115 : Nat) ({ cls := "NowhereMoney", name := "kiters", desc := "(I)Z" } : Jvm.MethodName)) := am_tb4 228 (by decide +kernel) rfl
theorem am_w789 : am_W (Cond.methodLink "NowhereMoneyLaw" (118 : Nat) ({ cls := "NowhereMoneyModel", name := "kiters", desc := "(I)Z" } : Jvm.MethodName)) := am_tb7 75 (by decide +kernel) rfl
theorem am_w790 : am_W (Cond.methodLink "NowhereMoneyLaw" (119 : Nat) ({ cls := "NowhereMoney", name := "cries", desc := "(II)I" } : Jvm.MethodName)) := am_tb4 232 (by decide +kernel) rfl
theorem am_w791 : am_W (Cond.methodLink "NowhereMoneyLaw" (122 : Nat) ({ cls := "NowhereMoneyModel", name := "cries", desc := "(II)I" } : Jvm.MethodName)) := am_tb7 79 (by decide +kernel) rfl
theorem am_w792 : am_W (Cond.methodLink "NowhereMoneyLaw" (123 : Nat) ({ cls := "NowhereMoney", name := "like", desc := "(III)I" } : Jvm.MethodName)) := am_tb5 1 (by decide +kernel) rfl
theorem am_w793 : am_W (Cond.methodLink "NowhereMoneyLaw" (126 : Nat) ({ cls := "NowhereMoneyModel", name := "like", desc := "(III)I" } : Jvm.MethodName)) := am_tb7 86 (by decide +kernel) rfl
theorem am_w794 : am_W (Cond.methodLink "NowhereMoneyLaw" (127 : Nat) ({ cls := "NowhereMoney", name := "alone", desc := "(II)I" } : Jvm.MethodName)) := am_tb5 13 (by decide +kernel) rfl
theorem am_w795 : am_W (Cond.methodLink "NowhereMoneyLaw" (130 : Nat) ({ cls := "NowhereMoneyModel", name := "alone", desc := "(II)I" } : Jvm.MethodName)) := am_tb7 90 (by decide +kernel) rfl
theorem am_w796 : am_W (Cond.methodLink "NowhereMoneyLaw" (131 : Nat) ({ cls := "NowhereMoney", name := "ending", desc := "(II)I" } : Jvm.MethodName)) := am_tb5 17 (by decide +kernel) rfl
theorem am_w797 : am_W (Cond.methodLink "NowhereMoneyLaw" (134 : Nat) ({ cls := "NowhereMoneyModel", name := "ending", desc := "(II)I" } : Jvm.MethodName)) := am_tb7 94 (by decide +kernel) rfl
theorem am_w798 : am_W (Cond.methodLink "NowhereMoneyLaw" (135 : Nat) ({ cls := "NowhereMoney", name := "snowed", desc := "()I" } : Jvm.MethodName)) := am_tb5 39 (by decide +kernel) rfl
theorem am_w799 : am_W (Cond.methodLink "NowhereMoneyLaw" (138 : Nat) ({ cls := "NowhereMoneyModel", name := "snowed", desc := "()I" } : Jvm.MethodName)) := am_tb7 110 (by decide +kernel) rfl
theorem am_w800 : am_W (Cond.methodLink "NowhereMoneyLaw" (139 : Nat) ({ cls := "NowhereMoney", name := "payment", desc := "(II)I" } : Jvm.MethodName)) := am_tb5 45 (by decide +kernel) rfl
theorem am_w801 : am_W (Cond.methodLink "NowhereMoneyLaw" (142 : Nat) ({ cls := "NowhereMoneyModel", name := "payment", desc := "(II)I" } : Jvm.MethodName)) := am_tb7 114 (by decide +kernel) rfl
theorem am_w802 : am_W (Cond.methodLink "NowhereMoneyLaw" (143 : Nat) ({ cls := "NowhereMoney", name := "payFloat", desc := "(II)I" } : Jvm.MethodName)) := am_tb5 49 (by decide +kernel) rfl
theorem am_w803 : am_W (Cond.methodLink "NowhereMoneyLaw" (146 : Nat) ({ cls := "NowhereMoneyModel", name := "payFloat", desc := "(II)I" } : Jvm.MethodName)) := am_tb7 118 (by decide +kernel) rfl
theorem am_w804 : am_W (Cond.methodLink "NowhereMoneyLaw" (147 : Nat) ({ cls := "NowhereMoney", name := "room", desc := "(II)I" } : Jvm.MethodName)) := am_tb5 71 (by decide +kernel) rfl
theorem am_w805 : am_W (Cond.methodLink "NowhereMoneyLaw" (150 : Nat) ({ cls := "NowhereMoneyModel", name := "room", desc := "(II)I" } : Jvm.MethodName)) := am_tb7 126 (by decide +kernel) rfl
theorem am_w806 : am_W (Cond.methodLink "NowhereMoneyLaw" (151 : Nat) ({ cls := "NowhereMoney", name := "seen", desc := "(I)I" } : Jvm.MethodName)) := am_tb5 84 (by decide +kernel) rfl
theorem am_w807 : am_W (Cond.methodLink "NowhereMoneyLaw" (154 : Nat) ({ cls := "NowhereMoneyModel", name := "seen", desc := "(I)I" } : Jvm.MethodName)) := am_tb7 130 (by decide +kernel) rfl
theorem am_w808 : am_W (Cond.methodLink "NowhereMoneyLaw" (155 : Nat) ({ cls := "NowhereMoney", name := "burnt", desc := "(IIII)I" } : Jvm.MethodName)) := am_tb5 88 (by decide +kernel) rfl
theorem am_w809 : am_W (Cond.methodLink "NowhereMoneyLaw" (158 : Nat) ({ cls := "NowhereMoneyModel", name := "burnt", desc := "(IIII)I" } : Jvm.MethodName)) := am_tb7 135 (by decide +kernel) rfl
theorem am_w810 : am_W (Cond.methodLink "NowhereMoneyLaw" (159 : Nat) ({ cls := "NowhereMoney", name := "honest", desc := "(I)I" } : Jvm.MethodName)) := am_tb5 96 (by decide +kernel) rfl
theorem am_w811 : am_W (Cond.methodLink "NowhereMoneyLaw" (162 : Nat) ({ cls := "NowhereMoneyModel", name := "honest", desc := "(I)I" } : Jvm.MethodName)) := am_tb7 139 (by decide +kernel) rfl
theorem am_w812 : am_W (Cond.methodLink "NowhereMoneyLaw" (163 : Nat) ({ cls := "NowhereMoney", name := "image", desc := "(Z)Z" } : Jvm.MethodName)) := am_tb5 100 (by decide +kernel) rfl
theorem am_w813 : am_W (Cond.methodLink "NowhereMoneyLaw" (167 : Nat) ({ cls := "NowhereMoneyModel", name := "image", desc := "(Z)Z" } : Jvm.MethodName)) := am_tb7 143 (by decide +kernel) rfl
theorem am_w814 : am_W (Cond.methodLink "NowhereMoneyLaw" (168 : Nat) ({ cls := "NowhereMoney", name := "look", desc := "(I)I" } : Jvm.MethodName)) := am_tb5 121 (by decide +kernel) rfl
theorem am_w815 : am_W (Cond.methodLink "NowhereMoneyLaw" (171 : Nat) ({ cls := "NowhereMoneyModel", name := "look", desc := "(I)I" } : Jvm.MethodName)) := am_tb7 147 (by decide +kernel) rfl
theorem am_w816 : am_W (Cond.methodLink "NowhereMoney$Country" (3 : Nat) ({ cls := "java/lang/Object", name := "<init>", desc := "()V" } : Jvm.MethodName)) := am_tb1 126 (by decide +kernel) rfl
theorem am_w817 : am_W (Cond.instanceMethod ({ cls := "java/lang/Object", name := "<init>", desc := "()V" } : Jvm.MethodName)) := am_tb1 27 (by decide +kernel) rfl
theorem am_w818 : am_W (Cond.code ({ cls := "java/lang/Object", name := "<init>", desc := "()V" } : Jvm.MethodName) object_method_1_code (1 : Nat) (Option.none : Option Jvm.ClassFile.FieldType)) := am_tb1 28 (by decide +kernel) rfl
theorem am_w819 : am_W (Cond.fieldLink "NowhereMoney$Country" (9 : Nat) "NowhereMoney$Country" "towns" "[I") := am_tb1 130 (by decide +kernel) rfl
theorem am_w820 : am_W (Cond.fieldLink "NowhereMoney$Country" (15 : Nat) "NowhereMoney$Country" "rails" "[I") := am_tb1 133 (by decide +kernel) rfl
theorem am_w821 : am_W (Cond.fieldLink "NowhereMoney$Country" (18 : Nat) "NowhereMoney$Country" "closed" "[I") := am_tb1 136 (by decide +kernel) rfl
theorem am_w822 : am_W (Cond.fieldLink "NowhereMoney$Country" (21 : Nat) "NowhereMoney$Country" "snow" "[I") := am_tb1 138 (by decide +kernel) rfl
theorem am_w823 : am_W (Cond.classLink "NowhereMoney$Country" (24 : Nat) "NowhereMoney$Script") := am_tb1 127 (by decide +kernel) rfl
theorem am_w824 : am_W (Cond.fieldLink "NowhereMoney$Country" (26 : Nat) "NowhereMoney$Country" "scripts" "[LNowhereMoney$Script;") := am_tb1 140 (by decide +kernel) rfl
theorem am_w825 : am_W (Cond.fieldLink "NowhereMoney$Country" (30 : Nat) "NowhereMoney$Country" "thoughtSnow" "I") := am_tb1 144 (by decide +kernel) rfl
theorem am_w826 : am_W (Cond.instantiable "NowhereMoney$Script" (8 : Nat)) := am_tb1 53 (by decide +kernel) rfl
theorem am_w827 : am_W (Cond.methodLink "NowhereMoney$Country" (35 : Nat) ({ cls := "java/lang/System", name := "arraycopy", desc := "(Ljava/lang/Object;ILjava/lang/Object;II)V" } : Jvm.MethodName)) := am_tb5 112 (by decide +kernel) rfl
theorem am_w828 : am_W (Cond.native ({ cls := "java/lang/System", name := "arraycopy", desc := "(Ljava/lang/Object;ILjava/lang/Object;II)V" } : Jvm.MethodName)) := am_tb3 158 (by decide +kernel) rfl
theorem am_w829 : am_W (Cond.static ({ cls := "java/lang/System", name := "arraycopy", desc := "(Ljava/lang/Object;ILjava/lang/Object;II)V" } : Jvm.MethodName)) := am_tb3 157 (by decide +kernel) rfl
theorem am_w830 : am_W (Cond.initialized "java/lang/System") := am_tb1 19 (by decide +kernel) rfl
theorem am_w831 : am_W (Cond.methodLink "NowhereMoney$Country" (41 : Nat) ({ cls := "NowhereMoney$Script", name := "copyFrom", desc := "(LNowhereMoney$Script;)V" } : Jvm.MethodName)) := am_tb5 113 (by decide +kernel) rfl
theorem am_w832 : am_W (Cond.methodLink "NowhereMoney$Country" (49 : Nat) ({ cls := "NowhereMoney$Country", name := "railBetween", desc := "(II)I" } : Jvm.MethodName)) := am_tb4 157 (by decide +kernel) rfl
theorem am_w833 : am_W (Cond.methodLink "NowhereMoney$Country" (53 : Nat) ({ cls := "NowhereMoney$Country", name := "hasSnow", desc := "(I)Z" } : Jvm.MethodName)) := am_tb4 158 (by decide +kernel) rfl
theorem am_w834 : am_W (Cond.methodLink "NowhereMoney$Country" (56 : Nat) ({ cls := "NowhereMoney$Country", name := "isBusiness", desc := "(I)Z" } : Jvm.MethodName)) := am_tb4 159 (by decide +kernel) rfl
theorem am_w835 : am_W (Cond.methodLink "NowhereMoney$Entries" (3 : Nat) ({ cls := "java/lang/Object", name := "<init>", desc := "()V" } : Jvm.MethodName)) := am_tb1 164 (by decide +kernel) rfl
theorem am_w836 : am_W (Cond.fieldLink "NowhereMoney$Entries" (9 : Nat) "NowhereMoney$Entries" "rows" "[I") := am_tb1 165 (by decide +kernel) rfl
theorem am_w837 : am_W (Cond.fieldLink "NowhereMoney$Entries" (15 : Nat) "NowhereMoney$Entries" "count" "I") := am_tb1 167 (by decide +kernel) rfl
theorem am_w838 : am_W (Cond.methodLink "NowhereMoney$Entries" (19 : Nat) ({ cls := "java/lang/System", name := "arraycopy", desc := "(Ljava/lang/Object;ILjava/lang/Object;II)V" } : Jvm.MethodName)) := am_tb5 118 (by decide +kernel) rfl
theorem am_w839 : am_W (Cond.methodLink "NowhereMoney$Ledger" (3 : Nat) ({ cls := "java/lang/Object", name := "<init>", desc := "()V" } : Jvm.MethodName)) := am_tb1 179 (by decide +kernel) rfl
theorem am_w840 : am_W (Cond.fieldLink "NowhereMoney$Ledger" (9 : Nat) "NowhereMoney$Ledger" "rows" "[I") := am_tb1 182 (by decide +kernel) rfl
theorem am_w841 : am_W (Cond.fieldLink "NowhereMoney$Ledger" (15 : Nat) "NowhereMoney$Ledger" "books" "[I") := am_tb1 184 (by decide +kernel) rfl
theorem am_w842 : am_W (Cond.fieldLink "NowhereMoney$Ledger" (18 : Nat) "NowhereMoney$Ledger" "cash" "[I") := am_tb1 188 (by decide +kernel) rfl
theorem am_w843 : am_W (Cond.fieldLink "NowhereMoney$Ledger" (21 : Nat) "NowhereMoney$Ledger" "fees" "[I") := am_tb1 190 (by decide +kernel) rfl
theorem am_w844 : am_W (Cond.fieldLink "NowhereMoney$Ledger" (24 : Nat) "NowhereMoney$Ledger" "asked" "[I") := am_tb1 192 (by decide +kernel) rfl
theorem am_w845 : am_W (Cond.fieldLink "NowhereMoney$Ledger" (27 : Nat) "NowhereMoney$Ledger" "facts" "[I") := am_tb1 193 (by decide +kernel) rfl
theorem am_w846 : am_W (Cond.fieldLink "NowhereMoney$Ledger" (30 : Nat) "NowhereMoney$Ledger" "country" "LNowhereMoney$Country;") := am_tb1 180 (by decide +kernel) rfl
theorem am_w847 : am_W (Cond.fieldLink "NowhereMoney$Ledger" (34 : Nat) "NowhereMoney$Ledger" "entries" "LNowhereMoney$Entries;") := am_tb1 181 (by decide +kernel) rfl
theorem am_w848 : am_W (Cond.fieldLink "NowhereMoney$Ledger" (38 : Nat) "NowhereMoney$Ledger" "now" "I") := am_tb1 194 (by decide +kernel) rfl
theorem am_w849 : am_W (Cond.fieldLink "NowhereMoney$Ledger" (42 : Nat) "NowhereMoney$Ledger" "count" "I") := am_tb1 198 (by decide +kernel) rfl
theorem am_w850 : am_W (Cond.methodLink "NowhereMoney$Ledger" (45 : Nat) ({ cls := "java/lang/System", name := "arraycopy", desc := "(Ljava/lang/Object;ILjava/lang/Object;II)V" } : Jvm.MethodName)) := am_tb5 29 (by decide +kernel) rfl
theorem am_w851 : am_W (Cond.methodLink "NowhereMoney$Ledger" (51 : Nat) ({ cls := "NowhereMoney$Ledger", name := "part", desc := "(II)I" } : Jvm.MethodName)) := am_tb3 197 (by decide +kernel) rfl
theorem am_w852 : am_W (Cond.methodLink "NowhereMoney$Ledger" (55 : Nat) ({ cls := "NowhereMoney$Ledger", name := "isPaidIn", desc := "(III)Z" } : Jvm.MethodName)) := am_tb3 193 (by decide +kernel) rfl
theorem am_w853 : am_W (Cond.methodLink "NowhereMoney$Ledger" (59 : Nat) ({ cls := "NowhereMoney$Ledger", name := "held", desc := "(II)I" } : Jvm.MethodName)) := am_tb3 224 (by decide +kernel) rfl
theorem am_w854 : am_W (Cond.methodLink "NowhereMoney$Ledger" (62 : Nat) ({ cls := "NowhereMoney$Ledger", name := "isOfLastWeek", desc := "(I)Z" } : Jvm.MethodName)) := am_tb3 201 (by decide +kernel) rfl
theorem am_w855 : am_W (Cond.methodLink "NowhereMoney$Ledger" (66 : Nat) ({ cls := "NowhereMoney$Country", name := "areFar", desc := "(II)Z" } : Jvm.MethodName)) := am_tb3 181 (by decide +kernel) rfl
theorem am_w856 : am_W (Cond.methodLink "NowhereMoney$Ledger" (72 : Nat) ({ cls := "NowhereMoney$Country", name := "railBetween", desc := "(II)I" } : Jvm.MethodName)) := am_tb3 185 (by decide +kernel) rfl
theorem am_w857 : am_W (Cond.methodLink "NowhereMoney$Ledger" (75 : Nat) ({ cls := "NowhereMoney$Ledger", name := "paidInLately", desc := "(II)I" } : Jvm.MethodName)) := am_tb3 189 (by decide +kernel) rfl
theorem am_w858 : am_W (Cond.constant "NowhereMoney$Ledger" (78 : Nat) (999999 : Int32)) := am_tb3 205 (by decide +kernel) rfl
theorem am_w859 : am_W (Cond.fieldLink "NowhereMoney$Ledger" (79 : Nat) "NowhereMoney$Country" "scripts" "[LNowhereMoney$Script;") := am_tb1 143 (by decide +kernel) rfl
theorem am_w860 : am_W (Cond.methodLink "NowhereMoney$Ledger" (83 : Nat) ({ cls := "NowhereMoney$Script", name := "firstValue", desc := "(I[I)I" } : Jvm.MethodName)) := am_tb3 206 (by decide +kernel) rfl
theorem am_w861 : am_W (Cond.methodLink "NowhereMoney$Ledger" (89 : Nat) ({ cls := "java/lang/Math", name := "min", desc := "(II)I" } : Jvm.MethodName)) := am_tb3 218 (by decide +kernel) rfl
theorem am_w862 : am_W (Cond.static ({ cls := "java/lang/Math", name := "min", desc := "(II)I" } : Jvm.MethodName)) := am_tb3 60 (by decide +kernel) rfl
theorem am_w863 : am_W (Cond.initialized "java/lang/Math") := am_tb1 17 (by decide +kernel) rfl
theorem am_w864 : am_W (Cond.code ({ cls := "java/lang/Math", name := "min", desc := "(II)I" } : Jvm.MethodName) prog_16_method_69_code (2 : Nat) (Option.some Jvm.ClassFile.FieldType.int)) := am_tb3 61 (by decide +kernel) rfl
theorem am_w865 : am_W (Cond.methodLink "NowhereMoney$Ledger" (94 : Nat) ({ cls := "java/lang/Math", name := "max", desc := "(II)I" } : Jvm.MethodName)) := am_tb3 219 (by decide +kernel) rfl
theorem am_w866 : am_W (Cond.static ({ cls := "java/lang/Math", name := "max", desc := "(II)I" } : Jvm.MethodName)) := am_tb3 57 (by decide +kernel) rfl
theorem am_w867 : am_W (Cond.code ({ cls := "java/lang/Math", name := "max", desc := "(II)I" } : Jvm.MethodName) prog_16_method_65_code (2 : Nat) (Option.some Jvm.ClassFile.FieldType.int)) := am_tb3 58 (by decide +kernel) rfl
theorem am_w868 : am_W (Cond.methodLink "NowhereMoney$Ledger" (97 : Nat) ({ cls := "NowhereMoney$Entries", name := "add", desc := "(IIIIII)V" } : Jvm.MethodName)) := am_tb3 232 (by decide +kernel) rfl
theorem am_w869 : am_W (Cond.methodLink "NowhereMoney$Ledger" (103 : Nat) ({ cls := "NowhereMoney$Ledger", name := "lawValue", desc := "(IIIIII)I" } : Jvm.MethodName)) := am_tb4 8 (by decide +kernel) rfl
theorem am_w870 : am_W (Cond.methodLink "NowhereMoney$Ledger" (107 : Nat) ({ cls := "NowhereMoney$Ledger", name := "put", desc := "(III)V" } : Jvm.MethodName)) := am_tb4 9 (by decide +kernel) rfl
theorem am_w871 : am_W (Cond.methodLink "NowhereMoney$Ledger" (111 : Nat) ({ cls := "NowhereMoney$Ledger", name := "change", desc := "(IIIII)V" } : Jvm.MethodName)) := am_tb4 13 (by decide +kernel) rfl
theorem am_w872 : am_W (Cond.methodLink "NowhereMoney$Ledger" (115 : Nat) ({ cls := "NowhereMoney$Ledger", name := "rideTrains", desc := "()V" } : Jvm.MethodName)) := am_tb4 22 (by decide +kernel) rfl
theorem am_w873 : am_W (Cond.methodLink "NowhereMoney$Ledger" (118 : Nat) ({ cls := "NowhereMoney$Country", name := "isBusiness", desc := "(I)Z" } : Jvm.MethodName)) := am_tb4 35 (by decide +kernel) rfl
theorem am_w874 : am_W (Cond.methodLink "NowhereMoney$Ledger" (121 : Nat) ({ cls := "NowhereMoney$Ledger", name := "comeBack", desc := "()V" } : Jvm.MethodName)) := am_tb4 36 (by decide +kernel) rfl
theorem am_w875 : am_W (Cond.methodLink "NowhereMoney$Ledger" (124 : Nat) ({ cls := "NowhereMoney$Ledger", name := "listAsked", desc := "(II)I" } : Jvm.MethodName)) := am_tb4 40 (by decide +kernel) rfl
theorem am_w876 : am_W (Cond.methodLink "NowhereMoney$Ledger" (127 : Nat) ({ cls := "NowhereMoney$Ledger", name := "askFor", desc := "(I)Z" } : Jvm.MethodName)) := am_tb4 48 (by decide +kernel) rfl
theorem am_w877 : am_W (Cond.methodLink "NowhereMoney$Ledger" (130 : Nat) ({ cls := "NowhereMoney$Country", name := "hasSnow", desc := "(I)Z" } : Jvm.MethodName)) := am_tb4 26 (by decide +kernel) rfl
theorem am_w878 : am_W (Cond.methodLink "NowhereMoney$Ledger" (133 : Nat) ({ cls := "NowhereMoney$Ledger", name := "isInFlight", desc := "(I)Z" } : Jvm.MethodName)) := am_tb4 31 (by decide +kernel) rfl
theorem am_w879 : am_W (Cond.methodLink "NowhereMoney$Ledger" (136 : Nat) ({ cls := "NowhereMoney$Ledger", name := "isAhead", desc := "(III)Z" } : Jvm.MethodName)) := am_tb4 44 (by decide +kernel) rfl
theorem am_w880 : am_W (Cond.methodLink "NowhereMoney$Ledger" (139 : Nat) ({ cls := "NowhereMoney$Ledger", name := "usable", desc := "(II)I" } : Jvm.MethodName)) := am_tb4 52 (by decide +kernel) rfl
theorem am_w881 : am_W (Cond.methodLink "NowhereMoney$Ledger" (142 : Nat) ({ cls := "NowhereMoney$Ledger", name := "lossOf", desc := "(I)I" } : Jvm.MethodName)) := am_tb5 34 (by decide +kernel) rfl
theorem am_w882 : am_W (Cond.methodLink "NowhereMoney$Reader" (3 : Nat) ({ cls := "java/lang/Object", name := "<init>", desc := "()V" } : Jvm.MethodName)) := am_tb1 51 (by decide +kernel) rfl
theorem am_w883 : am_W (Cond.classLink "NowhereMoney$Reader" (9 : Nat) "NowhereMoney$Script") := am_tb1 52 (by decide +kernel) rfl
theorem am_w884 : am_W (Cond.fieldLink "NowhereMoney$Reader" (12 : Nat) "NowhereMoney$Reader" "draft" "LNowhereMoney$Script;") := am_tb1 84 (by decide +kernel) rfl
theorem am_w885 : am_W (Cond.fieldLink "NowhereMoney$Reader" (18 : Nat) "NowhereMoney$Reader" "kinds" "[I") := am_tb1 86 (by decide +kernel) rfl
theorem am_w886 : am_W (Cond.fieldLink "NowhereMoney$Reader" (22 : Nat) "NowhereMoney$Reader" "places" "[I") := am_tb1 87 (by decide +kernel) rfl
theorem am_w887 : am_W (Cond.fieldLink "NowhereMoney$Reader" (25 : Nat) "NowhereMoney$Reader" "numbers" "[I") := am_tb1 88 (by decide +kernel) rfl
theorem am_w888 : am_W (Cond.fieldLink "NowhereMoney$Reader" (28 : Nat) "NowhereMoney$Reader" "ofSigns" "Z") := am_tb1 91 (by decide +kernel) rfl
theorem am_w889 : am_W (Cond.methodLink "NowhereMoney$Reader" (32 : Nat) ({ cls := "NowhereMoney$Reader", name := "scan", desc := "(LNowhereMoney$Tape;)V" } : Jvm.MethodName)) := am_tb2 181 (by decide +kernel) rfl
theorem am_w890 : am_W (Cond.fieldLink "NowhereMoney$Reader" (36 : Nat) "NowhereMoney$Reader" "at" "I") := am_tb1 90 (by decide +kernel) rfl
theorem am_w891 : am_W (Cond.methodLink "NowhereMoney$Reader" (40 : Nat) ({ cls := "NowhereMoney$Script", name := "clear", desc := "()V" } : Jvm.MethodName)) := am_tb3 100 (by decide +kernel) rfl
theorem am_w892 : am_W (Cond.methodLink "NowhereMoney$Reader" (43 : Nat) ({ cls := "NowhereMoney$Reader", name := "kind", desc := "()I" } : Jvm.MethodName)) := am_tb3 104 (by decide +kernel) rfl
theorem am_w893 : am_W (Cond.methodLink "NowhereMoney$Reader" (47 : Nat) ({ cls := "NowhereMoney$Reader", name := "isLineWord", desc := "(I)Z" } : Jvm.MethodName)) := am_tb3 108 (by decide +kernel) rfl
theorem am_w894 : am_W (Cond.methodLink "NowhereMoney$Reader" (51 : Nat) ({ cls := "NowhereMoney$Reader", name := "fails", desc := "(I)Z" } : Jvm.MethodName)) := am_tb3 112 (by decide +kernel) rfl
theorem am_w895 : am_W (Cond.methodLink "NowhereMoney$Reader" (54 : Nat) ({ cls := "NowhereMoney$Script", name := "openLine", desc := "(I)V" } : Jvm.MethodName)) := am_tb3 116 (by decide +kernel) rfl
theorem am_w896 : am_W (Cond.methodLink "NowhereMoney$Reader" (58 : Nat) ({ cls := "NowhereMoney$Reader", name := "sum", desc := "()Z" } : Jvm.MethodName)) := am_tb3 120 (by decide +kernel) rfl
theorem am_w897 : am_W (Cond.methodLink "NowhereMoney$Reader" (62 : Nat) ({ cls := "NowhereMoney$Script", name := "openCondition", desc := "()V" } : Jvm.MethodName)) := am_tb3 132 (by decide +kernel) rfl
theorem am_w898 : am_W (Cond.methodLink "NowhereMoney$Reader" (65 : Nat) ({ cls := "NowhereMoney$Reader", name := "either", desc := "(I)Z" } : Jvm.MethodName)) := am_tb3 136 (by decide +kernel) rfl
theorem am_w899 : am_W (Cond.methodLink "NowhereMoney$Reader" (68 : Nat) ({ cls := "NowhereMoney$Script", name := "closeLine", desc := "()V" } : Jvm.MethodName)) := am_tb3 148 (by decide +kernel) rfl
theorem am_w900 : am_W (Cond.fieldLink "NowhereMoney$Reader" (71 : Nat) "NowhereMoney$Reader" "tokens" "I") := am_tb1 89 (by decide +kernel) rfl
theorem am_w901 : am_W (Cond.fieldLink "NowhereMoney$Reader" (74 : Nat) "NowhereMoney$Reader" "fault" "I") := am_tb1 92 (by decide +kernel) rfl
theorem am_w902 : am_W (Cond.fieldLink "NowhereMoney$Reader" (77 : Nat) "NowhereMoney$Reader" "faultPlace" "I") := am_tb1 94 (by decide +kernel) rfl
theorem am_w903 : am_W (Cond.methodLink "NowhereMoney$Reader" (80 : Nat) ({ cls := "NowhereMoney$Reader", name := "both", desc := "(I)Z" } : Jvm.MethodName)) := am_tb3 140 (by decide +kernel) rfl
theorem am_w904 : am_W (Cond.methodLink "NowhereMoney$Reader" (83 : Nat) ({ cls := "NowhereMoney$Script", name := "add", desc := "(I)V" } : Jvm.MethodName)) := am_tb3 128 (by decide +kernel) rfl
theorem am_w905 : am_W (Cond.methodLink "NowhereMoney$Reader" (86 : Nat) ({ cls := "NowhereMoney$Reader", name := "single", desc := "(I)Z" } : Jvm.MethodName)) := am_tb3 144 (by decide +kernel) rfl
theorem am_w906 : am_W (Cond.methodLink "NowhereMoney$Reader" (89 : Nat) ({ cls := "NowhereMoney$Reader", name := "product", desc := "()Z" } : Jvm.MethodName)) := am_tb3 124 (by decide +kernel) rfl
theorem am_w907 : am_W (Cond.fieldLink "NowhereMoney$Reader" (92 : Nat) "NowhereMoney$Tape" "length" "I") := am_tb1 39 (by decide +kernel) rfl
theorem am_w908 : am_W (Cond.fieldLink "NowhereMoney$Reader" (97 : Nat) "NowhereMoney$Tape" "bytes" "[I") := am_tb1 36 (by decide +kernel) rfl
theorem am_w909 : am_W (Cond.methodLink "NowhereMoney$Reader" (100 : Nat) ({ cls := "NowhereMoney$Reader", name := "isLetter", desc := "(I)Z" } : Jvm.MethodName)) := am_tb2 185 (by decide +kernel) rfl
theorem am_w910 : am_W (Cond.methodLink "NowhereMoney$Reader" (103 : Nat) ({ cls := "NowhereMoney$Reader", name := "addWord", desc := "(LNowhereMoney$Tape;II)V" } : Jvm.MethodName)) := am_tb2 188 (by decide +kernel) rfl
theorem am_w911 : am_W (Cond.methodLink "NowhereMoney$Reader" (107 : Nat) ({ cls := "NowhereMoney$Reader", name := "isDigit", desc := "(I)Z" } : Jvm.MethodName)) := am_tb3 33 (by decide +kernel) rfl
theorem am_w912 : am_W (Cond.methodLink "NowhereMoney$Reader" (110 : Nat) ({ cls := "NowhereMoney$Reader", name := "addNumber", desc := "(LNowhereMoney$Tape;II)V" } : Jvm.MethodName)) := am_tb3 36 (by decide +kernel) rfl
theorem am_w913 : am_W (Cond.methodLink "NowhereMoney$Reader" (115 : Nat) ({ cls := "java/lang/String", name := "indexOf", desc := "(I)I" } : Jvm.MethodName)) := am_tb3 41 (by decide +kernel) rfl
theorem am_w914 : am_W (Cond.methodLink "NowhereMoney$Reader" (121 : Nat) ({ cls := "NowhereMoney$Reader", name := "addToken", desc := "(III)V" } : Jvm.MethodName)) := am_tb3 29 (by decide +kernel) rfl
theorem am_w915 : am_W (Cond.methodLink "NowhereMoney$Reader" (125 : Nat) ({ cls := "NowhereMoney$Reader", name := "signWord", desc := "(I)Ljava/lang/String;" } : Jvm.MethodName)) := am_tb2 192 (by decide +kernel) rfl
theorem am_w916 : am_W (Cond.methodLink "NowhereMoney$Reader" (129 : Nat) ({ cls := "NowhereMoney$Reader", name := "lawWord", desc := "(I)Ljava/lang/String;" } : Jvm.MethodName)) := am_tb2 208 (by decide +kernel) rfl
theorem am_w917 : am_W (Cond.methodLink "NowhereMoney$Reader" (132 : Nat) ({ cls := "NowhereMoney$Reader", name := "isWord", desc := "(LNowhereMoney$Tape;IILjava/lang/String;)Z" } : Jvm.MethodName)) := am_tb2 218 (by decide +kernel) rfl
theorem am_w918 : am_W (Cond.methodLink "NowhereMoney$Reader" (136 : Nat) ({ cls := "java/lang/String", name := "length", desc := "()I" } : Jvm.MethodName)) := am_tb2 221 (by decide +kernel) rfl
theorem am_w919 : am_W (Cond.methodLink "NowhereMoney$Reader" (138 : Nat) ({ cls := "java/lang/String", name := "charAt", desc := "(I)C" } : Jvm.MethodName)) := am_tb2 231 (by decide +kernel) rfl
theorem am_w920 : am_W (Cond.methodLink "NowhereMoney$Rings" (3 : Nat) ({ cls := "java/lang/Object", name := "<init>", desc := "()V" } : Jvm.MethodName)) := am_tb2 48 (by decide +kernel) rfl
theorem am_w921 : am_W (Cond.fieldLink "NowhereMoney$Rings" (9 : Nat) "NowhereMoney$Rings" "heldUp" "[I") := am_tb2 49 (by decide +kernel) rfl
theorem am_w922 : am_W (Cond.fieldLink "NowhereMoney$Rings" (15 : Nat) "NowhereMoney$Rings" "order" "[I") := am_tb2 51 (by decide +kernel) rfl
theorem am_w923 : am_W (Cond.fieldLink "NowhereMoney$Rings" (18 : Nat) "NowhereMoney$Rings" "most" "I") := am_tb2 52 (by decide +kernel) rfl
theorem am_w924 : am_W (Cond.fieldLink "NowhereMoney$Rings" (22 : Nat) "NowhereMoney$Rings" "mostRing" "I") := am_tb2 54 (by decide +kernel) rfl
theorem am_w925 : am_W (Cond.methodLink "NowhereMoney$Rings" (25 : Nat) ({ cls := "NowhereMoney$Rings", name := "unfold", desc := "(II)Z" } : Jvm.MethodName)) := am_tb4 177 (by decide +kernel) rfl
theorem am_w926 : am_W (Cond.methodLink "NowhereMoney$Rings" (29 : Nat) ({ cls := "java/lang/Integer", name := "bitCount", desc := "(I)I" } : Jvm.MethodName)) := am_tb4 181 (by decide +kernel) rfl
theorem am_w927 : am_W (Cond.methodLink "NowhereMoney$Script" (3 : Nat) ({ cls := "java/lang/Object", name := "<init>", desc := "()V" } : Jvm.MethodName)) := am_tb1 57 (by decide +kernel) rfl
theorem am_w928 : am_W (Cond.fieldLink "NowhereMoney$Script" (9 : Nat) "NowhereMoney$Script" "codes" "[I") := am_tb1 58 (by decide +kernel) rfl
theorem am_w929 : am_W (Cond.fieldLink "NowhereMoney$Script" (15 : Nat) "NowhereMoney$Script" "words" "[I") := am_tb1 59 (by decide +kernel) rfl
theorem am_w930 : am_W (Cond.fieldLink "NowhereMoney$Script" (18 : Nat) "NowhereMoney$Script" "starts" "[I") := am_tb1 60 (by decide +kernel) rfl
theorem am_w931 : am_W (Cond.fieldLink "NowhereMoney$Script" (21 : Nat) "NowhereMoney$Script" "conditions" "[I") := am_tb1 61 (by decide +kernel) rfl
theorem am_w932 : am_W (Cond.fieldLink "NowhereMoney$Script" (24 : Nat) "NowhereMoney$Script" "stops" "[I") := am_tb1 62 (by decide +kernel) rfl
theorem am_w933 : am_W (Cond.fieldLink "NowhereMoney$Script" (27 : Nat) "NowhereMoney$Script" "stack" "[I") := am_tb1 63 (by decide +kernel) rfl
theorem am_w934 : am_W (Cond.fieldLink "NowhereMoney$Script" (30 : Nat) "NowhereMoney$Script" "lines" "I") := am_tb1 64 (by decide +kernel) rfl
theorem am_w935 : am_W (Cond.fieldLink "NowhereMoney$Script" (34 : Nat) "NowhereMoney$Script" "length" "I") := am_tb1 66 (by decide +kernel) rfl
theorem am_w936 : am_W (Cond.methodLink "NowhereMoney$Script" (37 : Nat) ({ cls := "java/lang/System", name := "arraycopy", desc := "(Ljava/lang/Object;ILjava/lang/Object;II)V" } : Jvm.MethodName)) := am_tb3 156 (by decide +kernel) rfl
theorem am_w937 : am_W (Cond.methodLink "NowhereMoney$Script" (43 : Nat) ({ cls := "NowhereMoney$Script", name := "isSo", desc := "(I[I)Z" } : Jvm.MethodName)) := am_tb3 210 (by decide +kernel) rfl
theorem am_w938 : am_W (Cond.methodLink "NowhereMoney$Script" (47 : Nat) ({ cls := "NowhereMoney$Script", name := "run", desc := "(II[I)I" } : Jvm.MethodName)) := am_tb3 214 (by decide +kernel) rfl
theorem am_w939 : am_W (Cond.methodLink "NowhereMoney$Tape" (3 : Nat) ({ cls := "java/lang/Object", name := "<init>", desc := "()V" } : Jvm.MethodName)) := am_tb1 34 (by decide +kernel) rfl
theorem am_w940 : am_W (Cond.fieldLink "NowhereMoney$Tape" (9 : Nat) "NowhereMoney$Tape" "bytes" "[I") := am_tb1 35 (by decide +kernel) rfl
theorem am_w941 : am_W (Cond.fieldLink "NowhereMoney$Tape" (15 : Nat) "NowhereMoney$Tape" "length" "I") := am_tb1 37 (by decide +kernel) rfl
theorem am_w942 : am_W (Cond.methodLink "NowhereMoney$Watch" (3 : Nat) ({ cls := "java/lang/Object", name := "<init>", desc := "()V" } : Jvm.MethodName)) := am_tb2 34 (by decide +kernel) rfl
theorem am_w943 : am_W (Cond.fieldLink "NowhereMoney$Watch" (9 : Nat) "NowhereMoney$Watch" "facts" "[I") := am_tb2 36 (by decide +kernel) rfl
theorem am_w944 : am_W (Cond.fieldLink "NowhereMoney$Watch" (15 : Nat) "NowhereMoney$Watch" "world" "LNowhereMoney$World;") := am_tb2 35 (by decide +kernel) rfl
theorem am_w945 : am_W (Cond.methodLink "NowhereMoney$Watch" (19 : Nat) ({ cls := "NowhereMoney$Watch", name := "gather", desc := "(II)V" } : Jvm.MethodName)) := am_tb4 74 (by decide +kernel) rfl
theorem am_w946 : am_W (Cond.fieldLink "NowhereMoney$Watch" (23 : Nat) "NowhereMoney$World" "country" "LNowhereMoney$Country;") := am_tb1 224 (by decide +kernel) rfl
theorem am_w947 : am_W (Cond.fieldLink "NowhereMoney$Watch" (29 : Nat) "NowhereMoney$Country" "scripts" "[LNowhereMoney$Script;") := am_tb1 141 (by decide +kernel) rfl
theorem am_w948 : am_W (Cond.methodLink "NowhereMoney$Watch" (35 : Nat) ({ cls := "NowhereMoney$Script", name := "anyIsSo", desc := "([I)Z" } : Jvm.MethodName)) := am_tb4 101 (by decide +kernel) rfl
theorem am_w949 : am_W (Cond.methodLink "NowhereMoney$Watch" (41 : Nat) ({ cls := "NowhereMoney$Watch", name := "criesFor", desc := "(II)Z" } : Jvm.MethodName)) := am_tb4 70 (by decide +kernel) rfl
theorem am_w950 : am_W (Cond.fieldLink "NowhereMoney$Watch" (45 : Nat) "NowhereMoney$World" "firstCries" "[I") := am_tb1 235 (by decide +kernel) rfl
theorem am_w951 : am_W (Cond.fieldLink "NowhereMoney$Watch" (48 : Nat) "NowhereMoney$World" "ledger" "LNowhereMoney$Ledger;") := am_tb1 231 (by decide +kernel) rfl
theorem am_w952 : am_W (Cond.fieldLink "NowhereMoney$Watch" (52 : Nat) "NowhereMoney$Ledger" "now" "I") := am_tb1 197 (by decide +kernel) rfl
theorem am_w953 : am_W (Cond.fieldLink "NowhereMoney$Watch" (58 : Nat) "NowhereMoney$Ledger" "count" "I") := am_tb1 200 (by decide +kernel) rfl
theorem am_w954 : am_W (Cond.methodLink "NowhereMoney$Watch" (61 : Nat) ({ cls := "NowhereMoney$Watch", name := "isAmong", desc := "(III)Z" } : Jvm.MethodName)) := am_tb4 78 (by decide +kernel) rfl
theorem am_w955 : am_W (Cond.methodLink "NowhereMoney$Watch" (65 : Nat) ({ cls := "NowhereMoney$Ledger", name := "part", desc := "(II)I" } : Jvm.MethodName)) := am_tb4 82 (by decide +kernel) rfl
theorem am_w956 : am_W (Cond.methodLink "NowhereMoney$Watch" (69 : Nat) ({ cls := "NowhereMoney$Watch", name := "hasMatch", desc := "(III)Z" } : Jvm.MethodName)) := am_tb4 84 (by decide +kernel) rfl
theorem am_w957 : am_W (Cond.methodLink "NowhereMoney$Watch" (72 : Nat) ({ cls := "NowhereMoney$Country", name := "areFar", desc := "(II)Z" } : Jvm.MethodName)) := am_tb4 91 (by decide +kernel) rfl
theorem am_w958 : am_W (Cond.fieldLink "NowhereMoney$Watch" (75 : Nat) "NowhereMoney$Ledger" "books" "[I") := am_tb1 186 (by decide +kernel) rfl
theorem am_w959 : am_W (Cond.methodLink "NowhereMoney$Watch" (78 : Nat) ({ cls := "NowhereMoney$Watch", name := "lowOf", desc := "(III)I" } : Jvm.MethodName)) := am_tb4 92 (by decide +kernel) rfl
theorem am_w960 : am_W (Cond.methodLink "NowhereMoney$Watch" (82 : Nat) ({ cls := "NowhereMoney$Ledger", name := "isOfLastWeek", desc := "(I)Z" } : Jvm.MethodName)) := am_tb4 83 (by decide +kernel) rfl
theorem am_w961 : am_W (Cond.methodLink "NowhereMoney$Watch" (86 : Nat) ({ cls := "java/lang/Math", name := "abs", desc := "(I)I" } : Jvm.MethodName)) := am_tb4 88 (by decide +kernel) rfl
theorem am_w962 : am_W (Cond.static ({ cls := "java/lang/Math", name := "abs", desc := "(I)I" } : Jvm.MethodName)) := am_tb4 89 (by decide +kernel) rfl
theorem am_w963 : am_W (Cond.code ({ cls := "java/lang/Math", name := "abs", desc := "(I)I" } : Jvm.MethodName) prog_16_method_59_code (1 : Nat) (Option.some Jvm.ClassFile.FieldType.int)) := am_tb4 90 (by decide +kernel) rfl
theorem am_w964 : am_W (Cond.methodLink "NowhereMoney$Watch" (92 : Nat) ({ cls := "java/lang/Math", name := "max", desc := "(II)I" } : Jvm.MethodName)) := am_tb4 96 (by decide +kernel) rfl
theorem am_w965 : am_W (Cond.methodLink "NowhereMoney$Watch" (95 : Nat) ({ cls := "NowhereMoney$World", name := "keptAt", desc := "(III)I" } : Jvm.MethodName)) := am_tb4 97 (by decide +kernel) rfl
theorem am_w966 : am_W (Cond.methodLink "NowhereMoney$Ways" (3 : Nat) ({ cls := "java/lang/Object", name := "<init>", desc := "()V" } : Jvm.MethodName)) := am_tb2 70 (by decide +kernel) rfl
theorem am_w967 : am_W (Cond.fieldLink "NowhereMoney$Ways" (9 : Nat) "NowhereMoney$Ways" "spent" "[I") := am_tb2 71 (by decide +kernel) rfl
theorem am_w968 : am_W (Cond.fieldLink "NowhereMoney$Ways" (15 : Nat) "NowhereMoney$Ways" "usable" "[I") := am_tb2 72 (by decide +kernel) rfl
theorem am_w969 : am_W (Cond.fieldLink "NowhereMoney$Ways" (18 : Nat) "NowhereMoney$World" "ledger" "LNowhereMoney$Ledger;") := am_tb1 229 (by decide +kernel) rfl
theorem am_w970 : am_W (Cond.methodLink "NowhereMoney$Ways" (24 : Nat) ({ cls := "NowhereMoney$Ledger", name := "usable", desc := "(II)I" } : Jvm.MethodName)) := am_tb5 57 (by decide +kernel) rfl
theorem am_w971 : am_W (Cond.fieldLink "NowhereMoney$Ways" (29 : Nat) "NowhereMoney$World" "payments" "I") := am_tb2 3 (by decide +kernel) rfl
theorem am_w972 : am_W (Cond.methodLink "NowhereMoney$Ways" (33 : Nat) ({ cls := "NowhereMoney$Ways", name := "isWay", desc := "(LNowhereMoney$World;I)Z" } : Jvm.MethodName)) := am_tb5 58 (by decide +kernel) rfl
theorem am_w973 : am_W (Cond.methodLink "NowhereMoney$Ways" (37 : Nat) ({ cls := "NowhereMoney$Ways", name := "floatOf", desc := "(LNowhereMoney$World;I)I" } : Jvm.MethodName)) := am_tb5 66 (by decide +kernel) rfl
theorem am_w974 : am_W (Cond.fieldLink "NowhereMoney$Ways" (41 : Nat) "NowhereMoney$Ways" "most" "I") := am_tb2 73 (by decide +kernel) rfl
theorem am_w975 : am_W (Cond.fieldLink "NowhereMoney$Ways" (44 : Nat) "NowhereMoney$Ways" "mostWay" "I") := am_tb2 77 (by decide +kernel) rfl
theorem am_w976 : am_W (Cond.fieldLink "NowhereMoney$Ways" (47 : Nat) "NowhereMoney$Ways" "least" "I") := am_tb2 75 (by decide +kernel) rfl
theorem am_w977 : am_W (Cond.fieldLink "NowhereMoney$Ways" (50 : Nat) "NowhereMoney$Ways" "leastWay" "I") := am_tb2 79 (by decide +kernel) rfl
theorem am_w978 : am_W (Cond.methodLink "NowhereMoney$Ways" (53 : Nat) ({ cls := "NowhereMoney$Ways", name := "bankOf", desc := "(III)I" } : Jvm.MethodName)) := am_tb5 62 (by decide +kernel) rfl
theorem am_w979 : am_W (Cond.fieldLink "NowhereMoney$Ways" (57 : Nat) "NowhereMoney$World" "payAmounts" "[I") := am_tb1 238 (by decide +kernel) rfl
theorem am_w980 : am_W (Cond.fieldLink "NowhereMoney$Ways" (60 : Nat) "NowhereMoney$World" "country" "LNowhereMoney$Country;") := am_tb1 225 (by decide +kernel) rfl
theorem am_w981 : am_W (Cond.fieldLink "NowhereMoney$Ways" (64 : Nat) "NowhereMoney$Country" "towns" "[I") := am_tb1 132 (by decide +kernel) rfl
theorem am_w982 : am_W (Cond.fieldLink "NowhereMoney$Ways" (69 : Nat) "NowhereMoney$Country" "rails" "[I") := am_tb1 135 (by decide +kernel) rfl
theorem am_w983 : am_W (Cond.fieldLink "NowhereMoney$Ways" (72 : Nat) "NowhereMoney$World" "payTowns" "[I") := am_tb2 1 (by decide +kernel) rfl
theorem am_w984 : am_W (Cond.methodLink "NowhereMoney$World" (3 : Nat) ({ cls := "java/lang/Object", name := "<init>", desc := "()V" } : Jvm.MethodName)) := am_tb1 120 (by decide +kernel) rfl
theorem am_w985 : am_W (Cond.classLink "NowhereMoney$World" (9 : Nat) "NowhereMoney$Country") := am_tb1 121 (by decide +kernel) rfl
theorem am_w986 : am_W (Cond.instantiable "NowhereMoney$Country" (6 : Nat)) := am_tb1 122 (by decide +kernel) rfl
theorem am_w987 : am_W (Cond.methodLink "NowhereMoney$World" (11 : Nat) ({ cls := "NowhereMoney$Country", name := "<init>", desc := "()V" } : Jvm.MethodName)) := am_tb1 123 (by decide +kernel) rfl
theorem am_w988 : am_W (Cond.fieldLink "NowhereMoney$World" (12 : Nat) "NowhereMoney$World" "country" "LNowhereMoney$Country;") := am_tb1 222 (by decide +kernel) rfl
theorem am_w989 : am_W (Cond.classLink "NowhereMoney$World" (18 : Nat) "NowhereMoney$Entries") := am_tb1 159 (by decide +kernel) rfl
theorem am_w990 : am_W (Cond.instantiable "NowhereMoney$Entries" (2 : Nat)) := am_tb1 160 (by decide +kernel) rfl
theorem am_w991 : am_W (Cond.fieldLink "NowhereMoney$World" (21 : Nat) "NowhereMoney$World" "entries" "LNowhereMoney$Entries;") := am_tb1 226 (by decide +kernel) rfl
theorem am_w992 : am_W (Cond.classLink "NowhereMoney$World" (25 : Nat) "NowhereMoney$Ledger") := am_tb1 174 (by decide +kernel) rfl
theorem am_w993 : am_W (Cond.instantiable "NowhereMoney$Ledger" (10 : Nat)) := am_tb1 175 (by decide +kernel) rfl
theorem am_w994 : am_W (Cond.methodLink "NowhereMoney$World" (27 : Nat) ({ cls := "NowhereMoney$Ledger", name := "<init>", desc := "(LNowhereMoney$Country;LNowhereMoney$Entries;)V" } : Jvm.MethodName)) := am_tb1 176 (by decide +kernel) rfl
theorem am_w995 : am_W (Cond.fieldLink "NowhereMoney$World" (30 : Nat) "NowhereMoney$World" "ledger" "LNowhereMoney$Ledger;") := am_tb1 228 (by decide +kernel) rfl
theorem am_w996 : am_W (Cond.fieldLink "NowhereMoney$World" (34 : Nat) "NowhereMoney$World" "kept" "[I") := am_tb1 232 (by decide +kernel) rfl
theorem am_w997 : am_W (Cond.fieldLink "NowhereMoney$World" (38 : Nat) "NowhereMoney$World" "firstCries" "[I") := am_tb1 234 (by decide +kernel) rfl
theorem am_w998 : am_W (Cond.fieldLink "NowhereMoney$World" (41 : Nat) "NowhereMoney$World" "payAmounts" "[I") := am_tb1 237 (by decide +kernel) rfl
theorem am_w999 : am_W (Cond.fieldLink "NowhereMoney$World" (44 : Nat) "NowhereMoney$World" "payTowns" "[I") := am_tb2 0 (by decide +kernel) rfl
theorem am_w1000 : am_W (Cond.methodLink "NowhereMoney$World" (47 : Nat) ({ cls := "NowhereMoney$Country", name := "copyFrom", desc := "(LNowhereMoney$Country;)V" } : Jvm.MethodName)) := am_tb5 108 (by decide +kernel) rfl
theorem am_w1001 : am_W (Cond.methodLink "NowhereMoney$World" (51 : Nat) ({ cls := "NowhereMoney$Entries", name := "copyFrom", desc := "(LNowhereMoney$Entries;)V" } : Jvm.MethodName)) := am_tb5 114 (by decide +kernel) rfl
theorem am_w1002 : am_W (Cond.methodLink "NowhereMoney$World" (54 : Nat) ({ cls := "NowhereMoney$Ledger", name := "copyFrom", desc := "(LNowhereMoney$Ledger;)V" } : Jvm.MethodName)) := am_tb5 119 (by decide +kernel) rfl
theorem am_w1003 : am_W (Cond.methodLink "NowhereMoney$World" (57 : Nat) ({ cls := "java/lang/System", name := "arraycopy", desc := "(Ljava/lang/Object;ILjava/lang/Object;II)V" } : Jvm.MethodName)) := am_tb5 120 (by decide +kernel) rfl
theorem am_w1004 : am_W (Cond.fieldLink "NowhereMoney$World" (63 : Nat) "NowhereMoney$World" "payments" "I") := am_tb2 4 (by decide +kernel) rfl
theorem am_w1005 : am_W (Cond.fieldLink "NowhereMoney$World" (67 : Nat) "NowhereMoney$World" "kiters" "I") := am_tb2 6 (by decide +kernel) rfl
theorem am_w1006 : am_W (Cond.fieldLink "NowhereMoney$World" (70 : Nat) "NowhereMoney$Ledger" "now" "I") := am_tb1 195 (by decide +kernel) rfl
theorem am_w1007 : am_W (Cond.methodLink "NowhereMoney$World" (77 : Nat) ({ cls := "NowhereMoney$Ledger", name := "booksOf", desc := "(I)I" } : Jvm.MethodName)) := am_tb4 58 (by decide +kernel) rfl
theorem am_w1008 : am_W (Cond.methodLink "NowhereMoney$World" (81 : Nat) ({ cls := "NowhereMoney$Ledger", name := "waterOf", desc := "(I)I" } : Jvm.MethodName)) := am_tb4 62 (by decide +kernel) rfl
theorem am_w1009 : am_W (Cond.fieldLink "NowhereMoney$World" (84 : Nat) "NowhereMoney$Ledger" "books" "[I") := am_tb1 185 (by decide +kernel) rfl
theorem am_w1010 : am_W (Cond.methodLink "NowhereMoney" (3 : Nat) ({ cls := "java/lang/Object", name := "<init>", desc := "()V" } : Jvm.MethodName)) := am_tb1 26 (by decide +kernel) rfl
theorem am_w1011 : am_W (Cond.classLink "NowhereMoney" (9 : Nat) "NowhereMoney$Tape") := am_tb1 29 (by decide +kernel) rfl
theorem am_w1012 : am_W (Cond.instantiable "NowhereMoney$Tape" (2 : Nat)) := am_tb1 30 (by decide +kernel) rfl
theorem am_w1013 : am_W (Cond.fieldLink "NowhereMoney" (12 : Nat) "NowhereMoney" "tape" "LNowhereMoney$Tape;") := am_tb2 94 (by decide +kernel) rfl
theorem am_w1014 : am_W (Cond.classLink "NowhereMoney" (16 : Nat) "NowhereMoney$Reader") := am_tb1 46 (by decide +kernel) rfl
theorem am_w1015 : am_W (Cond.instantiable "NowhereMoney$Reader" (9 : Nat)) := am_tb1 47 (by decide +kernel) rfl
theorem am_w1016 : am_W (Cond.fieldLink "NowhereMoney" (19 : Nat) "NowhereMoney" "reader" "LNowhereMoney$Reader;") := am_tb2 95 (by decide +kernel) rfl
theorem am_w1017 : am_W (Cond.classLink "NowhereMoney" (23 : Nat) "NowhereMoney$World") := am_tb1 115 (by decide +kernel) rfl
theorem am_w1018 : am_W (Cond.instantiable "NowhereMoney$World" (9 : Nat)) := am_tb1 116 (by decide +kernel) rfl
theorem am_w1019 : am_W (Cond.methodLink "NowhereMoney" (25 : Nat) ({ cls := "NowhereMoney$World", name := "<init>", desc := "()V" } : Jvm.MethodName)) := am_tb1 117 (by decide +kernel) rfl
theorem am_w1020 : am_W (Cond.fieldLink "NowhereMoney" (26 : Nat) "NowhereMoney" "world" "LNowhereMoney$World;") := am_tb2 96 (by decide +kernel) rfl
theorem am_w1021 : am_W (Cond.fieldLink "NowhereMoney" (30 : Nat) "NowhereMoney" "picture" "LNowhereMoney$World;") := am_tb2 97 (by decide +kernel) rfl
theorem am_w1022 : am_W (Cond.classLink "NowhereMoney" (33 : Nat) "NowhereMoney$Ledger") := am_tb2 27 (by decide +kernel) rfl
theorem am_w1023 : am_W (Cond.fieldLink "NowhereMoney" (35 : Nat) "NowhereMoney$World" "country" "LNowhereMoney$Country;") := am_tb1 223 (by decide +kernel) rfl
theorem am_w1024 : am_W (Cond.methodLink "NowhereMoney" (39 : Nat) ({ cls := "NowhereMoney$Ledger", name := "<init>", desc := "(LNowhereMoney$Country;LNowhereMoney$Entries;)V" } : Jvm.MethodName)) := am_tb2 28 (by decide +kernel) rfl
theorem am_w1025 : am_W (Cond.fieldLink "NowhereMoney" (42 : Nat) "NowhereMoney" "thought" "LNowhereMoney$Ledger;") := am_tb2 98 (by decide +kernel) rfl
theorem am_w1026 : am_W (Cond.classLink "NowhereMoney" (46 : Nat) "NowhereMoney$Watch") := am_tb2 29 (by decide +kernel) rfl
theorem am_w1027 : am_W (Cond.instantiable "NowhereMoney$Watch" (2 : Nat)) := am_tb2 30 (by decide +kernel) rfl
theorem am_w1028 : am_W (Cond.methodLink "NowhereMoney" (48 : Nat) ({ cls := "NowhereMoney$Watch", name := "<init>", desc := "(LNowhereMoney$World;)V" } : Jvm.MethodName)) := am_tb2 31 (by decide +kernel) rfl
theorem am_w1029 : am_W (Cond.fieldLink "NowhereMoney" (51 : Nat) "NowhereMoney" "watch" "LNowhereMoney$Watch;") := am_tb2 99 (by decide +kernel) rfl
theorem am_w1030 : am_W (Cond.classLink "NowhereMoney" (55 : Nat) "NowhereMoney$Rings") := am_tb2 43 (by decide +kernel) rfl
theorem am_w1031 : am_W (Cond.instantiable "NowhereMoney$Rings" (4 : Nat)) := am_tb2 44 (by decide +kernel) rfl
theorem am_w1032 : am_W (Cond.fieldLink "NowhereMoney" (58 : Nat) "NowhereMoney" "rings" "LNowhereMoney$Rings;") := am_tb2 100 (by decide +kernel) rfl
theorem am_w1033 : am_W (Cond.classLink "NowhereMoney" (62 : Nat) "NowhereMoney$Ways") := am_tb2 65 (by decide +kernel) rfl
theorem am_w1034 : am_W (Cond.instantiable "NowhereMoney$Ways" (6 : Nat)) := am_tb2 66 (by decide +kernel) rfl
theorem am_w1035 : am_W (Cond.fieldLink "NowhereMoney" (65 : Nat) "NowhereMoney" "ways" "LNowhereMoney$Ways;") := am_tb2 101 (by decide +kernel) rfl
theorem am_w1036 : am_W (Cond.fieldLink "NowhereMoney" (69 : Nat) "NowhereMoney" "nets" "[I") := am_tb2 102 (by decide +kernel) rfl
theorem am_w1037 : am_W (Cond.fieldLink "NowhereMoney" (73 : Nat) "NowhereMoney" "latestPlace" "I") := am_tb2 105 (by decide +kernel) rfl
theorem am_w1038 : am_W (Cond.methodLink "NowhereMoney" (77 : Nat) ({ cls := "NowhereMoney", name := "isBank", desc := "(I)Z" } : Jvm.MethodName)) := am_tb2 144 (by decide +kernel) rfl
theorem am_w1039 : am_W (Cond.methodLink "NowhereMoney" (81 : Nat) ({ cls := "NowhereMoney", name := "isTown", desc := "(I)Z" } : Jvm.MethodName)) := am_tb2 147 (by decide +kernel) rfl
theorem am_w1040 : am_W (Cond.fieldLink "NowhereMoney" (84 : Nat) "NowhereMoney$World" "ledger" "LNowhereMoney$Ledger;") := am_tb1 230 (by decide +kernel) rfl
theorem am_w1041 : am_W (Cond.fieldLink "NowhereMoney" (87 : Nat) "NowhereMoney$Ledger" "count" "I") := am_tb1 199 (by decide +kernel) rfl
theorem am_w1042 : am_W (Cond.fieldLink "NowhereMoney" (90 : Nat) "NowhereMoney$Country" "towns" "[I") := am_tb1 131 (by decide +kernel) rfl
theorem am_w1043 : am_W (Cond.fieldLink "NowhereMoney" (95 : Nat) "NowhereMoney$Country" "rails" "[I") := am_tb1 134 (by decide +kernel) rfl
theorem am_w1044 : am_W (Cond.methodLink "NowhereMoney" (98 : Nat) ({ cls := "NowhereMoney", name := "isDay", desc := "(I)Z" } : Jvm.MethodName)) := am_tb2 158 (by decide +kernel) rfl
theorem am_w1045 : am_W (Cond.fieldLink "NowhereMoney" (101 : Nat) "NowhereMoney$Ledger" "now" "I") := am_tb1 196 (by decide +kernel) rfl
theorem am_w1046 : am_W (Cond.fieldLink "NowhereMoney" (104 : Nat) "NowhereMoney$Country" "closed" "[I") := am_tb1 137 (by decide +kernel) rfl
theorem am_w1047 : am_W (Cond.fieldLink "NowhereMoney" (107 : Nat) "NowhereMoney$Country" "snow" "[I") := am_tb1 139 (by decide +kernel) rfl
theorem am_w1048 : am_W (Cond.fieldLink "NowhereMoney" (110 : Nat) "NowhereMoney$Tape" "length" "I") := am_tb1 38 (by decide +kernel) rfl
theorem am_w1049 : am_W (Cond.methodLink "NowhereMoney" (113 : Nat) ({ cls := "NowhereMoney$Tape", name := "put", desc := "(I)V" } : Jvm.MethodName)) := am_tb2 165 (by decide +kernel) rfl
theorem am_w1050 : am_W (Cond.fieldLink "NowhereMoney" (117 : Nat) "NowhereMoney" "latestFault" "I") := am_tb2 104 (by decide +kernel) rfl
theorem am_w1051 : am_W (Cond.methodLink "NowhereMoney" (120 : Nat) ({ cls := "NowhereMoney$Reader", name := "compile", desc := "(LNowhereMoney$Tape;Z)Z" } : Jvm.MethodName)) := am_tb2 177 (by decide +kernel) rfl
theorem am_w1052 : am_W (Cond.fieldLink "NowhereMoney" (124 : Nat) "NowhereMoney$Reader" "fault" "I") := am_tb1 93 (by decide +kernel) rfl
theorem am_w1053 : am_W (Cond.fieldLink "NowhereMoney" (127 : Nat) "NowhereMoney$Reader" "faultPlace" "I") := am_tb1 95 (by decide +kernel) rfl
theorem am_w1054 : am_W (Cond.fieldLink "NowhereMoney" (130 : Nat) "NowhereMoney$Country" "scripts" "[LNowhereMoney$Script;") := am_tb1 142 (by decide +kernel) rfl
theorem am_w1055 : am_W (Cond.fieldLink "NowhereMoney" (134 : Nat) "NowhereMoney$Reader" "draft" "LNowhereMoney$Script;") := am_tb1 85 (by decide +kernel) rfl
theorem am_w1056 : am_W (Cond.methodLink "NowhereMoney" (138 : Nat) ({ cls := "NowhereMoney$Script", name := "copyFrom", desc := "(LNowhereMoney$Script;)V" } : Jvm.MethodName)) := am_tb3 152 (by decide +kernel) rfl
theorem am_w1057 : am_W (Cond.fieldLink "NowhereMoney" (144 : Nat) "NowhereMoney$Script" "lines" "I") := am_tb1 65 (by decide +kernel) rfl
theorem am_w1058 : am_W (Cond.methodLink "NowhereMoney" (147 : Nat) ({ cls := "NowhereMoney", name := "isHouse", desc := "(I)Z" } : Jvm.MethodName)) := am_tb3 168 (by decide +kernel) rfl
theorem am_w1059 : am_W (Cond.constant "NowhereMoney" (150 : Nat) (999999 : Int32)) := am_tb3 171 (by decide +kernel) rfl
theorem am_w1060 : am_W (Cond.constant "NowhereMoney" (151 : Nat) (-999999 : Int32)) := am_tb3 172 (by decide +kernel) rfl
theorem am_w1061 : am_W (Cond.methodLink "NowhereMoney" (152 : Nat) ({ cls := "NowhereMoney$Country", name := "isBusiness", desc := "(I)Z" } : Jvm.MethodName)) := am_tb3 173 (by decide +kernel) rfl
theorem am_w1062 : am_W (Cond.methodLink "NowhereMoney" (155 : Nat) ({ cls := "NowhereMoney$Ledger", name := "lawValue", desc := "(IIIIII)I" } : Jvm.MethodName)) := am_tb3 177 (by decide +kernel) rfl
theorem am_w1063 : am_W (Cond.methodLink "NowhereMoney" (159 : Nat) ({ cls := "NowhereMoney$Ledger", name := "usable", desc := "(II)I" } : Jvm.MethodName)) := am_tb3 220 (by decide +kernel) rfl
theorem am_w1064 : am_W (Cond.fieldLink "NowhereMoney" (163 : Nat) "NowhereMoney$Ledger" "cash" "[I") := am_tb1 189 (by decide +kernel) rfl
theorem am_w1065 : am_W (Cond.methodLink "NowhereMoney" (166 : Nat) ({ cls := "NowhereMoney$Ledger", name := "change", desc := "(IIIII)V" } : Jvm.MethodName)) := am_tb3 228 (by decide +kernel) rfl
theorem am_w1066 : am_W (Cond.methodLink "NowhereMoney" (170 : Nat) ({ cls := "NowhereMoney", name := "isAmount", desc := "(I)Z" } : Jvm.MethodName)) := am_tb4 0 (by decide +kernel) rfl
theorem am_w1067 : am_W (Cond.methodLink "NowhereMoney" (173 : Nat) ({ cls := "NowhereMoney$Ledger", name := "takeIn", desc := "(IIIII)I" } : Jvm.MethodName)) := am_tb4 4 (by decide +kernel) rfl
theorem am_w1068 : am_W (Cond.methodLink "NowhereMoney" (177 : Nat) ({ cls := "NowhereMoney$Ledger", name := "morning", desc := "(I)I" } : Jvm.MethodName)) := am_tb4 18 (by decide +kernel) rfl
theorem am_w1069 : am_W (Cond.methodLink "NowhereMoney" (181 : Nat) ({ cls := "NowhereMoney$World", name := "keep", desc := "()V" } : Jvm.MethodName)) := am_tb4 53 (by decide +kernel) rfl
theorem am_w1070 : am_W (Cond.methodLink "NowhereMoney" (184 : Nat) ({ cls := "NowhereMoney$Watch", name := "lookAlone", desc := "()V" } : Jvm.MethodName)) := am_tb4 66 (by decide +kernel) rfl
theorem am_w1071 : am_W (Cond.constant "NowhereMoney" (187 : Nat) (-100000000 : Int32)) := am_tb4 109 (by decide +kernel) rfl
theorem am_w1072 : am_W (Cond.fieldLink "NowhereMoney" (188 : Nat) "NowhereMoney$Ledger" "books" "[I") := am_tb1 187 (by decide +kernel) rfl
theorem am_w1073 : am_W (Cond.methodLink "NowhereMoney" (191 : Nat) ({ cls := "NowhereMoney$Ledger", name := "held", desc := "(II)I" } : Jvm.MethodName)) := am_tb4 110 (by decide +kernel) rfl
theorem am_w1074 : am_W (Cond.methodLink "NowhereMoney" (194 : Nat) ({ cls := "NowhereMoney$Ledger", name := "paidInLately", desc := "(II)I" } : Jvm.MethodName)) := am_tb4 111 (by decide +kernel) rfl
theorem am_w1075 : am_W (Cond.methodLink "NowhereMoney" (197 : Nat) ({ cls := "NowhereMoney", name := "isCheque", desc := "(I)Z" } : Jvm.MethodName)) := am_tb4 116 (by decide +kernel) rfl
theorem am_w1076 : am_W (Cond.fieldLink "NowhereMoney" (200 : Nat) "NowhereMoney$Ledger" "rows" "[I") := am_tb1 183 (by decide +kernel) rfl
theorem am_w1077 : am_W (Cond.methodLink "NowhereMoney" (203 : Nat) ({ cls := "NowhereMoney$Ledger", name := "booksOf", desc := "(I)I" } : Jvm.MethodName)) := am_tb4 124 (by decide +kernel) rfl
theorem am_w1078 : am_W (Cond.methodLink "NowhereMoney" (206 : Nat) ({ cls := "NowhereMoney$Ledger", name := "waterOf", desc := "(I)I" } : Jvm.MethodName)) := am_tb4 125 (by decide +kernel) rfl
theorem am_w1079 : am_W (Cond.fieldLink "NowhereMoney" (209 : Nat) "NowhereMoney$World" "kept" "[I") := am_tb1 233 (by decide +kernel) rfl
theorem am_w1080 : am_W (Cond.methodLink "NowhereMoney" (212 : Nat) ({ cls := "NowhereMoney", name := "sumOf", desc := "([I)I" } : Jvm.MethodName)) := am_tb4 134 (by decide +kernel) rfl
theorem am_w1081 : am_W (Cond.methodLink "NowhereMoney" (216 : Nat) ({ cls := "NowhereMoney$Ledger", name := "sumInFlight", desc := "()I" } : Jvm.MethodName)) := am_tb4 137 (by decide +kernel) rfl
theorem am_w1082 : am_W (Cond.fieldLink "NowhereMoney" (220 : Nat) "NowhereMoney$Ledger" "fees" "[I") := am_tb1 191 (by decide +kernel) rfl
theorem am_w1083 : am_W (Cond.methodLink "NowhereMoney" (223 : Nat) ({ cls := "NowhereMoney$Ledger", name := "countInFlight", desc := "()I" } : Jvm.MethodName)) := am_tb4 141 (by decide +kernel) rfl
theorem am_w1084 : am_W (Cond.methodLink "NowhereMoney" (226 : Nat) ({ cls := "NowhereMoney", name := "isBusinessDay", desc := "(I)Z" } : Jvm.MethodName)) := am_tb4 149 (by decide +kernel) rfl
theorem am_w1085 : am_W (Cond.methodLink "NowhereMoney" (229 : Nat) ({ cls := "NowhereMoney$Country", name := "flightDays", desc := "(III)I" } : Jvm.MethodName)) := am_tb4 153 (by decide +kernel) rfl
theorem am_w1086 : am_W (Cond.methodLink "NowhereMoney" (233 : Nat) ({ cls := "NowhereMoney", name := "isRing", desc := "(III)Z" } : Jvm.MethodName)) := am_tb4 164 (by decide +kernel) rfl
theorem am_w1087 : am_W (Cond.methodLink "NowhereMoney" (237 : Nat) ({ cls := "NowhereMoney", name := "fillRings", desc := "(III)V" } : Jvm.MethodName)) := am_tb4 168 (by decide +kernel) rfl
theorem am_w1088 : am_W (Cond.methodLink "NowhereMoney" (241 : Nat) ({ cls := "NowhereMoney$Rings", name := "search", desc := "(I)V" } : Jvm.MethodName)) := am_tb4 173 (by decide +kernel) rfl
theorem am_w1089 : am_W (Cond.fieldLink "NowhereMoney" (244 : Nat) "NowhereMoney$Rings" "most" "I") := am_tb2 53 (by decide +kernel) rfl
theorem am_w1090 : am_W (Cond.fieldLink "NowhereMoney" (247 : Nat) "NowhereMoney$Rings" "mostRing" "I") := am_tb2 55 (by decide +kernel) rfl
theorem am_w1091 : am_W (Cond.methodLink "NowhereMoney" (250 : Nat) ({ cls := "NowhereMoney$Country", name := "areFar", desc := "(II)Z" } : Jvm.MethodName)) := am_tb4 195 (by decide +kernel) rfl
theorem am_w1092 : am_W (Cond.methodLink "NowhereMoney" (254 : Nat) ({ cls := "java/lang/Math", name := "max", desc := "(II)I" } : Jvm.MethodName)) := am_tb4 172 (by decide +kernel) rfl
theorem am_w1093 : am_W (Cond.methodLink "NowhereMoney" (259 : Nat) ({ cls := "NowhereMoney$Ledger", name := "restsOn", desc := "(I)I" } : Jvm.MethodName)) := am_tb4 200 (by decide +kernel) rfl
theorem am_w1094 : am_W (Cond.methodLink "NowhereMoney" (262 : Nat) ({ cls := "NowhereMoney$Ledger", name := "part", desc := "(II)I" } : Jvm.MethodName)) := am_tb4 204 (by decide +kernel) rfl
theorem am_w1095 : am_W (Cond.fieldLink "NowhereMoney" (265 : Nat) "NowhereMoney$World" "entries" "LNowhereMoney$Entries;") := am_tb1 227 (by decide +kernel) rfl
theorem am_w1096 : am_W (Cond.fieldLink "NowhereMoney" (269 : Nat) "NowhereMoney$Entries" "count" "I") := am_tb1 168 (by decide +kernel) rfl
theorem am_w1097 : am_W (Cond.fieldLink "NowhereMoney" (272 : Nat) "NowhereMoney$Entries" "rows" "[I") := am_tb1 166 (by decide +kernel) rfl
theorem am_w1098 : am_W (Cond.constant "NowhereMoney" (273 : Nat) (999999999 : Int32)) := am_tb4 213 (by decide +kernel) rfl
theorem am_w1099 : am_W (Cond.constantLong "NowhereMoney" (274 : Nat) (999999999 : Int64)) := am_tb4 214 (by decide +kernel) rfl
theorem am_w1100 : am_W (Cond.constantLong "NowhereMoney" (276 : Nat) (1000 : Int64)) := am_tb4 215 (by decide +kernel) rfl
theorem am_w1101 : am_W (Cond.methodLink "NowhereMoney" (278 : Nat) ({ cls := "java/lang/Math", name := "min", desc := "(JJ)J" } : Jvm.MethodName)) := am_tb4 216 (by decide +kernel) rfl
theorem am_w1102 : am_W (Cond.static ({ cls := "java/lang/Math", name := "min", desc := "(JJ)J" } : Jvm.MethodName)) := am_tb4 217 (by decide +kernel) rfl
theorem am_w1103 : am_W (Cond.code ({ cls := "java/lang/Math", name := "min", desc := "(JJ)J" } : Jvm.MethodName) prog_16_method_70_code (4 : Nat) (Option.some Jvm.ClassFile.FieldType.long)) := am_tb4 218 (by decide +kernel) rfl
theorem am_w1104 : am_W (Cond.methodLink "NowhereMoney" (282 : Nat) ({ cls := "NowhereMoney", name := "isBankSet", desc := "(I)Z" } : Jvm.MethodName)) := am_tb4 223 (by decide +kernel) rfl
theorem am_w1105 : am_W (Cond.methodLink "NowhereMoney" (285 : Nat) ({ cls := "NowhereMoney$Watch", name := "criesFor", desc := "(II)Z" } : Jvm.MethodName)) := am_tb4 226 (by decide +kernel) rfl
theorem am_w1106 : am_W (Cond.methodLink "NowhereMoney" (288 : Nat) ({ cls := "NowhereMoney$Watch", name := "gather", desc := "(II)V" } : Jvm.MethodName)) := am_tb4 227 (by decide +kernel) rfl
theorem am_w1107 : am_W (Cond.fieldLink "NowhereMoney" (292 : Nat) "NowhereMoney$Watch" "facts" "[I") := am_tb2 37 (by decide +kernel) rfl
theorem am_w1108 : am_W (Cond.fieldLink "NowhereMoney" (295 : Nat) "NowhereMoney$World" "kiters" "I") := am_tb2 7 (by decide +kernel) rfl
theorem am_w1109 : am_W (Cond.methodLink "NowhereMoney" (298 : Nat) ({ cls := "NowhereMoney$Watch", name := "cryingHouses", desc := "(I)I" } : Jvm.MethodName)) := am_tb4 236 (by decide +kernel) rfl
theorem am_w1110 : am_W (Cond.methodLink "NowhereMoney" (301 : Nat) ({ cls := "java/lang/Integer", name := "bitCount", desc := "(I)I" } : Jvm.MethodName)) := am_tb5 0 (by decide +kernel) rfl
theorem am_w1111 : am_W (Cond.methodLink "NowhereMoney" (306 : Nat) ({ cls := "NowhereMoney$Watch", name := "turnOf", desc := "(II)I" } : Jvm.MethodName)) := am_tb5 5 (by decide +kernel) rfl
theorem am_w1112 : am_W (Cond.methodLink "NowhereMoney" (309 : Nat) ({ cls := "NowhereMoney$World", name := "isKiter", desc := "(I)Z" } : Jvm.MethodName)) := am_tb5 9 (by decide +kernel) rfl
theorem am_w1113 : am_W (Cond.fieldLink "NowhereMoney" (312 : Nat) "NowhereMoney$World" "firstCries" "[I") := am_tb1 236 (by decide +kernel) rfl
theorem am_w1114 : am_W (Cond.methodLink "NowhereMoney" (315 : Nat) ({ cls := "NowhereMoney", name := "thinkEnd", desc := "(I)I" } : Jvm.MethodName)) := am_tb5 21 (by decide +kernel) rfl
theorem am_w1115 : am_W (Cond.methodLink "NowhereMoney" (318 : Nat) ({ cls := "NowhereMoney$Ledger", name := "lossOf", desc := "(I)I" } : Jvm.MethodName)) := am_tb5 38 (by decide +kernel) rfl
theorem am_w1116 : am_W (Cond.fieldLink "NowhereMoney" (321 : Nat) "NowhereMoney" "endDays" "I") := am_tb2 107 (by decide +kernel) rfl
theorem am_w1117 : am_W (Cond.fieldLink "NowhereMoney" (324 : Nat) "NowhereMoney" "endReturned" "I") := am_tb2 108 (by decide +kernel) rfl
theorem am_w1118 : am_W (Cond.methodLink "NowhereMoney" (327 : Nat) ({ cls := "java/lang/Math", name := "min", desc := "(II)I" } : Jvm.MethodName)) := am_tb5 43 (by decide +kernel) rfl
theorem am_w1119 : am_W (Cond.methodLink "NowhereMoney" (329 : Nat) ({ cls := "NowhereMoney$Country", name := "hasSnow", desc := "(I)Z" } : Jvm.MethodName)) := am_tb5 44 (by decide +kernel) rfl
theorem am_w1120 : am_W (Cond.fieldLink "NowhereMoney" (332 : Nat) "NowhereMoney$Country" "thoughtSnow" "I") := am_tb1 145 (by decide +kernel) rfl
theorem am_w1121 : am_W (Cond.fieldLink "NowhereMoney" (335 : Nat) "NowhereMoney$World" "payments" "I") := am_tb2 5 (by decide +kernel) rfl
theorem am_w1122 : am_W (Cond.fieldLink "NowhereMoney" (338 : Nat) "NowhereMoney$World" "payAmounts" "[I") := am_tb1 239 (by decide +kernel) rfl
theorem am_w1123 : am_W (Cond.fieldLink "NowhereMoney" (341 : Nat) "NowhereMoney$World" "payTowns" "[I") := am_tb2 2 (by decide +kernel) rfl
theorem am_w1124 : am_W (Cond.methodLink "NowhereMoney" (344 : Nat) ({ cls := "NowhereMoney$Ways", name := "search", desc := "(LNowhereMoney$World;I)Z" } : Jvm.MethodName)) := am_tb5 53 (by decide +kernel) rfl
theorem am_w1125 : am_W (Cond.fieldLink "NowhereMoney" (347 : Nat) "NowhereMoney$Ways" "most" "I") := am_tb2 74 (by decide +kernel) rfl
theorem am_w1126 : am_W (Cond.fieldLink "NowhereMoney" (348 : Nat) "NowhereMoney$Ways" "least" "I") := am_tb2 76 (by decide +kernel) rfl
theorem am_w1127 : am_W (Cond.fieldLink "NowhereMoney" (351 : Nat) "NowhereMoney$Ways" "mostWay" "I") := am_tb2 78 (by decide +kernel) rfl
theorem am_w1128 : am_W (Cond.methodLink "NowhereMoney" (354 : Nat) ({ cls := "NowhereMoney$Ways", name := "bankOf", desc := "(III)I" } : Jvm.MethodName)) := am_tb5 70 (by decide +kernel) rfl
theorem am_w1129 : am_W (Cond.fieldLink "NowhereMoney" (357 : Nat) "NowhereMoney$Ways" "leastWay" "I") := am_tb2 80 (by decide +kernel) rfl
theorem am_w1130 : am_W (Cond.methodLink "NowhereMoney" (360 : Nat) ({ cls := "NowhereMoney", name := "netOut", desc := "(I)V" } : Jvm.MethodName)) := am_tb5 75 (by decide +kernel) rfl
theorem am_w1131 : am_W (Cond.fieldLink "NowhereMoney" (363 : Nat) "NowhereMoney" "gross" "I") := am_tb2 106 (by decide +kernel) rfl
theorem am_w1132 : am_W (Cond.methodLink "NowhereMoney" (366 : Nat) ({ cls := "NowhereMoney", name := "roundOfRoom", desc := "()I" } : Jvm.MethodName)) := am_tb5 79 (by decide +kernel) rfl
theorem am_w1133 : am_W (Cond.constant "NowhereMoney" (369 : Nat) (99999 : Int32)) := am_tb4 3 (by decide +kernel) rfl
theorem am_w1134 : am_W (Cond.methodLink "NowhereMoney" (370 : Nat) ({ cls := "NowhereMoney$Ledger", name := "provenBook", desc := "(II)I" } : Jvm.MethodName)) := am_tb5 92 (by decide +kernel) rfl
theorem am_w1135 : am_W (Cond.methodLink "NowhereMoney" (373 : Nat) ({ cls := "NowhereMoney$World", name := "copyFrom", desc := "(LNowhereMoney$World;)V" } : Jvm.MethodName)) := am_tb5 104 (by decide +kernel) rfl
theorem am_w1136 : am_W (Cond.fieldLink "NowhereMoney" (375 : Nat) "NowhereMoney" "hasPicture" "Z") := am_tb2 103 (by decide +kernel) rfl
theorem am_w1137 : am_W (Cond.fieldLink "NowhereMoney" (379 : Nat) "NowhereMoney$Rings" "heldUp" "[I") := am_tb2 50 (by decide +kernel) rfl
theorem am_w1138 : am_W (Cond.methodLink "NowhereMoney" (382 : Nat) ({ cls := "NowhereMoney$Ledger", name := "copyFrom", desc := "(LNowhereMoney$Ledger;)V" } : Jvm.MethodName)) := am_tb5 25 (by decide +kernel) rfl
theorem am_w1139 : am_W (Cond.methodLink "NowhereMoney" (385 : Nat) ({ cls := "NowhereMoney$Ledger", name := "lossOfAll", desc := "()I" } : Jvm.MethodName)) := am_tb5 30 (by decide +kernel) rfl
theorem am_w1140 : am_W (Cond.methodLink "NowhereMoney" (388 : Nat) ({ cls := "java/lang/Math", name := "abs", desc := "(I)I" } : Jvm.MethodName)) := am_tb5 83 (by decide +kernel) rfl
theorem am_w1141 : am_W (Cond.methodLink "NowhereMoneyModel" (1 : Nat) ({ cls := "java/lang/Object", name := "<init>", desc := "()V" } : Jvm.MethodName)) := am_tb5 130 (by decide +kernel) rfl
theorem am_w1142 : am_W (Cond.fieldLink "NowhereMoneyModel" (7 : Nat) "NowhereMoneyModel" "w" "[I") := am_tb5 131 (by decide +kernel) rfl
theorem am_w1143 : am_W (Cond.fieldLink "NowhereMoneyModel" (13 : Nat) "NowhereMoneyModel" "kept" "[I") := am_tb5 132 (by decide +kernel) rfl
theorem am_w1144 : am_W (Cond.fieldLink "NowhereMoneyModel" (16 : Nat) "NowhereMoneyModel" "thought" "[I") := am_tb5 133 (by decide +kernel) rfl
theorem am_w1145 : am_W (Cond.fieldLink "NowhereMoneyModel" (19 : Nat) "NowhereMoneyModel" "freshLine" "[I") := am_tb5 135 (by decide +kernel) rfl
theorem am_w1146 : am_W (Cond.fieldLink "NowhereMoneyModel" (22 : Nat) "NowhereMoneyModel" "freshStep" "[I") := am_tb5 136 (by decide +kernel) rfl
theorem am_w1147 : am_W (Cond.fieldLink "NowhereMoneyModel" (25 : Nat) "NowhereMoneyModel" "tape" "[I") := am_tb5 137 (by decide +kernel) rfl
theorem am_w1148 : am_W (Cond.fieldLink "NowhereMoneyModel" (28 : Nat) "NowhereMoneyModel" "pile" "[I") := am_tb5 138 (by decide +kernel) rfl
theorem am_w1149 : am_W (Cond.fieldLink "NowhereMoneyModel" (31 : Nat) "NowhereMoneyModel" "facts" "[I") := am_tb5 139 (by decide +kernel) rfl
theorem am_w1150 : am_W (Cond.fieldLink "NowhereMoneyModel" (34 : Nat) "NowhereMoneyModel" "faultPlace" "I") := am_tb5 152 (by decide +kernel) rfl
theorem am_w1151 : am_W (Cond.fieldLink "NowhereMoneyModel" (38 : Nat) "NowhereMoneyModel" "asked" "[I") := am_tb5 153 (by decide +kernel) rfl
theorem am_w1152 : am_W (Cond.fieldLink "NowhereMoneyModel" (41 : Nat) "NowhereMoneyModel" "ring" "[I") := am_tb5 155 (by decide +kernel) rfl
theorem am_w1153 : am_W (Cond.fieldLink "NowhereMoneyModel" (44 : Nat) "NowhereMoneyModel" "bestRing" "[I") := am_tb5 156 (by decide +kernel) rfl
theorem am_w1154 : am_W (Cond.fieldLink "NowhereMoneyModel" (47 : Nat) "NowhereMoneyModel" "oneHold" "I") := am_tb5 158 (by decide +kernel) rfl
theorem am_w1155 : am_W (Cond.fieldLink "NowhereMoneyModel" (50 : Nat) "NowhereMoneyModel" "onBank" "[I") := am_tb5 161 (by decide +kernel) rfl
theorem am_w1156 : am_W (Cond.methodLink "NowhereMoneyModel" (53 : Nat) ({ cls := "NowhereMoneyModel", name := "isIn", desc := "(III)Z" } : Jvm.MethodName)) := am_tb5 232 (by decide +kernel) rfl
theorem am_w1157 : am_W (Cond.methodLink "NowhereMoneyModel" (57 : Nat) ({ cls := "NowhereMoneyModel", name := "isBank", desc := "(I)Z" } : Jvm.MethodName)) := am_tb5 229 (by decide +kernel) rfl
theorem am_w1158 : am_W (Cond.fieldLink "NowhereMoneyModel" (61 : Nat) "NowhereMoneyModel" "taped" "I") := am_tb5 143 (by decide +kernel) rfl
theorem am_w1159 : am_W (Cond.fieldLink "NowhereMoneyModel" (64 : Nat) "NowhereMoneyModel" "at" "I") := am_tb5 144 (by decide +kernel) rfl
theorem am_w1160 : am_W (Cond.fieldLink "NowhereMoneyModel" (67 : Nat) "NowhereMoneyModel" "tokenAt" "I") := am_tb5 146 (by decide +kernel) rfl
theorem am_w1161 : am_W (Cond.methodLink "NowhereMoneyModel" (70 : Nat) ({ cls := "java/lang/String", name := "length", desc := "()I" } : Jvm.MethodName)) := am_tb6 35 (by decide +kernel) rfl
theorem am_w1162 : am_W (Cond.methodLink "NowhereMoneyModel" (76 : Nat) ({ cls := "java/lang/String", name := "charAt", desc := "(I)C" } : Jvm.MethodName)) := am_tb6 36 (by decide +kernel) rfl
theorem am_w1163 : am_W (Cond.methodLink "NowhereMoneyModel" (82 : Nat) ({ cls := "NowhereMoneyModel", name := "is", desc := "(Ljava/lang/String;)Z" } : Jvm.MethodName)) := am_tb6 31 (by decide +kernel) rfl
theorem am_w1164 : am_W (Cond.fieldLink "NowhereMoneyModel" (122 : Nat) "NowhereMoneyModel" "which" "I") := am_tb5 140 (by decide +kernel) rfl
theorem am_w1165 : am_W (Cond.methodLink "NowhereMoneyModel" (125 : Nat) ({ cls := "NowhereMoneyModel", name := "lawWord", desc := "()I" } : Jvm.MethodName)) := am_tb6 43 (by decide +kernel) rfl
theorem am_w1166 : am_W (Cond.methodLink "NowhereMoneyModel" (128 : Nat) ({ cls := "NowhereMoneyModel", name := "signWord", desc := "()I" } : Jvm.MethodName)) := am_tb6 54 (by decide +kernel) rfl
theorem am_w1167 : am_W (Cond.methodLink "NowhereMoneyModel" (131 : Nat) ({ cls := "NowhereMoneyModel", name := "see", desc := "(I)I" } : Jvm.MethodName)) := am_tb6 19 (by decide +kernel) rfl
theorem am_w1168 : am_W (Cond.fieldLink "NowhereMoneyModel" (135 : Nat) "NowhereMoneyModel" "token" "I") := am_tb5 145 (by decide +kernel) rfl
theorem am_w1169 : am_W (Cond.methodLink "NowhereMoneyModel" (138 : Nat) ({ cls := "NowhereMoneyModel", name := "isLetter", desc := "(I)Z" } : Jvm.MethodName)) := am_tb6 23 (by decide +kernel) rfl
theorem am_w1170 : am_W (Cond.methodLink "NowhereMoneyModel" (141 : Nat) ({ cls := "NowhereMoneyModel", name := "word", desc := "()I" } : Jvm.MethodName)) := am_tb6 26 (by decide +kernel) rfl
theorem am_w1171 : am_W (Cond.methodLink "NowhereMoneyModel" (144 : Nat) ({ cls := "NowhereMoneyModel", name := "isDigit", desc := "(I)Z" } : Jvm.MethodName)) := am_tb6 63 (by decide +kernel) rfl
theorem am_w1172 : am_W (Cond.fieldLink "NowhereMoneyModel" (147 : Nat) "NowhereMoneyModel" "value" "I") := am_tb5 147 (by decide +kernel) rfl
theorem am_w1173 : am_W (Cond.fieldLink "NowhereMoneyModel" (150 : Nat) "NowhereMoneyModel" "wrong" "I") := am_tb5 148 (by decide +kernel) rfl
theorem am_w1174 : am_W (Cond.fieldLink "NowhereMoneyModel" (153 : Nat) "NowhereMoneyModel" "wrongAt" "I") := am_tb5 149 (by decide +kernel) rfl
theorem am_w1175 : am_W (Cond.methodLink "NowhereMoneyModel" (156 : Nat) ({ cls := "NowhereMoneyModel", name := "bad", desc := "(I)Z" } : Jvm.MethodName)) := am_tb6 70 (by decide +kernel) rfl
theorem am_w1176 : am_W (Cond.methodLink "NowhereMoneyModel" (159 : Nat) ({ cls := "NowhereMoneyModel", name := "next0", desc := "()V" } : Jvm.MethodName)) := am_tb6 15 (by decide +kernel) rfl
theorem am_w1177 : am_W (Cond.fieldLink "NowhereMoneyModel" (162 : Nat) "NowhereMoneyModel" "steps" "I") := am_tb5 142 (by decide +kernel) rfl
theorem am_w1178 : am_W (Cond.fieldLink "NowhereMoneyModel" (165 : Nat) "NowhereMoneyModel" "depth" "I") := am_tb5 151 (by decide +kernel) rfl
theorem am_w1179 : am_W (Cond.methodLink "NowhereMoneyModel" (168 : Nat) ({ cls := "NowhereMoneyModel", name := "product", desc := "()Z" } : Jvm.MethodName)) := am_tb6 78 (by decide +kernel) rfl
theorem am_w1180 : am_W (Cond.methodLink "NowhereMoneyModel" (172 : Nat) ({ cls := "NowhereMoneyModel", name := "lay", desc := "(II)V" } : Jvm.MethodName)) := am_tb6 86 (by decide +kernel) rfl
theorem am_w1181 : am_W (Cond.methodLink "NowhereMoneyModel" (176 : Nat) ({ cls := "NowhereMoneyModel", name := "unit", desc := "()Z" } : Jvm.MethodName)) := am_tb6 82 (by decide +kernel) rfl
theorem am_w1182 : am_W (Cond.methodLink "NowhereMoneyModel" (179 : Nat) ({ cls := "NowhereMoneyModel", name := "every", desc := "()Z" } : Jvm.MethodName)) := am_tb6 98 (by decide +kernel) rfl
theorem am_w1183 : am_W (Cond.methodLink "NowhereMoneyModel" (182 : Nat) ({ cls := "NowhereMoneyModel", name := "one", desc := "()Z" } : Jvm.MethodName)) := am_tb6 102 (by decide +kernel) rfl
theorem am_w1184 : am_W (Cond.methodLink "NowhereMoneyModel" (185 : Nat) ({ cls := "NowhereMoneyModel", name := "opens", desc := "()Z" } : Jvm.MethodName)) := am_tb6 106 (by decide +kernel) rfl
theorem am_w1185 : am_W (Cond.methodLink "NowhereMoneyModel" (188 : Nat) ({ cls := "NowhereMoneyModel", name := "any", desc := "()Z" } : Jvm.MethodName)) := am_tb6 94 (by decide +kernel) rfl
theorem am_w1186 : am_W (Cond.methodLink "NowhereMoneyModel" (191 : Nat) ({ cls := "NowhereMoneyModel", name := "need", desc := "(I)Z" } : Jvm.MethodName)) := am_tb6 90 (by decide +kernel) rfl
theorem am_w1187 : am_W (Cond.methodLink "NowhereMoneyModel" (194 : Nat) ({ cls := "NowhereMoneyModel", name := "sumUp", desc := "()Z" } : Jvm.MethodName)) := am_tb6 74 (by decide +kernel) rfl
theorem am_w1188 : am_W (Cond.fieldLink "NowhereMoneyModel" (197 : Nat) "NowhereMoneyModel" "lines" "I") := am_tb5 141 (by decide +kernel) rfl
theorem am_w1189 : am_W (Cond.fieldLink "NowhereMoneyModel" (200 : Nat) "NowhereMoneyModel" "faultKind" "I") := am_tb5 150 (by decide +kernel) rfl
theorem am_w1190 : am_W (Cond.methodLink "NowhereMoneyModel" (203 : Nat) ({ cls := "NowhereMoneyModel", name := "aLine", desc := "()Z" } : Jvm.MethodName)) := am_tb6 66 (by decide +kernel) rfl
theorem am_w1191 : am_W (Cond.methodLink "NowhereMoneyModel" (206 : Nat) ({ cls := "NowhereMoneyModel", name := "both", desc := "(III)I" } : Jvm.MethodName)) := am_tb6 160 (by decide +kernel) rfl
theorem am_w1192 : am_W (Cond.constant "NowhereMoneyModel" (210 : Nat) (999999 : Int32)) := am_tb6 127 (by decide +kernel) rfl
theorem am_w1193 : am_W (Cond.methodLink "NowhereMoneyModel" (211 : Nat) ({ cls := "NowhereMoneyModel", name := "comesTo", desc := "(III)I" } : Jvm.MethodName)) := am_tb6 156 (by decide +kernel) rfl
theorem am_w1194 : am_W (Cond.methodLink "NowhereMoneyModel" (214 : Nat) ({ cls := "NowhereMoneyModel", name := "of", desc := "(II)I" } : Jvm.MethodName)) := am_tb6 140 (by decide +kernel) rfl
theorem am_w1195 : am_W (Cond.methodLink "NowhereMoneyModel" (218 : Nat) ({ cls := "NowhereMoneyModel", name := "countOf", desc := "(II)I" } : Jvm.MethodName)) := am_tb6 136 (by decide +kernel) rfl
theorem am_w1196 : am_W (Cond.methodLink "NowhereMoneyModel" (221 : Nat) ({ cls := "NowhereMoneyModel", name := "railBetween", desc := "(II)I" } : Jvm.MethodName)) := am_tb6 172 (by decide +kernel) rfl
theorem am_w1197 : am_W (Cond.methodLink "NowhereMoneyModel" (224 : Nat) ({ cls := "NowhereMoneyModel", name := "isFar", desc := "(II)Z" } : Jvm.MethodName)) := am_tb6 176 (by decide +kernel) rfl
theorem am_w1198 : am_W (Cond.methodLink "NowhereMoneyModel" (228 : Nat) ({ cls := "NowhereMoneyModel", name := "gathers", desc := "(IIIIZI)V" } : Jvm.MethodName)) := am_tb6 132 (by decide +kernel) rfl
theorem am_w1199 : am_W (Cond.methodLink "NowhereMoneyModel" (232 : Nat) ({ cls := "NowhereMoneyModel", name := "heldOf", desc := "(II)I" } : Jvm.MethodName)) := am_tb6 148 (by decide +kernel) rfl
theorem am_w1200 : am_W (Cond.constant "NowhereMoneyModel" (235 : Nat) (-100000000 : Int32)) := am_tb6 118 (by decide +kernel) rfl
theorem am_w1201 : am_W (Cond.methodLink "NowhereMoneyModel" (236 : Nat) ({ cls := "NowhereMoneyModel", name := "isHouse", desc := "(I)Z" } : Jvm.MethodName)) := am_tb6 123 (by decide +kernel) rfl
theorem am_w1202 : am_W (Cond.constant "NowhereMoneyModel" (239 : Nat) (-999999 : Int32)) := am_tb6 126 (by decide +kernel) rfl
theorem am_w1203 : am_W (Cond.methodLink "NowhereMoneyModel" (240 : Nat) ({ cls := "NowhereMoneyModel", name := "isBusiness", desc := "(I)Z" } : Jvm.MethodName)) := am_tb6 128 (by decide +kernel) rfl
theorem am_w1204 : am_W (Cond.methodLink "NowhereMoneyModel" (243 : Nat) ({ cls := "NowhereMoneyModel", name := "usable", desc := "(II)I" } : Jvm.MethodName)) := am_tb6 144 (by decide +kernel) rfl
theorem am_w1205 : am_W (Cond.methodLink "NowhereMoneyModel" (246 : Nat) ({ cls := "NowhereMoneyModel", name := "tells", desc := "(II)I" } : Jvm.MethodName)) := am_tb6 152 (by decide +kernel) rfl
theorem am_w1206 : am_W (Cond.methodLink "NowhereMoneyModel" (249 : Nat) ({ cls := "NowhereMoneyModel", name := "books", desc := "(IIIII)V" } : Jvm.MethodName)) := am_tb6 163 (by decide +kernel) rfl
theorem am_w1207 : am_W (Cond.constant "NowhereMoneyModel" (253 : Nat) (99999 : Int32)) := am_tb6 171 (by decide +kernel) rfl
theorem am_w1208 : am_W (Cond.methodLink "NowhereMoneyModel" (254 : Nat) ({ cls := "NowhereMoneyModel", name := "restsOn", desc := "(I)I" } : Jvm.MethodName)) := am_tb6 192 (by decide +kernel) rfl
theorem am_w1209 : am_W (Cond.methodLink "NowhereMoneyModel" (257 : Nat) ({ cls := "NowhereMoneyModel", name := "booksOf", desc := "(I)I" } : Jvm.MethodName)) := am_tb6 200 (by decide +kernel) rfl
theorem am_w1210 : am_W (Cond.methodLink "NowhereMoneyModel" (260 : Nat) ({ cls := "NowhereMoneyModel", name := "waterOf", desc := "(I)I" } : Jvm.MethodName)) := am_tb6 204 (by decide +kernel) rfl
theorem am_w1211 : am_W (Cond.methodLink "NowhereMoneyModel" (263 : Nat) ({ cls := "NowhereMoneyModel", name := "isFlying", desc := "(I)Z" } : Jvm.MethodName)) := am_tb6 220 (by decide +kernel) rfl
theorem am_w1212 : am_W (Cond.methodLink "NowhereMoneyModel" (266 : Nat) ({ cls := "NowhereMoneyModel", name := "flying", desc := "(Z)I" } : Jvm.MethodName)) := am_tb6 216 (by decide +kernel) rfl
theorem am_w1213 : am_W (Cond.fieldLink "NowhereMoneyModel" (270 : Nat) "NowhereMoneyModel" "askedMany" "I") := am_tb5 154 (by decide +kernel) rfl
theorem am_w1214 : am_W (Cond.methodLink "NowhereMoneyModel" (273 : Nat) ({ cls := "NowhereMoneyModel", name := "isDue", desc := "(II)Z" } : Jvm.MethodName)) := am_tb6 236 (by decide +kernel) rfl
theorem am_w1215 : am_W (Cond.methodLink "NowhereMoneyModel" (276 : Nat) ({ cls := "NowhereMoneyModel", name := "isBehind", desc := "(III)Z" } : Jvm.MethodName)) := am_tb7 4 (by decide +kernel) rfl
theorem am_w1216 : am_W (Cond.methodLink "NowhereMoneyModel" (279 : Nat) ({ cls := "NowhereMoneyModel", name := "gathersOf", desc := "(III)V" } : Jvm.MethodName)) := am_tb7 12 (by decide +kernel) rfl
theorem am_w1217 : am_W (Cond.methodLink "NowhereMoneyModel" (283 : Nat) ({ cls := "NowhereMoneyModel", name := "hasTrain", desc := "(I)Z" } : Jvm.MethodName)) := am_tb6 232 (by decide +kernel) rfl
theorem am_w1218 : am_W (Cond.methodLink "NowhereMoneyModel" (286 : Nat) ({ cls := "NowhereMoneyModel", name := "gathersAsked", desc := "(II)V" } : Jvm.MethodName)) := am_tb7 0 (by decide +kernel) rfl
theorem am_w1219 : am_W (Cond.methodLink "NowhereMoneyModel" (289 : Nat) ({ cls := "NowhereMoneyModel", name := "isReturned", desc := "(I)Z" } : Jvm.MethodName)) := am_tb7 8 (by decide +kernel) rfl
theorem am_w1220 : am_W (Cond.methodLink "NowhereMoneyModel" (292 : Nat) ({ cls := "NowhereMoneyModel", name := "morning", desc := "(I)I" } : Jvm.MethodName)) := am_tb6 228 (by decide +kernel) rfl
theorem am_w1221 : am_W (Cond.methodLink "NowhereMoneyModel" (295 : Nat) ({ cls := "NowhereMoneyModel", name := "cryOf", desc := "(II)Z" } : Jvm.MethodName)) := am_tb7 16 (by decide +kernel) rfl
theorem am_w1222 : am_W (Cond.methodLink "NowhereMoneyModel" (298 : Nat) ({ cls := "NowhereMoneyModel", name := "isDay", desc := "(I)Z" } : Jvm.MethodName)) := am_tb7 35 (by decide +kernel) rfl
theorem am_w1223 : am_W (Cond.methodLink "NowhereMoneyModel" (301 : Nat) ({ cls := "NowhereMoneyModel", name := "flightOf", desc := "(III)I" } : Jvm.MethodName)) := am_tb7 39 (by decide +kernel) rfl
theorem am_w1224 : am_W (Cond.methodLink "NowhereMoneyModel" (304 : Nat) ({ cls := "NowhereMoneyModel", name := "holdsUp", desc := "(IIII)I" } : Jvm.MethodName)) := am_tb7 51 (by decide +kernel) rfl
theorem am_w1225 : am_W (Cond.fieldLink "NowhereMoneyModel" (308 : Nat) "NowhereMoneyModel" "most" "I") := am_tb5 157 (by decide +kernel) rfl
theorem am_w1226 : am_W (Cond.methodLink "NowhereMoneyModel" (311 : Nat) ({ cls := "NowhereMoneyModel", name := "rings", desc := "(IIIII)V" } : Jvm.MethodName)) := am_tb7 47 (by decide +kernel) rfl
theorem am_w1227 : am_W (Cond.methodLink "NowhereMoneyModel" (314 : Nat) ({ cls := "NowhereMoneyModel", name := "ring", desc := "(IIII)I" } : Jvm.MethodName)) := am_tb7 59 (by decide +kernel) rfl
theorem am_w1228 : am_W (Cond.constant "NowhereMoneyModel" (316 : Nat) (999999999 : Int32)) := am_tb7 68 (by decide +kernel) rfl
theorem am_w1229 : am_W (Cond.constantLong "NowhereMoneyModel" (317 : Nat) (1000 : Int64)) := am_tb7 69 (by decide +kernel) rfl
theorem am_w1230 : am_W (Cond.constantLong "NowhereMoneyModel" (319 : Nat) (999999999 : Int64)) := am_tb7 70 (by decide +kernel) rfl
theorem am_w1231 : am_W (Cond.methodLink "NowhereMoneyModel" (321 : Nat) ({ cls := "NowhereMoneyModel", name := "apart", desc := "(II)I" } : Jvm.MethodName)) := am_tb7 28 (by decide +kernel) rfl
theorem am_w1232 : am_W (Cond.methodLink "NowhereMoneyModel" (324 : Nat) ({ cls := "NowhereMoneyModel", name := "isMatched", desc := "(I)Z" } : Jvm.MethodName)) := am_tb7 24 (by decide +kernel) rfl
theorem am_w1233 : am_W (Cond.methodLink "NowhereMoneyModel" (327 : Nat) ({ cls := "NowhereMoneyModel", name := "signs", desc := "(II)V" } : Jvm.MethodName)) := am_tb7 20 (by decide +kernel) rfl
theorem am_w1234 : am_W (Cond.methodLink "NowhereMoneyModel" (330 : Nat) ({ cls := "NowhereMoneyModel", name := "count", desc := "(I)I" } : Jvm.MethodName)) := am_tb7 83 (by decide +kernel) rfl
theorem am_w1235 : am_W (Cond.methodLink "NowhereMoneyModel" (332 : Nat) ({ cls := "NowhereMoneyModel", name := "lossOf", desc := "(I)I" } : Jvm.MethodName)) := am_tb7 106 (by decide +kernel) rfl
theorem am_w1236 : am_W (Cond.fieldLink "NowhereMoneyModel" (335 : Nat) "NowhereMoneyModel" "endDays" "I") := am_tb5 159 (by decide +kernel) rfl
theorem am_w1237 : am_W (Cond.fieldLink "NowhereMoneyModel" (338 : Nat) "NowhereMoneyModel" "endReturned" "I") := am_tb5 160 (by decide +kernel) rfl
theorem am_w1238 : am_W (Cond.methodLink "NowhereMoneyModel" (341 : Nat) ({ cls := "NowhereMoneyModel", name := "lossOfAll", desc := "()I" } : Jvm.MethodName)) := am_tb7 102 (by decide +kernel) rfl
theorem am_w1239 : am_W (Cond.methodLink "NowhereMoneyModel" (344 : Nat) ({ cls := "NowhereMoneyModel", name := "ends", desc := "(II)I" } : Jvm.MethodName)) := am_tb7 98 (by decide +kernel) rfl
theorem am_w1240 : am_W (Cond.methodLink "NowhereMoneyModel" (347 : Nat) ({ cls := "NowhereMoneyModel", name := "floats", desc := "(II)I" } : Jvm.MethodName)) := am_tb7 122 (by decide +kernel) rfl
theorem am_w1241 : am_W (Cond.methodLink "NowhereMoneyModel" (350 : Nat) ({ cls := "NowhereMoneyModel", name := "room", desc := "(II)I" } : Jvm.MethodName)) := am_tb7 134 (by decide +kernel) rfl
theorem am_w1242 : am_W (Cond.fieldLink "NowhereMoneyModel" (353 : Nat) "NowhereMoneyModel" "hasImage" "Z") := am_tb5 134 (by decide +kernel) rfl
theorem am_w1243 : am_W (Cond.fieldLink "java/lang/String" (9 : Nat) "java/lang/String" "value" "[B") := am_tb7 151 (by decide +kernel) rfl
theorem am_w1244 : am_W (Cond.methodLink "java/lang/String" (335 : Nat) ({ cls := "java/lang/String", name := "coder", desc := "()B" } : Jvm.MethodName)) := am_tb2 225 (by decide +kernel) rfl
theorem am_w1245 : am_W (Cond.methodLink "java/lang/String" (492 : Nat) ({ cls := "java/lang/String", name := "isLatin1", desc := "()Z" } : Jvm.MethodName)) := am_tb2 235 (by decide +kernel) rfl
theorem am_w1246 : am_W (Cond.methodLink "java/lang/String" (495 : Nat) ({ cls := "java/lang/StringLatin1", name := "charAt", desc := "([BI)C" } : Jvm.MethodName)) := am_tb2 239 (by decide +kernel) rfl
theorem am_w1247 : am_W (Cond.methodLink "java/lang/String" (633 : Nat) ({ cls := "java/lang/String", name := "indexOf", desc := "(II)I" } : Jvm.MethodName)) := am_tb3 45 (by decide +kernel) rfl
theorem am_w1248 : am_W (Cond.methodLink "java/lang/String" (505 : Nat) ({ cls := "java/lang/String", name := "length", desc := "()I" } : Jvm.MethodName)) := am_tb3 49 (by decide +kernel) rfl
theorem am_w1249 : am_W (Cond.methodLink "java/lang/String" (637 : Nat) ({ cls := "java/lang/StringLatin1", name := "indexOf", desc := "([BIII)I" } : Jvm.MethodName)) := am_tb3 50 (by decide +kernel) rfl
theorem am_w1250 : am_W (Cond.fieldLink "java/lang/String" (38 : Nat) "java/lang/String" "COMPACT_STRINGS" "Z") := am_tb2 229 (by decide +kernel) rfl
theorem am_w1251 : am_W (Cond.fieldLink "java/lang/String" (15 : Nat) "java/lang/String" "coder" "B") := am_tb7 152 (by decide +kernel) rfl
theorem am_w1252 : am_W (Cond.fieldLink "java/lang/String" (1053 : Nat) "jdk/internal/util/Preconditions" "SIOOBE_FORMATTER" "Ljava/util/function/BiFunction;") := am_tb3 5 (by decide +kernel) rfl
theorem am_w1253 : am_W (Cond.methodLink "java/lang/String" (1059 : Nat) ({ cls := "jdk/internal/util/Preconditions", name := "checkIndex", desc := "(IILjava/util/function/BiFunction;)I" } : Jvm.MethodName)) := am_tb3 7 (by decide +kernel) rfl
theorem am_w1254 : am_W (Cond.methodLink "java/lang/StringLatin1" (9 : Nat) ({ cls := "java/lang/String", name := "checkIndex", desc := "(II)V" } : Jvm.MethodName)) := am_tb3 2 (by decide +kernel) rfl
theorem am_w1255 : am_W (Cond.methodLink "java/lang/StringLatin1" (88 : Nat) ({ cls := "java/lang/StringLatin1", name := "canEncode", desc := "(I)Z" } : Jvm.MethodName)) := am_tb3 53 (by decide +kernel) rfl
theorem am_w1256 : am_W (Cond.methodLink "java/lang/StringLatin1" (92 : Nat) ({ cls := "java/lang/Math", name := "max", desc := "(II)I" } : Jvm.MethodName)) := am_tb3 56 (by decide +kernel) rfl
theorem am_w1257 : am_W (Cond.methodLink "java/lang/StringLatin1" (38 : Nat) ({ cls := "java/lang/Math", name := "min", desc := "(II)I" } : Jvm.MethodName)) := am_tb3 59 (by decide +kernel) rfl
theorem am_w1258 : am_W (Cond.methodLink "java/lang/StringLatin1" (95 : Nat) ({ cls := "java/lang/StringLatin1", name := "indexOfChar", desc := "([BIII)I" } : Jvm.MethodName)) := am_tb3 62 (by decide +kernel) rfl
theorem am_w1259 : am_W (Cond.constant "java/lang/Integer" (265 : Nat) (1431655765 : Int32)) := am_tb4 184 (by decide +kernel) rfl
theorem am_w1260 : am_W (Cond.constant "java/lang/Integer" (266 : Nat) (858993459 : Int32)) := am_tb4 185 (by decide +kernel) rfl
theorem am_w1261 : am_W (Cond.constant "java/lang/Integer" (267 : Nat) (252645135 : Int32)) := am_tb4 186 (by decide +kernel) rfl
theorem am_w1262 : am_W (Cond.laysFinal "NowhereMoney$Country" "NowhereMoney$Country" "towns" "[I") := am_tb1 146 (by decide +kernel) rfl
theorem am_w1263 : am_W (Cond.laysFinal "NowhereMoney$Country" "NowhereMoney$Country" "rails" "[I") := am_tb1 148 (by decide +kernel) rfl
theorem am_w1264 : am_W (Cond.laysFinal "NowhereMoney$Country" "NowhereMoney$Country" "closed" "[I") := am_tb1 150 (by decide +kernel) rfl
theorem am_w1265 : am_W (Cond.laysFinal "NowhereMoney$Country" "NowhereMoney$Country" "snow" "[I") := am_tb1 152 (by decide +kernel) rfl
theorem am_w1266 : am_W (Cond.laysFinal "NowhereMoney$Country" "NowhereMoney$Country" "scripts" "[LNowhereMoney$Script;") := am_tb1 154 (by decide +kernel) rfl
theorem am_w1267 : am_W (Cond.lays "NowhereMoney$Country" "NowhereMoney$Country" "thoughtSnow" "I") := am_tb1 156 (by decide +kernel) rfl
theorem am_w1268 : am_W (Cond.laysFinal "NowhereMoney$Entries" "NowhereMoney$Entries" "rows" "[I") := am_tb1 169 (by decide +kernel) rfl
theorem am_w1269 : am_W (Cond.lays "NowhereMoney$Entries" "NowhereMoney$Entries" "count" "I") := am_tb1 171 (by decide +kernel) rfl
theorem am_w1270 : am_W (Cond.laysFinal "NowhereMoney$Ledger" "NowhereMoney$Ledger" "country" "LNowhereMoney$Country;") := am_tb1 201 (by decide +kernel) rfl
theorem am_w1271 : am_W (Cond.laysFinal "NowhereMoney$Ledger" "NowhereMoney$Ledger" "entries" "LNowhereMoney$Entries;") := am_tb1 203 (by decide +kernel) rfl
theorem am_w1272 : am_W (Cond.laysFinal "NowhereMoney$Ledger" "NowhereMoney$Ledger" "rows" "[I") := am_tb1 205 (by decide +kernel) rfl
theorem am_w1273 : am_W (Cond.laysFinal "NowhereMoney$Ledger" "NowhereMoney$Ledger" "books" "[I") := am_tb1 207 (by decide +kernel) rfl
theorem am_w1274 : am_W (Cond.laysFinal "NowhereMoney$Ledger" "NowhereMoney$Ledger" "cash" "[I") := am_tb1 209 (by decide +kernel) rfl
theorem am_w1275 : am_W (Cond.laysFinal "NowhereMoney$Ledger" "NowhereMoney$Ledger" "fees" "[I") := am_tb1 211 (by decide +kernel) rfl
theorem am_w1276 : am_W (Cond.laysFinal "NowhereMoney$Ledger" "NowhereMoney$Ledger" "asked" "[I") := am_tb1 213 (by decide +kernel) rfl
theorem am_w1277 : am_W (Cond.laysFinal "NowhereMoney$Ledger" "NowhereMoney$Ledger" "facts" "[I") := am_tb1 215 (by decide +kernel) rfl
theorem am_w1278 : am_W (Cond.lays "NowhereMoney$Ledger" "NowhereMoney$Ledger" "now" "I") := am_tb1 217 (by decide +kernel) rfl
theorem am_w1279 : am_W (Cond.lays "NowhereMoney$Ledger" "NowhereMoney$Ledger" "count" "I") := am_tb1 219 (by decide +kernel) rfl
theorem am_w1280 : am_W (Cond.laysFinal "NowhereMoney$Reader" "NowhereMoney$Reader" "draft" "LNowhereMoney$Script;") := am_tb1 96 (by decide +kernel) rfl
theorem am_w1281 : am_W (Cond.laysFinal "NowhereMoney$Reader" "NowhereMoney$Reader" "kinds" "[I") := am_tb1 98 (by decide +kernel) rfl
theorem am_w1282 : am_W (Cond.laysFinal "NowhereMoney$Reader" "NowhereMoney$Reader" "places" "[I") := am_tb1 100 (by decide +kernel) rfl
theorem am_w1283 : am_W (Cond.laysFinal "NowhereMoney$Reader" "NowhereMoney$Reader" "numbers" "[I") := am_tb1 102 (by decide +kernel) rfl
theorem am_w1284 : am_W (Cond.lays "NowhereMoney$Reader" "NowhereMoney$Reader" "tokens" "I") := am_tb1 104 (by decide +kernel) rfl
theorem am_w1285 : am_W (Cond.lays "NowhereMoney$Reader" "NowhereMoney$Reader" "at" "I") := am_tb1 106 (by decide +kernel) rfl
theorem am_w1286 : am_W (Cond.lays "NowhereMoney$Reader" "NowhereMoney$Reader" "ofSigns" "Z") := am_tb1 108 (by decide +kernel) rfl
theorem am_w1287 : am_W (Cond.lays "NowhereMoney$Reader" "NowhereMoney$Reader" "fault" "I") := am_tb1 110 (by decide +kernel) rfl
theorem am_w1288 : am_W (Cond.lays "NowhereMoney$Reader" "NowhereMoney$Reader" "faultPlace" "I") := am_tb1 112 (by decide +kernel) rfl
theorem am_w1289 : am_W (Cond.laysFinal "NowhereMoney$Rings" "NowhereMoney$Rings" "heldUp" "[I") := am_tb2 56 (by decide +kernel) rfl
theorem am_w1290 : am_W (Cond.laysFinal "NowhereMoney$Rings" "NowhereMoney$Rings" "order" "[I") := am_tb2 58 (by decide +kernel) rfl
theorem am_w1291 : am_W (Cond.lays "NowhereMoney$Rings" "NowhereMoney$Rings" "most" "I") := am_tb2 60 (by decide +kernel) rfl
theorem am_w1292 : am_W (Cond.lays "NowhereMoney$Rings" "NowhereMoney$Rings" "mostRing" "I") := am_tb2 62 (by decide +kernel) rfl
theorem am_w1293 : am_W (Cond.laysFinal "NowhereMoney$Script" "NowhereMoney$Script" "codes" "[I") := am_tb1 67 (by decide +kernel) rfl
theorem am_w1294 : am_W (Cond.laysFinal "NowhereMoney$Script" "NowhereMoney$Script" "words" "[I") := am_tb1 69 (by decide +kernel) rfl
theorem am_w1295 : am_W (Cond.laysFinal "NowhereMoney$Script" "NowhereMoney$Script" "starts" "[I") := am_tb1 71 (by decide +kernel) rfl
theorem am_w1296 : am_W (Cond.laysFinal "NowhereMoney$Script" "NowhereMoney$Script" "conditions" "[I") := am_tb1 73 (by decide +kernel) rfl
theorem am_w1297 : am_W (Cond.laysFinal "NowhereMoney$Script" "NowhereMoney$Script" "stops" "[I") := am_tb1 75 (by decide +kernel) rfl
theorem am_w1298 : am_W (Cond.laysFinal "NowhereMoney$Script" "NowhereMoney$Script" "stack" "[I") := am_tb1 77 (by decide +kernel) rfl
theorem am_w1299 : am_W (Cond.lays "NowhereMoney$Script" "NowhereMoney$Script" "lines" "I") := am_tb1 79 (by decide +kernel) rfl
theorem am_w1300 : am_W (Cond.lays "NowhereMoney$Script" "NowhereMoney$Script" "length" "I") := am_tb1 81 (by decide +kernel) rfl
theorem am_w1301 : am_W (Cond.laysFinal "NowhereMoney$Tape" "NowhereMoney$Tape" "bytes" "[I") := am_tb1 40 (by decide +kernel) rfl
theorem am_w1302 : am_W (Cond.lays "NowhereMoney$Tape" "NowhereMoney$Tape" "length" "I") := am_tb1 42 (by decide +kernel) rfl
theorem am_w1303 : am_W (Cond.laysFinal "NowhereMoney$Watch" "NowhereMoney$Watch" "world" "LNowhereMoney$World;") := am_tb2 38 (by decide +kernel) rfl
theorem am_w1304 : am_W (Cond.laysFinal "NowhereMoney$Watch" "NowhereMoney$Watch" "facts" "[I") := am_tb2 40 (by decide +kernel) rfl
theorem am_w1305 : am_W (Cond.laysFinal "NowhereMoney$Ways" "NowhereMoney$Ways" "spent" "[I") := am_tb2 81 (by decide +kernel) rfl
theorem am_w1306 : am_W (Cond.laysFinal "NowhereMoney$Ways" "NowhereMoney$Ways" "usable" "[I") := am_tb2 83 (by decide +kernel) rfl
theorem am_w1307 : am_W (Cond.lays "NowhereMoney$Ways" "NowhereMoney$Ways" "most" "I") := am_tb2 85 (by decide +kernel) rfl
theorem am_w1308 : am_W (Cond.lays "NowhereMoney$Ways" "NowhereMoney$Ways" "least" "I") := am_tb2 87 (by decide +kernel) rfl
theorem am_w1309 : am_W (Cond.lays "NowhereMoney$Ways" "NowhereMoney$Ways" "mostWay" "I") := am_tb2 89 (by decide +kernel) rfl
theorem am_w1310 : am_W (Cond.lays "NowhereMoney$Ways" "NowhereMoney$Ways" "leastWay" "I") := am_tb2 91 (by decide +kernel) rfl
theorem am_w1311 : am_W (Cond.laysFinal "NowhereMoney$World" "NowhereMoney$World" "country" "LNowhereMoney$Country;") := am_tb2 8 (by decide +kernel) rfl
theorem am_w1312 : am_W (Cond.laysFinal "NowhereMoney$World" "NowhereMoney$World" "entries" "LNowhereMoney$Entries;") := am_tb2 10 (by decide +kernel) rfl
theorem am_w1313 : am_W (Cond.laysFinal "NowhereMoney$World" "NowhereMoney$World" "ledger" "LNowhereMoney$Ledger;") := am_tb2 12 (by decide +kernel) rfl
theorem am_w1314 : am_W (Cond.laysFinal "NowhereMoney$World" "NowhereMoney$World" "kept" "[I") := am_tb2 14 (by decide +kernel) rfl
theorem am_w1315 : am_W (Cond.laysFinal "NowhereMoney$World" "NowhereMoney$World" "firstCries" "[I") := am_tb2 16 (by decide +kernel) rfl
theorem am_w1316 : am_W (Cond.laysFinal "NowhereMoney$World" "NowhereMoney$World" "payAmounts" "[I") := am_tb2 18 (by decide +kernel) rfl
theorem am_w1317 : am_W (Cond.laysFinal "NowhereMoney$World" "NowhereMoney$World" "payTowns" "[I") := am_tb2 20 (by decide +kernel) rfl
theorem am_w1318 : am_W (Cond.lays "NowhereMoney$World" "NowhereMoney$World" "payments" "I") := am_tb2 22 (by decide +kernel) rfl
theorem am_w1319 : am_W (Cond.lays "NowhereMoney$World" "NowhereMoney$World" "kiters" "I") := am_tb2 24 (by decide +kernel) rfl
theorem am_w1320 : am_W (Cond.laysFinal "NowhereMoney" "NowhereMoney" "tape" "LNowhereMoney$Tape;") := am_tb2 109 (by decide +kernel) rfl
theorem am_w1321 : am_W (Cond.laysFinal "NowhereMoney" "NowhereMoney" "reader" "LNowhereMoney$Reader;") := am_tb2 111 (by decide +kernel) rfl
theorem am_w1322 : am_W (Cond.laysFinal "NowhereMoney" "NowhereMoney" "world" "LNowhereMoney$World;") := am_tb2 113 (by decide +kernel) rfl
theorem am_w1323 : am_W (Cond.laysFinal "NowhereMoney" "NowhereMoney" "picture" "LNowhereMoney$World;") := am_tb2 115 (by decide +kernel) rfl
theorem am_w1324 : am_W (Cond.laysFinal "NowhereMoney" "NowhereMoney" "thought" "LNowhereMoney$Ledger;") := am_tb2 117 (by decide +kernel) rfl
theorem am_w1325 : am_W (Cond.laysFinal "NowhereMoney" "NowhereMoney" "watch" "LNowhereMoney$Watch;") := am_tb2 119 (by decide +kernel) rfl
theorem am_w1326 : am_W (Cond.laysFinal "NowhereMoney" "NowhereMoney" "rings" "LNowhereMoney$Rings;") := am_tb2 121 (by decide +kernel) rfl
theorem am_w1327 : am_W (Cond.laysFinal "NowhereMoney" "NowhereMoney" "ways" "LNowhereMoney$Ways;") := am_tb2 123 (by decide +kernel) rfl
theorem am_w1328 : am_W (Cond.laysFinal "NowhereMoney" "NowhereMoney" "nets" "[I") := am_tb2 125 (by decide +kernel) rfl
theorem am_w1329 : am_W (Cond.lays "NowhereMoney" "NowhereMoney" "hasPicture" "Z") := am_tb2 127 (by decide +kernel) rfl
theorem am_w1330 : am_W (Cond.lays "NowhereMoney" "NowhereMoney" "latestFault" "I") := am_tb2 129 (by decide +kernel) rfl
theorem am_w1331 : am_W (Cond.lays "NowhereMoney" "NowhereMoney" "latestPlace" "I") := am_tb2 131 (by decide +kernel) rfl
theorem am_w1332 : am_W (Cond.lays "NowhereMoney" "NowhereMoney" "gross" "I") := am_tb2 133 (by decide +kernel) rfl
theorem am_w1333 : am_W (Cond.lays "NowhereMoney" "NowhereMoney" "endDays" "I") := am_tb2 135 (by decide +kernel) rfl
theorem am_w1334 : am_W (Cond.lays "NowhereMoney" "NowhereMoney" "endReturned" "I") := am_tb2 137 (by decide +kernel) rfl
theorem am_w1335 : am_W (Cond.laysFinal "NowhereMoneyModel" "NowhereMoneyModel" "w" "[I") := am_tb5 162 (by decide +kernel) rfl
theorem am_w1336 : am_W (Cond.laysFinal "NowhereMoneyModel" "NowhereMoneyModel" "kept" "[I") := am_tb5 164 (by decide +kernel) rfl
theorem am_w1337 : am_W (Cond.laysFinal "NowhereMoneyModel" "NowhereMoneyModel" "thought" "[I") := am_tb5 166 (by decide +kernel) rfl
theorem am_w1338 : am_W (Cond.lays "NowhereMoneyModel" "NowhereMoneyModel" "hasImage" "Z") := am_tb5 168 (by decide +kernel) rfl
theorem am_w1339 : am_W (Cond.laysFinal "NowhereMoneyModel" "NowhereMoneyModel" "freshLine" "[I") := am_tb5 170 (by decide +kernel) rfl
theorem am_w1340 : am_W (Cond.laysFinal "NowhereMoneyModel" "NowhereMoneyModel" "freshStep" "[I") := am_tb5 172 (by decide +kernel) rfl
theorem am_w1341 : am_W (Cond.laysFinal "NowhereMoneyModel" "NowhereMoneyModel" "tape" "[I") := am_tb5 174 (by decide +kernel) rfl
theorem am_w1342 : am_W (Cond.laysFinal "NowhereMoneyModel" "NowhereMoneyModel" "pile" "[I") := am_tb5 176 (by decide +kernel) rfl
theorem am_w1343 : am_W (Cond.laysFinal "NowhereMoneyModel" "NowhereMoneyModel" "facts" "[I") := am_tb5 178 (by decide +kernel) rfl
theorem am_w1344 : am_W (Cond.lays "NowhereMoneyModel" "NowhereMoneyModel" "which" "I") := am_tb5 180 (by decide +kernel) rfl
theorem am_w1345 : am_W (Cond.lays "NowhereMoneyModel" "NowhereMoneyModel" "lines" "I") := am_tb5 182 (by decide +kernel) rfl
theorem am_w1346 : am_W (Cond.lays "NowhereMoneyModel" "NowhereMoneyModel" "steps" "I") := am_tb5 184 (by decide +kernel) rfl
theorem am_w1347 : am_W (Cond.lays "NowhereMoneyModel" "NowhereMoneyModel" "taped" "I") := am_tb5 186 (by decide +kernel) rfl
theorem am_w1348 : am_W (Cond.lays "NowhereMoneyModel" "NowhereMoneyModel" "at" "I") := am_tb5 188 (by decide +kernel) rfl
theorem am_w1349 : am_W (Cond.lays "NowhereMoneyModel" "NowhereMoneyModel" "token" "I") := am_tb5 190 (by decide +kernel) rfl
theorem am_w1350 : am_W (Cond.lays "NowhereMoneyModel" "NowhereMoneyModel" "tokenAt" "I") := am_tb5 192 (by decide +kernel) rfl
theorem am_w1351 : am_W (Cond.lays "NowhereMoneyModel" "NowhereMoneyModel" "value" "I") := am_tb5 194 (by decide +kernel) rfl
theorem am_w1352 : am_W (Cond.lays "NowhereMoneyModel" "NowhereMoneyModel" "wrong" "I") := am_tb5 196 (by decide +kernel) rfl
theorem am_w1353 : am_W (Cond.lays "NowhereMoneyModel" "NowhereMoneyModel" "wrongAt" "I") := am_tb5 198 (by decide +kernel) rfl
theorem am_w1354 : am_W (Cond.lays "NowhereMoneyModel" "NowhereMoneyModel" "faultKind" "I") := am_tb5 200 (by decide +kernel) rfl
theorem am_w1355 : am_W (Cond.lays "NowhereMoneyModel" "NowhereMoneyModel" "depth" "I") := am_tb5 202 (by decide +kernel) rfl
theorem am_w1356 : am_W (Cond.lays "NowhereMoneyModel" "NowhereMoneyModel" "faultPlace" "I") := am_tb5 204 (by decide +kernel) rfl
theorem am_w1357 : am_W (Cond.laysFinal "NowhereMoneyModel" "NowhereMoneyModel" "asked" "[I") := am_tb5 206 (by decide +kernel) rfl
theorem am_w1358 : am_W (Cond.lays "NowhereMoneyModel" "NowhereMoneyModel" "askedMany" "I") := am_tb5 208 (by decide +kernel) rfl
theorem am_w1359 : am_W (Cond.laysFinal "NowhereMoneyModel" "NowhereMoneyModel" "ring" "[I") := am_tb5 210 (by decide +kernel) rfl
theorem am_w1360 : am_W (Cond.laysFinal "NowhereMoneyModel" "NowhereMoneyModel" "bestRing" "[I") := am_tb5 212 (by decide +kernel) rfl
theorem am_w1361 : am_W (Cond.lays "NowhereMoneyModel" "NowhereMoneyModel" "most" "I") := am_tb5 214 (by decide +kernel) rfl
theorem am_w1362 : am_W (Cond.lays "NowhereMoneyModel" "NowhereMoneyModel" "oneHold" "I") := am_tb5 216 (by decide +kernel) rfl
theorem am_w1363 : am_W (Cond.lays "NowhereMoneyModel" "NowhereMoneyModel" "endDays" "I") := am_tb5 218 (by decide +kernel) rfl
theorem am_w1364 : am_W (Cond.lays "NowhereMoneyModel" "NowhereMoneyModel" "endReturned" "I") := am_tb5 220 (by decide +kernel) rfl
theorem am_w1365 : am_W (Cond.laysFinal "NowhereMoneyModel" "NowhereMoneyModel" "onBank" "[I") := am_tb5 222 (by decide +kernel) rfl
theorem am_w1366 : am_W (Cond.arrayClass Jvm.ClassFile.FieldType.int) := am_tb1 45 (by decide +kernel) rfl
