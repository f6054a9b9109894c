/-! ===== the words of all methods: the good ones of the tables ===== -/
def bw : List Cond := lw_tbl.filter goodWord
theorem bw_mem (i : Nat) {w : Cond} (h : lw_tbl[i]? = some w) (g : goodWord w = true) : w ∈ bw := List.mem_filter.mpr ⟨List.mem_of_getElem? h, g⟩
theorem bw_tbl {w : Cond} (h : w ∈ bw) : w ∈ lw_tbl := (List.mem_filter.mp h).1
abbrev wsY (y : MethodName) (cc : ByteArray) (n : Nat) (r : Option FieldType) : List Cond := .code y cc n r :: bw
theorem bw_all {ws : List Cond} (hw : ∀ w ∈ bw, w ∈ ws) {y : MethodName} {cc : ByteArray} {n : Nat} {r : Option FieldType} (h : Cond.code y cc n r ∈ bw) : GoodIn ws (wsY y cc n r) := by
  intro w h1
  have key : ∀ v ∈ bw, v ∈ ws ∧ ((v.onTables && v.keeps) = true ∨ ∃ ty, v = .arrayClass ty) := fun v hv => ⟨hw v hv, good_of_word (List.mem_filter.mp hv).2⟩
  rcases List.mem_cons.mp h1 with rfl | h2
  · exact key _ h
  · exact key _ h2
theorem bw_V {ws : List Cond} (hw : ∀ w ∈ bw, w ∈ ws) {own : String} {idx : Nat} {C : String} {y : MethodName} {cc : ByteArray} {n : Nat} {r : Option FieldType} (h : Cond.code y cc n r ∈ bw) (h1 : Cond.methodLink own idx y ∈ bw) (h2 : Cond.instanceMethod y ∈ bw) (h3 : Cond.selects C y y ∈ bw) (h4 : Cond.initialized C ∈ bw) : GoodIn ws (wsV own idx C y (wsY y cc n r)) := by
  have key : ∀ v ∈ bw, v ∈ ws ∧ ((v.onTables && v.keeps) = true ∨ ∃ ty, v = .arrayClass ty) := fun v hv => ⟨hw v hv, good_of_word (List.mem_filter.mp hv).2⟩
  intro w hh
  rcases List.mem_append.mp hh with hh | hh
  · simp only [List.mem_cons, List.not_mem_nil, or_false] at hh
    rcases hh with rfl | rfl | rfl | rfl
    · exact key _ h1
    · exact key _ h2
    · exact key _ h3
    · exact key _ h4
  · exact bw_all hw h w hh
theorem bw_S {ws : List Cond} (hw : ∀ w ∈ bw, w ∈ ws) {own : String} {idx : Nat} {y : MethodName} {cc : ByteArray} {n : Nat} {r : Option FieldType} (h : Cond.code y cc n r ∈ bw) (h1 : Cond.methodLink own idx y ∈ bw) (h2 : Cond.static y ∈ bw) (h3 : Cond.initialized y.cls ∈ bw) : GoodIn ws (va_wsS own idx y (wsY y cc n r)) := by
  have key : ∀ v ∈ bw, v ∈ ws ∧ ((v.onTables && v.keeps) = true ∨ ∃ ty, v = .arrayClass ty) := fun v hv => ⟨hw v hv, good_of_word (List.mem_filter.mp hv).2⟩
  intro w hh
  rcases List.mem_append.mp hh with hh | hh
  · simp only [List.mem_cons, List.not_mem_nil, or_false] at hh
    rcases hh with rfl | rfl | rfl
    · exact key _ h1
    · exact key _ h2
    · exact key _ h3
  · exact bw_all hw h w hh

set_option maxRecDepth 20000 in
theorem mz_L : Cond.initialized RL ∈ bw := bw_mem 51 rfl rfl
set_option maxRecDepth 20000 in
theorem mz_X7 : Cond.initialized RX7 ∈ bw := bw_mem 52 rfl rfl
set_option maxRecDepth 20000 in
theorem mz_X4 : Cond.initialized RX4 ∈ bw := bw_mem 53 rfl rfl
set_option maxRecDepth 20000 in
theorem mz_J9 : Cond.initialized RJ9 ∈ bw := bw_mem 54 rfl rfl
set_option maxRecDepth 20000 in
theorem mz_X5 : Cond.initialized RX5 ∈ bw := bw_mem 55 rfl rfl
set_option maxRecDepth 20000 in
theorem mz_X1 : Cond.initialized RX1 ∈ bw := bw_mem 56 rfl rfl
set_option maxRecDepth 20000 in
theorem mz_X3 : Cond.initialized RX3 ∈ bw := bw_mem 57 rfl rfl
set_option maxRecDepth 20000 in
theorem mz_X2 : Cond.initialized RX2 ∈ bw := bw_mem 58 rfl rfl
set_option maxRecDepth 20000 in
theorem mz_X8 : Cond.initialized RX8 ∈ bw := bw_mem 59 rfl rfl
set_option maxRecDepth 20000 in
theorem mz_J10 : Cond.initialized RJ10 ∈ bw := bw_mem 60 rfl rfl
set_option maxRecDepth 20000 in
theorem mz_Throwable : Cond.initialized "java/lang/Throwable" ∈ bw := bw_mem 61 rfl rfl
set_option maxRecDepth 20000 in
theorem mz_Exception : Cond.initialized "java/lang/Exception" ∈ bw := bw_mem 62 rfl rfl
set_option maxRecDepth 20000 in
theorem mz_RuntimeException : Cond.initialized "java/lang/RuntimeException" ∈ bw := bw_mem 63 rfl rfl
set_option maxRecDepth 20000 in
theorem mz_IllegalStateException : Cond.initialized "java/lang/IllegalStateException" ∈ bw := bw_mem 64 rfl rfl
set_option maxRecDepth 20000 in
theorem mz_IllegalArgumentException : Cond.initialized "java/lang/IllegalArgumentException" ∈ bw := bw_mem 65 rfl rfl
set_option maxRecDepth 20000 in
theorem mz_X0 : Cond.initialized RX0 ∈ bw := bw_mem 66 rfl rfl
set_option maxRecDepth 20000 in
theorem mz_IndexOutOfBoundsException : Cond.initialized "java/lang/IndexOutOfBoundsException" ∈ bw := bw_mem 67 rfl rfl
set_option maxRecDepth 20000 in
theorem mz_X6 : Cond.initialized RX6 ∈ bw := bw_mem 68 rfl rfl
set_option maxRecDepth 20000 in
theorem ml_L_36 : Cond.methodLink RL 36 yX7_init ∈ bw := bw_mem 71 rfl rfl
set_option maxRecDepth 20000 in
theorem mi_X7_init : Cond.instanceMethod yX7_init ∈ bw := bw_mem 72 rfl rfl
set_option maxRecDepth 20000 in
theorem mc_X7_init : Cond.code yX7_init cX7_init 1 none ∈ bw := bw_mem 73 rfl rfl
set_option maxRecDepth 20000 in
theorem ml_X7_1 : Cond.methodLink RX7 1 ⟨"java/lang/Object", "<init>", "()V"⟩ ∈ bw := bw_mem 74 rfl rfl
set_option maxRecDepth 20000 in
theorem ml_X7_11 : Cond.methodLink RX7 11 yX4_init ∈ bw := bw_mem 79 rfl rfl
set_option maxRecDepth 20000 in
theorem mi_X4_init : Cond.instanceMethod yX4_init ∈ bw := bw_mem 80 rfl rfl
set_option maxRecDepth 20000 in
theorem mc_X4_init : Cond.code yX4_init cX4_init 2 none ∈ bw := bw_mem 81 rfl rfl
set_option maxRecDepth 20000 in
theorem ml_X4_3 : Cond.methodLink RX4 3 ⟨"java/lang/Object", "<init>", "()V"⟩ ∈ bw := bw_mem 82 rfl rfl
set_option maxRecDepth 20000 in
theorem ml_X4_9 : Cond.methodLink RX4 9 yJ9_max_7cf53 ∈ bw := bw_mem 83 rfl rfl
set_option maxRecDepth 20000 in
theorem mt_J9_max_7cf53 : Cond.static yJ9_max_7cf53 ∈ bw := bw_mem 84 rfl rfl
set_option maxRecDepth 20000 in
theorem mc_J9_max_7cf53 : Cond.code yJ9_max_7cf53 cJ9_max_7cf53 2 (some .int) ∈ bw := bw_mem 85 rfl rfl
set_option maxRecDepth 20000 in
theorem mf_X4_15 : Cond.fieldLink RX4 15 "ArchiveDesk$Row" "cells" "[I" ∈ bw := bw_mem 86 rfl rfl
set_option maxRecDepth 20000 in
theorem mf_X4_21 : Cond.fieldLink RX4 21 "ArchiveDesk$Row" "size" "I" ∈ bw := bw_mem 87 rfl rfl
set_option maxRecDepth 20000 in
theorem ml_X7_26 : Cond.methodLink RX7 26 yX5_init ∈ bw := bw_mem 96 rfl rfl
set_option maxRecDepth 20000 in
theorem mi_X5_init : Cond.instanceMethod yX5_init ∈ bw := bw_mem 97 rfl rfl
set_option maxRecDepth 20000 in
theorem mc_X5_init : Cond.code yX5_init cX5_init 2 none ∈ bw := bw_mem 98 rfl rfl
set_option maxRecDepth 20000 in
theorem ml_X5_3 : Cond.methodLink RX5 3 ⟨"java/lang/Object", "<init>", "()V"⟩ ∈ bw := bw_mem 99 rfl rfl
set_option maxRecDepth 20000 in
theorem ml_X5_19 : Cond.methodLink RX5 19 yX4_init ∈ bw := bw_mem 103 rfl rfl
set_option maxRecDepth 20000 in
theorem mi_X1_init : Cond.instanceMethod yX1_init ∈ bw := bw_mem 106 rfl rfl
set_option maxRecDepth 20000 in
theorem mc_X1_init : Cond.code yX1_init cX1_init 1 none ∈ bw := bw_mem 107 rfl rfl
set_option maxRecDepth 20000 in
theorem ml_X1_3 : Cond.methodLink RX1 3 ⟨"java/lang/Object", "<init>", "()V"⟩ ∈ bw := bw_mem 108 rfl rfl
set_option maxRecDepth 20000 in
theorem ml_X1_11 : Cond.methodLink RX1 11 yX4_init ∈ bw := bw_mem 110 rfl rfl
set_option maxRecDepth 20000 in
theorem mf_X1_14 : Cond.fieldLink RX1 14 "ArchiveDesk$Entry" "name" "LArchiveDesk$Row;" ∈ bw := bw_mem 111 rfl rfl
set_option maxRecDepth 20000 in
theorem mf_X1_24 : Cond.fieldLink RX1 24 "ArchiveDesk$Entry" "size" "I" ∈ bw := bw_mem 116 rfl rfl
set_option maxRecDepth 20000 in
theorem mf_X1_20 : Cond.fieldLink RX1 20 "ArchiveDesk$Entry" "packed" "I" ∈ bw := bw_mem 120 rfl rfl
set_option maxRecDepth 20000 in
theorem mf_X5_11 : Cond.fieldLink RX5 11 "ArchiveDesk$Shelf" "entries" "[LArchiveDesk$Entry;" ∈ bw := bw_mem 138 rfl rfl
set_option maxRecDepth 20000 in
theorem mf_X5_22 : Cond.fieldLink RX5 22 "ArchiveDesk$Shelf" "bytes" "LArchiveDesk$Row;" ∈ bw := bw_mem 139 rfl rfl
set_option maxRecDepth 20000 in
theorem mf_X5_27 : Cond.fieldLink RX5 27 "ArchiveDesk$Shelf" "count" "I" ∈ bw := bw_mem 140 rfl rfl
set_option maxRecDepth 20000 in
theorem mi_X3_init : Cond.instanceMethod yX3_init ∈ bw := bw_mem 151 rfl rfl
set_option maxRecDepth 20000 in
theorem mc_X3_init : Cond.code yX3_init cX3_init 1 none ∈ bw := bw_mem 152 rfl rfl
set_option maxRecDepth 20000 in
theorem ml_X3_3 : Cond.methodLink RX3 3 ⟨"java/lang/Object", "<init>", "()V"⟩ ∈ bw := bw_mem 153 rfl rfl
set_option maxRecDepth 20000 in
theorem mi_X2_init : Cond.instanceMethod yX2_init ∈ bw := bw_mem 157 rfl rfl
set_option maxRecDepth 20000 in
theorem mc_X2_init : Cond.code yX2_init cX2_init 1 none ∈ bw := bw_mem 158 rfl rfl
set_option maxRecDepth 20000 in
theorem ml_X2_3 : Cond.methodLink RX2 3 ⟨"java/lang/Object", "<init>", "()V"⟩ ∈ bw := bw_mem 159 rfl rfl
set_option maxRecDepth 20000 in
theorem mf_X2_19 : Cond.fieldLink RX2 19 "ArchiveDesk$Header" "method" "I" ∈ bw := bw_mem 160 rfl rfl
set_option maxRecDepth 20000 in
theorem mf_X2_29 : Cond.fieldLink RX2 29 "ArchiveDesk$Header" "crc" "I" ∈ bw := bw_mem 162 rfl rfl
set_option maxRecDepth 20000 in
theorem mf_X2_32 : Cond.fieldLink RX2 32 "ArchiveDesk$Header" "packed" "J" ∈ bw := bw_mem 164 rfl rfl
set_option maxRecDepth 20000 in
theorem mf_X2_36 : Cond.fieldLink RX2 36 "ArchiveDesk$Header" "size" "J" ∈ bw := bw_mem 166 rfl rfl
set_option maxRecDepth 20000 in
theorem mf_X2_39 : Cond.fieldLink RX2 39 "ArchiveDesk$Header" "nameSize" "I" ∈ bw := bw_mem 168 rfl rfl
set_option maxRecDepth 20000 in
theorem ml_X3_27 : Cond.methodLink RX3 27 yX4_init ∈ bw := bw_mem 182 rfl rfl
set_option maxRecDepth 20000 in
theorem mf_X3_9 : Cond.fieldLink RX3 9 "ArchiveDesk$Reader" "centralAt" "[I" ∈ bw := bw_mem 183 rfl rfl
set_option maxRecDepth 20000 in
theorem mf_X3_15 : Cond.fieldLink RX3 15 "ArchiveDesk$Reader" "packedAt" "[I" ∈ bw := bw_mem 184 rfl rfl
set_option maxRecDepth 20000 in
theorem mf_X3_21 : Cond.fieldLink RX3 21 "ArchiveDesk$Reader" "header" "LArchiveDesk$Header;" ∈ bw := bw_mem 185 rfl rfl
set_option maxRecDepth 20000 in
theorem mf_X3_30 : Cond.fieldLink RX3 30 "ArchiveDesk$Reader" "unpacked" "LArchiveDesk$Row;" ∈ bw := bw_mem 186 rfl rfl
set_option maxRecDepth 20000 in
theorem mf_X3_100 : Cond.fieldLink RX3 100 "ArchiveDesk$Reader" "count" "I" ∈ bw := bw_mem 187 rfl rfl
set_option maxRecDepth 20000 in
theorem mf_X3_103 : Cond.fieldLink RX3 103 "ArchiveDesk$Reader" "firstCentral" "I" ∈ bw := bw_mem 188 rfl rfl
set_option maxRecDepth 20000 in
theorem mf_X3_74 : Cond.fieldLink RX3 74 "ArchiveDesk$Reader" "endAt" "I" ∈ bw := bw_mem 189 rfl rfl
set_option maxRecDepth 20000 in
theorem mf_X3_34 : Cond.fieldLink RX3 34 "ArchiveDesk$Reader" "faultNumber" "I" ∈ bw := bw_mem 190 rfl rfl
set_option maxRecDepth 20000 in
theorem mf_X3_38 : Cond.fieldLink RX3 38 "ArchiveDesk$Reader" "faultFile" "I" ∈ bw := bw_mem 191 rfl rfl
set_option maxRecDepth 20000 in
theorem mf_X3_41 : Cond.fieldLink RX3 41 "ArchiveDesk$Reader" "faultPlace" "I" ∈ bw := bw_mem 192 rfl rfl
set_option maxRecDepth 20000 in
theorem ml_X7_38 : Cond.methodLink RX7 38 yX4_blank ∈ bw := bw_mem 214 rfl rfl
set_option maxRecDepth 20000 in
theorem mi_X4_blank : Cond.instanceMethod yX4_blank ∈ bw := bw_mem 215 rfl rfl
set_option maxRecDepth 20000 in
theorem ms_X4_blank : Cond.selects RX4 yX4_blank yX4_blank ∈ bw := bw_mem 216 rfl rfl
set_option maxRecDepth 20000 in
theorem mc_X4_blank : Cond.code yX4_blank cX4_blank 2 none ∈ bw := bw_mem 217 rfl rfl
set_option maxRecDepth 20000 in
theorem mf_X7_14 : Cond.fieldLink RX7 14 "ArchiveDesk" "ready" "LArchiveDesk$Row;" ∈ bw := bw_mem 218 rfl rfl
set_option maxRecDepth 20000 in
theorem mf_X7_18 : Cond.fieldLink RX7 18 "ArchiveDesk" "tape" "LArchiveDesk$Row;" ∈ bw := bw_mem 219 rfl rfl
set_option maxRecDepth 20000 in
theorem mf_X7_21 : Cond.fieldLink RX7 21 "ArchiveDesk" "output" "LArchiveDesk$Row;" ∈ bw := bw_mem 220 rfl rfl
set_option maxRecDepth 20000 in
theorem mf_X7_27 : Cond.fieldLink RX7 27 "ArchiveDesk" "shelf" "LArchiveDesk$Shelf;" ∈ bw := bw_mem 221 rfl rfl
set_option maxRecDepth 20000 in
theorem mf_X7_34 : Cond.fieldLink RX7 34 "ArchiveDesk" "reader" "LArchiveDesk$Reader;" ∈ bw := bw_mem 222 rfl rfl
set_option maxRecDepth 20000 in
theorem ml_L_40 : Cond.methodLink RL 40 yX7_feed ∈ bw := bw_mem 234 rfl rfl
set_option maxRecDepth 20000 in
theorem mi_X7_feed : Cond.instanceMethod yX7_feed ∈ bw := bw_mem 235 rfl rfl
set_option maxRecDepth 20000 in
theorem ms_X7_feed : Cond.selects RX7 yX7_feed yX7_feed ∈ bw := bw_mem 236 rfl rfl
set_option maxRecDepth 20000 in
theorem mc_X7_feed : Cond.code yX7_feed cX7_feed 6 none ∈ bw := bw_mem 237 rfl rfl
set_option maxRecDepth 20000 in
theorem ml_X7_41 : Cond.methodLink RX7 41 yX4_shorten ∈ bw := bw_mem 238 rfl rfl
set_option maxRecDepth 20000 in
theorem mi_X4_shorten : Cond.instanceMethod yX4_shorten ∈ bw := bw_mem 239 rfl rfl
set_option maxRecDepth 20000 in
theorem ms_X4_shorten : Cond.selects RX4 yX4_shorten yX4_shorten ∈ bw := bw_mem 240 rfl rfl
set_option maxRecDepth 20000 in
theorem mc_X4_shorten : Cond.code yX4_shorten cX4_shorten 2 (some .boolean) ∈ bw := bw_mem 241 rfl rfl
set_option maxRecDepth 20000 in
theorem ml_X7_45 : Cond.methodLink RX7 45 yX4_pushHighFirst ∈ bw := bw_mem 242 rfl rfl
set_option maxRecDepth 20000 in
theorem mi_X4_pushHighFirst : Cond.instanceMethod yX4_pushHighFirst ∈ bw := bw_mem 243 rfl rfl
set_option maxRecDepth 20000 in
theorem ms_X4_pushHighFirst : Cond.selects RX4 yX4_pushHighFirst yX4_pushHighFirst ∈ bw := bw_mem 244 rfl rfl
set_option maxRecDepth 20000 in
theorem mc_X4_pushHighFirst : Cond.code yX4_pushHighFirst cX4_pushHighFirst 2 none ∈ bw := bw_mem 245 rfl rfl
set_option maxRecDepth 20000 in
theorem ml_X4_31 : Cond.methodLink RX4 31 yX4_push ∈ bw := bw_mem 246 rfl rfl
set_option maxRecDepth 20000 in
theorem mi_X4_push : Cond.instanceMethod yX4_push ∈ bw := bw_mem 247 rfl rfl
set_option maxRecDepth 20000 in
theorem ms_X4_push : Cond.selects RX4 yX4_push yX4_push ∈ bw := bw_mem 248 rfl rfl
set_option maxRecDepth 20000 in
theorem mc_X4_push : Cond.code yX4_push cX4_push 2 none ∈ bw := bw_mem 249 rfl rfl
set_option maxRecDepth 20000 in
theorem ml_L_45 : Cond.methodLink RL 45 yX7_end ∈ bw := bw_mem 250 rfl rfl
set_option maxRecDepth 20000 in
theorem mi_X7_end : Cond.instanceMethod yX7_end ∈ bw := bw_mem 251 rfl rfl
set_option maxRecDepth 20000 in
theorem ms_X7_end : Cond.selects RX7 yX7_end yX7_end ∈ bw := bw_mem 252 rfl rfl
set_option maxRecDepth 20000 in
theorem mc_X7_end : Cond.code yX7_end cX7_end 4 (some .int) ∈ bw := bw_mem 253 rfl rfl
set_option maxRecDepth 20000 in
theorem ml_X7_48 : Cond.methodLink RX7 48 yX4_room ∈ bw := bw_mem 254 rfl rfl
set_option maxRecDepth 20000 in
theorem mi_X4_room : Cond.instanceMethod yX4_room ∈ bw := bw_mem 255 rfl rfl
set_option maxRecDepth 20000 in
theorem ms_X4_room : Cond.selects RX4 yX4_room yX4_room ∈ bw := bw_mem 256 rfl rfl
set_option maxRecDepth 20000 in
theorem mc_X4_room : Cond.code yX4_room cX4_room 1 (some .int) ∈ bw := bw_mem 257 rfl rfl
set_option maxRecDepth 20000 in
theorem ml_X7_52 : Cond.methodLink RX7 52 yX4_append ∈ bw := bw_mem 258 rfl rfl
set_option maxRecDepth 20000 in
theorem mi_X4_append : Cond.instanceMethod yX4_append ∈ bw := bw_mem 259 rfl rfl
set_option maxRecDepth 20000 in
theorem ms_X4_append : Cond.selects RX4 yX4_append yX4_append ∈ bw := bw_mem 260 rfl rfl
set_option maxRecDepth 20000 in
theorem mc_X4_append : Cond.code yX4_append cX4_append 4 none ∈ bw := bw_mem 261 rfl rfl
set_option maxRecDepth 20000 in
theorem ml_X4_25 : Cond.methodLink RX4 25 yX4_holds ∈ bw := bw_mem 262 rfl rfl
set_option maxRecDepth 20000 in
theorem mi_X4_holds : Cond.instanceMethod yX4_holds ∈ bw := bw_mem 263 rfl rfl
set_option maxRecDepth 20000 in
theorem ms_X4_holds : Cond.selects RX4 yX4_holds yX4_holds ∈ bw := bw_mem 264 rfl rfl
set_option maxRecDepth 20000 in
theorem mc_X4_holds : Cond.code yX4_holds cX4_holds 3 (some .boolean) ∈ bw := bw_mem 265 rfl rfl
set_option maxRecDepth 20000 in
theorem ml_X4_38 : Cond.methodLink RX4 38 yX4_room ∈ bw := bw_mem 266 rfl rfl
set_option maxRecDepth 20000 in
theorem ml_X4_42 : Cond.methodLink RX4 42 ⟨"java/lang/System", "arraycopy", "(Ljava/lang/Object;ILjava/lang/Object;II)V"⟩ ∈ bw := bw_mem 267 rfl rfl
set_option maxRecDepth 20000 in
theorem ml_X7_56 : Cond.methodLink RX7 56 yX4_size ∈ bw := bw_mem 270 rfl rfl
set_option maxRecDepth 20000 in
theorem mi_X4_size : Cond.instanceMethod yX4_size ∈ bw := bw_mem 271 rfl rfl
set_option maxRecDepth 20000 in
theorem ms_X4_size : Cond.selects RX4 yX4_size yX4_size ∈ bw := bw_mem 272 rfl rfl
set_option maxRecDepth 20000 in
theorem mc_X4_size : Cond.code yX4_size cX4_size 1 (some .int) ∈ bw := bw_mem 273 rfl rfl
set_option maxRecDepth 20000 in
theorem ml_L_50 : Cond.methodLink RL 50 yX7_cut ∈ bw := bw_mem 274 rfl rfl
set_option maxRecDepth 20000 in
theorem mi_X7_cut : Cond.instanceMethod yX7_cut ∈ bw := bw_mem 275 rfl rfl
set_option maxRecDepth 20000 in
theorem ms_X7_cut : Cond.selects RX7 yX7_cut yX7_cut ∈ bw := bw_mem 276 rfl rfl
set_option maxRecDepth 20000 in
theorem mc_X7_cut : Cond.code yX7_cut cX7_cut 2 (some .boolean) ∈ bw := bw_mem 277 rfl rfl
set_option maxRecDepth 20000 in
theorem ml_L_55 : Cond.methodLink RL 55 yX7_drop ∈ bw := bw_mem 278 rfl rfl
set_option maxRecDepth 20000 in
theorem mi_X7_drop : Cond.instanceMethod yX7_drop ∈ bw := bw_mem 279 rfl rfl
set_option maxRecDepth 20000 in
theorem ms_X7_drop : Cond.selects RX7 yX7_drop yX7_drop ∈ bw := bw_mem 280 rfl rfl
set_option maxRecDepth 20000 in
theorem mc_X7_drop : Cond.code yX7_drop cX7_drop 2 (some .boolean) ∈ bw := bw_mem 281 rfl rfl
set_option maxRecDepth 20000 in
theorem ml_X7_59 : Cond.methodLink RX7 59 yX4_close ∈ bw := bw_mem 282 rfl rfl
set_option maxRecDepth 20000 in
theorem mi_X4_close : Cond.instanceMethod yX4_close ∈ bw := bw_mem 283 rfl rfl
set_option maxRecDepth 20000 in
theorem ms_X4_close : Cond.selects RX4 yX4_close yX4_close ∈ bw := bw_mem 284 rfl rfl
set_option maxRecDepth 20000 in
theorem mc_X4_close : Cond.code yX4_close cX4_close 3 (some .boolean) ∈ bw := bw_mem 285 rfl rfl
set_option maxRecDepth 20000 in
theorem ml_L_59 : Cond.methodLink RL 59 yX7_flip ∈ bw := bw_mem 286 rfl rfl
set_option maxRecDepth 20000 in
theorem mi_X7_flip : Cond.instanceMethod yX7_flip ∈ bw := bw_mem 287 rfl rfl
set_option maxRecDepth 20000 in
theorem ms_X7_flip : Cond.selects RX7 yX7_flip yX7_flip ∈ bw := bw_mem 288 rfl rfl
set_option maxRecDepth 20000 in
theorem mc_X7_flip : Cond.code yX7_flip cX7_flip 3 (some .boolean) ∈ bw := bw_mem 289 rfl rfl
set_option maxRecDepth 20000 in
theorem ml_X7_63 : Cond.methodLink RX7 63 yX4_turn ∈ bw := bw_mem 290 rfl rfl
set_option maxRecDepth 20000 in
theorem mi_X4_turn : Cond.instanceMethod yX4_turn ∈ bw := bw_mem 291 rfl rfl
set_option maxRecDepth 20000 in
theorem ms_X4_turn : Cond.selects RX4 yX4_turn yX4_turn ∈ bw := bw_mem 292 rfl rfl
set_option maxRecDepth 20000 in
theorem mc_X4_turn : Cond.code yX4_turn cX4_turn 3 (some .boolean) ∈ bw := bw_mem 293 rfl rfl
set_option maxRecDepth 20000 in
theorem ml_L_84 : Cond.methodLink RL 84 yX7_sort ∈ bw := bw_mem 294 rfl rfl
set_option maxRecDepth 20000 in
theorem mi_X7_sort : Cond.instanceMethod yX7_sort ∈ bw := bw_mem 295 rfl rfl
set_option maxRecDepth 20000 in
theorem ms_X7_sort : Cond.selects RX7 yX7_sort yX7_sort ∈ bw := bw_mem 296 rfl rfl
set_option maxRecDepth 20000 in
theorem mc_X7_sort : Cond.code yX7_sort cX7_sort 1 none ∈ bw := bw_mem 297 rfl rfl
set_option maxRecDepth 20000 in
theorem ml_X7_122 : Cond.methodLink RX7 122 yX5_putInOrder ∈ bw := bw_mem 298 rfl rfl
set_option maxRecDepth 20000 in
theorem mi_X5_putInOrder : Cond.instanceMethod yX5_putInOrder ∈ bw := bw_mem 299 rfl rfl
set_option maxRecDepth 20000 in
theorem ms_X5_putInOrder : Cond.selects RX5 yX5_putInOrder yX5_putInOrder ∈ bw := bw_mem 300 rfl rfl
set_option maxRecDepth 20000 in
theorem mc_X5_putInOrder : Cond.code yX5_putInOrder cX5_putInOrder 4 none ∈ bw := bw_mem 301 rfl rfl
set_option maxRecDepth 20000 in
theorem ml_X5_101 : Cond.methodLink RX5 101 yX4_isNameAhead ∈ bw := bw_mem 302 rfl rfl
set_option maxRecDepth 20000 in
theorem mi_X4_isNameAhead : Cond.instanceMethod yX4_isNameAhead ∈ bw := bw_mem 303 rfl rfl
set_option maxRecDepth 20000 in
theorem ms_X4_isNameAhead : Cond.selects RX4 yX4_isNameAhead yX4_isNameAhead ∈ bw := bw_mem 304 rfl rfl
set_option maxRecDepth 20000 in
theorem mc_X4_isNameAhead : Cond.code yX4_isNameAhead cX4_isNameAhead 3 (some .boolean) ∈ bw := bw_mem 305 rfl rfl
set_option maxRecDepth 20000 in
theorem ml_X4_48 : Cond.methodLink RX4 48 yX4_at ∈ bw := bw_mem 306 rfl rfl
set_option maxRecDepth 20000 in
theorem mi_X4_at : Cond.instanceMethod yX4_at ∈ bw := bw_mem 307 rfl rfl
set_option maxRecDepth 20000 in
theorem ms_X4_at : Cond.selects RX4 yX4_at yX4_at ∈ bw := bw_mem 308 rfl rfl
set_option maxRecDepth 20000 in
theorem mc_X4_at : Cond.code yX4_at cX4_at 2 (some .int) ∈ bw := bw_mem 309 rfl rfl
set_option maxRecDepth 20000 in
theorem ml_L_88 : Cond.methodLink RL 88 yX7_clear ∈ bw := bw_mem 310 rfl rfl
set_option maxRecDepth 20000 in
theorem mi_X7_clear : Cond.instanceMethod yX7_clear ∈ bw := bw_mem 311 rfl rfl
set_option maxRecDepth 20000 in
theorem ms_X7_clear : Cond.selects RX7 yX7_clear yX7_clear ∈ bw := bw_mem 312 rfl rfl
set_option maxRecDepth 20000 in
theorem mc_X7_clear : Cond.code yX7_clear cX7_clear 1 none ∈ bw := bw_mem 313 rfl rfl
set_option maxRecDepth 20000 in
theorem ml_X7_125 : Cond.methodLink RX7 125 yX5_takeOutAll ∈ bw := bw_mem 314 rfl rfl
set_option maxRecDepth 20000 in
theorem mi_X5_takeOutAll : Cond.instanceMethod yX5_takeOutAll ∈ bw := bw_mem 315 rfl rfl
set_option maxRecDepth 20000 in
theorem ms_X5_takeOutAll : Cond.selects RX5 yX5_takeOutAll yX5_takeOutAll ∈ bw := bw_mem 316 rfl rfl
set_option maxRecDepth 20000 in
theorem mc_X5_takeOutAll : Cond.code yX5_takeOutAll cX5_takeOutAll 1 none ∈ bw := bw_mem 317 rfl rfl
set_option maxRecDepth 20000 in
theorem ml_X5_97 : Cond.methodLink RX5 97 yX4_shorten ∈ bw := bw_mem 318 rfl rfl
set_option maxRecDepth 20000 in
theorem ml_L_92 : Cond.methodLink RL 92 yX7_make ∈ bw := bw_mem 319 rfl rfl
set_option maxRecDepth 20000 in
theorem mi_X7_make : Cond.instanceMethod yX7_make ∈ bw := bw_mem 320 rfl rfl
set_option maxRecDepth 20000 in
theorem ms_X7_make : Cond.selects RX7 yX7_make yX7_make ∈ bw := bw_mem 321 rfl rfl
set_option maxRecDepth 20000 in
theorem mc_X7_make : Cond.code yX7_make cX7_make 3 (some .int) ∈ bw := bw_mem 322 rfl rfl
set_option maxRecDepth 20000 in
theorem ml_X7_128 : Cond.methodLink RX7 128 yX5_writeLocals ∈ bw := bw_mem 323 rfl rfl
set_option maxRecDepth 20000 in
theorem mi_X5_writeLocals : Cond.instanceMethod yX5_writeLocals ∈ bw := bw_mem 324 rfl rfl
set_option maxRecDepth 20000 in
theorem ms_X5_writeLocals : Cond.selects RX5 yX5_writeLocals yX5_writeLocals ∈ bw := bw_mem 325 rfl rfl
set_option maxRecDepth 20000 in
theorem mc_X5_writeLocals : Cond.code yX5_writeLocals cX5_writeLocals 4 none ∈ bw := bw_mem 326 rfl rfl
set_option maxRecDepth 20000 in
theorem ml_X5_105 : Cond.methodLink RX5 105 yX6_writeLocal ∈ bw := bw_mem 327 rfl rfl
set_option maxRecDepth 20000 in
theorem mt_X6_writeLocal : Cond.static yX6_writeLocal ∈ bw := bw_mem 328 rfl rfl
set_option maxRecDepth 20000 in
theorem mc_X6_writeLocal : Cond.code yX6_writeLocal cX6_writeLocal 2 none ∈ bw := bw_mem 329 rfl rfl
set_option maxRecDepth 20000 in
theorem ml_X6_9 : Cond.methodLink RX6 9 yX4_pushSignature ∈ bw := bw_mem 330 rfl rfl
set_option maxRecDepth 20000 in
theorem mi_X4_pushSignature : Cond.instanceMethod yX4_pushSignature ∈ bw := bw_mem 331 rfl rfl
set_option maxRecDepth 20000 in
theorem ms_X4_pushSignature : Cond.selects RX4 yX4_pushSignature yX4_pushSignature ∈ bw := bw_mem 332 rfl rfl
set_option maxRecDepth 20000 in
theorem mc_X4_pushSignature : Cond.code yX4_pushSignature cX4_pushSignature 3 none ∈ bw := bw_mem 333 rfl rfl
set_option maxRecDepth 20000 in
theorem ml_X6_15 : Cond.methodLink RX6 15 yX6_writeShared ∈ bw := bw_mem 334 rfl rfl
set_option maxRecDepth 20000 in
theorem mt_X6_writeShared : Cond.static yX6_writeShared ∈ bw := bw_mem 335 rfl rfl
set_option maxRecDepth 20000 in
theorem mc_X6_writeShared : Cond.code yX6_writeShared cX6_writeShared 2 none ∈ bw := bw_mem 336 rfl rfl
set_option maxRecDepth 20000 in
theorem ml_X6_35 : Cond.methodLink RX6 35 yX4_pushTwo ∈ bw := bw_mem 337 rfl rfl
set_option maxRecDepth 20000 in
theorem mi_X4_pushTwo : Cond.instanceMethod yX4_pushTwo ∈ bw := bw_mem 338 rfl rfl
set_option maxRecDepth 20000 in
theorem ms_X4_pushTwo : Cond.selects RX4 yX4_pushTwo yX4_pushTwo ∈ bw := bw_mem 339 rfl rfl
set_option maxRecDepth 20000 in
theorem mc_X4_pushTwo : Cond.code yX4_pushTwo cX4_pushTwo 2 none ∈ bw := bw_mem 340 rfl rfl
set_option maxRecDepth 20000 in
theorem ml_X6_42 : Cond.methodLink RX6 42 yX1_method ∈ bw := bw_mem 341 rfl rfl
set_option maxRecDepth 20000 in
theorem mi_X1_method : Cond.instanceMethod yX1_method ∈ bw := bw_mem 342 rfl rfl
set_option maxRecDepth 20000 in
theorem ms_X1_method : Cond.selects RX1 yX1_method yX1_method ∈ bw := bw_mem 343 rfl rfl
set_option maxRecDepth 20000 in
theorem mc_X1_method : Cond.code yX1_method cX1_method 1 (some .int) ∈ bw := bw_mem 344 rfl rfl
set_option maxRecDepth 20000 in
theorem ml_X6_39 : Cond.methodLink RX6 39 yX4_pushFour ∈ bw := bw_mem 345 rfl rfl
set_option maxRecDepth 20000 in
theorem mi_X4_pushFour : Cond.instanceMethod yX4_pushFour ∈ bw := bw_mem 346 rfl rfl
set_option maxRecDepth 20000 in
theorem ms_X4_pushFour : Cond.selects RX4 yX4_pushFour yX4_pushFour ∈ bw := bw_mem 347 rfl rfl
set_option maxRecDepth 20000 in
theorem mc_X4_pushFour : Cond.code yX4_pushFour cX4_pushFour 2 none ∈ bw := bw_mem 348 rfl rfl
set_option maxRecDepth 20000 in
theorem ml_X4_35 : Cond.methodLink RX4 35 yX4_pushTwo ∈ bw := bw_mem 349 rfl rfl
set_option maxRecDepth 20000 in
theorem ml_X6_27 : Cond.methodLink RX6 27 yX4_size ∈ bw := bw_mem 350 rfl rfl
set_option maxRecDepth 20000 in
theorem ml_X6_31 : Cond.methodLink RX6 31 yX4_append ∈ bw := bw_mem 351 rfl rfl
set_option maxRecDepth 20000 in
theorem ml_X5_111 : Cond.methodLink RX5 111 yX1_method ∈ bw := bw_mem 352 rfl rfl
set_option maxRecDepth 20000 in
theorem ml_X5_114 : Cond.methodLink RX5 114 yX0_fold ∈ bw := bw_mem 353 rfl rfl
set_option maxRecDepth 20000 in
theorem mt_X0_fold : Cond.static yX0_fold ∈ bw := bw_mem 354 rfl rfl
set_option maxRecDepth 20000 in
theorem mc_X0_fold : Cond.code yX0_fold cX0_fold 7 none ∈ bw := bw_mem 355 rfl rfl
set_option maxRecDepth 20000 in
theorem ml_X0_19 : Cond.methodLink RX0 19 yX0_nextGroup ∈ bw := bw_mem 356 rfl rfl
set_option maxRecDepth 20000 in
theorem mt_X0_nextGroup : Cond.static yX0_nextGroup ∈ bw := bw_mem 357 rfl rfl
set_option maxRecDepth 20000 in
theorem mc_X0_nextGroup : Cond.code yX0_nextGroup cX0_nextGroup 6 (some .int) ∈ bw := bw_mem 358 rfl rfl
set_option maxRecDepth 20000 in
theorem ml_X0_40 : Cond.methodLink RX0 40 yJ9_min_7cf53 ∈ bw := bw_mem 359 rfl rfl
set_option maxRecDepth 20000 in
theorem mt_J9_min_7cf53 : Cond.static yJ9_min_7cf53 ∈ bw := bw_mem 360 rfl rfl
set_option maxRecDepth 20000 in
theorem mc_J9_min_7cf53 : Cond.code yJ9_min_7cf53 cJ9_min_7cf53 2 (some .int) ∈ bw := bw_mem 361 rfl rfl
set_option maxRecDepth 20000 in
theorem ml_X0_7 : Cond.methodLink RX0 7 yX4_at ∈ bw := bw_mem 362 rfl rfl
set_option maxRecDepth 20000 in
theorem ml_X0_32 : Cond.methodLink RX0 32 yX4_push ∈ bw := bw_mem 363 rfl rfl
set_option maxRecDepth 20000 in
theorem ml_X0_36 : Cond.methodLink RX0 36 yX4_append ∈ bw := bw_mem 364 rfl rfl
set_option maxRecDepth 20000 in
theorem ml_X0_23 : Cond.methodLink RX0 23 yJ9_abs_0f7a4 ∈ bw := bw_mem 365 rfl rfl
set_option maxRecDepth 20000 in
theorem mt_J9_abs_0f7a4 : Cond.static yJ9_abs_0f7a4 ∈ bw := bw_mem 366 rfl rfl
set_option maxRecDepth 20000 in
theorem mc_J9_abs_0f7a4 : Cond.code yJ9_abs_0f7a4 cJ9_abs_0f7a4 1 (some .int) ∈ bw := bw_mem 367 rfl rfl
set_option maxRecDepth 20000 in
theorem ml_X0_28 : Cond.methodLink RX0 28 yJ9_max_7cf53 ∈ bw := bw_mem 368 rfl rfl
set_option maxRecDepth 20000 in
theorem ml_X5_66 : Cond.methodLink RX5 66 yX4_append ∈ bw := bw_mem 369 rfl rfl
set_option maxRecDepth 20000 in
theorem ml_X7_132 : Cond.methodLink RX7 132 yX5_writeCentrals ∈ bw := bw_mem 370 rfl rfl
set_option maxRecDepth 20000 in
theorem mi_X5_writeCentrals : Cond.instanceMethod yX5_writeCentrals ∈ bw := bw_mem 371 rfl rfl
set_option maxRecDepth 20000 in
theorem ms_X5_writeCentrals : Cond.selects RX5 yX5_writeCentrals yX5_writeCentrals ∈ bw := bw_mem 372 rfl rfl
set_option maxRecDepth 20000 in
theorem mc_X5_writeCentrals : Cond.code yX5_writeCentrals cX5_writeCentrals 4 none ∈ bw := bw_mem 373 rfl rfl
set_option maxRecDepth 20000 in
theorem ml_X5_118 : Cond.methodLink RX5 118 yX6_writeCentral ∈ bw := bw_mem 374 rfl rfl
set_option maxRecDepth 20000 in
theorem mt_X6_writeCentral : Cond.static yX6_writeCentral ∈ bw := bw_mem 375 rfl rfl
set_option maxRecDepth 20000 in
theorem mc_X6_writeCentral : Cond.code yX6_writeCentral cX6_writeCentral 3 none ∈ bw := bw_mem 376 rfl rfl
set_option maxRecDepth 20000 in
theorem ml_X5_122 : Cond.methodLink RX5 122 yX1_localSize ∈ bw := bw_mem 377 rfl rfl
set_option maxRecDepth 20000 in
theorem mi_X1_localSize : Cond.instanceMethod yX1_localSize ∈ bw := bw_mem 378 rfl rfl
set_option maxRecDepth 20000 in
theorem ms_X1_localSize : Cond.selects RX1 yX1_localSize yX1_localSize ∈ bw := bw_mem 379 rfl rfl
set_option maxRecDepth 20000 in
theorem mc_X1_localSize : Cond.code yX1_localSize cX1_localSize 1 (some .int) ∈ bw := bw_mem 380 rfl rfl
set_option maxRecDepth 20000 in
theorem ml_X1_27 : Cond.methodLink RX1 27 yX4_size ∈ bw := bw_mem 381 rfl rfl
set_option maxRecDepth 20000 in
theorem ml_X7_98 : Cond.methodLink RX7 98 yX5_count ∈ bw := bw_mem 382 rfl rfl
set_option maxRecDepth 20000 in
theorem mi_X5_count : Cond.instanceMethod yX5_count ∈ bw := bw_mem 383 rfl rfl
set_option maxRecDepth 20000 in
theorem ms_X5_count : Cond.selects RX5 yX5_count yX5_count ∈ bw := bw_mem 384 rfl rfl
set_option maxRecDepth 20000 in
theorem mc_X5_count : Cond.code yX5_count cX5_count 1 (some .int) ∈ bw := bw_mem 385 rfl rfl
set_option maxRecDepth 20000 in
theorem ml_X7_135 : Cond.methodLink RX7 135 yX6_writeEnd ∈ bw := bw_mem 386 rfl rfl
set_option maxRecDepth 20000 in
theorem mt_X6_writeEnd : Cond.static yX6_writeEnd ∈ bw := bw_mem 387 rfl rfl
set_option maxRecDepth 20000 in
theorem mc_X6_writeEnd : Cond.code yX6_writeEnd cX6_writeEnd 4 none ∈ bw := bw_mem 388 rfl rfl
set_option maxRecDepth 20000 in
theorem ml_L_99 : Cond.methodLink RL 99 yX7_fault ∈ bw := bw_mem 389 rfl rfl
set_option maxRecDepth 20000 in
theorem mi_X7_fault : Cond.instanceMethod yX7_fault ∈ bw := bw_mem 390 rfl rfl
set_option maxRecDepth 20000 in
theorem ms_X7_fault : Cond.selects RX7 yX7_fault yX7_fault ∈ bw := bw_mem 391 rfl rfl
set_option maxRecDepth 20000 in
theorem mc_X7_fault : Cond.code yX7_fault cX7_fault 2 (some .int) ∈ bw := bw_mem 392 rfl rfl
set_option maxRecDepth 20000 in
theorem ml_X7_151 : Cond.methodLink RX7 151 yX3_faultNumber ∈ bw := bw_mem 393 rfl rfl
set_option maxRecDepth 20000 in
theorem mi_X3_faultNumber : Cond.instanceMethod yX3_faultNumber ∈ bw := bw_mem 394 rfl rfl
set_option maxRecDepth 20000 in
theorem ms_X3_faultNumber : Cond.selects RX3 yX3_faultNumber yX3_faultNumber ∈ bw := bw_mem 395 rfl rfl
set_option maxRecDepth 20000 in
theorem mc_X3_faultNumber : Cond.code yX3_faultNumber cX3_faultNumber 1 (some .int) ∈ bw := bw_mem 396 rfl rfl
set_option maxRecDepth 20000 in
theorem ml_X7_154 : Cond.methodLink RX7 154 yX3_faultFile ∈ bw := bw_mem 397 rfl rfl
set_option maxRecDepth 20000 in
theorem mi_X3_faultFile : Cond.instanceMethod yX3_faultFile ∈ bw := bw_mem 398 rfl rfl
set_option maxRecDepth 20000 in
theorem ms_X3_faultFile : Cond.selects RX3 yX3_faultFile yX3_faultFile ∈ bw := bw_mem 399 rfl rfl
set_option maxRecDepth 20000 in
theorem mc_X3_faultFile : Cond.code yX3_faultFile cX3_faultFile 1 (some .int) ∈ bw := bw_mem 400 rfl rfl
set_option maxRecDepth 20000 in
theorem ml_X7_157 : Cond.methodLink RX7 157 yX3_faultPlace ∈ bw := bw_mem 401 rfl rfl
set_option maxRecDepth 20000 in
theorem mi_X3_faultPlace : Cond.instanceMethod yX3_faultPlace ∈ bw := bw_mem 402 rfl rfl
set_option maxRecDepth 20000 in
theorem ms_X3_faultPlace : Cond.selects RX3 yX3_faultPlace yX3_faultPlace ∈ bw := bw_mem 403 rfl rfl
set_option maxRecDepth 20000 in
theorem mc_X3_faultPlace : Cond.code yX3_faultPlace cX3_faultPlace 1 (some .int) ∈ bw := bw_mem 404 rfl rfl
set_option maxRecDepth 20000 in
theorem ml_L_103 : Cond.methodLink RL 103 yX7_save ∈ bw := bw_mem 405 rfl rfl
set_option maxRecDepth 20000 in
theorem mi_X7_save : Cond.instanceMethod yX7_save ∈ bw := bw_mem 406 rfl rfl
set_option maxRecDepth 20000 in
theorem ms_X7_save : Cond.selects RX7 yX7_save yX7_save ∈ bw := bw_mem 407 rfl rfl
set_option maxRecDepth 20000 in
theorem mc_X7_save : Cond.code yX7_save cX7_save 4 (some .int) ∈ bw := bw_mem 408 rfl rfl
set_option maxRecDepth 20000 in
theorem ml_X7_160 : Cond.methodLink RX7 160 yX7_saveFrom ∈ bw := bw_mem 409 rfl rfl
set_option maxRecDepth 20000 in
theorem mi_X7_saveFrom : Cond.instanceMethod yX7_saveFrom ∈ bw := bw_mem 411 rfl rfl
set_option maxRecDepth 20000 in
theorem mc_X7_saveFrom : Cond.code yX7_saveFrom cX7_saveFrom 6 (some .int) ∈ bw := bw_mem 412 rfl rfl
set_option maxRecDepth 20000 in
theorem ml_X7_164 : Cond.methodLink RX7 164 yX3_wholeAt ∈ bw := bw_mem 413 rfl rfl
set_option maxRecDepth 20000 in
theorem mi_X3_wholeAt : Cond.instanceMethod yX3_wholeAt ∈ bw := bw_mem 414 rfl rfl
set_option maxRecDepth 20000 in
theorem ms_X3_wholeAt : Cond.selects RX3 yX3_wholeAt yX3_wholeAt ∈ bw := bw_mem 415 rfl rfl
set_option maxRecDepth 20000 in
theorem mc_X3_wholeAt : Cond.code yX3_wholeAt cX3_wholeAt 5 (some .boolean) ∈ bw := bw_mem 416 rfl rfl
set_option maxRecDepth 20000 in
theorem ml_X3_89 : Cond.methodLink RX3 89 yX4_hasSignature ∈ bw := bw_mem 417 rfl rfl
set_option maxRecDepth 20000 in
theorem mi_X4_hasSignature : Cond.instanceMethod yX4_hasSignature ∈ bw := bw_mem 418 rfl rfl
set_option maxRecDepth 20000 in
theorem ms_X4_hasSignature : Cond.selects RX4 yX4_hasSignature yX4_hasSignature ∈ bw := bw_mem 419 rfl rfl
set_option maxRecDepth 20000 in
theorem mc_X4_hasSignature : Cond.code yX4_hasSignature cX4_hasSignature 4 (some .boolean) ∈ bw := bw_mem 420 rfl rfl
set_option maxRecDepth 20000 in
theorem ml_X3_110 : Cond.methodLink RX3 110 yX2_parse ∈ bw := bw_mem 421 rfl rfl
set_option maxRecDepth 20000 in
theorem mi_X2_parse : Cond.instanceMethod yX2_parse ∈ bw := bw_mem 422 rfl rfl
set_option maxRecDepth 20000 in
theorem ms_X2_parse : Cond.selects RX2 yX2_parse yX2_parse ∈ bw := bw_mem 423 rfl rfl
set_option maxRecDepth 20000 in
theorem mc_X2_parse : Cond.code yX2_parse cX2_parse 3 (some .boolean) ∈ bw := bw_mem 424 rfl rfl
set_option maxRecDepth 20000 in
theorem ml_X2_9 : Cond.methodLink RX2 9 yX4_holds ∈ bw := bw_mem 425 rfl rfl
set_option maxRecDepth 20000 in
theorem ml_X2_15 : Cond.methodLink RX2 15 yX4_two ∈ bw := bw_mem 426 rfl rfl
set_option maxRecDepth 20000 in
theorem mi_X4_two : Cond.instanceMethod yX4_two ∈ bw := bw_mem 427 rfl rfl
set_option maxRecDepth 20000 in
theorem ms_X4_two : Cond.selects RX4 yX4_two yX4_two ∈ bw := bw_mem 428 rfl rfl
set_option maxRecDepth 20000 in
theorem mc_X4_two : Cond.code yX4_two cX4_two 2 (some .int) ∈ bw := bw_mem 429 rfl rfl
set_option maxRecDepth 20000 in
theorem ml_X2_25 : Cond.methodLink RX2 25 yX4_four ∈ bw := bw_mem 430 rfl rfl
set_option maxRecDepth 20000 in
theorem mi_X4_four : Cond.instanceMethod yX4_four ∈ bw := bw_mem 431 rfl rfl
set_option maxRecDepth 20000 in
theorem ms_X4_four : Cond.selects RX4 yX4_four yX4_four ∈ bw := bw_mem 432 rfl rfl
set_option maxRecDepth 20000 in
theorem mc_X4_four : Cond.code yX4_four cX4_four 4 (some .long) ∈ bw := bw_mem 433 rfl rfl
set_option maxRecDepth 20000 in
theorem mk_X4_29 : Cond.constantLong RX4 29 (-1) ∈ bw := bw_mem 434 rfl rfl
set_option maxRecDepth 20000 in
theorem ml_X3_113 : Cond.methodLink RX3 113 yX4_isName ∈ bw := bw_mem 435 rfl rfl
set_option maxRecDepth 20000 in
theorem mi_X4_isName : Cond.instanceMethod yX4_isName ∈ bw := bw_mem 436 rfl rfl
set_option maxRecDepth 20000 in
theorem ms_X4_isName : Cond.selects RX4 yX4_isName yX4_isName ∈ bw := bw_mem 437 rfl rfl
set_option maxRecDepth 20000 in
theorem mc_X4_isName : Cond.code yX4_isName cX4_isName 5 (some .boolean) ∈ bw := bw_mem 438 rfl rfl
set_option maxRecDepth 20000 in
theorem ml_X3_64 : Cond.methodLink RX3 64 yX4_size ∈ bw := bw_mem 439 rfl rfl
set_option maxRecDepth 20000 in
theorem ml_X3_131 : Cond.methodLink RX3 131 yX2_sizesFit ∈ bw := bw_mem 440 rfl rfl
set_option maxRecDepth 20000 in
theorem mi_X2_sizesFit : Cond.instanceMethod yX2_sizesFit ∈ bw := bw_mem 441 rfl rfl
set_option maxRecDepth 20000 in
theorem ms_X2_sizesFit : Cond.selects RX2 yX2_sizesFit yX2_sizesFit ∈ bw := bw_mem 442 rfl rfl
set_option maxRecDepth 20000 in
theorem mc_X2_sizesFit : Cond.code yX2_sizesFit cX2_sizesFit 1 (some .boolean) ∈ bw := bw_mem 443 rfl rfl
set_option maxRecDepth 20000 in
theorem mk_X2_42 : Cond.constantLong RX2 42 (1500) ∈ bw := bw_mem 444 rfl rfl
set_option maxRecDepth 20000 in
theorem ml_X3_137 : Cond.methodLink RX3 137 yX3_unpack ∈ bw := bw_mem 445 rfl rfl
set_option maxRecDepth 20000 in
theorem mi_X3_unpack : Cond.instanceMethod yX3_unpack ∈ bw := bw_mem 447 rfl rfl
set_option maxRecDepth 20000 in
theorem mc_X3_unpack : Cond.code yX3_unpack cX3_unpack 3 (some .boolean) ∈ bw := bw_mem 448 rfl rfl
set_option maxRecDepth 20000 in
theorem ml_X3_143 : Cond.methodLink RX3 143 yX4_shorten ∈ bw := bw_mem 449 rfl rfl
set_option maxRecDepth 20000 in
theorem ml_X3_126 : Cond.methodLink RX3 126 yX3_packedSize ∈ bw := bw_mem 450 rfl rfl
set_option maxRecDepth 20000 in
theorem mi_X3_packedSize : Cond.instanceMethod yX3_packedSize ∈ bw := bw_mem 451 rfl rfl
set_option maxRecDepth 20000 in
theorem ms_X3_packedSize : Cond.selects RX3 yX3_packedSize yX3_packedSize ∈ bw := bw_mem 452 rfl rfl
set_option maxRecDepth 20000 in
theorem mc_X3_packedSize : Cond.code yX3_packedSize cX3_packedSize 1 (some .int) ∈ bw := bw_mem 453 rfl rfl
set_option maxRecDepth 20000 in
theorem ml_X3_150 : Cond.methodLink RX3 150 yX4_append ∈ bw := bw_mem 454 rfl rfl
set_option maxRecDepth 20000 in
theorem ml_X3_154 : Cond.methodLink RX3 154 yX0_unfold ∈ bw := bw_mem 455 rfl rfl
set_option maxRecDepth 20000 in
theorem mt_X0_unfold : Cond.static yX0_unfold ∈ bw := bw_mem 456 rfl rfl
set_option maxRecDepth 20000 in
theorem mc_X0_unfold : Cond.code yX0_unfold cX0_unfold 9 (some .boolean) ∈ bw := bw_mem 457 rfl rfl
set_option maxRecDepth 20000 in
theorem ml_X0_43 : Cond.methodLink RX0 43 yX4_holds ∈ bw := bw_mem 458 rfl rfl
set_option maxRecDepth 20000 in
theorem ml_X0_47 : Cond.methodLink RX0 47 yX4_room ∈ bw := bw_mem 459 rfl rfl
set_option maxRecDepth 20000 in
theorem ml_X0_51 : Cond.methodLink RX0 51 yX0_repeat ∈ bw := bw_mem 460 rfl rfl
set_option maxRecDepth 20000 in
theorem mt_X0_repeat : Cond.static yX0_repeat ∈ bw := bw_mem 461 rfl rfl
set_option maxRecDepth 20000 in
theorem mc_X0_repeat : Cond.code yX0_repeat cX0_repeat 4 none ∈ bw := bw_mem 462 rfl rfl
set_option maxRecDepth 20000 in
theorem ml_X3_140 : Cond.methodLink RX3 140 yX3_crcAgrees ∈ bw := bw_mem 463 rfl rfl
set_option maxRecDepth 20000 in
theorem mi_X3_crcAgrees : Cond.instanceMethod yX3_crcAgrees ∈ bw := bw_mem 465 rfl rfl
set_option maxRecDepth 20000 in
theorem mc_X3_crcAgrees : Cond.code yX3_crcAgrees cX3_crcAgrees 1 (some .boolean) ∈ bw := bw_mem 466 rfl rfl
set_option maxRecDepth 20000 in
theorem ml_X3_160 : Cond.methodLink RX3 160 yX0_crc ∈ bw := bw_mem 467 rfl rfl
set_option maxRecDepth 20000 in
theorem mt_X0_crc : Cond.static yX0_crc ∈ bw := bw_mem 468 rfl rfl
set_option maxRecDepth 20000 in
theorem mc_X0_crc : Cond.code yX0_crc cX0_crc 5 (some .int) ∈ bw := bw_mem 469 rfl rfl
set_option maxRecDepth 20000 in
theorem mf_X0_13 : Cond.fieldLink RX0 13 "ArchiveDesk$Codec" "CRC_STEPS" "[I" ∈ bw := bw_mem 470 rfl rfl
set_option maxRecDepth 20000 in
theorem ml_X7_168 : Cond.methodLink RX7 168 yX3_nameSize ∈ bw := bw_mem 472 rfl rfl
set_option maxRecDepth 20000 in
theorem mi_X3_nameSize : Cond.instanceMethod yX3_nameSize ∈ bw := bw_mem 473 rfl rfl
set_option maxRecDepth 20000 in
theorem ms_X3_nameSize : Cond.selects RX3 yX3_nameSize yX3_nameSize ∈ bw := bw_mem 474 rfl rfl
set_option maxRecDepth 20000 in
theorem mc_X3_nameSize : Cond.code yX3_nameSize cX3_nameSize 1 (some .int) ∈ bw := bw_mem 475 rfl rfl
set_option maxRecDepth 20000 in
theorem ml_X7_171 : Cond.methodLink RX7 171 yX3_unpacked ∈ bw := bw_mem 476 rfl rfl
set_option maxRecDepth 20000 in
theorem mi_X3_unpacked : Cond.instanceMethod yX3_unpacked ∈ bw := bw_mem 477 rfl rfl
set_option maxRecDepth 20000 in
theorem ms_X3_unpacked : Cond.selects RX3 yX3_unpacked yX3_unpacked ∈ bw := bw_mem 478 rfl rfl
set_option maxRecDepth 20000 in
theorem mc_X3_unpacked : Cond.code yX3_unpacked cX3_unpacked 1 (some (.object "ArchiveDesk$Row")) ∈ bw := bw_mem 479 rfl rfl
set_option maxRecDepth 20000 in
theorem ml_X7_83 : Cond.methodLink RX7 83 yX5_lookUp ∈ bw := bw_mem 480 rfl rfl
set_option maxRecDepth 20000 in
theorem mi_X5_lookUp : Cond.instanceMethod yX5_lookUp ∈ bw := bw_mem 481 rfl rfl
set_option maxRecDepth 20000 in
theorem ms_X5_lookUp : Cond.selects RX5 yX5_lookUp yX5_lookUp ∈ bw := bw_mem 482 rfl rfl
set_option maxRecDepth 20000 in
theorem mc_X5_lookUp : Cond.code yX5_lookUp cX5_lookUp 6 (some .int) ∈ bw := bw_mem 483 rfl rfl
set_option maxRecDepth 20000 in
theorem ml_X5_31 : Cond.methodLink RX5 31 yX4_size ∈ bw := bw_mem 484 rfl rfl
set_option maxRecDepth 20000 in
theorem ml_X5_47 : Cond.methodLink RX5 47 yX4_agrees ∈ bw := bw_mem 485 rfl rfl
set_option maxRecDepth 20000 in
theorem mi_X4_agrees : Cond.instanceMethod yX4_agrees ∈ bw := bw_mem 486 rfl rfl
set_option maxRecDepth 20000 in
theorem ms_X4_agrees : Cond.selects RX4 yX4_agrees yX4_agrees ∈ bw := bw_mem 487 rfl rfl
set_option maxRecDepth 20000 in
theorem mc_X4_agrees : Cond.code yX4_agrees cX4_agrees 6 (some .boolean) ∈ bw := bw_mem 488 rfl rfl
set_option maxRecDepth 20000 in
theorem ml_X7_89 : Cond.methodLink RX7 89 yX5_hasRoom ∈ bw := bw_mem 489 rfl rfl
set_option maxRecDepth 20000 in
theorem mi_X5_hasRoom : Cond.instanceMethod yX5_hasRoom ∈ bw := bw_mem 490 rfl rfl
set_option maxRecDepth 20000 in
theorem ms_X5_hasRoom : Cond.selects RX5 yX5_hasRoom yX5_hasRoom ∈ bw := bw_mem 491 rfl rfl
set_option maxRecDepth 20000 in
theorem mc_X5_hasRoom : Cond.code yX5_hasRoom cX5_hasRoom 6 (some .boolean) ∈ bw := bw_mem 492 rfl rfl
set_option maxRecDepth 20000 in
theorem ml_X5_51 : Cond.methodLink RX5 51 yX5_entry ∈ bw := bw_mem 493 rfl rfl
set_option maxRecDepth 20000 in
theorem mi_X5_entry : Cond.instanceMethod yX5_entry ∈ bw := bw_mem 494 rfl rfl
set_option maxRecDepth 20000 in
theorem ms_X5_entry : Cond.selects RX5 yX5_entry yX5_entry ∈ bw := bw_mem 495 rfl rfl
set_option maxRecDepth 20000 in
theorem mc_X5_entry : Cond.code yX5_entry cX5_entry 2 (some (.object "ArchiveDesk$Entry")) ∈ bw := bw_mem 496 rfl rfl
set_option maxRecDepth 20000 in
theorem ml_X5_55 : Cond.methodLink RX5 55 yX4_room ∈ bw := bw_mem 497 rfl rfl
set_option maxRecDepth 20000 in
theorem ml_X7_119 : Cond.methodLink RX7 119 yX5_takeOut ∈ bw := bw_mem 498 rfl rfl
set_option maxRecDepth 20000 in
theorem mi_X5_takeOut : Cond.instanceMethod yX5_takeOut ∈ bw := bw_mem 499 rfl rfl
set_option maxRecDepth 20000 in
theorem ms_X5_takeOut : Cond.selects RX5 yX5_takeOut yX5_takeOut ∈ bw := bw_mem 500 rfl rfl
set_option maxRecDepth 20000 in
theorem mc_X5_takeOut : Cond.code yX5_takeOut cX5_takeOut 4 none ∈ bw := bw_mem 501 rfl rfl
set_option maxRecDepth 20000 in
theorem ml_X5_89 : Cond.methodLink RX5 89 yX5_release ∈ bw := bw_mem 502 rfl rfl
set_option maxRecDepth 20000 in
theorem mi_X5_release : Cond.instanceMethod yX5_release ∈ bw := bw_mem 504 rfl rfl
set_option maxRecDepth 20000 in
theorem mc_X5_release : Cond.code yX5_release cX5_release 3 none ∈ bw := bw_mem 505 rfl rfl
set_option maxRecDepth 20000 in
theorem ml_X5_93 : Cond.methodLink RX5 93 yX4_close ∈ bw := bw_mem 506 rfl rfl
set_option maxRecDepth 20000 in
theorem ml_X7_94 : Cond.methodLink RX7 94 yX5_put ∈ bw := bw_mem 507 rfl rfl
set_option maxRecDepth 20000 in
theorem mi_X5_put : Cond.instanceMethod yX5_put ∈ bw := bw_mem 508 rfl rfl
set_option maxRecDepth 20000 in
theorem ms_X5_put : Cond.selects RX5 yX5_put yX5_put ∈ bw := bw_mem 509 rfl rfl
set_option maxRecDepth 20000 in
theorem mc_X5_put : Cond.code yX5_put cX5_put 8 none ∈ bw := bw_mem 510 rfl rfl
set_option maxRecDepth 20000 in
theorem ml_X5_58 : Cond.methodLink RX5 58 yX1_setName ∈ bw := bw_mem 511 rfl rfl
set_option maxRecDepth 20000 in
theorem mi_X1_setName : Cond.instanceMethod yX1_setName ∈ bw := bw_mem 512 rfl rfl
set_option maxRecDepth 20000 in
theorem ms_X1_setName : Cond.selects RX1 yX1_setName yX1_setName ∈ bw := bw_mem 513 rfl rfl
set_option maxRecDepth 20000 in
theorem mc_X1_setName : Cond.code yX1_setName cX1_setName 4 none ∈ bw := bw_mem 514 rfl rfl
set_option maxRecDepth 20000 in
theorem ml_X1_30 : Cond.methodLink RX1 30 yX4_shorten ∈ bw := bw_mem 515 rfl rfl
set_option maxRecDepth 20000 in
theorem ml_X1_34 : Cond.methodLink RX1 34 yX4_append ∈ bw := bw_mem 516 rfl rfl
set_option maxRecDepth 20000 in
theorem ml_X5_62 : Cond.methodLink RX5 62 yX5_fill ∈ bw := bw_mem 517 rfl rfl
set_option maxRecDepth 20000 in
theorem mi_X5_fill : Cond.instanceMethod yX5_fill ∈ bw := bw_mem 519 rfl rfl
set_option maxRecDepth 20000 in
theorem mc_X5_fill : Cond.code yX5_fill cX5_fill 5 none ∈ bw := bw_mem 520 rfl rfl
set_option maxRecDepth 20000 in
theorem ml_X5_69 : Cond.methodLink RX5 69 yX0_crc ∈ bw := bw_mem 521 rfl rfl
set_option maxRecDepth 20000 in
theorem ml_X5_77 : Cond.methodLink RX5 77 yX0_foldedSize ∈ bw := bw_mem 522 rfl rfl
set_option maxRecDepth 20000 in
theorem mt_X0_foldedSize : Cond.static yX0_foldedSize ∈ bw := bw_mem 523 rfl rfl
set_option maxRecDepth 20000 in
theorem mc_X0_foldedSize : Cond.code yX0_foldedSize cX0_foldedSize 7 (some .int) ∈ bw := bw_mem 524 rfl rfl
set_option maxRecDepth 20000 in
theorem ml_X5_80 : Cond.methodLink RX5 80 yJ9_min_7cf53 ∈ bw := bw_mem 525 rfl rfl
set_option maxRecDepth 20000 in
theorem ml_X7_175 : Cond.methodLink RX7 175 yX3_packedSize ∈ bw := bw_mem 526 rfl rfl
set_option maxRecDepth 20000 in
theorem ml_L_107 : Cond.methodLink RL 107 yX7_file ∈ bw := bw_mem 527 rfl rfl
set_option maxRecDepth 20000 in
theorem mi_X7_file : Cond.instanceMethod yX7_file ∈ bw := bw_mem 528 rfl rfl
set_option maxRecDepth 20000 in
theorem ms_X7_file : Cond.selects RX7 yX7_file yX7_file ∈ bw := bw_mem 529 rfl rfl
set_option maxRecDepth 20000 in
theorem mc_X7_file : Cond.code yX7_file cX7_file 4 (some .int) ∈ bw := bw_mem 530 rfl rfl
set_option maxRecDepth 20000 in
theorem ml_X7_101 : Cond.methodLink RX7 101 yX5_entry ∈ bw := bw_mem 531 rfl rfl
set_option maxRecDepth 20000 in
theorem ml_X7_189 : Cond.methodLink RX7 189 yX1_method ∈ bw := bw_mem 532 rfl rfl
set_option maxRecDepth 20000 in
theorem ml_L_111 : Cond.methodLink RL 111 yX7_letter ∈ bw := bw_mem 533 rfl rfl
set_option maxRecDepth 20000 in
theorem mi_X7_letter : Cond.instanceMethod yX7_letter ∈ bw := bw_mem 534 rfl rfl
set_option maxRecDepth 20000 in
theorem ms_X7_letter : Cond.selects RX7 yX7_letter yX7_letter ∈ bw := bw_mem 535 rfl rfl
set_option maxRecDepth 20000 in
theorem mc_X7_letter : Cond.code yX7_letter cX7_letter 5 (some .int) ∈ bw := bw_mem 536 rfl rfl
set_option maxRecDepth 20000 in
theorem ml_X7_195 : Cond.methodLink RX7 195 yX4_at ∈ bw := bw_mem 537 rfl rfl
set_option maxRecDepth 20000 in
theorem ml_X7_198 : Cond.methodLink RX7 198 yX5_byteOf ∈ bw := bw_mem 538 rfl rfl
set_option maxRecDepth 20000 in
theorem mi_X5_byteOf : Cond.instanceMethod yX5_byteOf ∈ bw := bw_mem 539 rfl rfl
set_option maxRecDepth 20000 in
theorem ms_X5_byteOf : Cond.selects RX5 yX5_byteOf yX5_byteOf ∈ bw := bw_mem 540 rfl rfl
set_option maxRecDepth 20000 in
theorem mc_X5_byteOf : Cond.code yX5_byteOf cX5_byteOf 3 (some .int) ∈ bw := bw_mem 541 rfl rfl
set_option maxRecDepth 20000 in
theorem ml_X5_40 : Cond.methodLink RX5 40 yX4_at ∈ bw := bw_mem 542 rfl rfl
set_option maxRecDepth 20000 in
theorem ml_L_116 : Cond.methodLink RL 116 yX7_find ∈ bw := bw_mem 543 rfl rfl
set_option maxRecDepth 20000 in
theorem mi_X7_find : Cond.instanceMethod yX7_find ∈ bw := bw_mem 544 rfl rfl
set_option maxRecDepth 20000 in
theorem ms_X7_find : Cond.selects RX7 yX7_find yX7_find ∈ bw := bw_mem 545 rfl rfl
set_option maxRecDepth 20000 in
theorem mc_X7_find : Cond.code yX7_find cX7_find 1 (some .int) ∈ bw := bw_mem 546 rfl rfl
set_option maxRecDepth 20000 in
theorem ml_L_120 : Cond.methodLink RL 120 yX7_output ∈ bw := bw_mem 547 rfl rfl
set_option maxRecDepth 20000 in
theorem mi_X7_output : Cond.instanceMethod yX7_output ∈ bw := bw_mem 548 rfl rfl
set_option maxRecDepth 20000 in
theorem ms_X7_output : Cond.selects RX7 yX7_output yX7_output ∈ bw := bw_mem 549 rfl rfl
set_option maxRecDepth 20000 in
theorem mc_X7_output : Cond.code yX7_output cX7_output 2 (some .int) ∈ bw := bw_mem 550 rfl rfl
set_option maxRecDepth 20000 in
theorem ml_L_124 : Cond.methodLink RL 124 yX7_about ∈ bw := bw_mem 551 rfl rfl
set_option maxRecDepth 20000 in
theorem mi_X7_about : Cond.instanceMethod yX7_about ∈ bw := bw_mem 552 rfl rfl
set_option maxRecDepth 20000 in
theorem ms_X7_about : Cond.selects RX7 yX7_about yX7_about ∈ bw := bw_mem 553 rfl rfl
set_option maxRecDepth 20000 in
theorem mc_X7_about : Cond.code yX7_about cX7_about 2 (some .int) ∈ bw := bw_mem 554 rfl rfl
set_option maxRecDepth 20000 in
theorem ml_X7_202 : Cond.methodLink RX7 202 yX5_together ∈ bw := bw_mem 555 rfl rfl
set_option maxRecDepth 20000 in
theorem mi_X5_together : Cond.instanceMethod yX5_together ∈ bw := bw_mem 556 rfl rfl
set_option maxRecDepth 20000 in
theorem ms_X5_together : Cond.selects RX5 yX5_together yX5_together ∈ bw := bw_mem 557 rfl rfl
set_option maxRecDepth 20000 in
theorem mc_X5_together : Cond.code yX5_together cX5_together 1 (some .int) ∈ bw := bw_mem 558 rfl rfl
set_option maxRecDepth 20000 in
theorem ml_L_64 : Cond.methodLink RL 64 yL_take ∈ bw := bw_mem 559 rfl rfl
set_option maxRecDepth 20000 in
theorem mt_L_take : Cond.static yL_take ∈ bw := bw_mem 560 rfl rfl
set_option maxRecDepth 20000 in
theorem ml_L_7 : Cond.methodLink RL 7 yX7_take ∈ bw := bw_mem 563 rfl rfl
set_option maxRecDepth 20000 in
theorem mi_X7_take : Cond.instanceMethod yX7_take ∈ bw := bw_mem 564 rfl rfl
set_option maxRecDepth 20000 in
theorem ms_X7_take : Cond.selects RX7 yX7_take yX7_take ∈ bw := bw_mem 565 rfl rfl
set_option maxRecDepth 20000 in
theorem mc_X7_take : Cond.code yX7_take cX7_take 1 (some .int) ∈ bw := bw_mem 566 rfl rfl
set_option maxRecDepth 20000 in
theorem ml_X7_70 : Cond.methodLink RX7 70 ⟨"java/lang/IllegalStateException", "<init>", "(Ljava/lang/String;)V"⟩ ∈ bw := bw_mem 609 rfl rfl
set_option maxRecDepth 20000 in
theorem ml_L_70 : Cond.methodLink RL 70 yL_add ∈ bw := bw_mem 635 rfl rfl
set_option maxRecDepth 20000 in
theorem mt_L_add : Cond.static yL_add ∈ bw := bw_mem 636 rfl rfl
set_option maxRecDepth 20000 in
theorem ml_L_15 : Cond.methodLink RL 15 yX7_add ∈ bw := bw_mem 639 rfl rfl
set_option maxRecDepth 20000 in
theorem mi_X7_add : Cond.instanceMethod yX7_add ∈ bw := bw_mem 640 rfl rfl
set_option maxRecDepth 20000 in
theorem ms_X7_add : Cond.selects RX7 yX7_add yX7_add ∈ bw := bw_mem 641 rfl rfl
set_option maxRecDepth 20000 in
theorem mc_X7_add : Cond.code yX7_add cX7_add 3 (some .int) ∈ bw := bw_mem 642 rfl rfl
set_option maxRecDepth 20000 in
theorem ml_X7_73 : Cond.methodLink RX7 73 yX4_isName ∈ bw := bw_mem 643 rfl rfl
set_option maxRecDepth 20000 in
theorem ml_X7_80 : Cond.methodLink RX7 80 ⟨"java/lang/IllegalArgumentException", "<init>", "(Ljava/lang/String;)V"⟩ ∈ bw := bw_mem 654 rfl rfl
set_option maxRecDepth 20000 in
theorem ml_L_74 : Cond.methodLink RL 74 yL_replace ∈ bw := bw_mem 663 rfl rfl
set_option maxRecDepth 20000 in
theorem mt_L_replace : Cond.static yL_replace ∈ bw := bw_mem 664 rfl rfl
set_option maxRecDepth 20000 in
theorem ml_L_21 : Cond.methodLink RL 21 yX7_replace ∈ bw := bw_mem 667 rfl rfl
set_option maxRecDepth 20000 in
theorem mi_X7_replace : Cond.instanceMethod yX7_replace ∈ bw := bw_mem 668 rfl rfl
set_option maxRecDepth 20000 in
theorem ms_X7_replace : Cond.selects RX7 yX7_replace yX7_replace ∈ bw := bw_mem 669 rfl rfl
set_option maxRecDepth 20000 in
theorem mc_X7_replace : Cond.code yX7_replace cX7_replace 2 none ∈ bw := bw_mem 670 rfl rfl
set_option maxRecDepth 20000 in
theorem ml_X7_109 : Cond.methodLink RX7 109 ⟨"java/lang/IndexOutOfBoundsException", "<init>", "(Ljava/lang/String;)V"⟩ ∈ bw := bw_mem 681 rfl rfl
set_option maxRecDepth 20000 in
theorem ml_X7_112 : Cond.methodLink RX7 112 yX5_changeBytes ∈ bw := bw_mem 688 rfl rfl
set_option maxRecDepth 20000 in
theorem mi_X5_changeBytes : Cond.instanceMethod yX5_changeBytes ∈ bw := bw_mem 689 rfl rfl
set_option maxRecDepth 20000 in
theorem ms_X5_changeBytes : Cond.selects RX5 yX5_changeBytes yX5_changeBytes ∈ bw := bw_mem 690 rfl rfl
set_option maxRecDepth 20000 in
theorem mc_X5_changeBytes : Cond.code yX5_changeBytes cX5_changeBytes 4 none ∈ bw := bw_mem 691 rfl rfl
set_option maxRecDepth 20000 in
theorem ml_L_78 : Cond.methodLink RL 78 yL_rename ∈ bw := bw_mem 692 rfl rfl
set_option maxRecDepth 20000 in
theorem mt_L_rename : Cond.static yL_rename ∈ bw := bw_mem 693 rfl rfl
set_option maxRecDepth 20000 in
theorem ml_L_27 : Cond.methodLink RL 27 yX7_rename ∈ bw := bw_mem 695 rfl rfl
set_option maxRecDepth 20000 in
theorem mi_X7_rename : Cond.instanceMethod yX7_rename ∈ bw := bw_mem 696 rfl rfl
set_option maxRecDepth 20000 in
theorem ms_X7_rename : Cond.selects RX7 yX7_rename yX7_rename ∈ bw := bw_mem 697 rfl rfl
set_option maxRecDepth 20000 in
theorem mc_X7_rename : Cond.code yX7_rename cX7_rename 3 none ∈ bw := bw_mem 698 rfl rfl
set_option maxRecDepth 20000 in
theorem ml_X7_116 : Cond.methodLink RX7 116 yX5_changeName ∈ bw := bw_mem 699 rfl rfl
set_option maxRecDepth 20000 in
theorem mi_X5_changeName : Cond.instanceMethod yX5_changeName ∈ bw := bw_mem 700 rfl rfl
set_option maxRecDepth 20000 in
theorem ms_X5_changeName : Cond.selects RX5 yX5_changeName yX5_changeName ∈ bw := bw_mem 701 rfl rfl
set_option maxRecDepth 20000 in
theorem mc_X5_changeName : Cond.code yX5_changeName cX5_changeName 4 none ∈ bw := bw_mem 702 rfl rfl
set_option maxRecDepth 20000 in
theorem ml_L_81 : Cond.methodLink RL 81 yL_remove ∈ bw := bw_mem 703 rfl rfl
set_option maxRecDepth 20000 in
theorem mt_L_remove : Cond.static yL_remove ∈ bw := bw_mem 704 rfl rfl
set_option maxRecDepth 20000 in
theorem ml_L_30 : Cond.methodLink RL 30 yX7_remove ∈ bw := bw_mem 706 rfl rfl
set_option maxRecDepth 20000 in
theorem mi_X7_remove : Cond.instanceMethod yX7_remove ∈ bw := bw_mem 707 rfl rfl
set_option maxRecDepth 20000 in
theorem ms_X7_remove : Cond.selects RX7 yX7_remove yX7_remove ∈ bw := bw_mem 708 rfl rfl
set_option maxRecDepth 20000 in
theorem mc_X7_remove : Cond.code yX7_remove cX7_remove 2 none ∈ bw := bw_mem 709 rfl rfl
set_option maxRecDepth 20000 in
theorem ml_L_96 : Cond.methodLink RL 96 yL_read ∈ bw := bw_mem 710 rfl rfl
set_option maxRecDepth 20000 in
theorem mt_L_read : Cond.static yL_read ∈ bw := bw_mem 711 rfl rfl
set_option maxRecDepth 20000 in
theorem ml_L_33 : Cond.methodLink RL 33 yX7_read ∈ bw := bw_mem 713 rfl rfl
set_option maxRecDepth 20000 in
theorem mi_X7_read : Cond.instanceMethod yX7_read ∈ bw := bw_mem 714 rfl rfl
set_option maxRecDepth 20000 in
theorem ms_X7_read : Cond.selects RX7 yX7_read yX7_read ∈ bw := bw_mem 715 rfl rfl
set_option maxRecDepth 20000 in
theorem mc_X7_read : Cond.code yX7_read cX7_read 1 (some .int) ∈ bw := bw_mem 716 rfl rfl
set_option maxRecDepth 20000 in
theorem ml_X7_141 : Cond.methodLink RX7 141 yX3_passes ∈ bw := bw_mem 717 rfl rfl
set_option maxRecDepth 20000 in
theorem mi_X3_passes : Cond.instanceMethod yX3_passes ∈ bw := bw_mem 718 rfl rfl
set_option maxRecDepth 20000 in
theorem ms_X3_passes : Cond.selects RX3 yX3_passes yX3_passes ∈ bw := bw_mem 719 rfl rfl
set_option maxRecDepth 20000 in
theorem mc_X3_passes : Cond.code yX3_passes cX3_passes 2 (some .boolean) ∈ bw := bw_mem 720 rfl rfl
set_option maxRecDepth 20000 in
theorem ml_X3_51 : Cond.methodLink RX3 51 yX3_endPasses ∈ bw := bw_mem 721 rfl rfl
set_option maxRecDepth 20000 in
theorem mi_X3_endPasses : Cond.instanceMethod yX3_endPasses ∈ bw := bw_mem 723 rfl rfl
set_option maxRecDepth 20000 in
theorem mc_X3_endPasses : Cond.code yX3_endPasses cX3_endPasses 2 (some .boolean) ∈ bw := bw_mem 724 rfl rfl
set_option maxRecDepth 20000 in
theorem ml_X3_68 : Cond.methodLink RX3 68 yJ9_max_7cf53 ∈ bw := bw_mem 725 rfl rfl
set_option maxRecDepth 20000 in
theorem ml_X3_77 : Cond.methodLink RX3 77 yX3_endStands ∈ bw := bw_mem 726 rfl rfl
set_option maxRecDepth 20000 in
theorem mi_X3_endStands : Cond.instanceMethod yX3_endStands ∈ bw := bw_mem 728 rfl rfl
set_option maxRecDepth 20000 in
theorem mc_X3_endStands : Cond.code yX3_endStands cX3_endStands 8 (some .boolean) ∈ bw := bw_mem 729 rfl rfl
set_option maxRecDepth 20000 in
theorem ml_X3_85 : Cond.methodLink RX3 85 yX4_holds ∈ bw := bw_mem 730 rfl rfl
set_option maxRecDepth 20000 in
theorem ml_X3_92 : Cond.methodLink RX3 92 yX4_two ∈ bw := bw_mem 731 rfl rfl
set_option maxRecDepth 20000 in
theorem ml_X3_96 : Cond.methodLink RX3 96 yX4_four ∈ bw := bw_mem 732 rfl rfl
set_option maxRecDepth 20000 in
theorem ml_X3_81 : Cond.methodLink RX3 81 yX3_fails ∈ bw := bw_mem 733 rfl rfl
set_option maxRecDepth 20000 in
theorem mi_X3_fails : Cond.instanceMethod yX3_fails ∈ bw := bw_mem 735 rfl rfl
set_option maxRecDepth 20000 in
theorem mc_X3_fails : Cond.code yX3_fails cX3_fails 4 (some .boolean) ∈ bw := bw_mem 736 rfl rfl
set_option maxRecDepth 20000 in
theorem ml_X3_55 : Cond.methodLink RX3 55 yX3_centralsPass ∈ bw := bw_mem 737 rfl rfl
set_option maxRecDepth 20000 in
theorem mi_X3_centralsPass : Cond.instanceMethod yX3_centralsPass ∈ bw := bw_mem 739 rfl rfl
set_option maxRecDepth 20000 in
theorem mc_X3_centralsPass : Cond.code yX3_centralsPass cX3_centralsPass 5 (some .boolean) ∈ bw := bw_mem 740 rfl rfl
set_option maxRecDepth 20000 in
theorem ml_X3_106 : Cond.methodLink RX3 106 yX3_centralStands ∈ bw := bw_mem 741 rfl rfl
set_option maxRecDepth 20000 in
theorem mi_X3_centralStands : Cond.instanceMethod yX3_centralStands ∈ bw := bw_mem 743 rfl rfl
set_option maxRecDepth 20000 in
theorem mc_X3_centralStands : Cond.code yX3_centralStands cX3_centralStands 4 (some .boolean) ∈ bw := bw_mem 744 rfl rfl
set_option maxRecDepth 20000 in
theorem ml_X3_116 : Cond.methodLink RX3 116 yX3_isEarlierName ∈ bw := bw_mem 745 rfl rfl
set_option maxRecDepth 20000 in
theorem mi_X3_isEarlierName : Cond.instanceMethod yX3_isEarlierName ∈ bw := bw_mem 747 rfl rfl
set_option maxRecDepth 20000 in
theorem mc_X3_isEarlierName : Cond.code yX3_isEarlierName cX3_isEarlierName 6 (some .boolean) ∈ bw := bw_mem 748 rfl rfl
set_option maxRecDepth 20000 in
theorem ml_X3_119 : Cond.methodLink RX3 119 yX4_agrees ∈ bw := bw_mem 749 rfl rfl
set_option maxRecDepth 20000 in
theorem ml_X3_58 : Cond.methodLink RX3 58 yX3_localsPass ∈ bw := bw_mem 750 rfl rfl
set_option maxRecDepth 20000 in
theorem mi_X3_localsPass : Cond.instanceMethod yX3_localsPass ∈ bw := bw_mem 752 rfl rfl
set_option maxRecDepth 20000 in
theorem mc_X3_localsPass : Cond.code yX3_localsPass cX3_localsPass 5 (some .boolean) ∈ bw := bw_mem 753 rfl rfl
set_option maxRecDepth 20000 in
theorem ml_X3_123 : Cond.methodLink RX3 123 yX3_localStands ∈ bw := bw_mem 754 rfl rfl
set_option maxRecDepth 20000 in
theorem mi_X3_localStands : Cond.instanceMethod yX3_localStands ∈ bw := bw_mem 756 rfl rfl
set_option maxRecDepth 20000 in
theorem mc_X3_localStands : Cond.code yX3_localStands cX3_localStands 4 (some .boolean) ∈ bw := bw_mem 757 rfl rfl
set_option maxRecDepth 20000 in
theorem ml_X3_61 : Cond.methodLink RX3 61 yX3_contentsPass ∈ bw := bw_mem 758 rfl rfl
set_option maxRecDepth 20000 in
theorem mi_X3_contentsPass : Cond.instanceMethod yX3_contentsPass ∈ bw := bw_mem 760 rfl rfl
set_option maxRecDepth 20000 in
theorem mc_X3_contentsPass : Cond.code yX3_contentsPass cX3_contentsPass 6 (some .boolean) ∈ bw := bw_mem 761 rfl rfl
set_option maxRecDepth 20000 in
theorem mk_X3_135 : Cond.constantLong RX3 135 (6000) ∈ bw := bw_mem 762 rfl rfl
set_option maxRecDepth 20000 in
theorem ml_X7_147 : Cond.methodLink RX7 147 yX3_load ∈ bw := bw_mem 764 rfl rfl
set_option maxRecDepth 20000 in
theorem mi_X3_load : Cond.instanceMethod yX3_load ∈ bw := bw_mem 765 rfl rfl
set_option maxRecDepth 20000 in
theorem ms_X3_load : Cond.selects RX3 yX3_load yX3_load ∈ bw := bw_mem 766 rfl rfl
set_option maxRecDepth 20000 in
theorem mc_X3_load : Cond.code yX3_load cX3_load 6 none ∈ bw := bw_mem 767 rfl rfl
set_option maxRecDepth 20000 in
theorem ml_X3_166 : Cond.methodLink RX3 166 yX5_put ∈ bw := bw_mem 768 rfl rfl
set_option maxRecDepth 20000 in
theorem ml_L_39 : Cond.methodLink RL 39 yX8_init ∈ bw := bw_mem 771 rfl rfl
set_option maxRecDepth 20000 in
theorem mi_X8_init : Cond.instanceMethod yX8_init ∈ bw := bw_mem 772 rfl rfl
set_option maxRecDepth 20000 in
theorem mc_X8_init : Cond.code yX8_init cX8_init 1 none ∈ bw := bw_mem 773 rfl rfl
set_option maxRecDepth 20000 in
theorem ml_X8_1 : Cond.methodLink RX8 1 ⟨"java/lang/Object", "<init>", "()V"⟩ ∈ bw := bw_mem 774 rfl rfl
set_option maxRecDepth 20000 in
theorem mf_X8_50 : Cond.fieldLink RX8 50 "ArchiveDeskModel" "thrown" "I" ∈ bw := bw_mem 775 rfl rfl
set_option maxRecDepth 20000 in
theorem mf_X8_7 : Cond.fieldLink RX8 7 "ArchiveDeskModel" "ready" "[I" ∈ bw := bw_mem 776 rfl rfl
set_option maxRecDepth 20000 in
theorem mf_X8_13 : Cond.fieldLink RX8 13 "ArchiveDeskModel" "tape" "[I" ∈ bw := bw_mem 777 rfl rfl
set_option maxRecDepth 20000 in
theorem mf_X8_53 : Cond.fieldLink RX8 53 "ArchiveDeskModel" "size" "I" ∈ bw := bw_mem 778 rfl rfl
set_option maxRecDepth 20000 in
theorem mf_X8_16 : Cond.fieldLink RX8 16 "ArchiveDeskModel" "output" "[I" ∈ bw := bw_mem 779 rfl rfl
set_option maxRecDepth 20000 in
theorem mf_X8_56 : Cond.fieldLink RX8 56 "ArchiveDeskModel" "outputSize" "I" ∈ bw := bw_mem 780 rfl rfl
set_option maxRecDepth 20000 in
theorem mf_X8_59 : Cond.fieldLink RX8 59 "ArchiveDeskModel" "files" "I" ∈ bw := bw_mem 781 rfl rfl
set_option maxRecDepth 20000 in
theorem mf_X8_19 : Cond.fieldLink RX8 19 "ArchiveDeskModel" "names" "[I" ∈ bw := bw_mem 782 rfl rfl
set_option maxRecDepth 20000 in
theorem mf_X8_22 : Cond.fieldLink RX8 22 "ArchiveDeskModel" "nameSize" "[I" ∈ bw := bw_mem 783 rfl rfl
set_option maxRecDepth 20000 in
theorem mf_X8_25 : Cond.fieldLink RX8 25 "ArchiveDeskModel" "bytes" "[I" ∈ bw := bw_mem 784 rfl rfl
set_option maxRecDepth 20000 in
theorem mf_X8_28 : Cond.fieldLink RX8 28 "ArchiveDeskModel" "many" "[I" ∈ bw := bw_mem 785 rfl rfl
set_option maxRecDepth 20000 in
theorem mf_X8_138 : Cond.fieldLink RX8 138 "ArchiveDeskModel" "fault" "I" ∈ bw := bw_mem 786 rfl rfl
set_option maxRecDepth 20000 in
theorem mf_X8_31 : Cond.fieldLink RX8 31 "ArchiveDeskModel" "faultFile" "I" ∈ bw := bw_mem 787 rfl rfl
set_option maxRecDepth 20000 in
theorem mf_X8_35 : Cond.fieldLink RX8 35 "ArchiveDeskModel" "faultPlace" "I" ∈ bw := bw_mem 788 rfl rfl
set_option maxRecDepth 20000 in
theorem mf_X8_38 : Cond.fieldLink RX8 38 "ArchiveDeskModel" "folded" "[I" ∈ bw := bw_mem 789 rfl rfl
set_option maxRecDepth 20000 in
theorem mf_X8_96 : Cond.fieldLink RX8 96 "ArchiveDeskModel" "foldedSize" "I" ∈ bw := bw_mem 790 rfl rfl
set_option maxRecDepth 20000 in
theorem mf_X8_41 : Cond.fieldLink RX8 41 "ArchiveDeskModel" "centralAt" "[I" ∈ bw := bw_mem 791 rfl rfl
set_option maxRecDepth 20000 in
theorem mf_X8_44 : Cond.fieldLink RX8 44 "ArchiveDeskModel" "bytesAt" "[I" ∈ bw := bw_mem 792 rfl rfl
set_option maxRecDepth 20000 in
theorem mf_X8_47 : Cond.fieldLink RX8 47 "ArchiveDeskModel" "where" "[I" ∈ bw := bw_mem 793 rfl rfl
set_option maxRecDepth 20000 in
theorem ml_L_44 : Cond.methodLink RL 44 yX8_feed ∈ bw := bw_mem 833 rfl rfl
set_option maxRecDepth 20000 in
theorem mi_X8_feed : Cond.instanceMethod yX8_feed ∈ bw := bw_mem 834 rfl rfl
set_option maxRecDepth 20000 in
theorem ms_X8_feed : Cond.selects RX8 yX8_feed yX8_feed ∈ bw := bw_mem 835 rfl rfl
set_option maxRecDepth 20000 in
theorem mc_X8_feed : Cond.code yX8_feed cX8_feed 8 none ∈ bw := bw_mem 836 rfl rfl
set_option maxRecDepth 20000 in
theorem ml_L_49 : Cond.methodLink RL 49 yX8_end ∈ bw := bw_mem 837 rfl rfl
set_option maxRecDepth 20000 in
theorem mi_X8_end : Cond.instanceMethod yX8_end ∈ bw := bw_mem 838 rfl rfl
set_option maxRecDepth 20000 in
theorem ms_X8_end : Cond.selects RX8 yX8_end yX8_end ∈ bw := bw_mem 839 rfl rfl
set_option maxRecDepth 20000 in
theorem mc_X8_end : Cond.code yX8_end cX8_end 5 (some .int) ∈ bw := bw_mem 840 rfl rfl
set_option maxRecDepth 20000 in
theorem ml_L_54 : Cond.methodLink RL 54 yX8_cut ∈ bw := bw_mem 841 rfl rfl
set_option maxRecDepth 20000 in
theorem mi_X8_cut : Cond.instanceMethod yX8_cut ∈ bw := bw_mem 842 rfl rfl
set_option maxRecDepth 20000 in
theorem ms_X8_cut : Cond.selects RX8 yX8_cut yX8_cut ∈ bw := bw_mem 843 rfl rfl
set_option maxRecDepth 20000 in
theorem mc_X8_cut : Cond.code yX8_cut cX8_cut 2 (some .boolean) ∈ bw := bw_mem 844 rfl rfl
set_option maxRecDepth 20000 in
theorem ml_L_58 : Cond.methodLink RL 58 yX8_drop ∈ bw := bw_mem 845 rfl rfl
set_option maxRecDepth 20000 in
theorem mi_X8_drop : Cond.instanceMethod yX8_drop ∈ bw := bw_mem 846 rfl rfl
set_option maxRecDepth 20000 in
theorem ms_X8_drop : Cond.selects RX8 yX8_drop yX8_drop ∈ bw := bw_mem 847 rfl rfl
set_option maxRecDepth 20000 in
theorem mc_X8_drop : Cond.code yX8_drop cX8_drop 3 (some .boolean) ∈ bw := bw_mem 848 rfl rfl
set_option maxRecDepth 20000 in
theorem ml_L_63 : Cond.methodLink RL 63 yX8_flip ∈ bw := bw_mem 849 rfl rfl
set_option maxRecDepth 20000 in
theorem mi_X8_flip : Cond.instanceMethod yX8_flip ∈ bw := bw_mem 850 rfl rfl
set_option maxRecDepth 20000 in
theorem ms_X8_flip : Cond.selects RX8 yX8_flip yX8_flip ∈ bw := bw_mem 851 rfl rfl
set_option maxRecDepth 20000 in
theorem mc_X8_flip : Cond.code yX8_flip cX8_flip 3 (some .boolean) ∈ bw := bw_mem 852 rfl rfl
set_option maxRecDepth 20000 in
theorem ml_L_69 : Cond.methodLink RL 69 yX8_take ∈ bw := bw_mem 853 rfl rfl
set_option maxRecDepth 20000 in
theorem mi_X8_take : Cond.instanceMethod yX8_take ∈ bw := bw_mem 854 rfl rfl
set_option maxRecDepth 20000 in
theorem ms_X8_take : Cond.selects RX8 yX8_take yX8_take ∈ bw := bw_mem 855 rfl rfl
set_option maxRecDepth 20000 in
theorem mc_X8_take : Cond.code yX8_take cX8_take 2 (some .int) ∈ bw := bw_mem 856 rfl rfl
set_option maxRecDepth 20000 in
theorem ml_L_73 : Cond.methodLink RL 73 yX8_add ∈ bw := bw_mem 857 rfl rfl
set_option maxRecDepth 20000 in
theorem mi_X8_add : Cond.instanceMethod yX8_add ∈ bw := bw_mem 858 rfl rfl
set_option maxRecDepth 20000 in
theorem ms_X8_add : Cond.selects RX8 yX8_add yX8_add ∈ bw := bw_mem 859 rfl rfl
set_option maxRecDepth 20000 in
theorem mc_X8_add : Cond.code yX8_add cX8_add 2 (some .int) ∈ bw := bw_mem 860 rfl rfl
set_option maxRecDepth 20000 in
theorem ml_X8_66 : Cond.methodLink RX8 66 yX8_isName ∈ bw := bw_mem 861 rfl rfl
set_option maxRecDepth 20000 in
theorem mi_X8_isName : Cond.instanceMethod yX8_isName ∈ bw := bw_mem 863 rfl rfl
set_option maxRecDepth 20000 in
theorem mc_X8_isName : Cond.code yX8_isName cX8_isName 5 (some .boolean) ∈ bw := bw_mem 864 rfl rfl
set_option maxRecDepth 20000 in
theorem ml_X8_70 : Cond.methodLink RX8 70 yX8_named ∈ bw := bw_mem 865 rfl rfl
set_option maxRecDepth 20000 in
theorem mi_X8_named : Cond.instanceMethod yX8_named ∈ bw := bw_mem 867 rfl rfl
set_option maxRecDepth 20000 in
theorem mc_X8_named : Cond.code yX8_named cX8_named 7 (some .int) ∈ bw := bw_mem 868 rfl rfl
set_option maxRecDepth 20000 in
theorem ml_X8_74 : Cond.methodLink RX8 74 yX8_total ∈ bw := bw_mem 869 rfl rfl
set_option maxRecDepth 20000 in
theorem mi_X8_total : Cond.instanceMethod yX8_total ∈ bw := bw_mem 871 rfl rfl
set_option maxRecDepth 20000 in
theorem mc_X8_total : Cond.code yX8_total cX8_total 3 (some .int) ∈ bw := bw_mem 872 rfl rfl
set_option maxRecDepth 20000 in
theorem ml_X8_78 : Cond.methodLink RX8 78 yX8_setName ∈ bw := bw_mem 873 rfl rfl
set_option maxRecDepth 20000 in
theorem mi_X8_setName : Cond.instanceMethod yX8_setName ∈ bw := bw_mem 875 rfl rfl
set_option maxRecDepth 20000 in
theorem mc_X8_setName : Cond.code yX8_setName cX8_setName 5 none ∈ bw := bw_mem 876 rfl rfl
set_option maxRecDepth 20000 in
theorem ml_X8_82 : Cond.methodLink RX8 82 yX8_setBytes ∈ bw := bw_mem 877 rfl rfl
set_option maxRecDepth 20000 in
theorem mi_X8_setBytes : Cond.instanceMethod yX8_setBytes ∈ bw := bw_mem 879 rfl rfl
set_option maxRecDepth 20000 in
theorem mc_X8_setBytes : Cond.code yX8_setBytes cX8_setBytes 5 none ∈ bw := bw_mem 880 rfl rfl
set_option maxRecDepth 20000 in
theorem ml_L_77 : Cond.methodLink RL 77 yX8_replace ∈ bw := bw_mem 881 rfl rfl
set_option maxRecDepth 20000 in
theorem mi_X8_replace : Cond.instanceMethod yX8_replace ∈ bw := bw_mem 882 rfl rfl
set_option maxRecDepth 20000 in
theorem ms_X8_replace : Cond.selects RX8 yX8_replace yX8_replace ∈ bw := bw_mem 883 rfl rfl
set_option maxRecDepth 20000 in
theorem mc_X8_replace : Cond.code yX8_replace cX8_replace 2 none ∈ bw := bw_mem 884 rfl rfl
set_option maxRecDepth 20000 in
theorem ml_X8_85 : Cond.methodLink RX8 85 yX8_isFile ∈ bw := bw_mem 885 rfl rfl
set_option maxRecDepth 20000 in
theorem mi_X8_isFile : Cond.instanceMethod yX8_isFile ∈ bw := bw_mem 887 rfl rfl
set_option maxRecDepth 20000 in
theorem mc_X8_isFile : Cond.code yX8_isFile cX8_isFile 2 (some .boolean) ∈ bw := bw_mem 888 rfl rfl
set_option maxRecDepth 20000 in
theorem ml_L_80 : Cond.methodLink RL 80 yX8_rename ∈ bw := bw_mem 889 rfl rfl
set_option maxRecDepth 20000 in
theorem mi_X8_rename : Cond.instanceMethod yX8_rename ∈ bw := bw_mem 890 rfl rfl
set_option maxRecDepth 20000 in
theorem ms_X8_rename : Cond.selects RX8 yX8_rename yX8_rename ∈ bw := bw_mem 891 rfl rfl
set_option maxRecDepth 20000 in
theorem mc_X8_rename : Cond.code yX8_rename cX8_rename 3 none ∈ bw := bw_mem 892 rfl rfl
set_option maxRecDepth 20000 in
theorem ml_L_83 : Cond.methodLink RL 83 yX8_remove ∈ bw := bw_mem 893 rfl rfl
set_option maxRecDepth 20000 in
theorem mi_X8_remove : Cond.instanceMethod yX8_remove ∈ bw := bw_mem 894 rfl rfl
set_option maxRecDepth 20000 in
theorem ms_X8_remove : Cond.selects RX8 yX8_remove yX8_remove ∈ bw := bw_mem 895 rfl rfl
set_option maxRecDepth 20000 in
theorem mc_X8_remove : Cond.code yX8_remove cX8_remove 2 none ∈ bw := bw_mem 896 rfl rfl
set_option maxRecDepth 20000 in
theorem ml_X8_89 : Cond.methodLink RX8 89 yX8_goes ∈ bw := bw_mem 897 rfl rfl
set_option maxRecDepth 20000 in
theorem mi_X8_goes : Cond.instanceMethod yX8_goes ∈ bw := bw_mem 899 rfl rfl
set_option maxRecDepth 20000 in
theorem mc_X8_goes : Cond.code yX8_goes cX8_goes 3 none ∈ bw := bw_mem 900 rfl rfl
set_option maxRecDepth 20000 in
theorem ml_X8_62 : Cond.methodLink RX8 62 yX8_copyFile ∈ bw := bw_mem 901 rfl rfl
set_option maxRecDepth 20000 in
theorem mi_X8_copyFile : Cond.instanceMethod yX8_copyFile ∈ bw := bw_mem 903 rfl rfl
set_option maxRecDepth 20000 in
theorem mc_X8_copyFile : Cond.code yX8_copyFile cX8_copyFile 4 none ∈ bw := bw_mem 904 rfl rfl
set_option maxRecDepth 20000 in
theorem ml_L_87 : Cond.methodLink RL 87 yX8_sort ∈ bw := bw_mem 905 rfl rfl
set_option maxRecDepth 20000 in
theorem mi_X8_sort : Cond.instanceMethod yX8_sort ∈ bw := bw_mem 906 rfl rfl
set_option maxRecDepth 20000 in
theorem ms_X8_sort : Cond.selects RX8 yX8_sort yX8_sort ∈ bw := bw_mem 907 rfl rfl
set_option maxRecDepth 20000 in
theorem mc_X8_sort : Cond.code yX8_sort cX8_sort 4 none ∈ bw := bw_mem 908 rfl rfl
set_option maxRecDepth 20000 in
theorem ml_X8_93 : Cond.methodLink RX8 93 yX8_isAhead ∈ bw := bw_mem 909 rfl rfl
set_option maxRecDepth 20000 in
theorem mi_X8_isAhead : Cond.instanceMethod yX8_isAhead ∈ bw := bw_mem 911 rfl rfl
set_option maxRecDepth 20000 in
theorem mc_X8_isAhead : Cond.code yX8_isAhead cX8_isAhead 4 (some .boolean) ∈ bw := bw_mem 912 rfl rfl
set_option maxRecDepth 20000 in
theorem ml_L_91 : Cond.methodLink RL 91 yX8_clear ∈ bw := bw_mem 913 rfl rfl
set_option maxRecDepth 20000 in
theorem mi_X8_clear : Cond.instanceMethod yX8_clear ∈ bw := bw_mem 914 rfl rfl
set_option maxRecDepth 20000 in
theorem ms_X8_clear : Cond.selects RX8 yX8_clear yX8_clear ∈ bw := bw_mem 915 rfl rfl
set_option maxRecDepth 20000 in
theorem mc_X8_clear : Cond.code yX8_clear cX8_clear 1 none ∈ bw := bw_mem 916 rfl rfl
set_option maxRecDepth 20000 in
theorem ml_L_95 : Cond.methodLink RL 95 yX8_make ∈ bw := bw_mem 917 rfl rfl
set_option maxRecDepth 20000 in
theorem mi_X8_make : Cond.instanceMethod yX8_make ∈ bw := bw_mem 918 rfl rfl
set_option maxRecDepth 20000 in
theorem ms_X8_make : Cond.selects RX8 yX8_make yX8_make ∈ bw := bw_mem 919 rfl rfl
set_option maxRecDepth 20000 in
theorem mc_X8_make : Cond.code yX8_make cX8_make 5 (some .int) ∈ bw := bw_mem 920 rfl rfl
set_option maxRecDepth 20000 in
theorem ml_X8_123 : Cond.methodLink RX8 123 yX8_sign ∈ bw := bw_mem 921 rfl rfl
set_option maxRecDepth 20000 in
theorem mi_X8_sign : Cond.instanceMethod yX8_sign ∈ bw := bw_mem 923 rfl rfl
set_option maxRecDepth 20000 in
theorem mc_X8_sign : Cond.code yX8_sign cX8_sign 3 none ∈ bw := bw_mem 924 rfl rfl
set_option maxRecDepth 20000 in
theorem ml_X8_114 : Cond.methodLink RX8 114 yX8_write ∈ bw := bw_mem 925 rfl rfl
set_option maxRecDepth 20000 in
theorem mi_X8_write : Cond.instanceMethod yX8_write ∈ bw := bw_mem 927 rfl rfl
set_option maxRecDepth 20000 in
theorem mc_X8_write : Cond.code yX8_write cX8_write 4 none ∈ bw := bw_mem 928 rfl rfl
set_option maxRecDepth 20000 in
theorem ml_X8_126 : Cond.methodLink RX8 126 yX8_writeFacts ∈ bw := bw_mem 929 rfl rfl
set_option maxRecDepth 20000 in
theorem mi_X8_writeFacts : Cond.instanceMethod yX8_writeFacts ∈ bw := bw_mem 931 rfl rfl
set_option maxRecDepth 20000 in
theorem mc_X8_writeFacts : Cond.code yX8_writeFacts cX8_writeFacts 2 none ∈ bw := bw_mem 932 rfl rfl
set_option maxRecDepth 20000 in
theorem ml_X8_109 : Cond.methodLink RX8 109 yX8_method ∈ bw := bw_mem 933 rfl rfl
set_option maxRecDepth 20000 in
theorem mi_X8_method : Cond.instanceMethod yX8_method ∈ bw := bw_mem 935 rfl rfl
set_option maxRecDepth 20000 in
theorem mc_X8_method : Cond.code yX8_method cX8_method 2 (some .int) ∈ bw := bw_mem 936 rfl rfl
set_option maxRecDepth 20000 in
theorem ml_X8_106 : Cond.methodLink RX8 106 yX8_fold ∈ bw := bw_mem 937 rfl rfl
set_option maxRecDepth 20000 in
theorem mi_X8_fold : Cond.instanceMethod yX8_fold ∈ bw := bw_mem 939 rfl rfl
set_option maxRecDepth 20000 in
theorem mc_X8_fold : Cond.code yX8_fold cX8_fold 7 none ∈ bw := bw_mem 940 rfl rfl
set_option maxRecDepth 20000 in
theorem ml_X8_99 : Cond.methodLink RX8 99 yX8_alike ∈ bw := bw_mem 941 rfl rfl
set_option maxRecDepth 20000 in
theorem mi_X8_alike : Cond.instanceMethod yX8_alike ∈ bw := bw_mem 943 rfl rfl
set_option maxRecDepth 20000 in
theorem mc_X8_alike : Cond.code yX8_alike cX8_alike 4 (some .int) ∈ bw := bw_mem 944 rfl rfl
set_option maxRecDepth 20000 in
theorem ml_X8_103 : Cond.methodLink RX8 103 yX8_put ∈ bw := bw_mem 945 rfl rfl
set_option maxRecDepth 20000 in
theorem mi_X8_put : Cond.instanceMethod yX8_put ∈ bw := bw_mem 947 rfl rfl
set_option maxRecDepth 20000 in
theorem mc_X8_put : Cond.code yX8_put cX8_put 2 none ∈ bw := bw_mem 948 rfl rfl
set_option maxRecDepth 20000 in
theorem ml_X8_117 : Cond.methodLink RX8 117 yX8_crc ∈ bw := bw_mem 949 rfl rfl
set_option maxRecDepth 20000 in
theorem mi_X8_crc : Cond.instanceMethod yX8_crc ∈ bw := bw_mem 951 rfl rfl
set_option maxRecDepth 20000 in
theorem mc_X8_crc : Cond.code yX8_crc cX8_crc 5 (some .int) ∈ bw := bw_mem 952 rfl rfl
set_option maxRecDepth 20000 in
theorem mk_X8_113 : Cond.constant RX8 113 (-306674912) ∈ bw := bw_mem 953 rfl rfl
set_option maxRecDepth 20000 in
theorem ml_X8_120 : Cond.methodLink RX8 120 yX8_packedSize ∈ bw := bw_mem 954 rfl rfl
set_option maxRecDepth 20000 in
theorem mi_X8_packedSize : Cond.instanceMethod yX8_packedSize ∈ bw := bw_mem 956 rfl rfl
set_option maxRecDepth 20000 in
theorem mc_X8_packedSize : Cond.code yX8_packedSize cX8_packedSize 2 (some .int) ∈ bw := bw_mem 957 rfl rfl
set_option maxRecDepth 20000 in
theorem ml_X8_129 : Cond.methodLink RX8 129 yX8_writeName ∈ bw := bw_mem 958 rfl rfl
set_option maxRecDepth 20000 in
theorem mi_X8_writeName : Cond.instanceMethod yX8_writeName ∈ bw := bw_mem 960 rfl rfl
set_option maxRecDepth 20000 in
theorem mc_X8_writeName : Cond.code yX8_writeName cX8_writeName 3 none ∈ bw := bw_mem 961 rfl rfl
set_option maxRecDepth 20000 in
theorem ml_L_98 : Cond.methodLink RL 98 yX8_read ∈ bw := bw_mem 962 rfl rfl
set_option maxRecDepth 20000 in
theorem mi_X8_read : Cond.instanceMethod yX8_read ∈ bw := bw_mem 963 rfl rfl
set_option maxRecDepth 20000 in
theorem ms_X8_read : Cond.selects RX8 yX8_read yX8_read ∈ bw := bw_mem 964 rfl rfl
set_option maxRecDepth 20000 in
theorem mc_X8_read : Cond.code yX8_read cX8_read 5 (some .int) ∈ bw := bw_mem 965 rfl rfl
set_option maxRecDepth 20000 in
theorem ml_X8_177 : Cond.methodLink RX8 177 yX8_findEnd ∈ bw := bw_mem 966 rfl rfl
set_option maxRecDepth 20000 in
theorem mi_X8_findEnd : Cond.instanceMethod yX8_findEnd ∈ bw := bw_mem 968 rfl rfl
set_option maxRecDepth 20000 in
theorem mc_X8_findEnd : Cond.code yX8_findEnd cX8_findEnd 6 (some .int) ∈ bw := bw_mem 969 rfl rfl
set_option maxRecDepth 20000 in
theorem ml_X8_145 : Cond.methodLink RX8 145 yX8_isSign ∈ bw := bw_mem 970 rfl rfl
set_option maxRecDepth 20000 in
theorem mi_X8_isSign : Cond.instanceMethod yX8_isSign ∈ bw := bw_mem 972 rfl rfl
set_option maxRecDepth 20000 in
theorem mc_X8_isSign : Cond.code yX8_isSign cX8_isSign 4 (some .boolean) ∈ bw := bw_mem 973 rfl rfl
set_option maxRecDepth 20000 in
theorem ml_X8_141 : Cond.methodLink RX8 141 yX8_is ∈ bw := bw_mem 974 rfl rfl
set_option maxRecDepth 20000 in
theorem mi_X8_is : Cond.instanceMethod yX8_is ∈ bw := bw_mem 976 rfl rfl
set_option maxRecDepth 20000 in
theorem mc_X8_is : Cond.code yX8_is cX8_is 4 (some .boolean) ∈ bw := bw_mem 977 rfl rfl
set_option maxRecDepth 20000 in
theorem ml_X8_135 : Cond.methodLink RX8 135 yX8_number ∈ bw := bw_mem 978 rfl rfl
set_option maxRecDepth 20000 in
theorem mi_X8_number : Cond.instanceMethod yX8_number ∈ bw := bw_mem 980 rfl rfl
set_option maxRecDepth 20000 in
theorem mc_X8_number : Cond.code yX8_number cX8_number 6 (some .int) ∈ bw := bw_mem 981 rfl rfl
set_option maxRecDepth 20000 in
theorem mk_X8_132 : Cond.constantLong RX8 132 (2147483647) ∈ bw := bw_mem 982 rfl rfl
set_option maxRecDepth 20000 in
theorem mk_X8_134 : Cond.constant RX8 134 (2147483647) ∈ bw := bw_mem 983 rfl rfl
set_option maxRecDepth 20000 in
theorem ml_X8_157 : Cond.methodLink RX8 157 yX8_fails ∈ bw := bw_mem 984 rfl rfl
set_option maxRecDepth 20000 in
theorem mi_X8_fails : Cond.instanceMethod yX8_fails ∈ bw := bw_mem 986 rfl rfl
set_option maxRecDepth 20000 in
theorem mc_X8_fails : Cond.code yX8_fails cX8_fails 4 (some .boolean) ∈ bw := bw_mem 987 rfl rfl
set_option maxRecDepth 20000 in
theorem ml_X8_180 : Cond.methodLink RX8 180 yX8_findCentrals ∈ bw := bw_mem 988 rfl rfl
set_option maxRecDepth 20000 in
theorem mi_X8_findCentrals : Cond.instanceMethod yX8_findCentrals ∈ bw := bw_mem 990 rfl rfl
set_option maxRecDepth 20000 in
theorem mc_X8_findCentrals : Cond.code yX8_findCentrals cX8_findCentrals 6 (some .boolean) ∈ bw := bw_mem 991 rfl rfl
set_option maxRecDepth 20000 in
theorem ml_X8_154 : Cond.methodLink RX8 154 yX8_isCentral ∈ bw := bw_mem 992 rfl rfl
set_option maxRecDepth 20000 in
theorem mi_X8_isCentral : Cond.instanceMethod yX8_isCentral ∈ bw := bw_mem 994 rfl rfl
set_option maxRecDepth 20000 in
theorem mc_X8_isCentral : Cond.code yX8_isCentral cX8_isCentral 7 (some .boolean) ∈ bw := bw_mem 995 rfl rfl
set_option maxRecDepth 20000 in
theorem ml_X8_148 : Cond.methodLink RX8 148 yX8_areFacts ∈ bw := bw_mem 996 rfl rfl
set_option maxRecDepth 20000 in
theorem mi_X8_areFacts : Cond.instanceMethod yX8_areFacts ∈ bw := bw_mem 998 rfl rfl
set_option maxRecDepth 20000 in
theorem mc_X8_areFacts : Cond.code yX8_areFacts cX8_areFacts 3 (some .boolean) ∈ bw := bw_mem 999 rfl rfl
set_option maxRecDepth 20000 in
theorem ml_X8_151 : Cond.methodLink RX8 151 yX8_isSame ∈ bw := bw_mem 1000 rfl rfl
set_option maxRecDepth 20000 in
theorem mi_X8_isSame : Cond.instanceMethod yX8_isSame ∈ bw := bw_mem 1002 rfl rfl
set_option maxRecDepth 20000 in
theorem mc_X8_isSame : Cond.code yX8_isSame cX8_isSame 6 (some .boolean) ∈ bw := bw_mem 1003 rfl rfl
set_option maxRecDepth 20000 in
theorem ml_X8_183 : Cond.methodLink RX8 183 yX8_findLocals ∈ bw := bw_mem 1004 rfl rfl
set_option maxRecDepth 20000 in
theorem mi_X8_findLocals : Cond.instanceMethod yX8_findLocals ∈ bw := bw_mem 1006 rfl rfl
set_option maxRecDepth 20000 in
theorem mc_X8_findLocals : Cond.code yX8_findLocals cX8_findLocals 6 (some .boolean) ∈ bw := bw_mem 1007 rfl rfl
set_option maxRecDepth 20000 in
theorem ml_X8_162 : Cond.methodLink RX8 162 yX8_isLocal ∈ bw := bw_mem 1008 rfl rfl
set_option maxRecDepth 20000 in
theorem mi_X8_isLocal : Cond.instanceMethod yX8_isLocal ∈ bw := bw_mem 1010 rfl rfl
set_option maxRecDepth 20000 in
theorem mc_X8_isLocal : Cond.code yX8_isLocal cX8_isLocal 9 (some .boolean) ∈ bw := bw_mem 1011 rfl rfl
set_option maxRecDepth 20000 in
theorem mk_X8_160 : Cond.constantLong RX8 160 (30) ∈ bw := bw_mem 1012 rfl rfl
set_option maxRecDepth 20000 in
theorem ml_X8_186 : Cond.methodLink RX8 186 yX8_areBytes ∈ bw := bw_mem 1013 rfl rfl
set_option maxRecDepth 20000 in
theorem mi_X8_areBytes : Cond.instanceMethod yX8_areBytes ∈ bw := bw_mem 1015 rfl rfl
set_option maxRecDepth 20000 in
theorem mc_X8_areBytes : Cond.code yX8_areBytes cX8_areBytes 6 (some .boolean) ∈ bw := bw_mem 1016 rfl rfl
set_option maxRecDepth 20000 in
theorem ml_X8_166 : Cond.methodLink RX8 166 yX8_areSizes ∈ bw := bw_mem 1017 rfl rfl
set_option maxRecDepth 20000 in
theorem mi_X8_areSizes : Cond.instanceMethod yX8_areSizes ∈ bw := bw_mem 1019 rfl rfl
set_option maxRecDepth 20000 in
theorem mc_X8_areSizes : Cond.code yX8_areSizes cX8_areSizes 4 (some .boolean) ∈ bw := bw_mem 1020 rfl rfl
set_option maxRecDepth 20000 in
theorem mk_X8_169 : Cond.constantLong RX8 169 (6000) ∈ bw := bw_mem 1021 rfl rfl
set_option maxRecDepth 20000 in
theorem ml_X8_171 : Cond.methodLink RX8 171 yX8_unfold ∈ bw := bw_mem 1022 rfl rfl
set_option maxRecDepth 20000 in
theorem mi_X8_unfold : Cond.instanceMethod yX8_unfold ∈ bw := bw_mem 1024 rfl rfl
set_option maxRecDepth 20000 in
theorem mc_X8_unfold : Cond.code yX8_unfold cX8_unfold 12 (some .boolean) ∈ bw := bw_mem 1025 rfl rfl
set_option maxRecDepth 20000 in
theorem ml_X8_174 : Cond.methodLink RX8 174 yX8_isCrc ∈ bw := bw_mem 1026 rfl rfl
set_option maxRecDepth 20000 in
theorem mi_X8_isCrc : Cond.instanceMethod yX8_isCrc ∈ bw := bw_mem 1028 rfl rfl
set_option maxRecDepth 20000 in
theorem mc_X8_isCrc : Cond.code yX8_isCrc cX8_isCrc 5 (some .boolean) ∈ bw := bw_mem 1029 rfl rfl
set_option maxRecDepth 20000 in
theorem ml_X8_189 : Cond.methodLink RX8 189 yX8_append ∈ bw := bw_mem 1030 rfl rfl
set_option maxRecDepth 20000 in
theorem mi_X8_append : Cond.instanceMethod yX8_append ∈ bw := bw_mem 1032 rfl rfl
set_option maxRecDepth 20000 in
theorem mc_X8_append : Cond.code yX8_append cX8_append 6 none ∈ bw := bw_mem 1033 rfl rfl
set_option maxRecDepth 20000 in
theorem ml_L_102 : Cond.methodLink RL 102 yX8_fault ∈ bw := bw_mem 1034 rfl rfl
set_option maxRecDepth 20000 in
theorem mi_X8_fault : Cond.instanceMethod yX8_fault ∈ bw := bw_mem 1035 rfl rfl
set_option maxRecDepth 20000 in
theorem ms_X8_fault : Cond.selects RX8 yX8_fault yX8_fault ∈ bw := bw_mem 1036 rfl rfl
set_option maxRecDepth 20000 in
theorem mc_X8_fault : Cond.code yX8_fault cX8_fault 2 (some .int) ∈ bw := bw_mem 1037 rfl rfl
set_option maxRecDepth 20000 in
theorem ml_L_106 : Cond.methodLink RL 106 yX8_save ∈ bw := bw_mem 1038 rfl rfl
set_option maxRecDepth 20000 in
theorem mi_X8_save : Cond.instanceMethod yX8_save ∈ bw := bw_mem 1039 rfl rfl
set_option maxRecDepth 20000 in
theorem ms_X8_save : Cond.selects RX8 yX8_save yX8_save ∈ bw := bw_mem 1040 rfl rfl
set_option maxRecDepth 20000 in
theorem mc_X8_save : Cond.code yX8_save cX8_save 4 (some .int) ∈ bw := bw_mem 1041 rfl rfl
set_option maxRecDepth 20000 in
theorem ml_X8_193 : Cond.methodLink RX8 193 yX8_saved ∈ bw := bw_mem 1042 rfl rfl
set_option maxRecDepth 20000 in
theorem mi_X8_saved : Cond.instanceMethod yX8_saved ∈ bw := bw_mem 1044 rfl rfl
set_option maxRecDepth 20000 in
theorem mc_X8_saved : Cond.code yX8_saved cX8_saved 6 (some .int) ∈ bw := bw_mem 1045 rfl rfl
set_option maxRecDepth 20000 in
theorem ml_L_110 : Cond.methodLink RL 110 yX8_file ∈ bw := bw_mem 1046 rfl rfl
set_option maxRecDepth 20000 in
theorem mi_X8_file : Cond.instanceMethod yX8_file ∈ bw := bw_mem 1047 rfl rfl
set_option maxRecDepth 20000 in
theorem ms_X8_file : Cond.selects RX8 yX8_file yX8_file ∈ bw := bw_mem 1048 rfl rfl
set_option maxRecDepth 20000 in
theorem mc_X8_file : Cond.code yX8_file cX8_file 3 (some .int) ∈ bw := bw_mem 1049 rfl rfl
set_option maxRecDepth 20000 in
theorem ml_L_115 : Cond.methodLink RL 115 yX8_letter ∈ bw := bw_mem 1050 rfl rfl
set_option maxRecDepth 20000 in
theorem mi_X8_letter : Cond.instanceMethod yX8_letter ∈ bw := bw_mem 1051 rfl rfl
set_option maxRecDepth 20000 in
theorem ms_X8_letter : Cond.selects RX8 yX8_letter yX8_letter ∈ bw := bw_mem 1052 rfl rfl
set_option maxRecDepth 20000 in
theorem mc_X8_letter : Cond.code yX8_letter cX8_letter 4 (some .int) ∈ bw := bw_mem 1053 rfl rfl
set_option maxRecDepth 20000 in
theorem ml_L_119 : Cond.methodLink RL 119 yX8_find ∈ bw := bw_mem 1054 rfl rfl
set_option maxRecDepth 20000 in
theorem mi_X8_find : Cond.instanceMethod yX8_find ∈ bw := bw_mem 1055 rfl rfl
set_option maxRecDepth 20000 in
theorem ms_X8_find : Cond.selects RX8 yX8_find yX8_find ∈ bw := bw_mem 1056 rfl rfl
set_option maxRecDepth 20000 in
theorem mc_X8_find : Cond.code yX8_find cX8_find 1 (some .int) ∈ bw := bw_mem 1057 rfl rfl
set_option maxRecDepth 20000 in
theorem ml_L_123 : Cond.methodLink RL 123 yX8_output ∈ bw := bw_mem 1058 rfl rfl
set_option maxRecDepth 20000 in
theorem mi_X8_output : Cond.instanceMethod yX8_output ∈ bw := bw_mem 1059 rfl rfl
set_option maxRecDepth 20000 in
theorem ms_X8_output : Cond.selects RX8 yX8_output yX8_output ∈ bw := bw_mem 1060 rfl rfl
set_option maxRecDepth 20000 in
theorem mc_X8_output : Cond.code yX8_output cX8_output 2 (some .int) ∈ bw := bw_mem 1061 rfl rfl
set_option maxRecDepth 20000 in
theorem ml_L_127 : Cond.methodLink RL 127 yX8_about ∈ bw := bw_mem 1062 rfl rfl
set_option maxRecDepth 20000 in
theorem mi_X8_about : Cond.instanceMethod yX8_about ∈ bw := bw_mem 1063 rfl rfl
set_option maxRecDepth 20000 in
theorem ms_X8_about : Cond.selects RX8 yX8_about yX8_about ∈ bw := bw_mem 1064 rfl rfl
set_option maxRecDepth 20000 in
theorem mc_X8_about : Cond.code yX8_about cX8_about 2 (some .int) ∈ bw := bw_mem 1065 rfl rfl
set_option maxRecDepth 20000 in
theorem ms_X7_saveFrom : Cond.selects RX7 yX7_saveFrom yX7_saveFrom ∈ bw := bw_mem 0 rfl rfl
set_option maxRecDepth 20000 in
theorem ms_X3_unpack : Cond.selects RX3 yX3_unpack yX3_unpack ∈ bw := bw_mem 1 rfl rfl
set_option maxRecDepth 20000 in
theorem ms_X3_crcAgrees : Cond.selects RX3 yX3_crcAgrees yX3_crcAgrees ∈ bw := bw_mem 2 rfl rfl
set_option maxRecDepth 20000 in
theorem ms_X5_release : Cond.selects RX5 yX5_release yX5_release ∈ bw := bw_mem 3 rfl rfl
set_option maxRecDepth 20000 in
theorem ms_X5_fill : Cond.selects RX5 yX5_fill yX5_fill ∈ bw := bw_mem 4 rfl rfl
set_option maxRecDepth 20000 in
theorem ms_X3_endPasses : Cond.selects RX3 yX3_endPasses yX3_endPasses ∈ bw := bw_mem 6 rfl rfl
set_option maxRecDepth 20000 in
theorem ms_X3_endStands : Cond.selects RX3 yX3_endStands yX3_endStands ∈ bw := bw_mem 7 rfl rfl
set_option maxRecDepth 20000 in
theorem ms_X3_fails : Cond.selects RX3 yX3_fails yX3_fails ∈ bw := bw_mem 8 rfl rfl
set_option maxRecDepth 20000 in
theorem ms_X3_centralsPass : Cond.selects RX3 yX3_centralsPass yX3_centralsPass ∈ bw := bw_mem 9 rfl rfl
set_option maxRecDepth 20000 in
theorem ms_X3_centralStands : Cond.selects RX3 yX3_centralStands yX3_centralStands ∈ bw := bw_mem 10 rfl rfl
set_option maxRecDepth 20000 in
theorem ms_X3_isEarlierName : Cond.selects RX3 yX3_isEarlierName yX3_isEarlierName ∈ bw := bw_mem 11 rfl rfl
set_option maxRecDepth 20000 in
theorem ms_X3_localsPass : Cond.selects RX3 yX3_localsPass yX3_localsPass ∈ bw := bw_mem 12 rfl rfl
set_option maxRecDepth 20000 in
theorem ms_X3_localStands : Cond.selects RX3 yX3_localStands yX3_localStands ∈ bw := bw_mem 13 rfl rfl
set_option maxRecDepth 20000 in
theorem ms_X3_contentsPass : Cond.selects RX3 yX3_contentsPass yX3_contentsPass ∈ bw := bw_mem 14 rfl rfl
set_option maxRecDepth 20000 in
theorem ms_X8_isName : Cond.selects RX8 yX8_isName yX8_isName ∈ bw := bw_mem 15 rfl rfl
set_option maxRecDepth 20000 in
theorem ms_X8_named : Cond.selects RX8 yX8_named yX8_named ∈ bw := bw_mem 16 rfl rfl
set_option maxRecDepth 20000 in
theorem ms_X8_total : Cond.selects RX8 yX8_total yX8_total ∈ bw := bw_mem 17 rfl rfl
set_option maxRecDepth 20000 in
theorem ms_X8_setName : Cond.selects RX8 yX8_setName yX8_setName ∈ bw := bw_mem 18 rfl rfl
set_option maxRecDepth 20000 in
theorem ms_X8_setBytes : Cond.selects RX8 yX8_setBytes yX8_setBytes ∈ bw := bw_mem 19 rfl rfl
set_option maxRecDepth 20000 in
theorem ms_X8_isFile : Cond.selects RX8 yX8_isFile yX8_isFile ∈ bw := bw_mem 20 rfl rfl
set_option maxRecDepth 20000 in
theorem ms_X8_goes : Cond.selects RX8 yX8_goes yX8_goes ∈ bw := bw_mem 21 rfl rfl
set_option maxRecDepth 20000 in
theorem ms_X8_copyFile : Cond.selects RX8 yX8_copyFile yX8_copyFile ∈ bw := bw_mem 22 rfl rfl
set_option maxRecDepth 20000 in
theorem ms_X8_isAhead : Cond.selects RX8 yX8_isAhead yX8_isAhead ∈ bw := bw_mem 23 rfl rfl
set_option maxRecDepth 20000 in
theorem ms_X8_sign : Cond.selects RX8 yX8_sign yX8_sign ∈ bw := bw_mem 24 rfl rfl
set_option maxRecDepth 20000 in
theorem ms_X8_write : Cond.selects RX8 yX8_write yX8_write ∈ bw := bw_mem 25 rfl rfl
set_option maxRecDepth 20000 in
theorem ms_X8_writeFacts : Cond.selects RX8 yX8_writeFacts yX8_writeFacts ∈ bw := bw_mem 26 rfl rfl
set_option maxRecDepth 20000 in
theorem ms_X8_method : Cond.selects RX8 yX8_method yX8_method ∈ bw := bw_mem 27 rfl rfl
set_option maxRecDepth 20000 in
theorem ms_X8_fold : Cond.selects RX8 yX8_fold yX8_fold ∈ bw := bw_mem 28 rfl rfl
set_option maxRecDepth 20000 in
theorem ms_X8_alike : Cond.selects RX8 yX8_alike yX8_alike ∈ bw := bw_mem 29 rfl rfl
set_option maxRecDepth 20000 in
theorem ms_X8_put : Cond.selects RX8 yX8_put yX8_put ∈ bw := bw_mem 30 rfl rfl
set_option maxRecDepth 20000 in
theorem ms_X8_crc : Cond.selects RX8 yX8_crc yX8_crc ∈ bw := bw_mem 31 rfl rfl
set_option maxRecDepth 20000 in
theorem ms_X8_packedSize : Cond.selects RX8 yX8_packedSize yX8_packedSize ∈ bw := bw_mem 32 rfl rfl
set_option maxRecDepth 20000 in
theorem ms_X8_writeName : Cond.selects RX8 yX8_writeName yX8_writeName ∈ bw := bw_mem 33 rfl rfl
set_option maxRecDepth 20000 in
theorem ms_X8_findEnd : Cond.selects RX8 yX8_findEnd yX8_findEnd ∈ bw := bw_mem 34 rfl rfl
set_option maxRecDepth 20000 in
theorem ms_X8_isSign : Cond.selects RX8 yX8_isSign yX8_isSign ∈ bw := bw_mem 35 rfl rfl
set_option maxRecDepth 20000 in
theorem ms_X8_is : Cond.selects RX8 yX8_is yX8_is ∈ bw := bw_mem 36 rfl rfl
set_option maxRecDepth 20000 in
theorem ms_X8_number : Cond.selects RX8 yX8_number yX8_number ∈ bw := bw_mem 37 rfl rfl
set_option maxRecDepth 20000 in
theorem ms_X8_fails : Cond.selects RX8 yX8_fails yX8_fails ∈ bw := bw_mem 38 rfl rfl
set_option maxRecDepth 20000 in
theorem ms_X8_findCentrals : Cond.selects RX8 yX8_findCentrals yX8_findCentrals ∈ bw := bw_mem 39 rfl rfl
set_option maxRecDepth 20000 in
theorem ms_X8_isCentral : Cond.selects RX8 yX8_isCentral yX8_isCentral ∈ bw := bw_mem 40 rfl rfl
set_option maxRecDepth 20000 in
theorem ms_X8_areFacts : Cond.selects RX8 yX8_areFacts yX8_areFacts ∈ bw := bw_mem 41 rfl rfl
set_option maxRecDepth 20000 in
theorem ms_X8_isSame : Cond.selects RX8 yX8_isSame yX8_isSame ∈ bw := bw_mem 42 rfl rfl
set_option maxRecDepth 20000 in
theorem ms_X8_findLocals : Cond.selects RX8 yX8_findLocals yX8_findLocals ∈ bw := bw_mem 43 rfl rfl
set_option maxRecDepth 20000 in
theorem ms_X8_isLocal : Cond.selects RX8 yX8_isLocal yX8_isLocal ∈ bw := bw_mem 44 rfl rfl
set_option maxRecDepth 20000 in
theorem ms_X8_areBytes : Cond.selects RX8 yX8_areBytes yX8_areBytes ∈ bw := bw_mem 45 rfl rfl
set_option maxRecDepth 20000 in
theorem ms_X8_areSizes : Cond.selects RX8 yX8_areSizes yX8_areSizes ∈ bw := bw_mem 46 rfl rfl
set_option maxRecDepth 20000 in
theorem ms_X8_unfold : Cond.selects RX8 yX8_unfold yX8_unfold ∈ bw := bw_mem 47 rfl rfl
set_option maxRecDepth 20000 in
theorem ms_X8_isCrc : Cond.selects RX8 yX8_isCrc yX8_isCrc ∈ bw := bw_mem 48 rfl rfl
set_option maxRecDepth 20000 in
theorem ms_X8_append : Cond.selects RX8 yX8_append yX8_append ∈ bw := bw_mem 49 rfl rfl
set_option maxRecDepth 20000 in
theorem ms_X8_saved : Cond.selects RX8 yX8_saved yX8_saved ∈ bw := bw_mem 50 rfl rfl
set_option maxRecDepth 20000 in
theorem inX1 : ∀ w ∈ wsX10, w ∈ bw := by decide +kernel
set_option maxRecDepth 20000 in
theorem inX2 : ∀ w ∈ wsX20, w ∈ bw := by decide +kernel
set_option maxRecDepth 20000 in
theorem inX3 : ∀ w ∈ wsX30, w ∈ bw := by decide +kernel
set_option maxRecDepth 20000 in
theorem inX4 : ∀ w ∈ wsX40, w ∈ bw := by decide +kernel
set_option maxRecDepth 20000 in
theorem inX5 : ∀ w ∈ wsX50, w ∈ bw := by decide +kernel
set_option maxRecDepth 20000 in
theorem inX7 : ∀ w ∈ wsX70, w ∈ bw := by decide +kernel
set_option maxRecDepth 20000 in
theorem inX8 : ∀ w ∈ wsX80, w ∈ bw := by decide +kernel
abbrev ax_nest : List (String × Nat × String × String × String × String) := [("ArchiveDesk$Writer", 21, "ArchiveDesk$Entry", "name", "LArchiveDesk$Row;", "ArchiveDesk"), ("ArchiveDesk$Shelf", 44, "ArchiveDesk$Entry", "name", "LArchiveDesk$Row;", "ArchiveDesk"), ("ArchiveDesk", 178, "ArchiveDesk$Entry", "name", "LArchiveDesk$Row;", "ArchiveDesk"), ("ArchiveDesk$Shelf", 37, "ArchiveDesk$Entry", "start", "I", "ArchiveDesk"), ("ArchiveDesk$Writer", 52, "ArchiveDesk$Entry", "size", "I", "ArchiveDesk"), ("ArchiveDesk$Shelf", 35, "ArchiveDesk$Entry", "size", "I", "ArchiveDesk"), ("ArchiveDesk", 183, "ArchiveDesk$Entry", "size", "I", "ArchiveDesk"), ("ArchiveDesk$Writer", 49, "ArchiveDesk$Entry", "packed", "I", "ArchiveDesk"), ("ArchiveDesk$Shelf", 86, "ArchiveDesk$Entry", "packed", "I", "ArchiveDesk"), ("ArchiveDesk", 186, "ArchiveDesk$Entry", "packed", "I", "ArchiveDesk"), ("ArchiveDesk$Writer", 45, "ArchiveDesk$Entry", "crc", "I", "ArchiveDesk"), ("ArchiveDesk$Shelf", 75, "ArchiveDesk$Entry", "crc", "I", "ArchiveDesk"), ("ArchiveDesk", 192, "ArchiveDesk$Entry", "crc", "I", "ArchiveDesk"), ("ArchiveDesk$Reader", 147, "ArchiveDesk$Header", "method", "I", "ArchiveDesk"), ("ArchiveDesk$Reader", 164, "ArchiveDesk$Header", "crc", "I", "ArchiveDesk"), ("ArchiveDesk$Reader", 47, "ArchiveDesk$Header", "packed", "J", "ArchiveDesk"), ("ArchiveDesk$Reader", 129, "ArchiveDesk$Header", "size", "J", "ArchiveDesk"), ("ArchiveDesk$Reader", 44, "ArchiveDesk$Header", "nameSize", "I", "ArchiveDesk")]
