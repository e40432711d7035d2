/-! the constructors: walks -/
def y_Tape_init : MethodName := ⟨R_Tape, "<init>", "()V"⟩
def y_Room_init : MethodName := ⟨R_Room, "<init>", "()V"⟩
def y_Taste_init : MethodName := ⟨R_Taste, "<init>", "()V"⟩
def y_Hall_init : MethodName := ⟨R_Hall, "<init>", "()V"⟩
def y_RoomReader_init : MethodName := ⟨R_RoomReader, "<init>", "(LLostPlaces$Tape;)V"⟩
def y_TasteReader_init : MethodName := ⟨R_TasteReader, "<init>", "(LLostPlaces$Tape;)V"⟩
def y_Likings_init : MethodName := ⟨R_Likings, "<init>", "(LLostPlaces$Room;)V"⟩
def y_Evening_init : MethodName := ⟨R_Evening, "<init>", "(LLostPlaces$Room;LLostPlaces$Likings;)V"⟩
def y_Guess_init : MethodName := ⟨R_Guess, "<init>", "(LLostPlaces$Room;LLostPlaces$Likings;LLostPlaces$Evening;LLostPlaces$Hall;)V"⟩
def y_Game_init : MethodName := ⟨R_Game, "<init>", "(LLostPlaces$Room;LLostPlaces$Evening;LLostPlaces$Hall;)V"⟩
def y_Branches_init : MethodName := ⟨R_Branches, "<init>", "(LLostPlaces$Room;LLostPlaces$Likings;LLostPlaces$Evening;LLostPlaces$Hall;)V"⟩
def y_Main_init : MethodName := ⟨R_Main, "<init>", "()V"⟩
def y_Model_init : MethodName := ⟨R_Model, "<init>", "()V"⟩
theorem wc_109 : (Jvm.Cond.initialized "LostPlaces$Tape") ∈ TG := tg_in 109 (by decide +kernel) rfl
theorem wc_110 : (Jvm.Cond.initialized "LostPlaces$Room") ∈ TG := tg_in 110 (by decide +kernel) rfl
theorem wc_111 : (Jvm.Cond.initialized "LostPlaces$RoomReader") ∈ TG := tg_in 111 (by decide +kernel) rfl
theorem wc_112 : (Jvm.Cond.initialized "LostPlaces$TasteReader") ∈ TG := tg_in 112 (by decide +kernel) rfl
theorem wc_113 : (Jvm.Cond.initialized "LostPlaces$Taste") ∈ TG := tg_in 113 (by decide +kernel) rfl
theorem wc_114 : (Jvm.Cond.initialized "LostPlaces$Likings") ∈ TG := tg_in 114 (by decide +kernel) rfl
theorem wc_116 : (Jvm.Cond.initialized "LostPlaces$Evening") ∈ TG := tg_in 116 (by decide +kernel) rfl
theorem wc_117 : (Jvm.Cond.initialized "LostPlaces$Hall") ∈ TG := tg_in 117 (by decide +kernel) rfl
theorem wc_118 : (Jvm.Cond.initialized "LostPlaces$Guess") ∈ TG := tg_in 118 (by decide +kernel) rfl
theorem wc_119 : (Jvm.Cond.initialized "LostPlaces$Game") ∈ TG := tg_in 119 (by decide +kernel) rfl
theorem wc_120 : (Jvm.Cond.initialized "LostPlaces$Branches") ∈ TG := tg_in 120 (by decide +kernel) rfl
theorem wc_137 : (Jvm.Cond.methodLink "LostPlaces" (1 : Nat) ({ cls := "java/lang/Object", name := "<init>", desc := "()V" } : Jvm.MethodName)) ∈ TG := tg_in 137 (by decide +kernel) rfl
theorem wc_138 : (Jvm.Cond.instanceMethod ({ cls := "java/lang/Object", name := "<init>", desc := "()V" } : Jvm.MethodName)) ∈ TG := tg_in 138 (by decide +kernel) rfl
theorem wc_139 : (Jvm.Cond.code ({ cls := "java/lang/Object", name := "<init>", desc := "()V" } : Jvm.MethodName) object_method_1_code (1 : Nat) (Option.none : Option Jvm.ClassFile.FieldType)) ∈ TG := tg_in 139 (by decide +kernel) rfl
theorem wc_140 : (Jvm.Cond.classLink "LostPlaces" (7 : Nat) "LostPlaces$Tape") ∈ TG := tg_in 140 (by decide +kernel) rfl
theorem wc_141 : (Jvm.Cond.instantiable "LostPlaces$Tape" (4 : Nat)) ∈ TG := tg_in 141 (by decide +kernel) rfl
theorem wc_143 : (Jvm.Cond.instanceMethod ({ cls := "LostPlaces$Tape", name := "<init>", desc := "()V" } : Jvm.MethodName)) ∈ TG := tg_in 143 (by decide +kernel) rfl
theorem wc_144 : (Jvm.Cond.code ({ cls := "LostPlaces$Tape", name := "<init>", desc := "()V" } : Jvm.MethodName) prog_10_method_1_code (1 : Nat) (Option.none : Option Jvm.ClassFile.FieldType)) ∈ TG := tg_in 144 (by decide +kernel) rfl
theorem wc_145 : (Jvm.Cond.methodLink "LostPlaces$Tape" (3 : Nat) ({ cls := "java/lang/Object", name := "<init>", desc := "()V" } : Jvm.MethodName)) ∈ TG := tg_in 145 (by decide +kernel) rfl
theorem wc_146 : (Jvm.Cond.fieldLink "LostPlaces$Tape" (9 : Nat) "LostPlaces$Tape" "bytes" "[I") ∈ TG := tg_in 146 (by decide +kernel) rfl
theorem wc_147 : (Jvm.Cond.fieldLink "LostPlaces$Tape" (15 : Nat) "LostPlaces$Tape" "length" "I") ∈ TG := tg_in 147 (by decide +kernel) rfl
theorem wc_150 : (Jvm.Cond.fieldLink "LostPlaces$Tape" (19 : Nat) "LostPlaces$Tape" "next" "I") ∈ TG := tg_in 150 (by decide +kernel) rfl
theorem wc_153 : (Jvm.Cond.fieldLink "LostPlaces$Tape" (22 : Nat) "LostPlaces$Tape" "wrong" "I") ∈ TG := tg_in 153 (by decide +kernel) rfl
theorem wc_165 : (Jvm.Cond.arrayClass Jvm.ClassFile.FieldType.int) ∈ TG := tg_in 165 (by decide +kernel) rfl
theorem wc_166 : (Jvm.Cond.classLink "LostPlaces" (16 : Nat) "LostPlaces$Room") ∈ TG := tg_in 166 (by decide +kernel) rfl
theorem wc_167 : (Jvm.Cond.instantiable "LostPlaces$Room" (16 : Nat)) ∈ TG := tg_in 167 (by decide +kernel) rfl
theorem wc_169 : (Jvm.Cond.instanceMethod ({ cls := "LostPlaces$Room", name := "<init>", desc := "()V" } : Jvm.MethodName)) ∈ TG := tg_in 169 (by decide +kernel) rfl
theorem wc_170 : (Jvm.Cond.code ({ cls := "LostPlaces$Room", name := "<init>", desc := "()V" } : Jvm.MethodName) prog_8_method_1_code (1 : Nat) (Option.none : Option Jvm.ClassFile.FieldType)) ∈ TG := tg_in 170 (by decide +kernel) rfl
theorem wc_171 : (Jvm.Cond.methodLink "LostPlaces$Room" (3 : Nat) ({ cls := "java/lang/Object", name := "<init>", desc := "()V" } : Jvm.MethodName)) ∈ TG := tg_in 171 (by decide +kernel) rfl
theorem wc_172 : (Jvm.Cond.fieldLink "LostPlaces$Room" (9 : Nat) "LostPlaces$Room" "seats" "I") ∈ TG := tg_in 172 (by decide +kernel) rfl
theorem wc_179 : (Jvm.Cond.fieldLink "LostPlaces$Room" (15 : Nat) "LostPlaces$Room" "sitters" "I") ∈ TG := tg_in 179 (by decide +kernel) rfl
theorem wc_188 : (Jvm.Cond.fieldLink "LostPlaces$Room" (18 : Nat) "LostPlaces$Room" "goings" "I") ∈ TG := tg_in 188 (by decide +kernel) rfl
theorem wc_193 : (Jvm.Cond.fieldLink "LostPlaces$Room" (21 : Nat) "LostPlaces$Room" "evenings" "I") ∈ TG := tg_in 193 (by decide +kernel) rfl
theorem wc_195 : (Jvm.Cond.fieldLink "LostPlaces$Room" (24 : Nat) "LostPlaces$Room" "worth" "[I") ∈ TG := tg_in 195 (by decide +kernel) rfl
theorem wc_199 : (Jvm.Cond.fieldLink "LostPlaces$Room" (28 : Nat) "LostPlaces$Room" "more" "[I") ∈ TG := tg_in 199 (by decide +kernel) rfl
theorem wc_202 : (Jvm.Cond.fieldLink "LostPlaces$Room" (31 : Nat) "LostPlaces$Room" "stands" "[I") ∈ TG := tg_in 202 (by decide +kernel) rfl
theorem wc_206 : (Jvm.Cond.fieldLink "LostPlaces$Room" (34 : Nat) "LostPlaces$Room" "begins" "[I") ∈ TG := tg_in 206 (by decide +kernel) rfl
theorem wc_208 : (Jvm.Cond.fieldLink "LostPlaces$Room" (37 : Nat) "LostPlaces$Room" "quick" "[I") ∈ TG := tg_in 208 (by decide +kernel) rfl
theorem wc_213 : (Jvm.Cond.fieldLink "LostPlaces$Room" (40 : Nat) "LostPlaces$Room" "step" "[I") ∈ TG := tg_in 213 (by decide +kernel) rfl
theorem wc_216 : (Jvm.Cond.fieldLink "LostPlaces$Room" (43 : Nat) "LostPlaces$Room" "keep" "[I") ∈ TG := tg_in 216 (by decide +kernel) rfl
theorem wc_218 : (Jvm.Cond.fieldLink "LostPlaces$Room" (46 : Nat) "LostPlaces$Room" "goer" "[I") ∈ TG := tg_in 218 (by decide +kernel) rfl
theorem wc_221 : (Jvm.Cond.fieldLink "LostPlaces$Room" (49 : Nat) "LostPlaces$Room" "leaves" "[I") ∈ TG := tg_in 221 (by decide +kernel) rfl
theorem wc_225 : (Jvm.Cond.fieldLink "LostPlaces$Room" (52 : Nat) "LostPlaces$Room" "lasts" "[I") ∈ TG := tg_in 225 (by decide +kernel) rfl
theorem wc_228 : (Jvm.Cond.fieldLink "LostPlaces$Room" (55 : Nat) "LostPlaces$Room" "film" "I") ∈ TG := tg_in 228 (by decide +kernel) rfl
theorem wc_232 : (Jvm.Cond.fieldLink "LostPlaces$Room" (58 : Nat) "LostPlaces$Room" "ends" "I") ∈ TG := tg_in 232 (by decide +kernel) rfl
theorem wc_272 : (Jvm.Cond.classLink "LostPlaces" (26 : Nat) "LostPlaces$RoomReader") ∈ TG := tg_in 272 (by decide +kernel) rfl
theorem wc_273 : (Jvm.Cond.instantiable "LostPlaces$RoomReader" (2 : Nat)) ∈ TG := tg_in 273 (by decide +kernel) rfl
theorem wc_274 : (Jvm.Cond.methodLink "LostPlaces" (28 : Nat) ({ cls := "LostPlaces$RoomReader", name := "<init>", desc := "(LLostPlaces$Tape;)V" } : Jvm.MethodName)) ∈ TG := tg_in 274 (by decide +kernel) rfl
theorem wc_275 : (Jvm.Cond.instanceMethod ({ cls := "LostPlaces$RoomReader", name := "<init>", desc := "(LLostPlaces$Tape;)V" } : Jvm.MethodName)) ∈ TG := tg_in 275 (by decide +kernel) rfl
theorem wc_276 : (Jvm.Cond.code ({ cls := "LostPlaces$RoomReader", name := "<init>", desc := "(LLostPlaces$Tape;)V" } : Jvm.MethodName) prog_9_method_1_code (2 : Nat) (Option.none : Option Jvm.ClassFile.FieldType)) ∈ TG := tg_in 276 (by decide +kernel) rfl
theorem wc_277 : (Jvm.Cond.methodLink "LostPlaces$RoomReader" (3 : Nat) ({ cls := "java/lang/Object", name := "<init>", desc := "()V" } : Jvm.MethodName)) ∈ TG := tg_in 277 (by decide +kernel) rfl
theorem wc_278 : (Jvm.Cond.fieldLink "LostPlaces$RoomReader" (15 : Nat) "LostPlaces$RoomReader" "tape" "LLostPlaces$Tape;") ∈ TG := tg_in 278 (by decide +kernel) rfl
theorem wc_279 : (Jvm.Cond.fieldLink "LostPlaces$RoomReader" (11 : Nat) "LostPlaces$RoomReader" "items" "[I") ∈ TG := tg_in 279 (by decide +kernel) rfl
theorem wc_285 : (Jvm.Cond.classLink "LostPlaces" (35 : Nat) "LostPlaces$TasteReader") ∈ TG := tg_in 285 (by decide +kernel) rfl
theorem wc_286 : (Jvm.Cond.instantiable "LostPlaces$TasteReader" (2 : Nat)) ∈ TG := tg_in 286 (by decide +kernel) rfl
theorem wc_287 : (Jvm.Cond.methodLink "LostPlaces" (37 : Nat) ({ cls := "LostPlaces$TasteReader", name := "<init>", desc := "(LLostPlaces$Tape;)V" } : Jvm.MethodName)) ∈ TG := tg_in 287 (by decide +kernel) rfl
theorem wc_288 : (Jvm.Cond.instanceMethod ({ cls := "LostPlaces$TasteReader", name := "<init>", desc := "(LLostPlaces$Tape;)V" } : Jvm.MethodName)) ∈ TG := tg_in 288 (by decide +kernel) rfl
theorem wc_289 : (Jvm.Cond.code ({ cls := "LostPlaces$TasteReader", name := "<init>", desc := "(LLostPlaces$Tape;)V" } : Jvm.MethodName) prog_12_method_1_code (2 : Nat) (Option.none : Option Jvm.ClassFile.FieldType)) ∈ TG := tg_in 289 (by decide +kernel) rfl
theorem wc_290 : (Jvm.Cond.methodLink "LostPlaces$TasteReader" (3 : Nat) ({ cls := "java/lang/Object", name := "<init>", desc := "()V" } : Jvm.MethodName)) ∈ TG := tg_in 290 (by decide +kernel) rfl
theorem wc_291 : (Jvm.Cond.classLink "LostPlaces$TasteReader" (9 : Nat) "LostPlaces$Taste") ∈ TG := tg_in 291 (by decide +kernel) rfl
theorem wc_292 : (Jvm.Cond.instantiable "LostPlaces$Taste" (4 : Nat)) ∈ TG := tg_in 292 (by decide +kernel) rfl
theorem wc_294 : (Jvm.Cond.instanceMethod ({ cls := "LostPlaces$Taste", name := "<init>", desc := "()V" } : Jvm.MethodName)) ∈ TG := tg_in 294 (by decide +kernel) rfl
theorem wc_295 : (Jvm.Cond.code ({ cls := "LostPlaces$Taste", name := "<init>", desc := "()V" } : Jvm.MethodName) prog_11_method_1_code (1 : Nat) (Option.none : Option Jvm.ClassFile.FieldType)) ∈ TG := tg_in 295 (by decide +kernel) rfl
theorem wc_296 : (Jvm.Cond.methodLink "LostPlaces$Taste" (3 : Nat) ({ cls := "java/lang/Object", name := "<init>", desc := "()V" } : Jvm.MethodName)) ∈ TG := tg_in 296 (by decide +kernel) rfl
theorem wc_297 : (Jvm.Cond.fieldLink "LostPlaces$Taste" (11 : Nat) "LostPlaces$Taste" "codes" "[I") ∈ TG := tg_in 297 (by decide +kernel) rfl
theorem wc_298 : (Jvm.Cond.fieldLink "LostPlaces$Taste" (15 : Nat) "LostPlaces$Taste" "length" "I") ∈ TG := tg_in 298 (by decide +kernel) rfl
theorem wc_299 : (Jvm.Cond.fieldLink "LostPlaces$Taste" (19 : Nat) "LostPlaces$Taste" "stack" "[I") ∈ TG := tg_in 299 (by decide +kernel) rfl
theorem wc_300 : (Jvm.Cond.fieldLink "LostPlaces$Taste" (22 : Nat) "LostPlaces$Taste" "tellsMinute" "Z") ∈ TG := tg_in 300 (by decide +kernel) rfl
theorem wc_311 : (Jvm.Cond.fieldLink "LostPlaces$TasteReader" (18 : Nat) "LostPlaces$TasteReader" "tape" "LLostPlaces$Tape;") ∈ TG := tg_in 311 (by decide +kernel) rfl
theorem wc_312 : (Jvm.Cond.fieldLink "LostPlaces$TasteReader" (12 : Nat) "LostPlaces$TasteReader" "into" "LLostPlaces$Taste;") ∈ TG := tg_in 312 (by decide +kernel) rfl
theorem wc_318 : (Jvm.Cond.classLink "LostPlaces" (42 : Nat) "LostPlaces$Taste") ∈ TG := tg_in 318 (by decide +kernel) rfl
theorem wc_320 : (Jvm.Cond.classLink "LostPlaces" (58 : Nat) "LostPlaces$Likings") ∈ TG := tg_in 320 (by decide +kernel) rfl
theorem wc_321 : (Jvm.Cond.instantiable "LostPlaces$Likings" (6 : Nat)) ∈ TG := tg_in 321 (by decide +kernel) rfl
theorem wc_322 : (Jvm.Cond.methodLink "LostPlaces" (60 : Nat) ({ cls := "LostPlaces$Likings", name := "<init>", desc := "(LLostPlaces$Room;)V" } : Jvm.MethodName)) ∈ TG := tg_in 322 (by decide +kernel) rfl
theorem wc_323 : (Jvm.Cond.instanceMethod ({ cls := "LostPlaces$Likings", name := "<init>", desc := "(LLostPlaces$Room;)V" } : Jvm.MethodName)) ∈ TG := tg_in 323 (by decide +kernel) rfl
theorem wc_324 : (Jvm.Cond.code ({ cls := "LostPlaces$Likings", name := "<init>", desc := "(LLostPlaces$Room;)V" } : Jvm.MethodName) prog_7_method_1_code (2 : Nat) (Option.none : Option Jvm.ClassFile.FieldType)) ∈ TG := tg_in 324 (by decide +kernel) rfl
theorem wc_325 : (Jvm.Cond.methodLink "LostPlaces$Likings" (3 : Nat) ({ cls := "java/lang/Object", name := "<init>", desc := "()V" } : Jvm.MethodName)) ∈ TG := tg_in 325 (by decide +kernel) rfl
theorem wc_327 : (Jvm.Cond.methodLink "LostPlaces$Likings" (25 : Nat) ({ cls := "java/lang/String", name := "length", desc := "()I" } : Jvm.MethodName)) ∈ TG := tg_in 327 (by decide +kernel) rfl
theorem wc_337 : (Jvm.Cond.fieldLink "LostPlaces$Likings" (38 : Nat) "LostPlaces$Likings" "room" "LLostPlaces$Room;") ∈ TG := tg_in 337 (by decide +kernel) rfl
theorem wc_338 : (Jvm.Cond.fieldLink "LostPlaces$Likings" (11 : Nat) "LostPlaces$Likings" "table" "[I") ∈ TG := tg_in 338 (by decide +kernel) rfl
theorem wc_339 : (Jvm.Cond.fieldLink "LostPlaces$Likings" (15 : Nat) "LostPlaces$Likings" "rows" "[I") ∈ TG := tg_in 339 (by decide +kernel) rfl
theorem wc_340 : (Jvm.Cond.fieldLink "LostPlaces$Likings" (18 : Nat) "LostPlaces$Likings" "tills" "[I") ∈ TG := tg_in 340 (by decide +kernel) rfl
theorem wc_341 : (Jvm.Cond.fieldLink "LostPlaces$Likings" (31 : Nat) "LostPlaces$Likings" "letters" "[I") ∈ TG := tg_in 341 (by decide +kernel) rfl
theorem wc_342 : (Jvm.Cond.fieldLink "LostPlaces$Likings" (34 : Nat) "LostPlaces$Likings" "renewals" "I") ∈ TG := tg_in 342 (by decide +kernel) rfl
theorem wc_357 : (Jvm.Cond.arrayClass Jvm.ClassFile.FieldType.byte) ∈ TG := tg_in 357 (by decide +kernel) rfl
theorem wc_358 : (Jvm.Cond.classLink "LostPlaces" (67 : Nat) "LostPlaces$Evening") ∈ TG := tg_in 358 (by decide +kernel) rfl
theorem wc_359 : (Jvm.Cond.instantiable "LostPlaces$Evening" (7 : Nat)) ∈ TG := tg_in 359 (by decide +kernel) rfl
theorem wc_360 : (Jvm.Cond.methodLink "LostPlaces" (69 : Nat) ({ cls := "LostPlaces$Evening", name := "<init>", desc := "(LLostPlaces$Room;LLostPlaces$Likings;)V" } : Jvm.MethodName)) ∈ TG := tg_in 360 (by decide +kernel) rfl
theorem wc_361 : (Jvm.Cond.instanceMethod ({ cls := "LostPlaces$Evening", name := "<init>", desc := "(LLostPlaces$Room;LLostPlaces$Likings;)V" } : Jvm.MethodName)) ∈ TG := tg_in 361 (by decide +kernel) rfl
theorem wc_362 : (Jvm.Cond.code ({ cls := "LostPlaces$Evening", name := "<init>", desc := "(LLostPlaces$Room;LLostPlaces$Likings;)V" } : Jvm.MethodName) prog_3_method_1_code (3 : Nat) (Option.none : Option Jvm.ClassFile.FieldType)) ∈ TG := tg_in 362 (by decide +kernel) rfl
theorem wc_363 : (Jvm.Cond.methodLink "LostPlaces$Evening" (3 : Nat) ({ cls := "java/lang/Object", name := "<init>", desc := "()V" } : Jvm.MethodName)) ∈ TG := tg_in 363 (by decide +kernel) rfl
theorem wc_364 : (Jvm.Cond.fieldLink "LostPlaces$Evening" (28 : Nat) "LostPlaces$Evening" "room" "LLostPlaces$Room;") ∈ TG := tg_in 364 (by decide +kernel) rfl
theorem wc_365 : (Jvm.Cond.fieldLink "LostPlaces$Evening" (32 : Nat) "LostPlaces$Evening" "likings" "LLostPlaces$Likings;") ∈ TG := tg_in 365 (by decide +kernel) rfl
theorem wc_366 : (Jvm.Cond.fieldLink "LostPlaces$Evening" (11 : Nat) "LostPlaces$Evening" "happening" "I") ∈ TG := tg_in 366 (by decide +kernel) rfl
theorem wc_368 : (Jvm.Cond.fieldLink "LostPlaces$Evening" (15 : Nat) "LostPlaces$Evening" "moreWho" "I") ∈ TG := tg_in 368 (by decide +kernel) rfl
theorem wc_369 : (Jvm.Cond.fieldLink "LostPlaces$Evening" (18 : Nat) "LostPlaces$Evening" "moreLeaves" "I") ∈ TG := tg_in 369 (by decide +kernel) rfl
theorem wc_370 : (Jvm.Cond.fieldLink "LostPlaces$Evening" (21 : Nat) "LostPlaces$Evening" "moreLasts" "I") ∈ TG := tg_in 370 (by decide +kernel) rfl
theorem wc_371 : (Jvm.Cond.fieldLink "LostPlaces$Evening" (24 : Nat) "LostPlaces$Evening" "drawn" "J") ∈ TG := tg_in 371 (by decide +kernel) rfl
theorem wc_387 : (Jvm.Cond.classLink "LostPlaces" (76 : Nat) "LostPlaces$Hall") ∈ TG := tg_in 387 (by decide +kernel) rfl
theorem wc_388 : (Jvm.Cond.instantiable "LostPlaces$Hall" (11 : Nat)) ∈ TG := tg_in 388 (by decide +kernel) rfl
theorem wc_390 : (Jvm.Cond.instanceMethod ({ cls := "LostPlaces$Hall", name := "<init>", desc := "()V" } : Jvm.MethodName)) ∈ TG := tg_in 390 (by decide +kernel) rfl
theorem wc_391 : (Jvm.Cond.code ({ cls := "LostPlaces$Hall", name := "<init>", desc := "()V" } : Jvm.MethodName) prog_6_method_1_code (1 : Nat) (Option.none : Option Jvm.ClassFile.FieldType)) ∈ TG := tg_in 391 (by decide +kernel) rfl
theorem wc_392 : (Jvm.Cond.methodLink "LostPlaces$Hall" (3 : Nat) ({ cls := "java/lang/Object", name := "<init>", desc := "()V" } : Jvm.MethodName)) ∈ TG := tg_in 392 (by decide +kernel) rfl
theorem wc_393 : (Jvm.Cond.fieldLink "LostPlaces$Hall" (9 : Nat) "LostPlaces$Hall" "where" "[I") ∈ TG := tg_in 393 (by decide +kernel) rfl
theorem wc_399 : (Jvm.Cond.fieldLink "LostPlaces$Hall" (15 : Nat) "LostPlaces$Hall" "till" "[I") ∈ TG := tg_in 399 (by decide +kernel) rfl
theorem wc_402 : (Jvm.Cond.fieldLink "LostPlaces$Hall" (18 : Nat) "LostPlaces$Hall" "keep" "[I") ∈ TG := tg_in 402 (by decide +kernel) rfl
theorem wc_405 : (Jvm.Cond.fieldLink "LostPlaces$Hall" (21 : Nat) "LostPlaces$Hall" "joy" "[I") ∈ TG := tg_in 405 (by decide +kernel) rfl
theorem wc_410 : (Jvm.Cond.fieldLink "LostPlaces$Hall" (24 : Nat) "LostPlaces$Hall" "on" "[I") ∈ TG := tg_in 410 (by decide +kernel) rfl
theorem wc_412 : (Jvm.Cond.fieldLink "LostPlaces$Hall" (27 : Nat) "LostPlaces$Hall" "keptFor" "[I") ∈ TG := tg_in 412 (by decide +kernel) rfl
theorem wc_415 : (Jvm.Cond.fieldLink "LostPlaces$Hall" (30 : Nat) "LostPlaces$Hall" "keptTill" "[I") ∈ TG := tg_in 415 (by decide +kernel) rfl
theorem wc_418 : (Jvm.Cond.fieldLink "LostPlaces$Hall" (33 : Nat) "LostPlaces$Hall" "minute" "I") ∈ TG := tg_in 418 (by decide +kernel) rfl
theorem wc_424 : (Jvm.Cond.fieldLink "LostPlaces$Hall" (37 : Nat) "LostPlaces$Hall" "moves" "I") ∈ TG := tg_in 424 (by decide +kernel) rfl
theorem wc_427 : (Jvm.Cond.fieldLink "LostPlaces$Hall" (40 : Nat) "LostPlaces$Hall" "entries" "[I") ∈ TG := tg_in 427 (by decide +kernel) rfl
theorem wc_428 : (Jvm.Cond.fieldLink "LostPlaces$Hall" (43 : Nat) "LostPlaces$Hall" "settled" "I") ∈ TG := tg_in 428 (by decide +kernel) rfl
theorem wc_454 : (Jvm.Cond.classLink "LostPlaces" (100 : Nat) "LostPlaces$Guess") ∈ TG := tg_in 454 (by decide +kernel) rfl
theorem wc_455 : (Jvm.Cond.instantiable "LostPlaces$Guess" (7 : Nat)) ∈ TG := tg_in 455 (by decide +kernel) rfl
theorem wc_456 : (Jvm.Cond.methodLink "LostPlaces" (102 : Nat) ({ cls := "LostPlaces$Guess", name := "<init>", desc := "(LLostPlaces$Room;LLostPlaces$Likings;LLostPlaces$Evening;LLostPlaces$Hall;)V" } : Jvm.MethodName)) ∈ TG := tg_in 456 (by decide +kernel) rfl
theorem wc_457 : (Jvm.Cond.instanceMethod ({ cls := "LostPlaces$Guess", name := "<init>", desc := "(LLostPlaces$Room;LLostPlaces$Likings;LLostPlaces$Evening;LLostPlaces$Hall;)V" } : Jvm.MethodName)) ∈ TG := tg_in 457 (by decide +kernel) rfl
theorem wc_458 : (Jvm.Cond.code ({ cls := "LostPlaces$Guess", name := "<init>", desc := "(LLostPlaces$Room;LLostPlaces$Likings;LLostPlaces$Evening;LLostPlaces$Hall;)V" } : Jvm.MethodName) prog_5_method_1_code (5 : Nat) (Option.none : Option Jvm.ClassFile.FieldType)) ∈ TG := tg_in 458 (by decide +kernel) rfl
theorem wc_459 : (Jvm.Cond.methodLink "LostPlaces$Guess" (3 : Nat) ({ cls := "java/lang/Object", name := "<init>", desc := "()V" } : Jvm.MethodName)) ∈ TG := tg_in 459 (by decide +kernel) rfl
theorem wc_460 : (Jvm.Cond.classLink "LostPlaces$Guess" (9 : Nat) "LostPlaces$Hall") ∈ TG := tg_in 460 (by decide +kernel) rfl
theorem wc_462 : (Jvm.Cond.fieldLink "LostPlaces$Guess" (25 : Nat) "LostPlaces$Guess" "room" "LLostPlaces$Room;") ∈ TG := tg_in 462 (by decide +kernel) rfl
theorem wc_463 : (Jvm.Cond.fieldLink "LostPlaces$Guess" (29 : Nat) "LostPlaces$Guess" "likings" "LLostPlaces$Likings;") ∈ TG := tg_in 463 (by decide +kernel) rfl
theorem wc_464 : (Jvm.Cond.fieldLink "LostPlaces$Guess" (33 : Nat) "LostPlaces$Guess" "evening" "LLostPlaces$Evening;") ∈ TG := tg_in 464 (by decide +kernel) rfl
theorem wc_465 : (Jvm.Cond.fieldLink "LostPlaces$Guess" (37 : Nat) "LostPlaces$Guess" "now" "LLostPlaces$Hall;") ∈ TG := tg_in 465 (by decide +kernel) rfl
theorem wc_466 : (Jvm.Cond.fieldLink "LostPlaces$Guess" (12 : Nat) "LostPlaces$Guess" "hall" "LLostPlaces$Hall;") ∈ TG := tg_in 466 (by decide +kernel) rfl
theorem wc_468 : (Jvm.Cond.fieldLink "LostPlaces$Guess" (18 : Nat) "LostPlaces$Guess" "found" "I") ∈ TG := tg_in 468 (by decide +kernel) rfl
theorem wc_470 : (Jvm.Cond.fieldLink "LostPlaces$Guess" (22 : Nat) "LostPlaces$Guess" "value" "I") ∈ TG := tg_in 470 (by decide +kernel) rfl
theorem wc_487 : (Jvm.Cond.classLink "LostPlaces" (109 : Nat) "LostPlaces$Game") ∈ TG := tg_in 487 (by decide +kernel) rfl
theorem wc_488 : (Jvm.Cond.instantiable "LostPlaces$Game" (8 : Nat)) ∈ TG := tg_in 488 (by decide +kernel) rfl
theorem wc_489 : (Jvm.Cond.methodLink "LostPlaces" (111 : Nat) ({ cls := "LostPlaces$Game", name := "<init>", desc := "(LLostPlaces$Room;LLostPlaces$Evening;LLostPlaces$Hall;)V" } : Jvm.MethodName)) ∈ TG := tg_in 489 (by decide +kernel) rfl
theorem wc_490 : (Jvm.Cond.instanceMethod ({ cls := "LostPlaces$Game", name := "<init>", desc := "(LLostPlaces$Room;LLostPlaces$Evening;LLostPlaces$Hall;)V" } : Jvm.MethodName)) ∈ TG := tg_in 490 (by decide +kernel) rfl
theorem wc_491 : (Jvm.Cond.code ({ cls := "LostPlaces$Game", name := "<init>", desc := "(LLostPlaces$Room;LLostPlaces$Evening;LLostPlaces$Hall;)V" } : Jvm.MethodName) prog_4_method_1_code (4 : Nat) (Option.none : Option Jvm.ClassFile.FieldType)) ∈ TG := tg_in 491 (by decide +kernel) rfl
theorem wc_492 : (Jvm.Cond.methodLink "LostPlaces$Game" (5 : Nat) ({ cls := "java/lang/Object", name := "<init>", desc := "()V" } : Jvm.MethodName)) ∈ TG := tg_in 492 (by decide +kernel) rfl
theorem wc_493 : (Jvm.Cond.classLink "LostPlaces$Game" (11 : Nat) "LostPlaces$Hall") ∈ TG := tg_in 493 (by decide +kernel) rfl
theorem wc_495 : (Jvm.Cond.fieldLink "LostPlaces$Game" (32 : Nat) "LostPlaces$Game" "room" "LLostPlaces$Room;") ∈ TG := tg_in 495 (by decide +kernel) rfl
theorem wc_496 : (Jvm.Cond.fieldLink "LostPlaces$Game" (36 : Nat) "LostPlaces$Game" "evening" "LLostPlaces$Evening;") ∈ TG := tg_in 496 (by decide +kernel) rfl
theorem wc_497 : (Jvm.Cond.fieldLink "LostPlaces$Game" (40 : Nat) "LostPlaces$Game" "now" "LLostPlaces$Hall;") ∈ TG := tg_in 497 (by decide +kernel) rfl
theorem wc_498 : (Jvm.Cond.fieldLink "LostPlaces$Game" (14 : Nat) "LostPlaces$Game" "hall" "LLostPlaces$Hall;") ∈ TG := tg_in 498 (by decide +kernel) rfl
theorem wc_499 : (Jvm.Cond.fieldLink "LostPlaces$Game" (18 : Nat) "LostPlaces$Game" "here" "[I") ∈ TG := tg_in 499 (by decide +kernel) rfl
theorem wc_500 : (Jvm.Cond.fieldLink "LostPlaces$Game" (22 : Nat) "LostPlaces$Game" "size" "I") ∈ TG := tg_in 500 (by decide +kernel) rfl
theorem wc_501 : (Jvm.Cond.fieldLink "LostPlaces$Game" (26 : Nat) "LostPlaces$Game" "numbers" "[I") ∈ TG := tg_in 501 (by decide +kernel) rfl
theorem wc_502 : (Jvm.Cond.fieldLink "LostPlaces$Game" (29 : Nat) "LostPlaces$Game" "joys" "[I") ∈ TG := tg_in 502 (by decide +kernel) rfl
theorem wc_520 : (Jvm.Cond.classLink "LostPlaces" (118 : Nat) "LostPlaces$Branches") ∈ TG := tg_in 520 (by decide +kernel) rfl
theorem wc_521 : (Jvm.Cond.instantiable "LostPlaces$Branches" (17 : Nat)) ∈ TG := tg_in 521 (by decide +kernel) rfl
theorem wc_522 : (Jvm.Cond.methodLink "LostPlaces" (120 : Nat) ({ cls := "LostPlaces$Branches", name := "<init>", desc := "(LLostPlaces$Room;LLostPlaces$Likings;LLostPlaces$Evening;LLostPlaces$Hall;)V" } : Jvm.MethodName)) ∈ TG := tg_in 522 (by decide +kernel) rfl
theorem wc_523 : (Jvm.Cond.instanceMethod ({ cls := "LostPlaces$Branches", name := "<init>", desc := "(LLostPlaces$Room;LLostPlaces$Likings;LLostPlaces$Evening;LLostPlaces$Hall;)V" } : Jvm.MethodName)) ∈ TG := tg_in 523 (by decide +kernel) rfl
theorem wc_524 : (Jvm.Cond.code ({ cls := "LostPlaces$Branches", name := "<init>", desc := "(LLostPlaces$Room;LLostPlaces$Likings;LLostPlaces$Evening;LLostPlaces$Hall;)V" } : Jvm.MethodName) prog_2_method_1_code (6 : Nat) (Option.none : Option Jvm.ClassFile.FieldType)) ∈ TG := tg_in 524 (by decide +kernel) rfl
theorem wc_525 : (Jvm.Cond.methodLink "LostPlaces$Branches" (3 : Nat) ({ cls := "java/lang/Object", name := "<init>", desc := "()V" } : Jvm.MethodName)) ∈ TG := tg_in 525 (by decide +kernel) rfl
theorem wc_526 : (Jvm.Cond.classLink "LostPlaces$Branches" (9 : Nat) "LostPlaces$Hall") ∈ TG := tg_in 526 (by decide +kernel) rfl
theorem wc_528 : (Jvm.Cond.fieldLink "LostPlaces$Branches" (58 : Nat) "LostPlaces$Branches" "room" "LLostPlaces$Room;") ∈ TG := tg_in 528 (by decide +kernel) rfl
theorem wc_529 : (Jvm.Cond.fieldLink "LostPlaces$Branches" (62 : Nat) "LostPlaces$Branches" "likings" "LLostPlaces$Likings;") ∈ TG := tg_in 529 (by decide +kernel) rfl
theorem wc_530 : (Jvm.Cond.fieldLink "LostPlaces$Branches" (66 : Nat) "LostPlaces$Branches" "evening" "LLostPlaces$Evening;") ∈ TG := tg_in 530 (by decide +kernel) rfl
theorem wc_531 : (Jvm.Cond.fieldLink "LostPlaces$Branches" (70 : Nat) "LostPlaces$Branches" "now" "LLostPlaces$Hall;") ∈ TG := tg_in 531 (by decide +kernel) rfl
theorem wc_532 : (Jvm.Cond.fieldLink "LostPlaces$Branches" (11 : Nat) "LostPlaces$Branches" "halls" "[LLostPlaces$Hall;") ∈ TG := tg_in 532 (by decide +kernel) rfl
theorem wc_533 : (Jvm.Cond.fieldLink "LostPlaces$Branches" (17 : Nat) "LostPlaces$Branches" "lasts" "I") ∈ TG := tg_in 533 (by decide +kernel) rfl
theorem wc_534 : (Jvm.Cond.fieldLink "LostPlaces$Branches" (21 : Nat) "LostPlaces$Branches" "bestOrder" "I") ∈ TG := tg_in 534 (by decide +kernel) rfl
theorem wc_536 : (Jvm.Cond.fieldLink "LostPlaces$Branches" (24 : Nat) "LostPlaces$Branches" "bestGap" "I") ∈ TG := tg_in 536 (by decide +kernel) rfl
theorem wc_538 : (Jvm.Cond.fieldLink "LostPlaces$Branches" (27 : Nat) "LostPlaces$Branches" "toldWho" "[I") ∈ TG := tg_in 538 (by decide +kernel) rfl
theorem wc_539 : (Jvm.Cond.fieldLink "LostPlaces$Branches" (31 : Nat) "LostPlaces$Branches" "toldWhere" "[I") ∈ TG := tg_in 539 (by decide +kernel) rfl
theorem wc_540 : (Jvm.Cond.fieldLink "LostPlaces$Branches" (34 : Nat) "LostPlaces$Branches" "toldCount" "I") ∈ TG := tg_in 540 (by decide +kernel) rfl
theorem wc_542 : (Jvm.Cond.fieldLink "LostPlaces$Branches" (37 : Nat) "LostPlaces$Branches" "coming" "[I") ∈ TG := tg_in 542 (by decide +kernel) rfl
theorem wc_543 : (Jvm.Cond.fieldLink "LostPlaces$Branches" (40 : Nat) "LostPlaces$Branches" "comingCount" "I") ∈ TG := tg_in 543 (by decide +kernel) rfl
theorem wc_544 : (Jvm.Cond.fieldLink "LostPlaces$Branches" (43 : Nat) "LostPlaces$Branches" "fits" "[Z") ∈ TG := tg_in 544 (by decide +kernel) rfl
theorem wc_545 : (Jvm.Cond.fieldLink "LostPlaces$Branches" (48 : Nat) "LostPlaces$Branches" "asked" "LLostPlaces$Hall;") ∈ TG := tg_in 545 (by decide +kernel) rfl
theorem wc_546 : (Jvm.Cond.fieldLink "LostPlaces$Branches" (52 : Nat) "LostPlaces$Branches" "askedLikings" "I") ∈ TG := tg_in 546 (by decide +kernel) rfl
theorem wc_547 : (Jvm.Cond.fieldLink "LostPlaces$Branches" (55 : Nat) "LostPlaces$Branches" "askedTold" "I") ∈ TG := tg_in 547 (by decide +kernel) rfl
theorem wc_583 : (Jvm.Cond.arrayClass Jvm.ClassFile.FieldType.boolean) ∈ TG := tg_in 583 (by decide +kernel) rfl
theorem wc_585 : (Jvm.Cond.fieldLink "LostPlaces" (10 : Nat) "LostPlaces" "tape" "LLostPlaces$Tape;") ∈ TG := tg_in 585 (by decide +kernel) rfl
theorem wc_586 : (Jvm.Cond.fieldLink "LostPlaces" (19 : Nat) "LostPlaces" "room" "LLostPlaces$Room;") ∈ TG := tg_in 586 (by decide +kernel) rfl
theorem wc_587 : (Jvm.Cond.fieldLink "LostPlaces" (23 : Nat) "LostPlaces" "draft" "LLostPlaces$Room;") ∈ TG := tg_in 587 (by decide +kernel) rfl
theorem wc_588 : (Jvm.Cond.fieldLink "LostPlaces" (31 : Nat) "LostPlaces" "roomReader" "LLostPlaces$RoomReader;") ∈ TG := tg_in 588 (by decide +kernel) rfl
theorem wc_589 : (Jvm.Cond.fieldLink "LostPlaces" (38 : Nat) "LostPlaces" "tasteReader" "LLostPlaces$TasteReader;") ∈ TG := tg_in 589 (by decide +kernel) rfl
theorem wc_590 : (Jvm.Cond.fieldLink "LostPlaces" (44 : Nat) "LostPlaces" "tastes" "[LLostPlaces$Taste;") ∈ TG := tg_in 590 (by decide +kernel) rfl
theorem wc_591 : (Jvm.Cond.fieldLink "LostPlaces" (48 : Nat) "LostPlaces" "tasteCount" "I") ∈ TG := tg_in 591 (by decide +kernel) rfl
theorem wc_592 : (Jvm.Cond.fieldLink "LostPlaces" (52 : Nat) "LostPlaces" "heldTaste" "I") ∈ TG := tg_in 592 (by decide +kernel) rfl
theorem wc_593 : (Jvm.Cond.fieldLink "LostPlaces" (55 : Nat) "LostPlaces" "unrest" "I") ∈ TG := tg_in 593 (by decide +kernel) rfl
theorem wc_594 : (Jvm.Cond.fieldLink "LostPlaces" (63 : Nat) "LostPlaces" "likings" "LLostPlaces$Likings;") ∈ TG := tg_in 594 (by decide +kernel) rfl
theorem wc_595 : (Jvm.Cond.fieldLink "LostPlaces" (72 : Nat) "LostPlaces" "evening" "LLostPlaces$Evening;") ∈ TG := tg_in 595 (by decide +kernel) rfl
theorem wc_596 : (Jvm.Cond.fieldLink "LostPlaces" (79 : Nat) "LostPlaces" "now" "LLostPlaces$Hall;") ∈ TG := tg_in 596 (by decide +kernel) rfl
theorem wc_597 : (Jvm.Cond.fieldLink "LostPlaces" (83 : Nat) "LostPlaces" "past" "[LLostPlaces$Hall;") ∈ TG := tg_in 597 (by decide +kernel) rfl
theorem wc_598 : (Jvm.Cond.fieldLink "LostPlaces" (87 : Nat) "LostPlaces" "acts" "I") ∈ TG := tg_in 598 (by decide +kernel) rfl
theorem wc_599 : (Jvm.Cond.fieldLink "LostPlaces" (90 : Nat) "LostPlaces" "newest" "I") ∈ TG := tg_in 599 (by decide +kernel) rfl
theorem wc_600 : (Jvm.Cond.fieldLink "LostPlaces" (93 : Nat) "LostPlaces" "pictured" "LLostPlaces$Hall;") ∈ TG := tg_in 600 (by decide +kernel) rfl
theorem wc_601 : (Jvm.Cond.fieldLink "LostPlaces" (96 : Nat) "LostPlaces" "hasPicture" "Z") ∈ TG := tg_in 601 (by decide +kernel) rfl
theorem wc_602 : (Jvm.Cond.fieldLink "LostPlaces" (105 : Nat) "LostPlaces" "guess" "LLostPlaces$Guess;") ∈ TG := tg_in 602 (by decide +kernel) rfl
theorem wc_603 : (Jvm.Cond.fieldLink "LostPlaces" (114 : Nat) "LostPlaces" "game" "LLostPlaces$Game;") ∈ TG := tg_in 603 (by decide +kernel) rfl
theorem wc_604 : (Jvm.Cond.fieldLink "LostPlaces" (121 : Nat) "LostPlaces" "branches" "LLostPlaces$Branches;") ∈ TG := tg_in 604 (by decide +kernel) rfl
theorem wc_1486 : (Jvm.Cond.methodLink "LostPlacesModel" (3 : Nat) ({ cls := "java/lang/Object", name := "<init>", desc := "()V" } : Jvm.MethodName)) ∈ TG := tg_in 1486 (by decide +kernel) rfl
theorem wc_1490 : (Jvm.Cond.fieldLink "LostPlacesModel" (9 : Nat) "LostPlacesModel" "tape" "[B") ∈ TG := tg_in 1490 (by decide +kernel) rfl
theorem wc_1491 : (Jvm.Cond.fieldLink "LostPlacesModel" (13 : Nat) "LostPlacesModel" "texts" "[B") ∈ TG := tg_in 1491 (by decide +kernel) rfl
theorem wc_1492 : (Jvm.Cond.fieldLink "LostPlacesModel" (16 : Nat) "LostPlacesModel" "textLong" "[I") ∈ TG := tg_in 1492 (by decide +kernel) rfl
theorem wc_1493 : (Jvm.Cond.fieldLink "LostPlacesModel" (20 : Nat) "LostPlacesModel" "letters" "[I") ∈ TG := tg_in 1493 (by decide +kernel) rfl
theorem wc_1494 : (Jvm.Cond.fieldLink "LostPlacesModel" (23 : Nat) "LostPlacesModel" "text" "[B") ∈ TG := tg_in 1494 (by decide +kernel) rfl
theorem wc_1504 : (Jvm.Cond.fieldLink "LostPlacesModel" (28 : Nat) "LostPlacesModel" "labels" "Ljava/lang/String;") ∈ TG := tg_in 1504 (by decide +kernel) rfl
theorem wc_1505 : (Jvm.Cond.fieldLink "LostPlacesModel" (34 : Nat) "LostPlacesModel" "allowed" "Ljava/lang/String;") ∈ TG := tg_in 1505 (by decide +kernel) rfl
theorem wc_1507 : (Jvm.Cond.fieldLink "LostPlacesModel" (37 : Nat) "LostPlacesModel" "seat" "[I") ∈ TG := tg_in 1507 (by decide +kernel) rfl
theorem wc_1508 : (Jvm.Cond.fieldLink "LostPlacesModel" (40 : Nat) "LostPlacesModel" "seatRead" "[I") ∈ TG := tg_in 1508 (by decide +kernel) rfl
theorem wc_1509 : (Jvm.Cond.fieldLink "LostPlacesModel" (43 : Nat) "LostPlacesModel" "sitter" "[I") ∈ TG := tg_in 1509 (by decide +kernel) rfl
theorem wc_1510 : (Jvm.Cond.fieldLink "LostPlacesModel" (46 : Nat) "LostPlacesModel" "sitterRead" "[I") ∈ TG := tg_in 1510 (by decide +kernel) rfl
theorem wc_1511 : (Jvm.Cond.fieldLink "LostPlacesModel" (49 : Nat) "LostPlacesModel" "going" "[I") ∈ TG := tg_in 1511 (by decide +kernel) rfl
theorem wc_1512 : (Jvm.Cond.fieldLink "LostPlacesModel" (52 : Nat) "LostPlacesModel" "goingRead" "[I") ∈ TG := tg_in 1512 (by decide +kernel) rfl
theorem wc_1513 : (Jvm.Cond.fieldLink "LostPlacesModel" (55 : Nat) "LostPlacesModel" "evening" "[I") ∈ TG := tg_in 1513 (by decide +kernel) rfl
theorem wc_1514 : (Jvm.Cond.fieldLink "LostPlacesModel" (58 : Nat) "LostPlacesModel" "eveningRead" "[I") ∈ TG := tg_in 1514 (by decide +kernel) rfl
theorem wc_1522 : (Jvm.Cond.fieldLink "LostPlacesModel" (61 : Nat) "LostPlacesModel" "now" "[I") ∈ TG := tg_in 1522 (by decide +kernel) rfl
theorem wc_1523 : (Jvm.Cond.fieldLink "LostPlacesModel" (64 : Nat) "LostPlacesModel" "trial" "[I") ∈ TG := tg_in 1523 (by decide +kernel) rfl
theorem wc_1524 : (Jvm.Cond.fieldLink "LostPlacesModel" (67 : Nat) "LostPlacesModel" "taste" "I") ∈ TG := tg_in 1524 (by decide +kernel) rfl
theorem wc_1526 : (Jvm.Cond.fieldLink "LostPlacesModel" (71 : Nat) "LostPlacesModel" "memoKey" "[J") ∈ TG := tg_in 1526 (by decide +kernel) rfl
theorem wc_1527 : (Jvm.Cond.fieldLink "LostPlacesModel" (75 : Nat) "LostPlacesModel" "memoWorth" "[I") ∈ TG := tg_in 1527 (by decide +kernel) rfl
theorem wc_1528 : (Jvm.Cond.fieldLink "LostPlacesModel" (78 : Nat) "LostPlacesModel" "happens" "I") ∈ TG := tg_in 1528 (by decide +kernel) rfl
theorem wc_1531 : (Jvm.Cond.fieldLink "LostPlacesModel" (81 : Nat) "LostPlacesModel" "extraWho" "[I") ∈ TG := tg_in 1531 (by decide +kernel) rfl
theorem wc_1532 : (Jvm.Cond.fieldLink "LostPlacesModel" (84 : Nat) "LostPlacesModel" "extraWhen" "[I") ∈ TG := tg_in 1532 (by decide +kernel) rfl
theorem wc_1533 : (Jvm.Cond.fieldLink "LostPlacesModel" (87 : Nat) "LostPlacesModel" "extraLong" "[I") ∈ TG := tg_in 1533 (by decide +kernel) rfl
theorem wc_1534 : (Jvm.Cond.fieldLink "LostPlacesModel" (90 : Nat) "LostPlacesModel" "undoRow" "[I") ∈ TG := tg_in 1534 (by decide +kernel) rfl
theorem wc_1537 : (Jvm.Cond.fieldLink "LostPlacesModel" (93 : Nat) "LostPlacesModel" "hereRow" "[I") ∈ TG := tg_in 1537 (by decide +kernel) rfl
theorem wc_1538 : (Jvm.Cond.fieldLink "LostPlacesModel" (96 : Nat) "LostPlacesModel" "numbers" "[I") ∈ TG := tg_in 1538 (by decide +kernel) rfl
theorem wc_1539 : (Jvm.Cond.fieldLink "LostPlacesModel" (99 : Nat) "LostPlacesModel" "callJoy" "[I") ∈ TG := tg_in 1539 (by decide +kernel) rfl
theorem wc_1541 : (Jvm.Cond.fieldLink "LostPlacesModel" (102 : Nat) "LostPlacesModel" "orderRow" "[I") ∈ TG := tg_in 1541 (by decide +kernel) rfl
theorem wc_1544 : (Jvm.Cond.fieldLink "LostPlacesModel" (105 : Nat) "LostPlacesModel" "toldWho" "[I") ∈ TG := tg_in 1544 (by decide +kernel) rfl
theorem wc_1545 : (Jvm.Cond.fieldLink "LostPlacesModel" (108 : Nat) "LostPlacesModel" "toldSeat" "[I") ∈ TG := tg_in 1545 (by decide +kernel) rfl
theorem wc_1547 : (Jvm.Cond.fieldLink "LostPlacesModel" (111 : Nat) "LostPlacesModel" "imageRow" "[I") ∈ TG := tg_in 1547 (by decide +kernel) rfl
theorem wc_1670 : (Jvm.Cond.arrayClass Jvm.ClassFile.FieldType.long) ∈ TG := tg_in 1670 (by decide +kernel) rfl
theorem wobj_i : Cond.instanceMethod Lib.objectInit ∈ TG := wc_138
theorem wobj_c : Cond.code Lib.objectInit ⟨#[0xb1]⟩ 1 none ∈ TG := wc_139
theorem yp_Tape_9 : yfp R_Tape 9 9 0 (.array .int) := ⟨R_Tape, F_Tape, 4, t_Tape, rfl, by decide, wc_146, rfl, i_Tape, ⟨rfl, rfl⟩, rfl, t_Tape_ok, n_Tape⟩
theorem yp_Tape_15 : xfp R_Tape 15 9 1 .int := ⟨R_Tape, F_Tape, 4, t_Tape, rfl, by decide, wc_147, rfl, i_Tape, rfl, rfl, t_Tape_ok, n_Tape⟩
theorem yp_Tape_19 : xfp R_Tape 19 9 2 .int := ⟨R_Tape, F_Tape, 4, t_Tape, rfl, by decide, wc_150, rfl, i_Tape, rfl, rfl, t_Tape_ok, n_Tape⟩
theorem yp_Tape_22 : xfp R_Tape 22 9 3 .int := ⟨R_Tape, F_Tape, 4, t_Tape, rfl, by decide, wc_153, rfl, i_Tape, rfl, rfl, t_Tape_ok, n_Tape⟩
theorem yp_Room_9 : xfp R_Room 9 7 0 .int := ⟨R_Room, F_Room, 16, t_Room, rfl, by decide, wc_172, rfl, i_Room, rfl, rfl, t_Room_ok, n_Room⟩
theorem yp_Room_15 : xfp R_Room 15 7 1 .int := ⟨R_Room, F_Room, 16, t_Room, rfl, by decide, wc_179, rfl, i_Room, rfl, rfl, t_Room_ok, n_Room⟩
theorem yp_Room_18 : xfp R_Room 18 7 2 .int := ⟨R_Room, F_Room, 16, t_Room, rfl, by decide, wc_188, rfl, i_Room, rfl, rfl, t_Room_ok, n_Room⟩
theorem yp_Room_21 : xfp R_Room 21 7 3 .int := ⟨R_Room, F_Room, 16, t_Room, rfl, by decide, wc_193, rfl, i_Room, rfl, rfl, t_Room_ok, n_Room⟩
theorem yp_Room_24 : yfp R_Room 24 7 4 (.array .int) := ⟨R_Room, F_Room, 16, t_Room, rfl, by decide, wc_195, rfl, i_Room, ⟨rfl, rfl⟩, rfl, t_Room_ok, n_Room⟩
theorem yp_Room_28 : yfp R_Room 28 7 5 (.array .int) := ⟨R_Room, F_Room, 16, t_Room, rfl, by decide, wc_199, rfl, i_Room, ⟨rfl, rfl⟩, rfl, t_Room_ok, n_Room⟩
theorem yp_Room_31 : yfp R_Room 31 7 6 (.array .int) := ⟨R_Room, F_Room, 16, t_Room, rfl, by decide, wc_202, rfl, i_Room, ⟨rfl, rfl⟩, rfl, t_Room_ok, n_Room⟩
theorem yp_Room_34 : yfp R_Room 34 7 7 (.array .int) := ⟨R_Room, F_Room, 16, t_Room, rfl, by decide, wc_206, rfl, i_Room, ⟨rfl, rfl⟩, rfl, t_Room_ok, n_Room⟩
theorem yp_Room_37 : yfp R_Room 37 7 8 (.array .int) := ⟨R_Room, F_Room, 16, t_Room, rfl, by decide, wc_208, rfl, i_Room, ⟨rfl, rfl⟩, rfl, t_Room_ok, n_Room⟩
theorem yp_Room_40 : yfp R_Room 40 7 9 (.array .int) := ⟨R_Room, F_Room, 16, t_Room, rfl, by decide, wc_213, rfl, i_Room, ⟨rfl, rfl⟩, rfl, t_Room_ok, n_Room⟩
theorem yp_Room_43 : yfp R_Room 43 7 10 (.array .int) := ⟨R_Room, F_Room, 16, t_Room, rfl, by decide, wc_216, rfl, i_Room, ⟨rfl, rfl⟩, rfl, t_Room_ok, n_Room⟩
theorem yp_Room_46 : yfp R_Room 46 7 11 (.array .int) := ⟨R_Room, F_Room, 16, t_Room, rfl, by decide, wc_218, rfl, i_Room, ⟨rfl, rfl⟩, rfl, t_Room_ok, n_Room⟩
theorem yp_Room_49 : yfp R_Room 49 7 12 (.array .int) := ⟨R_Room, F_Room, 16, t_Room, rfl, by decide, wc_221, rfl, i_Room, ⟨rfl, rfl⟩, rfl, t_Room_ok, n_Room⟩
theorem yp_Room_52 : yfp R_Room 52 7 13 (.array .int) := ⟨R_Room, F_Room, 16, t_Room, rfl, by decide, wc_225, rfl, i_Room, ⟨rfl, rfl⟩, rfl, t_Room_ok, n_Room⟩
theorem yp_Room_55 : xfp R_Room 55 7 14 .int := ⟨R_Room, F_Room, 16, t_Room, rfl, by decide, wc_228, rfl, i_Room, rfl, rfl, t_Room_ok, n_Room⟩
theorem yp_Room_58 : xfp R_Room 58 7 15 .int := ⟨R_Room, F_Room, 16, t_Room, rfl, by decide, wc_232, rfl, i_Room, rfl, rfl, t_Room_ok, n_Room⟩
theorem yp_Taste_11 : yfp R_Taste 11 10 0 (.array .int) := ⟨R_Taste, F_Taste, 4, t_Taste, rfl, by decide, wc_297, rfl, i_Taste, ⟨rfl, rfl⟩, rfl, t_Taste_ok, n_Taste⟩
theorem yp_Taste_15 : xfp R_Taste 15 10 1 .int := ⟨R_Taste, F_Taste, 4, t_Taste, rfl, by decide, wc_298, rfl, i_Taste, rfl, rfl, t_Taste_ok, n_Taste⟩
theorem yp_Taste_19 : yfp R_Taste 19 10 2 (.array .int) := ⟨R_Taste, F_Taste, 4, t_Taste, rfl, by decide, wc_299, rfl, i_Taste, ⟨rfl, rfl⟩, rfl, t_Taste_ok, n_Taste⟩
theorem yp_Taste_22 : xfp R_Taste 22 10 3 .boolean := ⟨R_Taste, F_Taste, 4, t_Taste, rfl, by decide, wc_300, rfl, i_Taste, rfl, rfl, t_Taste_ok, n_Taste⟩
theorem yp_Hall_9 : yfp R_Hall 9 5 0 (.array .int) := ⟨R_Hall, F_Hall, 11, t_Hall, rfl, by decide, wc_393, rfl, i_Hall, ⟨rfl, rfl⟩, rfl, t_Hall_ok, n_Hall⟩
theorem yp_Hall_15 : yfp R_Hall 15 5 1 (.array .int) := ⟨R_Hall, F_Hall, 11, t_Hall, rfl, by decide, wc_399, rfl, i_Hall, ⟨rfl, rfl⟩, rfl, t_Hall_ok, n_Hall⟩
theorem yp_Hall_18 : yfp R_Hall 18 5 2 (.array .int) := ⟨R_Hall, F_Hall, 11, t_Hall, rfl, by decide, wc_402, rfl, i_Hall, ⟨rfl, rfl⟩, rfl, t_Hall_ok, n_Hall⟩
theorem yp_Hall_21 : yfp R_Hall 21 5 3 (.array .int) := ⟨R_Hall, F_Hall, 11, t_Hall, rfl, by decide, wc_405, rfl, i_Hall, ⟨rfl, rfl⟩, rfl, t_Hall_ok, n_Hall⟩
theorem yp_Hall_24 : yfp R_Hall 24 5 4 (.array .int) := ⟨R_Hall, F_Hall, 11, t_Hall, rfl, by decide, wc_410, rfl, i_Hall, ⟨rfl, rfl⟩, rfl, t_Hall_ok, n_Hall⟩
theorem yp_Hall_27 : yfp R_Hall 27 5 5 (.array .int) := ⟨R_Hall, F_Hall, 11, t_Hall, rfl, by decide, wc_412, rfl, i_Hall, ⟨rfl, rfl⟩, rfl, t_Hall_ok, n_Hall⟩
theorem yp_Hall_30 : yfp R_Hall 30 5 6 (.array .int) := ⟨R_Hall, F_Hall, 11, t_Hall, rfl, by decide, wc_415, rfl, i_Hall, ⟨rfl, rfl⟩, rfl, t_Hall_ok, n_Hall⟩
theorem yp_Hall_33 : xfp R_Hall 33 5 7 .int := ⟨R_Hall, F_Hall, 11, t_Hall, rfl, by decide, wc_418, rfl, i_Hall, rfl, rfl, t_Hall_ok, n_Hall⟩
theorem yp_Hall_37 : xfp R_Hall 37 5 8 .int := ⟨R_Hall, F_Hall, 11, t_Hall, rfl, by decide, wc_424, rfl, i_Hall, rfl, rfl, t_Hall_ok, n_Hall⟩
theorem yp_Hall_40 : yfp R_Hall 40 5 9 (.array .int) := ⟨R_Hall, F_Hall, 11, t_Hall, rfl, by decide, wc_427, rfl, i_Hall, ⟨rfl, rfl⟩, rfl, t_Hall_ok, n_Hall⟩
theorem yp_Hall_43 : xfp R_Hall 43 5 10 .int := ⟨R_Hall, F_Hall, 11, t_Hall, rfl, by decide, wc_428, rfl, i_Hall, rfl, rfl, t_Hall_ok, n_Hall⟩
theorem yp_RoomReader_11 : yfp R_RoomReader 11 8 1 (.array .int) := ⟨R_RoomReader, F_RoomReader, 2, t_RoomReader, rfl, by decide, wc_279, rfl, i_RoomReader, ⟨rfl, rfl⟩, rfl, t_RoomReader_ok, n_RoomReader⟩
theorem yp_RoomReader_15 : yfp R_RoomReader 15 8 0 (.object "LostPlaces$Tape") := ⟨R_RoomReader, F_RoomReader, 2, t_RoomReader, rfl, by decide, wc_278, rfl, i_RoomReader, ⟨rfl, rfl⟩, rfl, t_RoomReader_ok, n_RoomReader⟩
theorem yp_TasteReader_12 : xfp R_TasteReader 12 11 1 (.object "LostPlaces$Taste") := ⟨R_TasteReader, F_TasteReader, 2, t_TasteReader, rfl, by decide, wc_312, rfl, i_TasteReader, rfl, rfl, t_TasteReader_ok, n_TasteReader⟩
theorem yp_TasteReader_18 : yfp R_TasteReader 18 11 0 (.object "LostPlaces$Tape") := ⟨R_TasteReader, F_TasteReader, 2, t_TasteReader, rfl, by decide, wc_311, rfl, i_TasteReader, ⟨rfl, rfl⟩, rfl, t_TasteReader_ok, n_TasteReader⟩
theorem yp_Likings_11 : yfp R_Likings 11 6 1 (.array .int) := ⟨R_Likings, F_Likings, 6, t_Likings, rfl, by decide, wc_338, rfl, i_Likings, ⟨rfl, rfl⟩, rfl, t_Likings_ok, n_Likings⟩
theorem yp_Likings_15 : yfp R_Likings 15 6 2 (.array .int) := ⟨R_Likings, F_Likings, 6, t_Likings, rfl, by decide, wc_339, rfl, i_Likings, ⟨rfl, rfl⟩, rfl, t_Likings_ok, n_Likings⟩
theorem yp_Likings_18 : yfp R_Likings 18 6 3 (.array .int) := ⟨R_Likings, F_Likings, 6, t_Likings, rfl, by decide, wc_340, rfl, i_Likings, ⟨rfl, rfl⟩, rfl, t_Likings_ok, n_Likings⟩
theorem yp_Likings_31 : yfp R_Likings 31 6 4 (.array .int) := ⟨R_Likings, F_Likings, 6, t_Likings, rfl, by decide, wc_341, rfl, i_Likings, ⟨rfl, rfl⟩, rfl, t_Likings_ok, n_Likings⟩
theorem yp_Likings_34 : xfp R_Likings 34 6 5 .int := ⟨R_Likings, F_Likings, 6, t_Likings, rfl, by decide, wc_342, rfl, i_Likings, rfl, rfl, t_Likings_ok, n_Likings⟩
theorem yp_Likings_38 : yfp R_Likings 38 6 0 (.object "LostPlaces$Room") := ⟨R_Likings, F_Likings, 6, t_Likings, rfl, by decide, wc_337, rfl, i_Likings, ⟨rfl, rfl⟩, rfl, t_Likings_ok, n_Likings⟩
theorem yp_Evening_11 : xfp R_Evening 11 2 2 .int := ⟨R_Evening, F_Evening, 7, t_Evening, rfl, by decide, wc_366, rfl, i_Evening, rfl, rfl, t_Evening_ok, n_Evening⟩
theorem yp_Evening_15 : xfp R_Evening 15 2 3 .int := ⟨R_Evening, F_Evening, 7, t_Evening, rfl, by decide, wc_368, rfl, i_Evening, rfl, rfl, t_Evening_ok, n_Evening⟩
theorem yp_Evening_18 : xfp R_Evening 18 2 4 .int := ⟨R_Evening, F_Evening, 7, t_Evening, rfl, by decide, wc_369, rfl, i_Evening, rfl, rfl, t_Evening_ok, n_Evening⟩
theorem yp_Evening_21 : xfp R_Evening 21 2 5 .int := ⟨R_Evening, F_Evening, 7, t_Evening, rfl, by decide, wc_370, rfl, i_Evening, rfl, rfl, t_Evening_ok, n_Evening⟩
theorem yp_Evening_24 : xfp R_Evening 24 2 6 .long := ⟨R_Evening, F_Evening, 7, t_Evening, rfl, by decide, wc_371, rfl, i_Evening, rfl, rfl, t_Evening_ok, n_Evening⟩
theorem yp_Evening_28 : yfp R_Evening 28 2 0 (.object "LostPlaces$Room") := ⟨R_Evening, F_Evening, 7, t_Evening, rfl, by decide, wc_364, rfl, i_Evening, ⟨rfl, rfl⟩, rfl, t_Evening_ok, n_Evening⟩
theorem yp_Evening_32 : yfp R_Evening 32 2 1 (.object "LostPlaces$Likings") := ⟨R_Evening, F_Evening, 7, t_Evening, rfl, by decide, wc_365, rfl, i_Evening, ⟨rfl, rfl⟩, rfl, t_Evening_ok, n_Evening⟩
theorem yp_Guess_12 : yfp R_Guess 12 4 4 (.object "LostPlaces$Hall") := ⟨R_Guess, F_Guess, 7, t_Guess, rfl, by decide, wc_466, rfl, i_Guess, ⟨rfl, rfl⟩, rfl, t_Guess_ok, n_Guess⟩
theorem yp_Guess_18 : xfp R_Guess 18 4 5 .int := ⟨R_Guess, F_Guess, 7, t_Guess, rfl, by decide, wc_468, rfl, i_Guess, rfl, rfl, t_Guess_ok, n_Guess⟩
theorem yp_Guess_22 : xfp R_Guess 22 4 6 .int := ⟨R_Guess, F_Guess, 7, t_Guess, rfl, by decide, wc_470, rfl, i_Guess, rfl, rfl, t_Guess_ok, n_Guess⟩
theorem yp_Guess_25 : yfp R_Guess 25 4 0 (.object "LostPlaces$Room") := ⟨R_Guess, F_Guess, 7, t_Guess, rfl, by decide, wc_462, rfl, i_Guess, ⟨rfl, rfl⟩, rfl, t_Guess_ok, n_Guess⟩
theorem yp_Guess_29 : yfp R_Guess 29 4 1 (.object "LostPlaces$Likings") := ⟨R_Guess, F_Guess, 7, t_Guess, rfl, by decide, wc_463, rfl, i_Guess, ⟨rfl, rfl⟩, rfl, t_Guess_ok, n_Guess⟩
theorem yp_Guess_33 : yfp R_Guess 33 4 2 (.object "LostPlaces$Evening") := ⟨R_Guess, F_Guess, 7, t_Guess, rfl, by decide, wc_464, rfl, i_Guess, ⟨rfl, rfl⟩, rfl, t_Guess_ok, n_Guess⟩
theorem yp_Guess_37 : yfp R_Guess 37 4 3 (.object "LostPlaces$Hall") := ⟨R_Guess, F_Guess, 7, t_Guess, rfl, by decide, wc_465, rfl, i_Guess, ⟨rfl, rfl⟩, rfl, t_Guess_ok, n_Guess⟩
theorem yp_Game_14 : yfp R_Game 14 3 3 (.object "LostPlaces$Hall") := ⟨R_Game, F_Game, 8, t_Game, rfl, by decide, wc_498, rfl, i_Game, ⟨rfl, rfl⟩, rfl, t_Game_ok, n_Game⟩
theorem yp_Game_18 : yfp R_Game 18 3 4 (.array .int) := ⟨R_Game, F_Game, 8, t_Game, rfl, by decide, wc_499, rfl, i_Game, ⟨rfl, rfl⟩, rfl, t_Game_ok, n_Game⟩
theorem yp_Game_22 : xfp R_Game 22 3 5 .int := ⟨R_Game, F_Game, 8, t_Game, rfl, by decide, wc_500, rfl, i_Game, rfl, rfl, t_Game_ok, n_Game⟩
theorem yp_Game_26 : yfp R_Game 26 3 6 (.array .int) := ⟨R_Game, F_Game, 8, t_Game, rfl, by decide, wc_501, rfl, i_Game, ⟨rfl, rfl⟩, rfl, t_Game_ok, n_Game⟩
theorem yp_Game_29 : yfp R_Game 29 3 7 (.array .int) := ⟨R_Game, F_Game, 8, t_Game, rfl, by decide, wc_502, rfl, i_Game, ⟨rfl, rfl⟩, rfl, t_Game_ok, n_Game⟩
theorem yp_Game_32 : yfp R_Game 32 3 0 (.object "LostPlaces$Room") := ⟨R_Game, F_Game, 8, t_Game, rfl, by decide, wc_495, rfl, i_Game, ⟨rfl, rfl⟩, rfl, t_Game_ok, n_Game⟩
theorem yp_Game_36 : yfp R_Game 36 3 1 (.object "LostPlaces$Evening") := ⟨R_Game, F_Game, 8, t_Game, rfl, by decide, wc_496, rfl, i_Game, ⟨rfl, rfl⟩, rfl, t_Game_ok, n_Game⟩
theorem yp_Game_40 : yfp R_Game 40 3 2 (.object "LostPlaces$Hall") := ⟨R_Game, F_Game, 8, t_Game, rfl, by decide, wc_497, rfl, i_Game, ⟨rfl, rfl⟩, rfl, t_Game_ok, n_Game⟩
theorem yp_Branches_11 : yfp R_Branches 11 1 4 (.array (.object "LostPlaces$Hall")) := ⟨R_Branches, F_Branches, 17, t_Branches, rfl, by decide, wc_532, rfl, i_Branches, ⟨rfl, rfl⟩, rfl, t_Branches_ok, n_Branches⟩
theorem yp_Branches_17 : xfp R_Branches 17 1 5 .int := ⟨R_Branches, F_Branches, 17, t_Branches, rfl, by decide, wc_533, rfl, i_Branches, rfl, rfl, t_Branches_ok, n_Branches⟩
theorem yp_Branches_21 : xfp R_Branches 21 1 6 .int := ⟨R_Branches, F_Branches, 17, t_Branches, rfl, by decide, wc_534, rfl, i_Branches, rfl, rfl, t_Branches_ok, n_Branches⟩
theorem yp_Branches_24 : xfp R_Branches 24 1 7 .int := ⟨R_Branches, F_Branches, 17, t_Branches, rfl, by decide, wc_536, rfl, i_Branches, rfl, rfl, t_Branches_ok, n_Branches⟩
theorem yp_Branches_27 : yfp R_Branches 27 1 8 (.array .int) := ⟨R_Branches, F_Branches, 17, t_Branches, rfl, by decide, wc_538, rfl, i_Branches, ⟨rfl, rfl⟩, rfl, t_Branches_ok, n_Branches⟩
theorem yp_Branches_31 : yfp R_Branches 31 1 9 (.array .int) := ⟨R_Branches, F_Branches, 17, t_Branches, rfl, by decide, wc_539, rfl, i_Branches, ⟨rfl, rfl⟩, rfl, t_Branches_ok, n_Branches⟩
theorem yp_Branches_34 : xfp R_Branches 34 1 10 .int := ⟨R_Branches, F_Branches, 17, t_Branches, rfl, by decide, wc_540, rfl, i_Branches, rfl, rfl, t_Branches_ok, n_Branches⟩
theorem yp_Branches_37 : yfp R_Branches 37 1 11 (.array .int) := ⟨R_Branches, F_Branches, 17, t_Branches, rfl, by decide, wc_542, rfl, i_Branches, ⟨rfl, rfl⟩, rfl, t_Branches_ok, n_Branches⟩
theorem yp_Branches_40 : xfp R_Branches 40 1 12 .int := ⟨R_Branches, F_Branches, 17, t_Branches, rfl, by decide, wc_543, rfl, i_Branches, rfl, rfl, t_Branches_ok, n_Branches⟩
theorem yp_Branches_43 : yfp R_Branches 43 1 13 (.array .boolean) := ⟨R_Branches, F_Branches, 17, t_Branches, rfl, by decide, wc_544, rfl, i_Branches, ⟨rfl, rfl⟩, rfl, t_Branches_ok, n_Branches⟩
theorem yp_Branches_48 : yfp R_Branches 48 1 14 (.object "LostPlaces$Hall") := ⟨R_Branches, F_Branches, 17, t_Branches, rfl, by decide, wc_545, rfl, i_Branches, ⟨rfl, rfl⟩, rfl, t_Branches_ok, n_Branches⟩
theorem yp_Branches_52 : xfp R_Branches 52 1 15 .int := ⟨R_Branches, F_Branches, 17, t_Branches, rfl, by decide, wc_546, rfl, i_Branches, rfl, rfl, t_Branches_ok, n_Branches⟩
theorem yp_Branches_55 : xfp R_Branches 55 1 16 .int := ⟨R_Branches, F_Branches, 17, t_Branches, rfl, by decide, wc_547, rfl, i_Branches, rfl, rfl, t_Branches_ok, n_Branches⟩
theorem yp_Branches_58 : yfp R_Branches 58 1 0 (.object "LostPlaces$Room") := ⟨R_Branches, F_Branches, 17, t_Branches, rfl, by decide, wc_528, rfl, i_Branches, ⟨rfl, rfl⟩, rfl, t_Branches_ok, n_Branches⟩
theorem yp_Branches_62 : yfp R_Branches 62 1 1 (.object "LostPlaces$Likings") := ⟨R_Branches, F_Branches, 17, t_Branches, rfl, by decide, wc_529, rfl, i_Branches, ⟨rfl, rfl⟩, rfl, t_Branches_ok, n_Branches⟩
theorem yp_Branches_66 : yfp R_Branches 66 1 2 (.object "LostPlaces$Evening") := ⟨R_Branches, F_Branches, 17, t_Branches, rfl, by decide, wc_530, rfl, i_Branches, ⟨rfl, rfl⟩, rfl, t_Branches_ok, n_Branches⟩
theorem yp_Branches_70 : yfp R_Branches 70 1 3 (.object "LostPlaces$Hall") := ⟨R_Branches, F_Branches, 17, t_Branches, rfl, by decide, wc_531, rfl, i_Branches, ⟨rfl, rfl⟩, rfl, t_Branches_ok, n_Branches⟩
theorem yg_Branches_11 : xfg R_Branches 11 1 4 := ⟨R_Branches, F_Branches, 17, rfl, by decide, wc_532, rfl, i_Branches⟩
theorem yp_Main_10 : yfp R_Main 10 0 0 (.object "LostPlaces$Tape") := ⟨R_Main, F_Main, 20, t_Main, rfl, by decide, wc_585, rfl, i_Main, ⟨rfl, rfl⟩, rfl, t_Main_ok, n_Main⟩
theorem yp_Main_19 : yfp R_Main 19 0 1 (.object "LostPlaces$Room") := ⟨R_Main, F_Main, 20, t_Main, rfl, by decide, wc_586, rfl, i_Main, ⟨rfl, rfl⟩, rfl, t_Main_ok, n_Main⟩
theorem yp_Main_23 : yfp R_Main 23 0 2 (.object "LostPlaces$Room") := ⟨R_Main, F_Main, 20, t_Main, rfl, by decide, wc_587, rfl, i_Main, ⟨rfl, rfl⟩, rfl, t_Main_ok, n_Main⟩
theorem yg_Main_10 : xfg R_Main 10 0 0 := ⟨R_Main, F_Main, 20, rfl, by decide, wc_585, rfl, i_Main⟩
theorem yp_Main_31 : yfp R_Main 31 0 3 (.object "LostPlaces$RoomReader") := ⟨R_Main, F_Main, 20, t_Main, rfl, by decide, wc_588, rfl, i_Main, ⟨rfl, rfl⟩, rfl, t_Main_ok, n_Main⟩
theorem yp_Main_38 : yfp R_Main 38 0 4 (.object "LostPlaces$TasteReader") := ⟨R_Main, F_Main, 20, t_Main, rfl, by decide, wc_589, rfl, i_Main, ⟨rfl, rfl⟩, rfl, t_Main_ok, n_Main⟩
theorem yp_Main_44 : yfp R_Main 44 0 5 (.array (.object "LostPlaces$Taste")) := ⟨R_Main, F_Main, 20, t_Main, rfl, by decide, wc_590, rfl, i_Main, ⟨rfl, rfl⟩, rfl, t_Main_ok, n_Main⟩
theorem yp_Main_48 : xfp R_Main 48 0 6 .int := ⟨R_Main, F_Main, 20, t_Main, rfl, by decide, wc_591, rfl, i_Main, rfl, rfl, t_Main_ok, n_Main⟩
theorem yp_Main_52 : xfp R_Main 52 0 7 .int := ⟨R_Main, F_Main, 20, t_Main, rfl, by decide, wc_592, rfl, i_Main, rfl, rfl, t_Main_ok, n_Main⟩
theorem yp_Main_55 : xfp R_Main 55 0 8 .int := ⟨R_Main, F_Main, 20, t_Main, rfl, by decide, wc_593, rfl, i_Main, rfl, rfl, t_Main_ok, n_Main⟩
theorem yg_Main_19 : xfg R_Main 19 0 1 := ⟨R_Main, F_Main, 20, rfl, by decide, wc_586, rfl, i_Main⟩
theorem yp_Main_63 : yfp R_Main 63 0 9 (.object "LostPlaces$Likings") := ⟨R_Main, F_Main, 20, t_Main, rfl, by decide, wc_594, rfl, i_Main, ⟨rfl, rfl⟩, rfl, t_Main_ok, n_Main⟩
theorem yg_Main_63 : xfg R_Main 63 0 9 := ⟨R_Main, F_Main, 20, rfl, by decide, wc_594, rfl, i_Main⟩
theorem yp_Main_72 : yfp R_Main 72 0 10 (.object "LostPlaces$Evening") := ⟨R_Main, F_Main, 20, t_Main, rfl, by decide, wc_595, rfl, i_Main, ⟨rfl, rfl⟩, rfl, t_Main_ok, n_Main⟩
theorem yp_Main_79 : yfp R_Main 79 0 11 (.object "LostPlaces$Hall") := ⟨R_Main, F_Main, 20, t_Main, rfl, by decide, wc_596, rfl, i_Main, ⟨rfl, rfl⟩, rfl, t_Main_ok, n_Main⟩
theorem yp_Main_83 : yfp R_Main 83 0 12 (.array (.object "LostPlaces$Hall")) := ⟨R_Main, F_Main, 20, t_Main, rfl, by decide, wc_597, rfl, i_Main, ⟨rfl, rfl⟩, rfl, t_Main_ok, n_Main⟩
theorem yp_Main_87 : xfp R_Main 87 0 13 .int := ⟨R_Main, F_Main, 20, t_Main, rfl, by decide, wc_598, rfl, i_Main, rfl, rfl, t_Main_ok, n_Main⟩
theorem yp_Main_90 : xfp R_Main 90 0 14 .int := ⟨R_Main, F_Main, 20, t_Main, rfl, by decide, wc_599, rfl, i_Main, rfl, rfl, t_Main_ok, n_Main⟩
theorem yp_Main_93 : yfp R_Main 93 0 15 (.object "LostPlaces$Hall") := ⟨R_Main, F_Main, 20, t_Main, rfl, by decide, wc_600, rfl, i_Main, ⟨rfl, rfl⟩, rfl, t_Main_ok, n_Main⟩
theorem yp_Main_96 : xfp R_Main 96 0 16 .boolean := ⟨R_Main, F_Main, 20, t_Main, rfl, by decide, wc_601, rfl, i_Main, rfl, rfl, t_Main_ok, n_Main⟩
theorem yg_Main_72 : xfg R_Main 72 0 10 := ⟨R_Main, F_Main, 20, rfl, by decide, wc_595, rfl, i_Main⟩
theorem yg_Main_79 : xfg R_Main 79 0 11 := ⟨R_Main, F_Main, 20, rfl, by decide, wc_596, rfl, i_Main⟩
theorem yp_Main_105 : yfp R_Main 105 0 17 (.object "LostPlaces$Guess") := ⟨R_Main, F_Main, 20, t_Main, rfl, by decide, wc_602, rfl, i_Main, ⟨rfl, rfl⟩, rfl, t_Main_ok, n_Main⟩
theorem yp_Main_114 : yfp R_Main 114 0 18 (.object "LostPlaces$Game") := ⟨R_Main, F_Main, 20, t_Main, rfl, by decide, wc_603, rfl, i_Main, ⟨rfl, rfl⟩, rfl, t_Main_ok, n_Main⟩
theorem yp_Main_121 : yfp R_Main 121 0 19 (.object "LostPlaces$Branches") := ⟨R_Main, F_Main, 20, t_Main, rfl, by decide, wc_604, rfl, i_Main, ⟨rfl, rfl⟩, rfl, t_Main_ok, n_Main⟩
theorem yg_Main_44 : xfg R_Main 44 0 5 := ⟨R_Main, F_Main, 20, rfl, by decide, wc_590, rfl, i_Main⟩
theorem yg_Main_83 : xfg R_Main 83 0 12 := ⟨R_Main, F_Main, 20, rfl, by decide, wc_597, rfl, i_Main⟩
theorem yp_Model_9 : yfp R_Model 9 12 1 (.array .byte) := ⟨R_Model, F_Model, 60, t_Model, rfl, by decide, wc_1490, rfl, i_Model, ⟨rfl, rfl⟩, rfl, t_Model_ok, n_Model⟩
theorem yp_Model_13 : yfp R_Model 13 12 2 (.array .byte) := ⟨R_Model, F_Model, 60, t_Model, rfl, by decide, wc_1491, rfl, i_Model, ⟨rfl, rfl⟩, rfl, t_Model_ok, n_Model⟩
theorem yp_Model_16 : yfp R_Model 16 12 3 (.array .int) := ⟨R_Model, F_Model, 60, t_Model, rfl, by decide, wc_1492, rfl, i_Model, ⟨rfl, rfl⟩, rfl, t_Model_ok, n_Model⟩
theorem yp_Model_20 : yfp R_Model 20 12 4 (.array .int) := ⟨R_Model, F_Model, 60, t_Model, rfl, by decide, wc_1493, rfl, i_Model, ⟨rfl, rfl⟩, rfl, t_Model_ok, n_Model⟩
theorem yg_Model_9 : xfg R_Model 9 12 1 := ⟨R_Model, F_Model, 60, rfl, by decide, wc_1490, rfl, i_Model⟩
theorem yp_Model_23 : xfp R_Model 23 12 5 (.array .byte) := ⟨R_Model, F_Model, 60, t_Model, rfl, by decide, wc_1494, rfl, i_Model, rfl, rfl, t_Model_ok, n_Model⟩
theorem yp_Model_28 : yfp R_Model 28 12 15 (.object "java/lang/String") := ⟨R_Model, F_Model, 60, t_Model, rfl, by decide, wc_1504, rfl, i_Model, ⟨rfl, rfl⟩, rfl, t_Model_ok, n_Model⟩
theorem yp_Model_34 : yfp R_Model 34 12 16 (.object "java/lang/String") := ⟨R_Model, F_Model, 60, t_Model, rfl, by decide, wc_1505, rfl, i_Model, ⟨rfl, rfl⟩, rfl, t_Model_ok, n_Model⟩
theorem yp_Model_37 : yfp R_Model 37 12 18 (.array .int) := ⟨R_Model, F_Model, 60, t_Model, rfl, by decide, wc_1507, rfl, i_Model, ⟨rfl, rfl⟩, rfl, t_Model_ok, n_Model⟩
theorem yp_Model_40 : yfp R_Model 40 12 19 (.array .int) := ⟨R_Model, F_Model, 60, t_Model, rfl, by decide, wc_1508, rfl, i_Model, ⟨rfl, rfl⟩, rfl, t_Model_ok, n_Model⟩
theorem yp_Model_43 : yfp R_Model 43 12 20 (.array .int) := ⟨R_Model, F_Model, 60, t_Model, rfl, by decide, wc_1509, rfl, i_Model, ⟨rfl, rfl⟩, rfl, t_Model_ok, n_Model⟩
theorem yp_Model_46 : yfp R_Model 46 12 21 (.array .int) := ⟨R_Model, F_Model, 60, t_Model, rfl, by decide, wc_1510, rfl, i_Model, ⟨rfl, rfl⟩, rfl, t_Model_ok, n_Model⟩
theorem yp_Model_49 : yfp R_Model 49 12 22 (.array .int) := ⟨R_Model, F_Model, 60, t_Model, rfl, by decide, wc_1511, rfl, i_Model, ⟨rfl, rfl⟩, rfl, t_Model_ok, n_Model⟩
theorem yp_Model_52 : yfp R_Model 52 12 23 (.array .int) := ⟨R_Model, F_Model, 60, t_Model, rfl, by decide, wc_1512, rfl, i_Model, ⟨rfl, rfl⟩, rfl, t_Model_ok, n_Model⟩
theorem yp_Model_55 : yfp R_Model 55 12 24 (.array .int) := ⟨R_Model, F_Model, 60, t_Model, rfl, by decide, wc_1513, rfl, i_Model, ⟨rfl, rfl⟩, rfl, t_Model_ok, n_Model⟩
theorem yp_Model_58 : yfp R_Model 58 12 25 (.array .int) := ⟨R_Model, F_Model, 60, t_Model, rfl, by decide, wc_1514, rfl, i_Model, ⟨rfl, rfl⟩, rfl, t_Model_ok, n_Model⟩
theorem yp_Model_61 : yfp R_Model 61 12 33 (.array .int) := ⟨R_Model, F_Model, 60, t_Model, rfl, by decide, wc_1522, rfl, i_Model, ⟨rfl, rfl⟩, rfl, t_Model_ok, n_Model⟩
theorem yp_Model_64 : yfp R_Model 64 12 34 (.array .int) := ⟨R_Model, F_Model, 60, t_Model, rfl, by decide, wc_1523, rfl, i_Model, ⟨rfl, rfl⟩, rfl, t_Model_ok, n_Model⟩
theorem yp_Model_67 : xfp R_Model 67 12 35 .int := ⟨R_Model, F_Model, 60, t_Model, rfl, by decide, wc_1524, rfl, i_Model, rfl, rfl, t_Model_ok, n_Model⟩
theorem yp_Model_71 : yfp R_Model 71 12 37 (.array .long) := ⟨R_Model, F_Model, 60, t_Model, rfl, by decide, wc_1526, rfl, i_Model, ⟨rfl, rfl⟩, rfl, t_Model_ok, n_Model⟩
theorem yp_Model_75 : yfp R_Model 75 12 38 (.array .int) := ⟨R_Model, F_Model, 60, t_Model, rfl, by decide, wc_1527, rfl, i_Model, ⟨rfl, rfl⟩, rfl, t_Model_ok, n_Model⟩
theorem yp_Model_78 : xfp R_Model 78 12 39 .int := ⟨R_Model, F_Model, 60, t_Model, rfl, by decide, wc_1528, rfl, i_Model, rfl, rfl, t_Model_ok, n_Model⟩
theorem yp_Model_81 : yfp R_Model 81 12 42 (.array .int) := ⟨R_Model, F_Model, 60, t_Model, rfl, by decide, wc_1531, rfl, i_Model, ⟨rfl, rfl⟩, rfl, t_Model_ok, n_Model⟩
theorem yp_Model_84 : yfp R_Model 84 12 43 (.array .int) := ⟨R_Model, F_Model, 60, t_Model, rfl, by decide, wc_1532, rfl, i_Model, ⟨rfl, rfl⟩, rfl, t_Model_ok, n_Model⟩
theorem yp_Model_87 : yfp R_Model 87 12 44 (.array .int) := ⟨R_Model, F_Model, 60, t_Model, rfl, by decide, wc_1533, rfl, i_Model, ⟨rfl, rfl⟩, rfl, t_Model_ok, n_Model⟩
theorem yp_Model_90 : yfp R_Model 90 12 45 (.array .int) := ⟨R_Model, F_Model, 60, t_Model, rfl, by decide, wc_1534, rfl, i_Model, ⟨rfl, rfl⟩, rfl, t_Model_ok, n_Model⟩
theorem yp_Model_93 : yfp R_Model 93 12 48 (.array .int) := ⟨R_Model, F_Model, 60, t_Model, rfl, by decide, wc_1537, rfl, i_Model, ⟨rfl, rfl⟩, rfl, t_Model_ok, n_Model⟩
theorem yp_Model_96 : yfp R_Model 96 12 49 (.array .int) := ⟨R_Model, F_Model, 60, t_Model, rfl, by decide, wc_1538, rfl, i_Model, ⟨rfl, rfl⟩, rfl, t_Model_ok, n_Model⟩
theorem yp_Model_99 : yfp R_Model 99 12 50 (.array .int) := ⟨R_Model, F_Model, 60, t_Model, rfl, by decide, wc_1539, rfl, i_Model, ⟨rfl, rfl⟩, rfl, t_Model_ok, n_Model⟩
theorem yp_Model_102 : yfp R_Model 102 12 52 (.array .int) := ⟨R_Model, F_Model, 60, t_Model, rfl, by decide, wc_1541, rfl, i_Model, ⟨rfl, rfl⟩, rfl, t_Model_ok, n_Model⟩
theorem yp_Model_105 : yfp R_Model 105 12 55 (.array .int) := ⟨R_Model, F_Model, 60, t_Model, rfl, by decide, wc_1544, rfl, i_Model, ⟨rfl, rfl⟩, rfl, t_Model_ok, n_Model⟩
theorem yp_Model_108 : yfp R_Model 108 12 56 (.array .int) := ⟨R_Model, F_Model, 60, t_Model, rfl, by decide, wc_1545, rfl, i_Model, ⟨rfl, rfl⟩, rfl, t_Model_ok, n_Model⟩
theorem yp_Model_111 : yfp R_Model 111 12 58 (.array .int) := ⟨R_Model, F_Model, 60, t_Model, rfl, by decide, wc_1547, rfl, i_Model, ⟨rfl, rfl⟩, rfl, t_Model_ok, n_Model⟩
theorem yn_TasteReader_9 : ynw R_TasteReader 9 10 4 [.null, .int 0, .null, .int 0] := ⟨R_Taste, F_Taste, t_Taste, rfl, i_Taste, t_Taste_ok, wc_291, wc_292, wc_113, fun j hj => match j, hj with | 0, _ => rfl | 1, _ => rfl | 2, _ => rfl | 3, _ => rfl | j + 4, h => absurd h (by omega)⟩
theorem yn_Guess_9 : ynw R_Guess 9 5 11 [.null, .null, .null, .null, .null, .null, .null, .int 0, .int 0, .null, .int 0] := ⟨R_Hall, F_Hall, t_Hall, rfl, i_Hall, t_Hall_ok, wc_460, wc_388, wc_117, fun j hj => match j, hj with | 0, _ => rfl | 1, _ => rfl | 2, _ => rfl | 3, _ => rfl | 4, _ => rfl | 5, _ => rfl | 6, _ => rfl | 7, _ => rfl | 8, _ => rfl | 9, _ => rfl | 10, _ => rfl | j + 11, h => absurd h (by omega)⟩
theorem yn_Game_11 : ynw R_Game 11 5 11 [.null, .null, .null, .null, .null, .null, .null, .int 0, .int 0, .null, .int 0] := ⟨R_Hall, F_Hall, t_Hall, rfl, i_Hall, t_Hall_ok, wc_493, wc_388, wc_117, fun j hj => match j, hj with | 0, _ => rfl | 1, _ => rfl | 2, _ => rfl | 3, _ => rfl | 4, _ => rfl | 5, _ => rfl | 6, _ => rfl | 7, _ => rfl | 8, _ => rfl | 9, _ => rfl | 10, _ => rfl | j + 11, h => absurd h (by omega)⟩
theorem yn_Branches_9 : ynw R_Branches 9 5 11 [.null, .null, .null, .null, .null, .null, .null, .int 0, .int 0, .null, .int 0] := ⟨R_Hall, F_Hall, t_Hall, rfl, i_Hall, t_Hall_ok, wc_526, wc_388, wc_117, fun j hj => match j, hj with | 0, _ => rfl | 1, _ => rfl | 2, _ => rfl | 3, _ => rfl | 4, _ => rfl | 5, _ => rfl | 6, _ => rfl | 7, _ => rfl | 8, _ => rfl | 9, _ => rfl | 10, _ => rfl | j + 11, h => absurd h (by omega)⟩
theorem yn_Main_7 : ynw R_Main 7 9 4 [.null, .int 0, .int 0, .int 0] := ⟨R_Tape, F_Tape, t_Tape, rfl, i_Tape, t_Tape_ok, wc_140, wc_141, wc_109, fun j hj => match j, hj with | 0, _ => rfl | 1, _ => rfl | 2, _ => rfl | 3, _ => rfl | j + 4, h => absurd h (by omega)⟩
theorem yn_Main_16 : ynw R_Main 16 7 16 [.int 0, .int 0, .int 0, .int 0, .null, .null, .null, .null, .null, .null, .null, .null, .null, .null, .int 0, .int 0] := ⟨R_Room, F_Room, t_Room, rfl, i_Room, t_Room_ok, wc_166, wc_167, wc_110, fun j hj => match j, hj with | 0, _ => rfl | 1, _ => rfl | 2, _ => rfl | 3, _ => rfl | 4, _ => rfl | 5, _ => rfl | 6, _ => rfl | 7, _ => rfl | 8, _ => rfl | 9, _ => rfl | 10, _ => rfl | 11, _ => rfl | 12, _ => rfl | 13, _ => rfl | 14, _ => rfl | 15, _ => rfl | j + 16, h => absurd h (by omega)⟩
theorem yn_Main_26 : ynw R_Main 26 8 2 [.null, .null] := ⟨R_RoomReader, F_RoomReader, t_RoomReader, rfl, i_RoomReader, t_RoomReader_ok, wc_272, wc_273, wc_111, fun j hj => match j, hj with | 0, _ => rfl | 1, _ => rfl | j + 2, h => absurd h (by omega)⟩
theorem yn_Main_35 : ynw R_Main 35 11 2 [.null, .null] := ⟨R_TasteReader, F_TasteReader, t_TasteReader, rfl, i_TasteReader, t_TasteReader_ok, wc_285, wc_286, wc_112, fun j hj => match j, hj with | 0, _ => rfl | 1, _ => rfl | j + 2, h => absurd h (by omega)⟩
theorem yn_Main_58 : ynw R_Main 58 6 6 [.null, .null, .null, .null, .null, .int 0] := ⟨R_Likings, F_Likings, t_Likings, rfl, i_Likings, t_Likings_ok, wc_320, wc_321, wc_114, fun j hj => match j, hj with | 0, _ => rfl | 1, _ => rfl | 2, _ => rfl | 3, _ => rfl | 4, _ => rfl | 5, _ => rfl | j + 6, h => absurd h (by omega)⟩
theorem yn_Main_67 : ynw R_Main 67 2 7 [.null, .null, .int 0, .int 0, .int 0, .int 0, .long 0] := ⟨R_Evening, F_Evening, t_Evening, rfl, i_Evening, t_Evening_ok, wc_358, wc_359, wc_116, fun j hj => match j, hj with | 0, _ => rfl | 1, _ => rfl | 2, _ => rfl | 3, _ => rfl | 4, _ => rfl | 5, _ => rfl | 6, _ => rfl | j + 7, h => absurd h (by omega)⟩
theorem yn_Main_76 : ynw R_Main 76 5 11 [.null, .null, .null, .null, .null, .null, .null, .int 0, .int 0, .null, .int 0] := ⟨R_Hall, F_Hall, t_Hall, rfl, i_Hall, t_Hall_ok, wc_387, wc_388, wc_117, fun j hj => match j, hj with | 0, _ => rfl | 1, _ => rfl | 2, _ => rfl | 3, _ => rfl | 4, _ => rfl | 5, _ => rfl | 6, _ => rfl | 7, _ => rfl | 8, _ => rfl | 9, _ => rfl | 10, _ => rfl | j + 11, h => absurd h (by omega)⟩
theorem yn_Main_100 : ynw R_Main 100 4 7 [.null, .null, .null, .null, .null, .int 0, .int 0] := ⟨R_Guess, F_Guess, t_Guess, rfl, i_Guess, t_Guess_ok, wc_454, wc_455, wc_118, fun j hj => match j, hj with | 0, _ => rfl | 1, _ => rfl | 2, _ => rfl | 3, _ => rfl | 4, _ => rfl | 5, _ => rfl | 6, _ => rfl | j + 7, h => absurd h (by omega)⟩
theorem yn_Main_109 : ynw R_Main 109 3 8 [.null, .null, .null, .null, .null, .int 0, .null, .null] := ⟨R_Game, F_Game, t_Game, rfl, i_Game, t_Game_ok, wc_487, wc_488, wc_119, fun j hj => match j, hj with | 0, _ => rfl | 1, _ => rfl | 2, _ => rfl | 3, _ => rfl | 4, _ => rfl | 5, _ => rfl | 6, _ => rfl | 7, _ => rfl | j + 8, h => absurd h (by omega)⟩
theorem yn_Main_118 : ynw R_Main 118 1 17 [.null, .null, .null, .null, .null, .int 0, .int 0, .int 0, .null, .null, .int 0, .null, .int 0, .null, .null, .int 0, .int 0] := ⟨R_Branches, F_Branches, t_Branches, rfl, i_Branches, t_Branches_ok, wc_520, wc_521, wc_120, fun j hj => match j, hj with | 0, _ => rfl | 1, _ => rfl | 2, _ => rfl | 3, _ => rfl | 4, _ => rfl | 5, _ => rfl | 6, _ => rfl | 7, _ => rfl | 8, _ => rfl | 9, _ => rfl | 10, _ => rfl | 11, _ => rfl | 12, _ => rfl | 13, _ => rfl | 14, _ => rfl | 15, _ => rfl | 16, _ => rfl | j + 17, h => absurd h (by omega)⟩
theorem yn_Main_42 : ynw R_Main 42 10 4 [.null, .int 0, .null, .int 0] := ⟨R_Taste, F_Taste, t_Taste, rfl, i_Taste, t_Taste_ok, wc_318, wc_292, wc_113, fun j hj => match j, hj with | 0, _ => rfl | 1, _ => rfl | 2, _ => rfl | 3, _ => rfl | j + 4, h => absurd h (by omega)⟩
theorem yc_TasteReader_11 : ycw R_TasteReader 11 0 y_Taste_init prog_11_method_1_code 1 := ⟨wc_113, wc_295, ⟨by decide +kernel, by decide +kernel, by decide +kernel⟩, by decide, rfl, wc_294⟩
theorem yc_Guess_11 : ycw R_Guess 11 0 y_Hall_init prog_6_method_1_code 1 := ⟨wc_117, wc_391, ⟨by decide +kernel, by decide +kernel, by decide +kernel⟩, by decide, rfl, wc_390⟩
theorem yc_Game_13 : ycw R_Game 13 0 y_Hall_init prog_6_method_1_code 1 := ⟨wc_117, wc_391, ⟨by decide +kernel, by decide +kernel, by decide +kernel⟩, by decide, rfl, wc_390⟩
theorem yc_Branches_47 : ycw R_Branches 47 0 y_Hall_init prog_6_method_1_code 1 := ⟨wc_117, wc_391, ⟨by decide +kernel, by decide +kernel, by decide +kernel⟩, by decide, rfl, wc_390⟩
theorem yc_Main_9 : ycw R_Main 9 0 y_Tape_init prog_10_method_1_code 1 := ⟨wc_109, wc_144, ⟨by decide +kernel, by decide +kernel, by decide +kernel⟩, by decide, rfl, wc_143⟩
theorem yc_Main_18 : ycw R_Main 18 0 y_Room_init prog_8_method_1_code 1 := ⟨wc_110, wc_170, ⟨by decide +kernel, by decide +kernel, by decide +kernel⟩, by decide, rfl, wc_169⟩
theorem yc_Main_28 : ycw R_Main 28 1 y_RoomReader_init prog_9_method_1_code 2 := ⟨wc_111, wc_276, ⟨by decide +kernel, by decide +kernel, by decide +kernel⟩, by decide, rfl, wc_275⟩
theorem yc_Main_37 : ycw R_Main 37 1 y_TasteReader_init prog_12_method_1_code 2 := ⟨wc_112, wc_289, ⟨by decide +kernel, by decide +kernel, by decide +kernel⟩, by decide, rfl, wc_288⟩
theorem yc_Main_60 : ycw R_Main 60 1 y_Likings_init prog_7_method_1_code 2 := ⟨wc_114, wc_324, ⟨by decide +kernel, by decide +kernel, by decide +kernel⟩, by decide, rfl, wc_323⟩
theorem yc_Main_69 : ycw R_Main 69 2 y_Evening_init prog_3_method_1_code 3 := ⟨wc_116, wc_362, ⟨by decide +kernel, by decide +kernel, by decide +kernel⟩, by decide, rfl, wc_361⟩
theorem yc_Main_78 : ycw R_Main 78 0 y_Hall_init prog_6_method_1_code 1 := ⟨wc_117, wc_391, ⟨by decide +kernel, by decide +kernel, by decide +kernel⟩, by decide, rfl, wc_390⟩
theorem yc_Main_102 : ycw R_Main 102 4 y_Guess_init prog_5_method_1_code 5 := ⟨wc_118, wc_458, ⟨by decide +kernel, by decide +kernel, by decide +kernel⟩, by decide, rfl, wc_457⟩
theorem yc_Main_111 : ycw R_Main 111 3 y_Game_init prog_4_method_1_code 4 := ⟨wc_119, wc_491, ⟨by decide +kernel, by decide +kernel, by decide +kernel⟩, by decide, rfl, wc_490⟩
theorem yc_Main_120 : ycw R_Main 120 4 y_Branches_init prog_2_method_1_code 6 := ⟨wc_120, wc_524, ⟨by decide +kernel, by decide +kernel, by decide +kernel⟩, by decide, rfl, wc_523⟩
theorem yc_Main_125 : ycw R_Main 125 0 y_Taste_init prog_11_method_1_code 1 := ⟨wc_113, wc_295, ⟨by decide +kernel, by decide +kernel, by decide +kernel⟩, by decide, rfl, wc_294⟩
theorem yE_arr4 {G : XG} {a n y : Nat} (h : xkd a = (6, n, y)) : xE G sz0 a = some (.inl (G.2.1 4, n, .inr (.inr (.inr (.inr (fun j => some (G.2.2.1 + (y + 9 * j)))))))) := by unfold xE; rw [h]; rfl
theorem yE_arr5 {G : XG} {a n y : Nat} (h : xkd a = (7, n, y)) : xE G sz0 a = some (.inl (G.2.1 5, n, .inr (.inr (.inr (.inr (fun j => some (G.2.2.1 + (y + 3 * j)))))))) := by unfold xE; rw [h]; rfl
