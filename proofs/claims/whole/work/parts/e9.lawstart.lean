/-! the start of the law: what the tables and the statement say, as one world -/
def lgF : List Cond := flatC (Jvm.Cond.and given_1 narrow_1)
def xtm : Nat → Term := fun i => match i with
  | 0 => .string "LostPlaces$Likings" 23
  | 1 => .string "LostPlaces$RoomReader" 58
  | 2 => .string "LostPlaces$RoomReader" 94
  | 3 => .string "LostPlaces$RoomReader" 96
  | 4 => .string "LostPlaces$RoomReader" 98
  | 5 => .string "LostPlaces$RoomReader" 100
  | 6 => .string "LostPlaces$TasteReader" 42
  | 7 => .string "LostPlaces$TasteReader" 56
  | 8 => .string "LostPlaces" 191
  | 9 => .string "LostPlacesModel" 26
  | _ => .string "" 0
def stx : List Nat := [111, 121, 130, 139, 150, 161, 172, 201, 216, 281]
theorem fl_ex : ∀ i, i < 10 → lgF[stx.getD i 0]? = some (Cond.exactly (xtm i) "java/lang/String") := by decide +kernel
theorem fl_co : ∀ i, i < 10 → lgF[stx.getD i 0 + 1]? = some (Cond.eq (.field (xtm i) "java/lang/String" "coder" "B") (.int 0)) := by decide +kernel
theorem fl_ar : ∀ i, i < 10 → lgF[stx.getD i 0 + 2]? = some (Cond.arrayOf (.field (xtm i) "java/lang/String" "value" "[B") .byte) := by decide +kernel
theorem fl_le : ∀ i, i < 10 → lgF[stx.getD i 0 + 3]? = some (Cond.eq (.length (.field (xtm i) "java/lang/String" "value" "[B")) (.int (Int32.ofNat (xlen.getD i 0)))) := by decide +kernel
theorem fl_el : ∀ i, i < 10 → ∀ j, j < xlen.getD i 0 → lgF[stx.getD i 0 + 4 + j]? = some (Cond.eq (.elem (.field (xtm i) "java/lang/String" "value" "[B") (.int (Int32.ofNat j))) (.int ((xbyt.getD i []).getD j 0))) := by decide +kernel
theorem fl_ne : ∀ i, i < 10 → ∀ j, j < 10 → i ≠ j → (Cond.not (Cond.eq (xtm i) (xtm j))) ∈ lgF ∨ (Cond.not (Cond.eq (xtm j) (xtm i))) ∈ lgF := by decide +kernel
theorem fl_LEAST0 : lgF[29]? = some (Cond.arrayOf (.static R_RoomReader "LEAST" "[I") .int) ∧ lgF[30]? = some (Cond.eq (.length (.static R_RoomReader "LEAST" "[I")) (.int 16)) := by decide +kernel
theorem fl_LEAST : ∀ j, j < 16 → lgF[31 + j]? = some (Cond.eq (.elem (.static R_RoomReader "LEAST" "[I") (.int (Int32.ofNat j))) (.int ((xtab.getD 0 []).getD j 0))) := by decide +kernel
theorem fl_MOST0 : lgF[48]? = some (Cond.arrayOf (.static R_RoomReader "MOST" "[I") .int) ∧ lgF[49]? = some (Cond.eq (.length (.static R_RoomReader "MOST" "[I")) (.int 16)) := by decide +kernel
theorem fl_MOST : ∀ j, j < 16 → lgF[50 + j]? = some (Cond.eq (.elem (.static R_RoomReader "MOST" "[I") (.int (Int32.ofNat j))) (.int ((xtab.getD 1 []).getD j 0))) := by decide +kernel
theorem fl_UNTOLD0 : lgF[6]? = some (Cond.arrayOf (.static R_RoomReader "UNTOLD" "[I") .int) ∧ lgF[7]? = some (Cond.eq (.length (.static R_RoomReader "UNTOLD" "[I")) (.int 16)) := by decide +kernel
theorem fl_UNTOLD : ∀ j, j < 16 → lgF[8 + j]? = some (Cond.eq (.elem (.static R_RoomReader "UNTOLD" "[I") (.int (Int32.ofNat j))) (.int ((xtab.getD 2 []).getD j 0))) := by decide +kernel
theorem fl_cs : Cond.eq (.static "java/lang/String" "COMPACT_STRINGS" "Z") (.int 1) ∈ lgF := List.mem_of_getElem? (i := 4) (by decide +kernel)
theorem fl_si : Cond.isRef (.static "jdk/internal/util/Preconditions" "SIOOBE_FORMATTER" "Ljava/util/function/BiFunction;") ∈ lgF := List.mem_of_getElem? (i := 24) (by decide +kernel)
theorem fl_us : Cond.isRef (.static Bundle.tN "UNASSIGNED_STACK" Bundle.steD) ∈ lgF := List.mem_of_getElem? (i := 66) (by decide +kernel)
theorem fl_ss : Cond.isRef (.static Bundle.tN "SUPPRESSED_SENTINEL" Bundle.listD) ∈ lgF := List.mem_of_getElem? (i := 67) (by decide +kernel)
theorem fl_q0 : Cond.eq (xtm 0) (.string "LostPlaces$TasteReader" 99) ∈ lgF := List.mem_of_getElem? (i := 194) (by decide +kernel)
theorem fl_q1 : Cond.eq (xtm 0) (.string "LostPlacesModel" 32) ∈ lgF := List.mem_of_getElem? (i := 306) (by decide +kernel)
theorem fl_q2 : Cond.eq (xtm 2) (.string "LostPlacesModel" 273) ∈ lgF := List.mem_of_getElem? (i := 326) (by decide +kernel)
theorem fl_q3 : Cond.eq (xtm 3) (.string "LostPlacesModel" 279) ∈ lgF := List.mem_of_getElem? (i := 347) (by decide +kernel)
theorem fl_q4 : Cond.eq (xtm 4) (.string "LostPlacesModel" 281) ∈ lgF := List.mem_of_getElem? (i := 368) (by decide +kernel)
theorem fl_q5 : Cond.eq (xtm 5) (.string "LostPlacesModel" 283) ∈ lgF := List.mem_of_getElem? (i := 389) (by decide +kernel)
theorem ws_111 : (Jvm.Cond.initialized "LostPlaces$RoomReader") ∈ lw_tbl := List.mem_of_getElem? (i := 111) (by decide +kernel)
theorem ws_115 : (Jvm.Cond.initialized "java/lang/String") ∈ lw_tbl := List.mem_of_getElem? (i := 115) (by decide +kernel)
theorem ws_125 : (Jvm.Cond.initialized "jdk/internal/util/Preconditions") ∈ lw_tbl := List.mem_of_getElem? (i := 125) (by decide +kernel)
theorem ws_127 : (Jvm.Cond.initialized "java/lang/Throwable") ∈ lw_tbl := List.mem_of_getElem? (i := 127) (by decide +kernel)
theorem ws_133 : (Jvm.Cond.instantiable "LostPlaces" (20 : Nat)) ∈ lw_tbl := List.mem_of_getElem? (i := 133) (by decide +kernel)
theorem ws_141 : (Jvm.Cond.instantiable "LostPlaces$Tape" (4 : Nat)) ∈ lw_tbl := List.mem_of_getElem? (i := 141) (by decide +kernel)
theorem ws_142 : (Jvm.Cond.methodLinkNest "LostPlaces" (9 : Nat) ({ cls := "LostPlaces$Tape", name := "<init>", desc := "()V" } : Jvm.MethodName) "LostPlaces") ∈ lw_tbl := List.mem_of_getElem? (i := 142) (by decide +kernel)
theorem ws_165 : (Jvm.Cond.arrayClass Jvm.ClassFile.FieldType.int) ∈ lw_tbl := List.mem_of_getElem? (i := 165) (by decide +kernel)
theorem ws_167 : (Jvm.Cond.instantiable "LostPlaces$Room" (16 : Nat)) ∈ lw_tbl := List.mem_of_getElem? (i := 167) (by decide +kernel)
theorem ws_168 : (Jvm.Cond.methodLinkNest "LostPlaces" (18 : Nat) ({ cls := "LostPlaces$Room", name := "<init>", desc := "()V" } : Jvm.MethodName) "LostPlaces") ∈ lw_tbl := List.mem_of_getElem? (i := 168) (by decide +kernel)
theorem ws_273 : (Jvm.Cond.instantiable "LostPlaces$RoomReader" (2 : Nat)) ∈ lw_tbl := List.mem_of_getElem? (i := 273) (by decide +kernel)
theorem ws_286 : (Jvm.Cond.instantiable "LostPlaces$TasteReader" (2 : Nat)) ∈ lw_tbl := List.mem_of_getElem? (i := 286) (by decide +kernel)
theorem ws_292 : (Jvm.Cond.instantiable "LostPlaces$Taste" (4 : Nat)) ∈ lw_tbl := List.mem_of_getElem? (i := 292) (by decide +kernel)
theorem ws_293 : (Jvm.Cond.methodLinkNest "LostPlaces$TasteReader" (11 : Nat) ({ cls := "LostPlaces$Taste", name := "<init>", desc := "()V" } : Jvm.MethodName) "LostPlaces") ∈ lw_tbl := List.mem_of_getElem? (i := 293) (by decide +kernel)
theorem ws_319 : (Jvm.Cond.arrayOver (Jvm.ClassFile.FieldType.object "LostPlaces$Taste")) ∈ lw_tbl := List.mem_of_getElem? (i := 319) (by decide +kernel)
theorem ws_321 : (Jvm.Cond.instantiable "LostPlaces$Likings" (6 : Nat)) ∈ lw_tbl := List.mem_of_getElem? (i := 321) (by decide +kernel)
theorem ws_326 : (Jvm.Cond.stringRef "LostPlaces$Likings" (23 : Nat) "wfxqmp") ∈ lw_tbl := List.mem_of_getElem? (i := 326) (by decide +kernel)
theorem ws_336 : (Jvm.Cond.laysStatic "java/lang/String" "COMPACT_STRINGS" "Z") ∈ lw_tbl := List.mem_of_getElem? (i := 336) (by decide +kernel)
theorem ws_357 : (Jvm.Cond.arrayClass Jvm.ClassFile.FieldType.byte) ∈ lw_tbl := List.mem_of_getElem? (i := 357) (by decide +kernel)
theorem ws_359 : (Jvm.Cond.instantiable "LostPlaces$Evening" (7 : Nat)) ∈ lw_tbl := List.mem_of_getElem? (i := 359) (by decide +kernel)
theorem ws_388 : (Jvm.Cond.instantiable "LostPlaces$Hall" (11 : Nat)) ∈ lw_tbl := List.mem_of_getElem? (i := 388) (by decide +kernel)
theorem ws_389 : (Jvm.Cond.methodLinkNest "LostPlaces" (78 : Nat) ({ cls := "LostPlaces$Hall", name := "<init>", desc := "()V" } : Jvm.MethodName) "LostPlaces") ∈ lw_tbl := List.mem_of_getElem? (i := 389) (by decide +kernel)
theorem ws_453 : (Jvm.Cond.arrayOver (Jvm.ClassFile.FieldType.object "LostPlaces$Hall")) ∈ lw_tbl := List.mem_of_getElem? (i := 453) (by decide +kernel)
theorem ws_455 : (Jvm.Cond.instantiable "LostPlaces$Guess" (7 : Nat)) ∈ lw_tbl := List.mem_of_getElem? (i := 455) (by decide +kernel)
theorem ws_461 : (Jvm.Cond.methodLinkNest "LostPlaces$Guess" (11 : Nat) ({ cls := "LostPlaces$Hall", name := "<init>", desc := "()V" } : Jvm.MethodName) "LostPlaces") ∈ lw_tbl := List.mem_of_getElem? (i := 461) (by decide +kernel)
theorem ws_488 : (Jvm.Cond.instantiable "LostPlaces$Game" (8 : Nat)) ∈ lw_tbl := List.mem_of_getElem? (i := 488) (by decide +kernel)
theorem ws_494 : (Jvm.Cond.methodLinkNest "LostPlaces$Game" (13 : Nat) ({ cls := "LostPlaces$Hall", name := "<init>", desc := "()V" } : Jvm.MethodName) "LostPlaces") ∈ lw_tbl := List.mem_of_getElem? (i := 494) (by decide +kernel)
theorem ws_521 : (Jvm.Cond.instantiable "LostPlaces$Branches" (17 : Nat)) ∈ lw_tbl := List.mem_of_getElem? (i := 521) (by decide +kernel)
theorem ws_527 : (Jvm.Cond.methodLinkNest "LostPlaces$Branches" (47 : Nat) ({ cls := "LostPlaces$Hall", name := "<init>", desc := "()V" } : Jvm.MethodName) "LostPlaces") ∈ lw_tbl := List.mem_of_getElem? (i := 527) (by decide +kernel)
theorem ws_583 : (Jvm.Cond.arrayClass Jvm.ClassFile.FieldType.boolean) ∈ lw_tbl := List.mem_of_getElem? (i := 583) (by decide +kernel)
theorem ws_584 : (Jvm.Cond.methodLinkNest "LostPlaces" (125 : Nat) ({ cls := "LostPlaces$Taste", name := "<init>", desc := "()V" } : Jvm.MethodName) "LostPlaces") ∈ lw_tbl := List.mem_of_getElem? (i := 584) (by decide +kernel)
theorem ws_675 : (Jvm.Cond.laysStatic "LostPlaces$RoomReader" "UNTOLD" "[I") ∈ lw_tbl := List.mem_of_getElem? (i := 675) (by decide +kernel)
theorem ws_684 : (Jvm.Cond.stringRef "LostPlaces$RoomReader" (58 : Nat) "spge") ∈ lw_tbl := List.mem_of_getElem? (i := 684) (by decide +kernel)
theorem ws_740 : (Jvm.Cond.laysStatic "jdk/internal/util/Preconditions" "SIOOBE_FORMATTER" "Ljava/util/function/BiFunction;") ∈ lw_tbl := List.mem_of_getElem? (i := 740) (by decide +kernel)
theorem ws_793 : (Jvm.Cond.stringRef "LostPlaces$RoomReader" (94 : Nat) "wfx") ∈ lw_tbl := List.mem_of_getElem? (i := 793) (by decide +kernel)
theorem ws_794 : (Jvm.Cond.stringRef "LostPlaces$RoomReader" (96 : Nat) "sqbk") ∈ lw_tbl := List.mem_of_getElem? (i := 794) (by decide +kernel)
theorem ws_795 : (Jvm.Cond.stringRef "LostPlaces$RoomReader" (98 : Nat) "pmd") ∈ lw_tbl := List.mem_of_getElem? (i := 795) (by decide +kernel)
theorem ws_796 : (Jvm.Cond.stringRef "LostPlaces$RoomReader" (100 : Nat) "ft") ∈ lw_tbl := List.mem_of_getElem? (i := 796) (by decide +kernel)
theorem ws_807 : (Jvm.Cond.laysStatic "LostPlaces$RoomReader" "LEAST" "[I") ∈ lw_tbl := List.mem_of_getElem? (i := 807) (by decide +kernel)
theorem ws_809 : (Jvm.Cond.laysStatic "LostPlaces$RoomReader" "MOST" "[I") ∈ lw_tbl := List.mem_of_getElem? (i := 809) (by decide +kernel)
theorem ws_856 : (Jvm.Cond.stringRef "LostPlaces$TasteReader" (42 : Nat) "!(") ∈ lw_tbl := List.mem_of_getElem? (i := 856) (by decide +kernel)
theorem ws_871 : (Jvm.Cond.stringRef "LostPlaces$TasteReader" (99 : Nat) "wfxqmp") ∈ lw_tbl := List.mem_of_getElem? (i := 871) (by decide +kernel)
theorem ws_889 : (Jvm.Cond.stringRef "LostPlaces$TasteReader" (56 : Nat) "=<>") ∈ lw_tbl := List.mem_of_getElem? (i := 889) (by decide +kernel)
theorem ws_1418 : (Jvm.Cond.castable "java/util/NoSuchElementException" "java/util/NoSuchElementException") ∈ lw_tbl := List.mem_of_getElem? (i := 1418) (by decide +kernel)
theorem ws_1420 : (Jvm.Cond.declares ({ cls := "java/lang/RuntimeException", name := "<init>", desc := "(Ljava/lang/String;)V" } : Jvm.MethodName)) ∈ lw_tbl := List.mem_of_getElem? (i := 1420) (by decide +kernel)
theorem ws_1422 : (Jvm.Cond.declares ({ cls := "java/lang/Exception", name := "<init>", desc := "(Ljava/lang/String;)V" } : Jvm.MethodName)) ∈ lw_tbl := List.mem_of_getElem? (i := 1422) (by decide +kernel)
theorem ws_1424 : (Jvm.Cond.declares ({ cls := "java/lang/Throwable", name := "<init>", desc := "(Ljava/lang/String;)V" } : Jvm.MethodName)) ∈ lw_tbl := List.mem_of_getElem? (i := 1424) (by decide +kernel)
theorem ws_1443 : (Jvm.Cond.laysStatic "java/lang/Throwable" "UNASSIGNED_STACK" "[Ljava/lang/StackTraceElement;") ∈ lw_tbl := List.mem_of_getElem? (i := 1443) (by decide +kernel)
theorem ws_1445 : (Jvm.Cond.laysStatic "java/lang/Throwable" "SUPPRESSED_SENTINEL" "Ljava/util/List;") ∈ lw_tbl := List.mem_of_getElem? (i := 1445) (by decide +kernel)
theorem ws_1455 : (Jvm.Cond.stringRef "LostPlaces" (191 : Nat) "no such sitter, or nothing of it told by that number") ∈ lw_tbl := List.mem_of_getElem? (i := 1455) (by decide +kernel)
theorem ws_1482 : (Jvm.Cond.instantiable "LostPlacesModel" (60 : Nat)) ∈ lw_tbl := List.mem_of_getElem? (i := 1482) (by decide +kernel)
theorem ws_1487 : (Jvm.Cond.stringRef "LostPlacesModel" (26 : Nat) "y") ∈ lw_tbl := List.mem_of_getElem? (i := 1487) (by decide +kernel)
theorem ws_1488 : (Jvm.Cond.stringRef "LostPlacesModel" (32 : Nat) "wfxqmp") ∈ lw_tbl := List.mem_of_getElem? (i := 1488) (by decide +kernel)
theorem ws_1670 : (Jvm.Cond.arrayClass Jvm.ClassFile.FieldType.long) ∈ lw_tbl := List.mem_of_getElem? (i := 1670) (by decide +kernel)
theorem ws_1720 : (Jvm.Cond.stringRef "LostPlacesModel" (273 : Nat) "wfx") ∈ lw_tbl := List.mem_of_getElem? (i := 1720) (by decide +kernel)
theorem ws_1770 : (Jvm.Cond.stringRef "LostPlacesModel" (279 : Nat) "sqbk") ∈ lw_tbl := List.mem_of_getElem? (i := 1770) (by decide +kernel)
theorem ws_1771 : (Jvm.Cond.stringRef "LostPlacesModel" (281 : Nat) "pmd") ∈ lw_tbl := List.mem_of_getElem? (i := 1771) (by decide +kernel)
theorem ws_1772 : (Jvm.Cond.stringRef "LostPlacesModel" (283 : Nat) "ft") ∈ lw_tbl := List.mem_of_getElem? (i := 1772) (by decide +kernel)
section LS0
variable {s : State} {args : Array Value}
theorem st_K (hts : ∀ w ∈ lw_tbl, w.before args s = true) : ∃ D : va_G, ∀ (c : Nat) (q : vw_C), xcl[c]? = some q → u_Kn s q.1 q.2.1 q.2.2 (D.1 c) (D.2 c) := by
  have ht : ∀ w ∈ TG, w.before args s = true := fun w hw => hts w (List.mem_filter.mp hw).1
  have h : ∀ c : Nat, ∃ x : ClassId × (Nat → Nat), ∀ q : vw_C, xcl[c]? = some q → u_Kn s q.1 q.2.1 q.2.2 x.1 x.2 := by
    intro c
    match c with
    | 0 =>
      obtain ⟨a, f, h⟩ := u_known (C := R_Main) (T := F_Main) (N := 20) ht i_Main (hts _ ws_133)
      exact ⟨(a, f), fun q hq => by cases hq; exact h⟩
    | 1 =>
      obtain ⟨a, f, h⟩ := u_known (C := R_Branches) (T := F_Branches) (N := 17) ht i_Branches (hts _ ws_521)
      exact ⟨(a, f), fun q hq => by cases hq; exact h⟩
    | 2 =>
      obtain ⟨a, f, h⟩ := u_known (C := R_Evening) (T := F_Evening) (N := 7) ht i_Evening (hts _ ws_359)
      exact ⟨(a, f), fun q hq => by cases hq; exact h⟩
    | 3 =>
      obtain ⟨a, f, h⟩ := u_known (C := R_Game) (T := F_Game) (N := 8) ht i_Game (hts _ ws_488)
      exact ⟨(a, f), fun q hq => by cases hq; exact h⟩
    | 4 =>
      obtain ⟨a, f, h⟩ := u_known (C := R_Guess) (T := F_Guess) (N := 7) ht i_Guess (hts _ ws_455)
      exact ⟨(a, f), fun q hq => by cases hq; exact h⟩
    | 5 =>
      obtain ⟨a, f, h⟩ := u_known (C := R_Hall) (T := F_Hall) (N := 11) ht i_Hall (hts _ ws_388)
      exact ⟨(a, f), fun q hq => by cases hq; exact h⟩
    | 6 =>
      obtain ⟨a, f, h⟩ := u_known (C := R_Likings) (T := F_Likings) (N := 6) ht i_Likings (hts _ ws_321)
      exact ⟨(a, f), fun q hq => by cases hq; exact h⟩
    | 7 =>
      obtain ⟨a, f, h⟩ := u_known (C := R_Room) (T := F_Room) (N := 16) ht i_Room (hts _ ws_167)
      exact ⟨(a, f), fun q hq => by cases hq; exact h⟩
    | 8 =>
      obtain ⟨a, f, h⟩ := u_known (C := R_RoomReader) (T := F_RoomReader) (N := 2) ht i_RoomReader (hts _ ws_273)
      exact ⟨(a, f), fun q hq => by cases hq; exact h⟩
    | 9 =>
      obtain ⟨a, f, h⟩ := u_known (C := R_Tape) (T := F_Tape) (N := 4) ht i_Tape (hts _ ws_141)
      exact ⟨(a, f), fun q hq => by cases hq; exact h⟩
    | 10 =>
      obtain ⟨a, f, h⟩ := u_known (C := R_Taste) (T := F_Taste) (N := 4) ht i_Taste (hts _ ws_292)
      exact ⟨(a, f), fun q hq => by cases hq; exact h⟩
    | 11 =>
      obtain ⟨a, f, h⟩ := u_known (C := R_TasteReader) (T := F_TasteReader) (N := 2) ht i_TasteReader (hts _ ws_286)
      exact ⟨(a, f), fun q hq => by cases hq; exact h⟩
    | 12 =>
      obtain ⟨a, f, h⟩ := u_known (C := R_Model) (T := F_Model) (N := 60) ht i_Model (hts _ ws_1482)
      exact ⟨(a, f), fun q hq => by cases hq; exact h⟩
    | k + 13 => exact ⟨((0 : Nat), fun _ => 0), fun q hq => by simp at hq⟩
  obtain ⟨f, hf⟩ := Classical.axiomOfChoice h
  exact ⟨(fun c => (f c).1, fun c => (f c).2), fun c q hq => hf c q hq⟩
theorem st_A {ty : FieldType} (h : (Cond.arrayClass ty).before args s = true) : ∃ cA : ClassId, ArrOfT s cA ty ∧ s.vm.findClass ("[" ++ ty.toString) = some cA := by
  obtain ⟨cA, kA, comp, h1, h2, h3⟩ := Cond.arrayClass_spec h
  exact ⟨cA, fun n z => ⟨fun k h => (by cases h), kA, h2, comp, h3⟩, h1⟩
theorem st_O {C : String} (h : (Cond.arrayOver (.object C)).before args s = true) : ∃ cA : ClassId, ArrOfT s cA (.object C) ∧ va_RA s cA (.object C) := by
  obtain ⟨comp, cA, kA, h1, h2, h3, h4, h5⟩ := Cond.arrayOver_spec h
  exact ⟨cA, fun n z => ⟨fun k h => (by cases h), kA, h3, comp, h4⟩, kA, comp, h3, h4, h1, h5⟩
theorem st_T {k : Nat} {nm : String} {A : Nat → Prop} (hts : ∀ w ∈ lw_tbl, w.before args s = true) (hfl : ∀ w ∈ lgF, w.before args s = true) (hA : ∀ a : Nat, a < s.heap.size → ¬ A a) (hl : Cond.laysStatic R_RoomReader nm "[I" ∈ lw_tbl) (ha : (Cond.arrayOf (.static R_RoomReader nm "[I") .int) ∈ lgF) (hn : (Cond.eq (.length (.static R_RoomReader nm "[I")) (.int 16)) ∈ lgF) (he : ∀ j, j < 16 → (Cond.eq (.elem (.static R_RoomReader nm "[I") (.int (Int32.ofNat j))) (.int ((xtab.getD k []).getD j 0))) ∈ lgF) : ∃ t : Nat, va_Z R_RoomReader nm "[I" (.ref t) A s s.heap ∧ va_T .int t 16 (fun j => .int ((xtab.getD k []).getD j 0)) A s s.heap := by
  obtain ⟨t, h1, h2⟩ := va_Tof (N := 16) (f := fun j => .int ((xtab.getD k []).getD j 0)) (A := A) (by decide) (hfl _ ha) (va_eqt (hfl _ hn)) (fun j hj => va_eqt (hfl _ (he j hj))) hA
  exact ⟨t, va_Zof (hts _ hl) (hts _ ws_111) h1 hA, h2⟩
end LS0
theorem st_S {s : State} {args : Array Value} {A : Nat → Prop} (hts : ∀ w ∈ lw_tbl, w.before args s = true) (hfl : ∀ w ∈ lgF, w.before args s = true) (hA : ∀ a : Nat, a < s.heap.size → ¬ A a) : ∃ adK adV ta : Nat → Nat, ∀ (G : XG), G.2.2.2.1 = adK → G.2.2.2.2.1 = adV → G.2.2.2.2.2 = ta → xS G A s s.heap := by
  have fm : ∀ {k : Nat} {w : Cond}, lgF[k]? = some w → w.before args s = true := fun h => hfl _ (List.mem_of_getElem? h)
  obtain ⟨adK, adV, hS, hK⟩ := vk_Sof (N := 10) (tm := xtm) (len := xlen) (byt := xbyt) (A := A) (args := args) (s := s) (by decide +kernel) (fun i hi => fm (fl_ex i hi)) (fun i hi => fm (fl_co i hi)) (fun i hi => fm (fl_ar i hi)) (fun i hi => fm (fl_le i hi)) (fun i hi j hj => fm (fl_el i hi j hj)) (fun i j hi hj hn => (fl_ne i hi j hj hn).elim (fun h => Or.inl (hfl _ h)) (fun h => Or.inr (hfl _ h))) hA
  obtain ⟨t0, a0, b0⟩ := st_T (k := 0) (A := A) hts hfl hA ws_807 (List.mem_of_getElem? fl_LEAST0.1) (List.mem_of_getElem? fl_LEAST0.2) (fun j hj => List.mem_of_getElem? (fl_LEAST j hj))
  obtain ⟨t1, a1, b1⟩ := st_T (k := 1) (A := A) hts hfl hA ws_809 (List.mem_of_getElem? fl_MOST0.1) (List.mem_of_getElem? fl_MOST0.2) (fun j hj => List.mem_of_getElem? (fl_MOST j hj))
  obtain ⟨t2, a2, b2⟩ := st_T (k := 2) (A := A) hts hfl hA ws_675 (List.mem_of_getElem? fl_UNTOLD0.1) (List.mem_of_getElem? fl_UNTOLD0.2) (fun j hj => List.mem_of_getElem? (fl_UNTOLD j hj))
  refine ⟨adK, adV, fun k => if k = 0 then t0 else if k = 1 then t1 else t2, fun G g1 g2 g3 => ?_⟩
  unfold xS
  rw [g1, g2, g3]
  refine ⟨hS, va_Zof (hts _ ws_336) (hts _ ws_115) (va_eqt (hfl _ fl_cs)) hA, fun k hk => ?_, fun q hq => ?_, ?_⟩
  · match k, hk with
    | 0, _ => exact ⟨a0, b0⟩
    | 1, _ => exact ⟨a1, b1⟩
    | 2, _ => exact ⟨a2, b2⟩
  · simp only [xstr, List.mem_cons, List.not_mem_nil, or_false] at hq
    rcases hq with rfl | rfl | rfl | rfl | rfl | rfl | rfl | rfl | rfl | rfl | rfl | rfl | rfl | rfl | rfl | rfl
    · exact vk_R.of (hts _ ws_326) (hK 0 (by decide))
    · exact vk_R.of (hts _ ws_684) (hK 1 (by decide))
    · exact vk_R.of (hts _ ws_793) (hK 2 (by decide))
    · exact vk_R.of (hts _ ws_794) (hK 3 (by decide))
    · exact vk_R.of (hts _ ws_795) (hK 4 (by decide))
    · exact vk_R.of (hts _ ws_796) (hK 5 (by decide))
    · exact vk_R.of (hts _ ws_856) (hK 6 (by decide))
    · exact vk_R.of (hts _ ws_871) (va_eqR (hfl _ fl_q0) (hK 0 (by decide)))
    · exact vk_R.of (hts _ ws_889) (hK 7 (by decide))
    · exact vk_R.of (hts _ ws_1455) (hK 8 (by decide))
    · exact vk_R.of (hts _ ws_1487) (hK 9 (by decide))
    · exact vk_R.of (hts _ ws_1488) (va_eqR (hfl _ fl_q1) (hK 0 (by decide)))
    · exact vk_R.of (hts _ ws_1720) (va_eqR (hfl _ fl_q2) (hK 2 (by decide)))
    · exact vk_R.of (hts _ ws_1770) (va_eqR (hfl _ fl_q3) (hK 3 (by decide)))
    · exact vk_R.of (hts _ ws_1771) (va_eqR (hfl _ fl_q4) (hK 4 (by decide)))
    · exact vk_R.of (hts _ ws_1772) (va_eqR (hfl _ fl_q5) (hK 5 (by decide)))
  · rcases va_Zqof (A := A) (hts _ ws_740) (hts _ ws_125) (hfl _ fl_si) hA with h | ⟨t, h⟩
    · exact ⟨_, rfl, h⟩
    · exact ⟨_, rfl, h⟩
theorem st_Z {s : State} {args : Array Value} {A : Nat → Prop} (hts : ∀ w ∈ lw_tbl, w.before args s = true) (hfl : ∀ w ∈ lgF, w.before args s = true) (hA : ∀ a : Nat, a < s.heap.size → ¬ A a) : zN A s s.heap := by
  refine ⟨vx_Zqof (hts _ ws_1443) (hts _ ws_127) (hfl _ fl_us) hA, vx_Zqof (hts _ ws_1445) (hts _ ws_127) (hfl _ fl_ss) hA, fun w hw => va_Nw.of (zNb_ot w hw) (A := args) ?_⟩
  simp only [zNb, List.mem_cons, List.not_mem_nil, or_false] at hw
  rcases hw with rfl | rfl | rfl | rfl
  · exact hts _ ws_1420
  · exact hts _ ws_1422
  · exact hts _ ws_1424
  · exact hts _ ws_1418
theorem st_N {s : State} {args : Array Value} (hts : ∀ w ∈ lw_tbl, w.before args s = true) : yN s := by
  refine ⟨fun w hw => ?_, va_AO.of (hts _ ws_453), va_AO.of (hts _ ws_319)⟩
  simp only [yNw, List.mem_cons, List.not_mem_nil, or_false] at hw
  rcases hw with rfl | rfl | rfl | rfl | rfl | rfl | rfl | rfl
  · exact va_Nw.of rfl (hts _ ws_142)
  · exact va_Nw.of rfl (hts _ ws_168)
  · exact va_Nw.of rfl (hts _ ws_293)
  · exact va_Nw.of rfl (hts _ ws_389)
  · exact va_Nw.of rfl (hts _ ws_461)
  · exact va_Nw.of rfl (hts _ ws_494)
  · exact va_Nw.of rfl (hts _ ws_527)
  · exact va_Nw.of rfl (hts _ ws_584)
/-- the law's world at its entry -/
theorem st_G {p : Program} {s : State} {m : MethodId} {meth : Method} {c : Code} {b L : Nat} {xs : Nat → Int32} (C0 : lw_At p s m meth c b L xs) : ∃ G : XG, s.heap.size = G.2.2.1 + 1 ∧ XC G 1 600 p s m #[.ref b] c code 7 R_Lw ∧ yN s ∧ zN (xA G 1 600) s s.heap := by
  obtain ⟨hx, hb, hr, hml, hown, hts, hX, hbl, hlk, hg⟩ := C0
  have hfl : ∀ w ∈ lgF, w.before #[Value.ref b] s = true := flat_of_before _ hg
  obtain ⟨D, hD⟩ := st_K hts
  obtain ⟨c0, p0, q0⟩ := st_A (hts _ ws_165)
  obtain ⟨c1, p1, q1⟩ := st_A (hts _ ws_357)
  obtain ⟨c2, p2, q2⟩ := st_A (hts _ ws_583)
  obtain ⟨c3, p3, q3⟩ := st_A (hts _ ws_1670)
  obtain ⟨c4, p4, q4⟩ := st_O (hts _ ws_453)
  obtain ⟨c5, p5, q5⟩ := st_O (hts _ ws_319)
  obtain ⟨Z, hZ⟩ : ∃ Z, s.heap.size = Z + 1 := ⟨s.heap.size - 1, by omega⟩
  have hA : ∀ a : Nat, a < s.heap.size → ¬ (Z + 1 ≤ a ∧ a < Z + 600) := fun a h1 h2 => by omega
  obtain ⟨adK, adV, ta, hS⟩ := st_S (A := fun q => Z + 1 ≤ q ∧ q < Z + 600) hts hfl hA
  refine ⟨(D, fun k => if k = 0 then c0 else if k = 1 then c1 else if k = 2 then c2 else if k = 3 then c3 else if k = 4 then c4 else c5, Z, adK, adV, ta), hZ, ⟨hx, hb, hml, hown, fun w hw => hts w (List.mem_filter.mp hw).1, ⟨hD, fun k q hq => ?_⟩, hS _ rfl rfl rfl⟩, st_N hts, st_Z hts hfl hA⟩
  match k, hq with
  | 0, hq => cases hq; exact ⟨p0, q0⟩
  | 1, hq => cases hq; exact ⟨p1, q1⟩
  | 2, hq => cases hq; exact ⟨p2, q2⟩
  | 3, hq => cases hq; exact ⟨p3, q3⟩
  | 4, hq => cases hq; exact ⟨p4, q4⟩
  | 5, hq => cases hq; exact ⟨p5, q5⟩
