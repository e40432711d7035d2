/-! the texts' own members: walks, and what they answer -/
def R_JS : String := "java/lang/String"
def R_JL : String := "java/lang/StringLatin1"
def R_JP : String := "jdk/internal/util/Preconditions"
theorem w_115 : (Jvm.Cond.initialized "java/lang/String") ∈ TG := tg_in 115 (by decide +kernel) rfl
theorem w_122 : (Jvm.Cond.initialized "java/lang/StringLatin1") ∈ TG := tg_in 122 (by decide +kernel) rfl
theorem w_123 : (Jvm.Cond.initialized "java/lang/Math") ∈ TG := tg_in 123 (by decide +kernel) rfl
theorem w_125 : (Jvm.Cond.initialized "jdk/internal/util/Preconditions") ∈ TG := tg_in 125 (by decide +kernel) rfl
theorem w_328 : (Jvm.Cond.instanceMethod ({ cls := "java/lang/String", name := "length", desc := "()I" } : Jvm.MethodName)) ∈ TG := tg_in 328 (by decide +kernel) rfl
theorem w_329 : (Jvm.Cond.selects "java/lang/String" ({ cls := "java/lang/String", name := "length", desc := "()I" } : Jvm.MethodName) ({ cls := "java/lang/String", name := "length", desc := "()I" } : Jvm.MethodName)) ∈ TG := tg_in 329 (by decide +kernel) rfl
theorem w_330 : (Jvm.Cond.code ({ cls := "java/lang/String", name := "length", desc := "()I" } : Jvm.MethodName) prog_22_method_54_code (1 : Nat) (Option.some Jvm.ClassFile.FieldType.int)) ∈ TG := tg_in 330 (by decide +kernel) rfl
theorem w_331 : (Jvm.Cond.methodLink "java/lang/String" (335 : Nat) ({ cls := "java/lang/String", name := "coder", desc := "()B" } : Jvm.MethodName)) ∈ TG := tg_in 331 (by decide +kernel) rfl
theorem w_332 : (Jvm.Cond.instanceMethod ({ cls := "java/lang/String", name := "coder", desc := "()B" } : Jvm.MethodName)) ∈ TG := tg_in 332 (by decide +kernel) rfl
theorem w_333 : (Jvm.Cond.selects "java/lang/String" ({ cls := "java/lang/String", name := "coder", desc := "()B" } : Jvm.MethodName) ({ cls := "java/lang/String", name := "coder", desc := "()B" } : Jvm.MethodName)) ∈ TG := tg_in 333 (by decide +kernel) rfl
theorem w_334 : (Jvm.Cond.code ({ cls := "java/lang/String", name := "coder", desc := "()B" } : Jvm.MethodName) prog_22_method_152_code (1 : Nat) (Option.some Jvm.ClassFile.FieldType.byte)) ∈ TG := tg_in 334 (by decide +kernel) rfl
theorem w_335 : (Jvm.Cond.fieldLink "java/lang/String" (38 : Nat) "java/lang/String" "COMPACT_STRINGS" "Z") ∈ TG := tg_in 335 (by decide +kernel) rfl
theorem w_694 : (Jvm.Cond.instanceMethod ({ cls := "java/lang/String", name := "indexOf", desc := "(I)I" } : Jvm.MethodName)) ∈ TG := tg_in 694 (by decide +kernel) rfl
theorem w_695 : (Jvm.Cond.selects "java/lang/String" ({ cls := "java/lang/String", name := "indexOf", desc := "(I)I" } : Jvm.MethodName) ({ cls := "java/lang/String", name := "indexOf", desc := "(I)I" } : Jvm.MethodName)) ∈ TG := tg_in 695 (by decide +kernel) rfl
theorem w_696 : (Jvm.Cond.code ({ cls := "java/lang/String", name := "indexOf", desc := "(I)I" } : Jvm.MethodName) prog_22_method_79_code (2 : Nat) (Option.some Jvm.ClassFile.FieldType.int)) ∈ TG := tg_in 696 (by decide +kernel) rfl
theorem w_697 : (Jvm.Cond.methodLink "java/lang/String" (633 : Nat) ({ cls := "java/lang/String", name := "indexOf", desc := "(II)I" } : Jvm.MethodName)) ∈ TG := tg_in 697 (by decide +kernel) rfl
theorem w_698 : (Jvm.Cond.instanceMethod ({ cls := "java/lang/String", name := "indexOf", desc := "(II)I" } : Jvm.MethodName)) ∈ TG := tg_in 698 (by decide +kernel) rfl
theorem w_699 : (Jvm.Cond.selects "java/lang/String" ({ cls := "java/lang/String", name := "indexOf", desc := "(II)I" } : Jvm.MethodName) ({ cls := "java/lang/String", name := "indexOf", desc := "(II)I" } : Jvm.MethodName)) ∈ TG := tg_in 699 (by decide +kernel) rfl
theorem w_700 : (Jvm.Cond.code ({ cls := "java/lang/String", name := "indexOf", desc := "(II)I" } : Jvm.MethodName) prog_22_method_80_code (3 : Nat) (Option.some Jvm.ClassFile.FieldType.int)) ∈ TG := tg_in 700 (by decide +kernel) rfl
theorem w_701 : (Jvm.Cond.methodLink "java/lang/String" (492 : Nat) ({ cls := "java/lang/String", name := "isLatin1", desc := "()Z" } : Jvm.MethodName)) ∈ TG := tg_in 701 (by decide +kernel) rfl
theorem w_702 : (Jvm.Cond.instanceMethod ({ cls := "java/lang/String", name := "isLatin1", desc := "()Z" } : Jvm.MethodName)) ∈ TG := tg_in 702 (by decide +kernel) rfl
theorem w_703 : (Jvm.Cond.selects "java/lang/String" ({ cls := "java/lang/String", name := "isLatin1", desc := "()Z" } : Jvm.MethodName) ({ cls := "java/lang/String", name := "isLatin1", desc := "()Z" } : Jvm.MethodName)) ∈ TG := tg_in 703 (by decide +kernel) rfl
theorem w_704 : (Jvm.Cond.code ({ cls := "java/lang/String", name := "isLatin1", desc := "()Z" } : Jvm.MethodName) prog_22_method_154_code (1 : Nat) (Option.some Jvm.ClassFile.FieldType.boolean)) ∈ TG := tg_in 704 (by decide +kernel) rfl
theorem w_705 : (Jvm.Cond.methodLink "java/lang/String" (505 : Nat) ({ cls := "java/lang/String", name := "length", desc := "()I" } : Jvm.MethodName)) ∈ TG := tg_in 705 (by decide +kernel) rfl
theorem w_706 : (Jvm.Cond.methodLink "java/lang/String" (637 : Nat) ({ cls := "java/lang/StringLatin1", name := "indexOf", desc := "([BIII)I" } : Jvm.MethodName)) ∈ TG := tg_in 706 (by decide +kernel) rfl
theorem w_707 : (Jvm.Cond.static ({ cls := "java/lang/StringLatin1", name := "indexOf", desc := "([BIII)I" } : Jvm.MethodName)) ∈ TG := tg_in 707 (by decide +kernel) rfl
theorem w_708 : (Jvm.Cond.code ({ cls := "java/lang/StringLatin1", name := "indexOf", desc := "([BIII)I" } : Jvm.MethodName) prog_23_method_22_code (4 : Nat) (Option.some Jvm.ClassFile.FieldType.int)) ∈ TG := tg_in 708 (by decide +kernel) rfl
theorem w_709 : (Jvm.Cond.methodLink "java/lang/StringLatin1" (88 : Nat) ({ cls := "java/lang/StringLatin1", name := "canEncode", desc := "(I)Z" } : Jvm.MethodName)) ∈ TG := tg_in 709 (by decide +kernel) rfl
theorem w_710 : (Jvm.Cond.static ({ cls := "java/lang/StringLatin1", name := "canEncode", desc := "(I)Z" } : Jvm.MethodName)) ∈ TG := tg_in 710 (by decide +kernel) rfl
theorem w_711 : (Jvm.Cond.code ({ cls := "java/lang/StringLatin1", name := "canEncode", desc := "(I)Z" } : Jvm.MethodName) prog_23_method_4_code (1 : Nat) (Option.some Jvm.ClassFile.FieldType.boolean)) ∈ TG := tg_in 711 (by decide +kernel) rfl
theorem w_712 : (Jvm.Cond.methodLink "java/lang/StringLatin1" (92 : Nat) ({ cls := "java/lang/Math", name := "max", desc := "(II)I" } : Jvm.MethodName)) ∈ TG := tg_in 712 (by decide +kernel) rfl
theorem w_713 : (Jvm.Cond.static ({ cls := "java/lang/Math", name := "max", desc := "(II)I" } : Jvm.MethodName)) ∈ TG := tg_in 713 (by decide +kernel) rfl
theorem w_714 : (Jvm.Cond.code ({ cls := "java/lang/Math", name := "max", desc := "(II)I" } : Jvm.MethodName) prog_20_method_65_code (2 : Nat) (Option.some Jvm.ClassFile.FieldType.int)) ∈ TG := tg_in 714 (by decide +kernel) rfl
theorem w_715 : (Jvm.Cond.methodLink "java/lang/StringLatin1" (38 : Nat) ({ cls := "java/lang/Math", name := "min", desc := "(II)I" } : Jvm.MethodName)) ∈ TG := tg_in 715 (by decide +kernel) rfl
theorem w_716 : (Jvm.Cond.static ({ cls := "java/lang/Math", name := "min", desc := "(II)I" } : Jvm.MethodName)) ∈ TG := tg_in 716 (by decide +kernel) rfl
theorem w_717 : (Jvm.Cond.code ({ cls := "java/lang/Math", name := "min", desc := "(II)I" } : Jvm.MethodName) prog_20_method_69_code (2 : Nat) (Option.some Jvm.ClassFile.FieldType.int)) ∈ TG := tg_in 717 (by decide +kernel) rfl
theorem w_718 : (Jvm.Cond.methodLink "java/lang/StringLatin1" (95 : Nat) ({ cls := "java/lang/StringLatin1", name := "indexOfChar", desc := "([BIII)I" } : Jvm.MethodName)) ∈ TG := tg_in 718 (by decide +kernel) rfl
theorem w_719 : (Jvm.Cond.static ({ cls := "java/lang/StringLatin1", name := "indexOfChar", desc := "([BIII)I" } : Jvm.MethodName)) ∈ TG := tg_in 719 (by decide +kernel) rfl
theorem w_720 : (Jvm.Cond.code ({ cls := "java/lang/StringLatin1", name := "indexOfChar", desc := "([BIII)I" } : Jvm.MethodName) prog_23_method_23_code (6 : Nat) (Option.some Jvm.ClassFile.FieldType.int)) ∈ TG := tg_in 720 (by decide +kernel) rfl
theorem w_739 : (Jvm.Cond.fieldLink "java/lang/String" (1053 : Nat) "jdk/internal/util/Preconditions" "SIOOBE_FORMATTER" "Ljava/util/function/BiFunction;") ∈ TG := tg_in 739 (by decide +kernel) rfl
theorem w_1730 : (Jvm.Cond.instanceMethod ({ cls := "java/lang/String", name := "charAt", desc := "(I)C" } : Jvm.MethodName)) ∈ TG := tg_in 1730 (by decide +kernel) rfl
theorem w_1731 : (Jvm.Cond.selects "java/lang/String" ({ cls := "java/lang/String", name := "charAt", desc := "(I)C" } : Jvm.MethodName) ({ cls := "java/lang/String", name := "charAt", desc := "(I)C" } : Jvm.MethodName)) ∈ TG := tg_in 1731 (by decide +kernel) rfl
theorem w_1732 : (Jvm.Cond.code ({ cls := "java/lang/String", name := "charAt", desc := "(I)C" } : Jvm.MethodName) prog_22_method_56_code (2 : Nat) (Option.some Jvm.ClassFile.FieldType.char)) ∈ TG := tg_in 1732 (by decide +kernel) rfl
theorem w_1733 : (Jvm.Cond.methodLink "java/lang/String" (495 : Nat) ({ cls := "java/lang/StringLatin1", name := "charAt", desc := "([BI)C" } : Jvm.MethodName)) ∈ TG := tg_in 1733 (by decide +kernel) rfl
theorem w_1734 : (Jvm.Cond.static ({ cls := "java/lang/StringLatin1", name := "charAt", desc := "([BI)C" } : Jvm.MethodName)) ∈ TG := tg_in 1734 (by decide +kernel) rfl
theorem w_1735 : (Jvm.Cond.code ({ cls := "java/lang/StringLatin1", name := "charAt", desc := "([BI)C" } : Jvm.MethodName) prog_23_method_2_code (2 : Nat) (Option.some Jvm.ClassFile.FieldType.char)) ∈ TG := tg_in 1735 (by decide +kernel) rfl
theorem w_1736 : (Jvm.Cond.methodLink "java/lang/StringLatin1" (9 : Nat) ({ cls := "java/lang/String", name := "checkIndex", desc := "(II)V" } : Jvm.MethodName)) ∈ TG := tg_in 1736 (by decide +kernel) rfl
theorem w_1737 : (Jvm.Cond.static ({ cls := "java/lang/String", name := "checkIndex", desc := "(II)V" } : Jvm.MethodName)) ∈ TG := tg_in 1737 (by decide +kernel) rfl
theorem w_1738 : (Jvm.Cond.code ({ cls := "java/lang/String", name := "checkIndex", desc := "(II)V" } : Jvm.MethodName) prog_22_method_155_code (2 : Nat) (Option.none : Option Jvm.ClassFile.FieldType)) ∈ TG := tg_in 1738 (by decide +kernel) rfl
theorem w_1739 : (Jvm.Cond.methodLink "java/lang/String" (1059 : Nat) ({ cls := "jdk/internal/util/Preconditions", name := "checkIndex", desc := "(IILjava/util/function/BiFunction;)I" } : Jvm.MethodName)) ∈ TG := tg_in 1739 (by decide +kernel) rfl
theorem w_1740 : (Jvm.Cond.static ({ cls := "jdk/internal/util/Preconditions", name := "checkIndex", desc := "(IILjava/util/function/BiFunction;)I" } : Jvm.MethodName)) ∈ TG := tg_in 1740 (by decide +kernel) rfl
theorem w_1741 : (Jvm.Cond.code ({ cls := "jdk/internal/util/Preconditions", name := "checkIndex", desc := "(IILjava/util/function/BiFunction;)I" } : Jvm.MethodName) prog_30_method_11_code (3 : Nat) (Option.some Jvm.ClassFile.FieldType.int)) ∈ TG := tg_in 1741 (by decide +kernel) rfl
theorem w_2170 : (Jvm.Cond.fieldLink "java/lang/String" (9 : Nat) "java/lang/String" "value" "[B") ∈ TG := tg_in 2170 (by decide +kernel) rfl
theorem w_2171 : (Jvm.Cond.fieldLink "java/lang/String" (15 : Nat) "java/lang/String" "coder" "B") ∈ TG := tg_in 2171 (by decide +kernel) rfl
def y_JS_coder : MethodName := ⟨R_JS, "coder", "()B"⟩
def y_JS_length : MethodName := ⟨R_JS, "length", "()I"⟩
def y_JS_isLatin1 : MethodName := ⟨R_JS, "isLatin1", "()Z"⟩
def y_JP_checkIndex : MethodName := ⟨R_JP, "checkIndex", "(IILjava/util/function/BiFunction;)I"⟩
def y_JS_checkIndex : MethodName := ⟨R_JS, "checkIndex", "(II)V"⟩
def y_JL_charAt : MethodName := ⟨R_JL, "charAt", "([BI)C"⟩
def y_JS_charAt : MethodName := ⟨R_JS, "charAt", "(I)C"⟩
def y_JL_canEncode : MethodName := ⟨R_JL, "canEncode", "(I)Z"⟩
def y_JL_indexOfChar : MethodName := ⟨R_JL, "indexOfChar", "([BIII)I"⟩
def y_JL_indexOf : MethodName := ⟨R_JL, "indexOf", "([BIII)I"⟩
def y_JS_indexOf2 : MethodName := ⟨R_JS, "indexOf", "(II)I"⟩
def y_JS_indexOf : MethodName := ⟨R_JS, "indexOf", "(I)I"⟩
theorem cw_JS_335 : xcv R_JS 335 0 y_JS_coder prog_22_method_152_code 1 (some .byte) := ⟨⟨w_331, w_115, w_334, ⟨by decide +kernel, by decide +kernel, by decide +kernel⟩, by decide⟩, w_332, w_333⟩
theorem cw_JS_1059 : xcw R_JS 1059 3 y_JP_checkIndex prog_30_method_11_code 3 (some .int) := ⟨w_1739, w_125, w_1741, ⟨by decide +kernel, by decide +kernel, by decide +kernel⟩, by decide⟩
theorem cw_JL_9 : xcw R_JL 9 2 y_JS_checkIndex prog_22_method_155_code 2 none := ⟨w_1736, w_115, w_1738, ⟨by decide +kernel, by decide +kernel, by decide +kernel⟩, by decide⟩
theorem cw_JS_492 : xcv R_JS 492 0 y_JS_isLatin1 prog_22_method_154_code 1 (some .boolean) := ⟨⟨w_701, w_115, w_704, ⟨by decide +kernel, by decide +kernel, by decide +kernel⟩, by decide⟩, w_702, w_703⟩
theorem cw_JS_495 : xcw R_JS 495 2 y_JL_charAt prog_23_method_2_code 2 (some .char) := ⟨w_1733, w_122, w_1735, ⟨by decide +kernel, by decide +kernel, by decide +kernel⟩, by decide⟩
theorem cw_JL_88 : xcw R_JL 88 1 y_JL_canEncode prog_23_method_4_code 1 (some .boolean) := ⟨w_709, w_122, w_711, ⟨by decide +kernel, by decide +kernel, by decide +kernel⟩, by decide⟩
theorem cw_JL_95 : xcw R_JL 95 4 y_JL_indexOfChar prog_23_method_23_code 6 (some .int) := ⟨w_718, w_122, w_720, ⟨by decide +kernel, by decide +kernel, by decide +kernel⟩, by decide⟩
theorem cw_JS_505 : xcv R_JS 505 0 y_JS_length prog_22_method_54_code 1 (some .int) := ⟨⟨w_705, w_115, w_330, ⟨by decide +kernel, by decide +kernel, by decide +kernel⟩, by decide⟩, w_328, w_329⟩
theorem cw_JS_637 : xcw R_JS 637 4 y_JL_indexOf prog_23_method_22_code 4 (some .int) := ⟨w_706, w_122, w_708, ⟨by decide +kernel, by decide +kernel, by decide +kernel⟩, by decide⟩
theorem cw_JS_633 : xcv R_JS 633 2 y_JS_indexOf2 prog_22_method_80_code 3 (some .int) := ⟨⟨w_697, w_115, w_700, ⟨by decide +kernel, by decide +kernel, by decide +kernel⟩, by decide⟩, w_698, w_699⟩
theorem d_JS_coder_0 : decode prog_22_method_152_code 0 = .ok (.getstatic 38, 3) := by decide +kernel
theorem d_JS_coder_3 : decode prog_22_method_152_code 3 = .ok (.ifCond .eq 10, 3) := by decide +kernel
theorem d_JS_coder_6 : decode prog_22_method_152_code 6 = .ok (.aload_n 0, 1) := by decide +kernel
theorem d_JS_coder_7 : decode prog_22_method_152_code 7 = .ok (.getfield 15, 3) := by decide +kernel
theorem d_JS_coder_10 : decode prog_22_method_152_code 10 = .ok (.goto 4, 3) := by decide +kernel
theorem d_JS_coder_13 : decode prog_22_method_152_code 13 = .ok (.iconst 1, 1) := by decide +kernel
theorem d_JS_coder_14 : decode prog_22_method_152_code 14 = .ok (.ireturn, 1) := by decide +kernel
def s_JS_coder_14 (i : Nat) (z0 : Int32) (σ : LH) : Option (Int32 × LH) :=
  if (Int32.toInt8 z0).toInt32 = z0 then (
  some (z0, σ)) else none
theorem b_JS_coder_14 {lo hi : Nat} {G : XG} {l : Launch} {p : Program} {e : Env} {R : Room} {s : State} {m : MethodId} {args : Array Value} {below : List Frame} {meth : Method} {c : Code} (C : XC G lo hi p s m args c prog_22_method_152_code 1 R_JS) (hr : meth.sig.returnType = (some .byte)) (hk : meth.locks = false) {d : Nat} (hd : 1 ≤ d + 1) (hR : xroom R (d + 1)) {i : Nat} (hi9 : i < 10) {σ' : LH} {r : Int32} {z0 : Int32} {σ : LH} (h0 : s_JS_coder_14 i z0 σ = some (r, σ')) : XJ G lo hi p l e R s m args below meth c 1 (XQ G lo hi below args s (some (.int r)) σ') 0 0 14 [] [.int z0] σ := by
  replace h0 := (show _ = _ from h0)
  unfold s_JS_coder_14 at h0
  obtain ⟨g2, h0⟩ := xgo h0
  exact x_bret C hr hk g2 h0 d_JS_coder_14
def s_JS_coder (i : Nat) (σ : LH) : Option (Int32 × LH) :=
  if (1 : Int32) = 0 then (
   s_JS_coder_14 i 1 σ)
  else (
   s_JS_coder_14 i 0 σ)
theorem c_JS_coder {lo hi : Nat} {G : XG} {l : Launch} {d : Nat} (hd : 1 ≤ d) {i : Nat} (hi9 : i < 10) {σ σ' : LH} {r : Int32} (h0 : s_JS_coder i σ = some (r, σ')) : xM G lo hi l y_JS_coder prog_22_method_152_code 1 (some .byte) d [.ref (G.2.2.2.1 i)] σ (some (.int r)) σ' := by
  obtain ⟨d, rfl⟩ : ∃ q, d = q + 1 := ⟨d - 1, by omega⟩
  refine x_met R_JS rfl (by decide +kernel) (Nat.le_of_ble_eq_true rfl) fun p e s m below meth c C hr hk hR => ?_
  refine x_lv (lv' := [(0, .ref (G.2.2.2.1 i))]) C [0] rfl ?_
  generalize xrm (d + 1) = R at hR ⊢
  unfold s_JS_coder at h0
  refine x_sgetCS C w_335 d_JS_coder_0 ?_
  refine x_if_eq C 13 d_JS_coder_3 (by decide) (fun q1 => ?_) (fun q1 => ?_)
  · replace h0 := xit q1 h0
    refine x_iconst (v := 1) C d_JS_coder_13 (by decide) ?_
    exact x_lv C [] rfl (b_JS_coder_14 C hr hk hd hR hi9 h0)
  · replace h0 := xif q1 h0
    refine x_aload_n C d_JS_coder_6 0 rfl ?_
    refine x_sgetC C hi9 w_2171 d_JS_coder_7 ?_
    refine x_goto C 14 d_JS_coder_10 (by decide) ?_
    exact x_lv C [] rfl (b_JS_coder_14 C hr hk hd hR hi9 h0)
theorem d_JS_length_0 : decode prog_22_method_54_code 0 = .ok (.aload_n 0, 1) := by decide +kernel
theorem d_JS_length_1 : decode prog_22_method_54_code 1 = .ok (.getfield 9, 3) := by decide +kernel
theorem d_JS_length_4 : decode prog_22_method_54_code 4 = .ok (.arraylength, 1) := by decide +kernel
theorem d_JS_length_5 : decode prog_22_method_54_code 5 = .ok (.aload_n 0, 1) := by decide +kernel
theorem d_JS_length_6 : decode prog_22_method_54_code 6 = .ok (.invokevirtual 335, 3) := by decide +kernel
theorem d_JS_length_9 : decode prog_22_method_54_code 9 = .ok (.ishr, 1) := by decide +kernel
theorem d_JS_length_10 : decode prog_22_method_54_code 10 = .ok (.ireturn, 1) := by decide +kernel
def s_JS_length (i : Nat) (σ : LH) : Option (Int32 × LH) :=
  xb2 (s_JS_coder i σ) fun r2 σ3 =>
  some (((js_len i) >>> (r2 &&& 31)), σ3)
theorem c_JS_length {lo hi : Nat} {G : XG} {l : Launch} {d : Nat} (hd : 2 ≤ d) {i : Nat} (hi9 : i < 10) {σ σ' : LH} {r : Int32} (h0 : s_JS_length i σ = some (r, σ')) : xM G lo hi l y_JS_length prog_22_method_54_code 1 (some .int) d [.ref (G.2.2.2.1 i)] σ (some (.int r)) σ' := by
  obtain ⟨d, rfl⟩ : ∃ q, d = q + 1 := ⟨d - 1, by omega⟩
  refine x_met R_JS rfl (by decide +kernel) (Nat.le_of_ble_eq_true rfl) fun p e s m below meth c C hr hk hR => ?_
  refine x_lv (lv' := [(0, .ref (G.2.2.2.1 i))]) C [0] rfl ?_
  generalize xrm (d + 1) = R at hR ⊢
  unfold s_JS_length at h0
  refine x_aload_n C d_JS_length_0 0 rfl ?_
  refine x_sgetV C hi9 w_2170 d_JS_length_1 ?_
  refine x_sblen C hi9 d_JS_length_4 ?_
  refine x_aload_n C d_JS_length_5 0 rfl ?_
  obtain ⟨r2, σ3, k1, h0⟩ := xbind2 h0
  refine x_callVSi C hR (c_JS_coder (d := d) (by omega) hi9 k1) cw_JS_335 hi9 rfl rfl rfl (Nat.le_of_ble_eq_true rfl) ⟨Nat.zero_le _, Nat.zero_le _⟩ d_JS_length_6 ?_
  refine x_ishr C d_JS_length_9 ?_
  exact x_iret C hr hk h0 d_JS_length_10
theorem d_JS_isLatin1_0 : decode prog_22_method_154_code 0 = .ok (.getstatic 38, 3) := by decide +kernel
theorem d_JS_isLatin1_3 : decode prog_22_method_154_code 3 = .ok (.ifCond .eq 14, 3) := by decide +kernel
theorem d_JS_isLatin1_6 : decode prog_22_method_154_code 6 = .ok (.aload_n 0, 1) := by decide +kernel
theorem d_JS_isLatin1_7 : decode prog_22_method_154_code 7 = .ok (.getfield 15, 3) := by decide +kernel
theorem d_JS_isLatin1_10 : decode prog_22_method_154_code 10 = .ok (.ifCond .ne 7, 3) := by decide +kernel
theorem d_JS_isLatin1_13 : decode prog_22_method_154_code 13 = .ok (.iconst 1, 1) := by decide +kernel
theorem d_JS_isLatin1_14 : decode prog_22_method_154_code 14 = .ok (.goto 4, 3) := by decide +kernel
theorem d_JS_isLatin1_17 : decode prog_22_method_154_code 17 = .ok (.iconst 0, 1) := by decide +kernel
theorem d_JS_isLatin1_18 : decode prog_22_method_154_code 18 = .ok (.ireturn, 1) := by decide +kernel
def s_JS_isLatin1_18 (i : Nat) (z0 : Int32) (σ : LH) : Option (Int32 × LH) :=
  if zb z0 then (
  some (z0, σ)) else none
theorem b_JS_isLatin1_18 {lo hi : Nat} {G : XG} {l : Launch} {p : Program} {e : Env} {R : Room} {s : State} {m : MethodId} {args : Array Value} {below : List Frame} {meth : Method} {c : Code} (C : XC G lo hi p s m args c prog_22_method_154_code 1 R_JS) (hr : meth.sig.returnType = (some .boolean)) (hk : meth.locks = false) {d : Nat} (hd : 1 ≤ d + 1) (hR : xroom R (d + 1)) {i : Nat} (hi9 : i < 10) {σ' : LH} {r : Int32} {z0 : Int32} {σ : LH} (h0 : s_JS_isLatin1_18 i z0 σ = some (r, σ')) : XJ G lo hi p l e R s m args below meth c 1 (XQ G lo hi below args s (some (.int r)) σ') 0 0 18 [] [.int z0] σ := by
  replace h0 := (show _ = _ from h0)
  unfold s_JS_isLatin1_18 at h0
  obtain ⟨g2, h0⟩ := xgo h0
  exact x_zret C hr hk g2 h0 d_JS_isLatin1_18
def s_JS_isLatin1_17 (i : Nat) (σ : LH) : Option (Int32 × LH) :=
  s_JS_isLatin1_18 i 0 σ
theorem b_JS_isLatin1_17 {lo hi : Nat} {G : XG} {l : Launch} {p : Program} {e : Env} {R : Room} {s : State} {m : MethodId} {args : Array Value} {below : List Frame} {meth : Method} {c : Code} (C : XC G lo hi p s m args c prog_22_method_154_code 1 R_JS) (hr : meth.sig.returnType = (some .boolean)) (hk : meth.locks = false) {d : Nat} (hd : 1 ≤ d + 1) (hR : xroom R (d + 1)) {i : Nat} (hi9 : i < 10) {σ' : LH} {r : Int32} {σ : LH} (h0 : s_JS_isLatin1_17 i σ = some (r, σ')) : XJ G lo hi p l e R s m args below meth c 1 (XQ G lo hi below args s (some (.int r)) σ') 0 0 17 [] [] σ := by
  replace h0 := (show _ = _ from h0)
  unfold s_JS_isLatin1_17 at h0
  refine x_iconst (v := 0) C d_JS_isLatin1_17 (by decide) ?_
  exact x_lv C [] rfl (b_JS_isLatin1_18 C hr hk hd hR hi9 h0)
def s_JS_isLatin1 (i : Nat) (σ : LH) : Option (Int32 × LH) :=
  if (1 : Int32) = 0 then (
   s_JS_isLatin1_17 i σ)
  else (
   if (0 : Int32) = 0 then (
    s_JS_isLatin1_18 i 1 σ)
   else (
    s_JS_isLatin1_17 i σ))
theorem c_JS_isLatin1 {lo hi : Nat} {G : XG} {l : Launch} {d : Nat} (hd : 1 ≤ d) {i : Nat} (hi9 : i < 10) {σ σ' : LH} {r : Int32} (h0 : s_JS_isLatin1 i σ = some (r, σ')) : xM G lo hi l y_JS_isLatin1 prog_22_method_154_code 1 (some .boolean) d [.ref (G.2.2.2.1 i)] σ (some (.int r)) σ' := by
  obtain ⟨d, rfl⟩ : ∃ q, d = q + 1 := ⟨d - 1, by omega⟩
  refine x_met R_JS rfl (by decide +kernel) (Nat.le_of_ble_eq_true rfl) fun p e s m below meth c C hr hk hR => ?_
  refine x_lv (lv' := [(0, .ref (G.2.2.2.1 i))]) C [0] rfl ?_
  generalize xrm (d + 1) = R at hR ⊢
  unfold s_JS_isLatin1 at h0
  refine x_sgetCS C w_335 d_JS_isLatin1_0 ?_
  refine x_if_eq C 17 d_JS_isLatin1_3 (by decide) (fun q1 => ?_) (fun q1 => ?_)
  · replace h0 := xit q1 h0
    exact x_lv C [] rfl (b_JS_isLatin1_17 C hr hk hd hR hi9 h0)
  · replace h0 := xif q1 h0
    refine x_aload_n C d_JS_isLatin1_6 0 rfl ?_
    refine x_sgetC C hi9 w_2171 d_JS_isLatin1_7 ?_
    refine x_if_ne C 17 d_JS_isLatin1_10 (by decide) (fun q3 => ?_) (fun q3 => ?_)
    · replace h0 := xif q3 h0
      exact x_lv C [] rfl (b_JS_isLatin1_17 C hr hk hd hR hi9 h0)
    · replace h0 := xit q3 h0
      refine x_iconst (v := 1) C d_JS_isLatin1_13 (by decide) ?_
      refine x_goto C 18 d_JS_isLatin1_14 (by decide) ?_
      exact x_lv C [] rfl (b_JS_isLatin1_18 C hr hk hd hR hi9 h0)
theorem d_JP_checkIndex_0 : decode prog_30_method_11_code 0 = .ok (.iload_n 0, 1) := by decide +kernel
theorem d_JP_checkIndex_1 : decode prog_30_method_11_code 1 = .ok (.ifCond .lt 8, 3) := by decide +kernel
theorem d_JP_checkIndex_4 : decode prog_30_method_11_code 4 = .ok (.iload_n 0, 1) := by decide +kernel
theorem d_JP_checkIndex_5 : decode prog_30_method_11_code 5 = .ok (.iload_n 1, 1) := by decide +kernel
theorem d_JP_checkIndex_6 : decode prog_30_method_11_code 6 = .ok (.if_icmp .lt 10, 3) := by decide +kernel
theorem d_JP_checkIndex_9 : decode prog_30_method_11_code 9 = .ok (.aload_n 2, 1) := by decide +kernel
theorem d_JP_checkIndex_16 : decode prog_30_method_11_code 16 = .ok (.iload_n 0, 1) := by decide +kernel
theorem d_JP_checkIndex_17 : decode prog_30_method_11_code 17 = .ok (.ireturn, 1) := by decide +kernel
def s_JP_checkIndex_9 (p0 : Int32) (p1 : Int32) (σ : LH) : Option (Int32 × LH) :=
  none
theorem b_JP_checkIndex_9 {lo hi : Nat} {G : XG} {l : Launch} {p : Program} {e : Env} {R : Room} {s : State} {m : MethodId} {args : Array Value} {below : List Frame} {meth : Method} {c : Code} (C : XC G lo hi p s m args c prog_30_method_11_code 3 R_JP) (hr : meth.sig.returnType = (some .int)) (hk : meth.locks = false) {d : Nat} (hd : 2 ≤ d + 1) (hR : xroom R (d + 1)) {p0 : Int32} {p1 : Int32} {p2 : Value} (hp2 : p2.category = 1) {σ' : LH} {r : Int32} {σ : LH} (h0 : s_JP_checkIndex_9 p0 p1 σ = some (r, σ')) : XJ G lo hi p l e R s m args below meth c 3 (XQ G lo hi below args s (some (.int r)) σ') 0 0 9 [(0, .int p0), (1, .int p1), (2, p2)] [] σ := by
  replace h0 := (show _ = _ from h0)
  unfold s_JP_checkIndex_9 at h0
  cases h0
def s_JP_checkIndex (p0 : Int32) (p1 : Int32) (σ : LH) : Option (Int32 × LH) :=
  if p0 < 0 then (
   s_JP_checkIndex_9 p0 p1 σ)
  else (
   if p0 < p1 then (
    some (p0, σ))
   else (
    s_JP_checkIndex_9 p0 p1 σ))
theorem c_JP_checkIndex {lo hi : Nat} {G : XG} {l : Launch} {d : Nat} (hd : 2 ≤ d) {p0 : Int32} {p1 : Int32} {p2 : Value} (hp2 : p2.category = 1) {σ σ' : LH} {r : Int32} (h0 : s_JP_checkIndex p0 p1 σ = some (r, σ')) : xM G lo hi l y_JP_checkIndex prog_30_method_11_code 3 (some .int) d [.int p0, .int p1, p2] σ (some (.int r)) σ' := by
  obtain ⟨d, rfl⟩ : ∃ q, d = q + 1 := ⟨d - 1, by omega⟩
  refine x_met R_JP rfl (by decide +kernel) (by simp [lg_sl, hp2, show ∀ x, (Value.int x).category = 1 from fun _ => rfl]) fun p e s m below meth c C hr hk hR => ?_
  refine x_lv (lv' := [(0, .int p0), (1, .int p1), (2, p2)]) C [0, 1, 2] rfl ?_
  generalize xrm (d + 1) = R at hR ⊢
  unfold s_JP_checkIndex at h0
  refine x_iload_n C d_JP_checkIndex_0 0 rfl ?_
  refine x_if_lt C 9 d_JP_checkIndex_1 (by decide) (fun q1 => ?_) (fun q1 => ?_)
  · replace h0 := xit q1 h0
    exact x_lv C [0, 1, 2] rfl (b_JP_checkIndex_9 C hr hk hd hR hp2 h0)
  · replace h0 := xif q1 h0
    refine x_iload_n C d_JP_checkIndex_4 0 rfl ?_
    refine x_iload_n C d_JP_checkIndex_5 1 rfl ?_
    refine x_icmp_lt C 16 d_JP_checkIndex_6 (by decide) (fun q2 => ?_) (fun q2 => ?_)
    · replace h0 := xit q2 h0
      refine x_iload_n C d_JP_checkIndex_16 0 rfl ?_
      exact x_iret C hr hk h0 d_JP_checkIndex_17
    · replace h0 := xif q2 h0
      exact x_lv C [0, 1, 2] rfl (b_JP_checkIndex_9 C hr hk hd hR hp2 h0)
theorem d_JS_checkIndex_0 : decode prog_22_method_155_code 0 = .ok (.iload_n 0, 1) := by decide +kernel
theorem d_JS_checkIndex_1 : decode prog_22_method_155_code 1 = .ok (.iload_n 1, 1) := by decide +kernel
theorem d_JS_checkIndex_2 : decode prog_22_method_155_code 2 = .ok (.getstatic 1053, 3) := by decide +kernel
theorem d_JS_checkIndex_5 : decode prog_22_method_155_code 5 = .ok (.invokestatic 1059, 3) := by decide +kernel
theorem d_JS_checkIndex_8 : decode prog_22_method_155_code 8 = .ok (.pop, 1) := by decide +kernel
theorem d_JS_checkIndex_9 : decode prog_22_method_155_code 9 = .ok (.return_, 1) := by decide +kernel
def s_JS_checkIndex (p0 : Int32) (p1 : Int32) (σ : LH) : Option (LH) :=
  xb2 (s_JP_checkIndex p0 p1 σ) fun r3 σ4 =>
  some σ4
theorem c_JS_checkIndex {lo hi : Nat} {G : XG} {l : Launch} {d : Nat} (hd : 3 ≤ d) {p0 : Int32} {p1 : Int32} {σ σ' : LH} (h0 : s_JS_checkIndex p0 p1 σ = some σ') : xM G lo hi l y_JS_checkIndex prog_22_method_155_code 2 none d [.int p0, .int p1] σ none σ' := by
  obtain ⟨d, rfl⟩ : ∃ q, d = q + 1 := ⟨d - 1, by omega⟩
  refine x_met R_JS rfl (by decide +kernel) (Nat.le_of_ble_eq_true rfl) fun p e s m below meth c C hr hk hR => ?_
  refine x_lv (lv' := [(0, .int p0), (1, .int p1)]) C [0, 1] rfl ?_
  generalize xrm (d + 1) = R at hR ⊢
  unfold s_JS_checkIndex at h0
  refine x_iload_n C d_JS_checkIndex_0 0 rfl ?_
  refine x_iload_n C d_JS_checkIndex_1 1 rfl ?_
  refine x_sgetSI C w_739 d_JS_checkIndex_2 (fun w1 hw1 => ?_)
  obtain ⟨r3, σ4, k2, h0⟩ := xbind2 h0
  refine x_callSi C hR (c_JP_checkIndex (d := d) (by omega) hw1 k2) cw_JS_1059 w_1740 rfl rfl (Nat.le_of_ble_eq_true rfl) ⟨Nat.zero_le _, Nat.zero_le _⟩ d_JS_checkIndex_5 ?_
  refine x_pop C d_JS_checkIndex_8 rfl ?_
  exact x_vret C hr hk h0 d_JS_checkIndex_9
theorem d_JL_charAt_0 : decode prog_23_method_2_code 0 = .ok (.iload_n 1, 1) := by decide +kernel
theorem d_JL_charAt_1 : decode prog_23_method_2_code 1 = .ok (.aload_n 0, 1) := by decide +kernel
theorem d_JL_charAt_2 : decode prog_23_method_2_code 2 = .ok (.arraylength, 1) := by decide +kernel
theorem d_JL_charAt_3 : decode prog_23_method_2_code 3 = .ok (.invokestatic 9, 3) := by decide +kernel
theorem d_JL_charAt_6 : decode prog_23_method_2_code 6 = .ok (.aload_n 0, 1) := by decide +kernel
theorem d_JL_charAt_7 : decode prog_23_method_2_code 7 = .ok (.iload_n 1, 1) := by decide +kernel
theorem d_JL_charAt_8 : decode prog_23_method_2_code 8 = .ok (.baload, 1) := by decide +kernel
theorem d_JL_charAt_9 : decode prog_23_method_2_code 9 = .ok (.sipush 255, 3) := by decide +kernel
theorem d_JL_charAt_12 : decode prog_23_method_2_code 12 = .ok (.iand, 1) := by decide +kernel
theorem d_JL_charAt_13 : decode prog_23_method_2_code 13 = .ok (.i2c, 1) := by decide +kernel
theorem d_JL_charAt_14 : decode prog_23_method_2_code 14 = .ok (.ireturn, 1) := by decide +kernel
def s_JL_charAt (p0 : Nat) (p1 : Int32) (σ : LH) : Option (Int32 × LH) :=
  xb1 (s_JS_checkIndex p1 (js_len p0) σ) fun σ2 =>
  if ib p1 (xlen.getD p0 0) then (
  if ((Int32.toUInt32 (((Int32.toUInt32 ((js_at p0 p1) &&& 255)) % 65536).toInt32)) % 65536).toInt32 = (((Int32.toUInt32 ((js_at p0 p1) &&& 255)) % 65536).toInt32) then (
  some ((((Int32.toUInt32 ((js_at p0 p1) &&& 255)) % 65536).toInt32), σ2)) else none) else none
theorem c_JL_charAt {lo hi : Nat} {G : XG} {l : Launch} {d : Nat} (hd : 4 ≤ d) {p0 : Nat} {p1 : Int32} (hp0 : p0 < 10) {σ σ' : LH} {r : Int32} (h0 : s_JL_charAt p0 p1 σ = some (r, σ')) : xM G lo hi l y_JL_charAt prog_23_method_2_code 2 (some .char) d [.ref (G.2.2.2.2.1 p0), .int p1] σ (some (.int r)) σ' := by
  obtain ⟨d, rfl⟩ : ∃ q, d = q + 1 := ⟨d - 1, by omega⟩
  refine x_met R_JL rfl (by decide +kernel) (Nat.le_of_ble_eq_true rfl) fun p e s m below meth c C hr hk hR => ?_
  refine x_lv (lv' := [(0, .ref (G.2.2.2.2.1 p0)), (1, .int p1)]) C [0, 1] rfl ?_
  generalize xrm (d + 1) = R at hR ⊢
  unfold s_JL_charAt at h0
  refine x_iload_n C d_JL_charAt_0 1 rfl ?_
  refine x_aload_n C d_JL_charAt_1 0 rfl ?_
  refine x_sblen C hp0 d_JL_charAt_2 ?_
  obtain ⟨σ2, k1, h0⟩ := xbind1 h0
  refine x_callSv C hR (c_JS_checkIndex (d := d) (by omega) k1) cw_JL_9 w_1737 rfl rfl (Nat.le_of_ble_eq_true rfl) ⟨Nat.zero_le _, Nat.zero_le _⟩ d_JL_charAt_3 ?_
  refine x_aload_n C d_JL_charAt_6 0 rfl ?_
  refine x_iload_n C d_JL_charAt_7 1 rfl ?_
  obtain ⟨g3, h0⟩ := xgo h0
  refine x_sbald C hp0 g3 d_JL_charAt_8 ?_
  refine x_sipush (v := 255) C d_JL_charAt_9 (by decide) ?_
  refine x_iand C d_JL_charAt_12 ?_
  refine x_i2c C d_JL_charAt_13 ?_
  obtain ⟨g4, h0⟩ := xgo h0
  exact x_cret C hr hk g4 h0 d_JL_charAt_14
theorem d_JS_charAt_0 : decode prog_22_method_56_code 0 = .ok (.aload_n 0, 1) := by decide +kernel
theorem d_JS_charAt_1 : decode prog_22_method_56_code 1 = .ok (.invokevirtual 492, 3) := by decide +kernel
theorem d_JS_charAt_4 : decode prog_22_method_56_code 4 = .ok (.ifCond .eq 12, 3) := by decide +kernel
theorem d_JS_charAt_7 : decode prog_22_method_56_code 7 = .ok (.aload_n 0, 1) := by decide +kernel
theorem d_JS_charAt_8 : decode prog_22_method_56_code 8 = .ok (.getfield 9, 3) := by decide +kernel
theorem d_JS_charAt_11 : decode prog_22_method_56_code 11 = .ok (.iload_n 1, 1) := by decide +kernel
theorem d_JS_charAt_12 : decode prog_22_method_56_code 12 = .ok (.invokestatic 495, 3) := by decide +kernel
theorem d_JS_charAt_15 : decode prog_22_method_56_code 15 = .ok (.ireturn, 1) := by decide +kernel
theorem d_JS_charAt_16 : decode prog_22_method_56_code 16 = .ok (.aload_n 0, 1) := by decide +kernel
theorem d_JS_charAt_17 : decode prog_22_method_56_code 17 = .ok (.getfield 9, 3) := by decide +kernel
theorem d_JS_charAt_20 : decode prog_22_method_56_code 20 = .ok (.iload_n 1, 1) := by decide +kernel
theorem d_JS_charAt_21 : decode prog_22_method_56_code 21 = .ok (.invokestatic 498, 3) := by decide +kernel
def s_JS_charAt (i : Nat) (p0 : Int32) (σ : LH) : Option (Int32 × LH) :=
  xb2 (s_JS_isLatin1 i σ) fun r2 σ3 =>
  if r2 = 0 then (
   none)
  else (
   xb2 (s_JL_charAt i p0 σ3) fun r6 σ7 =>
   if ((Int32.toUInt32 r6) % 65536).toInt32 = r6 then (
   some (r6, σ7)) else none)
theorem c_JS_charAt {lo hi : Nat} {G : XG} {l : Launch} {d : Nat} (hd : 5 ≤ d) {i : Nat} {p0 : Int32} (hi9 : i < 10) {σ σ' : LH} {r : Int32} (h0 : s_JS_charAt i p0 σ = some (r, σ')) : xM G lo hi l y_JS_charAt prog_22_method_56_code 2 (some .char) d [.ref (G.2.2.2.1 i), .int p0] σ (some (.int r)) σ' := by
  obtain ⟨d, rfl⟩ : ∃ q, d = q + 1 := ⟨d - 1, by omega⟩
  refine x_met R_JS rfl (by decide +kernel) (Nat.le_of_ble_eq_true rfl) fun p e s m below meth c C hr hk hR => ?_
  refine x_lv (lv' := [(0, .ref (G.2.2.2.1 i)), (1, .int p0)]) C [0, 1] rfl ?_
  generalize xrm (d + 1) = R at hR ⊢
  unfold s_JS_charAt at h0
  refine x_aload_n C d_JS_charAt_0 0 rfl ?_
  obtain ⟨r2, σ3, k1, h0⟩ := xbind2 h0
  refine x_callVSi C hR (c_JS_isLatin1 (d := d) (by omega) hi9 k1) cw_JS_492 hi9 rfl rfl rfl (Nat.le_of_ble_eq_true rfl) ⟨Nat.zero_le _, Nat.zero_le _⟩ d_JS_charAt_1 ?_
  refine x_if_eq C 16 d_JS_charAt_4 (by decide) (fun q4 => ?_) (fun q4 => ?_)
  · replace h0 := xit q4 h0
    refine x_aload_n C d_JS_charAt_16 0 rfl ?_
    refine x_sgetV C hi9 w_2170 d_JS_charAt_17 ?_
    refine x_iload_n C d_JS_charAt_20 1 rfl ?_
    cases h0
  · replace h0 := xif q4 h0
    refine x_aload_n C d_JS_charAt_7 0 rfl ?_
    refine x_sgetV C hi9 w_2170 d_JS_charAt_8 ?_
    refine x_iload_n C d_JS_charAt_11 1 rfl ?_
    obtain ⟨r6, σ7, k5, h0⟩ := xbind2 h0
    refine x_callSi C hR (c_JL_charAt (d := d) (by omega) hi9 k5) cw_JS_495 w_1734 rfl rfl (Nat.le_of_ble_eq_true rfl) ⟨Nat.zero_le _, Nat.zero_le _⟩ d_JS_charAt_12 ?_
    obtain ⟨g8, h0⟩ := xgo h0
    exact x_cret C hr hk g8 h0 d_JS_charAt_15
theorem d_JL_canEncode_0 : decode prog_23_method_4_code 0 = .ok (.iload_n 0, 1) := by decide +kernel
theorem d_JL_canEncode_1 : decode prog_23_method_4_code 1 = .ok (.ifCond .lt 14, 3) := by decide +kernel
theorem d_JL_canEncode_4 : decode prog_23_method_4_code 4 = .ok (.iload_n 0, 1) := by decide +kernel
theorem d_JL_canEncode_5 : decode prog_23_method_4_code 5 = .ok (.sipush 255, 3) := by decide +kernel
theorem d_JL_canEncode_8 : decode prog_23_method_4_code 8 = .ok (.if_icmp .gt 7, 3) := by decide +kernel
theorem d_JL_canEncode_11 : decode prog_23_method_4_code 11 = .ok (.iconst 1, 1) := by decide +kernel
theorem d_JL_canEncode_12 : decode prog_23_method_4_code 12 = .ok (.goto 4, 3) := by decide +kernel
theorem d_JL_canEncode_15 : decode prog_23_method_4_code 15 = .ok (.iconst 0, 1) := by decide +kernel
theorem d_JL_canEncode_16 : decode prog_23_method_4_code 16 = .ok (.ireturn, 1) := by decide +kernel
def s_JL_canEncode_16 (p0 : Int32) (z0 : Int32) (σ : LH) : Option (Int32 × LH) :=
  if zb z0 then (
  some (z0, σ)) else none
theorem b_JL_canEncode_16 {lo hi : Nat} {G : XG} {l : Launch} {p : Program} {e : Env} {R : Room} {s : State} {m : MethodId} {args : Array Value} {below : List Frame} {meth : Method} {c : Code} (C : XC G lo hi p s m args c prog_23_method_4_code 1 R_JL) (hr : meth.sig.returnType = (some .boolean)) (hk : meth.locks = false) {d : Nat} (hd : 1 ≤ d + 1) (hR : xroom R (d + 1)) {p0 : Int32} {σ' : LH} {r : Int32} {z0 : Int32} {σ : LH} (h0 : s_JL_canEncode_16 p0 z0 σ = some (r, σ')) : XJ G lo hi p l e R s m args below meth c 1 (XQ G lo hi below args s (some (.int r)) σ') 0 0 16 [] [.int z0] σ := by
  replace h0 := (show _ = _ from h0)
  unfold s_JL_canEncode_16 at h0
  obtain ⟨g2, h0⟩ := xgo h0
  exact x_zret C hr hk g2 h0 d_JL_canEncode_16
def s_JL_canEncode_15 (p0 : Int32) (σ : LH) : Option (Int32 × LH) :=
  s_JL_canEncode_16 p0 0 σ
theorem b_JL_canEncode_15 {lo hi : Nat} {G : XG} {l : Launch} {p : Program} {e : Env} {R : Room} {s : State} {m : MethodId} {args : Array Value} {below : List Frame} {meth : Method} {c : Code} (C : XC G lo hi p s m args c prog_23_method_4_code 1 R_JL) (hr : meth.sig.returnType = (some .boolean)) (hk : meth.locks = false) {d : Nat} (hd : 1 ≤ d + 1) (hR : xroom R (d + 1)) {p0 : Int32} {σ' : LH} {r : Int32} {σ : LH} (h0 : s_JL_canEncode_15 p0 σ = some (r, σ')) : XJ G lo hi p l e R s m args below meth c 1 (XQ G lo hi below args s (some (.int r)) σ') 0 0 15 [] [] σ := by
  replace h0 := (show _ = _ from h0)
  unfold s_JL_canEncode_15 at h0
  refine x_iconst (v := 0) C d_JL_canEncode_15 (by decide) ?_
  exact x_lv C [] rfl (b_JL_canEncode_16 C hr hk hd hR h0)
def s_JL_canEncode (p0 : Int32) (σ : LH) : Option (Int32 × LH) :=
  if p0 < 0 then (
   s_JL_canEncode_15 p0 σ)
  else (
   if 255 < p0 then (
    s_JL_canEncode_15 p0 σ)
   else (
    s_JL_canEncode_16 p0 1 σ))
theorem c_JL_canEncode {lo hi : Nat} {G : XG} {l : Launch} {d : Nat} (hd : 1 ≤ d) {p0 : Int32} {σ σ' : LH} {r : Int32} (h0 : s_JL_canEncode p0 σ = some (r, σ')) : xM G lo hi l y_JL_canEncode prog_23_method_4_code 1 (some .boolean) d [.int p0] σ (some (.int r)) σ' := by
  obtain ⟨d, rfl⟩ : ∃ q, d = q + 1 := ⟨d - 1, by omega⟩
  refine x_met R_JL rfl (by decide +kernel) (Nat.le_of_ble_eq_true rfl) fun p e s m below meth c C hr hk hR => ?_
  refine x_lv (lv' := [(0, .int p0)]) C [0] rfl ?_
  generalize xrm (d + 1) = R at hR ⊢
  unfold s_JL_canEncode at h0
  refine x_iload_n C d_JL_canEncode_0 0 rfl ?_
  refine x_if_lt C 15 d_JL_canEncode_1 (by decide) (fun q1 => ?_) (fun q1 => ?_)
  · replace h0 := xit q1 h0
    exact x_lv C [] rfl (b_JL_canEncode_15 C hr hk hd hR h0)
  · replace h0 := xif q1 h0
    refine x_iload_n C d_JL_canEncode_4 0 rfl ?_
    refine x_sipush (v := 255) C d_JL_canEncode_5 (by decide) ?_
    refine x_icmp_gt C 15 d_JL_canEncode_8 (by decide) (fun q3 => ?_) (fun q3 => ?_)
    · replace h0 := xit q3 h0
      exact x_lv C [] rfl (b_JL_canEncode_15 C hr hk hd hR h0)
    · replace h0 := xif q3 h0
      refine x_iconst (v := 1) C d_JL_canEncode_11 (by decide) ?_
      refine x_goto C 16 d_JL_canEncode_12 (by decide) ?_
      exact x_lv C [] rfl (b_JL_canEncode_16 C hr hk hd hR h0)
theorem d_JL_indexOfChar_0 : decode prog_23_method_23_code 0 = .ok (.iload_n 1, 1) := by decide +kernel
theorem d_JL_indexOfChar_1 : decode prog_23_method_23_code 1 = .ok (.i2b, 1) := by decide +kernel
theorem d_JL_indexOfChar_2 : decode prog_23_method_23_code 2 = .ok (.istore 4, 2) := by decide +kernel
theorem d_JL_indexOfChar_4 : decode prog_23_method_23_code 4 = .ok (.iload_n 2, 1) := by decide +kernel
theorem d_JL_indexOfChar_5 : decode prog_23_method_23_code 5 = .ok (.istore 5, 2) := by decide +kernel
theorem d_JL_indexOfChar_7 : decode prog_23_method_23_code 7 = .ok (.iload 5, 2) := by decide +kernel
theorem d_JL_indexOfChar_9 : decode prog_23_method_23_code 9 = .ok (.iload_n 3, 1) := by decide +kernel
theorem d_JL_indexOfChar_10 : decode prog_23_method_23_code 10 = .ok (.if_icmp .ge 21, 3) := by decide +kernel
theorem d_JL_indexOfChar_13 : decode prog_23_method_23_code 13 = .ok (.aload_n 0, 1) := by decide +kernel
theorem d_JL_indexOfChar_14 : decode prog_23_method_23_code 14 = .ok (.iload 5, 2) := by decide +kernel
theorem d_JL_indexOfChar_16 : decode prog_23_method_23_code 16 = .ok (.baload, 1) := by decide +kernel
theorem d_JL_indexOfChar_17 : decode prog_23_method_23_code 17 = .ok (.iload 4, 2) := by decide +kernel
theorem d_JL_indexOfChar_19 : decode prog_23_method_23_code 19 = .ok (.if_icmp .ne 6, 3) := by decide +kernel
theorem d_JL_indexOfChar_22 : decode prog_23_method_23_code 22 = .ok (.iload 5, 2) := by decide +kernel
theorem d_JL_indexOfChar_24 : decode prog_23_method_23_code 24 = .ok (.ireturn, 1) := by decide +kernel
theorem d_JL_indexOfChar_25 : decode prog_23_method_23_code 25 = .ok (.iinc 5 1, 3) := by decide +kernel
theorem d_JL_indexOfChar_28 : decode prog_23_method_23_code 28 = .ok (.goto (-21), 3) := by decide +kernel
theorem d_JL_indexOfChar_31 : decode prog_23_method_23_code 31 = .ok (.iconst (-1), 1) := by decide +kernel
theorem d_JL_indexOfChar_32 : decode prog_23_method_23_code 32 = .ok (.ireturn, 1) := by decide +kernel
def s_JL_indexOfChar_7_b (p0 : Nat) (p1 : Int32) (p2 : Int32) (p3 : Int32) (rec7 : Int32 → Int32 → LH → Option (Int32 × LH)) (y4 : Int32) (y5 : Int32) (σ : LH) : Option (Int32 × LH) :=
  if p3 ≤ y5 then (
   some ((-1), σ))
  else (
   if ib y5 (xlen.getD p0 0) then (
   if (js_at p0 y5) = y4 then (
    some (y5, σ))
   else (
    xl ((y5 + 1) : Int32) fun x5 =>
    rec7 y4 x5 σ)) else none)
def s_JL_indexOfChar_7 (p0 : Nat) (p1 : Int32) (p2 : Int32) (p3 : Int32) : Nat → Int32 → Int32 → LH → Option (Int32 × LH)
  | 0, _, _, _ => none
  | n + 1, y4, y5, σ => s_JL_indexOfChar_7_b p0 p1 p2 p3 (s_JL_indexOfChar_7 p0 p1 p2 p3 n) y4 y5 σ
theorem bb_JL_indexOfChar_7 {lo hi : Nat} {G : XG} {l : Launch} {p : Program} {e : Env} {R : Room} {s : State} {m : MethodId} {args : Array Value} {below : List Frame} {meth : Method} {c : Code} (C : XC G lo hi p s m args c prog_23_method_23_code 6 R_JL) (hr : meth.sig.returnType = (some .int)) (hk : meth.locks = false) {d : Nat} (hd : 1 ≤ d + 1) (hR : xroom R (d + 1)) {p0 : Nat} {p1 : Int32} {p2 : Int32} {p3 : Int32} (hp0 : p0 < 10) {rec7 : Int32 → Int32 → LH → Option (Int32 × LH)} {σ' : LH} {r : Int32} (hrec7 : ∀ (y4 : Int32) (y5 : Int32) (σ : LH), rec7 y4 y5 σ = some (r, σ') → XJ G lo hi p l e R s m args below meth c 6 (XQ G lo hi below args s (some (.int r)) σ') 0 0 7 [(0, .ref (G.2.2.2.2.1 p0)), (3, .int p3), (4, .int y4), (5, .int y5)] [] σ) {y4 : Int32} {y5 : Int32} {σ : LH} (h0 : s_JL_indexOfChar_7_b p0 p1 p2 p3 rec7 y4 y5 σ = some (r, σ')) : XJ G lo hi p l e R s m args below meth c 6 (XQ G lo hi below args s (some (.int r)) σ') 0 0 7 [(0, .ref (G.2.2.2.2.1 p0)), (3, .int p3), (4, .int y4), (5, .int y5)] [] σ := by
  replace h0 := (show _ = _ from h0)
  unfold s_JL_indexOfChar_7_b at h0
  refine x_iload C d_JL_indexOfChar_7 3 rfl ?_
  refine x_iload_n C d_JL_indexOfChar_9 1 rfl ?_
  refine x_icmp_ge C 31 d_JL_indexOfChar_10 (by decide) (fun q2 => ?_) (fun q2 => ?_)
  · replace h0 := xit q2 h0
    refine x_iconst (v := (-1)) C d_JL_indexOfChar_31 (by decide) ?_
    exact x_iret C hr hk h0 d_JL_indexOfChar_32
  · replace h0 := xif q2 h0
    refine x_aload_n C d_JL_indexOfChar_13 0 rfl ?_
    refine x_iload C d_JL_indexOfChar_14 3 rfl ?_
    obtain ⟨g3, h0⟩ := xgo h0
    refine x_sbald C hp0 g3 d_JL_indexOfChar_16 ?_
    refine x_iload C d_JL_indexOfChar_17 2 rfl ?_
    refine x_icmp_ne C 25 d_JL_indexOfChar_19 (by decide) (fun q4 => ?_) (fun q4 => ?_)
    · replace h0 := xif q4 h0
      obtain ⟨x5, ex5, h0⟩ := xlet h0
      refine x_iinc (lv' := [(5, .int x5), (0, .ref (G.2.2.2.2.1 p0)), (3, .int p3), (4, .int y4)]) C d_JL_indexOfChar_25 3 rfl ex5 (by decide) rfl ?_
      refine x_goto C 7 d_JL_indexOfChar_28 (by decide) ?_
      exact x_lv C [1, 2, 3, 0] rfl (hrec7 _ _ _ h0)
    · replace h0 := xit q4 h0
      refine x_iload C d_JL_indexOfChar_22 3 rfl ?_
      exact x_iret C hr hk h0 d_JL_indexOfChar_24
theorem b_JL_indexOfChar_7 {lo hi : Nat} {G : XG} {l : Launch} {p : Program} {e : Env} {R : Room} {s : State} {m : MethodId} {args : Array Value} {below : List Frame} {meth : Method} {c : Code} (C : XC G lo hi p s m args c prog_23_method_23_code 6 R_JL) (hr : meth.sig.returnType = (some .int)) (hk : meth.locks = false) {d : Nat} (hd : 1 ≤ d + 1) (hR : xroom R (d + 1)) {p0 : Nat} {p1 : Int32} {p2 : Int32} {p3 : Int32} (hp0 : p0 < 10) {σ' : LH} {r : Int32} : ∀ (n : Nat) (y4 : Int32) (y5 : Int32) (σ : LH), s_JL_indexOfChar_7 p0 p1 p2 p3 n y4 y5 σ = some (r, σ') → XJ G lo hi p l e R s m args below meth c 6 (XQ G lo hi below args s (some (.int r)) σ') 0 0 7 [(0, .ref (G.2.2.2.2.1 p0)), (3, .int p3), (4, .int y4), (5, .int y5)] [] σ := by
  intro n
  induction n with
  | zero => intro y4 y5 σ h0; cases h0
  | succ n ih => intro y4 y5 σ h0; exact bb_JL_indexOfChar_7 C hr hk hd hR hp0 ih h0
def s_JL_indexOfChar (p0 : Nat) (p1 : Int32) (p2 : Int32) (p3 : Int32) (σ : LH) : Option (Int32 × LH) :=
  xl ((((Int32.toInt8 p1).toInt32)) : Int32) fun x1 =>
  s_JL_indexOfChar_7 p0 p1 p2 p3 FUEL x1 p2 σ
theorem c_JL_indexOfChar {lo hi : Nat} {G : XG} {l : Launch} {d : Nat} (hd : 1 ≤ d) {p0 : Nat} {p1 : Int32} {p2 : Int32} {p3 : Int32} (hp0 : p0 < 10) {σ σ' : LH} {r : Int32} (h0 : s_JL_indexOfChar p0 p1 p2 p3 σ = some (r, σ')) : xM G lo hi l y_JL_indexOfChar prog_23_method_23_code 6 (some .int) d [.ref (G.2.2.2.2.1 p0), .int p1, .int p2, .int p3] σ (some (.int r)) σ' := by
  obtain ⟨d, rfl⟩ : ∃ q, d = q + 1 := ⟨d - 1, by omega⟩
  refine x_met R_JL rfl (by decide +kernel) (Nat.le_of_ble_eq_true rfl) fun p e s m below meth c C hr hk hR => ?_
  refine x_lv (lv' := [(0, .ref (G.2.2.2.2.1 p0)), (1, .int p1), (2, .int p2), (3, .int p3)]) C [0, 1, 2, 3] rfl ?_
  generalize xrm (d + 1) = R at hR ⊢
  unfold s_JL_indexOfChar at h0
  refine x_iload_n C d_JL_indexOfChar_0 1 rfl ?_
  refine x_i2b C d_JL_indexOfChar_1 ?_
  obtain ⟨x1, ex1, h0⟩ := xlet h0
  refine x_name C ex1 ?_
  refine x_istore (lv' := [(4, .int x1), (0, .ref (G.2.2.2.2.1 p0)), (1, .int p1), (2, .int p2), (3, .int p3)]) C d_JL_indexOfChar_2 (by decide) rfl ?_
  refine x_iload_n C d_JL_indexOfChar_4 3 rfl ?_
  refine x_istore (lv' := [(5, .int p2), (4, .int x1), (0, .ref (G.2.2.2.2.1 p0)), (1, .int p1), (2, .int p2), (3, .int p3)]) C d_JL_indexOfChar_5 (by decide) rfl ?_
  exact x_lv C [2, 5, 1, 0] rfl (b_JL_indexOfChar_7 C hr hk hd hR hp0 FUEL _ _ _ h0)
theorem d_JL_indexOf_0 : decode prog_23_method_22_code 0 = .ok (.iload_n 1, 1) := by decide +kernel
theorem d_JL_indexOf_1 : decode prog_23_method_22_code 1 = .ok (.invokestatic 88, 3) := by decide +kernel
theorem d_JL_indexOf_4 : decode prog_23_method_22_code 4 = .ok (.ifCond .ne 5, 3) := by decide +kernel
theorem d_JL_indexOf_7 : decode prog_23_method_22_code 7 = .ok (.iconst (-1), 1) := by decide +kernel
theorem d_JL_indexOf_8 : decode prog_23_method_22_code 8 = .ok (.ireturn, 1) := by decide +kernel
theorem d_JL_indexOf_9 : decode prog_23_method_22_code 9 = .ok (.iload_n 2, 1) := by decide +kernel
theorem d_JL_indexOf_10 : decode prog_23_method_22_code 10 = .ok (.iconst 0, 1) := by decide +kernel
theorem d_JL_indexOf_11 : decode prog_23_method_22_code 11 = .ok (.invokestatic 92, 3) := by decide +kernel
theorem d_JL_indexOf_14 : decode prog_23_method_22_code 14 = .ok (.istore_n 2, 1) := by decide +kernel
theorem d_JL_indexOf_15 : decode prog_23_method_22_code 15 = .ok (.iload_n 3, 1) := by decide +kernel
theorem d_JL_indexOf_16 : decode prog_23_method_22_code 16 = .ok (.aload_n 0, 1) := by decide +kernel
theorem d_JL_indexOf_17 : decode prog_23_method_22_code 17 = .ok (.arraylength, 1) := by decide +kernel
theorem d_JL_indexOf_18 : decode prog_23_method_22_code 18 = .ok (.invokestatic 38, 3) := by decide +kernel
theorem d_JL_indexOf_21 : decode prog_23_method_22_code 21 = .ok (.istore_n 3, 1) := by decide +kernel
theorem d_JL_indexOf_22 : decode prog_23_method_22_code 22 = .ok (.iload_n 2, 1) := by decide +kernel
theorem d_JL_indexOf_23 : decode prog_23_method_22_code 23 = .ok (.iload_n 3, 1) := by decide +kernel
theorem d_JL_indexOf_24 : decode prog_23_method_22_code 24 = .ok (.if_icmp .lt 5, 3) := by decide +kernel
theorem d_JL_indexOf_27 : decode prog_23_method_22_code 27 = .ok (.iconst (-1), 1) := by decide +kernel
theorem d_JL_indexOf_28 : decode prog_23_method_22_code 28 = .ok (.ireturn, 1) := by decide +kernel
theorem d_JL_indexOf_29 : decode prog_23_method_22_code 29 = .ok (.aload_n 0, 1) := by decide +kernel
theorem d_JL_indexOf_30 : decode prog_23_method_22_code 30 = .ok (.iload_n 1, 1) := by decide +kernel
theorem d_JL_indexOf_31 : decode prog_23_method_22_code 31 = .ok (.iload_n 2, 1) := by decide +kernel
theorem d_JL_indexOf_32 : decode prog_23_method_22_code 32 = .ok (.iload_n 3, 1) := by decide +kernel
theorem d_JL_indexOf_33 : decode prog_23_method_22_code 33 = .ok (.invokestatic 95, 3) := by decide +kernel
theorem d_JL_indexOf_36 : decode prog_23_method_22_code 36 = .ok (.ireturn, 1) := by decide +kernel
def s_JL_indexOf (p0 : Nat) (p1 : Int32) (p2 : Int32) (p3 : Int32) (σ : LH) : Option (Int32 × LH) :=
  xb2 (s_JL_canEncode p1 σ) fun r2 σ3 =>
  if r2 = 0 then (
   some ((-1), σ3))
  else (
   xl (((if p2 < 0 then 0 else p2)) : Int32) fun x5 =>
   xl (((if (js_len p0) < p3 then (js_len p0) else p3)) : Int32) fun x6 =>
   if x5 < x6 then (
    xb2 (s_JL_indexOfChar p0 p1 x5 x6 σ3) fun r9 σ10 =>
    some (r9, σ10))
   else (
    some ((-1), σ3)))
theorem c_JL_indexOf {lo hi : Nat} {G : XG} {l : Launch} {d : Nat} (hd : 2 ≤ d) {p0 : Nat} {p1 : Int32} {p2 : Int32} {p3 : Int32} (hp0 : p0 < 10) {σ σ' : LH} {r : Int32} (h0 : s_JL_indexOf p0 p1 p2 p3 σ = some (r, σ')) : xM G lo hi l y_JL_indexOf prog_23_method_22_code 4 (some .int) d [.ref (G.2.2.2.2.1 p0), .int p1, .int p2, .int p3] σ (some (.int r)) σ' := by
  obtain ⟨d, rfl⟩ : ∃ q, d = q + 1 := ⟨d - 1, by omega⟩
  refine x_met R_JL rfl (by decide +kernel) (Nat.le_of_ble_eq_true rfl) fun p e s m below meth c C hr hk hR => ?_
  refine x_lv (lv' := [(0, .ref (G.2.2.2.2.1 p0)), (1, .int p1), (2, .int p2), (3, .int p3)]) C [0, 1, 2, 3] rfl ?_
  generalize xrm (d + 1) = R at hR ⊢
  unfold s_JL_indexOf at h0
  refine x_iload_n C d_JL_indexOf_0 1 rfl ?_
  obtain ⟨r2, σ3, k1, h0⟩ := xbind2 h0
  refine x_callSi C hR (c_JL_canEncode (d := d) (by omega) k1) cw_JL_88 w_710 rfl rfl (Nat.le_of_ble_eq_true rfl) ⟨Nat.zero_le _, Nat.zero_le _⟩ d_JL_indexOf_1 ?_
  refine x_if_ne C 9 d_JL_indexOf_4 (by decide) (fun q4 => ?_) (fun q4 => ?_)
  · replace h0 := xif q4 h0
    refine x_iload_n C d_JL_indexOf_9 2 rfl ?_
    refine x_iconst (v := 0) C d_JL_indexOf_10 (by decide) ?_
    refine x_mmax C (xroom1 hR) w_712 w_713 w_123 w_714 (Nat.le_of_ble_eq_true rfl) ⟨Nat.zero_le _, Nat.zero_le _⟩ d_JL_indexOf_11 ?_
    obtain ⟨x5, ex5, h0⟩ := xlet h0
    refine x_name C ex5 ?_
    refine x_istore_n (lv' := [(2, .int x5), (0, .ref (G.2.2.2.2.1 p0)), (1, .int p1), (3, .int p3)]) C d_JL_indexOf_14 rfl (by decide) rfl ?_
    refine x_iload_n C d_JL_indexOf_15 3 rfl ?_
    refine x_aload_n C d_JL_indexOf_16 1 rfl ?_
    refine x_sblen C hp0 d_JL_indexOf_17 ?_
    refine x_mmin C (xroom1 hR) w_715 w_716 w_123 w_717 (Nat.le_of_ble_eq_true rfl) ⟨Nat.zero_le _, Nat.zero_le _⟩ d_JL_indexOf_18 ?_
    obtain ⟨x6, ex6, h0⟩ := xlet h0
    refine x_name C ex6 ?_
    refine x_istore_n (lv' := [(3, .int x6), (2, .int x5), (0, .ref (G.2.2.2.2.1 p0)), (1, .int p1)]) C d_JL_indexOf_21 rfl (by decide) rfl ?_
    refine x_iload_n C d_JL_indexOf_22 1 rfl ?_
    refine x_iload_n C d_JL_indexOf_23 0 rfl ?_
    refine x_icmp_lt C 29 d_JL_indexOf_24 (by decide) (fun q7 => ?_) (fun q7 => ?_)
    · replace h0 := xit q7 h0
      refine x_aload_n C d_JL_indexOf_29 2 rfl ?_
      refine x_iload_n C d_JL_indexOf_30 3 rfl ?_
      refine x_iload_n C d_JL_indexOf_31 1 rfl ?_
      refine x_iload_n C d_JL_indexOf_32 0 rfl ?_
      obtain ⟨r9, σ10, k8, h0⟩ := xbind2 h0
      refine x_callSi C hR (c_JL_indexOfChar (d := d) (by omega) hp0 k8) cw_JL_95 w_719 rfl rfl (Nat.le_of_ble_eq_true rfl) ⟨Nat.zero_le _, Nat.zero_le _⟩ d_JL_indexOf_33 ?_
      exact x_iret C hr hk h0 d_JL_indexOf_36
    · replace h0 := xif q7 h0
      refine x_iconst (v := (-1)) C d_JL_indexOf_27 (by decide) ?_
      exact x_iret C hr hk h0 d_JL_indexOf_28
  · replace h0 := xit q4 h0
    refine x_iconst (v := (-1)) C d_JL_indexOf_7 (by decide) ?_
    exact x_iret C hr hk h0 d_JL_indexOf_8
theorem d_JS_indexOf2_0 : decode prog_22_method_80_code 0 = .ok (.aload_n 0, 1) := by decide +kernel
theorem d_JS_indexOf2_1 : decode prog_22_method_80_code 1 = .ok (.invokevirtual 492, 3) := by decide +kernel
theorem d_JS_indexOf2_4 : decode prog_22_method_80_code 4 = .ok (.ifCond .eq 19, 3) := by decide +kernel
theorem d_JS_indexOf2_7 : decode prog_22_method_80_code 7 = .ok (.aload_n 0, 1) := by decide +kernel
theorem d_JS_indexOf2_8 : decode prog_22_method_80_code 8 = .ok (.getfield 9, 3) := by decide +kernel
theorem d_JS_indexOf2_11 : decode prog_22_method_80_code 11 = .ok (.iload_n 1, 1) := by decide +kernel
theorem d_JS_indexOf2_12 : decode prog_22_method_80_code 12 = .ok (.iload_n 2, 1) := by decide +kernel
theorem d_JS_indexOf2_13 : decode prog_22_method_80_code 13 = .ok (.aload_n 0, 1) := by decide +kernel
theorem d_JS_indexOf2_14 : decode prog_22_method_80_code 14 = .ok (.invokevirtual 505, 3) := by decide +kernel
theorem d_JS_indexOf2_17 : decode prog_22_method_80_code 17 = .ok (.invokestatic 637, 3) := by decide +kernel
theorem d_JS_indexOf2_20 : decode prog_22_method_80_code 20 = .ok (.goto 16, 3) := by decide +kernel
theorem d_JS_indexOf2_23 : decode prog_22_method_80_code 23 = .ok (.aload_n 0, 1) := by decide +kernel
theorem d_JS_indexOf2_24 : decode prog_22_method_80_code 24 = .ok (.getfield 9, 3) := by decide +kernel
theorem d_JS_indexOf2_27 : decode prog_22_method_80_code 27 = .ok (.iload_n 1, 1) := by decide +kernel
theorem d_JS_indexOf2_28 : decode prog_22_method_80_code 28 = .ok (.iload_n 2, 1) := by decide +kernel
theorem d_JS_indexOf2_29 : decode prog_22_method_80_code 29 = .ok (.aload_n 0, 1) := by decide +kernel
theorem d_JS_indexOf2_30 : decode prog_22_method_80_code 30 = .ok (.invokevirtual 505, 3) := by decide +kernel
theorem d_JS_indexOf2_33 : decode prog_22_method_80_code 33 = .ok (.invokestatic 640, 3) := by decide +kernel
theorem d_JS_indexOf2_36 : decode prog_22_method_80_code 36 = .ok (.ireturn, 1) := by decide +kernel
def s_JS_indexOf2_36 (i : Nat) (p0 : Int32) (p1 : Int32) (z0 : Int32) (σ : LH) : Option (Int32 × LH) :=
  some (z0, σ)
theorem b_JS_indexOf2_36 {lo hi : Nat} {G : XG} {l : Launch} {p : Program} {e : Env} {R : Room} {s : State} {m : MethodId} {args : Array Value} {below : List Frame} {meth : Method} {c : Code} (C : XC G lo hi p s m args c prog_22_method_80_code 3 R_JS) (hr : meth.sig.returnType = (some .int)) (hk : meth.locks = false) {d : Nat} (hd : 3 ≤ d + 1) (hR : xroom R (d + 1)) {i : Nat} {p0 : Int32} {p1 : Int32} (hi9 : i < 10) {σ' : LH} {r : Int32} {z0 : Int32} {σ : LH} (h0 : s_JS_indexOf2_36 i p0 p1 z0 σ = some (r, σ')) : XJ G lo hi p l e R s m args below meth c 3 (XQ G lo hi below args s (some (.int r)) σ') 0 0 36 [] [.int z0] σ := by
  replace h0 := (show _ = _ from h0)
  unfold s_JS_indexOf2_36 at h0
  exact x_iret C hr hk h0 d_JS_indexOf2_36
def s_JS_indexOf2 (i : Nat) (p0 : Int32) (p1 : Int32) (σ : LH) : Option (Int32 × LH) :=
  xb2 (s_JS_isLatin1 i σ) fun r2 σ3 =>
  if r2 = 0 then (
   xb2 (s_JS_length i σ3) fun r6 σ7 =>
   none)
  else (
   xb2 (s_JS_length i σ3) fun r9 σ10 =>
   xb2 (s_JL_indexOf i p0 p1 r9 σ10) fun r12 σ13 =>
   s_JS_indexOf2_36 i p0 p1 r12 σ13)
theorem c_JS_indexOf2 {lo hi : Nat} {G : XG} {l : Launch} {d : Nat} (hd : 3 ≤ d) {i : Nat} {p0 : Int32} {p1 : Int32} (hi9 : i < 10) {σ σ' : LH} {r : Int32} (h0 : s_JS_indexOf2 i p0 p1 σ = some (r, σ')) : xM G lo hi l y_JS_indexOf2 prog_22_method_80_code 3 (some .int) d [.ref (G.2.2.2.1 i), .int p0, .int p1] σ (some (.int r)) σ' := by
  obtain ⟨d, rfl⟩ : ∃ q, d = q + 1 := ⟨d - 1, by omega⟩
  refine x_met R_JS rfl (by decide +kernel) (Nat.le_of_ble_eq_true rfl) fun p e s m below meth c C hr hk hR => ?_
  refine x_lv (lv' := [(0, .ref (G.2.2.2.1 i)), (1, .int p0), (2, .int p1)]) C [0, 1, 2] rfl ?_
  generalize xrm (d + 1) = R at hR ⊢
  unfold s_JS_indexOf2 at h0
  refine x_aload_n C d_JS_indexOf2_0 0 rfl ?_
  obtain ⟨r2, σ3, k1, h0⟩ := xbind2 h0
  refine x_callVSi C hR (c_JS_isLatin1 (d := d) (by omega) hi9 k1) cw_JS_492 hi9 rfl rfl rfl (Nat.le_of_ble_eq_true rfl) ⟨Nat.zero_le _, Nat.zero_le _⟩ d_JS_indexOf2_1 ?_
  refine x_if_eq C 23 d_JS_indexOf2_4 (by decide) (fun q4 => ?_) (fun q4 => ?_)
  · replace h0 := xit q4 h0
    refine x_aload_n C d_JS_indexOf2_23 0 rfl ?_
    refine x_sgetV C hi9 w_2170 d_JS_indexOf2_24 ?_
    refine x_iload_n C d_JS_indexOf2_27 1 rfl ?_
    refine x_iload_n C d_JS_indexOf2_28 2 rfl ?_
    refine x_aload_n C d_JS_indexOf2_29 0 rfl ?_
    obtain ⟨r6, σ7, k5, h0⟩ := xbind2 h0
    refine x_callVSi C hR (c_JS_length (d := d) (by omega) hi9 k5) cw_JS_505 hi9 rfl rfl rfl (Nat.le_of_ble_eq_true rfl) ⟨Nat.zero_le _, Nat.zero_le _⟩ d_JS_indexOf2_30 ?_
    cases h0
  · replace h0 := xif q4 h0
    refine x_aload_n C d_JS_indexOf2_7 0 rfl ?_
    refine x_sgetV C hi9 w_2170 d_JS_indexOf2_8 ?_
    refine x_iload_n C d_JS_indexOf2_11 1 rfl ?_
    refine x_iload_n C d_JS_indexOf2_12 2 rfl ?_
    refine x_aload_n C d_JS_indexOf2_13 0 rfl ?_
    obtain ⟨r9, σ10, k8, h0⟩ := xbind2 h0
    refine x_callVSi C hR (c_JS_length (d := d) (by omega) hi9 k8) cw_JS_505 hi9 rfl rfl rfl (Nat.le_of_ble_eq_true rfl) ⟨Nat.zero_le _, Nat.zero_le _⟩ d_JS_indexOf2_14 ?_
    obtain ⟨r12, σ13, k11, h0⟩ := xbind2 h0
    refine x_callSi C hR (c_JL_indexOf (d := d) (by omega) hi9 k11) cw_JS_637 w_707 rfl rfl (Nat.le_of_ble_eq_true rfl) ⟨Nat.zero_le _, Nat.zero_le _⟩ d_JS_indexOf2_17 ?_
    refine x_goto C 36 d_JS_indexOf2_20 (by decide) ?_
    exact x_lv C [] rfl (b_JS_indexOf2_36 C hr hk hd hR hi9 h0)
theorem d_JS_indexOf_0 : decode prog_22_method_79_code 0 = .ok (.aload_n 0, 1) := by decide +kernel
theorem d_JS_indexOf_1 : decode prog_22_method_79_code 1 = .ok (.iload_n 1, 1) := by decide +kernel
theorem d_JS_indexOf_2 : decode prog_22_method_79_code 2 = .ok (.iconst 0, 1) := by decide +kernel
theorem d_JS_indexOf_3 : decode prog_22_method_79_code 3 = .ok (.invokevirtual 633, 3) := by decide +kernel
theorem d_JS_indexOf_6 : decode prog_22_method_79_code 6 = .ok (.ireturn, 1) := by decide +kernel
def s_JS_indexOf (i : Nat) (p0 : Int32) (σ : LH) : Option (Int32 × LH) :=
  xb2 (s_JS_indexOf2 i p0 0 σ) fun r2 σ3 =>
  some (r2, σ3)
theorem c_JS_indexOf {lo hi : Nat} {G : XG} {l : Launch} {d : Nat} (hd : 4 ≤ d) {i : Nat} {p0 : Int32} (hi9 : i < 10) {σ σ' : LH} {r : Int32} (h0 : s_JS_indexOf i p0 σ = some (r, σ')) : xM G lo hi l y_JS_indexOf prog_22_method_79_code 2 (some .int) d [.ref (G.2.2.2.1 i), .int p0] σ (some (.int r)) σ' := by
  obtain ⟨d, rfl⟩ : ∃ q, d = q + 1 := ⟨d - 1, by omega⟩
  refine x_met R_JS rfl (by decide +kernel) (Nat.le_of_ble_eq_true rfl) fun p e s m below meth c C hr hk hR => ?_
  refine x_lv (lv' := [(0, .ref (G.2.2.2.1 i)), (1, .int p0)]) C [0, 1] rfl ?_
  generalize xrm (d + 1) = R at hR ⊢
  unfold s_JS_indexOf at h0
  refine x_aload_n C d_JS_indexOf_0 0 rfl ?_
  refine x_iload_n C d_JS_indexOf_1 1 rfl ?_
  refine x_iconst (v := 0) C d_JS_indexOf_2 (by decide) ?_
  obtain ⟨r2, σ3, k1, h0⟩ := xbind2 h0
  refine x_callVSi C hR (c_JS_indexOf2 (d := d) (by omega) hi9 k1) cw_JS_633 hi9 rfl rfl rfl (Nat.le_of_ble_eq_true rfl) ⟨Nat.zero_le _, Nat.zero_le _⟩ d_JS_indexOf_3 ?_
  exact x_iret C hr hk h0 d_JS_indexOf_6
theorem jl_ok {i : Nat} (_ : i < 10) {σ : LH} : s_JS_length i σ = some (js_len i, σ) := by
  simp [s_JS_length, s_JS_coder, s_JS_coder_14, xb2, sb_shr0]
theorem ja_ok {i : Nat} (hi : i < 10) {k : Int32} (hk : ib k (xlen.getD i 0)) {σ : LH} : s_JS_charAt i k σ = some (js_at i k, σ) := by
  have hv : ((Int32.toUInt32 (js_at i k &&& 255)) % 65536).toInt32 = js_at i k ∧ ((Int32.toUInt32 (js_at i k)) % 65536).toInt32 = js_at i k :=
    (show ∀ i, i < 10 → ∀ j, j < xlen.getD i 0 → (((Int32.toUInt32 ((xbyt.getD i []).getD j 0 &&& 255)) % 65536).toInt32 = (xbyt.getD i []).getD j 0 ∧ ((Int32.toUInt32 ((xbyt.getD i []).getD j 0)) % 65536).toInt32 = (xbyt.getD i []).getD j 0) by decide +kernel) i hi _ (ib_nat hk)
  have h1 : ¬ k < 0 := by
    have := hk.1
    intro h
    have := Int32.lt_iff_toInt_lt.mp h
    simp at this
    omega
  have h2 : k < js_len i := by
    have h3 : xlen.getD i 0 < 2 ^ 31 := (show ∀ i, i < 10 → xlen.getD i 0 < 2 ^ 31 by decide +kernel) i hi
    rw [Int32.lt_iff_toInt_lt]
    unfold js_len
    rw [nI_toInt h3]
    exact hk.2
  have e1 : s_JS_isLatin1 i σ = some (1, σ) := by simp [zb, s_JS_isLatin1, s_JS_isLatin1_18]
  have e2 : s_JS_checkIndex k (js_len i) σ = some σ := by simp [s_JS_checkIndex, s_JP_checkIndex, xb2, h1, h2]
  have e3 : s_JL_charAt i k σ = some (js_at i k, σ) := by
    unfold s_JL_charAt
    rw [e2]
    simp only [xb1, if_pos hk]
    rw [hv.1, if_pos hv.2]
  unfold s_JS_charAt
  rw [e1]
  simp only [xb2, e3]
  rw [if_neg (by decide), if_pos hv.2]
theorem ji_loop {i : Nat} (hi : i < 10) {c p2 : Int32} {y : Int32} {σ : LH} : ∀ (m n j : Nat), j + m = xlen.getD i 0 → m < n → s_JL_indexOfChar_7 i c p2 (js_len i) n y (nI j) σ = some (js_ixF y ((xbyt.getD i []).drop j) j, σ) := by
  have h3 : xlen.getD i 0 < 2 ^ 31 ∧ (xbyt.getD i []).length = xlen.getD i 0 := (show ∀ i, i < 10 → (xlen.getD i 0 < 2 ^ 31 ∧ (xbyt.getD i []).length = xlen.getD i 0) by decide +kernel) i hi
  intro m
  induction m with
  | zero =>
    intro n j hj hn
    obtain ⟨n, rfl⟩ : ∃ q, n = q + 1 := ⟨n - 1, by omega⟩
    have h4 : js_len i ≤ nI j := by unfold js_len; exact nI_le (by omega) (by omega)
    have h5 : (xbyt.getD i []).drop j = [] := List.drop_eq_nil_iff.mpr (by omega)
    simp only [s_JL_indexOfChar_7, s_JL_indexOfChar_7_b, if_pos h4]
    rw [h5]
    rfl
  | succ m ih =>
    intro n j hj hn
    obtain ⟨n, rfl⟩ : ∃ q, n = q + 1 := ⟨n - 1, by omega⟩
    have h4 : ¬ js_len i ≤ nI j := by unfold js_len; exact nI_ge (by omega) (by omega)
    have h5 : ib (nI j) (xlen.getD i 0) := by
      unfold ib
      rw [nI_toInt (by omega)]
      omega
    have hlt : j < (xbyt.getD i []).length := by omega
    have h6 : (xbyt.getD i []).drop j = (xbyt.getD i [])[j] :: (xbyt.getD i []).drop (j + 1) := List.drop_eq_getElem_cons hlt
    have h7 : js_at i (nI j) = (xbyt.getD i [])[j] := by
      unfold js_at
      rw [nI_clamp (by omega), List.getD_eq_getElem?_getD, List.getElem?_eq_getElem hlt]
      rfl
    simp only [s_JL_indexOfChar_7, s_JL_indexOfChar_7_b, if_neg h4, if_pos h5, xl]
    rw [h6, h7, js_ixF]
    by_cases q : (xbyt.getD i [])[j] = y
    · rw [if_pos q, if_pos q]
    · rw [if_neg q, if_neg q, nI_1]
      exact ih n (j + 1) (by omega) (by omega)
theorem js_ixF_none {c : Int32} : ∀ (l : List Int32) (k : Nat), (∀ b ∈ l, ¬ b = c) → js_ixF c l k = -1 := by
  intro l
  induction l with
  | nil => intro k _; rfl
  | cons b l ih =>
    intro k h
    rw [js_ixF, if_neg (h b List.mem_cons_self)]
    exact ih (k + 1) (fun z hz => h z (List.mem_cons_of_mem _ hz))
theorem js_ixF_same {c c' : Int32} : ∀ (l : List Int32) (k : Nat), (∀ b ∈ l, (b = c ↔ b = c')) → js_ixF c l k = js_ixF c' l k := by
  intro l
  induction l with
  | nil => intro k _; rfl
  | cons b l ih =>
    intro k h
    rw [js_ixF, js_ixF, ih (k + 1) (fun z hz => h z (List.mem_cons_of_mem _ hz))]
    by_cases q : b = c
    · rw [if_pos q, if_pos ((h b List.mem_cons_self).mp q)]
    · rw [if_neg q, if_neg (fun z => q ((h b List.mem_cons_self).mpr z))]
theorem ji_key {i : Nat} (hi : i < 10) {n F : Nat} (h256 : n < 256) (hF : xlen.getD i 0 < F) {σ : LH} : s_JL_indexOfChar_7 i (nI n) 0 (js_len i) F (Int32.toInt8 (nI n)).toInt32 0 σ = some (js_ix i (nI n), σ) := by
  have e4 := ji_loop hi (c := nI n) (p2 := 0) (y := (Int32.toInt8 (nI n)).toInt32) (σ := σ) (xlen.getD i 0) F 0 (by omega) hF
  have e5 : js_ixF (Int32.toInt8 (nI n)).toInt32 ((xbyt.getD i []).drop 0) 0 = js_ix i (nI n) := by
    rw [List.drop_zero]
    refine js_ixF_same _ _ (fun b hb2 => ?_)
    have hb3 : b.toInt8.toInt32 = b ∧ b &&& 255 = b := (show ∀ i, i < 10 → ∀ b ∈ xbyt.getD i [], (b.toInt8.toInt32 = b ∧ b &&& 255 = b) by decide +kernel) i hi b hb2
    have h9 := sc_eq hb3.1 h256
    rw [hb3.2] at h9
    exact h9
  rw [e5, nI_0] at e4
  exact e4
theorem ji_char {i : Nat} (hi : i < 10) {n : Nat} (h256 : n < 256) {σ : LH} : s_JL_indexOfChar i (nI n) 0 (js_len i) σ = some (js_ix i (nI n), σ) := by
  have hl : xlen.getD i 0 < 100 := (show ∀ i, i < 10 → xlen.getD i 0 < 100 by decide +kernel) i hi
  exact ji_key hi h256 (Nat.lt_of_lt_of_le hl (show 100 ≤ FUEL by decide))
theorem ji_lat {i : Nat} (hi : i < 10) {c : Int32} {σ : LH} : s_JL_indexOf i c 0 (js_len i) σ = some (js_ix i c, σ) := by
  have hb : ∀ b ∈ xbyt.getD i [], 0 ≤ b ∧ b ≤ 255 := (show ∀ i, i < 10 → ∀ b ∈ xbyt.getD i [], 0 ≤ b ∧ b ≤ 255 by decide +kernel) i hi
  have hl : 0 < xlen.getD i 0 ∧ xlen.getD i 0 < 100 := (show ∀ i, i < 10 → (0 < xlen.getD i 0 ∧ xlen.getD i 0 < 100) by decide +kernel) i hi
  unfold s_JL_indexOf
  by_cases h1 : c < 0
  · have : js_ix i c = -1 := js_ixF_none _ _ (fun b hb2 e => by
      have h := (hb b hb2).1
      rw [e] at h
      exact Int32.not_le.mpr h1 h)
    simp [zb, s_JL_canEncode, s_JL_canEncode_15, s_JL_canEncode_16, h1, xb2, this]
  · by_cases h2 : 255 < c
    · have : js_ix i c = -1 := js_ixF_none _ _ (fun b hb2 e => by
        have h := (hb b hb2).2
        rw [e] at h
        exact Int32.not_le.mpr h2 h)
      simp [zb, s_JL_canEncode, s_JL_canEncode_15, s_JL_canEncode_16, h1, h2, xb2, this]
    · have e1 : s_JL_canEncode c σ = some (1, σ) := by simp [zb, s_JL_canEncode, s_JL_canEncode_16, h1, h2]
      obtain ⟨n, hn, rfl⟩ := nI_of h1
      have h256 : n < 256 := by
        rcases Nat.lt_or_ge n 256 with q | q
        · exact q
        · exact absurd (nI_lt (a := 255) (b := n) (by omega) hn) h2
      have e2 : ¬ (0 : Int32) < 0 := by decide
      have e3 : (0 : Int32) < js_len i := by unfold js_len; exact nI_lt (a := 0) (by omega) (by omega)
      have e6 := ji_char hi h256 (σ := σ)
      rw [e1]
      simp only [xb2, xl]
      rw [if_neg (by decide), if_neg e2, ite_self, if_pos e3, e6]
theorem ji_ok {i : Nat} (hi : i < 10) {c : Int32} {σ : LH} : s_JS_indexOf i c σ = some (js_ix i c, σ) := by
  have e0 : s_JS_isLatin1 i σ = some (1, σ) := by simp [zb, s_JS_isLatin1, s_JS_isLatin1_18]
  unfold s_JS_indexOf s_JS_indexOf2
  simp only [e0, xb2, jl_ok hi, ji_lat hi, s_JS_indexOf2_36]
  rw [if_neg (by decide)]

theorem x_sLen {G : XG} {lo hi : Nat} {p : Program} {l : Launch} {e : Env} {R : Room} {s : State} {m : MethodId} {args : Array Value} {below : List Frame} {meth : Method} {c : Code} {nL : Nat} {Q : State → Prop} {cells slots : Nat} {cc : ByteArray} {own : String} {pc : Nat} {lv : List (Nat × Value)} {st : List Value} {σ : LH} (C : XC G lo hi p s m args c cc nL own) {index i : Nat} (hR : xroom R 9) (hi9 : i < 10) (hw : Cond.methodLink own index ({ cls := "java/lang/String", name := "length", desc := "()I" } : Jvm.MethodName) ∈ TG) (hW : (st.map fun v => v.category).sum ≤ 8) (hcs : cells ≤ R.cells ∧ slots ≤ R.slots) (hdg : decode cc pc = .ok (.invokevirtual index, 3)) (kk : XJ G lo hi p l e R s m args below meth c nL Q cells slots (pc + 3) lv (.int (js_len i) :: st) σ) : XJ G lo hi p l e R s m args below meth c nL Q cells slots pc lv (.ref (G.2.2.2.1 i) :: st) σ := x_callVSi (d := 8) (n := 0) (y := y_JS_length) C hR (c_JS_length (d := 8) (by omega) hi9 (jl_ok hi9)) ⟨⟨hw, w_115, w_330, ⟨by decide +kernel, by decide +kernel, by decide +kernel⟩, by decide⟩, w_328, w_329⟩ hi9 rfl rfl rfl hW hcs hdg kk
theorem x_sAt {G : XG} {lo hi : Nat} {p : Program} {l : Launch} {e : Env} {R : Room} {s : State} {m : MethodId} {args : Array Value} {below : List Frame} {meth : Method} {c : Code} {nL : Nat} {Q : State → Prop} {cells slots : Nat} {cc : ByteArray} {own : String} {pc : Nat} {lv : List (Nat × Value)} {st : List Value} {σ : LH} (C : XC G lo hi p s m args c cc nL own) {index i : Nat} {k : Int32} (hR : xroom R 9) (hi9 : i < 10) (hk : ib k (xlen.getD i 0)) (hw : Cond.methodLink own index ({ cls := "java/lang/String", name := "charAt", desc := "(I)C" } : Jvm.MethodName) ∈ TG) (hW : (st.map fun v => v.category).sum ≤ 8) (hcs : cells ≤ R.cells ∧ slots ≤ R.slots) (hdg : decode cc pc = .ok (.invokevirtual index, 3)) (kk : XJ G lo hi p l e R s m args below meth c nL Q cells slots (pc + 3) lv (.int (js_at i k) :: st) σ) : XJ G lo hi p l e R s m args below meth c nL Q cells slots pc lv (.int k :: .ref (G.2.2.2.1 i) :: st) σ := x_callVSi (d := 8) (n := 1) (y := y_JS_charAt) C hR (c_JS_charAt (d := 8) (by omega) hi9 (ja_ok hi9 hk)) ⟨⟨hw, w_115, w_1732, ⟨by decide +kernel, by decide +kernel, by decide +kernel⟩, by decide⟩, w_1730, w_1731⟩ hi9 rfl rfl rfl hW hcs hdg kk
theorem x_sIx {G : XG} {lo hi : Nat} {p : Program} {l : Launch} {e : Env} {R : Room} {s : State} {m : MethodId} {args : Array Value} {below : List Frame} {meth : Method} {c : Code} {nL : Nat} {Q : State → Prop} {cells slots : Nat} {cc : ByteArray} {own : String} {pc : Nat} {lv : List (Nat × Value)} {st : List Value} {σ : LH} (C : XC G lo hi p s m args c cc nL own) {index i : Nat} {k : Int32} (hR : xroom R 9) (hi9 : i < 10) (hw : Cond.methodLink own index ({ cls := "java/lang/String", name := "indexOf", desc := "(I)I" } : Jvm.MethodName) ∈ TG) (hW : (st.map fun v => v.category).sum ≤ 8) (hcs : cells ≤ R.cells ∧ slots ≤ R.slots) (hdg : decode cc pc = .ok (.invokevirtual index, 3)) (kk : XJ G lo hi p l e R s m args below meth c nL Q cells slots (pc + 3) lv (.int (js_ix i k) :: st) σ) : XJ G lo hi p l e R s m args below meth c nL Q cells slots pc lv (.int k :: .ref (G.2.2.2.1 i) :: st) σ := x_callVSi (d := 8) (n := 1) (y := y_JS_indexOf) C hR (c_JS_indexOf (d := 8) (by omega) hi9 (ji_ok hi9)) ⟨⟨hw, w_115, w_696, ⟨by decide +kernel, by decide +kernel, by decide +kernel⟩, by decide⟩, w_694, w_695⟩ hi9 rfl rfl rfl hW hcs hdg kk
