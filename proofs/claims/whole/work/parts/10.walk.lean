-- LostPlaces$Tape.add(I)Z
theorem d_Tape_add_0 : decode prog_10_method_2_code 0 = .ok (.bipush 24, 2) := by decide +kernel
theorem d_Tape_add_2 : decode prog_10_method_2_code 2 = .ok (.istore_n 2, 1) := by decide +kernel
theorem d_Tape_add_3 : decode prog_10_method_2_code 3 = .ok (.iload_n 2, 1) := by decide +kernel
theorem d_Tape_add_4 : decode prog_10_method_2_code 4 = .ok (.ifCond .lt 65, 3) := by decide +kernel
theorem d_Tape_add_7 : decode prog_10_method_2_code 7 = .ok (.iload_n 1, 1) := by decide +kernel
theorem d_Tape_add_8 : decode prog_10_method_2_code 8 = .ok (.iload_n 2, 1) := by decide +kernel
theorem d_Tape_add_9 : decode prog_10_method_2_code 9 = .ok (.iushr, 1) := by decide +kernel
theorem d_Tape_add_10 : decode prog_10_method_2_code 10 = .ok (.sipush 255, 3) := by decide +kernel
theorem d_Tape_add_13 : decode prog_10_method_2_code 13 = .ok (.iand, 1) := by decide +kernel
theorem d_Tape_add_14 : decode prog_10_method_2_code 14 = .ok (.istore_n 3, 1) := by decide +kernel
theorem d_Tape_add_15 : decode prog_10_method_2_code 15 = .ok (.iload_n 3, 1) := by decide +kernel
theorem d_Tape_add_16 : decode prog_10_method_2_code 16 = .ok (.ifCond .ne 6, 3) := by decide +kernel
theorem d_Tape_add_19 : decode prog_10_method_2_code 19 = .ok (.goto 44, 3) := by decide +kernel
theorem d_Tape_add_22 : decode prog_10_method_2_code 22 = .ok (.aload_n 0, 1) := by decide +kernel
theorem d_Tape_add_23 : decode prog_10_method_2_code 23 = .ok (.getfield 15, 3) := by decide +kernel
theorem d_Tape_add_26 : decode prog_10_method_2_code 26 = .ok (.ifCond .lt 15, 3) := by decide +kernel
theorem d_Tape_add_29 : decode prog_10_method_2_code 29 = .ok (.aload_n 0, 1) := by decide +kernel
theorem d_Tape_add_30 : decode prog_10_method_2_code 30 = .ok (.getfield 15, 3) := by decide +kernel
theorem d_Tape_add_33 : decode prog_10_method_2_code 33 = .ok (.aload_n 0, 1) := by decide +kernel
theorem d_Tape_add_34 : decode prog_10_method_2_code 34 = .ok (.getfield 9, 3) := by decide +kernel
theorem d_Tape_add_37 : decode prog_10_method_2_code 37 = .ok (.arraylength, 1) := by decide +kernel
theorem d_Tape_add_38 : decode prog_10_method_2_code 38 = .ok (.if_icmp .lt 5, 3) := by decide +kernel
theorem d_Tape_add_41 : decode prog_10_method_2_code 41 = .ok (.iconst 0, 1) := by decide +kernel
theorem d_Tape_add_42 : decode prog_10_method_2_code 42 = .ok (.ireturn, 1) := by decide +kernel
theorem d_Tape_add_43 : decode prog_10_method_2_code 43 = .ok (.aload_n 0, 1) := by decide +kernel
theorem d_Tape_add_44 : decode prog_10_method_2_code 44 = .ok (.getfield 9, 3) := by decide +kernel
theorem d_Tape_add_47 : decode prog_10_method_2_code 47 = .ok (.aload_n 0, 1) := by decide +kernel
theorem d_Tape_add_48 : decode prog_10_method_2_code 48 = .ok (.getfield 15, 3) := by decide +kernel
theorem d_Tape_add_51 : decode prog_10_method_2_code 51 = .ok (.iload_n 3, 1) := by decide +kernel
theorem d_Tape_add_52 : decode prog_10_method_2_code 52 = .ok (.iastore, 1) := by decide +kernel
theorem d_Tape_add_53 : decode prog_10_method_2_code 53 = .ok (.aload_n 0, 1) := by decide +kernel
theorem d_Tape_add_54 : decode prog_10_method_2_code 54 = .ok (.dup, 1) := by decide +kernel
theorem d_Tape_add_55 : decode prog_10_method_2_code 55 = .ok (.getfield 15, 3) := by decide +kernel
theorem d_Tape_add_58 : decode prog_10_method_2_code 58 = .ok (.iconst 1, 1) := by decide +kernel
theorem d_Tape_add_59 : decode prog_10_method_2_code 59 = .ok (.iadd, 1) := by decide +kernel
theorem d_Tape_add_60 : decode prog_10_method_2_code 60 = .ok (.putfield 15, 3) := by decide +kernel
theorem d_Tape_add_63 : decode prog_10_method_2_code 63 = .ok (.iinc 2 (-8), 3) := by decide +kernel
theorem d_Tape_add_66 : decode prog_10_method_2_code 66 = .ok (.goto (-63), 3) := by decide +kernel
theorem d_Tape_add_69 : decode prog_10_method_2_code 69 = .ok (.iconst 1, 1) := by decide +kernel
theorem d_Tape_add_70 : decode prog_10_method_2_code 70 = .ok (.ireturn, 1) := by decide +kernel
def s_Tape_add_63 (p0 : Int32) (rec3 : Int32 → LH → Option (Int32 × LH)) (y2 : Int32) (σ : LH) : Option (Int32 × LH) :=
  xl ((y2 + (-8)) : Int32) fun x4 =>
  rec3 x4 σ
theorem b_Tape_add_63 {G : XG} {l : Launch} {p : Program} {e : Env} {R : Room} {s : State} {m : MethodId} {args : Array Value} {below : List Frame} {meth : Method} {c : Code} (C : XC G 1 570 p s m args c prog_10_method_2_code 4 R_Tape) (hr : meth.sig.returnType = (some .boolean)) (hk : meth.locks = false) {d : Nat} (hd : 1 ≤ d + 1) (hR : xroom R (d + 1)) {p0 : Int32} {rec3 : Int32 → LH → Option (Int32 × LH)} {σ' : LH} {r : Int32} (hrec3 : ∀ (y2 : Int32) (σ : LH), rec3 y2 σ = some (r, σ') → XJ G 1 570 p l e R s m args below meth c 4 (XQ G 1 570 below args s (some (.int r)) σ') 0 0 3 [(0, .ref (G.2.2.1 + 2)), (1, .int p0), (2, .int y2)] [] σ) {y2 : Int32} {σ : LH} (h0 : s_Tape_add_63 p0 rec3 y2 σ = some (r, σ')) : XJ G 1 570 p l e R s m args below meth c 4 (XQ G 1 570 below args s (some (.int r)) σ') 0 0 63 [(0, .ref (G.2.2.1 + 2)), (1, .int p0), (2, .int y2)] [] σ := by
  replace h0 := (show _ = _ from h0)
  unfold s_Tape_add_63 at h0
  obtain ⟨x4, ex4, h0⟩ := xlet h0
  refine x_iinc (lv' := [(2, .int x4), (0, .ref (G.2.2.1 + 2)), (1, .int p0)]) C d_Tape_add_63 2 rfl ex4 (by decide) rfl ?_
  refine x_goto C 3 d_Tape_add_66 (by decide) ?_
  exact x_lv C [1, 2, 0] rfl (hrec3 _ _ h0)
def s_Tape_add_41 (p0 : Int32) (σ : LH) : Option (Int32 × LH) :=
  some (0, σ)
theorem b_Tape_add_41 {G : XG} {l : Launch} {p : Program} {e : Env} {R : Room} {s : State} {m : MethodId} {args : Array Value} {below : List Frame} {meth : Method} {c : Code} (C : XC G 1 570 p s m args c prog_10_method_2_code 4 R_Tape) (hr : meth.sig.returnType = (some .boolean)) (hk : meth.locks = false) {d : Nat} (hd : 1 ≤ d + 1) (hR : xroom R (d + 1)) {p0 : Int32} {σ' : LH} {r : Int32} {σ : LH} (h0 : s_Tape_add_41 p0 σ = some (r, σ')) : XJ G 1 570 p l e R s m args below meth c 4 (XQ G 1 570 below args s (some (.int r)) σ') 0 0 41 [] [] σ := by
  replace h0 := (show _ = _ from h0)
  unfold s_Tape_add_41 at h0
  refine x_iconst (v := 0) C d_Tape_add_41 (by decide) ?_
  exact x_zret C hr hk (by decide) h0 d_Tape_add_42
def s_Tape_add_3_b (p0 : Int32) (rec3 : Int32 → LH → Option (Int32 × LH)) (y2 : Int32) (σ : LH) : Option (Int32 × LH) :=
  if y2 < 0 then (
   some (1, σ))
  else (
   xl (((((Int32.toUInt32 p0) >>> ((Int32.toUInt32 y2) &&& Int32.toUInt32 31)).toInt32 &&& 255)) : Int32) fun x2 =>
   if x2 = 0 then (
    s_Tape_add_63 p0 rec3 y2 σ)
   else (
    if (σ.1 2 1) < 0 then (
     s_Tape_add_41 p0 σ)
    else (
     if (σ.1 2 1) < 240 then (
      if ib (σ.1 2 1) 240 then (
      xl ((stI σ 3 (Int32.toNatClampNeg (σ.1 2 1)) x2) : LH) fun σ8 =>
      xl ((stI σ8 2 1 ((σ8.1 2 1) + 1)) : LH) fun σ9 =>
      s_Tape_add_63 p0 rec3 y2 σ9) else none)
     else (
      s_Tape_add_41 p0 σ))))
def s_Tape_add_3 (p0 : Int32) : Nat → Int32 → LH → Option (Int32 × LH)
  | 0, _, _ => none
  | n + 1, y2, σ => s_Tape_add_3_b p0 (s_Tape_add_3 p0 n) y2 σ
theorem bb_Tape_add_3 {G : XG} {l : Launch} {p : Program} {e : Env} {R : Room} {s : State} {m : MethodId} {args : Array Value} {below : List Frame} {meth : Method} {c : Code} (C : XC G 1 570 p s m args c prog_10_method_2_code 4 R_Tape) (hr : meth.sig.returnType = (some .boolean)) (hk : meth.locks = false) {d : Nat} (hd : 1 ≤ d + 1) (hR : xroom R (d + 1)) {p0 : Int32} {rec3 : Int32 → LH → Option (Int32 × LH)} {σ' : LH} {r : Int32} (hrec3 : ∀ (y2 : Int32) (σ : LH), rec3 y2 σ = some (r, σ') → XJ G 1 570 p l e R s m args below meth c 4 (XQ G 1 570 below args s (some (.int r)) σ') 0 0 3 [(0, .ref (G.2.2.1 + 2)), (1, .int p0), (2, .int y2)] [] σ) {y2 : Int32} {σ : LH} (h0 : s_Tape_add_3_b p0 rec3 y2 σ = some (r, σ')) : XJ G 1 570 p l e R s m args below meth c 4 (XQ G 1 570 below args s (some (.int r)) σ') 0 0 3 [(0, .ref (G.2.2.1 + 2)), (1, .int p0), (2, .int y2)] [] σ := by
  replace h0 := (show _ = _ from h0)
  unfold s_Tape_add_3_b at h0
  refine x_iload_n C d_Tape_add_3 2 rfl ?_
  refine x_if_lt C 69 d_Tape_add_4 (by decide) (fun q1 => ?_) (fun q1 => ?_)
  · replace h0 := xit q1 h0
    refine x_iconst (v := 1) C d_Tape_add_69 (by decide) ?_
    exact x_zret C hr hk (by decide) h0 d_Tape_add_70
  · replace h0 := xif q1 h0
    refine x_iload_n C d_Tape_add_7 1 rfl ?_
    refine x_iload_n C d_Tape_add_8 2 rfl ?_
    refine x_iushr C d_Tape_add_9 ?_
    refine x_sipush (v := 255) C d_Tape_add_10 (by decide) ?_
    refine x_iand C d_Tape_add_13 ?_
    obtain ⟨x2, ex2, h0⟩ := xlet h0
    refine x_name C ex2 ?_
    refine x_istore_n (lv' := [(3, .int x2), (0, .ref (G.2.2.1 + 2)), (1, .int p0), (2, .int y2)]) C d_Tape_add_14 rfl (by decide) rfl ?_
    refine x_iload_n C d_Tape_add_15 0 rfl ?_
    refine x_if_ne C 22 d_Tape_add_16 (by decide) (fun q3 => ?_) (fun q3 => ?_)
    · replace h0 := xif q3 h0
      refine x_aload_n C d_Tape_add_22 1 rfl ?_
      refine x_getI (y := 0) C fg_Tape_15 k_2 rfl d_Tape_add_23 ?_
      refine x_if_lt C 41 d_Tape_add_26 (by decide) (fun q5 => ?_) (fun q5 => ?_)
      · replace h0 := xit q5 h0
        exact x_lv C [] rfl (b_Tape_add_41 C hr hk hd hR h0)
      · replace h0 := xif q5 h0
        refine x_aload_n C d_Tape_add_29 1 rfl ?_
        refine x_getI (y := 0) C fg_Tape_15 k_2 rfl d_Tape_add_30 ?_
        refine x_aload_n C d_Tape_add_33 1 rfl ?_
        refine x_getA (y := 3) C fg_Tape_9 k_2 rfl d_Tape_add_34 ?_
        refine x_ilen (v := 240) C k_3 rfl d_Tape_add_37 ?_
        refine x_icmp_lt C 43 d_Tape_add_38 (by decide) (fun q6 => ?_) (fun q6 => ?_)
        · replace h0 := xit q6 h0
          refine x_aload_n C d_Tape_add_43 1 rfl ?_
          refine x_getA (y := 3) C fg_Tape_9 k_2 rfl d_Tape_add_44 ?_
          refine x_aload_n C d_Tape_add_47 1 rfl ?_
          refine x_getI (y := 0) C fg_Tape_15 k_2 rfl d_Tape_add_48 ?_
          refine x_iload_n C d_Tape_add_51 0 rfl ?_
          obtain ⟨g7, h0⟩ := xgo h0
          refine x_iast C k_3 (ib_in g7) d_Tape_add_52 ?_
          obtain ⟨σ8, eσ8, h0⟩ := xlet h0
          refine x_sig C eσ8 ?_
          refine x_aload_n C d_Tape_add_53 1 rfl ?_
          refine x_dup C d_Tape_add_54 rfl ?_
          refine x_getI (y := 0) C fg_Tape_15 k_2 rfl d_Tape_add_55 ?_
          refine x_iconst (v := 1) C d_Tape_add_58 (by decide) ?_
          refine x_iadd C d_Tape_add_59 ?_
          refine x_putI (y := 0) C fp_Tape_15 k_2 rfl rfl rfl d_Tape_add_60 ?_
          obtain ⟨σ9, eσ9, h0⟩ := xlet h0
          refine x_sig C eσ9 ?_
          exact x_lv C [1, 2, 3] rfl (b_Tape_add_63 C hr hk hd hR hrec3 h0)
        · replace h0 := xif q6 h0
          exact x_lv C [] rfl (b_Tape_add_41 C hr hk hd hR h0)
    · replace h0 := xit q3 h0
      refine x_goto C 63 d_Tape_add_19 (by decide) ?_
      exact x_lv C [1, 2, 3] rfl (b_Tape_add_63 C hr hk hd hR hrec3 h0)
theorem b_Tape_add_3 {G : XG} {l : Launch} {p : Program} {e : Env} {R : Room} {s : State} {m : MethodId} {args : Array Value} {below : List Frame} {meth : Method} {c : Code} (C : XC G 1 570 p s m args c prog_10_method_2_code 4 R_Tape) (hr : meth.sig.returnType = (some .boolean)) (hk : meth.locks = false) {d : Nat} (hd : 1 ≤ d + 1) (hR : xroom R (d + 1)) {p0 : Int32} {σ' : LH} {r : Int32} : ∀ (n : Nat) (y2 : Int32) (σ : LH), s_Tape_add_3 p0 n y2 σ = some (r, σ') → XJ G 1 570 p l e R s m args below meth c 4 (XQ G 1 570 below args s (some (.int r)) σ') 0 0 3 [(0, .ref (G.2.2.1 + 2)), (1, .int p0), (2, .int y2)] [] σ := by
  intro n
  induction n with
  | zero => intro y2 σ h0; cases h0
  | succ n ih => intro y2 σ h0; exact bb_Tape_add_3 C hr hk hd hR ih h0
def s_Tape_add (p0 : Int32) (σ : LH) : Option (Int32 × LH) :=
  s_Tape_add_3 p0 FUEL 24 σ
theorem c_Tape_add {G : XG} {l : Launch} {d : Nat} (hd : 1 ≤ d) {p0 : Int32} {σ σ' : LH} {r : Int32} (h0 : s_Tape_add p0 σ = some (r, σ')) : xM G 1 570 l y_Tape_add prog_10_method_2_code 4 (some .boolean) d [.ref (G.2.2.1 + 2), .int p0] σ (some (.int r)) σ' := by
  obtain ⟨d, rfl⟩ : ∃ q, d = q + 1 := ⟨d - 1, by omega⟩
  refine x_met R_Tape rfl (by decide +kernel) (Nat.le_of_ble_eq_true rfl) fun p e s m below meth c C hr hk hR => ?_
  refine x_lv (lv' := [(0, .ref (G.2.2.1 + 2)), (1, .int p0)]) C [0, 1] rfl ?_
  generalize xrm (d + 1) = R at hR ⊢
  unfold s_Tape_add at h0
  refine x_bipush (v := 24) C d_Tape_add_0 (by decide) ?_
  refine x_istore_n (lv' := [(2, .int 24), (0, .ref (G.2.2.1 + 2)), (1, .int p0)]) C d_Tape_add_2 rfl (by decide) rfl ?_
  exact x_lv C [1, 2, 0] rfl (b_Tape_add_3 C hr hk hd hR FUEL _ _ h0)
-- LostPlaces.feed(IIIII)I
theorem d_Main_feed_0 : decode prog_1_method_2_code 0 = .ok (.aload_n 0, 1) := by decide +kernel
theorem d_Main_feed_1 : decode prog_1_method_2_code 1 = .ok (.getfield 10, 3) := by decide +kernel
theorem d_Main_feed_4 : decode prog_1_method_2_code 4 = .ok (.getfield 126, 3) := by decide +kernel
theorem d_Main_feed_7 : decode prog_1_method_2_code 7 = .ok (.istore 6, 2) := by decide +kernel
theorem d_Main_feed_9 : decode prog_1_method_2_code 9 = .ok (.aload_n 0, 1) := by decide +kernel
theorem d_Main_feed_10 : decode prog_1_method_2_code 10 = .ok (.getfield 10, 3) := by decide +kernel
theorem d_Main_feed_13 : decode prog_1_method_2_code 13 = .ok (.iload_n 1, 1) := by decide +kernel
theorem d_Main_feed_14 : decode prog_1_method_2_code 14 = .ok (.invokevirtual 129, 3) := by decide +kernel
theorem d_Main_feed_17 : decode prog_1_method_2_code 17 = .ok (.ifCond .eq 53, 3) := by decide +kernel
theorem d_Main_feed_20 : decode prog_1_method_2_code 20 = .ok (.aload_n 0, 1) := by decide +kernel
theorem d_Main_feed_21 : decode prog_1_method_2_code 21 = .ok (.getfield 10, 3) := by decide +kernel
theorem d_Main_feed_24 : decode prog_1_method_2_code 24 = .ok (.iload_n 2, 1) := by decide +kernel
theorem d_Main_feed_25 : decode prog_1_method_2_code 25 = .ok (.invokevirtual 129, 3) := by decide +kernel
theorem d_Main_feed_28 : decode prog_1_method_2_code 28 = .ok (.ifCond .eq 42, 3) := by decide +kernel
theorem d_Main_feed_31 : decode prog_1_method_2_code 31 = .ok (.aload_n 0, 1) := by decide +kernel
theorem d_Main_feed_32 : decode prog_1_method_2_code 32 = .ok (.getfield 10, 3) := by decide +kernel
theorem d_Main_feed_35 : decode prog_1_method_2_code 35 = .ok (.iload_n 3, 1) := by decide +kernel
theorem d_Main_feed_36 : decode prog_1_method_2_code 36 = .ok (.invokevirtual 129, 3) := by decide +kernel
theorem d_Main_feed_39 : decode prog_1_method_2_code 39 = .ok (.ifCond .eq 31, 3) := by decide +kernel
theorem d_Main_feed_42 : decode prog_1_method_2_code 42 = .ok (.aload_n 0, 1) := by decide +kernel
theorem d_Main_feed_43 : decode prog_1_method_2_code 43 = .ok (.getfield 10, 3) := by decide +kernel
theorem d_Main_feed_46 : decode prog_1_method_2_code 46 = .ok (.iload 4, 2) := by decide +kernel
theorem d_Main_feed_48 : decode prog_1_method_2_code 48 = .ok (.invokevirtual 129, 3) := by decide +kernel
theorem d_Main_feed_51 : decode prog_1_method_2_code 51 = .ok (.ifCond .eq 19, 3) := by decide +kernel
theorem d_Main_feed_54 : decode prog_1_method_2_code 54 = .ok (.aload_n 0, 1) := by decide +kernel
theorem d_Main_feed_55 : decode prog_1_method_2_code 55 = .ok (.getfield 10, 3) := by decide +kernel
theorem d_Main_feed_58 : decode prog_1_method_2_code 58 = .ok (.iload 5, 2) := by decide +kernel
theorem d_Main_feed_60 : decode prog_1_method_2_code 60 = .ok (.invokevirtual 129, 3) := by decide +kernel
theorem d_Main_feed_63 : decode prog_1_method_2_code 63 = .ok (.ifCond .eq 7, 3) := by decide +kernel
theorem d_Main_feed_66 : decode prog_1_method_2_code 66 = .ok (.iconst 1, 1) := by decide +kernel
theorem d_Main_feed_67 : decode prog_1_method_2_code 67 = .ok (.goto 4, 3) := by decide +kernel
theorem d_Main_feed_70 : decode prog_1_method_2_code 70 = .ok (.iconst 0, 1) := by decide +kernel
theorem d_Main_feed_71 : decode prog_1_method_2_code 71 = .ok (.istore 7, 2) := by decide +kernel
theorem d_Main_feed_73 : decode prog_1_method_2_code 73 = .ok (.iload 7, 2) := by decide +kernel
theorem d_Main_feed_75 : decode prog_1_method_2_code 75 = .ok (.ifCond .eq 11, 3) := by decide +kernel
theorem d_Main_feed_78 : decode prog_1_method_2_code 78 = .ok (.aload_n 0, 1) := by decide +kernel
theorem d_Main_feed_79 : decode prog_1_method_2_code 79 = .ok (.getfield 10, 3) := by decide +kernel
theorem d_Main_feed_82 : decode prog_1_method_2_code 82 = .ok (.getfield 126, 3) := by decide +kernel
theorem d_Main_feed_85 : decode prog_1_method_2_code 85 = .ok (.ireturn, 1) := by decide +kernel
theorem d_Main_feed_86 : decode prog_1_method_2_code 86 = .ok (.aload_n 0, 1) := by decide +kernel
theorem d_Main_feed_87 : decode prog_1_method_2_code 87 = .ok (.getfield 10, 3) := by decide +kernel
theorem d_Main_feed_90 : decode prog_1_method_2_code 90 = .ok (.iload 6, 2) := by decide +kernel
theorem d_Main_feed_92 : decode prog_1_method_2_code 92 = .ok (.putfield 126, 3) := by decide +kernel
theorem d_Main_feed_95 : decode prog_1_method_2_code 95 = .ok (.iconst (-1), 1) := by decide +kernel
theorem d_Main_feed_96 : decode prog_1_method_2_code 96 = .ok (.ireturn, 1) := by decide +kernel
def s_Main_feed_71 (p0 : Int32) (p1 : Int32) (p2 : Int32) (p3 : Int32) (p4 : Int32) (y6 : Int32) (z0 : Int32) (σ : LH) : Option (Int32 × LH) :=
  if z0 = 0 then (
   xl ((stI σ 2 1 y6) : LH) fun σ7 =>
   some ((-1), σ7))
  else (
   some ((σ.1 2 1), σ))
theorem b_Main_feed_71 {G : XG} {l : Launch} {p : Program} {e : Env} {R : Room} {s : State} {m : MethodId} {args : Array Value} {below : List Frame} {meth : Method} {c : Code} (C : XC G 1 570 p s m args c prog_1_method_2_code 8 R_Main) (hr : meth.sig.returnType = (some .int)) (hk : meth.locks = false) {d : Nat} (hd : 2 ≤ d + 1) (hR : xroom R (d + 1)) {p0 : Int32} {p1 : Int32} {p2 : Int32} {p3 : Int32} {p4 : Int32} {σ' : LH} {r : Int32} {y6 : Int32} {z0 : Int32} {σ : LH} (h0 : s_Main_feed_71 p0 p1 p2 p3 p4 y6 z0 σ = some (r, σ')) : XJ G 1 570 p l e R s m args below meth c 8 (XQ G 1 570 below args s (some (.int r)) σ') 0 0 71 [(0, .ref (G.2.2.1 + 1)), (6, .int y6)] [.int z0] σ := by
  replace h0 := (show _ = _ from h0)
  unfold s_Main_feed_71 at h0
  refine x_istore (lv' := [(7, .int z0), (0, .ref (G.2.2.1 + 1)), (6, .int y6)]) C d_Main_feed_71 (by decide) rfl ?_
  refine x_iload C d_Main_feed_73 0 rfl ?_
  refine x_if_eq C 86 d_Main_feed_75 (by decide) (fun q6 => ?_) (fun q6 => ?_)
  · replace h0 := xit q6 h0
    refine x_aload_n C d_Main_feed_86 1 rfl ?_
    refine x_getA (y := 2) C fg_Main_10 k_1 rfl d_Main_feed_87 ?_
    refine x_iload C d_Main_feed_90 2 rfl ?_
    refine x_putI (y := 0) C fp_Main_126 k_2 rfl rfl rfl d_Main_feed_92 ?_
    obtain ⟨σ7, eσ7, h0⟩ := xlet h0
    refine x_sig C eσ7 ?_
    refine x_iconst (v := (-1)) C d_Main_feed_95 (by decide) ?_
    exact x_iret C hr hk h0 d_Main_feed_96
  · replace h0 := xif q6 h0
    refine x_aload_n C d_Main_feed_78 1 rfl ?_
    refine x_getA (y := 2) C fg_Main_10 k_1 rfl d_Main_feed_79 ?_
    refine x_getI (y := 0) C fg_Main_126 k_2 rfl d_Main_feed_82 ?_
    exact x_iret C hr hk h0 d_Main_feed_85
def s_Main_feed_70 (p0 : Int32) (p1 : Int32) (p2 : Int32) (p3 : Int32) (p4 : Int32) (y6 : Int32) (σ : LH) : Option (Int32 × LH) :=
  s_Main_feed_71 p0 p1 p2 p3 p4 y6 0 σ
theorem b_Main_feed_70 {G : XG} {l : Launch} {p : Program} {e : Env} {R : Room} {s : State} {m : MethodId} {args : Array Value} {below : List Frame} {meth : Method} {c : Code} (C : XC G 1 570 p s m args c prog_1_method_2_code 8 R_Main) (hr : meth.sig.returnType = (some .int)) (hk : meth.locks = false) {d : Nat} (hd : 2 ≤ d + 1) (hR : xroom R (d + 1)) {p0 : Int32} {p1 : Int32} {p2 : Int32} {p3 : Int32} {p4 : Int32} {σ' : LH} {r : Int32} {y6 : Int32} {σ : LH} (h0 : s_Main_feed_70 p0 p1 p2 p3 p4 y6 σ = some (r, σ')) : XJ G 1 570 p l e R s m args below meth c 8 (XQ G 1 570 below args s (some (.int r)) σ') 0 0 70 [(0, .ref (G.2.2.1 + 1)), (6, .int y6)] [] σ := by
  replace h0 := (show _ = _ from h0)
  unfold s_Main_feed_70 at h0
  refine x_iconst (v := 0) C d_Main_feed_70 (by decide) ?_
  exact x_lv C [0, 1] rfl (b_Main_feed_71 C hr hk hd hR h0)
def s_Main_feed (p0 : Int32) (p1 : Int32) (p2 : Int32) (p3 : Int32) (p4 : Int32) (σ : LH) : Option (Int32 × LH) :=
  xl (((σ.1 2 1)) : Int32) fun x1 =>
  xb2 (s_Tape_add p0 σ) fun r3 σ4 =>
  if r3 = 0 then (
   s_Main_feed_70 p0 p1 p2 p3 p4 x1 σ4)
  else (
   xb2 (s_Tape_add p1 σ4) fun r9 σ10 =>
   if r9 = 0 then (
    s_Main_feed_70 p0 p1 p2 p3 p4 x1 σ10)
   else (
    xb2 (s_Tape_add p2 σ10) fun r13 σ14 =>
    if r13 = 0 then (
     s_Main_feed_70 p0 p1 p2 p3 p4 x1 σ14)
    else (
     xb2 (s_Tape_add p3 σ14) fun r17 σ18 =>
     if r17 = 0 then (
      s_Main_feed_70 p0 p1 p2 p3 p4 x1 σ18)
     else (
      xb2 (s_Tape_add p4 σ18) fun r21 σ22 =>
      if r21 = 0 then (
       s_Main_feed_70 p0 p1 p2 p3 p4 x1 σ22)
      else (
       s_Main_feed_71 p0 p1 p2 p3 p4 x1 1 σ22)))))
theorem c_Main_feed {G : XG} {l : Launch} {d : Nat} (hd : 2 ≤ d) {p0 : Int32} {p1 : Int32} {p2 : Int32} {p3 : Int32} {p4 : Int32} {σ σ' : LH} {r : Int32} (h0 : s_Main_feed p0 p1 p2 p3 p4 σ = some (r, σ')) : xM G 1 570 l y_Main_feed prog_1_method_2_code 8 (some .int) d [.ref (G.2.2.1 + 1), .int p0, .int p1, .int p2, .int p3, .int p4] σ (some (.int r)) σ' := by
  obtain ⟨d, rfl⟩ : ∃ q, d = q + 1 := ⟨d - 1, by omega⟩
  refine x_met R_Main rfl (by decide +kernel) (Nat.le_of_ble_eq_true rfl) fun p e s m below meth c C hr hk hR => ?_
  refine x_lv (lv' := [(0, .ref (G.2.2.1 + 1)), (1, .int p0), (2, .int p1), (3, .int p2), (4, .int p3), (5, .int p4)]) C [0, 1, 2, 3, 4, 5] rfl ?_
  generalize xrm (d + 1) = R at hR ⊢
  unfold s_Main_feed at h0
  refine x_aload_n C d_Main_feed_0 0 rfl ?_
  refine x_getA (y := 2) C fg_Main_10 k_1 rfl d_Main_feed_1 ?_
  refine x_getI (y := 0) C fg_Main_126 k_2 rfl d_Main_feed_4 ?_
  obtain ⟨x1, ex1, h0⟩ := xlet h0
  refine x_name C ex1 ?_
  refine x_istore (lv' := [(6, .int x1), (0, .ref (G.2.2.1 + 1)), (1, .int p0), (2, .int p1), (3, .int p2), (4, .int p3), (5, .int p4)]) C d_Main_feed_7 (by decide) rfl ?_
  refine x_aload_n C d_Main_feed_9 1 rfl ?_
  refine x_getA (y := 2) C fg_Main_10 k_1 rfl d_Main_feed_10 ?_
  refine x_iload_n C d_Main_feed_13 2 rfl ?_
  obtain ⟨r3, σ4, k2, h0⟩ := xbind2 h0
  refine x_callVi C hR (c_Tape_add (d := d) (by omega) k2) cw_Main_129 k_2 rfl rfl rfl (Nat.le_of_ble_eq_true rfl) ⟨Nat.zero_le _, Nat.zero_le _⟩ d_Main_feed_14 ?_
  refine x_if_eq C 70 d_Main_feed_17 (by decide) (fun q5 => ?_) (fun q5 => ?_)
  · replace h0 := xit q5 h0
    exact x_lv C [1, 0] rfl (b_Main_feed_70 C hr hk hd hR h0)
  · replace h0 := xif q5 h0
    refine x_aload_n C d_Main_feed_20 1 rfl ?_
    refine x_getA (y := 2) C fg_Main_10 k_1 rfl d_Main_feed_21 ?_
    refine x_iload_n C d_Main_feed_24 3 rfl ?_
    obtain ⟨r9, σ10, k8, h0⟩ := xbind2 h0
    refine x_callVi C hR (c_Tape_add (d := d) (by omega) k8) cw_Main_129 k_2 rfl rfl rfl (Nat.le_of_ble_eq_true rfl) ⟨Nat.zero_le _, Nat.zero_le _⟩ d_Main_feed_25 ?_
    refine x_if_eq C 70 d_Main_feed_28 (by decide) (fun q11 => ?_) (fun q11 => ?_)
    · replace h0 := xit q11 h0
      exact x_lv C [1, 0] rfl (b_Main_feed_70 C hr hk hd hR h0)
    · replace h0 := xif q11 h0
      refine x_aload_n C d_Main_feed_31 1 rfl ?_
      refine x_getA (y := 2) C fg_Main_10 k_1 rfl d_Main_feed_32 ?_
      refine x_iload_n C d_Main_feed_35 4 rfl ?_
      obtain ⟨r13, σ14, k12, h0⟩ := xbind2 h0
      refine x_callVi C hR (c_Tape_add (d := d) (by omega) k12) cw_Main_129 k_2 rfl rfl rfl (Nat.le_of_ble_eq_true rfl) ⟨Nat.zero_le _, Nat.zero_le _⟩ d_Main_feed_36 ?_
      refine x_if_eq C 70 d_Main_feed_39 (by decide) (fun q15 => ?_) (fun q15 => ?_)
      · replace h0 := xit q15 h0
        exact x_lv C [1, 0] rfl (b_Main_feed_70 C hr hk hd hR h0)
      · replace h0 := xif q15 h0
        refine x_aload_n C d_Main_feed_42 1 rfl ?_
        refine x_getA (y := 2) C fg_Main_10 k_1 rfl d_Main_feed_43 ?_
        refine x_iload C d_Main_feed_46 5 rfl ?_
        obtain ⟨r17, σ18, k16, h0⟩ := xbind2 h0
        refine x_callVi C hR (c_Tape_add (d := d) (by omega) k16) cw_Main_129 k_2 rfl rfl rfl (Nat.le_of_ble_eq_true rfl) ⟨Nat.zero_le _, Nat.zero_le _⟩ d_Main_feed_48 ?_
        refine x_if_eq C 70 d_Main_feed_51 (by decide) (fun q19 => ?_) (fun q19 => ?_)
        · replace h0 := xit q19 h0
          exact x_lv C [1, 0] rfl (b_Main_feed_70 C hr hk hd hR h0)
        · replace h0 := xif q19 h0
          refine x_aload_n C d_Main_feed_54 1 rfl ?_
          refine x_getA (y := 2) C fg_Main_10 k_1 rfl d_Main_feed_55 ?_
          refine x_iload C d_Main_feed_58 6 rfl ?_
          obtain ⟨r21, σ22, k20, h0⟩ := xbind2 h0
          refine x_callVi C hR (c_Tape_add (d := d) (by omega) k20) cw_Main_129 k_2 rfl rfl rfl (Nat.le_of_ble_eq_true rfl) ⟨Nat.zero_le _, Nat.zero_le _⟩ d_Main_feed_60 ?_
          refine x_if_eq C 70 d_Main_feed_63 (by decide) (fun q23 => ?_) (fun q23 => ?_)
          · replace h0 := xit q23 h0
            exact x_lv C [1, 0] rfl (b_Main_feed_70 C hr hk hd hR h0)
          · replace h0 := xif q23 h0
            refine x_iconst (v := 1) C d_Main_feed_66 (by decide) ?_
            refine x_goto C 71 d_Main_feed_67 (by decide) ?_
            exact x_lv C [1, 0] rfl (b_Main_feed_71 C hr hk hd hR h0)
-- LostPlaces.end(I)Z
theorem d_Main_end_0 : decode prog_1_method_3_code 0 = .ok (.iload_n 1, 1) := by decide +kernel
theorem d_Main_end_1 : decode prog_1_method_3_code 1 = .ok (.ifCond .lt 14, 3) := by decide +kernel
theorem d_Main_end_4 : decode prog_1_method_3_code 4 = .ok (.iload_n 1, 1) := by decide +kernel
theorem d_Main_end_5 : decode prog_1_method_3_code 5 = .ok (.aload_n 0, 1) := by decide +kernel
theorem d_Main_end_6 : decode prog_1_method_3_code 6 = .ok (.getfield 10, 3) := by decide +kernel
theorem d_Main_end_9 : decode prog_1_method_3_code 9 = .ok (.getfield 126, 3) := by decide +kernel
theorem d_Main_end_12 : decode prog_1_method_3_code 12 = .ok (.if_icmp .le 5, 3) := by decide +kernel
theorem d_Main_end_15 : decode prog_1_method_3_code 15 = .ok (.iconst 0, 1) := by decide +kernel
theorem d_Main_end_16 : decode prog_1_method_3_code 16 = .ok (.ireturn, 1) := by decide +kernel
theorem d_Main_end_17 : decode prog_1_method_3_code 17 = .ok (.aload_n 0, 1) := by decide +kernel
theorem d_Main_end_18 : decode prog_1_method_3_code 18 = .ok (.getfield 10, 3) := by decide +kernel
theorem d_Main_end_21 : decode prog_1_method_3_code 21 = .ok (.iload_n 1, 1) := by decide +kernel
theorem d_Main_end_22 : decode prog_1_method_3_code 22 = .ok (.putfield 126, 3) := by decide +kernel
theorem d_Main_end_25 : decode prog_1_method_3_code 25 = .ok (.iconst 1, 1) := by decide +kernel
theorem d_Main_end_26 : decode prog_1_method_3_code 26 = .ok (.ireturn, 1) := by decide +kernel
def s_Main_end_15 (p0 : Int32) (σ : LH) : Option (Int32 × LH) :=
  some (0, σ)
theorem b_Main_end_15 {G : XG} {l : Launch} {p : Program} {e : Env} {R : Room} {s : State} {m : MethodId} {args : Array Value} {below : List Frame} {meth : Method} {c : Code} (C : XC G 1 570 p s m args c prog_1_method_3_code 2 R_Main) (hr : meth.sig.returnType = (some .boolean)) (hk : meth.locks = false) {d : Nat} (hd : 1 ≤ d + 1) (hR : xroom R (d + 1)) {p0 : Int32} {σ' : LH} {r : Int32} {σ : LH} (h0 : s_Main_end_15 p0 σ = some (r, σ')) : XJ G 1 570 p l e R s m args below meth c 2 (XQ G 1 570 below args s (some (.int r)) σ') 0 0 15 [] [] σ := by
  replace h0 := (show _ = _ from h0)
  unfold s_Main_end_15 at h0
  refine x_iconst (v := 0) C d_Main_end_15 (by decide) ?_
  exact x_zret C hr hk (by decide) h0 d_Main_end_16
def s_Main_end (p0 : Int32) (σ : LH) : Option (Int32 × LH) :=
  if p0 < 0 then (
   s_Main_end_15 p0 σ)
  else (
   if p0 ≤ (σ.1 2 1) then (
    xl ((stI σ 2 1 p0) : LH) fun σ3 =>
    some (1, σ3))
   else (
    s_Main_end_15 p0 σ))
theorem c_Main_end {G : XG} {l : Launch} {d : Nat} (hd : 1 ≤ d) {p0 : Int32} {σ σ' : LH} {r : Int32} (h0 : s_Main_end p0 σ = some (r, σ')) : xM G 1 570 l y_Main_end prog_1_method_3_code 2 (some .boolean) d [.ref (G.2.2.1 + 1), .int p0] σ (some (.int r)) σ' := by
  obtain ⟨d, rfl⟩ : ∃ q, d = q + 1 := ⟨d - 1, by omega⟩
  refine x_met R_Main rfl (by decide +kernel) (Nat.le_of_ble_eq_true rfl) fun p e s m below meth c C hr hk hR => ?_
  refine x_lv (lv' := [(0, .ref (G.2.2.1 + 1)), (1, .int p0)]) C [0, 1] rfl ?_
  generalize xrm (d + 1) = R at hR ⊢
  unfold s_Main_end at h0
  refine x_iload_n C d_Main_end_0 1 rfl ?_
  refine x_if_lt C 15 d_Main_end_1 (by decide) (fun q1 => ?_) (fun q1 => ?_)
  · replace h0 := xit q1 h0
    exact x_lv C [] rfl (b_Main_end_15 C hr hk hd hR h0)
  · replace h0 := xif q1 h0
    refine x_iload_n C d_Main_end_4 1 rfl ?_
    refine x_aload_n C d_Main_end_5 0 rfl ?_
    refine x_getA (y := 2) C fg_Main_10 k_1 rfl d_Main_end_6 ?_
    refine x_getI (y := 0) C fg_Main_126 k_2 rfl d_Main_end_9 ?_
    refine x_icmp_le C 17 d_Main_end_12 (by decide) (fun q2 => ?_) (fun q2 => ?_)
    · replace h0 := xit q2 h0
      refine x_aload_n C d_Main_end_17 0 rfl ?_
      refine x_getA (y := 2) C fg_Main_10 k_1 rfl d_Main_end_18 ?_
      refine x_iload_n C d_Main_end_21 1 rfl ?_
      refine x_putI (y := 0) C fp_Main_126 k_2 rfl rfl rfl d_Main_end_22 ?_
      obtain ⟨σ3, eσ3, h0⟩ := xlet h0
      refine x_sig C eσ3 ?_
      refine x_iconst (v := 1) C d_Main_end_25 (by decide) ?_
      exact x_zret C hr hk (by decide) h0 d_Main_end_26
    · replace h0 := xif q2 h0
      exact x_lv C [] rfl (b_Main_end_15 C hr hk hd hR h0)
-- LostPlaces$Tape.rewind()V
theorem d_Tape_rewind_0 : decode prog_10_method_3_code 0 = .ok (.aload_n 0, 1) := by decide +kernel
theorem d_Tape_rewind_1 : decode prog_10_method_3_code 1 = .ok (.iconst 0, 1) := by decide +kernel
theorem d_Tape_rewind_2 : decode prog_10_method_3_code 2 = .ok (.putfield 19, 3) := by decide +kernel
theorem d_Tape_rewind_5 : decode prog_10_method_3_code 5 = .ok (.aload_n 0, 1) := by decide +kernel
theorem d_Tape_rewind_6 : decode prog_10_method_3_code 6 = .ok (.iconst (-1), 1) := by decide +kernel
theorem d_Tape_rewind_7 : decode prog_10_method_3_code 7 = .ok (.putfield 22, 3) := by decide +kernel
theorem d_Tape_rewind_10 : decode prog_10_method_3_code 10 = .ok (.return_, 1) := by decide +kernel
def s_Tape_rewind (σ : LH) : Option (LH) :=
  xl ((stI σ 2 2 0) : LH) fun σ1 =>
  xl ((stI σ1 2 3 (-1)) : LH) fun σ2 =>
  some σ2
theorem c_Tape_rewind {G : XG} {l : Launch} {d : Nat} (hd : 1 ≤ d) {σ σ' : LH} (h0 : s_Tape_rewind σ = some σ') : xM G 1 570 l y_Tape_rewind prog_10_method_3_code 1 none d [.ref (G.2.2.1 + 2)] σ none σ' := by
  obtain ⟨d, rfl⟩ : ∃ q, d = q + 1 := ⟨d - 1, by omega⟩
  refine x_met R_Tape rfl (by decide +kernel) (Nat.le_of_ble_eq_true rfl) fun p e s m below meth c C hr hk hR => ?_
  refine x_lv (lv' := [(0, .ref (G.2.2.1 + 2))]) C [0] rfl ?_
  generalize xrm (d + 1) = R at hR ⊢
  unfold s_Tape_rewind at h0
  refine x_aload_n C d_Tape_rewind_0 0 rfl ?_
  refine x_iconst (v := 0) C d_Tape_rewind_1 (by decide) ?_
  refine x_putI (y := 0) C fp_Tape_19 k_2 rfl rfl rfl d_Tape_rewind_2 ?_
  obtain ⟨σ1, eσ1, h0⟩ := xlet h0
  refine x_sig C eσ1 ?_
  refine x_aload_n C d_Tape_rewind_5 0 rfl ?_
  refine x_iconst (v := (-1)) C d_Tape_rewind_6 (by decide) ?_
  refine x_putI (y := 0) C fp_Tape_22 k_2 rfl rfl rfl d_Tape_rewind_7 ?_
  obtain ⟨σ2, eσ2, h0⟩ := xlet h0
  refine x_sig C eσ2 ?_
  exact x_vret C hr hk h0 d_Tape_rewind_10
-- LostPlaces$Room.clear()V
theorem d_Room_clear_0 : decode prog_8_method_2_code 0 = .ok (.aload_n 0, 1) := by decide +kernel
theorem d_Room_clear_1 : decode prog_8_method_2_code 1 = .ok (.iconst 0, 1) := by decide +kernel
theorem d_Room_clear_2 : decode prog_8_method_2_code 2 = .ok (.putfield 9, 3) := by decide +kernel
theorem d_Room_clear_5 : decode prog_8_method_2_code 5 = .ok (.aload_n 0, 1) := by decide +kernel
theorem d_Room_clear_6 : decode prog_8_method_2_code 6 = .ok (.iconst 0, 1) := by decide +kernel
theorem d_Room_clear_7 : decode prog_8_method_2_code 7 = .ok (.putfield 15, 3) := by decide +kernel
theorem d_Room_clear_10 : decode prog_8_method_2_code 10 = .ok (.aload_n 0, 1) := by decide +kernel
theorem d_Room_clear_11 : decode prog_8_method_2_code 11 = .ok (.iconst 0, 1) := by decide +kernel
theorem d_Room_clear_12 : decode prog_8_method_2_code 12 = .ok (.putfield 18, 3) := by decide +kernel
theorem d_Room_clear_15 : decode prog_8_method_2_code 15 = .ok (.aload_n 0, 1) := by decide +kernel
theorem d_Room_clear_16 : decode prog_8_method_2_code 16 = .ok (.iconst 0, 1) := by decide +kernel
theorem d_Room_clear_17 : decode prog_8_method_2_code 17 = .ok (.putfield 21, 3) := by decide +kernel
theorem d_Room_clear_20 : decode prog_8_method_2_code 20 = .ok (.return_, 1) := by decide +kernel
def s_Room_clear (rm : Nat) (σ : LH) : Option (LH) :=
  xl ((stI σ rm 0 0) : LH) fun σ1 =>
  xl ((stI σ1 rm 1 0) : LH) fun σ2 =>
  xl ((stI σ2 rm 2 0) : LH) fun σ3 =>
  xl ((stI σ3 rm 3 0) : LH) fun σ4 =>
  some σ4
theorem c_Room_clear {G : XG} {l : Launch} {d : Nat} (hd : 1 ≤ d) {rm : Nat} (hrm : rm ∈ xRooms) {σ σ' : LH} (h0 : s_Room_clear rm σ = some σ') : xM G 1 570 l y_Room_clear prog_8_method_2_code 1 none d [.ref (G.2.2.1 + rm)] σ none σ' := by
  obtain ⟨d, rfl⟩ : ∃ q, d = q + 1 := ⟨d - 1, by omega⟩
  refine x_met R_Room rfl (by decide +kernel) (Nat.le_of_ble_eq_true rfl) fun p e s m below meth c C hr hk hR => ?_
  refine x_lv (lv' := [(0, .ref (G.2.2.1 + rm))]) C [0] rfl ?_
  generalize xrm (d + 1) = R at hR ⊢
  unfold s_Room_clear at h0
  refine x_aload_n C d_Room_clear_0 0 rfl ?_
  refine x_iconst (v := 0) C d_Room_clear_1 (by decide) ?_
  refine x_putI (y := 0) C fp_Room_9 (rm_0 hrm) rfl rfl rfl d_Room_clear_2 ?_
  obtain ⟨σ1, eσ1, h0⟩ := xlet h0
  refine x_sig C eσ1 ?_
  refine x_aload_n C d_Room_clear_5 0 rfl ?_
  refine x_iconst (v := 0) C d_Room_clear_6 (by decide) ?_
  refine x_putI (y := 0) C fp_Room_15 (rm_0 hrm) rfl rfl rfl d_Room_clear_7 ?_
  obtain ⟨σ2, eσ2, h0⟩ := xlet h0
  refine x_sig C eσ2 ?_
  refine x_aload_n C d_Room_clear_10 0 rfl ?_
  refine x_iconst (v := 0) C d_Room_clear_11 (by decide) ?_
  refine x_putI (y := 0) C fp_Room_18 (rm_0 hrm) rfl rfl rfl d_Room_clear_12 ?_
  obtain ⟨σ3, eσ3, h0⟩ := xlet h0
  refine x_sig C eσ3 ?_
  refine x_aload_n C d_Room_clear_15 0 rfl ?_
  refine x_iconst (v := 0) C d_Room_clear_16 (by decide) ?_
  refine x_putI (y := 0) C fp_Room_21 (rm_0 hrm) rfl rfl rfl d_Room_clear_17 ?_
  obtain ⟨σ4, eσ4, h0⟩ := xlet h0
  refine x_sig C eσ4 ?_
  exact x_vret C hr hk h0 d_Room_clear_20
-- LostPlaces$Room.setEvening(II)V
theorem d_Room_setEvening_0 : decode prog_8_method_3_code 0 = .ok (.aload_n 0, 1) := by decide +kernel
theorem d_Room_setEvening_1 : decode prog_8_method_3_code 1 = .ok (.iload_n 1, 1) := by decide +kernel
theorem d_Room_setEvening_2 : decode prog_8_method_3_code 2 = .ok (.putfield 55, 3) := by decide +kernel
theorem d_Room_setEvening_5 : decode prog_8_method_3_code 5 = .ok (.aload_n 0, 1) := by decide +kernel
theorem d_Room_setEvening_6 : decode prog_8_method_3_code 6 = .ok (.iload_n 2, 1) := by decide +kernel
theorem d_Room_setEvening_7 : decode prog_8_method_3_code 7 = .ok (.putfield 58, 3) := by decide +kernel
theorem d_Room_setEvening_10 : decode prog_8_method_3_code 10 = .ok (.return_, 1) := by decide +kernel
def s_Room_setEvening (rm : Nat) (p0 : Int32) (p1 : Int32) (σ : LH) : Option (LH) :=
  xl ((stI σ rm 14 p0) : LH) fun σ1 =>
  xl ((stI σ1 rm 15 p1) : LH) fun σ2 =>
  some σ2
theorem c_Room_setEvening {G : XG} {l : Launch} {d : Nat} (hd : 1 ≤ d) {rm : Nat} {p0 : Int32} {p1 : Int32} (hrm : rm ∈ xRooms) {σ σ' : LH} (h0 : s_Room_setEvening rm p0 p1 σ = some σ') : xM G 1 570 l y_Room_setEvening prog_8_method_3_code 3 none d [.ref (G.2.2.1 + rm), .int p0, .int p1] σ none σ' := by
  obtain ⟨d, rfl⟩ : ∃ q, d = q + 1 := ⟨d - 1, by omega⟩
  refine x_met R_Room rfl (by decide +kernel) (Nat.le_of_ble_eq_true rfl) fun p e s m below meth c C hr hk hR => ?_
  refine x_lv (lv' := [(0, .ref (G.2.2.1 + rm)), (1, .int p0), (2, .int p1)]) C [0, 1, 2] rfl ?_
  generalize xrm (d + 1) = R at hR ⊢
  unfold s_Room_setEvening at h0
  refine x_aload_n C d_Room_setEvening_0 0 rfl ?_
  refine x_iload_n C d_Room_setEvening_1 1 rfl ?_
  refine x_putI (y := 0) C fp_Room_55 (rm_0 hrm) rfl rfl rfl d_Room_setEvening_2 ?_
  obtain ⟨σ1, eσ1, h0⟩ := xlet h0
  refine x_sig C eσ1 ?_
  refine x_aload_n C d_Room_setEvening_5 0 rfl ?_
  refine x_iload_n C d_Room_setEvening_6 2 rfl ?_
  refine x_putI (y := 0) C fp_Room_58 (rm_0 hrm) rfl rfl rfl d_Room_setEvening_7 ?_
  obtain ⟨σ2, eσ2, h0⟩ := xlet h0
  refine x_sig C eσ2 ?_
  exact x_vret C hr hk h0 d_Room_setEvening_10
-- LostPlaces$Tape.sign()I
theorem d_Tape_sign_0 : decode prog_10_method_4_code 0 = .ok (.aload_n 0, 1) := by decide +kernel
theorem d_Tape_sign_1 : decode prog_10_method_4_code 1 = .ok (.getfield 19, 3) := by decide +kernel
theorem d_Tape_sign_4 : decode prog_10_method_4_code 4 = .ok (.ifCond .lt 63, 3) := by decide +kernel
theorem d_Tape_sign_7 : decode prog_10_method_4_code 7 = .ok (.aload_n 0, 1) := by decide +kernel
theorem d_Tape_sign_8 : decode prog_10_method_4_code 8 = .ok (.getfield 19, 3) := by decide +kernel
theorem d_Tape_sign_11 : decode prog_10_method_4_code 11 = .ok (.aload_n 0, 1) := by decide +kernel
theorem d_Tape_sign_12 : decode prog_10_method_4_code 12 = .ok (.getfield 15, 3) := by decide +kernel
theorem d_Tape_sign_15 : decode prog_10_method_4_code 15 = .ok (.if_icmp .ge 52, 3) := by decide +kernel
theorem d_Tape_sign_18 : decode prog_10_method_4_code 18 = .ok (.aload_n 0, 1) := by decide +kernel
theorem d_Tape_sign_19 : decode prog_10_method_4_code 19 = .ok (.getfield 19, 3) := by decide +kernel
theorem d_Tape_sign_22 : decode prog_10_method_4_code 22 = .ok (.aload_n 0, 1) := by decide +kernel
theorem d_Tape_sign_23 : decode prog_10_method_4_code 23 = .ok (.getfield 9, 3) := by decide +kernel
theorem d_Tape_sign_26 : decode prog_10_method_4_code 26 = .ok (.arraylength, 1) := by decide +kernel
theorem d_Tape_sign_27 : decode prog_10_method_4_code 27 = .ok (.if_icmp .ge 40, 3) := by decide +kernel
theorem d_Tape_sign_30 : decode prog_10_method_4_code 30 = .ok (.aload_n 0, 1) := by decide +kernel
theorem d_Tape_sign_31 : decode prog_10_method_4_code 31 = .ok (.getfield 9, 3) := by decide +kernel
theorem d_Tape_sign_34 : decode prog_10_method_4_code 34 = .ok (.aload_n 0, 1) := by decide +kernel
theorem d_Tape_sign_35 : decode prog_10_method_4_code 35 = .ok (.getfield 19, 3) := by decide +kernel
theorem d_Tape_sign_38 : decode prog_10_method_4_code 38 = .ok (.iaload, 1) := by decide +kernel
theorem d_Tape_sign_39 : decode prog_10_method_4_code 39 = .ok (.bipush 32, 2) := by decide +kernel
theorem d_Tape_sign_41 : decode prog_10_method_4_code 41 = .ok (.if_icmp .eq 13, 3) := by decide +kernel
theorem d_Tape_sign_44 : decode prog_10_method_4_code 44 = .ok (.aload_n 0, 1) := by decide +kernel
theorem d_Tape_sign_45 : decode prog_10_method_4_code 45 = .ok (.getfield 9, 3) := by decide +kernel
theorem d_Tape_sign_48 : decode prog_10_method_4_code 48 = .ok (.aload_n 0, 1) := by decide +kernel
theorem d_Tape_sign_49 : decode prog_10_method_4_code 49 = .ok (.getfield 19, 3) := by decide +kernel
theorem d_Tape_sign_52 : decode prog_10_method_4_code 52 = .ok (.iaload, 1) := by decide +kernel
theorem d_Tape_sign_53 : decode prog_10_method_4_code 53 = .ok (.ireturn, 1) := by decide +kernel
theorem d_Tape_sign_54 : decode prog_10_method_4_code 54 = .ok (.aload_n 0, 1) := by decide +kernel
theorem d_Tape_sign_55 : decode prog_10_method_4_code 55 = .ok (.dup, 1) := by decide +kernel
theorem d_Tape_sign_56 : decode prog_10_method_4_code 56 = .ok (.getfield 19, 3) := by decide +kernel
theorem d_Tape_sign_59 : decode prog_10_method_4_code 59 = .ok (.iconst 1, 1) := by decide +kernel
theorem d_Tape_sign_60 : decode prog_10_method_4_code 60 = .ok (.iadd, 1) := by decide +kernel
theorem d_Tape_sign_61 : decode prog_10_method_4_code 61 = .ok (.putfield 19, 3) := by decide +kernel
theorem d_Tape_sign_64 : decode prog_10_method_4_code 64 = .ok (.goto (-64), 3) := by decide +kernel
theorem d_Tape_sign_67 : decode prog_10_method_4_code 67 = .ok (.iconst (-1), 1) := by decide +kernel
theorem d_Tape_sign_68 : decode prog_10_method_4_code 68 = .ok (.ireturn, 1) := by decide +kernel
def s_Tape_sign_67 (σ : LH) : Option (Int32 × LH) :=
  some ((-1), σ)
theorem b_Tape_sign_67 {G : XG} {l : Launch} {p : Program} {e : Env} {R : Room} {s : State} {m : MethodId} {args : Array Value} {below : List Frame} {meth : Method} {c : Code} (C : XC G 1 570 p s m args c prog_10_method_4_code 1 R_Tape) (hr : meth.sig.returnType = (some .int)) (hk : meth.locks = false) {d : Nat} (hd : 1 ≤ d + 1) (hR : xroom R (d + 1)) {σ' : LH} {r : Int32} {σ : LH} (h0 : s_Tape_sign_67 σ = some (r, σ')) : XJ G 1 570 p l e R s m args below meth c 1 (XQ G 1 570 below args s (some (.int r)) σ') 0 0 67 [] [] σ := by
  replace h0 := (show _ = _ from h0)
  unfold s_Tape_sign_67 at h0
  refine x_iconst (v := (-1)) C d_Tape_sign_67 (by decide) ?_
  exact x_iret C hr hk h0 d_Tape_sign_68
def s_Tape_sign_0_b (rec0 : LH → Option (Int32 × LH)) (σ : LH) : Option (Int32 × LH) :=
  if (σ.1 2 2) < 0 then (
   s_Tape_sign_67 σ)
  else (
   if (σ.1 2 1) ≤ (σ.1 2 2) then (
    s_Tape_sign_67 σ)
   else (
    if 240 ≤ (σ.1 2 2) then (
     s_Tape_sign_67 σ)
    else (
     if ib (σ.1 2 2) 240 then (
     if (σ.1 3 (Int32.toNatClampNeg (σ.1 2 2))) = 32 then (
      xl ((stI σ 2 2 ((σ.1 2 2) + 1)) : LH) fun σ6 =>
      rec0 σ6)
     else (
      if ib (σ.1 2 2) 240 then (
      some ((σ.1 3 (Int32.toNatClampNeg (σ.1 2 2))), σ)) else none)) else none)))
def s_Tape_sign_0 : Nat → LH → Option (Int32 × LH)
  | 0, _ => none
  | n + 1, σ => s_Tape_sign_0_b (s_Tape_sign_0 n) σ
theorem bb_Tape_sign_0 {G : XG} {l : Launch} {p : Program} {e : Env} {R : Room} {s : State} {m : MethodId} {args : Array Value} {below : List Frame} {meth : Method} {c : Code} (C : XC G 1 570 p s m args c prog_10_method_4_code 1 R_Tape) (hr : meth.sig.returnType = (some .int)) (hk : meth.locks = false) {d : Nat} (hd : 1 ≤ d + 1) (hR : xroom R (d + 1)) {rec0 : LH → Option (Int32 × LH)} {σ' : LH} {r : Int32} (hrec0 : ∀ (σ : LH), rec0 σ = some (r, σ') → XJ G 1 570 p l e R s m args below meth c 1 (XQ G 1 570 below args s (some (.int r)) σ') 0 0 0 [(0, .ref (G.2.2.1 + 2))] [] σ) {σ : LH} (h0 : s_Tape_sign_0_b rec0 σ = some (r, σ')) : XJ G 1 570 p l e R s m args below meth c 1 (XQ G 1 570 below args s (some (.int r)) σ') 0 0 0 [(0, .ref (G.2.2.1 + 2))] [] σ := by
  replace h0 := (show _ = _ from h0)
  unfold s_Tape_sign_0_b at h0
  refine x_aload_n C d_Tape_sign_0 0 rfl ?_
  refine x_getI (y := 0) C fg_Tape_19 k_2 rfl d_Tape_sign_1 ?_
  refine x_if_lt C 67 d_Tape_sign_4 (by decide) (fun q1 => ?_) (fun q1 => ?_)
  · replace h0 := xit q1 h0
    exact x_lv C [] rfl (b_Tape_sign_67 C hr hk hd hR h0)
  · replace h0 := xif q1 h0
    refine x_aload_n C d_Tape_sign_7 0 rfl ?_
    refine x_getI (y := 0) C fg_Tape_19 k_2 rfl d_Tape_sign_8 ?_
    refine x_aload_n C d_Tape_sign_11 0 rfl ?_
    refine x_getI (y := 0) C fg_Tape_15 k_2 rfl d_Tape_sign_12 ?_
    refine x_icmp_ge C 67 d_Tape_sign_15 (by decide) (fun q2 => ?_) (fun q2 => ?_)
    · replace h0 := xit q2 h0
      exact x_lv C [] rfl (b_Tape_sign_67 C hr hk hd hR h0)
    · replace h0 := xif q2 h0
      refine x_aload_n C d_Tape_sign_18 0 rfl ?_
      refine x_getI (y := 0) C fg_Tape_19 k_2 rfl d_Tape_sign_19 ?_
      refine x_aload_n C d_Tape_sign_22 0 rfl ?_
      refine x_getA (y := 3) C fg_Tape_9 k_2 rfl d_Tape_sign_23 ?_
      refine x_ilen (v := 240) C k_3 rfl d_Tape_sign_26 ?_
      refine x_icmp_ge C 67 d_Tape_sign_27 (by decide) (fun q3 => ?_) (fun q3 => ?_)
      · replace h0 := xit q3 h0
        exact x_lv C [] rfl (b_Tape_sign_67 C hr hk hd hR h0)
      · replace h0 := xif q3 h0
        refine x_aload_n C d_Tape_sign_30 0 rfl ?_
        refine x_getA (y := 3) C fg_Tape_9 k_2 rfl d_Tape_sign_31 ?_
        refine x_aload_n C d_Tape_sign_34 0 rfl ?_
        refine x_getI (y := 0) C fg_Tape_19 k_2 rfl d_Tape_sign_35 ?_
        obtain ⟨g4, h0⟩ := xgo h0
        refine x_iald C k_3 (ib_in g4) d_Tape_sign_38 ?_
        refine x_bipush (v := 32) C d_Tape_sign_39 (by decide) ?_
        refine x_icmp_eq C 54 d_Tape_sign_41 (by decide) (fun q5 => ?_) (fun q5 => ?_)
        · replace h0 := xit q5 h0
          refine x_aload_n C d_Tape_sign_54 0 rfl ?_
          refine x_dup C d_Tape_sign_55 rfl ?_
          refine x_getI (y := 0) C fg_Tape_19 k_2 rfl d_Tape_sign_56 ?_
          refine x_iconst (v := 1) C d_Tape_sign_59 (by decide) ?_
          refine x_iadd C d_Tape_sign_60 ?_
          refine x_putI (y := 0) C fp_Tape_19 k_2 rfl rfl rfl d_Tape_sign_61 ?_
          obtain ⟨σ6, eσ6, h0⟩ := xlet h0
          refine x_sig C eσ6 ?_
          refine x_goto C 0 d_Tape_sign_64 (by decide) ?_
          exact x_lv C [0] rfl (hrec0 _ h0)
        · replace h0 := xif q5 h0
          refine x_aload_n C d_Tape_sign_44 0 rfl ?_
          refine x_getA (y := 3) C fg_Tape_9 k_2 rfl d_Tape_sign_45 ?_
          refine x_aload_n C d_Tape_sign_48 0 rfl ?_
          refine x_getI (y := 0) C fg_Tape_19 k_2 rfl d_Tape_sign_49 ?_
          obtain ⟨g7, h0⟩ := xgo h0
          refine x_iald C k_3 (ib_in g7) d_Tape_sign_52 ?_
          exact x_iret C hr hk h0 d_Tape_sign_53
theorem b_Tape_sign_0 {G : XG} {l : Launch} {p : Program} {e : Env} {R : Room} {s : State} {m : MethodId} {args : Array Value} {below : List Frame} {meth : Method} {c : Code} (C : XC G 1 570 p s m args c prog_10_method_4_code 1 R_Tape) (hr : meth.sig.returnType = (some .int)) (hk : meth.locks = false) {d : Nat} (hd : 1 ≤ d + 1) (hR : xroom R (d + 1)) {σ' : LH} {r : Int32} : ∀ (n : Nat) (σ : LH), s_Tape_sign_0 n σ = some (r, σ') → XJ G 1 570 p l e R s m args below meth c 1 (XQ G 1 570 below args s (some (.int r)) σ') 0 0 0 [(0, .ref (G.2.2.1 + 2))] [] σ := by
  intro n
  induction n with
  | zero => intro σ h0; cases h0
  | succ n ih => intro σ h0; exact bb_Tape_sign_0 C hr hk hd hR ih h0
def s_Tape_sign (σ : LH) : Option (Int32 × LH) :=
  s_Tape_sign_0 FUEL σ
theorem c_Tape_sign {G : XG} {l : Launch} {d : Nat} (hd : 1 ≤ d) {σ σ' : LH} {r : Int32} (h0 : s_Tape_sign σ = some (r, σ')) : xM G 1 570 l y_Tape_sign prog_10_method_4_code 1 (some .int) d [.ref (G.2.2.1 + 2)] σ (some (.int r)) σ' := by
  obtain ⟨d, rfl⟩ : ∃ q, d = q + 1 := ⟨d - 1, by omega⟩
  refine x_met R_Tape rfl (by decide +kernel) (Nat.le_of_ble_eq_true rfl) fun p e s m below meth c C hr hk hR => ?_
  refine x_lv (lv' := [(0, .ref (G.2.2.1 + 2))]) C [0] rfl ?_
  generalize xrm (d + 1) = R at hR ⊢
  unfold s_Tape_sign at h0
  exact x_lv C [0] rfl (b_Tape_sign_0 C hr hk hd hR FUEL _ h0)
-- LostPlaces$Tape.letter(Ljava/lang/String;)I
theorem d_Tape_letter_0 : decode prog_10_method_11_code 0 = .ok (.aload_n 0, 1) := by decide +kernel
theorem d_Tape_letter_1 : decode prog_10_method_11_code 1 = .ok (.invokevirtual 25, 3) := by decide +kernel
theorem d_Tape_letter_4 : decode prog_10_method_11_code 4 = .ok (.istore_n 2, 1) := by decide +kernel
theorem d_Tape_letter_5 : decode prog_10_method_11_code 5 = .ok (.iload_n 2, 1) := by decide +kernel
theorem d_Tape_letter_6 : decode prog_10_method_11_code 6 = .ok (.iconst (-1), 1) := by decide +kernel
theorem d_Tape_letter_7 : decode prog_10_method_11_code 7 = .ok (.if_icmp .ne 7, 3) := by decide +kernel
theorem d_Tape_letter_10 : decode prog_10_method_11_code 10 = .ok (.iconst (-1), 1) := by decide +kernel
theorem d_Tape_letter_11 : decode prog_10_method_11_code 11 = .ok (.goto 9, 3) := by decide +kernel
theorem d_Tape_letter_14 : decode prog_10_method_11_code 14 = .ok (.aload_n 1, 1) := by decide +kernel
theorem d_Tape_letter_15 : decode prog_10_method_11_code 15 = .ok (.iload_n 2, 1) := by decide +kernel
theorem d_Tape_letter_16 : decode prog_10_method_11_code 16 = .ok (.i2c, 1) := by decide +kernel
theorem d_Tape_letter_17 : decode prog_10_method_11_code 17 = .ok (.invokevirtual 41, 3) := by decide +kernel
theorem d_Tape_letter_20 : decode prog_10_method_11_code 20 = .ok (.ireturn, 1) := by decide +kernel
def s_Tape_letter_20 (p0 : Nat) (z0 : Int32) (σ : LH) : Option (Int32 × LH) :=
  some (z0, σ)
theorem b_Tape_letter_20 {G : XG} {l : Launch} {p : Program} {e : Env} {R : Room} {s : State} {m : MethodId} {args : Array Value} {below : List Frame} {meth : Method} {c : Code} (C : XC G 1 570 p s m args c prog_10_method_11_code 3 R_Tape) (hr : meth.sig.returnType = (some .int)) (hk : meth.locks = false) {d : Nat} (hd : 9 ≤ d + 1) (hR : xroom R (d + 1)) {p0 : Nat} (hp0 : p0 < 10) {σ' : LH} {r : Int32} {z0 : Int32} {σ : LH} (h0 : s_Tape_letter_20 p0 z0 σ = some (r, σ')) : XJ G 1 570 p l e R s m args below meth c 3 (XQ G 1 570 below args s (some (.int r)) σ') 0 0 20 [] [.int z0] σ := by
  replace h0 := (show _ = _ from h0)
  unfold s_Tape_letter_20 at h0
  exact x_iret C hr hk h0 d_Tape_letter_20
def s_Tape_letter (p0 : Nat) (σ : LH) : Option (Int32 × LH) :=
  xb2 (s_Tape_sign σ) fun r2 σ3 =>
  if r2 = (-1) then (
   s_Tape_letter_20 p0 (-1) σ3)
  else (
   s_Tape_letter_20 p0 (js_ix p0 (((Int32.toUInt32 r2) % 65536).toInt32)) σ3)
theorem c_Tape_letter {G : XG} {l : Launch} {d : Nat} (hd : 9 ≤ d) {p0 : Nat} (hp0 : p0 < 10) {σ σ' : LH} {r : Int32} (h0 : s_Tape_letter p0 σ = some (r, σ')) : xM G 1 570 l y_Tape_letter prog_10_method_11_code 3 (some .int) d [.ref (G.2.2.1 + 2), .ref (G.2.2.2.1 p0)] σ (some (.int r)) σ' := by
  obtain ⟨d, rfl⟩ : ∃ q, d = q + 1 := ⟨d - 1, by omega⟩
  refine x_met R_Tape rfl (by decide +kernel) (Nat.le_of_ble_eq_true rfl) fun p e s m below meth c C hr hk hR => ?_
  refine x_lv (lv' := [(0, .ref (G.2.2.1 + 2)), (1, .ref (G.2.2.2.1 p0))]) C [0, 1] rfl ?_
  generalize xrm (d + 1) = R at hR ⊢
  unfold s_Tape_letter at h0
  refine x_aload_n C d_Tape_letter_0 0 rfl ?_
  obtain ⟨r2, σ3, k1, h0⟩ := xbind2 h0
  refine x_callVi C hR (c_Tape_sign (d := d) (by omega) k1) cw_Tape_25 k_2 rfl rfl rfl (Nat.le_of_ble_eq_true rfl) ⟨Nat.zero_le _, Nat.zero_le _⟩ d_Tape_letter_1 ?_
  refine x_istore_n (lv' := [(2, .int r2), (0, .ref (G.2.2.1 + 2)), (1, .ref (G.2.2.2.1 p0))]) C d_Tape_letter_4 rfl (by decide) rfl ?_
  refine x_iload_n C d_Tape_letter_5 0 rfl ?_
  refine x_iconst (v := (-1)) C d_Tape_letter_6 (by decide) ?_
  refine x_icmp_ne C 14 d_Tape_letter_7 (by decide) (fun q4 => ?_) (fun q4 => ?_)
  · replace h0 := xif q4 h0
    refine x_aload_n C d_Tape_letter_14 2 rfl ?_
    refine x_iload_n C d_Tape_letter_15 0 rfl ?_
    refine x_i2c C d_Tape_letter_16 ?_
    refine x_sIx C (xroomS hR (by omega)) hp0 w_693 (Nat.le_of_ble_eq_true rfl) ⟨Nat.zero_le _, Nat.zero_le _⟩ d_Tape_letter_17 ?_
    exact x_lv C [] rfl (b_Tape_letter_20 C hr hk hd hR hp0 h0)
  · replace h0 := xit q4 h0
    refine x_iconst (v := (-1)) C d_Tape_letter_10 (by decide) ?_
    refine x_goto C 20 d_Tape_letter_11 (by decide) ?_
    exact x_lv C [] rfl (b_Tape_letter_20 C hr hk hd hR hp0 h0)
-- LostPlaces$RoomReader.isFull(LLostPlaces$Room;I)Z
theorem d_RoomReader_isFull_0 : decode prog_9_method_4_code 0 = .ok (.iload_n 1, 1) := by decide +kernel
theorem d_RoomReader_isFull_1 : decode prog_9_method_4_code 1 = .ok (.tableswitch 72 0 2 #[27, 42, 57], 27) := by decide +kernel
theorem d_RoomReader_isFull_28 : decode prog_9_method_4_code 28 = .ok (.aload_n 0, 1) := by decide +kernel
theorem d_RoomReader_isFull_29 : decode prog_9_method_4_code 29 = .ok (.getfield 82, 3) := by decide +kernel
theorem d_RoomReader_isFull_32 : decode prog_9_method_4_code 32 = .ok (.bipush 8, 2) := by decide +kernel
theorem d_RoomReader_isFull_34 : decode prog_9_method_4_code 34 = .ok (.if_icmp .lt 7, 3) := by decide +kernel
theorem d_RoomReader_isFull_37 : decode prog_9_method_4_code 37 = .ok (.iconst 1, 1) := by decide +kernel
theorem d_RoomReader_isFull_38 : decode prog_9_method_4_code 38 = .ok (.goto 4, 3) := by decide +kernel
theorem d_RoomReader_isFull_41 : decode prog_9_method_4_code 41 = .ok (.iconst 0, 1) := by decide +kernel
theorem d_RoomReader_isFull_42 : decode prog_9_method_4_code 42 = .ok (.ireturn, 1) := by decide +kernel
theorem d_RoomReader_isFull_43 : decode prog_9_method_4_code 43 = .ok (.aload_n 0, 1) := by decide +kernel
theorem d_RoomReader_isFull_44 : decode prog_9_method_4_code 44 = .ok (.getfield 85, 3) := by decide +kernel
theorem d_RoomReader_isFull_47 : decode prog_9_method_4_code 47 = .ok (.bipush 8, 2) := by decide +kernel
theorem d_RoomReader_isFull_49 : decode prog_9_method_4_code 49 = .ok (.if_icmp .lt 7, 3) := by decide +kernel
theorem d_RoomReader_isFull_52 : decode prog_9_method_4_code 52 = .ok (.iconst 1, 1) := by decide +kernel
theorem d_RoomReader_isFull_53 : decode prog_9_method_4_code 53 = .ok (.goto 4, 3) := by decide +kernel
theorem d_RoomReader_isFull_56 : decode prog_9_method_4_code 56 = .ok (.iconst 0, 1) := by decide +kernel
theorem d_RoomReader_isFull_57 : decode prog_9_method_4_code 57 = .ok (.ireturn, 1) := by decide +kernel
theorem d_RoomReader_isFull_58 : decode prog_9_method_4_code 58 = .ok (.aload_n 0, 1) := by decide +kernel
theorem d_RoomReader_isFull_59 : decode prog_9_method_4_code 59 = .ok (.getfield 88, 3) := by decide +kernel
theorem d_RoomReader_isFull_62 : decode prog_9_method_4_code 62 = .ok (.bipush 10, 2) := by decide +kernel
theorem d_RoomReader_isFull_64 : decode prog_9_method_4_code 64 = .ok (.if_icmp .lt 7, 3) := by decide +kernel
theorem d_RoomReader_isFull_67 : decode prog_9_method_4_code 67 = .ok (.iconst 1, 1) := by decide +kernel
theorem d_RoomReader_isFull_68 : decode prog_9_method_4_code 68 = .ok (.goto 4, 3) := by decide +kernel
theorem d_RoomReader_isFull_71 : decode prog_9_method_4_code 71 = .ok (.iconst 0, 1) := by decide +kernel
theorem d_RoomReader_isFull_72 : decode prog_9_method_4_code 72 = .ok (.ireturn, 1) := by decide +kernel
theorem d_RoomReader_isFull_73 : decode prog_9_method_4_code 73 = .ok (.aload_n 0, 1) := by decide +kernel
theorem d_RoomReader_isFull_74 : decode prog_9_method_4_code 74 = .ok (.getfield 91, 3) := by decide +kernel
theorem d_RoomReader_isFull_77 : decode prog_9_method_4_code 77 = .ok (.iconst 1, 1) := by decide +kernel
theorem d_RoomReader_isFull_78 : decode prog_9_method_4_code 78 = .ok (.if_icmp .lt 7, 3) := by decide +kernel
theorem d_RoomReader_isFull_81 : decode prog_9_method_4_code 81 = .ok (.iconst 1, 1) := by decide +kernel
theorem d_RoomReader_isFull_82 : decode prog_9_method_4_code 82 = .ok (.goto 4, 3) := by decide +kernel
theorem d_RoomReader_isFull_85 : decode prog_9_method_4_code 85 = .ok (.iconst 0, 1) := by decide +kernel
theorem d_RoomReader_isFull_86 : decode prog_9_method_4_code 86 = .ok (.ireturn, 1) := by decide +kernel
def s_RoomReader_isFull_42 (p0 : Nat) (p1 : Int32) (z0 : Int32) (σ : LH) : Option (Int32 × LH) :=
  if zb z0 then (
  some (z0, σ)) else none
theorem b_RoomReader_isFull_42 {G : XG} {l : Launch} {p : Program} {e : Env} {R : Room} {s : State} {m : MethodId} {args : Array Value} {below : List Frame} {meth : Method} {c : Code} (C : XC G 1 570 p s m args c prog_9_method_4_code 2 R_RoomReader) (hr : meth.sig.returnType = (some .boolean)) (hk : meth.locks = false) {d : Nat} (hd : 1 ≤ d + 1) (hR : xroom R (d + 1)) {p0 : Nat} {p1 : Int32} (hp0 : p0 ∈ xRooms) {σ' : LH} {r : Int32} {z0 : Int32} {σ : LH} (h0 : s_RoomReader_isFull_42 p0 p1 z0 σ = some (r, σ')) : XJ G 1 570 p l e R s m args below meth c 2 (XQ G 1 570 below args s (some (.int r)) σ') 0 0 42 [] [.int z0] σ := by
  replace h0 := (show _ = _ from h0)
  unfold s_RoomReader_isFull_42 at h0
  obtain ⟨g2, h0⟩ := xgo h0
  exact x_zret C hr hk g2 h0 d_RoomReader_isFull_42
def s_RoomReader_isFull_57 (p0 : Nat) (p1 : Int32) (z0 : Int32) (σ : LH) : Option (Int32 × LH) :=
  if zb z0 then (
  some (z0, σ)) else none
theorem b_RoomReader_isFull_57 {G : XG} {l : Launch} {p : Program} {e : Env} {R : Room} {s : State} {m : MethodId} {args : Array Value} {below : List Frame} {meth : Method} {c : Code} (C : XC G 1 570 p s m args c prog_9_method_4_code 2 R_RoomReader) (hr : meth.sig.returnType = (some .boolean)) (hk : meth.locks = false) {d : Nat} (hd : 1 ≤ d + 1) (hR : xroom R (d + 1)) {p0 : Nat} {p1 : Int32} (hp0 : p0 ∈ xRooms) {σ' : LH} {r : Int32} {z0 : Int32} {σ : LH} (h0 : s_RoomReader_isFull_57 p0 p1 z0 σ = some (r, σ')) : XJ G 1 570 p l e R s m args below meth c 2 (XQ G 1 570 below args s (some (.int r)) σ') 0 0 57 [] [.int z0] σ := by
  replace h0 := (show _ = _ from h0)
  unfold s_RoomReader_isFull_57 at h0
  obtain ⟨g4, h0⟩ := xgo h0
  exact x_zret C hr hk g4 h0 d_RoomReader_isFull_57
def s_RoomReader_isFull_72 (p0 : Nat) (p1 : Int32) (z0 : Int32) (σ : LH) : Option (Int32 × LH) :=
  if zb z0 then (
  some (z0, σ)) else none
theorem b_RoomReader_isFull_72 {G : XG} {l : Launch} {p : Program} {e : Env} {R : Room} {s : State} {m : MethodId} {args : Array Value} {below : List Frame} {meth : Method} {c : Code} (C : XC G 1 570 p s m args c prog_9_method_4_code 2 R_RoomReader) (hr : meth.sig.returnType = (some .boolean)) (hk : meth.locks = false) {d : Nat} (hd : 1 ≤ d + 1) (hR : xroom R (d + 1)) {p0 : Nat} {p1 : Int32} (hp0 : p0 ∈ xRooms) {σ' : LH} {r : Int32} {z0 : Int32} {σ : LH} (h0 : s_RoomReader_isFull_72 p0 p1 z0 σ = some (r, σ')) : XJ G 1 570 p l e R s m args below meth c 2 (XQ G 1 570 below args s (some (.int r)) σ') 0 0 72 [] [.int z0] σ := by
  replace h0 := (show _ = _ from h0)
  unfold s_RoomReader_isFull_72 at h0
  obtain ⟨g6, h0⟩ := xgo h0
  exact x_zret C hr hk g6 h0 d_RoomReader_isFull_72
def s_RoomReader_isFull_86 (p0 : Nat) (p1 : Int32) (z0 : Int32) (σ : LH) : Option (Int32 × LH) :=
  if zb z0 then (
  some (z0, σ)) else none
theorem b_RoomReader_isFull_86 {G : XG} {l : Launch} {p : Program} {e : Env} {R : Room} {s : State} {m : MethodId} {args : Array Value} {below : List Frame} {meth : Method} {c : Code} (C : XC G 1 570 p s m args c prog_9_method_4_code 2 R_RoomReader) (hr : meth.sig.returnType = (some .boolean)) (hk : meth.locks = false) {d : Nat} (hd : 1 ≤ d + 1) (hR : xroom R (d + 1)) {p0 : Nat} {p1 : Int32} (hp0 : p0 ∈ xRooms) {σ' : LH} {r : Int32} {z0 : Int32} {σ : LH} (h0 : s_RoomReader_isFull_86 p0 p1 z0 σ = some (r, σ')) : XJ G 1 570 p l e R s m args below meth c 2 (XQ G 1 570 below args s (some (.int r)) σ') 0 0 86 [] [.int z0] σ := by
  replace h0 := (show _ = _ from h0)
  unfold s_RoomReader_isFull_86 at h0
  obtain ⟨g8, h0⟩ := xgo h0
  exact x_zret C hr hk g8 h0 d_RoomReader_isFull_86
def s_RoomReader_isFull (p0 : Nat) (p1 : Int32) (σ : LH) : Option (Int32 × LH) :=
  if p1.toInt = 0 then (
   if (σ.1 p0 0) < 8 then (
    s_RoomReader_isFull_42 p0 p1 0 σ)
   else (
    s_RoomReader_isFull_42 p0 p1 1 σ))
  else (
  if p1.toInt = 1 then (
   if (σ.1 p0 1) < 8 then (
    s_RoomReader_isFull_57 p0 p1 0 σ)
   else (
    s_RoomReader_isFull_57 p0 p1 1 σ))
  else (
  if p1.toInt = 2 then (
   if (σ.1 p0 2) < 10 then (
    s_RoomReader_isFull_72 p0 p1 0 σ)
   else (
    s_RoomReader_isFull_72 p0 p1 1 σ))
  else (
   if (σ.1 p0 3) < 1 then (
    s_RoomReader_isFull_86 p0 p1 0 σ)
   else (
    s_RoomReader_isFull_86 p0 p1 1 σ))))
theorem c_RoomReader_isFull {G : XG} {l : Launch} {d : Nat} (hd : 1 ≤ d) {p0 : Nat} {p1 : Int32} (hp0 : p0 ∈ xRooms) {σ σ' : LH} {r : Int32} (h0 : s_RoomReader_isFull p0 p1 σ = some (r, σ')) : xM G 1 570 l y_RoomReader_isFull prog_9_method_4_code 2 (some .boolean) d [.ref (G.2.2.1 + p0), .int p1] σ (some (.int r)) σ' := by
  obtain ⟨d, rfl⟩ : ∃ q, d = q + 1 := ⟨d - 1, by omega⟩
  refine x_met R_RoomReader rfl (by decide +kernel) (Nat.le_of_ble_eq_true rfl) fun p e s m below meth c C hr hk hR => ?_
  refine x_lv (lv' := [(0, .ref (G.2.2.1 + p0)), (1, .int p1)]) C [0, 1] rfl ?_
  generalize xrm (d + 1) = R at hR ⊢
  unfold s_RoomReader_isFull at h0
  refine x_iload_n C d_RoomReader_isFull_0 1 rfl ?_
  by_cases q0 : p1.toInt = 0
  · replace h0 := xit q0 h0
    refine x_tableIn C 28 d_RoomReader_isFull_1 (by omega) (by omega) (by rw [q0]; rfl) (by decide) ?_
    refine x_aload_n C d_RoomReader_isFull_28 0 rfl ?_
    refine x_getI (y := 0) C fg_RoomReader_82 (rm_0 hp0) rfl d_RoomReader_isFull_29 ?_
    refine x_bipush (v := 8) C d_RoomReader_isFull_32 (by decide) ?_
    refine x_icmp_lt C 41 d_RoomReader_isFull_34 (by decide) (fun q1 => ?_) (fun q1 => ?_)
    · replace h0 := xit q1 h0
      refine x_iconst (v := 0) C d_RoomReader_isFull_41 (by decide) ?_
      exact x_lv C [] rfl (b_RoomReader_isFull_42 C hr hk hd hR hp0 h0)
    · replace h0 := xif q1 h0
      refine x_iconst (v := 1) C d_RoomReader_isFull_37 (by decide) ?_
      refine x_goto C 42 d_RoomReader_isFull_38 (by decide) ?_
      exact x_lv C [] rfl (b_RoomReader_isFull_42 C hr hk hd hR hp0 h0)
  replace h0 := xif q0 h0
  by_cases q1 : p1.toInt = 1
  · replace h0 := xit q1 h0
    refine x_tableIn C 43 d_RoomReader_isFull_1 (by omega) (by omega) (by rw [q1]; rfl) (by decide) ?_
    refine x_aload_n C d_RoomReader_isFull_43 0 rfl ?_
    refine x_getI (y := 0) C fg_RoomReader_85 (rm_0 hp0) rfl d_RoomReader_isFull_44 ?_
    refine x_bipush (v := 8) C d_RoomReader_isFull_47 (by decide) ?_
    refine x_icmp_lt C 56 d_RoomReader_isFull_49 (by decide) (fun q3 => ?_) (fun q3 => ?_)
    · replace h0 := xit q3 h0
      refine x_iconst (v := 0) C d_RoomReader_isFull_56 (by decide) ?_
      exact x_lv C [] rfl (b_RoomReader_isFull_57 C hr hk hd hR hp0 h0)
    · replace h0 := xif q3 h0
      refine x_iconst (v := 1) C d_RoomReader_isFull_52 (by decide) ?_
      refine x_goto C 57 d_RoomReader_isFull_53 (by decide) ?_
      exact x_lv C [] rfl (b_RoomReader_isFull_57 C hr hk hd hR hp0 h0)
  replace h0 := xif q1 h0
  by_cases q2 : p1.toInt = 2
  · replace h0 := xit q2 h0
    refine x_tableIn C 58 d_RoomReader_isFull_1 (by omega) (by omega) (by rw [q2]; rfl) (by decide) ?_
    refine x_aload_n C d_RoomReader_isFull_58 0 rfl ?_
    refine x_getI (y := 0) C fg_RoomReader_88 (rm_0 hp0) rfl d_RoomReader_isFull_59 ?_
    refine x_bipush (v := 10) C d_RoomReader_isFull_62 (by decide) ?_
    refine x_icmp_lt C 71 d_RoomReader_isFull_64 (by decide) (fun q5 => ?_) (fun q5 => ?_)
    · replace h0 := xit q5 h0
      refine x_iconst (v := 0) C d_RoomReader_isFull_71 (by decide) ?_
      exact x_lv C [] rfl (b_RoomReader_isFull_72 C hr hk hd hR hp0 h0)
    · replace h0 := xif q5 h0
      refine x_iconst (v := 1) C d_RoomReader_isFull_67 (by decide) ?_
      refine x_goto C 72 d_RoomReader_isFull_68 (by decide) ?_
      exact x_lv C [] rfl (b_RoomReader_isFull_72 C hr hk hd hR hp0 h0)
  replace h0 := xif q2 h0
  refine x_tableOut C 73 d_RoomReader_isFull_1 (by omega) (by decide) ?_
  refine x_aload_n C d_RoomReader_isFull_73 0 rfl ?_
  refine x_getI (y := 0) C fg_RoomReader_91 (rm_0 hp0) rfl d_RoomReader_isFull_74 ?_
  refine x_iconst (v := 1) C d_RoomReader_isFull_77 (by decide) ?_
  refine x_icmp_lt C 85 d_RoomReader_isFull_78 (by decide) (fun q7 => ?_) (fun q7 => ?_)
  · replace h0 := xit q7 h0
    refine x_iconst (v := 0) C d_RoomReader_isFull_85 (by decide) ?_
    exact x_lv C [] rfl (b_RoomReader_isFull_86 C hr hk hd hR hp0 h0)
  · replace h0 := xif q7 h0
    refine x_iconst (v := 1) C d_RoomReader_isFull_81 (by decide) ?_
    refine x_goto C 86 d_RoomReader_isFull_82 (by decide) ?_
    exact x_lv C [] rfl (b_RoomReader_isFull_86 C hr hk hd hR hp0 h0)
-- LostPlaces$Tape.fail(I)V
theorem d_Tape_fail_0 : decode prog_10_method_7_code 0 = .ok (.aload_n 0, 1) := by decide +kernel
theorem d_Tape_fail_1 : decode prog_10_method_7_code 1 = .ok (.getfield 22, 3) := by decide +kernel
theorem d_Tape_fail_4 : decode prog_10_method_7_code 4 = .ok (.iconst (-1), 1) := by decide +kernel
theorem d_Tape_fail_5 : decode prog_10_method_7_code 5 = .ok (.if_icmp .ne 8, 3) := by decide +kernel
theorem d_Tape_fail_8 : decode prog_10_method_7_code 8 = .ok (.aload_n 0, 1) := by decide +kernel
theorem d_Tape_fail_9 : decode prog_10_method_7_code 9 = .ok (.iload_n 1, 1) := by decide +kernel
theorem d_Tape_fail_10 : decode prog_10_method_7_code 10 = .ok (.putfield 22, 3) := by decide +kernel
theorem d_Tape_fail_13 : decode prog_10_method_7_code 13 = .ok (.return_, 1) := by decide +kernel
def s_Tape_fail_13 (p0 : Int32) (σ : LH) : Option (LH) :=
  some σ
theorem b_Tape_fail_13 {G : XG} {l : Launch} {p : Program} {e : Env} {R : Room} {s : State} {m : MethodId} {args : Array Value} {below : List Frame} {meth : Method} {c : Code} (C : XC G 1 570 p s m args c prog_10_method_7_code 2 R_Tape) (hr : meth.sig.returnType = none) (hk : meth.locks = false) {d : Nat} (hd : 1 ≤ d + 1) (hR : xroom R (d + 1)) {p0 : Int32} {σ' : LH} {σ : LH} (h0 : s_Tape_fail_13 p0 σ = some σ') : XJ G 1 570 p l e R s m args below meth c 2 (XQ G 1 570 below args s none σ') 0 0 13 [] [] σ := by
  replace h0 := (show _ = _ from h0)
  unfold s_Tape_fail_13 at h0
  exact x_vret C hr hk h0 d_Tape_fail_13
def s_Tape_fail (p0 : Int32) (σ : LH) : Option (LH) :=
  if (σ.1 2 3) = (-1) then (
   xl ((stI σ 2 3 p0) : LH) fun σ2 =>
   s_Tape_fail_13 p0 σ2)
  else (
   s_Tape_fail_13 p0 σ)
theorem c_Tape_fail {G : XG} {l : Launch} {d : Nat} (hd : 1 ≤ d) {p0 : Int32} {σ σ' : LH} (h0 : s_Tape_fail p0 σ = some σ') : xM G 1 570 l y_Tape_fail prog_10_method_7_code 2 none d [.ref (G.2.2.1 + 2), .int p0] σ none σ' := by
  obtain ⟨d, rfl⟩ : ∃ q, d = q + 1 := ⟨d - 1, by omega⟩
  refine x_met R_Tape rfl (by decide +kernel) (Nat.le_of_ble_eq_true rfl) fun p e s m below meth c C hr hk hR => ?_
  refine x_lv (lv' := [(0, .ref (G.2.2.1 + 2)), (1, .int p0)]) C [0, 1] rfl ?_
  generalize xrm (d + 1) = R at hR ⊢
  unfold s_Tape_fail at h0
  refine x_aload_n C d_Tape_fail_0 0 rfl ?_
  refine x_getI (y := 0) C fg_Tape_22 k_2 rfl d_Tape_fail_1 ?_
  refine x_iconst (v := (-1)) C d_Tape_fail_4 (by decide) ?_
  refine x_icmp_ne C 13 d_Tape_fail_5 (by decide) (fun q1 => ?_) (fun q1 => ?_)
  · replace h0 := xif q1 h0
    exact x_lv C [] rfl (b_Tape_fail_13 C hr hk hd hR h0)
  · replace h0 := xit q1 h0
    refine x_aload_n C d_Tape_fail_8 0 rfl ?_
    refine x_iload_n C d_Tape_fail_9 1 rfl ?_
    refine x_putI (y := 0) C fp_Tape_22 k_2 rfl rfl rfl d_Tape_fail_10 ?_
    obtain ⟨σ2, eσ2, h0⟩ := xlet h0
    refine x_sig C eσ2 ?_
    exact x_lv C [] rfl (b_Tape_fail_13 C hr hk hd hR h0)
-- LostPlaces$Tape.isFine()Z
theorem d_Tape_isFine_0 : decode prog_10_method_6_code 0 = .ok (.aload_n 0, 1) := by decide +kernel
theorem d_Tape_isFine_1 : decode prog_10_method_6_code 1 = .ok (.getfield 22, 3) := by decide +kernel
theorem d_Tape_isFine_4 : decode prog_10_method_6_code 4 = .ok (.iconst (-1), 1) := by decide +kernel
theorem d_Tape_isFine_5 : decode prog_10_method_6_code 5 = .ok (.if_icmp .ne 7, 3) := by decide +kernel
theorem d_Tape_isFine_8 : decode prog_10_method_6_code 8 = .ok (.iconst 1, 1) := by decide +kernel
theorem d_Tape_isFine_9 : decode prog_10_method_6_code 9 = .ok (.goto 4, 3) := by decide +kernel
theorem d_Tape_isFine_12 : decode prog_10_method_6_code 12 = .ok (.iconst 0, 1) := by decide +kernel
theorem d_Tape_isFine_13 : decode prog_10_method_6_code 13 = .ok (.ireturn, 1) := by decide +kernel
def s_Tape_isFine_13 (z0 : Int32) (σ : LH) : Option (Int32 × LH) :=
  if zb z0 then (
  some (z0, σ)) else none
theorem b_Tape_isFine_13 {G : XG} {l : Launch} {p : Program} {e : Env} {R : Room} {s : State} {m : MethodId} {args : Array Value} {below : List Frame} {meth : Method} {c : Code} (C : XC G 1 570 p s m args c prog_10_method_6_code 1 R_Tape) (hr : meth.sig.returnType = (some .boolean)) (hk : meth.locks = false) {d : Nat} (hd : 1 ≤ d + 1) (hR : xroom R (d + 1)) {σ' : LH} {r : Int32} {z0 : Int32} {σ : LH} (h0 : s_Tape_isFine_13 z0 σ = some (r, σ')) : XJ G 1 570 p l e R s m args below meth c 1 (XQ G 1 570 below args s (some (.int r)) σ') 0 0 13 [] [.int z0] σ := by
  replace h0 := (show _ = _ from h0)
  unfold s_Tape_isFine_13 at h0
  obtain ⟨g2, h0⟩ := xgo h0
  exact x_zret C hr hk g2 h0 d_Tape_isFine_13
def s_Tape_isFine (σ : LH) : Option (Int32 × LH) :=
  if (σ.1 2 3) = (-1) then (
   s_Tape_isFine_13 1 σ)
  else (
   s_Tape_isFine_13 0 σ)
theorem c_Tape_isFine {G : XG} {l : Launch} {d : Nat} (hd : 1 ≤ d) {σ σ' : LH} {r : Int32} (h0 : s_Tape_isFine σ = some (r, σ')) : xM G 1 570 l y_Tape_isFine prog_10_method_6_code 1 (some .boolean) d [.ref (G.2.2.1 + 2)] σ (some (.int r)) σ' := by
  obtain ⟨d, rfl⟩ : ∃ q, d = q + 1 := ⟨d - 1, by omega⟩
  refine x_met R_Tape rfl (by decide +kernel) (Nat.le_of_ble_eq_true rfl) fun p e s m below meth c C hr hk hR => ?_
  refine x_lv (lv' := [(0, .ref (G.2.2.1 + 2))]) C [0] rfl ?_
  generalize xrm (d + 1) = R at hR ⊢
  unfold s_Tape_isFine at h0
  refine x_aload_n C d_Tape_isFine_0 0 rfl ?_
  refine x_getI (y := 0) C fg_Tape_22 k_2 rfl d_Tape_isFine_1 ?_
  refine x_iconst (v := (-1)) C d_Tape_isFine_4 (by decide) ?_
  refine x_icmp_ne C 12 d_Tape_isFine_5 (by decide) (fun q1 => ?_) (fun q1 => ?_)
  · replace h0 := xif q1 h0
    refine x_iconst (v := 0) C d_Tape_isFine_12 (by decide) ?_
    exact x_lv C [] rfl (b_Tape_isFine_13 C hr hk hd hR h0)
  · replace h0 := xit q1 h0
    refine x_iconst (v := 1) C d_Tape_isFine_8 (by decide) ?_
    refine x_goto C 13 d_Tape_isFine_9 (by decide) ?_
    exact x_lv C [] rfl (b_Tape_isFine_13 C hr hk hd hR h0)
-- LostPlaces$RoomReader.isClauseOver()Z
theorem d_RoomReader_isClauseOver_0 : decode prog_9_method_7_code 0 = .ok (.aload_n 0, 1) := by decide +kernel
theorem d_RoomReader_isClauseOver_1 : decode prog_9_method_7_code 1 = .ok (.getfield 15, 3) := by decide +kernel
theorem d_RoomReader_isClauseOver_4 : decode prog_9_method_7_code 4 = .ok (.invokevirtual 40, 3) := by decide +kernel
theorem d_RoomReader_isClauseOver_7 : decode prog_9_method_7_code 7 = .ok (.ifCond .eq 26, 3) := by decide +kernel
theorem d_RoomReader_isClauseOver_10 : decode prog_9_method_7_code 10 = .ok (.aload_n 0, 1) := by decide +kernel
theorem d_RoomReader_isClauseOver_11 : decode prog_9_method_7_code 11 = .ok (.getfield 15, 3) := by decide +kernel
theorem d_RoomReader_isClauseOver_14 : decode prog_9_method_7_code 14 = .ok (.invokevirtual 119, 3) := by decide +kernel
theorem d_RoomReader_isClauseOver_17 : decode prog_9_method_7_code 17 = .ok (.iconst (-1), 1) := by decide +kernel
theorem d_RoomReader_isClauseOver_18 : decode prog_9_method_7_code 18 = .ok (.if_icmp .eq 15, 3) := by decide +kernel
theorem d_RoomReader_isClauseOver_21 : decode prog_9_method_7_code 21 = .ok (.aload_n 0, 1) := by decide +kernel
theorem d_RoomReader_isClauseOver_22 : decode prog_9_method_7_code 22 = .ok (.getfield 15, 3) := by decide +kernel
theorem d_RoomReader_isClauseOver_25 : decode prog_9_method_7_code 25 = .ok (.invokevirtual 119, 3) := by decide +kernel
theorem d_RoomReader_isClauseOver_28 : decode prog_9_method_7_code 28 = .ok (.bipush 59, 2) := by decide +kernel
theorem d_RoomReader_isClauseOver_30 : decode prog_9_method_7_code 30 = .ok (.if_icmp .ne 7, 3) := by decide +kernel
theorem d_RoomReader_isClauseOver_33 : decode prog_9_method_7_code 33 = .ok (.iconst 1, 1) := by decide +kernel
theorem d_RoomReader_isClauseOver_34 : decode prog_9_method_7_code 34 = .ok (.goto 4, 3) := by decide +kernel
theorem d_RoomReader_isClauseOver_37 : decode prog_9_method_7_code 37 = .ok (.iconst 0, 1) := by decide +kernel
theorem d_RoomReader_isClauseOver_38 : decode prog_9_method_7_code 38 = .ok (.ireturn, 1) := by decide +kernel
def s_RoomReader_isClauseOver_38 (z0 : Int32) (σ : LH) : Option (Int32 × LH) :=
  if zb z0 then (
  some (z0, σ)) else none
theorem b_RoomReader_isClauseOver_38 {G : XG} {l : Launch} {p : Program} {e : Env} {R : Room} {s : State} {m : MethodId} {args : Array Value} {below : List Frame} {meth : Method} {c : Code} (C : XC G 1 570 p s m args c prog_9_method_7_code 1 R_RoomReader) (hr : meth.sig.returnType = (some .boolean)) (hk : meth.locks = false) {d : Nat} (hd : 2 ≤ d + 1) (hR : xroom R (d + 1)) {σ' : LH} {r : Int32} {z0 : Int32} {σ : LH} (h0 : s_RoomReader_isClauseOver_38 z0 σ = some (r, σ')) : XJ G 1 570 p l e R s m args below meth c 1 (XQ G 1 570 below args s (some (.int r)) σ') 0 0 38 [] [.int z0] σ := by
  replace h0 := (show _ = _ from h0)
  unfold s_RoomReader_isClauseOver_38 at h0
  obtain ⟨g5, h0⟩ := xgo h0
  exact x_zret C hr hk g5 h0 d_RoomReader_isClauseOver_38
def s_RoomReader_isClauseOver_33 (σ : LH) : Option (Int32 × LH) :=
  s_RoomReader_isClauseOver_38 1 σ
theorem b_RoomReader_isClauseOver_33 {G : XG} {l : Launch} {p : Program} {e : Env} {R : Room} {s : State} {m : MethodId} {args : Array Value} {below : List Frame} {meth : Method} {c : Code} (C : XC G 1 570 p s m args c prog_9_method_7_code 1 R_RoomReader) (hr : meth.sig.returnType = (some .boolean)) (hk : meth.locks = false) {d : Nat} (hd : 2 ≤ d + 1) (hR : xroom R (d + 1)) {σ' : LH} {r : Int32} {σ : LH} (h0 : s_RoomReader_isClauseOver_33 σ = some (r, σ')) : XJ G 1 570 p l e R s m args below meth c 1 (XQ G 1 570 below args s (some (.int r)) σ') 0 0 33 [] [] σ := by
  replace h0 := (show _ = _ from h0)
  unfold s_RoomReader_isClauseOver_33 at h0
  refine x_iconst (v := 1) C d_RoomReader_isClauseOver_33 (by decide) ?_
  refine x_goto C 38 d_RoomReader_isClauseOver_34 (by decide) ?_
  exact x_lv C [] rfl (b_RoomReader_isClauseOver_38 C hr hk hd hR h0)
def s_RoomReader_isClauseOver (σ : LH) : Option (Int32 × LH) :=
  xb2 (s_Tape_isFine σ) fun r2 σ3 =>
  if r2 = 0 then (
   s_RoomReader_isClauseOver_33 σ3)
  else (
   xb2 (s_Tape_sign σ3) fun r7 σ8 =>
   if r7 = (-1) then (
    s_RoomReader_isClauseOver_33 σ8)
   else (
    xb2 (s_Tape_sign σ8) fun r11 σ12 =>
    if r11 = 59 then (
     s_RoomReader_isClauseOver_33 σ12)
    else (
     s_RoomReader_isClauseOver_38 0 σ12)))
theorem c_RoomReader_isClauseOver {G : XG} {l : Launch} {d : Nat} (hd : 2 ≤ d) {σ σ' : LH} {r : Int32} (h0 : s_RoomReader_isClauseOver σ = some (r, σ')) : xM G 1 570 l y_RoomReader_isClauseOver prog_9_method_7_code 1 (some .boolean) d [.ref (G.2.2.1 + 26)] σ (some (.int r)) σ' := by
  obtain ⟨d, rfl⟩ : ∃ q, d = q + 1 := ⟨d - 1, by omega⟩
  refine x_met R_RoomReader rfl (by decide +kernel) (Nat.le_of_ble_eq_true rfl) fun p e s m below meth c C hr hk hR => ?_
  refine x_lv (lv' := [(0, .ref (G.2.2.1 + 26))]) C [0] rfl ?_
  generalize xrm (d + 1) = R at hR ⊢
  unfold s_RoomReader_isClauseOver at h0
  refine x_aload_n C d_RoomReader_isClauseOver_0 0 rfl ?_
  refine x_getA (y := 2) C fg_RoomReader_15 k_26 rfl d_RoomReader_isClauseOver_1 ?_
  obtain ⟨r2, σ3, k1, h0⟩ := xbind2 h0
  refine x_callVi C hR (c_Tape_isFine (d := d) (by omega) k1) cw_RoomReader_40 k_2 rfl rfl rfl (Nat.le_of_ble_eq_true rfl) ⟨Nat.zero_le _, Nat.zero_le _⟩ d_RoomReader_isClauseOver_4 ?_
  refine x_if_eq C 33 d_RoomReader_isClauseOver_7 (by decide) (fun q4 => ?_) (fun q4 => ?_)
  · replace h0 := xit q4 h0
    exact x_lv C [] rfl (b_RoomReader_isClauseOver_33 C hr hk hd hR h0)
  · replace h0 := xif q4 h0
    refine x_aload_n C d_RoomReader_isClauseOver_10 0 rfl ?_
    refine x_getA (y := 2) C fg_RoomReader_15 k_26 rfl d_RoomReader_isClauseOver_11 ?_
    obtain ⟨r7, σ8, k6, h0⟩ := xbind2 h0
    refine x_callVi C hR (c_Tape_sign (d := d) (by omega) k6) cw_RoomReader_119 k_2 rfl rfl rfl (Nat.le_of_ble_eq_true rfl) ⟨Nat.zero_le _, Nat.zero_le _⟩ d_RoomReader_isClauseOver_14 ?_
    refine x_iconst (v := (-1)) C d_RoomReader_isClauseOver_17 (by decide) ?_
    refine x_icmp_eq C 33 d_RoomReader_isClauseOver_18 (by decide) (fun q9 => ?_) (fun q9 => ?_)
    · replace h0 := xit q9 h0
      exact x_lv C [] rfl (b_RoomReader_isClauseOver_33 C hr hk hd hR h0)
    · replace h0 := xif q9 h0
      refine x_aload_n C d_RoomReader_isClauseOver_21 0 rfl ?_
      refine x_getA (y := 2) C fg_RoomReader_15 k_26 rfl d_RoomReader_isClauseOver_22 ?_
      obtain ⟨r11, σ12, k10, h0⟩ := xbind2 h0
      refine x_callVi C hR (c_Tape_sign (d := d) (by omega) k10) cw_RoomReader_119 k_2 rfl rfl rfl (Nat.le_of_ble_eq_true rfl) ⟨Nat.zero_le _, Nat.zero_le _⟩ d_RoomReader_isClauseOver_25 ?_
      refine x_bipush (v := 59) C d_RoomReader_isClauseOver_28 (by decide) ?_
      refine x_icmp_ne C 37 d_RoomReader_isClauseOver_30 (by decide) (fun q13 => ?_) (fun q13 => ?_)
      · replace h0 := xif q13 h0
        refine x_iconst (v := 0) C d_RoomReader_isClauseOver_37 (by decide) ?_
        exact x_lv C [] rfl (b_RoomReader_isClauseOver_38 C hr hk hd hR h0)
      · replace h0 := xit q13 h0
        exact x_lv C [] rfl (b_RoomReader_isClauseOver_33 C hr hk hd hR h0)
-- LostPlaces$RoomReader.lettersOf(I)Ljava/lang/String;
theorem d_RoomReader_lettersOf_0 : decode prog_9_method_5_code 0 = .ok (.iload_n 0, 1) := by decide +kernel
theorem d_RoomReader_lettersOf_1 : decode prog_9_method_5_code 1 = .ok (.tableswitch 36 0 2 #[27, 30, 33], 27) := by decide +kernel
theorem d_RoomReader_lettersOf_28 : decode prog_9_method_5_code 28 = .ok (.ldc 94, 2) := by decide +kernel
theorem d_RoomReader_lettersOf_30 : decode prog_9_method_5_code 30 = .ok (.areturn, 1) := by decide +kernel
theorem d_RoomReader_lettersOf_31 : decode prog_9_method_5_code 31 = .ok (.ldc 96, 2) := by decide +kernel
theorem d_RoomReader_lettersOf_33 : decode prog_9_method_5_code 33 = .ok (.areturn, 1) := by decide +kernel
theorem d_RoomReader_lettersOf_34 : decode prog_9_method_5_code 34 = .ok (.ldc 98, 2) := by decide +kernel
theorem d_RoomReader_lettersOf_36 : decode prog_9_method_5_code 36 = .ok (.areturn, 1) := by decide +kernel
theorem d_RoomReader_lettersOf_37 : decode prog_9_method_5_code 37 = .ok (.ldc 100, 2) := by decide +kernel
theorem d_RoomReader_lettersOf_39 : decode prog_9_method_5_code 39 = .ok (.areturn, 1) := by decide +kernel
def s_RoomReader_lettersOf (p0 : Int32) (σ : LH) : Option (Nat × LH) :=
  if p0.toInt = 0 then (
   some (2, σ))
  else (
  if p0.toInt = 1 then (
   some (3, σ))
  else (
  if p0.toInt = 2 then (
   some (4, σ))
  else (
   some (5, σ))))
theorem c_RoomReader_lettersOf {G : XG} {l : Launch} {d : Nat} (hd : 1 ≤ d) {p0 : Int32} {σ σ' : LH} {r : Nat} (h0 : s_RoomReader_lettersOf p0 σ = some (r, σ')) : xM G 1 570 l y_RoomReader_lettersOf prog_9_method_5_code 1 (some (.object "java/lang/String")) d [.int p0] σ (some (.ref (G.2.2.2.1 r))) σ' := by
  obtain ⟨d, rfl⟩ : ∃ q, d = q + 1 := ⟨d - 1, by omega⟩
  refine x_met R_RoomReader rfl (by decide +kernel) (Nat.le_of_ble_eq_true rfl) fun p e s m below meth c C hr hk hR => ?_
  refine x_lv (lv' := [(0, .int p0)]) C [0] rfl ?_
  generalize xrm (d + 1) = R at hR ⊢
  unfold s_RoomReader_lettersOf at h0
  refine x_iload_n C d_RoomReader_lettersOf_0 0 rfl ?_
  by_cases q0 : p0.toInt = 0
  · replace h0 := xit q0 h0
    refine x_tableIn C 28 d_RoomReader_lettersOf_1 (by omega) (by omega) (by rw [q0]; rfl) (by decide) ?_
    refine x_ldcS (index := 94) (i := 2) C (by decide +kernel) d_RoomReader_lettersOf_28 ?_
    exact x_aretS C hr (Or.inl ⟨_, rfl⟩) hk h0 d_RoomReader_lettersOf_30
  replace h0 := xif q0 h0
  by_cases q1 : p0.toInt = 1
  · replace h0 := xit q1 h0
    refine x_tableIn C 31 d_RoomReader_lettersOf_1 (by omega) (by omega) (by rw [q1]; rfl) (by decide) ?_
    refine x_ldcS (index := 96) (i := 3) C (by decide +kernel) d_RoomReader_lettersOf_31 ?_
    exact x_aretS C hr (Or.inl ⟨_, rfl⟩) hk h0 d_RoomReader_lettersOf_33
  replace h0 := xif q1 h0
  by_cases q2 : p0.toInt = 2
  · replace h0 := xit q2 h0
    refine x_tableIn C 34 d_RoomReader_lettersOf_1 (by omega) (by omega) (by rw [q2]; rfl) (by decide) ?_
    refine x_ldcS (index := 98) (i := 4) C (by decide +kernel) d_RoomReader_lettersOf_34 ?_
    exact x_aretS C hr (Or.inl ⟨_, rfl⟩) hk h0 d_RoomReader_lettersOf_36
  replace h0 := xif q2 h0
  refine x_tableOut C 37 d_RoomReader_lettersOf_1 (by omega) (by decide) ?_
  refine x_ldcS (index := 100) (i := 5) C (by decide +kernel) d_RoomReader_lettersOf_37 ?_
  exact x_aretS C hr (Or.inl ⟨_, rfl⟩) hk h0 d_RoomReader_lettersOf_39
theorem p_RoomReader_lettersOf {p0 : Int32} {σ σ' : LH} {r : Nat} (h : s_RoomReader_lettersOf p0 σ = some (r, σ')) : r < 10 := by
  unfold s_RoomReader_lettersOf at h
  repeat (first | (split at h) | (cases h; decide))
-- LostPlaces$Tape.isAtDigit()Z
theorem d_Tape_isAtDigit_0 : decode prog_10_method_5_code 0 = .ok (.aload_n 0, 1) := by decide +kernel
theorem d_Tape_isAtDigit_1 : decode prog_10_method_5_code 1 = .ok (.getfield 19, 3) := by decide +kernel
theorem d_Tape_isAtDigit_4 : decode prog_10_method_5_code 4 = .ok (.ifCond .lt 58, 3) := by decide +kernel
theorem d_Tape_isAtDigit_7 : decode prog_10_method_5_code 7 = .ok (.aload_n 0, 1) := by decide +kernel
theorem d_Tape_isAtDigit_8 : decode prog_10_method_5_code 8 = .ok (.getfield 19, 3) := by decide +kernel
theorem d_Tape_isAtDigit_11 : decode prog_10_method_5_code 11 = .ok (.aload_n 0, 1) := by decide +kernel
theorem d_Tape_isAtDigit_12 : decode prog_10_method_5_code 12 = .ok (.getfield 15, 3) := by decide +kernel
theorem d_Tape_isAtDigit_15 : decode prog_10_method_5_code 15 = .ok (.if_icmp .ge 47, 3) := by decide +kernel
theorem d_Tape_isAtDigit_18 : decode prog_10_method_5_code 18 = .ok (.aload_n 0, 1) := by decide +kernel
theorem d_Tape_isAtDigit_19 : decode prog_10_method_5_code 19 = .ok (.getfield 19, 3) := by decide +kernel
theorem d_Tape_isAtDigit_22 : decode prog_10_method_5_code 22 = .ok (.aload_n 0, 1) := by decide +kernel
theorem d_Tape_isAtDigit_23 : decode prog_10_method_5_code 23 = .ok (.getfield 9, 3) := by decide +kernel
theorem d_Tape_isAtDigit_26 : decode prog_10_method_5_code 26 = .ok (.arraylength, 1) := by decide +kernel
theorem d_Tape_isAtDigit_27 : decode prog_10_method_5_code 27 = .ok (.if_icmp .ge 35, 3) := by decide +kernel
theorem d_Tape_isAtDigit_30 : decode prog_10_method_5_code 30 = .ok (.aload_n 0, 1) := by decide +kernel
theorem d_Tape_isAtDigit_31 : decode prog_10_method_5_code 31 = .ok (.getfield 9, 3) := by decide +kernel
theorem d_Tape_isAtDigit_34 : decode prog_10_method_5_code 34 = .ok (.aload_n 0, 1) := by decide +kernel
theorem d_Tape_isAtDigit_35 : decode prog_10_method_5_code 35 = .ok (.getfield 19, 3) := by decide +kernel
theorem d_Tape_isAtDigit_38 : decode prog_10_method_5_code 38 = .ok (.iaload, 1) := by decide +kernel
theorem d_Tape_isAtDigit_39 : decode prog_10_method_5_code 39 = .ok (.bipush 48, 2) := by decide +kernel
theorem d_Tape_isAtDigit_41 : decode prog_10_method_5_code 41 = .ok (.if_icmp .lt 21, 3) := by decide +kernel
theorem d_Tape_isAtDigit_44 : decode prog_10_method_5_code 44 = .ok (.aload_n 0, 1) := by decide +kernel
theorem d_Tape_isAtDigit_45 : decode prog_10_method_5_code 45 = .ok (.getfield 9, 3) := by decide +kernel
theorem d_Tape_isAtDigit_48 : decode prog_10_method_5_code 48 = .ok (.aload_n 0, 1) := by decide +kernel
theorem d_Tape_isAtDigit_49 : decode prog_10_method_5_code 49 = .ok (.getfield 19, 3) := by decide +kernel
theorem d_Tape_isAtDigit_52 : decode prog_10_method_5_code 52 = .ok (.iaload, 1) := by decide +kernel
theorem d_Tape_isAtDigit_53 : decode prog_10_method_5_code 53 = .ok (.bipush 57, 2) := by decide +kernel
theorem d_Tape_isAtDigit_55 : decode prog_10_method_5_code 55 = .ok (.if_icmp .gt 7, 3) := by decide +kernel
theorem d_Tape_isAtDigit_58 : decode prog_10_method_5_code 58 = .ok (.iconst 1, 1) := by decide +kernel
theorem d_Tape_isAtDigit_59 : decode prog_10_method_5_code 59 = .ok (.goto 4, 3) := by decide +kernel
theorem d_Tape_isAtDigit_62 : decode prog_10_method_5_code 62 = .ok (.iconst 0, 1) := by decide +kernel
theorem d_Tape_isAtDigit_63 : decode prog_10_method_5_code 63 = .ok (.ireturn, 1) := by decide +kernel
def s_Tape_isAtDigit_63 (z0 : Int32) (σ : LH) : Option (Int32 × LH) :=
  if zb z0 then (
  some (z0, σ)) else none
theorem b_Tape_isAtDigit_63 {G : XG} {l : Launch} {p : Program} {e : Env} {R : Room} {s : State} {m : MethodId} {args : Array Value} {below : List Frame} {meth : Method} {c : Code} (C : XC G 1 570 p s m args c prog_10_method_5_code 1 R_Tape) (hr : meth.sig.returnType = (some .boolean)) (hk : meth.locks = false) {d : Nat} (hd : 1 ≤ d + 1) (hR : xroom R (d + 1)) {σ' : LH} {r : Int32} {z0 : Int32} {σ : LH} (h0 : s_Tape_isAtDigit_63 z0 σ = some (r, σ')) : XJ G 1 570 p l e R s m args below meth c 1 (XQ G 1 570 below args s (some (.int r)) σ') 0 0 63 [] [.int z0] σ := by
  replace h0 := (show _ = _ from h0)
  unfold s_Tape_isAtDigit_63 at h0
  obtain ⟨g2, h0⟩ := xgo h0
  exact x_zret C hr hk g2 h0 d_Tape_isAtDigit_63
def s_Tape_isAtDigit_62 (σ : LH) : Option (Int32 × LH) :=
  s_Tape_isAtDigit_63 0 σ
theorem b_Tape_isAtDigit_62 {G : XG} {l : Launch} {p : Program} {e : Env} {R : Room} {s : State} {m : MethodId} {args : Array Value} {below : List Frame} {meth : Method} {c : Code} (C : XC G 1 570 p s m args c prog_10_method_5_code 1 R_Tape) (hr : meth.sig.returnType = (some .boolean)) (hk : meth.locks = false) {d : Nat} (hd : 1 ≤ d + 1) (hR : xroom R (d + 1)) {σ' : LH} {r : Int32} {σ : LH} (h0 : s_Tape_isAtDigit_62 σ = some (r, σ')) : XJ G 1 570 p l e R s m args below meth c 1 (XQ G 1 570 below args s (some (.int r)) σ') 0 0 62 [] [] σ := by
  replace h0 := (show _ = _ from h0)
  unfold s_Tape_isAtDigit_62 at h0
  refine x_iconst (v := 0) C d_Tape_isAtDigit_62 (by decide) ?_
  exact x_lv C [] rfl (b_Tape_isAtDigit_63 C hr hk hd hR h0)
def s_Tape_isAtDigit (σ : LH) : Option (Int32 × LH) :=
  if (σ.1 2 2) < 0 then (
   s_Tape_isAtDigit_62 σ)
  else (
   if (σ.1 2 1) ≤ (σ.1 2 2) then (
    s_Tape_isAtDigit_62 σ)
   else (
    if 240 ≤ (σ.1 2 2) then (
     s_Tape_isAtDigit_62 σ)
    else (
     if ib (σ.1 2 2) 240 then (
     if (σ.1 3 (Int32.toNatClampNeg (σ.1 2 2))) < 48 then (
      s_Tape_isAtDigit_62 σ)
     else (
      if ib (σ.1 2 2) 240 then (
      if 57 < (σ.1 3 (Int32.toNatClampNeg (σ.1 2 2))) then (
       s_Tape_isAtDigit_62 σ)
      else (
       s_Tape_isAtDigit_63 1 σ)) else none)) else none)))
theorem c_Tape_isAtDigit {G : XG} {l : Launch} {d : Nat} (hd : 1 ≤ d) {σ σ' : LH} {r : Int32} (h0 : s_Tape_isAtDigit σ = some (r, σ')) : xM G 1 570 l y_Tape_isAtDigit prog_10_method_5_code 1 (some .boolean) d [.ref (G.2.2.1 + 2)] σ (some (.int r)) σ' := by
  obtain ⟨d, rfl⟩ : ∃ q, d = q + 1 := ⟨d - 1, by omega⟩
  refine x_met R_Tape rfl (by decide +kernel) (Nat.le_of_ble_eq_true rfl) fun p e s m below meth c C hr hk hR => ?_
  refine x_lv (lv' := [(0, .ref (G.2.2.1 + 2))]) C [0] rfl ?_
  generalize xrm (d + 1) = R at hR ⊢
  unfold s_Tape_isAtDigit at h0
  refine x_aload_n C d_Tape_isAtDigit_0 0 rfl ?_
  refine x_getI (y := 0) C fg_Tape_19 k_2 rfl d_Tape_isAtDigit_1 ?_
  refine x_if_lt C 62 d_Tape_isAtDigit_4 (by decide) (fun q1 => ?_) (fun q1 => ?_)
  · replace h0 := xit q1 h0
    exact x_lv C [] rfl (b_Tape_isAtDigit_62 C hr hk hd hR h0)
  · replace h0 := xif q1 h0
    refine x_aload_n C d_Tape_isAtDigit_7 0 rfl ?_
    refine x_getI (y := 0) C fg_Tape_19 k_2 rfl d_Tape_isAtDigit_8 ?_
    refine x_aload_n C d_Tape_isAtDigit_11 0 rfl ?_
    refine x_getI (y := 0) C fg_Tape_15 k_2 rfl d_Tape_isAtDigit_12 ?_
    refine x_icmp_ge C 62 d_Tape_isAtDigit_15 (by decide) (fun q3 => ?_) (fun q3 => ?_)
    · replace h0 := xit q3 h0
      exact x_lv C [] rfl (b_Tape_isAtDigit_62 C hr hk hd hR h0)
    · replace h0 := xif q3 h0
      refine x_aload_n C d_Tape_isAtDigit_18 0 rfl ?_
      refine x_getI (y := 0) C fg_Tape_19 k_2 rfl d_Tape_isAtDigit_19 ?_
      refine x_aload_n C d_Tape_isAtDigit_22 0 rfl ?_
      refine x_getA (y := 3) C fg_Tape_9 k_2 rfl d_Tape_isAtDigit_23 ?_
      refine x_ilen (v := 240) C k_3 rfl d_Tape_isAtDigit_26 ?_
      refine x_icmp_ge C 62 d_Tape_isAtDigit_27 (by decide) (fun q4 => ?_) (fun q4 => ?_)
      · replace h0 := xit q4 h0
        exact x_lv C [] rfl (b_Tape_isAtDigit_62 C hr hk hd hR h0)
      · replace h0 := xif q4 h0
        refine x_aload_n C d_Tape_isAtDigit_30 0 rfl ?_
        refine x_getA (y := 3) C fg_Tape_9 k_2 rfl d_Tape_isAtDigit_31 ?_
        refine x_aload_n C d_Tape_isAtDigit_34 0 rfl ?_
        refine x_getI (y := 0) C fg_Tape_19 k_2 rfl d_Tape_isAtDigit_35 ?_
        obtain ⟨g5, h0⟩ := xgo h0
        refine x_iald C k_3 (ib_in g5) d_Tape_isAtDigit_38 ?_
        refine x_bipush (v := 48) C d_Tape_isAtDigit_39 (by decide) ?_
        refine x_icmp_lt C 62 d_Tape_isAtDigit_41 (by decide) (fun q6 => ?_) (fun q6 => ?_)
        · replace h0 := xit q6 h0
          exact x_lv C [] rfl (b_Tape_isAtDigit_62 C hr hk hd hR h0)
        · replace h0 := xif q6 h0
          refine x_aload_n C d_Tape_isAtDigit_44 0 rfl ?_
          refine x_getA (y := 3) C fg_Tape_9 k_2 rfl d_Tape_isAtDigit_45 ?_
          refine x_aload_n C d_Tape_isAtDigit_48 0 rfl ?_
          refine x_getI (y := 0) C fg_Tape_19 k_2 rfl d_Tape_isAtDigit_49 ?_
          obtain ⟨g7, h0⟩ := xgo h0
          refine x_iald C k_3 (ib_in g7) d_Tape_isAtDigit_52 ?_
          refine x_bipush (v := 57) C d_Tape_isAtDigit_53 (by decide) ?_
          refine x_icmp_gt C 62 d_Tape_isAtDigit_55 (by decide) (fun q8 => ?_) (fun q8 => ?_)
          · replace h0 := xit q8 h0
            exact x_lv C [] rfl (b_Tape_isAtDigit_62 C hr hk hd hR h0)
          · replace h0 := xif q8 h0
            refine x_iconst (v := 1) C d_Tape_isAtDigit_58 (by decide) ?_
            refine x_goto C 63 d_Tape_isAtDigit_59 (by decide) ?_
            exact x_lv C [] rfl (b_Tape_isAtDigit_63 C hr hk hd hR h0)
-- LostPlaces$Tape.number(I)I
theorem d_Tape_number_0 : decode prog_10_method_10_code 0 = .ok (.iconst 0, 1) := by decide +kernel
theorem d_Tape_number_1 : decode prog_10_method_10_code 1 = .ok (.istore_n 2, 1) := by decide +kernel
theorem d_Tape_number_2 : decode prog_10_method_10_code 2 = .ok (.aload_n 0, 1) := by decide +kernel
theorem d_Tape_number_3 : decode prog_10_method_10_code 3 = .ok (.invokevirtual 25, 3) := by decide +kernel
theorem d_Tape_number_6 : decode prog_10_method_10_code 6 = .ok (.pop, 1) := by decide +kernel
theorem d_Tape_number_7 : decode prog_10_method_10_code 7 = .ok (.aload_n 0, 1) := by decide +kernel
theorem d_Tape_number_8 : decode prog_10_method_10_code 8 = .ok (.invokevirtual 37, 3) := by decide +kernel
theorem d_Tape_number_11 : decode prog_10_method_10_code 11 = .ok (.ifCond .ne 11, 3) := by decide +kernel
theorem d_Tape_number_14 : decode prog_10_method_10_code 14 = .ok (.aload_n 0, 1) := by decide +kernel
theorem d_Tape_number_15 : decode prog_10_method_10_code 15 = .ok (.aload_n 0, 1) := by decide +kernel
theorem d_Tape_number_16 : decode prog_10_method_10_code 16 = .ok (.getfield 19, 3) := by decide +kernel
theorem d_Tape_number_19 : decode prog_10_method_10_code 19 = .ok (.invokevirtual 33, 3) := by decide +kernel
theorem d_Tape_number_22 : decode prog_10_method_10_code 22 = .ok (.iconst 0, 1) := by decide +kernel
theorem d_Tape_number_23 : decode prog_10_method_10_code 23 = .ok (.istore_n 3, 1) := by decide +kernel
theorem d_Tape_number_24 : decode prog_10_method_10_code 24 = .ok (.iload_n 3, 1) := by decide +kernel
theorem d_Tape_number_25 : decode prog_10_method_10_code 25 = .ok (.iload_n 1, 1) := by decide +kernel
theorem d_Tape_number_26 : decode prog_10_method_10_code 26 = .ok (.if_icmp .ge 44, 3) := by decide +kernel
theorem d_Tape_number_29 : decode prog_10_method_10_code 29 = .ok (.aload_n 0, 1) := by decide +kernel
theorem d_Tape_number_30 : decode prog_10_method_10_code 30 = .ok (.invokevirtual 37, 3) := by decide +kernel
theorem d_Tape_number_33 : decode prog_10_method_10_code 33 = .ok (.ifCond .eq 37, 3) := by decide +kernel
theorem d_Tape_number_36 : decode prog_10_method_10_code 36 = .ok (.iload_n 2, 1) := by decide +kernel
theorem d_Tape_number_37 : decode prog_10_method_10_code 37 = .ok (.bipush 10, 2) := by decide +kernel
theorem d_Tape_number_39 : decode prog_10_method_10_code 39 = .ok (.imul, 1) := by decide +kernel
theorem d_Tape_number_40 : decode prog_10_method_10_code 40 = .ok (.aload_n 0, 1) := by decide +kernel
theorem d_Tape_number_41 : decode prog_10_method_10_code 41 = .ok (.getfield 9, 3) := by decide +kernel
theorem d_Tape_number_44 : decode prog_10_method_10_code 44 = .ok (.aload_n 0, 1) := by decide +kernel
theorem d_Tape_number_45 : decode prog_10_method_10_code 45 = .ok (.getfield 19, 3) := by decide +kernel
theorem d_Tape_number_48 : decode prog_10_method_10_code 48 = .ok (.iaload, 1) := by decide +kernel
theorem d_Tape_number_49 : decode prog_10_method_10_code 49 = .ok (.iadd, 1) := by decide +kernel
theorem d_Tape_number_50 : decode prog_10_method_10_code 50 = .ok (.bipush 48, 2) := by decide +kernel
theorem d_Tape_number_52 : decode prog_10_method_10_code 52 = .ok (.isub, 1) := by decide +kernel
theorem d_Tape_number_53 : decode prog_10_method_10_code 53 = .ok (.istore_n 2, 1) := by decide +kernel
theorem d_Tape_number_54 : decode prog_10_method_10_code 54 = .ok (.aload_n 0, 1) := by decide +kernel
theorem d_Tape_number_55 : decode prog_10_method_10_code 55 = .ok (.dup, 1) := by decide +kernel
theorem d_Tape_number_56 : decode prog_10_method_10_code 56 = .ok (.getfield 19, 3) := by decide +kernel
theorem d_Tape_number_59 : decode prog_10_method_10_code 59 = .ok (.iconst 1, 1) := by decide +kernel
theorem d_Tape_number_60 : decode prog_10_method_10_code 60 = .ok (.iadd, 1) := by decide +kernel
theorem d_Tape_number_61 : decode prog_10_method_10_code 61 = .ok (.putfield 19, 3) := by decide +kernel
theorem d_Tape_number_64 : decode prog_10_method_10_code 64 = .ok (.iinc 3 1, 3) := by decide +kernel
theorem d_Tape_number_67 : decode prog_10_method_10_code 67 = .ok (.goto (-43), 3) := by decide +kernel
theorem d_Tape_number_70 : decode prog_10_method_10_code 70 = .ok (.aload_n 0, 1) := by decide +kernel
theorem d_Tape_number_71 : decode prog_10_method_10_code 71 = .ok (.invokevirtual 37, 3) := by decide +kernel
theorem d_Tape_number_74 : decode prog_10_method_10_code 74 = .ok (.ifCond .eq 11, 3) := by decide +kernel
theorem d_Tape_number_77 : decode prog_10_method_10_code 77 = .ok (.aload_n 0, 1) := by decide +kernel
theorem d_Tape_number_78 : decode prog_10_method_10_code 78 = .ok (.aload_n 0, 1) := by decide +kernel
theorem d_Tape_number_79 : decode prog_10_method_10_code 79 = .ok (.getfield 19, 3) := by decide +kernel
theorem d_Tape_number_82 : decode prog_10_method_10_code 82 = .ok (.invokevirtual 33, 3) := by decide +kernel
theorem d_Tape_number_85 : decode prog_10_method_10_code 85 = .ok (.iload_n 2, 1) := by decide +kernel
theorem d_Tape_number_86 : decode prog_10_method_10_code 86 = .ok (.ireturn, 1) := by decide +kernel
def s_Tape_number_85 (p0 : Int32) (y2 : Int32) (σ : LH) : Option (Int32 × LH) :=
  some (y2, σ)
theorem b_Tape_number_85 {G : XG} {l : Launch} {p : Program} {e : Env} {R : Room} {s : State} {m : MethodId} {args : Array Value} {below : List Frame} {meth : Method} {c : Code} (C : XC G 1 570 p s m args c prog_10_method_10_code 4 R_Tape) (hr : meth.sig.returnType = (some .int)) (hk : meth.locks = false) {d : Nat} (hd : 2 ≤ d + 1) (hR : xroom R (d + 1)) {p0 : Int32} {σ' : LH} {r : Int32} {y2 : Int32} {σ : LH} (h0 : s_Tape_number_85 p0 y2 σ = some (r, σ')) : XJ G 1 570 p l e R s m args below meth c 4 (XQ G 1 570 below args s (some (.int r)) σ') 0 0 85 [(2, .int y2)] [] σ := by
  replace h0 := (show _ = _ from h0)
  unfold s_Tape_number_85 at h0
  refine x_iload_n C d_Tape_number_85 0 rfl ?_
  exact x_iret C hr hk h0 d_Tape_number_86
def s_Tape_number_70 (p0 : Int32) (y2 : Int32) (σ : LH) : Option (Int32 × LH) :=
  xb2 (s_Tape_isAtDigit σ) fun r12 σ13 =>
  if r12 = 0 then (
   s_Tape_number_85 p0 y2 σ13)
  else (
   xb1 (s_Tape_fail (σ13.1 2 2) σ13) fun σ16 =>
   s_Tape_number_85 p0 y2 σ16)
theorem b_Tape_number_70 {G : XG} {l : Launch} {p : Program} {e : Env} {R : Room} {s : State} {m : MethodId} {args : Array Value} {below : List Frame} {meth : Method} {c : Code} (C : XC G 1 570 p s m args c prog_10_method_10_code 4 R_Tape) (hr : meth.sig.returnType = (some .int)) (hk : meth.locks = false) {d : Nat} (hd : 2 ≤ d + 1) (hR : xroom R (d + 1)) {p0 : Int32} {σ' : LH} {r : Int32} {y2 : Int32} {σ : LH} (h0 : s_Tape_number_70 p0 y2 σ = some (r, σ')) : XJ G 1 570 p l e R s m args below meth c 4 (XQ G 1 570 below args s (some (.int r)) σ') 0 0 70 [(0, .ref (G.2.2.1 + 2)), (2, .int y2)] [] σ := by
  replace h0 := (show _ = _ from h0)
  unfold s_Tape_number_70 at h0
  refine x_aload_n C d_Tape_number_70 0 rfl ?_
  obtain ⟨r12, σ13, k11, h0⟩ := xbind2 h0
  refine x_callVi C hR (c_Tape_isAtDigit (d := d) (by omega) k11) cw_Tape_37 k_2 rfl rfl rfl (Nat.le_of_ble_eq_true rfl) ⟨Nat.zero_le _, Nat.zero_le _⟩ d_Tape_number_71 ?_
  refine x_if_eq C 85 d_Tape_number_74 (by decide) (fun q14 => ?_) (fun q14 => ?_)
  · replace h0 := xit q14 h0
    exact x_lv C [1] rfl (b_Tape_number_85 C hr hk hd hR h0)
  · replace h0 := xif q14 h0
    refine x_aload_n C d_Tape_number_77 0 rfl ?_
    refine x_aload_n C d_Tape_number_78 0 rfl ?_
    refine x_getI (y := 0) C fg_Tape_19 k_2 rfl d_Tape_number_79 ?_
    obtain ⟨σ16, k15, h0⟩ := xbind1 h0
    refine x_callVv C hR (c_Tape_fail (d := d) (by omega) k15) cw_Tape_33 k_2 rfl rfl rfl (Nat.le_of_ble_eq_true rfl) ⟨Nat.zero_le _, Nat.zero_le _⟩ d_Tape_number_82 ?_
    exact x_lv C [1] rfl (b_Tape_number_85 C hr hk hd hR h0)
def s_Tape_number_24_b (p0 : Int32) (rec24 : Int32 → Int32 → LH → Option (Int32 × LH)) (y2 : Int32) (y3 : Int32) (σ : LH) : Option (Int32 × LH) :=
  if p0 ≤ y3 then (
   s_Tape_number_70 p0 y2 σ)
  else (
   xb2 (s_Tape_isAtDigit σ) fun r18 σ19 =>
   if r18 = 0 then (
    s_Tape_number_70 p0 y2 σ19)
   else (
    if ib (σ19.1 2 2) 240 then (
    xl (((((y2 * 10) + (σ19.1 3 (Int32.toNatClampNeg (σ19.1 2 2)))) - 48)) : Int32) fun x22 =>
    xl ((stI σ19 2 2 ((σ19.1 2 2) + 1)) : LH) fun σ23 =>
    xl ((y3 + 1) : Int32) fun x24 =>
    rec24 x22 x24 σ23) else none))
def s_Tape_number_24 (p0 : Int32) : Nat → Int32 → Int32 → LH → Option (Int32 × LH)
  | 0, _, _, _ => none
  | n + 1, y2, y3, σ => s_Tape_number_24_b p0 (s_Tape_number_24 p0 n) y2 y3 σ
theorem bb_Tape_number_24 {G : XG} {l : Launch} {p : Program} {e : Env} {R : Room} {s : State} {m : MethodId} {args : Array Value} {below : List Frame} {meth : Method} {c : Code} (C : XC G 1 570 p s m args c prog_10_method_10_code 4 R_Tape) (hr : meth.sig.returnType = (some .int)) (hk : meth.locks = false) {d : Nat} (hd : 2 ≤ d + 1) (hR : xroom R (d + 1)) {p0 : Int32} {rec24 : Int32 → Int32 → LH → Option (Int32 × LH)} {σ' : LH} {r : Int32} (hrec24 : ∀ (y2 : Int32) (y3 : Int32) (σ : LH), rec24 y2 y3 σ = some (r, σ') → XJ G 1 570 p l e R s m args below meth c 4 (XQ G 1 570 below args s (some (.int r)) σ') 0 0 24 [(0, .ref (G.2.2.1 + 2)), (1, .int p0), (2, .int y2), (3, .int y3)] [] σ) {y2 : Int32} {y3 : Int32} {σ : LH} (h0 : s_Tape_number_24_b p0 rec24 y2 y3 σ = some (r, σ')) : XJ G 1 570 p l e R s m args below meth c 4 (XQ G 1 570 below args s (some (.int r)) σ') 0 0 24 [(0, .ref (G.2.2.1 + 2)), (1, .int p0), (2, .int y2), (3, .int y3)] [] σ := by
  replace h0 := (show _ = _ from h0)
  unfold s_Tape_number_24_b at h0
  refine x_iload_n C d_Tape_number_24 3 rfl ?_
  refine x_iload_n C d_Tape_number_25 1 rfl ?_
  refine x_icmp_ge C 70 d_Tape_number_26 (by decide) (fun q10 => ?_) (fun q10 => ?_)
  · replace h0 := xit q10 h0
    exact x_lv C [0, 2] rfl (b_Tape_number_70 C hr hk hd hR h0)
  · replace h0 := xif q10 h0
    refine x_aload_n C d_Tape_number_29 0 rfl ?_
    obtain ⟨r18, σ19, k17, h0⟩ := xbind2 h0
    refine x_callVi C hR (c_Tape_isAtDigit (d := d) (by omega) k17) cw_Tape_37 k_2 rfl rfl rfl (Nat.le_of_ble_eq_true rfl) ⟨Nat.zero_le _, Nat.zero_le _⟩ d_Tape_number_30 ?_
    refine x_if_eq C 70 d_Tape_number_33 (by decide) (fun q20 => ?_) (fun q20 => ?_)
    · replace h0 := xit q20 h0
      exact x_lv C [0, 2] rfl (b_Tape_number_70 C hr hk hd hR h0)
    · replace h0 := xif q20 h0
      refine x_iload_n C d_Tape_number_36 2 rfl ?_
      refine x_bipush (v := 10) C d_Tape_number_37 (by decide) ?_
      refine x_imul C d_Tape_number_39 ?_
      refine x_aload_n C d_Tape_number_40 0 rfl ?_
      refine x_getA (y := 3) C fg_Tape_9 k_2 rfl d_Tape_number_41 ?_
      refine x_aload_n C d_Tape_number_44 0 rfl ?_
      refine x_getI (y := 0) C fg_Tape_19 k_2 rfl d_Tape_number_45 ?_
      obtain ⟨g21, h0⟩ := xgo h0
      refine x_iald C k_3 (ib_in g21) d_Tape_number_48 ?_
      refine x_iadd C d_Tape_number_49 ?_
      refine x_bipush (v := 48) C d_Tape_number_50 (by decide) ?_
      refine x_isub C d_Tape_number_52 ?_
      obtain ⟨x22, ex22, h0⟩ := xlet h0
      refine x_name C ex22 ?_
      refine x_istore_n (lv' := [(2, .int x22), (0, .ref (G.2.2.1 + 2)), (1, .int p0), (3, .int y3)]) C d_Tape_number_53 rfl (by decide) rfl ?_
      refine x_aload_n C d_Tape_number_54 1 rfl ?_
      refine x_dup C d_Tape_number_55 rfl ?_
      refine x_getI (y := 0) C fg_Tape_19 k_2 rfl d_Tape_number_56 ?_
      refine x_iconst (v := 1) C d_Tape_number_59 (by decide) ?_
      refine x_iadd C d_Tape_number_60 ?_
      refine x_putI (y := 0) C fp_Tape_19 k_2 rfl rfl rfl d_Tape_number_61 ?_
      obtain ⟨σ23, eσ23, h0⟩ := xlet h0
      refine x_sig C eσ23 ?_
      obtain ⟨x24, ex24, h0⟩ := xlet h0
      refine x_iinc (lv' := [(3, .int x24), (2, .int x22), (0, .ref (G.2.2.1 + 2)), (1, .int p0)]) C d_Tape_number_64 3 rfl ex24 (by decide) rfl ?_
      refine x_goto C 24 d_Tape_number_67 (by decide) ?_
      exact x_lv C [2, 3, 1, 0] rfl (hrec24 _ _ _ h0)
theorem b_Tape_number_24 {G : XG} {l : Launch} {p : Program} {e : Env} {R : Room} {s : State} {m : MethodId} {args : Array Value} {below : List Frame} {meth : Method} {c : Code} (C : XC G 1 570 p s m args c prog_10_method_10_code 4 R_Tape) (hr : meth.sig.returnType = (some .int)) (hk : meth.locks = false) {d : Nat} (hd : 2 ≤ d + 1) (hR : xroom R (d + 1)) {p0 : Int32} {σ' : LH} {r : Int32} : ∀ (n : Nat) (y2 : Int32) (y3 : Int32) (σ : LH), s_Tape_number_24 p0 n y2 y3 σ = some (r, σ') → XJ G 1 570 p l e R s m args below meth c 4 (XQ G 1 570 below args s (some (.int r)) σ') 0 0 24 [(0, .ref (G.2.2.1 + 2)), (1, .int p0), (2, .int y2), (3, .int y3)] [] σ := by
  intro n
  induction n with
  | zero => intro y2 y3 σ h0; cases h0
  | succ n ih => intro y2 y3 σ h0; exact bb_Tape_number_24 C hr hk hd hR ih h0
def s_Tape_number_22 (p0 : Int32) (y2 : Int32) (σ : LH) : Option (Int32 × LH) :=
  s_Tape_number_24 p0 FUEL y2 0 σ
theorem b_Tape_number_22 {G : XG} {l : Launch} {p : Program} {e : Env} {R : Room} {s : State} {m : MethodId} {args : Array Value} {below : List Frame} {meth : Method} {c : Code} (C : XC G 1 570 p s m args c prog_10_method_10_code 4 R_Tape) (hr : meth.sig.returnType = (some .int)) (hk : meth.locks = false) {d : Nat} (hd : 2 ≤ d + 1) (hR : xroom R (d + 1)) {p0 : Int32} {σ' : LH} {r : Int32} {y2 : Int32} {σ : LH} (h0 : s_Tape_number_22 p0 y2 σ = some (r, σ')) : XJ G 1 570 p l e R s m args below meth c 4 (XQ G 1 570 below args s (some (.int r)) σ') 0 0 22 [(0, .ref (G.2.2.1 + 2)), (1, .int p0), (2, .int y2)] [] σ := by
  replace h0 := (show _ = _ from h0)
  unfold s_Tape_number_22 at h0
  refine x_iconst (v := 0) C d_Tape_number_22 (by decide) ?_
  refine x_istore_n (lv' := [(3, .int 0), (0, .ref (G.2.2.1 + 2)), (1, .int p0), (2, .int y2)]) C d_Tape_number_23 rfl (by decide) rfl ?_
  exact x_lv C [1, 2, 3, 0] rfl (b_Tape_number_24 C hr hk hd hR FUEL _ _ _ h0)
def s_Tape_number (p0 : Int32) (σ : LH) : Option (Int32 × LH) :=
  xb2 (s_Tape_sign σ) fun r2 σ3 =>
  xb2 (s_Tape_isAtDigit σ3) fun r5 σ6 =>
  if r5 = 0 then (
   xb1 (s_Tape_fail (σ6.1 2 2) σ6) fun σ9 =>
   s_Tape_number_22 p0 0 σ9)
  else (
   s_Tape_number_22 p0 0 σ6)
theorem c_Tape_number {G : XG} {l : Launch} {d : Nat} (hd : 2 ≤ d) {p0 : Int32} {σ σ' : LH} {r : Int32} (h0 : s_Tape_number p0 σ = some (r, σ')) : xM G 1 570 l y_Tape_number prog_10_method_10_code 4 (some .int) d [.ref (G.2.2.1 + 2), .int p0] σ (some (.int r)) σ' := by
  obtain ⟨d, rfl⟩ : ∃ q, d = q + 1 := ⟨d - 1, by omega⟩
  refine x_met R_Tape rfl (by decide +kernel) (Nat.le_of_ble_eq_true rfl) fun p e s m below meth c C hr hk hR => ?_
  refine x_lv (lv' := [(0, .ref (G.2.2.1 + 2)), (1, .int p0)]) C [0, 1] rfl ?_
  generalize xrm (d + 1) = R at hR ⊢
  unfold s_Tape_number at h0
  refine x_iconst (v := 0) C d_Tape_number_0 (by decide) ?_
  refine x_istore_n (lv' := [(2, .int 0), (0, .ref (G.2.2.1 + 2)), (1, .int p0)]) C d_Tape_number_1 rfl (by decide) rfl ?_
  refine x_aload_n C d_Tape_number_2 1 rfl ?_
  obtain ⟨r2, σ3, k1, h0⟩ := xbind2 h0
  refine x_callVi C hR (c_Tape_sign (d := d) (by omega) k1) cw_Tape_25 k_2 rfl rfl rfl (Nat.le_of_ble_eq_true rfl) ⟨Nat.zero_le _, Nat.zero_le _⟩ d_Tape_number_3 ?_
  refine x_pop C d_Tape_number_6 rfl ?_
  refine x_aload_n C d_Tape_number_7 1 rfl ?_
  obtain ⟨r5, σ6, k4, h0⟩ := xbind2 h0
  refine x_callVi C hR (c_Tape_isAtDigit (d := d) (by omega) k4) cw_Tape_37 k_2 rfl rfl rfl (Nat.le_of_ble_eq_true rfl) ⟨Nat.zero_le _, Nat.zero_le _⟩ d_Tape_number_8 ?_
  refine x_if_ne C 22 d_Tape_number_11 (by decide) (fun q7 => ?_) (fun q7 => ?_)
  · replace h0 := xif q7 h0
    exact x_lv C [1, 2, 0] rfl (b_Tape_number_22 C hr hk hd hR h0)
  · replace h0 := xit q7 h0
    refine x_aload_n C d_Tape_number_14 1 rfl ?_
    refine x_aload_n C d_Tape_number_15 1 rfl ?_
    refine x_getI (y := 0) C fg_Tape_19 k_2 rfl d_Tape_number_16 ?_
    obtain ⟨σ9, k8, h0⟩ := xbind1 h0
    refine x_callVv C hR (c_Tape_fail (d := d) (by omega) k8) cw_Tape_33 k_2 rfl rfl rfl (Nat.le_of_ble_eq_true rfl) ⟨Nat.zero_le _, Nat.zero_le _⟩ d_Tape_number_19 ?_
    exact x_lv C [1, 2, 0] rfl (b_Tape_number_22 C hr hk hd hR h0)
-- LostPlaces$RoomReader.readItems(I)V
theorem d_RoomReader_readItems_0 : decode prog_9_method_6_code 0 = .ok (.iload_n 1, 1) := by decide +kernel
theorem d_RoomReader_readItems_1 : decode prog_9_method_6_code 1 = .ok (.ifCond .lt 14, 3) := by decide +kernel
theorem d_RoomReader_readItems_4 : decode prog_9_method_6_code 4 = .ok (.iload_n 1, 1) := by decide +kernel
theorem d_RoomReader_readItems_5 : decode prog_9_method_6_code 5 = .ok (.iconst 3, 1) := by decide +kernel
theorem d_RoomReader_readItems_6 : decode prog_9_method_6_code 6 = .ok (.if_icmp .gt 9, 3) := by decide +kernel
theorem d_RoomReader_readItems_9 : decode prog_9_method_6_code 9 = .ok (.iload_n 1, 1) := by decide +kernel
theorem d_RoomReader_readItems_10 : decode prog_9_method_6_code 10 = .ok (.iconst 4, 1) := by decide +kernel
theorem d_RoomReader_readItems_11 : decode prog_9_method_6_code 11 = .ok (.imul, 1) := by decide +kernel
theorem d_RoomReader_readItems_12 : decode prog_9_method_6_code 12 = .ok (.goto 4, 3) := by decide +kernel
theorem d_RoomReader_readItems_15 : decode prog_9_method_6_code 15 = .ok (.iconst 0, 1) := by decide +kernel
theorem d_RoomReader_readItems_16 : decode prog_9_method_6_code 16 = .ok (.istore_n 2, 1) := by decide +kernel
theorem d_RoomReader_readItems_17 : decode prog_9_method_6_code 17 = .ok (.iconst 0, 1) := by decide +kernel
theorem d_RoomReader_readItems_18 : decode prog_9_method_6_code 18 = .ok (.istore_n 3, 1) := by decide +kernel
theorem d_RoomReader_readItems_19 : decode prog_9_method_6_code 19 = .ok (.iload_n 3, 1) := by decide +kernel
theorem d_RoomReader_readItems_20 : decode prog_9_method_6_code 20 = .ok (.iconst 4, 1) := by decide +kernel
theorem d_RoomReader_readItems_21 : decode prog_9_method_6_code 21 = .ok (.if_icmp .ge 22, 3) := by decide +kernel
theorem d_RoomReader_readItems_24 : decode prog_9_method_6_code 24 = .ok (.aload_n 0, 1) := by decide +kernel
theorem d_RoomReader_readItems_25 : decode prog_9_method_6_code 25 = .ok (.getfield 11, 3) := by decide +kernel
theorem d_RoomReader_readItems_28 : decode prog_9_method_6_code 28 = .ok (.iload_n 3, 1) := by decide +kernel
theorem d_RoomReader_readItems_29 : decode prog_9_method_6_code 29 = .ok (.getstatic 29, 3) := by decide +kernel
theorem d_RoomReader_readItems_32 : decode prog_9_method_6_code 32 = .ok (.iload_n 2, 1) := by decide +kernel
theorem d_RoomReader_readItems_33 : decode prog_9_method_6_code 33 = .ok (.iload_n 3, 1) := by decide +kernel
theorem d_RoomReader_readItems_34 : decode prog_9_method_6_code 34 = .ok (.iadd, 1) := by decide +kernel
theorem d_RoomReader_readItems_35 : decode prog_9_method_6_code 35 = .ok (.iaload, 1) := by decide +kernel
theorem d_RoomReader_readItems_36 : decode prog_9_method_6_code 36 = .ok (.iastore, 1) := by decide +kernel
theorem d_RoomReader_readItems_37 : decode prog_9_method_6_code 37 = .ok (.iinc 3 1, 3) := by decide +kernel
theorem d_RoomReader_readItems_40 : decode prog_9_method_6_code 40 = .ok (.goto (-21), 3) := by decide +kernel
theorem d_RoomReader_readItems_43 : decode prog_9_method_6_code 43 = .ok (.iconst 0, 1) := by decide +kernel
theorem d_RoomReader_readItems_44 : decode prog_9_method_6_code 44 = .ok (.istore_n 3, 1) := by decide +kernel
theorem d_RoomReader_readItems_45 : decode prog_9_method_6_code 45 = .ok (.iconst 0, 1) := by decide +kernel
theorem d_RoomReader_readItems_46 : decode prog_9_method_6_code 46 = .ok (.istore 4, 2) := by decide +kernel
theorem d_RoomReader_readItems_48 : decode prog_9_method_6_code 48 = .ok (.iload 4, 2) := by decide +kernel
theorem d_RoomReader_readItems_50 : decode prog_9_method_6_code 50 = .ok (.sipush 240, 3) := by decide +kernel
theorem d_RoomReader_readItems_53 : decode prog_9_method_6_code 53 = .ok (.if_icmp .ge 163, 3) := by decide +kernel
theorem d_RoomReader_readItems_56 : decode prog_9_method_6_code 56 = .ok (.aload_n 0, 1) := by decide +kernel
theorem d_RoomReader_readItems_57 : decode prog_9_method_6_code 57 = .ok (.invokevirtual 102, 3) := by decide +kernel
theorem d_RoomReader_readItems_60 : decode prog_9_method_6_code 60 = .ok (.ifCond .ne 156, 3) := by decide +kernel
theorem d_RoomReader_readItems_63 : decode prog_9_method_6_code 63 = .ok (.aload_n 0, 1) := by decide +kernel
theorem d_RoomReader_readItems_64 : decode prog_9_method_6_code 64 = .ok (.getfield 15, 3) := by decide +kernel
theorem d_RoomReader_readItems_67 : decode prog_9_method_6_code 67 = .ok (.iload_n 1, 1) := by decide +kernel
theorem d_RoomReader_readItems_68 : decode prog_9_method_6_code 68 = .ok (.invokestatic 105, 3) := by decide +kernel
theorem d_RoomReader_readItems_71 : decode prog_9_method_6_code 71 = .ok (.invokevirtual 60, 3) := by decide +kernel
theorem d_RoomReader_readItems_74 : decode prog_9_method_6_code 74 = .ok (.istore 5, 2) := by decide +kernel
theorem d_RoomReader_readItems_76 : decode prog_9_method_6_code 76 = .ok (.iload 5, 2) := by decide +kernel
theorem d_RoomReader_readItems_78 : decode prog_9_method_6_code 78 = .ok (.ifCond .lt 18, 3) := by decide +kernel
theorem d_RoomReader_readItems_81 : decode prog_9_method_6_code 81 = .ok (.iload 5, 2) := by decide +kernel
theorem d_RoomReader_readItems_83 : decode prog_9_method_6_code 83 = .ok (.iconst 4, 1) := by decide +kernel
theorem d_RoomReader_readItems_84 : decode prog_9_method_6_code 84 = .ok (.if_icmp .ge 12, 3) := by decide +kernel
theorem d_RoomReader_readItems_87 : decode prog_9_method_6_code 87 = .ok (.iload_n 3, 1) := by decide +kernel
theorem d_RoomReader_readItems_88 : decode prog_9_method_6_code 88 = .ok (.iload 5, 2) := by decide +kernel
theorem d_RoomReader_readItems_90 : decode prog_9_method_6_code 90 = .ok (.ishr, 1) := by decide +kernel
theorem d_RoomReader_readItems_91 : decode prog_9_method_6_code 91 = .ok (.iconst 1, 1) := by decide +kernel
theorem d_RoomReader_readItems_92 : decode prog_9_method_6_code 92 = .ok (.iand, 1) := by decide +kernel
theorem d_RoomReader_readItems_93 : decode prog_9_method_6_code 93 = .ok (.ifCond .eq 18, 3) := by decide +kernel
theorem d_RoomReader_readItems_96 : decode prog_9_method_6_code 96 = .ok (.aload_n 0, 1) := by decide +kernel
theorem d_RoomReader_readItems_97 : decode prog_9_method_6_code 97 = .ok (.getfield 15, 3) := by decide +kernel
theorem d_RoomReader_readItems_100 : decode prog_9_method_6_code 100 = .ok (.aload_n 0, 1) := by decide +kernel
theorem d_RoomReader_readItems_101 : decode prog_9_method_6_code 101 = .ok (.getfield 15, 3) := by decide +kernel
theorem d_RoomReader_readItems_104 : decode prog_9_method_6_code 104 = .ok (.getfield 68, 3) := by decide +kernel
theorem d_RoomReader_readItems_107 : decode prog_9_method_6_code 107 = .ok (.invokevirtual 51, 3) := by decide +kernel
theorem d_RoomReader_readItems_110 : decode prog_9_method_6_code 110 = .ok (.return_, 1) := by decide +kernel
theorem d_RoomReader_readItems_111 : decode prog_9_method_6_code 111 = .ok (.iload_n 3, 1) := by decide +kernel
theorem d_RoomReader_readItems_112 : decode prog_9_method_6_code 112 = .ok (.iconst 1, 1) := by decide +kernel
theorem d_RoomReader_readItems_113 : decode prog_9_method_6_code 113 = .ok (.iload 5, 2) := by decide +kernel
theorem d_RoomReader_readItems_115 : decode prog_9_method_6_code 115 = .ok (.ishl, 1) := by decide +kernel
theorem d_RoomReader_readItems_116 : decode prog_9_method_6_code 116 = .ok (.ior, 1) := by decide +kernel
theorem d_RoomReader_readItems_117 : decode prog_9_method_6_code 117 = .ok (.istore_n 3, 1) := by decide +kernel
theorem d_RoomReader_readItems_118 : decode prog_9_method_6_code 118 = .ok (.aload_n 0, 1) := by decide +kernel
theorem d_RoomReader_readItems_119 : decode prog_9_method_6_code 119 = .ok (.getfield 15, 3) := by decide +kernel
theorem d_RoomReader_readItems_122 : decode prog_9_method_6_code 122 = .ok (.dup, 1) := by decide +kernel
theorem d_RoomReader_readItems_123 : decode prog_9_method_6_code 123 = .ok (.getfield 68, 3) := by decide +kernel
theorem d_RoomReader_readItems_126 : decode prog_9_method_6_code 126 = .ok (.iconst 1, 1) := by decide +kernel
theorem d_RoomReader_readItems_127 : decode prog_9_method_6_code 127 = .ok (.iadd, 1) := by decide +kernel
theorem d_RoomReader_readItems_128 : decode prog_9_method_6_code 128 = .ok (.putfield 68, 3) := by decide +kernel
theorem d_RoomReader_readItems_131 : decode prog_9_method_6_code 131 = .ok (.aload_n 0, 1) := by decide +kernel
theorem d_RoomReader_readItems_132 : decode prog_9_method_6_code 132 = .ok (.getfield 11, 3) := by decide +kernel
theorem d_RoomReader_readItems_135 : decode prog_9_method_6_code 135 = .ok (.iload 5, 2) := by decide +kernel
theorem d_RoomReader_readItems_137 : decode prog_9_method_6_code 137 = .ok (.aload_n 0, 1) := by decide +kernel
theorem d_RoomReader_readItems_138 : decode prog_9_method_6_code 138 = .ok (.getfield 15, 3) := by decide +kernel
theorem d_RoomReader_readItems_141 : decode prog_9_method_6_code 141 = .ok (.iconst 2, 1) := by decide +kernel
theorem d_RoomReader_readItems_142 : decode prog_9_method_6_code 142 = .ok (.invokevirtual 109, 3) := by decide +kernel
theorem d_RoomReader_readItems_145 : decode prog_9_method_6_code 145 = .ok (.iastore, 1) := by decide +kernel
theorem d_RoomReader_readItems_146 : decode prog_9_method_6_code 146 = .ok (.aload_n 0, 1) := by decide +kernel
theorem d_RoomReader_readItems_147 : decode prog_9_method_6_code 147 = .ok (.getfield 11, 3) := by decide +kernel
theorem d_RoomReader_readItems_150 : decode prog_9_method_6_code 150 = .ok (.iload 5, 2) := by decide +kernel
theorem d_RoomReader_readItems_152 : decode prog_9_method_6_code 152 = .ok (.iaload, 1) := by decide +kernel
theorem d_RoomReader_readItems_153 : decode prog_9_method_6_code 153 = .ok (.getstatic 113, 3) := by decide +kernel
theorem d_RoomReader_readItems_156 : decode prog_9_method_6_code 156 = .ok (.iload_n 2, 1) := by decide +kernel
theorem d_RoomReader_readItems_157 : decode prog_9_method_6_code 157 = .ok (.iload 5, 2) := by decide +kernel
theorem d_RoomReader_readItems_159 : decode prog_9_method_6_code 159 = .ok (.iadd, 1) := by decide +kernel
theorem d_RoomReader_readItems_160 : decode prog_9_method_6_code 160 = .ok (.iaload, 1) := by decide +kernel
theorem d_RoomReader_readItems_161 : decode prog_9_method_6_code 161 = .ok (.if_icmp .lt 25, 3) := by decide +kernel
theorem d_RoomReader_readItems_164 : decode prog_9_method_6_code 164 = .ok (.aload_n 0, 1) := by decide +kernel
theorem d_RoomReader_readItems_165 : decode prog_9_method_6_code 165 = .ok (.getfield 11, 3) := by decide +kernel
theorem d_RoomReader_readItems_168 : decode prog_9_method_6_code 168 = .ok (.iload 5, 2) := by decide +kernel
theorem d_RoomReader_readItems_170 : decode prog_9_method_6_code 170 = .ok (.iaload, 1) := by decide +kernel
theorem d_RoomReader_readItems_171 : decode prog_9_method_6_code 171 = .ok (.getstatic 116, 3) := by decide +kernel
theorem d_RoomReader_readItems_174 : decode prog_9_method_6_code 174 = .ok (.iload_n 2, 1) := by decide +kernel
theorem d_RoomReader_readItems_175 : decode prog_9_method_6_code 175 = .ok (.iload 5, 2) := by decide +kernel
theorem d_RoomReader_readItems_177 : decode prog_9_method_6_code 177 = .ok (.iadd, 1) := by decide +kernel
theorem d_RoomReader_readItems_178 : decode prog_9_method_6_code 178 = .ok (.iaload, 1) := by decide +kernel
theorem d_RoomReader_readItems_179 : decode prog_9_method_6_code 179 = .ok (.if_icmp .gt 7, 3) := by decide +kernel
theorem d_RoomReader_readItems_182 : decode prog_9_method_6_code 182 = .ok (.iconst 1, 1) := by decide +kernel
theorem d_RoomReader_readItems_183 : decode prog_9_method_6_code 183 = .ok (.goto 4, 3) := by decide +kernel
theorem d_RoomReader_readItems_186 : decode prog_9_method_6_code 186 = .ok (.iconst 0, 1) := by decide +kernel
theorem d_RoomReader_readItems_187 : decode prog_9_method_6_code 187 = .ok (.istore 6, 2) := by decide +kernel
theorem d_RoomReader_readItems_189 : decode prog_9_method_6_code 189 = .ok (.iload 6, 2) := by decide +kernel
theorem d_RoomReader_readItems_191 : decode prog_9_method_6_code 191 = .ok (.ifCond .ne 19, 3) := by decide +kernel
theorem d_RoomReader_readItems_194 : decode prog_9_method_6_code 194 = .ok (.aload_n 0, 1) := by decide +kernel
theorem d_RoomReader_readItems_195 : decode prog_9_method_6_code 195 = .ok (.getfield 15, 3) := by decide +kernel
theorem d_RoomReader_readItems_198 : decode prog_9_method_6_code 198 = .ok (.aload_n 0, 1) := by decide +kernel
theorem d_RoomReader_readItems_199 : decode prog_9_method_6_code 199 = .ok (.getfield 15, 3) := by decide +kernel
theorem d_RoomReader_readItems_202 : decode prog_9_method_6_code 202 = .ok (.getfield 68, 3) := by decide +kernel
theorem d_RoomReader_readItems_205 : decode prog_9_method_6_code 205 = .ok (.iconst 1, 1) := by decide +kernel
theorem d_RoomReader_readItems_206 : decode prog_9_method_6_code 206 = .ok (.isub, 1) := by decide +kernel
theorem d_RoomReader_readItems_207 : decode prog_9_method_6_code 207 = .ok (.invokevirtual 51, 3) := by decide +kernel
theorem d_RoomReader_readItems_210 : decode prog_9_method_6_code 210 = .ok (.iinc 4 1, 3) := by decide +kernel
theorem d_RoomReader_readItems_213 : decode prog_9_method_6_code 213 = .ok (.goto (-165), 3) := by decide +kernel
theorem d_RoomReader_readItems_216 : decode prog_9_method_6_code 216 = .ok (.return_, 1) := by decide +kernel
def s_RoomReader_readItems_216 (p0 : Int32) (σ : LH) : Option (LH) :=
  some σ
theorem b_RoomReader_readItems_216 {G : XG} {l : Launch} {p : Program} {e : Env} {R : Room} {s : State} {m : MethodId} {args : Array Value} {below : List Frame} {meth : Method} {c : Code} (C : XC G 1 570 p s m args c prog_9_method_6_code 7 R_RoomReader) (hr : meth.sig.returnType = none) (hk : meth.locks = false) {d : Nat} (hd : 10 ≤ d + 1) (hR : xroom R (d + 1)) {p0 : Int32} {σ' : LH} {σ : LH} (h0 : s_RoomReader_readItems_216 p0 σ = some σ') : XJ G 1 570 p l e R s m args below meth c 7 (XQ G 1 570 below args s none σ') 0 0 216 [] [] σ := by
  replace h0 := (show _ = _ from h0)
  unfold s_RoomReader_readItems_216 at h0
  exact x_vret C hr hk h0 d_RoomReader_readItems_216
def s_RoomReader_readItems_96 (p0 : Int32) (σ : LH) : Option (LH) :=
  xb1 (s_Tape_fail (σ.1 2 2) σ) fun σ16 =>
  some σ16
theorem b_RoomReader_readItems_96 {G : XG} {l : Launch} {p : Program} {e : Env} {R : Room} {s : State} {m : MethodId} {args : Array Value} {below : List Frame} {meth : Method} {c : Code} (C : XC G 1 570 p s m args c prog_9_method_6_code 7 R_RoomReader) (hr : meth.sig.returnType = none) (hk : meth.locks = false) {d : Nat} (hd : 10 ≤ d + 1) (hR : xroom R (d + 1)) {p0 : Int32} {σ' : LH} {σ : LH} (h0 : s_RoomReader_readItems_96 p0 σ = some σ') : XJ G 1 570 p l e R s m args below meth c 7 (XQ G 1 570 below args s none σ') 0 0 96 [(0, .ref (G.2.2.1 + 26))] [] σ := by
  replace h0 := (show _ = _ from h0)
  unfold s_RoomReader_readItems_96 at h0
  refine x_aload_n C d_RoomReader_readItems_96 0 rfl ?_
  refine x_getA (y := 2) C fg_RoomReader_15 k_26 rfl d_RoomReader_readItems_97 ?_
  refine x_aload_n C d_RoomReader_readItems_100 0 rfl ?_
  refine x_getA (y := 2) C fg_RoomReader_15 k_26 rfl d_RoomReader_readItems_101 ?_
  refine x_getI (y := 0) C fg_RoomReader_68 k_2 rfl d_RoomReader_readItems_104 ?_
  obtain ⟨σ16, k15, h0⟩ := xbind1 h0
  refine x_callVv C hR (c_Tape_fail (d := d) (by omega) k15) cw_RoomReader_51 k_2 rfl rfl rfl (Nat.le_of_ble_eq_true rfl) ⟨Nat.zero_le _, Nat.zero_le _⟩ d_RoomReader_readItems_107 ?_
  exact x_vret C hr hk h0 d_RoomReader_readItems_110
def s_RoomReader_readItems_210 (p0 : Int32) (rec48 : Int32 → Int32 → Int32 → LH → Option (LH)) (y2 : Int32) (y3 : Int32) (y4 : Int32) (σ : LH) : Option (LH) :=
  xl ((y4 + 1) : Int32) fun x32 =>
  rec48 y2 y3 x32 σ
theorem b_RoomReader_readItems_210 {G : XG} {l : Launch} {p : Program} {e : Env} {R : Room} {s : State} {m : MethodId} {args : Array Value} {below : List Frame} {meth : Method} {c : Code} (C : XC G 1 570 p s m args c prog_9_method_6_code 7 R_RoomReader) (hr : meth.sig.returnType = none) (hk : meth.locks = false) {d : Nat} (hd : 10 ≤ d + 1) (hR : xroom R (d + 1)) {p0 : Int32} {rec48 : Int32 → Int32 → Int32 → LH → Option (LH)} {σ' : LH} (hrec48 : ∀ (y2 : Int32) (y3 : Int32) (y4 : Int32) (σ : LH), rec48 y2 y3 y4 σ = some σ' → XJ G 1 570 p l e R s m args below meth c 7 (XQ G 1 570 below args s none σ') 0 0 48 [(0, .ref (G.2.2.1 + 26)), (1, .int p0), (2, .int y2), (3, .int y3), (4, .int y4)] [] σ) {y2 : Int32} {y3 : Int32} {y4 : Int32} {σ : LH} (h0 : s_RoomReader_readItems_210 p0 rec48 y2 y3 y4 σ = some σ') : XJ G 1 570 p l e R s m args below meth c 7 (XQ G 1 570 below args s none σ') 0 0 210 [(0, .ref (G.2.2.1 + 26)), (1, .int p0), (2, .int y2), (3, .int y3), (4, .int y4)] [] σ := by
  replace h0 := (show _ = _ from h0)
  unfold s_RoomReader_readItems_210 at h0
  obtain ⟨x32, ex32, h0⟩ := xlet h0
  refine x_iinc (lv' := [(4, .int x32), (0, .ref (G.2.2.1 + 26)), (1, .int p0), (2, .int y2), (3, .int y3)]) C d_RoomReader_readItems_210 4 rfl ex32 (by decide) rfl ?_
  refine x_goto C 48 d_RoomReader_readItems_213 (by decide) ?_
  exact x_lv C [1, 2, 3, 4, 0] rfl (hrec48 _ _ _ _ h0)
def s_RoomReader_readItems_187 (p0 : Int32) (rec48 : Int32 → Int32 → Int32 → LH → Option (LH)) (y2 : Int32) (y3 : Int32) (y4 : Int32) (z0 : Int32) (σ : LH) : Option (LH) :=
  if z0 = 0 then (
   xb1 (s_Tape_fail ((σ.1 2 2) - 1) σ) fun σ31 =>
   s_RoomReader_readItems_210 p0 rec48 y2 y3 y4 σ31)
  else (
   s_RoomReader_readItems_210 p0 rec48 y2 y3 y4 σ)
theorem b_RoomReader_readItems_187 {G : XG} {l : Launch} {p : Program} {e : Env} {R : Room} {s : State} {m : MethodId} {args : Array Value} {below : List Frame} {meth : Method} {c : Code} (C : XC G 1 570 p s m args c prog_9_method_6_code 7 R_RoomReader) (hr : meth.sig.returnType = none) (hk : meth.locks = false) {d : Nat} (hd : 10 ≤ d + 1) (hR : xroom R (d + 1)) {p0 : Int32} {rec48 : Int32 → Int32 → Int32 → LH → Option (LH)} {σ' : LH} (hrec48 : ∀ (y2 : Int32) (y3 : Int32) (y4 : Int32) (σ : LH), rec48 y2 y3 y4 σ = some σ' → XJ G 1 570 p l e R s m args below meth c 7 (XQ G 1 570 below args s none σ') 0 0 48 [(0, .ref (G.2.2.1 + 26)), (1, .int p0), (2, .int y2), (3, .int y3), (4, .int y4)] [] σ) {y2 : Int32} {y3 : Int32} {y4 : Int32} {z0 : Int32} {σ : LH} (h0 : s_RoomReader_readItems_187 p0 rec48 y2 y3 y4 z0 σ = some σ') : XJ G 1 570 p l e R s m args below meth c 7 (XQ G 1 570 below args s none σ') 0 0 187 [(0, .ref (G.2.2.1 + 26)), (1, .int p0), (2, .int y2), (3, .int y3), (4, .int y4)] [.int z0] σ := by
  replace h0 := (show _ = _ from h0)
  unfold s_RoomReader_readItems_187 at h0
  refine x_istore (lv' := [(6, .int z0), (0, .ref (G.2.2.1 + 26)), (1, .int p0), (2, .int y2), (3, .int y3), (4, .int y4)]) C d_RoomReader_readItems_187 (by decide) rfl ?_
  refine x_iload C d_RoomReader_readItems_189 0 rfl ?_
  refine x_if_ne C 210 d_RoomReader_readItems_191 (by decide) (fun q29 => ?_) (fun q29 => ?_)
  · replace h0 := xif q29 h0
    exact x_lv C [1, 2, 3, 4, 5] rfl (b_RoomReader_readItems_210 C hr hk hd hR hrec48 h0)
  · replace h0 := xit q29 h0
    refine x_aload_n C d_RoomReader_readItems_194 1 rfl ?_
    refine x_getA (y := 2) C fg_RoomReader_15 k_26 rfl d_RoomReader_readItems_195 ?_
    refine x_aload_n C d_RoomReader_readItems_198 1 rfl ?_
    refine x_getA (y := 2) C fg_RoomReader_15 k_26 rfl d_RoomReader_readItems_199 ?_
    refine x_getI (y := 0) C fg_RoomReader_68 k_2 rfl d_RoomReader_readItems_202 ?_
    refine x_iconst (v := 1) C d_RoomReader_readItems_205 (by decide) ?_
    refine x_isub C d_RoomReader_readItems_206 ?_
    obtain ⟨σ31, k30, h0⟩ := xbind1 h0
    refine x_callVv C hR (c_Tape_fail (d := d) (by omega) k30) cw_RoomReader_51 k_2 rfl rfl rfl (Nat.le_of_ble_eq_true rfl) ⟨Nat.zero_le _, Nat.zero_le _⟩ d_RoomReader_readItems_207 ?_
    exact x_lv C [1, 2, 3, 4, 5] rfl (b_RoomReader_readItems_210 C hr hk hd hR hrec48 h0)
def s_RoomReader_readItems_186 (p0 : Int32) (rec48 : Int32 → Int32 → Int32 → LH → Option (LH)) (y2 : Int32) (y3 : Int32) (y4 : Int32) (σ : LH) : Option (LH) :=
  s_RoomReader_readItems_187 p0 rec48 y2 y3 y4 0 σ
theorem b_RoomReader_readItems_186 {G : XG} {l : Launch} {p : Program} {e : Env} {R : Room} {s : State} {m : MethodId} {args : Array Value} {below : List Frame} {meth : Method} {c : Code} (C : XC G 1 570 p s m args c prog_9_method_6_code 7 R_RoomReader) (hr : meth.sig.returnType = none) (hk : meth.locks = false) {d : Nat} (hd : 10 ≤ d + 1) (hR : xroom R (d + 1)) {p0 : Int32} {rec48 : Int32 → Int32 → Int32 → LH → Option (LH)} {σ' : LH} (hrec48 : ∀ (y2 : Int32) (y3 : Int32) (y4 : Int32) (σ : LH), rec48 y2 y3 y4 σ = some σ' → XJ G 1 570 p l e R s m args below meth c 7 (XQ G 1 570 below args s none σ') 0 0 48 [(0, .ref (G.2.2.1 + 26)), (1, .int p0), (2, .int y2), (3, .int y3), (4, .int y4)] [] σ) {y2 : Int32} {y3 : Int32} {y4 : Int32} {σ : LH} (h0 : s_RoomReader_readItems_186 p0 rec48 y2 y3 y4 σ = some σ') : XJ G 1 570 p l e R s m args below meth c 7 (XQ G 1 570 below args s none σ') 0 0 186 [(0, .ref (G.2.2.1 + 26)), (1, .int p0), (2, .int y2), (3, .int y3), (4, .int y4)] [] σ := by
  replace h0 := (show _ = _ from h0)
  unfold s_RoomReader_readItems_186 at h0
  refine x_iconst (v := 0) C d_RoomReader_readItems_186 (by decide) ?_
  exact x_lv C [0, 1, 2, 3, 4] rfl (b_RoomReader_readItems_187 C hr hk hd hR hrec48 h0)
def s_RoomReader_readItems_48_b (p0 : Int32) (rec48 : Int32 → Int32 → Int32 → LH → Option (LH)) (y2 : Int32) (y3 : Int32) (y4 : Int32) (σ : LH) : Option (LH) :=
  if 240 ≤ y4 then (
   s_RoomReader_readItems_216 p0 σ)
  else (
   xb2 (s_RoomReader_isClauseOver σ) fun r5 σ6 =>
   if r5 = 0 then (
    xb2 (s_RoomReader_lettersOf p0 σ6) fun r9 σ10 =>
    xb2 (s_Tape_letter r9 σ10) fun r12 σ13 =>
    if r12 < 0 then (
     s_RoomReader_readItems_96 p0 σ13)
    else (
     if 4 ≤ r12 then (
      s_RoomReader_readItems_96 p0 σ13)
     else (
      if ((y3 >>> (r12 &&& 31)) &&& 1) = 0 then (
       xl (((y3 ||| (1 <<< (r12 &&& 31)))) : Int32) fun x19 =>
       xl ((stI σ13 2 2 ((σ13.1 2 2) + 1)) : LH) fun σ20 =>
       xb2 (s_Tape_number 2 σ20) fun r22 σ23 =>
       if ib r12 4 then (
       xl ((stI σ23 27 (Int32.toNatClampNeg r12) r22) : LH) fun σ25 =>
       if ib r12 4 then (
       if ib (y2 + r12) 16 then (
       if (σ25.1 27 (Int32.toNatClampNeg r12)) < ((xtab.getD 0 []).getD (Int32.toNatClampNeg (y2 + r12)) 0) then (
        s_RoomReader_readItems_186 p0 rec48 y2 x19 y4 σ25)
       else (
        if ib r12 4 then (
        if ib (y2 + r12) 16 then (
        if ((xtab.getD 1 []).getD (Int32.toNatClampNeg (y2 + r12)) 0) < (σ25.1 27 (Int32.toNatClampNeg r12)) then (
         s_RoomReader_readItems_186 p0 rec48 y2 x19 y4 σ25)
        else (
         s_RoomReader_readItems_187 p0 rec48 y2 x19 y4 1 σ25)) else none) else none)) else none) else none) else none)
      else (
       s_RoomReader_readItems_96 p0 σ13))))
   else (
    s_RoomReader_readItems_216 p0 σ6))
def s_RoomReader_readItems_48 (p0 : Int32) : Nat → Int32 → Int32 → Int32 → LH → Option (LH)
  | 0, _, _, _, _ => none
  | n + 1, y2, y3, y4, σ => s_RoomReader_readItems_48_b p0 (s_RoomReader_readItems_48 p0 n) y2 y3 y4 σ
theorem bb_RoomReader_readItems_48 {G : XG} {l : Launch} {p : Program} {e : Env} {R : Room} {s : State} {m : MethodId} {args : Array Value} {below : List Frame} {meth : Method} {c : Code} (C : XC G 1 570 p s m args c prog_9_method_6_code 7 R_RoomReader) (hr : meth.sig.returnType = none) (hk : meth.locks = false) {d : Nat} (hd : 10 ≤ d + 1) (hR : xroom R (d + 1)) {p0 : Int32} {rec48 : Int32 → Int32 → Int32 → LH → Option (LH)} {σ' : LH} (hrec48 : ∀ (y2 : Int32) (y3 : Int32) (y4 : Int32) (σ : LH), rec48 y2 y3 y4 σ = some σ' → XJ G 1 570 p l e R s m args below meth c 7 (XQ G 1 570 below args s none σ') 0 0 48 [(0, .ref (G.2.2.1 + 26)), (1, .int p0), (2, .int y2), (3, .int y3), (4, .int y4)] [] σ) {y2 : Int32} {y3 : Int32} {y4 : Int32} {σ : LH} (h0 : s_RoomReader_readItems_48_b p0 rec48 y2 y3 y4 σ = some σ') : XJ G 1 570 p l e R s m args below meth c 7 (XQ G 1 570 below args s none σ') 0 0 48 [(0, .ref (G.2.2.1 + 26)), (1, .int p0), (2, .int y2), (3, .int y3), (4, .int y4)] [] σ := by
  replace h0 := (show _ = _ from h0)
  unfold s_RoomReader_readItems_48_b at h0
  refine x_iload C d_RoomReader_readItems_48 4 rfl ?_
  refine x_sipush (v := 240) C d_RoomReader_readItems_50 (by decide) ?_
  refine x_icmp_ge C 216 d_RoomReader_readItems_53 (by decide) (fun q3 => ?_) (fun q3 => ?_)
  · replace h0 := xit q3 h0
    exact x_lv C [] rfl (b_RoomReader_readItems_216 C hr hk hd hR h0)
  · replace h0 := xif q3 h0
    refine x_aload_n C d_RoomReader_readItems_56 0 rfl ?_
    obtain ⟨r5, σ6, k4, h0⟩ := xbind2 h0
    refine x_callVi C hR (c_RoomReader_isClauseOver (d := d) (by omega) k4) cw_RoomReader_102 k_26 rfl rfl rfl (Nat.le_of_ble_eq_true rfl) ⟨Nat.zero_le _, Nat.zero_le _⟩ d_RoomReader_readItems_57 ?_
    refine x_if_ne C 216 d_RoomReader_readItems_60 (by decide) (fun q7 => ?_) (fun q7 => ?_)
    · replace h0 := xif q7 h0
      exact x_lv C [] rfl (b_RoomReader_readItems_216 C hr hk hd hR h0)
    · replace h0 := xit q7 h0
      refine x_aload_n C d_RoomReader_readItems_63 0 rfl ?_
      refine x_getA (y := 2) C fg_RoomReader_15 k_26 rfl d_RoomReader_readItems_64 ?_
      refine x_iload_n C d_RoomReader_readItems_67 1 rfl ?_
      obtain ⟨r9, σ10, k8, h0⟩ := xbind2 h0
      refine x_callSr C hR (c_RoomReader_lettersOf (d := d) (by omega) k8) cw_RoomReader_105 w_791 rfl rfl (Nat.le_of_ble_eq_true rfl) ⟨Nat.zero_le _, Nat.zero_le _⟩ d_RoomReader_readItems_68 ?_
      have hr9 : r9 < 10 := p_RoomReader_lettersOf k8
      obtain ⟨r12, σ13, k11, h0⟩ := xbind2 h0
      refine x_callVi C hR (c_Tape_letter (d := d) (by omega) hr9 k11) cw_RoomReader_60 k_2 rfl rfl rfl (Nat.le_of_ble_eq_true rfl) ⟨Nat.zero_le _, Nat.zero_le _⟩ d_RoomReader_readItems_71 ?_
      refine x_istore (lv' := [(5, .int r12), (0, .ref (G.2.2.1 + 26)), (1, .int p0), (2, .int y2), (3, .int y3), (4, .int y4)]) C d_RoomReader_readItems_74 (by decide) rfl ?_
      refine x_iload C d_RoomReader_readItems_76 0 rfl ?_
      refine x_if_lt C 96 d_RoomReader_readItems_78 (by decide) (fun q14 => ?_) (fun q14 => ?_)
      · replace h0 := xit q14 h0
        exact x_lv C [1] rfl (b_RoomReader_readItems_96 C hr hk hd hR h0)
      · replace h0 := xif q14 h0
        refine x_iload C d_RoomReader_readItems_81 0 rfl ?_
        refine x_iconst (v := 4) C d_RoomReader_readItems_83 (by decide) ?_
        refine x_icmp_ge C 96 d_RoomReader_readItems_84 (by decide) (fun q17 => ?_) (fun q17 => ?_)
        · replace h0 := xit q17 h0
          exact x_lv C [1] rfl (b_RoomReader_readItems_96 C hr hk hd hR h0)
        · replace h0 := xif q17 h0
          refine x_iload_n C d_RoomReader_readItems_87 4 rfl ?_
          refine x_iload C d_RoomReader_readItems_88 0 rfl ?_
          refine x_ishr C d_RoomReader_readItems_90 ?_
          refine x_iconst (v := 1) C d_RoomReader_readItems_91 (by decide) ?_
          refine x_iand C d_RoomReader_readItems_92 ?_
          refine x_if_eq C 111 d_RoomReader_readItems_93 (by decide) (fun q18 => ?_) (fun q18 => ?_)
          · replace h0 := xit q18 h0
            refine x_iload_n C d_RoomReader_readItems_111 4 rfl ?_
            refine x_iconst (v := 1) C d_RoomReader_readItems_112 (by decide) ?_
            refine x_iload C d_RoomReader_readItems_113 0 rfl ?_
            refine x_ishl C d_RoomReader_readItems_115 ?_
            refine x_ior C d_RoomReader_readItems_116 ?_
            obtain ⟨x19, ex19, h0⟩ := xlet h0
            refine x_name C ex19 ?_
            refine x_istore_n (lv' := [(3, .int x19), (5, .int r12), (0, .ref (G.2.2.1 + 26)), (1, .int p0), (2, .int y2), (4, .int y4)]) C d_RoomReader_readItems_117 rfl (by decide) rfl ?_
            refine x_aload_n C d_RoomReader_readItems_118 2 rfl ?_
            refine x_getA (y := 2) C fg_RoomReader_15 k_26 rfl d_RoomReader_readItems_119 ?_
            refine x_dup C d_RoomReader_readItems_122 rfl ?_
            refine x_getI (y := 0) C fg_RoomReader_68 k_2 rfl d_RoomReader_readItems_123 ?_
            refine x_iconst (v := 1) C d_RoomReader_readItems_126 (by decide) ?_
            refine x_iadd C d_RoomReader_readItems_127 ?_
            refine x_putI (y := 0) C fp_RoomReader_68 k_2 rfl rfl rfl d_RoomReader_readItems_128 ?_
            obtain ⟨σ20, eσ20, h0⟩ := xlet h0
            refine x_sig C eσ20 ?_
            refine x_aload_n C d_RoomReader_readItems_131 2 rfl ?_
            refine x_getA (y := 27) C fg_RoomReader_11 k_26 rfl d_RoomReader_readItems_132 ?_
            refine x_iload C d_RoomReader_readItems_135 1 rfl ?_
            refine x_aload_n C d_RoomReader_readItems_137 2 rfl ?_
            refine x_getA (y := 2) C fg_RoomReader_15 k_26 rfl d_RoomReader_readItems_138 ?_
            refine x_iconst (v := 2) C d_RoomReader_readItems_141 (by decide) ?_
            obtain ⟨r22, σ23, k21, h0⟩ := xbind2 h0
            refine x_callVi C hR (c_Tape_number (d := d) (by omega) k21) cw_RoomReader_109 k_2 rfl rfl rfl (Nat.le_of_ble_eq_true rfl) ⟨Nat.zero_le _, Nat.zero_le _⟩ d_RoomReader_readItems_142 ?_
            obtain ⟨g24, h0⟩ := xgo h0
            refine x_iast C k_27 (ib_in g24) d_RoomReader_readItems_145 ?_
            obtain ⟨σ25, eσ25, h0⟩ := xlet h0
            refine x_sig C eσ25 ?_
            refine x_aload_n C d_RoomReader_readItems_146 2 rfl ?_
            refine x_getA (y := 27) C fg_RoomReader_11 k_26 rfl d_RoomReader_readItems_147 ?_
            refine x_iload C d_RoomReader_readItems_150 1 rfl ?_
            obtain ⟨g26, h0⟩ := xgo h0
            refine x_iald C k_27 (ib_in g26) d_RoomReader_readItems_152 ?_
            refine x_gets (k := 0) C (by decide) rfl w_806 d_RoomReader_readItems_153 ?_
            refine x_iload_n C d_RoomReader_readItems_156 4 rfl ?_
            refine x_iload C d_RoomReader_readItems_157 1 rfl ?_
            refine x_iadd C d_RoomReader_readItems_159 ?_
            obtain ⟨g27, h0⟩ := xgo h0
            refine x_stald C (by decide) (ib_in g27) d_RoomReader_readItems_160 ?_
            refine x_icmp_lt C 186 d_RoomReader_readItems_161 (by decide) (fun q28 => ?_) (fun q28 => ?_)
            · replace h0 := xit q28 h0
              exact x_lv C [2, 3, 4, 0, 5] rfl (b_RoomReader_readItems_186 C hr hk hd hR hrec48 h0)
            · replace h0 := xif q28 h0
              refine x_aload_n C d_RoomReader_readItems_164 2 rfl ?_
              refine x_getA (y := 27) C fg_RoomReader_11 k_26 rfl d_RoomReader_readItems_165 ?_
              refine x_iload C d_RoomReader_readItems_168 1 rfl ?_
              obtain ⟨g33, h0⟩ := xgo h0
              refine x_iald C k_27 (ib_in g33) d_RoomReader_readItems_170 ?_
              refine x_gets (k := 1) C (by decide) rfl w_808 d_RoomReader_readItems_171 ?_
              refine x_iload_n C d_RoomReader_readItems_174 4 rfl ?_
              refine x_iload C d_RoomReader_readItems_175 1 rfl ?_
              refine x_iadd C d_RoomReader_readItems_177 ?_
              obtain ⟨g34, h0⟩ := xgo h0
              refine x_stald C (by decide) (ib_in g34) d_RoomReader_readItems_178 ?_
              refine x_icmp_gt C 186 d_RoomReader_readItems_179 (by decide) (fun q35 => ?_) (fun q35 => ?_)
              · replace h0 := xit q35 h0
                exact x_lv C [2, 3, 4, 0, 5] rfl (b_RoomReader_readItems_186 C hr hk hd hR hrec48 h0)
              · replace h0 := xif q35 h0
                refine x_iconst (v := 1) C d_RoomReader_readItems_182 (by decide) ?_
                refine x_goto C 187 d_RoomReader_readItems_183 (by decide) ?_
                exact x_lv C [2, 3, 4, 0, 5] rfl (b_RoomReader_readItems_187 C hr hk hd hR hrec48 h0)
          · replace h0 := xif q18 h0
            exact x_lv C [1] rfl (b_RoomReader_readItems_96 C hr hk hd hR h0)
theorem b_RoomReader_readItems_48 {G : XG} {l : Launch} {p : Program} {e : Env} {R : Room} {s : State} {m : MethodId} {args : Array Value} {below : List Frame} {meth : Method} {c : Code} (C : XC G 1 570 p s m args c prog_9_method_6_code 7 R_RoomReader) (hr : meth.sig.returnType = none) (hk : meth.locks = false) {d : Nat} (hd : 10 ≤ d + 1) (hR : xroom R (d + 1)) {p0 : Int32} {σ' : LH} : ∀ (n : Nat) (y2 : Int32) (y3 : Int32) (y4 : Int32) (σ : LH), s_RoomReader_readItems_48 p0 n y2 y3 y4 σ = some σ' → XJ G 1 570 p l e R s m args below meth c 7 (XQ G 1 570 below args s none σ') 0 0 48 [(0, .ref (G.2.2.1 + 26)), (1, .int p0), (2, .int y2), (3, .int y3), (4, .int y4)] [] σ := by
  intro n
  induction n with
  | zero => intro y2 y3 y4 σ h0; cases h0
  | succ n ih => intro y2 y3 y4 σ h0; exact bb_RoomReader_readItems_48 C hr hk hd hR ih h0
def s_RoomReader_readItems_19_b (p0 : Int32) (rec19 : Int32 → Int32 → LH → Option (LH)) (y2 : Int32) (y3 : Int32) (σ : LH) : Option (LH) :=
  if 4 ≤ y3 then (
   s_RoomReader_readItems_48 p0 FUEL y2 0 0 σ)
  else (
   if ib (y2 + y3) 16 then (
   if ib y3 4 then (
   xl ((stI σ 27 (Int32.toNatClampNeg y3) ((xtab.getD 2 []).getD (Int32.toNatClampNeg (y2 + y3)) 0)) : LH) fun σ38 =>
   xl ((y3 + 1) : Int32) fun x39 =>
   rec19 y2 x39 σ38) else none) else none)
def s_RoomReader_readItems_19 (p0 : Int32) : Nat → Int32 → Int32 → LH → Option (LH)
  | 0, _, _, _ => none
  | n + 1, y2, y3, σ => s_RoomReader_readItems_19_b p0 (s_RoomReader_readItems_19 p0 n) y2 y3 σ
theorem bb_RoomReader_readItems_19 {G : XG} {l : Launch} {p : Program} {e : Env} {R : Room} {s : State} {m : MethodId} {args : Array Value} {below : List Frame} {meth : Method} {c : Code} (C : XC G 1 570 p s m args c prog_9_method_6_code 7 R_RoomReader) (hr : meth.sig.returnType = none) (hk : meth.locks = false) {d : Nat} (hd : 10 ≤ d + 1) (hR : xroom R (d + 1)) {p0 : Int32} {rec19 : Int32 → Int32 → LH → Option (LH)} {σ' : LH} (hrec19 : ∀ (y2 : Int32) (y3 : Int32) (σ : LH), rec19 y2 y3 σ = some σ' → XJ G 1 570 p l e R s m args below meth c 7 (XQ G 1 570 below args s none σ') 0 0 19 [(0, .ref (G.2.2.1 + 26)), (1, .int p0), (2, .int y2), (3, .int y3)] [] σ) {y2 : Int32} {y3 : Int32} {σ : LH} (h0 : s_RoomReader_readItems_19_b p0 rec19 y2 y3 σ = some σ') : XJ G 1 570 p l e R s m args below meth c 7 (XQ G 1 570 below args s none σ') 0 0 19 [(0, .ref (G.2.2.1 + 26)), (1, .int p0), (2, .int y2), (3, .int y3)] [] σ := by
  replace h0 := (show _ = _ from h0)
  unfold s_RoomReader_readItems_19_b at h0
  refine x_iload_n C d_RoomReader_readItems_19 3 rfl ?_
  refine x_iconst (v := 4) C d_RoomReader_readItems_20 (by decide) ?_
  refine x_icmp_ge C 43 d_RoomReader_readItems_21 (by decide) (fun q2 => ?_) (fun q2 => ?_)
  · replace h0 := xit q2 h0
    refine x_iconst (v := 0) C d_RoomReader_readItems_43 (by decide) ?_
    refine x_istore_n (lv' := [(3, .int 0), (0, .ref (G.2.2.1 + 26)), (1, .int p0), (2, .int y2)]) C d_RoomReader_readItems_44 rfl (by decide) rfl ?_
    refine x_iconst (v := 0) C d_RoomReader_readItems_45 (by decide) ?_
    refine x_istore (lv' := [(4, .int 0), (3, .int 0), (0, .ref (G.2.2.1 + 26)), (1, .int p0), (2, .int y2)]) C d_RoomReader_readItems_46 (by decide) rfl ?_
    exact x_lv C [2, 3, 4, 1, 0] rfl (b_RoomReader_readItems_48 C hr hk hd hR FUEL _ _ _ _ h0)
  · replace h0 := xif q2 h0
    refine x_aload_n C d_RoomReader_readItems_24 0 rfl ?_
    refine x_getA (y := 27) C fg_RoomReader_11 k_26 rfl d_RoomReader_readItems_25 ?_
    refine x_iload_n C d_RoomReader_readItems_28 3 rfl ?_
    refine x_gets (k := 2) C (by decide) rfl w_674 d_RoomReader_readItems_29 ?_
    refine x_iload_n C d_RoomReader_readItems_32 2 rfl ?_
    refine x_iload_n C d_RoomReader_readItems_33 3 rfl ?_
    refine x_iadd C d_RoomReader_readItems_34 ?_
    obtain ⟨g36, h0⟩ := xgo h0
    refine x_stald C (by decide) (ib_in g36) d_RoomReader_readItems_35 ?_
    obtain ⟨g37, h0⟩ := xgo h0
    refine x_iast C k_27 (ib_in g37) d_RoomReader_readItems_36 ?_
    obtain ⟨σ38, eσ38, h0⟩ := xlet h0
    refine x_sig C eσ38 ?_
    obtain ⟨x39, ex39, h0⟩ := xlet h0
    refine x_iinc (lv' := [(3, .int x39), (0, .ref (G.2.2.1 + 26)), (1, .int p0), (2, .int y2)]) C d_RoomReader_readItems_37 3 rfl ex39 (by decide) rfl ?_
    refine x_goto C 19 d_RoomReader_readItems_40 (by decide) ?_
    exact x_lv C [1, 2, 3, 0] rfl (hrec19 _ _ _ h0)
theorem b_RoomReader_readItems_19 {G : XG} {l : Launch} {p : Program} {e : Env} {R : Room} {s : State} {m : MethodId} {args : Array Value} {below : List Frame} {meth : Method} {c : Code} (C : XC G 1 570 p s m args c prog_9_method_6_code 7 R_RoomReader) (hr : meth.sig.returnType = none) (hk : meth.locks = false) {d : Nat} (hd : 10 ≤ d + 1) (hR : xroom R (d + 1)) {p0 : Int32} {σ' : LH} : ∀ (n : Nat) (y2 : Int32) (y3 : Int32) (σ : LH), s_RoomReader_readItems_19 p0 n y2 y3 σ = some σ' → XJ G 1 570 p l e R s m args below meth c 7 (XQ G 1 570 below args s none σ') 0 0 19 [(0, .ref (G.2.2.1 + 26)), (1, .int p0), (2, .int y2), (3, .int y3)] [] σ := by
  intro n
  induction n with
  | zero => intro y2 y3 σ h0; cases h0
  | succ n ih => intro y2 y3 σ h0; exact bb_RoomReader_readItems_19 C hr hk hd hR ih h0
def s_RoomReader_readItems_16 (p0 : Int32) (z0 : Int32) (σ : LH) : Option (LH) :=
  s_RoomReader_readItems_19 p0 FUEL z0 0 σ
theorem b_RoomReader_readItems_16 {G : XG} {l : Launch} {p : Program} {e : Env} {R : Room} {s : State} {m : MethodId} {args : Array Value} {below : List Frame} {meth : Method} {c : Code} (C : XC G 1 570 p s m args c prog_9_method_6_code 7 R_RoomReader) (hr : meth.sig.returnType = none) (hk : meth.locks = false) {d : Nat} (hd : 10 ≤ d + 1) (hR : xroom R (d + 1)) {p0 : Int32} {σ' : LH} {z0 : Int32} {σ : LH} (h0 : s_RoomReader_readItems_16 p0 z0 σ = some σ') : XJ G 1 570 p l e R s m args below meth c 7 (XQ G 1 570 below args s none σ') 0 0 16 [(0, .ref (G.2.2.1 + 26)), (1, .int p0)] [.int z0] σ := by
  replace h0 := (show _ = _ from h0)
  unfold s_RoomReader_readItems_16 at h0
  refine x_istore_n (lv' := [(2, .int z0), (0, .ref (G.2.2.1 + 26)), (1, .int p0)]) C d_RoomReader_readItems_16 rfl (by decide) rfl ?_
  refine x_iconst (v := 0) C d_RoomReader_readItems_17 (by decide) ?_
  refine x_istore_n (lv' := [(3, .int 0), (2, .int z0), (0, .ref (G.2.2.1 + 26)), (1, .int p0)]) C d_RoomReader_readItems_18 rfl (by decide) rfl ?_
  exact x_lv C [2, 3, 1, 0] rfl (b_RoomReader_readItems_19 C hr hk hd hR FUEL _ _ _ h0)
def s_RoomReader_readItems_15 (p0 : Int32) (σ : LH) : Option (LH) :=
  s_RoomReader_readItems_16 p0 0 σ
theorem b_RoomReader_readItems_15 {G : XG} {l : Launch} {p : Program} {e : Env} {R : Room} {s : State} {m : MethodId} {args : Array Value} {below : List Frame} {meth : Method} {c : Code} (C : XC G 1 570 p s m args c prog_9_method_6_code 7 R_RoomReader) (hr : meth.sig.returnType = none) (hk : meth.locks = false) {d : Nat} (hd : 10 ≤ d + 1) (hR : xroom R (d + 1)) {p0 : Int32} {σ' : LH} {σ : LH} (h0 : s_RoomReader_readItems_15 p0 σ = some σ') : XJ G 1 570 p l e R s m args below meth c 7 (XQ G 1 570 below args s none σ') 0 0 15 [(0, .ref (G.2.2.1 + 26)), (1, .int p0)] [] σ := by
  replace h0 := (show _ = _ from h0)
  unfold s_RoomReader_readItems_15 at h0
  refine x_iconst (v := 0) C d_RoomReader_readItems_15 (by decide) ?_
  exact x_lv C [0, 1] rfl (b_RoomReader_readItems_16 C hr hk hd hR h0)
def s_RoomReader_readItems (p0 : Int32) (σ : LH) : Option (LH) :=
  if p0 < 0 then (
   s_RoomReader_readItems_15 p0 σ)
  else (
   if 3 < p0 then (
    s_RoomReader_readItems_15 p0 σ)
   else (
    s_RoomReader_readItems_16 p0 (p0 * 4) σ))
theorem c_RoomReader_readItems {G : XG} {l : Launch} {d : Nat} (hd : 10 ≤ d) {p0 : Int32} {σ σ' : LH} (h0 : s_RoomReader_readItems p0 σ = some σ') : xM G 1 570 l y_RoomReader_readItems prog_9_method_6_code 7 none d [.ref (G.2.2.1 + 26), .int p0] σ none σ' := by
  obtain ⟨d, rfl⟩ : ∃ q, d = q + 1 := ⟨d - 1, by omega⟩
  refine x_met R_RoomReader rfl (by decide +kernel) (Nat.le_of_ble_eq_true rfl) fun p e s m below meth c C hr hk hR => ?_
  refine x_lv (lv' := [(0, .ref (G.2.2.1 + 26)), (1, .int p0)]) C [0, 1] rfl ?_
  generalize xrm (d + 1) = R at hR ⊢
  unfold s_RoomReader_readItems at h0
  refine x_iload_n C d_RoomReader_readItems_0 1 rfl ?_
  refine x_if_lt C 15 d_RoomReader_readItems_1 (by decide) (fun q1 => ?_) (fun q1 => ?_)
  · replace h0 := xit q1 h0
    exact x_lv C [0, 1] rfl (b_RoomReader_readItems_15 C hr hk hd hR h0)
  · replace h0 := xif q1 h0
    refine x_iload_n C d_RoomReader_readItems_4 1 rfl ?_
    refine x_iconst (v := 3) C d_RoomReader_readItems_5 (by decide) ?_
    refine x_icmp_gt C 15 d_RoomReader_readItems_6 (by decide) (fun q40 => ?_) (fun q40 => ?_)
    · replace h0 := xit q40 h0
      exact x_lv C [0, 1] rfl (b_RoomReader_readItems_15 C hr hk hd hR h0)
    · replace h0 := xif q40 h0
      refine x_iload_n C d_RoomReader_readItems_9 1 rfl ?_
      refine x_iconst (v := 4) C d_RoomReader_readItems_10 (by decide) ?_
      refine x_imul C d_RoomReader_readItems_11 ?_
      refine x_goto C 16 d_RoomReader_readItems_12 (by decide) ?_
      exact x_lv C [0, 1] rfl (b_RoomReader_readItems_16 C hr hk hd hR h0)
-- LostPlaces$Room.addSeat(III)V
theorem d_Room_addSeat_0 : decode prog_8_method_4_code 0 = .ok (.aload_n 0, 1) := by decide +kernel
theorem d_Room_addSeat_1 : decode prog_8_method_4_code 1 = .ok (.getfield 9, 3) := by decide +kernel
theorem d_Room_addSeat_4 : decode prog_8_method_4_code 4 = .ok (.ifCond .lt 12, 3) := by decide +kernel
theorem d_Room_addSeat_7 : decode prog_8_method_4_code 7 = .ok (.aload_n 0, 1) := by decide +kernel
theorem d_Room_addSeat_8 : decode prog_8_method_4_code 8 = .ok (.getfield 9, 3) := by decide +kernel
theorem d_Room_addSeat_11 : decode prog_8_method_4_code 11 = .ok (.bipush 8, 2) := by decide +kernel
theorem d_Room_addSeat_13 : decode prog_8_method_4_code 13 = .ok (.if_icmp .lt 4, 3) := by decide +kernel
theorem d_Room_addSeat_16 : decode prog_8_method_4_code 16 = .ok (.return_, 1) := by decide +kernel
theorem d_Room_addSeat_17 : decode prog_8_method_4_code 17 = .ok (.aload_n 0, 1) := by decide +kernel
theorem d_Room_addSeat_18 : decode prog_8_method_4_code 18 = .ok (.getfield 24, 3) := by decide +kernel
theorem d_Room_addSeat_21 : decode prog_8_method_4_code 21 = .ok (.aload_n 0, 1) := by decide +kernel
theorem d_Room_addSeat_22 : decode prog_8_method_4_code 22 = .ok (.getfield 9, 3) := by decide +kernel
theorem d_Room_addSeat_25 : decode prog_8_method_4_code 25 = .ok (.iload_n 1, 1) := by decide +kernel
theorem d_Room_addSeat_26 : decode prog_8_method_4_code 26 = .ok (.iastore, 1) := by decide +kernel
theorem d_Room_addSeat_27 : decode prog_8_method_4_code 27 = .ok (.aload_n 0, 1) := by decide +kernel
theorem d_Room_addSeat_28 : decode prog_8_method_4_code 28 = .ok (.getfield 28, 3) := by decide +kernel
theorem d_Room_addSeat_31 : decode prog_8_method_4_code 31 = .ok (.aload_n 0, 1) := by decide +kernel
theorem d_Room_addSeat_32 : decode prog_8_method_4_code 32 = .ok (.getfield 9, 3) := by decide +kernel
theorem d_Room_addSeat_35 : decode prog_8_method_4_code 35 = .ok (.iload_n 2, 1) := by decide +kernel
theorem d_Room_addSeat_36 : decode prog_8_method_4_code 36 = .ok (.iastore, 1) := by decide +kernel
theorem d_Room_addSeat_37 : decode prog_8_method_4_code 37 = .ok (.aload_n 0, 1) := by decide +kernel
theorem d_Room_addSeat_38 : decode prog_8_method_4_code 38 = .ok (.getfield 31, 3) := by decide +kernel
theorem d_Room_addSeat_41 : decode prog_8_method_4_code 41 = .ok (.aload_n 0, 1) := by decide +kernel
theorem d_Room_addSeat_42 : decode prog_8_method_4_code 42 = .ok (.getfield 9, 3) := by decide +kernel
theorem d_Room_addSeat_45 : decode prog_8_method_4_code 45 = .ok (.iload_n 3, 1) := by decide +kernel
theorem d_Room_addSeat_46 : decode prog_8_method_4_code 46 = .ok (.iastore, 1) := by decide +kernel
theorem d_Room_addSeat_47 : decode prog_8_method_4_code 47 = .ok (.aload_n 0, 1) := by decide +kernel
theorem d_Room_addSeat_48 : decode prog_8_method_4_code 48 = .ok (.dup, 1) := by decide +kernel
theorem d_Room_addSeat_49 : decode prog_8_method_4_code 49 = .ok (.getfield 9, 3) := by decide +kernel
theorem d_Room_addSeat_52 : decode prog_8_method_4_code 52 = .ok (.iconst 1, 1) := by decide +kernel
theorem d_Room_addSeat_53 : decode prog_8_method_4_code 53 = .ok (.iadd, 1) := by decide +kernel
theorem d_Room_addSeat_54 : decode prog_8_method_4_code 54 = .ok (.putfield 9, 3) := by decide +kernel
theorem d_Room_addSeat_57 : decode prog_8_method_4_code 57 = .ok (.return_, 1) := by decide +kernel
def s_Room_addSeat_16 (rm : Nat) (p0 : Int32) (p1 : Int32) (p2 : Int32) (σ : LH) : Option (LH) :=
  some σ
theorem b_Room_addSeat_16 {G : XG} {l : Launch} {p : Program} {e : Env} {R : Room} {s : State} {m : MethodId} {args : Array Value} {below : List Frame} {meth : Method} {c : Code} (C : XC G 1 570 p s m args c prog_8_method_4_code 4 R_Room) (hr : meth.sig.returnType = none) (hk : meth.locks = false) {d : Nat} (hd : 1 ≤ d + 1) (hR : xroom R (d + 1)) {rm : Nat} {p0 : Int32} {p1 : Int32} {p2 : Int32} (hrm : rm ∈ xRooms) {σ' : LH} {σ : LH} (h0 : s_Room_addSeat_16 rm p0 p1 p2 σ = some σ') : XJ G 1 570 p l e R s m args below meth c 4 (XQ G 1 570 below args s none σ') 0 0 16 [] [] σ := by
  replace h0 := (show _ = _ from h0)
  unfold s_Room_addSeat_16 at h0
  exact x_vret C hr hk h0 d_Room_addSeat_16
def s_Room_addSeat (rm : Nat) (p0 : Int32) (p1 : Int32) (p2 : Int32) (σ : LH) : Option (LH) :=
  if (σ.1 rm 0) < 0 then (
   s_Room_addSeat_16 rm p0 p1 p2 σ)
  else (
   if (σ.1 rm 0) < 8 then (
    if ib (σ.1 rm 0) 8 then (
    xl ((stI σ (rm + 1) (Int32.toNatClampNeg (σ.1 rm 0)) p0) : LH) fun σ4 =>
    if ib (σ4.1 rm 0) 8 then (
    xl ((stI σ4 (rm + 2) (Int32.toNatClampNeg (σ4.1 rm 0)) p1) : LH) fun σ6 =>
    if ib (σ6.1 rm 0) 8 then (
    xl ((stI σ6 (rm + 3) (Int32.toNatClampNeg (σ6.1 rm 0)) p2) : LH) fun σ8 =>
    xl ((stI σ8 rm 0 ((σ8.1 rm 0) + 1)) : LH) fun σ9 =>
    some σ9) else none) else none) else none)
   else (
    s_Room_addSeat_16 rm p0 p1 p2 σ))
theorem c_Room_addSeat {G : XG} {l : Launch} {d : Nat} (hd : 1 ≤ d) {rm : Nat} {p0 : Int32} {p1 : Int32} {p2 : Int32} (hrm : rm ∈ xRooms) {σ σ' : LH} (h0 : s_Room_addSeat rm p0 p1 p2 σ = some σ') : xM G 1 570 l y_Room_addSeat prog_8_method_4_code 4 none d [.ref (G.2.2.1 + rm), .int p0, .int p1, .int p2] σ none σ' := by
  obtain ⟨d, rfl⟩ : ∃ q, d = q + 1 := ⟨d - 1, by omega⟩
  refine x_met R_Room rfl (by decide +kernel) (Nat.le_of_ble_eq_true rfl) fun p e s m below meth c C hr hk hR => ?_
  refine x_lv (lv' := [(0, .ref (G.2.2.1 + rm)), (1, .int p0), (2, .int p1), (3, .int p2)]) C [0, 1, 2, 3] rfl ?_
  generalize xrm (d + 1) = R at hR ⊢
  unfold s_Room_addSeat at h0
  refine x_aload_n C d_Room_addSeat_0 0 rfl ?_
  refine x_getI (y := 0) C fg_Room_9 (rm_0 hrm) rfl d_Room_addSeat_1 ?_
  refine x_if_lt C 16 d_Room_addSeat_4 (by decide) (fun q1 => ?_) (fun q1 => ?_)
  · replace h0 := xit q1 h0
    exact x_lv C [] rfl (b_Room_addSeat_16 C hr hk hd hR hrm h0)
  · replace h0 := xif q1 h0
    refine x_aload_n C d_Room_addSeat_7 0 rfl ?_
    refine x_getI (y := 0) C fg_Room_9 (rm_0 hrm) rfl d_Room_addSeat_8 ?_
    refine x_bipush (v := 8) C d_Room_addSeat_11 (by decide) ?_
    refine x_icmp_lt C 17 d_Room_addSeat_13 (by decide) (fun q2 => ?_) (fun q2 => ?_)
    · replace h0 := xit q2 h0
      refine x_aload_n C d_Room_addSeat_17 0 rfl ?_
      refine x_getR (y := 1) C fg_Room_24 (rm_0 hrm) rfl d_Room_addSeat_18 ?_
      refine x_aload_n C d_Room_addSeat_21 0 rfl ?_
      refine x_getI (y := 0) C fg_Room_9 (rm_0 hrm) rfl d_Room_addSeat_22 ?_
      refine x_iload_n C d_Room_addSeat_25 1 rfl ?_
      obtain ⟨g3, h0⟩ := xgo h0
      refine x_iast C (rm_1 hrm) (ib_in g3) d_Room_addSeat_26 ?_
      obtain ⟨σ4, eσ4, h0⟩ := xlet h0
      refine x_sig C eσ4 ?_
      refine x_aload_n C d_Room_addSeat_27 0 rfl ?_
      refine x_getR (y := 2) C fg_Room_28 (rm_0 hrm) rfl d_Room_addSeat_28 ?_
      refine x_aload_n C d_Room_addSeat_31 0 rfl ?_
      refine x_getI (y := 0) C fg_Room_9 (rm_0 hrm) rfl d_Room_addSeat_32 ?_
      refine x_iload_n C d_Room_addSeat_35 2 rfl ?_
      obtain ⟨g5, h0⟩ := xgo h0
      refine x_iast C (rm_2 hrm) (ib_in g5) d_Room_addSeat_36 ?_
      obtain ⟨σ6, eσ6, h0⟩ := xlet h0
      refine x_sig C eσ6 ?_
      refine x_aload_n C d_Room_addSeat_37 0 rfl ?_
      refine x_getR (y := 3) C fg_Room_31 (rm_0 hrm) rfl d_Room_addSeat_38 ?_
      refine x_aload_n C d_Room_addSeat_41 0 rfl ?_
      refine x_getI (y := 0) C fg_Room_9 (rm_0 hrm) rfl d_Room_addSeat_42 ?_
      refine x_iload_n C d_Room_addSeat_45 3 rfl ?_
      obtain ⟨g7, h0⟩ := xgo h0
      refine x_iast C (rm_3 hrm) (ib_in g7) d_Room_addSeat_46 ?_
      obtain ⟨σ8, eσ8, h0⟩ := xlet h0
      refine x_sig C eσ8 ?_
      refine x_aload_n C d_Room_addSeat_47 0 rfl ?_
      refine x_dup C d_Room_addSeat_48 rfl ?_
      refine x_getI (y := 0) C fg_Room_9 (rm_0 hrm) rfl d_Room_addSeat_49 ?_
      refine x_iconst (v := 1) C d_Room_addSeat_52 (by decide) ?_
      refine x_iadd C d_Room_addSeat_53 ?_
      refine x_putI (y := 0) C fp_Room_9 (rm_0 hrm) rfl rfl rfl d_Room_addSeat_54 ?_
      obtain ⟨σ9, eσ9, h0⟩ := xlet h0
      refine x_sig C eσ9 ?_
      exact x_vret C hr hk h0 d_Room_addSeat_57
    · replace h0 := xif q2 h0
      exact x_lv C [] rfl (b_Room_addSeat_16 C hr hk hd hR hrm h0)
-- LostPlaces$Room.addSitter(IIII)V
theorem d_Room_addSitter_0 : decode prog_8_method_5_code 0 = .ok (.aload_n 0, 1) := by decide +kernel
theorem d_Room_addSitter_1 : decode prog_8_method_5_code 1 = .ok (.getfield 15, 3) := by decide +kernel
theorem d_Room_addSitter_4 : decode prog_8_method_5_code 4 = .ok (.ifCond .lt 12, 3) := by decide +kernel
theorem d_Room_addSitter_7 : decode prog_8_method_5_code 7 = .ok (.aload_n 0, 1) := by decide +kernel
theorem d_Room_addSitter_8 : decode prog_8_method_5_code 8 = .ok (.getfield 15, 3) := by decide +kernel
theorem d_Room_addSitter_11 : decode prog_8_method_5_code 11 = .ok (.bipush 8, 2) := by decide +kernel
theorem d_Room_addSitter_13 : decode prog_8_method_5_code 13 = .ok (.if_icmp .lt 4, 3) := by decide +kernel
theorem d_Room_addSitter_16 : decode prog_8_method_5_code 16 = .ok (.return_, 1) := by decide +kernel
theorem d_Room_addSitter_17 : decode prog_8_method_5_code 17 = .ok (.aload_n 0, 1) := by decide +kernel
theorem d_Room_addSitter_18 : decode prog_8_method_5_code 18 = .ok (.getfield 34, 3) := by decide +kernel
theorem d_Room_addSitter_21 : decode prog_8_method_5_code 21 = .ok (.aload_n 0, 1) := by decide +kernel
theorem d_Room_addSitter_22 : decode prog_8_method_5_code 22 = .ok (.getfield 15, 3) := by decide +kernel
theorem d_Room_addSitter_25 : decode prog_8_method_5_code 25 = .ok (.iload_n 1, 1) := by decide +kernel
theorem d_Room_addSitter_26 : decode prog_8_method_5_code 26 = .ok (.iastore, 1) := by decide +kernel
theorem d_Room_addSitter_27 : decode prog_8_method_5_code 27 = .ok (.aload_n 0, 1) := by decide +kernel
theorem d_Room_addSitter_28 : decode prog_8_method_5_code 28 = .ok (.getfield 37, 3) := by decide +kernel
theorem d_Room_addSitter_31 : decode prog_8_method_5_code 31 = .ok (.aload_n 0, 1) := by decide +kernel
theorem d_Room_addSitter_32 : decode prog_8_method_5_code 32 = .ok (.getfield 15, 3) := by decide +kernel
theorem d_Room_addSitter_35 : decode prog_8_method_5_code 35 = .ok (.iload_n 2, 1) := by decide +kernel
theorem d_Room_addSitter_36 : decode prog_8_method_5_code 36 = .ok (.iastore, 1) := by decide +kernel
theorem d_Room_addSitter_37 : decode prog_8_method_5_code 37 = .ok (.aload_n 0, 1) := by decide +kernel
theorem d_Room_addSitter_38 : decode prog_8_method_5_code 38 = .ok (.getfield 40, 3) := by decide +kernel
theorem d_Room_addSitter_41 : decode prog_8_method_5_code 41 = .ok (.aload_n 0, 1) := by decide +kernel
theorem d_Room_addSitter_42 : decode prog_8_method_5_code 42 = .ok (.getfield 15, 3) := by decide +kernel
theorem d_Room_addSitter_45 : decode prog_8_method_5_code 45 = .ok (.iload_n 3, 1) := by decide +kernel
theorem d_Room_addSitter_46 : decode prog_8_method_5_code 46 = .ok (.iastore, 1) := by decide +kernel
theorem d_Room_addSitter_47 : decode prog_8_method_5_code 47 = .ok (.aload_n 0, 1) := by decide +kernel
theorem d_Room_addSitter_48 : decode prog_8_method_5_code 48 = .ok (.getfield 43, 3) := by decide +kernel
theorem d_Room_addSitter_51 : decode prog_8_method_5_code 51 = .ok (.aload_n 0, 1) := by decide +kernel
theorem d_Room_addSitter_52 : decode prog_8_method_5_code 52 = .ok (.getfield 15, 3) := by decide +kernel
theorem d_Room_addSitter_55 : decode prog_8_method_5_code 55 = .ok (.iload 4, 2) := by decide +kernel
theorem d_Room_addSitter_57 : decode prog_8_method_5_code 57 = .ok (.iastore, 1) := by decide +kernel
theorem d_Room_addSitter_58 : decode prog_8_method_5_code 58 = .ok (.aload_n 0, 1) := by decide +kernel
theorem d_Room_addSitter_59 : decode prog_8_method_5_code 59 = .ok (.dup, 1) := by decide +kernel
theorem d_Room_addSitter_60 : decode prog_8_method_5_code 60 = .ok (.getfield 15, 3) := by decide +kernel
theorem d_Room_addSitter_63 : decode prog_8_method_5_code 63 = .ok (.iconst 1, 1) := by decide +kernel
theorem d_Room_addSitter_64 : decode prog_8_method_5_code 64 = .ok (.iadd, 1) := by decide +kernel
theorem d_Room_addSitter_65 : decode prog_8_method_5_code 65 = .ok (.putfield 15, 3) := by decide +kernel
theorem d_Room_addSitter_68 : decode prog_8_method_5_code 68 = .ok (.return_, 1) := by decide +kernel
def s_Room_addSitter_16 (rm : Nat) (p0 : Int32) (p1 : Int32) (p2 : Int32) (p3 : Int32) (σ : LH) : Option (LH) :=
  some σ
theorem b_Room_addSitter_16 {G : XG} {l : Launch} {p : Program} {e : Env} {R : Room} {s : State} {m : MethodId} {args : Array Value} {below : List Frame} {meth : Method} {c : Code} (C : XC G 1 570 p s m args c prog_8_method_5_code 5 R_Room) (hr : meth.sig.returnType = none) (hk : meth.locks = false) {d : Nat} (hd : 1 ≤ d + 1) (hR : xroom R (d + 1)) {rm : Nat} {p0 : Int32} {p1 : Int32} {p2 : Int32} {p3 : Int32} (hrm : rm ∈ xRooms) {σ' : LH} {σ : LH} (h0 : s_Room_addSitter_16 rm p0 p1 p2 p3 σ = some σ') : XJ G 1 570 p l e R s m args below meth c 5 (XQ G 1 570 below args s none σ') 0 0 16 [] [] σ := by
  replace h0 := (show _ = _ from h0)
  unfold s_Room_addSitter_16 at h0
  exact x_vret C hr hk h0 d_Room_addSitter_16
def s_Room_addSitter (rm : Nat) (p0 : Int32) (p1 : Int32) (p2 : Int32) (p3 : Int32) (σ : LH) : Option (LH) :=
  if (σ.1 rm 1) < 0 then (
   s_Room_addSitter_16 rm p0 p1 p2 p3 σ)
  else (
   if (σ.1 rm 1) < 8 then (
    if ib (σ.1 rm 1) 8 then (
    xl ((stI σ (rm + 4) (Int32.toNatClampNeg (σ.1 rm 1)) p0) : LH) fun σ4 =>
    if ib (σ4.1 rm 1) 8 then (
    xl ((stI σ4 (rm + 5) (Int32.toNatClampNeg (σ4.1 rm 1)) p1) : LH) fun σ6 =>
    if ib (σ6.1 rm 1) 8 then (
    xl ((stI σ6 (rm + 6) (Int32.toNatClampNeg (σ6.1 rm 1)) p2) : LH) fun σ8 =>
    if ib (σ8.1 rm 1) 8 then (
    xl ((stI σ8 (rm + 7) (Int32.toNatClampNeg (σ8.1 rm 1)) p3) : LH) fun σ10 =>
    xl ((stI σ10 rm 1 ((σ10.1 rm 1) + 1)) : LH) fun σ11 =>
    some σ11) else none) else none) else none) else none)
   else (
    s_Room_addSitter_16 rm p0 p1 p2 p3 σ))
theorem c_Room_addSitter {G : XG} {l : Launch} {d : Nat} (hd : 1 ≤ d) {rm : Nat} {p0 : Int32} {p1 : Int32} {p2 : Int32} {p3 : Int32} (hrm : rm ∈ xRooms) {σ σ' : LH} (h0 : s_Room_addSitter rm p0 p1 p2 p3 σ = some σ') : xM G 1 570 l y_Room_addSitter prog_8_method_5_code 5 none d [.ref (G.2.2.1 + rm), .int p0, .int p1, .int p2, .int p3] σ none σ' := by
  obtain ⟨d, rfl⟩ : ∃ q, d = q + 1 := ⟨d - 1, by omega⟩
  refine x_met R_Room rfl (by decide +kernel) (Nat.le_of_ble_eq_true rfl) fun p e s m below meth c C hr hk hR => ?_
  refine x_lv (lv' := [(0, .ref (G.2.2.1 + rm)), (1, .int p0), (2, .int p1), (3, .int p2), (4, .int p3)]) C [0, 1, 2, 3, 4] rfl ?_
  generalize xrm (d + 1) = R at hR ⊢
  unfold s_Room_addSitter at h0
  refine x_aload_n C d_Room_addSitter_0 0 rfl ?_
  refine x_getI (y := 0) C fg_Room_15 (rm_0 hrm) rfl d_Room_addSitter_1 ?_
  refine x_if_lt C 16 d_Room_addSitter_4 (by decide) (fun q1 => ?_) (fun q1 => ?_)
  · replace h0 := xit q1 h0
    exact x_lv C [] rfl (b_Room_addSitter_16 C hr hk hd hR hrm h0)
  · replace h0 := xif q1 h0
    refine x_aload_n C d_Room_addSitter_7 0 rfl ?_
    refine x_getI (y := 0) C fg_Room_15 (rm_0 hrm) rfl d_Room_addSitter_8 ?_
    refine x_bipush (v := 8) C d_Room_addSitter_11 (by decide) ?_
    refine x_icmp_lt C 17 d_Room_addSitter_13 (by decide) (fun q2 => ?_) (fun q2 => ?_)
    · replace h0 := xit q2 h0
      refine x_aload_n C d_Room_addSitter_17 0 rfl ?_
      refine x_getR (y := 4) C fg_Room_34 (rm_0 hrm) rfl d_Room_addSitter_18 ?_
      refine x_aload_n C d_Room_addSitter_21 0 rfl ?_
      refine x_getI (y := 0) C fg_Room_15 (rm_0 hrm) rfl d_Room_addSitter_22 ?_
      refine x_iload_n C d_Room_addSitter_25 1 rfl ?_
      obtain ⟨g3, h0⟩ := xgo h0
      refine x_iast C (rm_4 hrm) (ib_in g3) d_Room_addSitter_26 ?_
      obtain ⟨σ4, eσ4, h0⟩ := xlet h0
      refine x_sig C eσ4 ?_
      refine x_aload_n C d_Room_addSitter_27 0 rfl ?_
      refine x_getR (y := 5) C fg_Room_37 (rm_0 hrm) rfl d_Room_addSitter_28 ?_
      refine x_aload_n C d_Room_addSitter_31 0 rfl ?_
      refine x_getI (y := 0) C fg_Room_15 (rm_0 hrm) rfl d_Room_addSitter_32 ?_
      refine x_iload_n C d_Room_addSitter_35 2 rfl ?_
      obtain ⟨g5, h0⟩ := xgo h0
      refine x_iast C (rm_5 hrm) (ib_in g5) d_Room_addSitter_36 ?_
      obtain ⟨σ6, eσ6, h0⟩ := xlet h0
      refine x_sig C eσ6 ?_
      refine x_aload_n C d_Room_addSitter_37 0 rfl ?_
      refine x_getR (y := 6) C fg_Room_40 (rm_0 hrm) rfl d_Room_addSitter_38 ?_
      refine x_aload_n C d_Room_addSitter_41 0 rfl ?_
      refine x_getI (y := 0) C fg_Room_15 (rm_0 hrm) rfl d_Room_addSitter_42 ?_
      refine x_iload_n C d_Room_addSitter_45 3 rfl ?_
      obtain ⟨g7, h0⟩ := xgo h0
      refine x_iast C (rm_6 hrm) (ib_in g7) d_Room_addSitter_46 ?_
      obtain ⟨σ8, eσ8, h0⟩ := xlet h0
      refine x_sig C eσ8 ?_
      refine x_aload_n C d_Room_addSitter_47 0 rfl ?_
      refine x_getR (y := 7) C fg_Room_43 (rm_0 hrm) rfl d_Room_addSitter_48 ?_
      refine x_aload_n C d_Room_addSitter_51 0 rfl ?_
      refine x_getI (y := 0) C fg_Room_15 (rm_0 hrm) rfl d_Room_addSitter_52 ?_
      refine x_iload C d_Room_addSitter_55 4 rfl ?_
      obtain ⟨g9, h0⟩ := xgo h0
      refine x_iast C (rm_7 hrm) (ib_in g9) d_Room_addSitter_57 ?_
      obtain ⟨σ10, eσ10, h0⟩ := xlet h0
      refine x_sig C eσ10 ?_
      refine x_aload_n C d_Room_addSitter_58 0 rfl ?_
      refine x_dup C d_Room_addSitter_59 rfl ?_
      refine x_getI (y := 0) C fg_Room_15 (rm_0 hrm) rfl d_Room_addSitter_60 ?_
      refine x_iconst (v := 1) C d_Room_addSitter_63 (by decide) ?_
      refine x_iadd C d_Room_addSitter_64 ?_
      refine x_putI (y := 0) C fp_Room_15 (rm_0 hrm) rfl rfl rfl d_Room_addSitter_65 ?_
      obtain ⟨σ11, eσ11, h0⟩ := xlet h0
      refine x_sig C eσ11 ?_
      exact x_vret C hr hk h0 d_Room_addSitter_68
    · replace h0 := xif q2 h0
      exact x_lv C [] rfl (b_Room_addSitter_16 C hr hk hd hR hrm h0)
-- LostPlaces$Room.addGoing(III)V
theorem d_Room_addGoing_0 : decode prog_8_method_6_code 0 = .ok (.aload_n 0, 1) := by decide +kernel
theorem d_Room_addGoing_1 : decode prog_8_method_6_code 1 = .ok (.getfield 18, 3) := by decide +kernel
theorem d_Room_addGoing_4 : decode prog_8_method_6_code 4 = .ok (.ifCond .lt 12, 3) := by decide +kernel
theorem d_Room_addGoing_7 : decode prog_8_method_6_code 7 = .ok (.aload_n 0, 1) := by decide +kernel
theorem d_Room_addGoing_8 : decode prog_8_method_6_code 8 = .ok (.getfield 18, 3) := by decide +kernel
theorem d_Room_addGoing_11 : decode prog_8_method_6_code 11 = .ok (.bipush 10, 2) := by decide +kernel
theorem d_Room_addGoing_13 : decode prog_8_method_6_code 13 = .ok (.if_icmp .lt 4, 3) := by decide +kernel
theorem d_Room_addGoing_16 : decode prog_8_method_6_code 16 = .ok (.return_, 1) := by decide +kernel
theorem d_Room_addGoing_17 : decode prog_8_method_6_code 17 = .ok (.aload_n 0, 1) := by decide +kernel
theorem d_Room_addGoing_18 : decode prog_8_method_6_code 18 = .ok (.getfield 46, 3) := by decide +kernel
theorem d_Room_addGoing_21 : decode prog_8_method_6_code 21 = .ok (.aload_n 0, 1) := by decide +kernel
theorem d_Room_addGoing_22 : decode prog_8_method_6_code 22 = .ok (.getfield 18, 3) := by decide +kernel
theorem d_Room_addGoing_25 : decode prog_8_method_6_code 25 = .ok (.iload_n 1, 1) := by decide +kernel
theorem d_Room_addGoing_26 : decode prog_8_method_6_code 26 = .ok (.iastore, 1) := by decide +kernel
theorem d_Room_addGoing_27 : decode prog_8_method_6_code 27 = .ok (.aload_n 0, 1) := by decide +kernel
theorem d_Room_addGoing_28 : decode prog_8_method_6_code 28 = .ok (.getfield 49, 3) := by decide +kernel
theorem d_Room_addGoing_31 : decode prog_8_method_6_code 31 = .ok (.aload_n 0, 1) := by decide +kernel
theorem d_Room_addGoing_32 : decode prog_8_method_6_code 32 = .ok (.getfield 18, 3) := by decide +kernel
theorem d_Room_addGoing_35 : decode prog_8_method_6_code 35 = .ok (.iload_n 2, 1) := by decide +kernel
theorem d_Room_addGoing_36 : decode prog_8_method_6_code 36 = .ok (.iastore, 1) := by decide +kernel
theorem d_Room_addGoing_37 : decode prog_8_method_6_code 37 = .ok (.aload_n 0, 1) := by decide +kernel
theorem d_Room_addGoing_38 : decode prog_8_method_6_code 38 = .ok (.getfield 52, 3) := by decide +kernel
theorem d_Room_addGoing_41 : decode prog_8_method_6_code 41 = .ok (.aload_n 0, 1) := by decide +kernel
theorem d_Room_addGoing_42 : decode prog_8_method_6_code 42 = .ok (.getfield 18, 3) := by decide +kernel
theorem d_Room_addGoing_45 : decode prog_8_method_6_code 45 = .ok (.iload_n 3, 1) := by decide +kernel
theorem d_Room_addGoing_46 : decode prog_8_method_6_code 46 = .ok (.iastore, 1) := by decide +kernel
theorem d_Room_addGoing_47 : decode prog_8_method_6_code 47 = .ok (.aload_n 0, 1) := by decide +kernel
theorem d_Room_addGoing_48 : decode prog_8_method_6_code 48 = .ok (.dup, 1) := by decide +kernel
theorem d_Room_addGoing_49 : decode prog_8_method_6_code 49 = .ok (.getfield 18, 3) := by decide +kernel
theorem d_Room_addGoing_52 : decode prog_8_method_6_code 52 = .ok (.iconst 1, 1) := by decide +kernel
theorem d_Room_addGoing_53 : decode prog_8_method_6_code 53 = .ok (.iadd, 1) := by decide +kernel
theorem d_Room_addGoing_54 : decode prog_8_method_6_code 54 = .ok (.putfield 18, 3) := by decide +kernel
theorem d_Room_addGoing_57 : decode prog_8_method_6_code 57 = .ok (.return_, 1) := by decide +kernel
def s_Room_addGoing_16 (rm : Nat) (p0 : Int32) (p1 : Int32) (p2 : Int32) (σ : LH) : Option (LH) :=
  some σ
theorem b_Room_addGoing_16 {G : XG} {l : Launch} {p : Program} {e : Env} {R : Room} {s : State} {m : MethodId} {args : Array Value} {below : List Frame} {meth : Method} {c : Code} (C : XC G 1 570 p s m args c prog_8_method_6_code 4 R_Room) (hr : meth.sig.returnType = none) (hk : meth.locks = false) {d : Nat} (hd : 1 ≤ d + 1) (hR : xroom R (d + 1)) {rm : Nat} {p0 : Int32} {p1 : Int32} {p2 : Int32} (hrm : rm ∈ xRooms) {σ' : LH} {σ : LH} (h0 : s_Room_addGoing_16 rm p0 p1 p2 σ = some σ') : XJ G 1 570 p l e R s m args below meth c 4 (XQ G 1 570 below args s none σ') 0 0 16 [] [] σ := by
  replace h0 := (show _ = _ from h0)
  unfold s_Room_addGoing_16 at h0
  exact x_vret C hr hk h0 d_Room_addGoing_16
def s_Room_addGoing (rm : Nat) (p0 : Int32) (p1 : Int32) (p2 : Int32) (σ : LH) : Option (LH) :=
  if (σ.1 rm 2) < 0 then (
   s_Room_addGoing_16 rm p0 p1 p2 σ)
  else (
   if (σ.1 rm 2) < 10 then (
    if ib (σ.1 rm 2) 10 then (
    xl ((stI σ (rm + 8) (Int32.toNatClampNeg (σ.1 rm 2)) p0) : LH) fun σ4 =>
    if ib (σ4.1 rm 2) 10 then (
    xl ((stI σ4 (rm + 9) (Int32.toNatClampNeg (σ4.1 rm 2)) p1) : LH) fun σ6 =>
    if ib (σ6.1 rm 2) 10 then (
    xl ((stI σ6 (rm + 10) (Int32.toNatClampNeg (σ6.1 rm 2)) p2) : LH) fun σ8 =>
    xl ((stI σ8 rm 2 ((σ8.1 rm 2) + 1)) : LH) fun σ9 =>
    some σ9) else none) else none) else none)
   else (
    s_Room_addGoing_16 rm p0 p1 p2 σ))
theorem c_Room_addGoing {G : XG} {l : Launch} {d : Nat} (hd : 1 ≤ d) {rm : Nat} {p0 : Int32} {p1 : Int32} {p2 : Int32} (hrm : rm ∈ xRooms) {σ σ' : LH} (h0 : s_Room_addGoing rm p0 p1 p2 σ = some σ') : xM G 1 570 l y_Room_addGoing prog_8_method_6_code 4 none d [.ref (G.2.2.1 + rm), .int p0, .int p1, .int p2] σ none σ' := by
  obtain ⟨d, rfl⟩ : ∃ q, d = q + 1 := ⟨d - 1, by omega⟩
  refine x_met R_Room rfl (by decide +kernel) (Nat.le_of_ble_eq_true rfl) fun p e s m below meth c C hr hk hR => ?_
  refine x_lv (lv' := [(0, .ref (G.2.2.1 + rm)), (1, .int p0), (2, .int p1), (3, .int p2)]) C [0, 1, 2, 3] rfl ?_
  generalize xrm (d + 1) = R at hR ⊢
  unfold s_Room_addGoing at h0
  refine x_aload_n C d_Room_addGoing_0 0 rfl ?_
  refine x_getI (y := 0) C fg_Room_18 (rm_0 hrm) rfl d_Room_addGoing_1 ?_
  refine x_if_lt C 16 d_Room_addGoing_4 (by decide) (fun q1 => ?_) (fun q1 => ?_)
  · replace h0 := xit q1 h0
    exact x_lv C [] rfl (b_Room_addGoing_16 C hr hk hd hR hrm h0)
  · replace h0 := xif q1 h0
    refine x_aload_n C d_Room_addGoing_7 0 rfl ?_
    refine x_getI (y := 0) C fg_Room_18 (rm_0 hrm) rfl d_Room_addGoing_8 ?_
    refine x_bipush (v := 10) C d_Room_addGoing_11 (by decide) ?_
    refine x_icmp_lt C 17 d_Room_addGoing_13 (by decide) (fun q2 => ?_) (fun q2 => ?_)
    · replace h0 := xit q2 h0
      refine x_aload_n C d_Room_addGoing_17 0 rfl ?_
      refine x_getR (y := 8) C fg_Room_46 (rm_0 hrm) rfl d_Room_addGoing_18 ?_
      refine x_aload_n C d_Room_addGoing_21 0 rfl ?_
      refine x_getI (y := 0) C fg_Room_18 (rm_0 hrm) rfl d_Room_addGoing_22 ?_
      refine x_iload_n C d_Room_addGoing_25 1 rfl ?_
      obtain ⟨g3, h0⟩ := xgo h0
      refine x_iast C (rm_8 hrm) (ib_in g3) d_Room_addGoing_26 ?_
      obtain ⟨σ4, eσ4, h0⟩ := xlet h0
      refine x_sig C eσ4 ?_
      refine x_aload_n C d_Room_addGoing_27 0 rfl ?_
      refine x_getR (y := 9) C fg_Room_49 (rm_0 hrm) rfl d_Room_addGoing_28 ?_
      refine x_aload_n C d_Room_addGoing_31 0 rfl ?_
      refine x_getI (y := 0) C fg_Room_18 (rm_0 hrm) rfl d_Room_addGoing_32 ?_
      refine x_iload_n C d_Room_addGoing_35 2 rfl ?_
      obtain ⟨g5, h0⟩ := xgo h0
      refine x_iast C (rm_9 hrm) (ib_in g5) d_Room_addGoing_36 ?_
      obtain ⟨σ6, eσ6, h0⟩ := xlet h0
      refine x_sig C eσ6 ?_
      refine x_aload_n C d_Room_addGoing_37 0 rfl ?_
      refine x_getR (y := 10) C fg_Room_52 (rm_0 hrm) rfl d_Room_addGoing_38 ?_
      refine x_aload_n C d_Room_addGoing_41 0 rfl ?_
      refine x_getI (y := 0) C fg_Room_18 (rm_0 hrm) rfl d_Room_addGoing_42 ?_
      refine x_iload_n C d_Room_addGoing_45 3 rfl ?_
      obtain ⟨g7, h0⟩ := xgo h0
      refine x_iast C (rm_10 hrm) (ib_in g7) d_Room_addGoing_46 ?_
      obtain ⟨σ8, eσ8, h0⟩ := xlet h0
      refine x_sig C eσ8 ?_
      refine x_aload_n C d_Room_addGoing_47 0 rfl ?_
      refine x_dup C d_Room_addGoing_48 rfl ?_
      refine x_getI (y := 0) C fg_Room_18 (rm_0 hrm) rfl d_Room_addGoing_49 ?_
      refine x_iconst (v := 1) C d_Room_addGoing_52 (by decide) ?_
      refine x_iadd C d_Room_addGoing_53 ?_
      refine x_putI (y := 0) C fp_Room_18 (rm_0 hrm) rfl rfl rfl d_Room_addGoing_54 ?_
      obtain ⟨σ9, eσ9, h0⟩ := xlet h0
      refine x_sig C eσ9 ?_
      exact x_vret C hr hk h0 d_Room_addGoing_57
    · replace h0 := xif q2 h0
      exact x_lv C [] rfl (b_Room_addGoing_16 C hr hk hd hR hrm h0)
-- LostPlaces$RoomReader.store(LLostPlaces$Room;I)V
theorem d_RoomReader_store_0 : decode prog_9_method_8_code 0 = .ok (.iload_n 2, 1) := by decide +kernel
theorem d_RoomReader_store_1 : decode prog_9_method_8_code 1 = .ok (.tableswitch 108 0 2 #[27, 52, 83], 27) := by decide +kernel
theorem d_RoomReader_store_28 : decode prog_9_method_8_code 28 = .ok (.aload_n 1, 1) := by decide +kernel
theorem d_RoomReader_store_29 : decode prog_9_method_8_code 29 = .ok (.aload_n 0, 1) := by decide +kernel
theorem d_RoomReader_store_30 : decode prog_9_method_8_code 30 = .ok (.getfield 11, 3) := by decide +kernel
theorem d_RoomReader_store_33 : decode prog_9_method_8_code 33 = .ok (.iconst 0, 1) := by decide +kernel
theorem d_RoomReader_store_34 : decode prog_9_method_8_code 34 = .ok (.iaload, 1) := by decide +kernel
theorem d_RoomReader_store_35 : decode prog_9_method_8_code 35 = .ok (.aload_n 0, 1) := by decide +kernel
theorem d_RoomReader_store_36 : decode prog_9_method_8_code 36 = .ok (.getfield 11, 3) := by decide +kernel
theorem d_RoomReader_store_39 : decode prog_9_method_8_code 39 = .ok (.iconst 1, 1) := by decide +kernel
theorem d_RoomReader_store_40 : decode prog_9_method_8_code 40 = .ok (.iaload, 1) := by decide +kernel
theorem d_RoomReader_store_41 : decode prog_9_method_8_code 41 = .ok (.aload_n 0, 1) := by decide +kernel
theorem d_RoomReader_store_42 : decode prog_9_method_8_code 42 = .ok (.getfield 11, 3) := by decide +kernel
theorem d_RoomReader_store_45 : decode prog_9_method_8_code 45 = .ok (.iconst 2, 1) := by decide +kernel
theorem d_RoomReader_store_46 : decode prog_9_method_8_code 46 = .ok (.iaload, 1) := by decide +kernel
theorem d_RoomReader_store_47 : decode prog_9_method_8_code 47 = .ok (.invokevirtual 123, 3) := by decide +kernel
theorem d_RoomReader_store_50 : decode prog_9_method_8_code 50 = .ok (.goto 85, 3) := by decide +kernel
theorem d_RoomReader_store_53 : decode prog_9_method_8_code 53 = .ok (.aload_n 1, 1) := by decide +kernel
theorem d_RoomReader_store_54 : decode prog_9_method_8_code 54 = .ok (.aload_n 0, 1) := by decide +kernel
theorem d_RoomReader_store_55 : decode prog_9_method_8_code 55 = .ok (.getfield 11, 3) := by decide +kernel
theorem d_RoomReader_store_58 : decode prog_9_method_8_code 58 = .ok (.iconst 0, 1) := by decide +kernel
theorem d_RoomReader_store_59 : decode prog_9_method_8_code 59 = .ok (.iaload, 1) := by decide +kernel
theorem d_RoomReader_store_60 : decode prog_9_method_8_code 60 = .ok (.aload_n 0, 1) := by decide +kernel
theorem d_RoomReader_store_61 : decode prog_9_method_8_code 61 = .ok (.getfield 11, 3) := by decide +kernel
theorem d_RoomReader_store_64 : decode prog_9_method_8_code 64 = .ok (.iconst 1, 1) := by decide +kernel
theorem d_RoomReader_store_65 : decode prog_9_method_8_code 65 = .ok (.iaload, 1) := by decide +kernel
theorem d_RoomReader_store_66 : decode prog_9_method_8_code 66 = .ok (.aload_n 0, 1) := by decide +kernel
theorem d_RoomReader_store_67 : decode prog_9_method_8_code 67 = .ok (.getfield 11, 3) := by decide +kernel
theorem d_RoomReader_store_70 : decode prog_9_method_8_code 70 = .ok (.iconst 2, 1) := by decide +kernel
theorem d_RoomReader_store_71 : decode prog_9_method_8_code 71 = .ok (.iaload, 1) := by decide +kernel
theorem d_RoomReader_store_72 : decode prog_9_method_8_code 72 = .ok (.aload_n 0, 1) := by decide +kernel
theorem d_RoomReader_store_73 : decode prog_9_method_8_code 73 = .ok (.getfield 11, 3) := by decide +kernel
theorem d_RoomReader_store_76 : decode prog_9_method_8_code 76 = .ok (.iconst 3, 1) := by decide +kernel
theorem d_RoomReader_store_77 : decode prog_9_method_8_code 77 = .ok (.iaload, 1) := by decide +kernel
theorem d_RoomReader_store_78 : decode prog_9_method_8_code 78 = .ok (.invokevirtual 127, 3) := by decide +kernel
theorem d_RoomReader_store_81 : decode prog_9_method_8_code 81 = .ok (.goto 54, 3) := by decide +kernel
theorem d_RoomReader_store_84 : decode prog_9_method_8_code 84 = .ok (.aload_n 1, 1) := by decide +kernel
theorem d_RoomReader_store_85 : decode prog_9_method_8_code 85 = .ok (.aload_n 0, 1) := by decide +kernel
theorem d_RoomReader_store_86 : decode prog_9_method_8_code 86 = .ok (.getfield 11, 3) := by decide +kernel
theorem d_RoomReader_store_89 : decode prog_9_method_8_code 89 = .ok (.iconst 0, 1) := by decide +kernel
theorem d_RoomReader_store_90 : decode prog_9_method_8_code 90 = .ok (.iaload, 1) := by decide +kernel
theorem d_RoomReader_store_91 : decode prog_9_method_8_code 91 = .ok (.aload_n 0, 1) := by decide +kernel
theorem d_RoomReader_store_92 : decode prog_9_method_8_code 92 = .ok (.getfield 11, 3) := by decide +kernel
theorem d_RoomReader_store_95 : decode prog_9_method_8_code 95 = .ok (.iconst 1, 1) := by decide +kernel
theorem d_RoomReader_store_96 : decode prog_9_method_8_code 96 = .ok (.iaload, 1) := by decide +kernel
theorem d_RoomReader_store_97 : decode prog_9_method_8_code 97 = .ok (.aload_n 0, 1) := by decide +kernel
theorem d_RoomReader_store_98 : decode prog_9_method_8_code 98 = .ok (.getfield 11, 3) := by decide +kernel
theorem d_RoomReader_store_101 : decode prog_9_method_8_code 101 = .ok (.iconst 2, 1) := by decide +kernel
theorem d_RoomReader_store_102 : decode prog_9_method_8_code 102 = .ok (.iaload, 1) := by decide +kernel
theorem d_RoomReader_store_103 : decode prog_9_method_8_code 103 = .ok (.invokevirtual 131, 3) := by decide +kernel
theorem d_RoomReader_store_106 : decode prog_9_method_8_code 106 = .ok (.goto 29, 3) := by decide +kernel
theorem d_RoomReader_store_109 : decode prog_9_method_8_code 109 = .ok (.aload_n 1, 1) := by decide +kernel
theorem d_RoomReader_store_110 : decode prog_9_method_8_code 110 = .ok (.dup, 1) := by decide +kernel
theorem d_RoomReader_store_111 : decode prog_9_method_8_code 111 = .ok (.getfield 91, 3) := by decide +kernel
theorem d_RoomReader_store_114 : decode prog_9_method_8_code 114 = .ok (.iconst 1, 1) := by decide +kernel
theorem d_RoomReader_store_115 : decode prog_9_method_8_code 115 = .ok (.iadd, 1) := by decide +kernel
theorem d_RoomReader_store_116 : decode prog_9_method_8_code 116 = .ok (.putfield 91, 3) := by decide +kernel
theorem d_RoomReader_store_119 : decode prog_9_method_8_code 119 = .ok (.aload_n 1, 1) := by decide +kernel
theorem d_RoomReader_store_120 : decode prog_9_method_8_code 120 = .ok (.aload_n 0, 1) := by decide +kernel
theorem d_RoomReader_store_121 : decode prog_9_method_8_code 121 = .ok (.getfield 11, 3) := by decide +kernel
theorem d_RoomReader_store_124 : decode prog_9_method_8_code 124 = .ok (.iconst 0, 1) := by decide +kernel
theorem d_RoomReader_store_125 : decode prog_9_method_8_code 125 = .ok (.iaload, 1) := by decide +kernel
theorem d_RoomReader_store_126 : decode prog_9_method_8_code 126 = .ok (.aload_n 0, 1) := by decide +kernel
theorem d_RoomReader_store_127 : decode prog_9_method_8_code 127 = .ok (.getfield 11, 3) := by decide +kernel
theorem d_RoomReader_store_130 : decode prog_9_method_8_code 130 = .ok (.iconst 1, 1) := by decide +kernel
theorem d_RoomReader_store_131 : decode prog_9_method_8_code 131 = .ok (.iaload, 1) := by decide +kernel
theorem d_RoomReader_store_132 : decode prog_9_method_8_code 132 = .ok (.invokevirtual 32, 3) := by decide +kernel
theorem d_RoomReader_store_135 : decode prog_9_method_8_code 135 = .ok (.return_, 1) := by decide +kernel
def s_RoomReader_store_135 (p0 : Nat) (p1 : Int32) (σ : LH) : Option (LH) :=
  some σ
theorem b_RoomReader_store_135 {G : XG} {l : Launch} {p : Program} {e : Env} {R : Room} {s : State} {m : MethodId} {args : Array Value} {below : List Frame} {meth : Method} {c : Code} (C : XC G 1 570 p s m args c prog_9_method_8_code 3 R_RoomReader) (hr : meth.sig.returnType = none) (hk : meth.locks = false) {d : Nat} (hd : 2 ≤ d + 1) (hR : xroom R (d + 1)) {p0 : Nat} {p1 : Int32} (hp0 : p0 ∈ xRooms) {σ' : LH} {σ : LH} (h0 : s_RoomReader_store_135 p0 p1 σ = some σ') : XJ G 1 570 p l e R s m args below meth c 3 (XQ G 1 570 below args s none σ') 0 0 135 [] [] σ := by
  replace h0 := (show _ = _ from h0)
  unfold s_RoomReader_store_135 at h0
  exact x_vret C hr hk h0 d_RoomReader_store_135
def s_RoomReader_store (p0 : Nat) (p1 : Int32) (σ : LH) : Option (LH) :=
  if p1.toInt = 0 then (
   if ib 0 4 then (
   if ib 1 4 then (
   if ib 2 4 then (
   xb1 (s_Room_addSeat p0 (σ.1 27 (Int32.toNatClampNeg 0)) (σ.1 27 (Int32.toNatClampNeg 1)) (σ.1 27 (Int32.toNatClampNeg 2)) σ) fun σ5 =>
   s_RoomReader_store_135 p0 p1 σ5) else none) else none) else none)
  else (
  if p1.toInt = 1 then (
   if ib 0 4 then (
   if ib 1 4 then (
   if ib 2 4 then (
   if ib 3 4 then (
   xb1 (s_Room_addSitter p0 (σ.1 27 (Int32.toNatClampNeg 0)) (σ.1 27 (Int32.toNatClampNeg 1)) (σ.1 27 (Int32.toNatClampNeg 2)) (σ.1 27 (Int32.toNatClampNeg 3)) σ) fun σ11 =>
   s_RoomReader_store_135 p0 p1 σ11) else none) else none) else none) else none)
  else (
  if p1.toInt = 2 then (
   if ib 0 4 then (
   if ib 1 4 then (
   if ib 2 4 then (
   xb1 (s_Room_addGoing p0 (σ.1 27 (Int32.toNatClampNeg 0)) (σ.1 27 (Int32.toNatClampNeg 1)) (σ.1 27 (Int32.toNatClampNeg 2)) σ) fun σ16 =>
   s_RoomReader_store_135 p0 p1 σ16) else none) else none) else none)
  else (
   xl ((stI σ p0 3 ((σ.1 p0 3) + 1)) : LH) fun σ17 =>
   if ib 0 4 then (
   if ib 1 4 then (
   xb1 (s_Room_setEvening p0 (σ17.1 27 (Int32.toNatClampNeg 0)) (σ17.1 27 (Int32.toNatClampNeg 1)) σ17) fun σ21 =>
   s_RoomReader_store_135 p0 p1 σ21) else none) else none)))
theorem c_RoomReader_store {G : XG} {l : Launch} {d : Nat} (hd : 2 ≤ d) {p0 : Nat} {p1 : Int32} (hp0 : p0 ∈ xRooms) {σ σ' : LH} (h0 : s_RoomReader_store p0 p1 σ = some σ') : xM G 1 570 l y_RoomReader_store prog_9_method_8_code 3 none d [.ref (G.2.2.1 + 26), .ref (G.2.2.1 + p0), .int p1] σ none σ' := by
  obtain ⟨d, rfl⟩ : ∃ q, d = q + 1 := ⟨d - 1, by omega⟩
  refine x_met R_RoomReader rfl (by decide +kernel) (Nat.le_of_ble_eq_true rfl) fun p e s m below meth c C hr hk hR => ?_
  refine x_lv (lv' := [(0, .ref (G.2.2.1 + 26)), (1, .ref (G.2.2.1 + p0)), (2, .int p1)]) C [0, 1, 2] rfl ?_
  generalize xrm (d + 1) = R at hR ⊢
  unfold s_RoomReader_store at h0
  refine x_iload_n C d_RoomReader_store_0 2 rfl ?_
  by_cases q0 : p1.toInt = 0
  · replace h0 := xit q0 h0
    refine x_tableIn C 28 d_RoomReader_store_1 (by omega) (by omega) (by rw [q0]; rfl) (by decide) ?_
    refine x_aload_n C d_RoomReader_store_28 1 rfl ?_
    refine x_aload_n C d_RoomReader_store_29 0 rfl ?_
    refine x_getA (y := 27) C fg_RoomReader_11 k_26 rfl d_RoomReader_store_30 ?_
    refine x_iconst (v := 0) C d_RoomReader_store_33 (by decide) ?_
    obtain ⟨g1, h0⟩ := xgo h0
    refine x_iald C k_27 (ib_in g1) d_RoomReader_store_34 ?_
    refine x_aload_n C d_RoomReader_store_35 0 rfl ?_
    refine x_getA (y := 27) C fg_RoomReader_11 k_26 rfl d_RoomReader_store_36 ?_
    refine x_iconst (v := 1) C d_RoomReader_store_39 (by decide) ?_
    obtain ⟨g2, h0⟩ := xgo h0
    refine x_iald C k_27 (ib_in g2) d_RoomReader_store_40 ?_
    refine x_aload_n C d_RoomReader_store_41 0 rfl ?_
    refine x_getA (y := 27) C fg_RoomReader_11 k_26 rfl d_RoomReader_store_42 ?_
    refine x_iconst (v := 2) C d_RoomReader_store_45 (by decide) ?_
    obtain ⟨g3, h0⟩ := xgo h0
    refine x_iald C k_27 (ib_in g3) d_RoomReader_store_46 ?_
    obtain ⟨σ5, k4, h0⟩ := xbind1 h0
    refine x_callVv C hR (c_Room_addSeat (d := d) (by omega) hp0 k4) cw_RoomReader_123 (rm_0 hp0) rfl rfl rfl (Nat.le_of_ble_eq_true rfl) ⟨Nat.zero_le _, Nat.zero_le _⟩ d_RoomReader_store_47 ?_
    refine x_goto C 135 d_RoomReader_store_50 (by decide) ?_
    exact x_lv C [] rfl (b_RoomReader_store_135 C hr hk hd hR hp0 h0)
  replace h0 := xif q0 h0
  by_cases q1 : p1.toInt = 1
  · replace h0 := xit q1 h0
    refine x_tableIn C 53 d_RoomReader_store_1 (by omega) (by omega) (by rw [q1]; rfl) (by decide) ?_
    refine x_aload_n C d_RoomReader_store_53 1 rfl ?_
    refine x_aload_n C d_RoomReader_store_54 0 rfl ?_
    refine x_getA (y := 27) C fg_RoomReader_11 k_26 rfl d_RoomReader_store_55 ?_
    refine x_iconst (v := 0) C d_RoomReader_store_58 (by decide) ?_
    obtain ⟨g6, h0⟩ := xgo h0
    refine x_iald C k_27 (ib_in g6) d_RoomReader_store_59 ?_
    refine x_aload_n C d_RoomReader_store_60 0 rfl ?_
    refine x_getA (y := 27) C fg_RoomReader_11 k_26 rfl d_RoomReader_store_61 ?_
    refine x_iconst (v := 1) C d_RoomReader_store_64 (by decide) ?_
    obtain ⟨g7, h0⟩ := xgo h0
    refine x_iald C k_27 (ib_in g7) d_RoomReader_store_65 ?_
    refine x_aload_n C d_RoomReader_store_66 0 rfl ?_
    refine x_getA (y := 27) C fg_RoomReader_11 k_26 rfl d_RoomReader_store_67 ?_
    refine x_iconst (v := 2) C d_RoomReader_store_70 (by decide) ?_
    obtain ⟨g8, h0⟩ := xgo h0
    refine x_iald C k_27 (ib_in g8) d_RoomReader_store_71 ?_
    refine x_aload_n C d_RoomReader_store_72 0 rfl ?_
    refine x_getA (y := 27) C fg_RoomReader_11 k_26 rfl d_RoomReader_store_73 ?_
    refine x_iconst (v := 3) C d_RoomReader_store_76 (by decide) ?_
    obtain ⟨g9, h0⟩ := xgo h0
    refine x_iald C k_27 (ib_in g9) d_RoomReader_store_77 ?_
    obtain ⟨σ11, k10, h0⟩ := xbind1 h0
    refine x_callVv C hR (c_Room_addSitter (d := d) (by omega) hp0 k10) cw_RoomReader_127 (rm_0 hp0) rfl rfl rfl (Nat.le_of_ble_eq_true rfl) ⟨Nat.zero_le _, Nat.zero_le _⟩ d_RoomReader_store_78 ?_
    refine x_goto C 135 d_RoomReader_store_81 (by decide) ?_
    exact x_lv C [] rfl (b_RoomReader_store_135 C hr hk hd hR hp0 h0)
  replace h0 := xif q1 h0
  by_cases q2 : p1.toInt = 2
  · replace h0 := xit q2 h0
    refine x_tableIn C 84 d_RoomReader_store_1 (by omega) (by omega) (by rw [q2]; rfl) (by decide) ?_
    refine x_aload_n C d_RoomReader_store_84 1 rfl ?_
    refine x_aload_n C d_RoomReader_store_85 0 rfl ?_
    refine x_getA (y := 27) C fg_RoomReader_11 k_26 rfl d_RoomReader_store_86 ?_
    refine x_iconst (v := 0) C d_RoomReader_store_89 (by decide) ?_
    obtain ⟨g12, h0⟩ := xgo h0
    refine x_iald C k_27 (ib_in g12) d_RoomReader_store_90 ?_
    refine x_aload_n C d_RoomReader_store_91 0 rfl ?_
    refine x_getA (y := 27) C fg_RoomReader_11 k_26 rfl d_RoomReader_store_92 ?_
    refine x_iconst (v := 1) C d_RoomReader_store_95 (by decide) ?_
    obtain ⟨g13, h0⟩ := xgo h0
    refine x_iald C k_27 (ib_in g13) d_RoomReader_store_96 ?_
    refine x_aload_n C d_RoomReader_store_97 0 rfl ?_
    refine x_getA (y := 27) C fg_RoomReader_11 k_26 rfl d_RoomReader_store_98 ?_
    refine x_iconst (v := 2) C d_RoomReader_store_101 (by decide) ?_
    obtain ⟨g14, h0⟩ := xgo h0
    refine x_iald C k_27 (ib_in g14) d_RoomReader_store_102 ?_
    obtain ⟨σ16, k15, h0⟩ := xbind1 h0
    refine x_callVv C hR (c_Room_addGoing (d := d) (by omega) hp0 k15) cw_RoomReader_131 (rm_0 hp0) rfl rfl rfl (Nat.le_of_ble_eq_true rfl) ⟨Nat.zero_le _, Nat.zero_le _⟩ d_RoomReader_store_103 ?_
    refine x_goto C 135 d_RoomReader_store_106 (by decide) ?_
    exact x_lv C [] rfl (b_RoomReader_store_135 C hr hk hd hR hp0 h0)
  replace h0 := xif q2 h0
  refine x_tableOut C 109 d_RoomReader_store_1 (by omega) (by decide) ?_
  refine x_aload_n C d_RoomReader_store_109 1 rfl ?_
  refine x_dup C d_RoomReader_store_110 rfl ?_
  refine x_getI (y := 0) C fg_RoomReader_91 (rm_0 hp0) rfl d_RoomReader_store_111 ?_
  refine x_iconst (v := 1) C d_RoomReader_store_114 (by decide) ?_
  refine x_iadd C d_RoomReader_store_115 ?_
  refine x_putI (y := 0) C fp_RoomReader_91 (rm_0 hp0) rfl rfl rfl d_RoomReader_store_116 ?_
  obtain ⟨σ17, eσ17, h0⟩ := xlet h0
  refine x_sig C eσ17 ?_
  refine x_aload_n C d_RoomReader_store_119 1 rfl ?_
  refine x_aload_n C d_RoomReader_store_120 0 rfl ?_
  refine x_getA (y := 27) C fg_RoomReader_11 k_26 rfl d_RoomReader_store_121 ?_
  refine x_iconst (v := 0) C d_RoomReader_store_124 (by decide) ?_
  obtain ⟨g18, h0⟩ := xgo h0
  refine x_iald C k_27 (ib_in g18) d_RoomReader_store_125 ?_
  refine x_aload_n C d_RoomReader_store_126 0 rfl ?_
  refine x_getA (y := 27) C fg_RoomReader_11 k_26 rfl d_RoomReader_store_127 ?_
  refine x_iconst (v := 1) C d_RoomReader_store_130 (by decide) ?_
  obtain ⟨g19, h0⟩ := xgo h0
  refine x_iald C k_27 (ib_in g19) d_RoomReader_store_131 ?_
  obtain ⟨σ21, k20, h0⟩ := xbind1 h0
  refine x_callVv C hR (c_Room_setEvening (d := d) (by omega) hp0 k20) cw_RoomReader_32 (rm_0 hp0) rfl rfl rfl (Nat.le_of_ble_eq_true rfl) ⟨Nat.zero_le _, Nat.zero_le _⟩ d_RoomReader_store_132 ?_
  exact x_lv C [] rfl (b_RoomReader_store_135 C hr hk hd hR hp0 h0)
-- LostPlaces$Tape.takes(C)Z
theorem d_Tape_takes_0 : decode prog_10_method_8_code 0 = .ok (.aload_n 0, 1) := by decide +kernel
theorem d_Tape_takes_1 : decode prog_10_method_8_code 1 = .ok (.getfield 22, 3) := by decide +kernel
theorem d_Tape_takes_4 : decode prog_10_method_8_code 4 = .ok (.iconst (-1), 1) := by decide +kernel
theorem d_Tape_takes_5 : decode prog_10_method_8_code 5 = .ok (.if_icmp .ne 11, 3) := by decide +kernel
theorem d_Tape_takes_8 : decode prog_10_method_8_code 8 = .ok (.aload_n 0, 1) := by decide +kernel
theorem d_Tape_takes_9 : decode prog_10_method_8_code 9 = .ok (.invokevirtual 25, 3) := by decide +kernel
theorem d_Tape_takes_12 : decode prog_10_method_8_code 12 = .ok (.iload_n 1, 1) := by decide +kernel
theorem d_Tape_takes_13 : decode prog_10_method_8_code 13 = .ok (.if_icmp .eq 5, 3) := by decide +kernel
theorem d_Tape_takes_16 : decode prog_10_method_8_code 16 = .ok (.iconst 0, 1) := by decide +kernel
theorem d_Tape_takes_17 : decode prog_10_method_8_code 17 = .ok (.ireturn, 1) := by decide +kernel
theorem d_Tape_takes_18 : decode prog_10_method_8_code 18 = .ok (.aload_n 0, 1) := by decide +kernel
theorem d_Tape_takes_19 : decode prog_10_method_8_code 19 = .ok (.dup, 1) := by decide +kernel
theorem d_Tape_takes_20 : decode prog_10_method_8_code 20 = .ok (.getfield 19, 3) := by decide +kernel
theorem d_Tape_takes_23 : decode prog_10_method_8_code 23 = .ok (.iconst 1, 1) := by decide +kernel
theorem d_Tape_takes_24 : decode prog_10_method_8_code 24 = .ok (.iadd, 1) := by decide +kernel
theorem d_Tape_takes_25 : decode prog_10_method_8_code 25 = .ok (.putfield 19, 3) := by decide +kernel
theorem d_Tape_takes_28 : decode prog_10_method_8_code 28 = .ok (.iconst 1, 1) := by decide +kernel
theorem d_Tape_takes_29 : decode prog_10_method_8_code 29 = .ok (.ireturn, 1) := by decide +kernel
def s_Tape_takes_16 (p0 : Int32) (σ : LH) : Option (Int32 × LH) :=
  some (0, σ)
theorem b_Tape_takes_16 {G : XG} {l : Launch} {p : Program} {e : Env} {R : Room} {s : State} {m : MethodId} {args : Array Value} {below : List Frame} {meth : Method} {c : Code} (C : XC G 1 570 p s m args c prog_10_method_8_code 2 R_Tape) (hr : meth.sig.returnType = (some .boolean)) (hk : meth.locks = false) {d : Nat} (hd : 2 ≤ d + 1) (hR : xroom R (d + 1)) {p0 : Int32} {σ' : LH} {r : Int32} {σ : LH} (h0 : s_Tape_takes_16 p0 σ = some (r, σ')) : XJ G 1 570 p l e R s m args below meth c 2 (XQ G 1 570 below args s (some (.int r)) σ') 0 0 16 [] [] σ := by
  replace h0 := (show _ = _ from h0)
  unfold s_Tape_takes_16 at h0
  refine x_iconst (v := 0) C d_Tape_takes_16 (by decide) ?_
  exact x_zret C hr hk (by decide) h0 d_Tape_takes_17
def s_Tape_takes (p0 : Int32) (σ : LH) : Option (Int32 × LH) :=
  if (σ.1 2 3) = (-1) then (
   xb2 (s_Tape_sign σ) fun r3 σ4 =>
   if r3 = p0 then (
    xl ((stI σ4 2 2 ((σ4.1 2 2) + 1)) : LH) fun σ6 =>
    some (1, σ6))
   else (
    s_Tape_takes_16 p0 σ4))
  else (
   s_Tape_takes_16 p0 σ)
theorem c_Tape_takes {G : XG} {l : Launch} {d : Nat} (hd : 2 ≤ d) {p0 : Int32} {σ σ' : LH} {r : Int32} (h0 : s_Tape_takes p0 σ = some (r, σ')) : xM G 1 570 l y_Tape_takes prog_10_method_8_code 2 (some .boolean) d [.ref (G.2.2.1 + 2), .int p0] σ (some (.int r)) σ' := by
  obtain ⟨d, rfl⟩ : ∃ q, d = q + 1 := ⟨d - 1, by omega⟩
  refine x_met R_Tape rfl (by decide +kernel) (Nat.le_of_ble_eq_true rfl) fun p e s m below meth c C hr hk hR => ?_
  refine x_lv (lv' := [(0, .ref (G.2.2.1 + 2)), (1, .int p0)]) C [0, 1] rfl ?_
  generalize xrm (d + 1) = R at hR ⊢
  unfold s_Tape_takes at h0
  refine x_aload_n C d_Tape_takes_0 0 rfl ?_
  refine x_getI (y := 0) C fg_Tape_22 k_2 rfl d_Tape_takes_1 ?_
  refine x_iconst (v := (-1)) C d_Tape_takes_4 (by decide) ?_
  refine x_icmp_ne C 16 d_Tape_takes_5 (by decide) (fun q1 => ?_) (fun q1 => ?_)
  · replace h0 := xif q1 h0
    exact x_lv C [] rfl (b_Tape_takes_16 C hr hk hd hR h0)
  · replace h0 := xit q1 h0
    refine x_aload_n C d_Tape_takes_8 0 rfl ?_
    obtain ⟨r3, σ4, k2, h0⟩ := xbind2 h0
    refine x_callVi C hR (c_Tape_sign (d := d) (by omega) k2) cw_Tape_25 k_2 rfl rfl rfl (Nat.le_of_ble_eq_true rfl) ⟨Nat.zero_le _, Nat.zero_le _⟩ d_Tape_takes_9 ?_
    refine x_iload_n C d_Tape_takes_12 1 rfl ?_
    refine x_icmp_eq C 18 d_Tape_takes_13 (by decide) (fun q5 => ?_) (fun q5 => ?_)
    · replace h0 := xit q5 h0
      refine x_aload_n C d_Tape_takes_18 0 rfl ?_
      refine x_dup C d_Tape_takes_19 rfl ?_
      refine x_getI (y := 0) C fg_Tape_19 k_2 rfl d_Tape_takes_20 ?_
      refine x_iconst (v := 1) C d_Tape_takes_23 (by decide) ?_
      refine x_iadd C d_Tape_takes_24 ?_
      refine x_putI (y := 0) C fp_Tape_19 k_2 rfl rfl rfl d_Tape_takes_25 ?_
      obtain ⟨σ6, eσ6, h0⟩ := xlet h0
      refine x_sig C eσ6 ?_
      refine x_iconst (v := 1) C d_Tape_takes_28 (by decide) ?_
      exact x_zret C hr hk (by decide) h0 d_Tape_takes_29
    · replace h0 := xif q5 h0
      exact x_lv C [] rfl (b_Tape_takes_16 C hr hk hd hR h0)
-- LostPlaces$RoomReader.readClause(LLostPlaces$Room;)Z
theorem d_RoomReader_readClause_0 : decode prog_9_method_3_code 0 = .ok (.aload_n 0, 1) := by decide +kernel
theorem d_RoomReader_readClause_1 : decode prog_9_method_3_code 1 = .ok (.getfield 15, 3) := by decide +kernel
theorem d_RoomReader_readClause_4 : decode prog_9_method_3_code 4 = .ok (.ldc 58, 2) := by decide +kernel
theorem d_RoomReader_readClause_6 : decode prog_9_method_3_code 6 = .ok (.invokevirtual 60, 3) := by decide +kernel
theorem d_RoomReader_readClause_9 : decode prog_9_method_3_code 9 = .ok (.istore_n 2, 1) := by decide +kernel
theorem d_RoomReader_readClause_10 : decode prog_9_method_3_code 10 = .ok (.iload_n 2, 1) := by decide +kernel
theorem d_RoomReader_readClause_11 : decode prog_9_method_3_code 11 = .ok (.iconst (-1), 1) := by decide +kernel
theorem d_RoomReader_readClause_12 : decode prog_9_method_3_code 12 = .ok (.if_icmp .eq 11, 3) := by decide +kernel
theorem d_RoomReader_readClause_15 : decode prog_9_method_3_code 15 = .ok (.aload_n 1, 1) := by decide +kernel
theorem d_RoomReader_readClause_16 : decode prog_9_method_3_code 16 = .ok (.iload_n 2, 1) := by decide +kernel
theorem d_RoomReader_readClause_17 : decode prog_9_method_3_code 17 = .ok (.invokestatic 64, 3) := by decide +kernel
theorem d_RoomReader_readClause_20 : decode prog_9_method_3_code 20 = .ok (.ifCond .eq 19, 3) := by decide +kernel
theorem d_RoomReader_readClause_23 : decode prog_9_method_3_code 23 = .ok (.aload_n 0, 1) := by decide +kernel
theorem d_RoomReader_readClause_24 : decode prog_9_method_3_code 24 = .ok (.getfield 15, 3) := by decide +kernel
theorem d_RoomReader_readClause_27 : decode prog_9_method_3_code 27 = .ok (.aload_n 0, 1) := by decide +kernel
theorem d_RoomReader_readClause_28 : decode prog_9_method_3_code 28 = .ok (.getfield 15, 3) := by decide +kernel
theorem d_RoomReader_readClause_31 : decode prog_9_method_3_code 31 = .ok (.getfield 68, 3) := by decide +kernel
theorem d_RoomReader_readClause_34 : decode prog_9_method_3_code 34 = .ok (.invokevirtual 51, 3) := by decide +kernel
theorem d_RoomReader_readClause_37 : decode prog_9_method_3_code 37 = .ok (.iconst 0, 1) := by decide +kernel
theorem d_RoomReader_readClause_38 : decode prog_9_method_3_code 38 = .ok (.ireturn, 1) := by decide +kernel
theorem d_RoomReader_readClause_39 : decode prog_9_method_3_code 39 = .ok (.aload_n 0, 1) := by decide +kernel
theorem d_RoomReader_readClause_40 : decode prog_9_method_3_code 40 = .ok (.getfield 15, 3) := by decide +kernel
theorem d_RoomReader_readClause_43 : decode prog_9_method_3_code 43 = .ok (.dup, 1) := by decide +kernel
theorem d_RoomReader_readClause_44 : decode prog_9_method_3_code 44 = .ok (.getfield 68, 3) := by decide +kernel
theorem d_RoomReader_readClause_47 : decode prog_9_method_3_code 47 = .ok (.iconst 1, 1) := by decide +kernel
theorem d_RoomReader_readClause_48 : decode prog_9_method_3_code 48 = .ok (.iadd, 1) := by decide +kernel
theorem d_RoomReader_readClause_49 : decode prog_9_method_3_code 49 = .ok (.putfield 68, 3) := by decide +kernel
theorem d_RoomReader_readClause_52 : decode prog_9_method_3_code 52 = .ok (.aload_n 0, 1) := by decide +kernel
theorem d_RoomReader_readClause_53 : decode prog_9_method_3_code 53 = .ok (.iload_n 2, 1) := by decide +kernel
theorem d_RoomReader_readClause_54 : decode prog_9_method_3_code 54 = .ok (.invokevirtual 71, 3) := by decide +kernel
theorem d_RoomReader_readClause_57 : decode prog_9_method_3_code 57 = .ok (.aload_n 0, 1) := by decide +kernel
theorem d_RoomReader_readClause_58 : decode prog_9_method_3_code 58 = .ok (.getfield 15, 3) := by decide +kernel
theorem d_RoomReader_readClause_61 : decode prog_9_method_3_code 61 = .ok (.invokevirtual 40, 3) := by decide +kernel
theorem d_RoomReader_readClause_64 : decode prog_9_method_3_code 64 = .ok (.ifCond .ne 5, 3) := by decide +kernel
theorem d_RoomReader_readClause_67 : decode prog_9_method_3_code 67 = .ok (.iconst 0, 1) := by decide +kernel
theorem d_RoomReader_readClause_68 : decode prog_9_method_3_code 68 = .ok (.ireturn, 1) := by decide +kernel
theorem d_RoomReader_readClause_69 : decode prog_9_method_3_code 69 = .ok (.aload_n 0, 1) := by decide +kernel
theorem d_RoomReader_readClause_70 : decode prog_9_method_3_code 70 = .ok (.aload_n 1, 1) := by decide +kernel
theorem d_RoomReader_readClause_71 : decode prog_9_method_3_code 71 = .ok (.iload_n 2, 1) := by decide +kernel
theorem d_RoomReader_readClause_72 : decode prog_9_method_3_code 72 = .ok (.invokevirtual 74, 3) := by decide +kernel
theorem d_RoomReader_readClause_75 : decode prog_9_method_3_code 75 = .ok (.aload_n 0, 1) := by decide +kernel
theorem d_RoomReader_readClause_76 : decode prog_9_method_3_code 76 = .ok (.getfield 15, 3) := by decide +kernel
theorem d_RoomReader_readClause_79 : decode prog_9_method_3_code 79 = .ok (.bipush 59, 2) := by decide +kernel
theorem d_RoomReader_readClause_81 : decode prog_9_method_3_code 81 = .ok (.invokevirtual 78, 3) := by decide +kernel
theorem d_RoomReader_readClause_84 : decode prog_9_method_3_code 84 = .ok (.ireturn, 1) := by decide +kernel
def s_RoomReader_readClause_23 (p0 : Nat) (σ : LH) : Option (Int32 × LH) :=
  xb1 (s_Tape_fail (σ.1 2 2) σ) fun σ6 =>
  some (0, σ6)
theorem b_RoomReader_readClause_23 {G : XG} {l : Launch} {p : Program} {e : Env} {R : Room} {s : State} {m : MethodId} {args : Array Value} {below : List Frame} {meth : Method} {c : Code} (C : XC G 1 570 p s m args c prog_9_method_3_code 3 R_RoomReader) (hr : meth.sig.returnType = (some .boolean)) (hk : meth.locks = false) {d : Nat} (hd : 11 ≤ d + 1) (hR : xroom R (d + 1)) {p0 : Nat} (hp0 : p0 ∈ xRooms) {σ' : LH} {r : Int32} {σ : LH} (h0 : s_RoomReader_readClause_23 p0 σ = some (r, σ')) : XJ G 1 570 p l e R s m args below meth c 3 (XQ G 1 570 below args s (some (.int r)) σ') 0 0 23 [(0, .ref (G.2.2.1 + 26))] [] σ := by
  replace h0 := (show _ = _ from h0)
  unfold s_RoomReader_readClause_23 at h0
  refine x_aload_n C d_RoomReader_readClause_23 0 rfl ?_
  refine x_getA (y := 2) C fg_RoomReader_15 k_26 rfl d_RoomReader_readClause_24 ?_
  refine x_aload_n C d_RoomReader_readClause_27 0 rfl ?_
  refine x_getA (y := 2) C fg_RoomReader_15 k_26 rfl d_RoomReader_readClause_28 ?_
  refine x_getI (y := 0) C fg_RoomReader_68 k_2 rfl d_RoomReader_readClause_31 ?_
  obtain ⟨σ6, k5, h0⟩ := xbind1 h0
  refine x_callVv C hR (c_Tape_fail (d := d) (by omega) k5) cw_RoomReader_51 k_2 rfl rfl rfl (Nat.le_of_ble_eq_true rfl) ⟨Nat.zero_le _, Nat.zero_le _⟩ d_RoomReader_readClause_34 ?_
  refine x_iconst (v := 0) C d_RoomReader_readClause_37 (by decide) ?_
  exact x_zret C hr hk (by decide) h0 d_RoomReader_readClause_38
def s_RoomReader_readClause (p0 : Nat) (σ : LH) : Option (Int32 × LH) :=
  xb2 (s_Tape_letter 1 σ) fun r2 σ3 =>
  if r2 = (-1) then (
   s_RoomReader_readClause_23 p0 σ3)
  else (
   xb2 (s_RoomReader_isFull p0 r2 σ3) fun r8 σ9 =>
   if r8 = 0 then (
    xl ((stI σ9 2 2 ((σ9.1 2 2) + 1)) : LH) fun σ11 =>
    xb1 (s_RoomReader_readItems r2 σ11) fun σ13 =>
    xb2 (s_Tape_isFine σ13) fun r15 σ16 =>
    if r15 = 0 then (
     some (0, σ16))
    else (
     xb1 (s_RoomReader_store p0 r2 σ16) fun σ19 =>
     xb2 (s_Tape_takes 59 σ19) fun r21 σ22 =>
     if zb r21 then (
     some (r21, σ22)) else none))
   else (
    s_RoomReader_readClause_23 p0 σ9))
theorem c_RoomReader_readClause {G : XG} {l : Launch} {d : Nat} (hd : 11 ≤ d) {p0 : Nat} (hp0 : p0 ∈ xRooms) {σ σ' : LH} {r : Int32} (h0 : s_RoomReader_readClause p0 σ = some (r, σ')) : xM G 1 570 l y_RoomReader_readClause prog_9_method_3_code 3 (some .boolean) d [.ref (G.2.2.1 + 26), .ref (G.2.2.1 + p0)] σ (some (.int r)) σ' := by
  obtain ⟨d, rfl⟩ : ∃ q, d = q + 1 := ⟨d - 1, by omega⟩
  refine x_met R_RoomReader rfl (by decide +kernel) (Nat.le_of_ble_eq_true rfl) fun p e s m below meth c C hr hk hR => ?_
  refine x_lv (lv' := [(0, .ref (G.2.2.1 + 26)), (1, .ref (G.2.2.1 + p0))]) C [0, 1] rfl ?_
  generalize xrm (d + 1) = R at hR ⊢
  unfold s_RoomReader_readClause at h0
  refine x_aload_n C d_RoomReader_readClause_0 0 rfl ?_
  refine x_getA (y := 2) C fg_RoomReader_15 k_26 rfl d_RoomReader_readClause_1 ?_
  refine x_ldcS (index := 58) (i := 1) C (by decide +kernel) d_RoomReader_readClause_4 ?_
  obtain ⟨r2, σ3, k1, h0⟩ := xbind2 h0
  refine x_callVi C hR (c_Tape_letter (d := d) (by omega) (by decide) k1) cw_RoomReader_60 k_2 rfl rfl rfl (Nat.le_of_ble_eq_true rfl) ⟨Nat.zero_le _, Nat.zero_le _⟩ d_RoomReader_readClause_6 ?_
  refine x_istore_n (lv' := [(2, .int r2), (0, .ref (G.2.2.1 + 26)), (1, .ref (G.2.2.1 + p0))]) C d_RoomReader_readClause_9 rfl (by decide) rfl ?_
  refine x_iload_n C d_RoomReader_readClause_10 0 rfl ?_
  refine x_iconst (v := (-1)) C d_RoomReader_readClause_11 (by decide) ?_
  refine x_icmp_eq C 23 d_RoomReader_readClause_12 (by decide) (fun q4 => ?_) (fun q4 => ?_)
  · replace h0 := xit q4 h0
    exact x_lv C [1] rfl (b_RoomReader_readClause_23 C hr hk hd hR hp0 h0)
  · replace h0 := xif q4 h0
    refine x_aload_n C d_RoomReader_readClause_15 2 rfl ?_
    refine x_iload_n C d_RoomReader_readClause_16 0 rfl ?_
    obtain ⟨r8, σ9, k7, h0⟩ := xbind2 h0
    refine x_callSi C hR (c_RoomReader_isFull (d := d) (by omega) hp0 k7) cw_RoomReader_64 w_771 rfl rfl (Nat.le_of_ble_eq_true rfl) ⟨Nat.zero_le _, Nat.zero_le _⟩ d_RoomReader_readClause_17 ?_
    refine x_if_eq C 39 d_RoomReader_readClause_20 (by decide) (fun q10 => ?_) (fun q10 => ?_)
    · replace h0 := xit q10 h0
      refine x_aload_n C d_RoomReader_readClause_39 1 rfl ?_
      refine x_getA (y := 2) C fg_RoomReader_15 k_26 rfl d_RoomReader_readClause_40 ?_
      refine x_dup C d_RoomReader_readClause_43 rfl ?_
      refine x_getI (y := 0) C fg_RoomReader_68 k_2 rfl d_RoomReader_readClause_44 ?_
      refine x_iconst (v := 1) C d_RoomReader_readClause_47 (by decide) ?_
      refine x_iadd C d_RoomReader_readClause_48 ?_
      refine x_putI (y := 0) C fp_RoomReader_68 k_2 rfl rfl rfl d_RoomReader_readClause_49 ?_
      obtain ⟨σ11, eσ11, h0⟩ := xlet h0
      refine x_sig C eσ11 ?_
      refine x_aload_n C d_RoomReader_readClause_52 1 rfl ?_
      refine x_iload_n C d_RoomReader_readClause_53 0 rfl ?_
      obtain ⟨σ13, k12, h0⟩ := xbind1 h0
      refine x_callVv C hR (c_RoomReader_readItems (d := d) (by omega) k12) cw_RoomReader_71 k_26 rfl rfl rfl (Nat.le_of_ble_eq_true rfl) ⟨Nat.zero_le _, Nat.zero_le _⟩ d_RoomReader_readClause_54 ?_
      refine x_aload_n C d_RoomReader_readClause_57 1 rfl ?_
      refine x_getA (y := 2) C fg_RoomReader_15 k_26 rfl d_RoomReader_readClause_58 ?_
      obtain ⟨r15, σ16, k14, h0⟩ := xbind2 h0
      refine x_callVi C hR (c_Tape_isFine (d := d) (by omega) k14) cw_RoomReader_40 k_2 rfl rfl rfl (Nat.le_of_ble_eq_true rfl) ⟨Nat.zero_le _, Nat.zero_le _⟩ d_RoomReader_readClause_61 ?_
      refine x_if_ne C 69 d_RoomReader_readClause_64 (by decide) (fun q17 => ?_) (fun q17 => ?_)
      · replace h0 := xif q17 h0
        refine x_aload_n C d_RoomReader_readClause_69 1 rfl ?_
        refine x_aload_n C d_RoomReader_readClause_70 2 rfl ?_
        refine x_iload_n C d_RoomReader_readClause_71 0 rfl ?_
        obtain ⟨σ19, k18, h0⟩ := xbind1 h0
        refine x_callVv C hR (c_RoomReader_store (d := d) (by omega) hp0 k18) cw_RoomReader_74 k_26 rfl rfl rfl (Nat.le_of_ble_eq_true rfl) ⟨Nat.zero_le _, Nat.zero_le _⟩ d_RoomReader_readClause_72 ?_
        refine x_aload_n C d_RoomReader_readClause_75 1 rfl ?_
        refine x_getA (y := 2) C fg_RoomReader_15 k_26 rfl d_RoomReader_readClause_76 ?_
        refine x_bipush (v := 59) C d_RoomReader_readClause_79 (by decide) ?_
        obtain ⟨r21, σ22, k20, h0⟩ := xbind2 h0
        refine x_callVi C hR (c_Tape_takes (d := d) (by omega) k20) cw_RoomReader_78 k_2 rfl rfl rfl (Nat.le_of_ble_eq_true rfl) ⟨Nat.zero_le _, Nat.zero_le _⟩ d_RoomReader_readClause_81 ?_
        obtain ⟨g23, h0⟩ := xgo h0
        exact x_zret C hr hk g23 h0 d_RoomReader_readClause_84
      · replace h0 := xit q17 h0
        refine x_iconst (v := 0) C d_RoomReader_readClause_67 (by decide) ?_
        exact x_zret C hr hk (by decide) h0 d_RoomReader_readClause_68
    · replace h0 := xif q10 h0
      exact x_lv C [1] rfl (b_RoomReader_readClause_23 C hr hk hd hR hp0 h0)
