-- LostPlaces$Hall.put(II)V
theorem d_Hall_put_0 : decode prog_6_method_9_code 0 = .ok (.iload_n 1, 1) := by decide +kernel
theorem d_Hall_put_1 : decode prog_6_method_9_code 1 = .ok (.ifCond .lt 9, 3) := by decide +kernel
theorem d_Hall_put_4 : decode prog_6_method_9_code 4 = .ok (.iload_n 1, 1) := by decide +kernel
theorem d_Hall_put_5 : decode prog_6_method_9_code 5 = .ok (.bipush 8, 2) := by decide +kernel
theorem d_Hall_put_7 : decode prog_6_method_9_code 7 = .ok (.if_icmp .lt 4, 3) := by decide +kernel
theorem d_Hall_put_10 : decode prog_6_method_9_code 10 = .ok (.return_, 1) := by decide +kernel
theorem d_Hall_put_11 : decode prog_6_method_9_code 11 = .ok (.aload_n 0, 1) := by decide +kernel
theorem d_Hall_put_12 : decode prog_6_method_9_code 12 = .ok (.getfield 9, 3) := by decide +kernel
theorem d_Hall_put_15 : decode prog_6_method_9_code 15 = .ok (.iload_n 1, 1) := by decide +kernel
theorem d_Hall_put_16 : decode prog_6_method_9_code 16 = .ok (.iaload, 1) := by decide +kernel
theorem d_Hall_put_17 : decode prog_6_method_9_code 17 = .ok (.istore_n 3, 1) := by decide +kernel
theorem d_Hall_put_18 : decode prog_6_method_9_code 18 = .ok (.iload_n 3, 1) := by decide +kernel
theorem d_Hall_put_19 : decode prog_6_method_9_code 19 = .ok (.ifCond .lt 16, 3) := by decide +kernel
theorem d_Hall_put_22 : decode prog_6_method_9_code 22 = .ok (.iload_n 3, 1) := by decide +kernel
theorem d_Hall_put_23 : decode prog_6_method_9_code 23 = .ok (.bipush 8, 2) := by decide +kernel
theorem d_Hall_put_25 : decode prog_6_method_9_code 25 = .ok (.if_icmp .ge 10, 3) := by decide +kernel
theorem d_Hall_put_28 : decode prog_6_method_9_code 28 = .ok (.aload_n 0, 1) := by decide +kernel
theorem d_Hall_put_29 : decode prog_6_method_9_code 29 = .ok (.getfield 24, 3) := by decide +kernel
theorem d_Hall_put_32 : decode prog_6_method_9_code 32 = .ok (.iload_n 3, 1) := by decide +kernel
theorem d_Hall_put_33 : decode prog_6_method_9_code 33 = .ok (.iconst (-1), 1) := by decide +kernel
theorem d_Hall_put_34 : decode prog_6_method_9_code 34 = .ok (.iastore, 1) := by decide +kernel
theorem d_Hall_put_35 : decode prog_6_method_9_code 35 = .ok (.iload_n 2, 1) := by decide +kernel
theorem d_Hall_put_36 : decode prog_6_method_9_code 36 = .ok (.ifCond .lt 16, 3) := by decide +kernel
theorem d_Hall_put_39 : decode prog_6_method_9_code 39 = .ok (.iload_n 2, 1) := by decide +kernel
theorem d_Hall_put_40 : decode prog_6_method_9_code 40 = .ok (.bipush 8, 2) := by decide +kernel
theorem d_Hall_put_42 : decode prog_6_method_9_code 42 = .ok (.if_icmp .ge 10, 3) := by decide +kernel
theorem d_Hall_put_45 : decode prog_6_method_9_code 45 = .ok (.aload_n 0, 1) := by decide +kernel
theorem d_Hall_put_46 : decode prog_6_method_9_code 46 = .ok (.getfield 24, 3) := by decide +kernel
theorem d_Hall_put_49 : decode prog_6_method_9_code 49 = .ok (.iload_n 2, 1) := by decide +kernel
theorem d_Hall_put_50 : decode prog_6_method_9_code 50 = .ok (.iload_n 1, 1) := by decide +kernel
theorem d_Hall_put_51 : decode prog_6_method_9_code 51 = .ok (.iastore, 1) := by decide +kernel
theorem d_Hall_put_52 : decode prog_6_method_9_code 52 = .ok (.aload_n 0, 1) := by decide +kernel
theorem d_Hall_put_53 : decode prog_6_method_9_code 53 = .ok (.getfield 9, 3) := by decide +kernel
theorem d_Hall_put_56 : decode prog_6_method_9_code 56 = .ok (.iload_n 1, 1) := by decide +kernel
theorem d_Hall_put_57 : decode prog_6_method_9_code 57 = .ok (.iload_n 2, 1) := by decide +kernel
theorem d_Hall_put_58 : decode prog_6_method_9_code 58 = .ok (.iastore, 1) := by decide +kernel
theorem d_Hall_put_59 : decode prog_6_method_9_code 59 = .ok (.aload_n 0, 1) := by decide +kernel
theorem d_Hall_put_60 : decode prog_6_method_9_code 60 = .ok (.getfield 15, 3) := by decide +kernel
theorem d_Hall_put_63 : decode prog_6_method_9_code 63 = .ok (.iload_n 1, 1) := by decide +kernel
theorem d_Hall_put_64 : decode prog_6_method_9_code 64 = .ok (.iconst (-1), 1) := by decide +kernel
theorem d_Hall_put_65 : decode prog_6_method_9_code 65 = .ok (.iastore, 1) := by decide +kernel
theorem d_Hall_put_66 : decode prog_6_method_9_code 66 = .ok (.aload_n 0, 1) := by decide +kernel
theorem d_Hall_put_67 : decode prog_6_method_9_code 67 = .ok (.iconst (-1), 1) := by decide +kernel
theorem d_Hall_put_68 : decode prog_6_method_9_code 68 = .ok (.putfield 43, 3) := by decide +kernel
theorem d_Hall_put_71 : decode prog_6_method_9_code 71 = .ok (.return_, 1) := by decide +kernel
def s_Hall_put_10 (h : Nat) (p0 : Int32) (p1 : Int32) (σ : LH) : Option (LH) :=
  some σ
theorem b_Hall_put_10 {G : XG} {l : Launch} {p : Program} {e : Env} {R : Room} {s : State} {m : MethodId} {args : Array Value} {below : List Frame} {meth : Method} {c : Code} (C : XC G 1 570 p s m args c prog_6_method_9_code 4 R_Hall) (hr : meth.sig.returnType = none) (hk : meth.locks = false) {d : Nat} (hd : 1 ≤ d + 1) (hR : xroom R (d + 1)) {h : Nat} {p0 : Int32} {p1 : Int32} (hh : h ∈ xHalls) {σ' : LH} {σ : LH} (h0 : s_Hall_put_10 h p0 p1 σ = some σ') : XJ G 1 570 p l e R s m args below meth c 4 (XQ G 1 570 below args s none σ') 0 0 10 [] [] σ := by
  replace h0 := (show _ = _ from h0)
  unfold s_Hall_put_10 at h0
  exact x_vret C hr hk h0 d_Hall_put_10
def s_Hall_put_52 (h : Nat) (p0 : Int32) (p1 : Int32) (σ : LH) : Option (LH) :=
  if ib p0 8 then (
  let σ8 : LH := stI σ (h + 1) (Int32.toNatClampNeg p0) p1
  if ib p0 8 then (
  let σ10 : LH := stI σ8 (h + 2) (Int32.toNatClampNeg p0) (-1)
  let σ11 : LH := stI σ10 h 10 (-1)
  some σ11) else none) else none
theorem b_Hall_put_52 {G : XG} {l : Launch} {p : Program} {e : Env} {R : Room} {s : State} {m : MethodId} {args : Array Value} {below : List Frame} {meth : Method} {c : Code} (C : XC G 1 570 p s m args c prog_6_method_9_code 4 R_Hall) (hr : meth.sig.returnType = none) (hk : meth.locks = false) {d : Nat} (hd : 1 ≤ d + 1) (hR : xroom R (d + 1)) {h : Nat} {p0 : Int32} {p1 : Int32} (hh : h ∈ xHalls) {σ' : LH} {σ : LH} (h0 : s_Hall_put_52 h p0 p1 σ = some σ') : XJ G 1 570 p l e R s m args below meth c 4 (XQ G 1 570 below args s none σ') 0 0 52 [(0, .ref (G.2.2.1 + h)), (1, .int p0), (2, .int p1)] [] σ := by
  replace h0 := (show _ = _ from h0)
  unfold s_Hall_put_52 at h0
  refine x_aload_n C d_Hall_put_52 0 rfl ?_
  refine x_getR (y := 1) C fg_Hall_9 (hl_0 hh) rfl d_Hall_put_53 ?_
  refine x_iload_n C d_Hall_put_56 1 rfl ?_
  refine x_iload_n C d_Hall_put_57 2 rfl ?_
  obtain ⟨g7, h0⟩ := xgo h0
  refine x_iast C (hl_1 hh) (ib_in g7) d_Hall_put_58 ?_
  obtain ⟨σ8, eσ8, h0⟩ := xlet h0
  refine x_sig C eσ8 ?_
  refine x_aload_n C d_Hall_put_59 0 rfl ?_
  refine x_getR (y := 2) C fg_Hall_15 (hl_0 hh) rfl d_Hall_put_60 ?_
  refine x_iload_n C d_Hall_put_63 1 rfl ?_
  refine x_iconst (v := (-1)) C d_Hall_put_64 (by decide) ?_
  obtain ⟨g9, h0⟩ := xgo h0
  refine x_iast C (hl_2 hh) (ib_in g9) d_Hall_put_65 ?_
  obtain ⟨σ10, eσ10, h0⟩ := xlet h0
  refine x_sig C eσ10 ?_
  refine x_aload_n C d_Hall_put_66 0 rfl ?_
  refine x_iconst (v := (-1)) C d_Hall_put_67 (by decide) ?_
  refine x_putI (y := 0) C fp_Hall_43 (hl_0 hh) rfl rfl rfl d_Hall_put_68 ?_
  obtain ⟨σ11, eσ11, h0⟩ := xlet h0
  refine x_sig C eσ11 ?_
  exact x_vret C hr hk h0 d_Hall_put_71
def s_Hall_put_35 (h : Nat) (p0 : Int32) (p1 : Int32) (σ : LH) : Option (LH) :=
  if p1 < 0 then (
   s_Hall_put_52 h p0 p1 σ)
  else (
   if 8 ≤ p1 then (
    s_Hall_put_52 h p0 p1 σ)
   else (
    if ib p1 8 then (
    let σ14 : LH := stI σ (h + 5) (Int32.toNatClampNeg p1) p0
    s_Hall_put_52 h p0 p1 σ14) else none))
theorem b_Hall_put_35 {G : XG} {l : Launch} {p : Program} {e : Env} {R : Room} {s : State} {m : MethodId} {args : Array Value} {below : List Frame} {meth : Method} {c : Code} (C : XC G 1 570 p s m args c prog_6_method_9_code 4 R_Hall) (hr : meth.sig.returnType = none) (hk : meth.locks = false) {d : Nat} (hd : 1 ≤ d + 1) (hR : xroom R (d + 1)) {h : Nat} {p0 : Int32} {p1 : Int32} (hh : h ∈ xHalls) {σ' : LH} {σ : LH} (h0 : s_Hall_put_35 h p0 p1 σ = some σ') : XJ G 1 570 p l e R s m args below meth c 4 (XQ G 1 570 below args s none σ') 0 0 35 [(0, .ref (G.2.2.1 + h)), (1, .int p0), (2, .int p1)] [] σ := by
  replace h0 := (show _ = _ from h0)
  unfold s_Hall_put_35 at h0
  refine x_iload_n C d_Hall_put_35 2 rfl ?_
  refine x_if_lt C 52 d_Hall_put_36 (by decide) (fun q6 => ?_) (fun q6 => ?_)
  · replace h0 := xit q6 h0
    exact x_lv C [0, 1, 2] rfl (b_Hall_put_52 C hr hk hd hR hh h0)
  · replace h0 := xif q6 h0
    refine x_iload_n C d_Hall_put_39 2 rfl ?_
    refine x_bipush (v := 8) C d_Hall_put_40 (by decide) ?_
    refine x_icmp_ge C 52 d_Hall_put_42 (by decide) (fun q12 => ?_) (fun q12 => ?_)
    · replace h0 := xit q12 h0
      exact x_lv C [0, 1, 2] rfl (b_Hall_put_52 C hr hk hd hR hh h0)
    · replace h0 := xif q12 h0
      refine x_aload_n C d_Hall_put_45 0 rfl ?_
      refine x_getR (y := 5) C fg_Hall_24 (hl_0 hh) rfl d_Hall_put_46 ?_
      refine x_iload_n C d_Hall_put_49 2 rfl ?_
      refine x_iload_n C d_Hall_put_50 1 rfl ?_
      obtain ⟨g13, h0⟩ := xgo h0
      refine x_iast C (hl_5 hh) (ib_in g13) d_Hall_put_51 ?_
      obtain ⟨σ14, eσ14, h0⟩ := xlet h0
      refine x_sig C eσ14 ?_
      exact x_lv C [0, 1, 2] rfl (b_Hall_put_52 C hr hk hd hR hh h0)
def s_Hall_put (h : Nat) (p0 : Int32) (p1 : Int32) (σ : LH) : Option (LH) :=
  if p0 < 0 then (
   s_Hall_put_10 h p0 p1 σ)
  else (
   if p0 < 8 then (
    if ib p0 8 then (
    let x4 : Int32 := (σ.1 (h + 1) (Int32.toNatClampNeg p0))
    if x4 < 0 then (
     s_Hall_put_35 h p0 p1 σ)
    else (
     if 8 ≤ x4 then (
      s_Hall_put_35 h p0 p1 σ)
     else (
      if ib x4 8 then (
      let σ17 : LH := stI σ (h + 5) (Int32.toNatClampNeg x4) (-1)
      s_Hall_put_35 h p0 p1 σ17) else none))) else none)
   else (
    s_Hall_put_10 h p0 p1 σ))
theorem c_Hall_put {G : XG} {l : Launch} {d : Nat} (hd : 1 ≤ d) {h : Nat} {p0 : Int32} {p1 : Int32} (hh : h ∈ xHalls) {σ σ' : LH} (h0 : s_Hall_put h p0 p1 σ = some σ') : xM G 1 570 l y_Hall_put prog_6_method_9_code 4 none d [.ref (G.2.2.1 + h), .int p0, .int p1] σ none σ' := by
  obtain ⟨d, rfl⟩ : ∃ q, d = q + 1 := ⟨d - 1, by omega⟩
  refine x_met R_Hall rfl (by decide +kernel) (Nat.le_of_ble_eq_true rfl) fun p e s m below meth c C hr hk hR => ?_
  refine x_lv (lv' := [(0, .ref (G.2.2.1 + h)), (1, .int p0), (2, .int p1)]) C [0, 1, 2] rfl ?_
  generalize xrm (d + 1) = R at hR ⊢
  unfold s_Hall_put at h0
  refine x_iload_n C d_Hall_put_0 1 rfl ?_
  refine x_if_lt C 10 d_Hall_put_1 (by decide) (fun q1 => ?_) (fun q1 => ?_)
  · replace h0 := xit q1 h0
    exact x_lv C [] rfl (b_Hall_put_10 C hr hk hd hR hh h0)
  · replace h0 := xif q1 h0
    refine x_iload_n C d_Hall_put_4 1 rfl ?_
    refine x_bipush (v := 8) C d_Hall_put_5 (by decide) ?_
    refine x_icmp_lt C 11 d_Hall_put_7 (by decide) (fun q2 => ?_) (fun q2 => ?_)
    · replace h0 := xit q2 h0
      refine x_aload_n C d_Hall_put_11 0 rfl ?_
      refine x_getR (y := 1) C fg_Hall_9 (hl_0 hh) rfl d_Hall_put_12 ?_
      refine x_iload_n C d_Hall_put_15 1 rfl ?_
      obtain ⟨g3, h0⟩ := xgo h0
      refine x_iald C (hl_1 hh) (ib_in g3) d_Hall_put_16 ?_
      obtain ⟨x4, ex4, h0⟩ := xlet h0
      refine x_name C ex4 ?_
      refine x_istore_n (lv' := [(3, .int x4), (0, .ref (G.2.2.1 + h)), (1, .int p0), (2, .int p1)]) C d_Hall_put_17 rfl (by decide) rfl ?_
      refine x_iload_n C d_Hall_put_18 0 rfl ?_
      refine x_if_lt C 35 d_Hall_put_19 (by decide) (fun q5 => ?_) (fun q5 => ?_)
      · replace h0 := xit q5 h0
        exact x_lv C [1, 2, 3] rfl (b_Hall_put_35 C hr hk hd hR hh h0)
      · replace h0 := xif q5 h0
        refine x_iload_n C d_Hall_put_22 0 rfl ?_
        refine x_bipush (v := 8) C d_Hall_put_23 (by decide) ?_
        refine x_icmp_ge C 35 d_Hall_put_25 (by decide) (fun q15 => ?_) (fun q15 => ?_)
        · replace h0 := xit q15 h0
          exact x_lv C [1, 2, 3] rfl (b_Hall_put_35 C hr hk hd hR hh h0)
        · replace h0 := xif q15 h0
          refine x_aload_n C d_Hall_put_28 1 rfl ?_
          refine x_getR (y := 5) C fg_Hall_24 (hl_0 hh) rfl d_Hall_put_29 ?_
          refine x_iload_n C d_Hall_put_32 0 rfl ?_
          refine x_iconst (v := (-1)) C d_Hall_put_33 (by decide) ?_
          obtain ⟨g16, h0⟩ := xgo h0
          refine x_iast C (hl_5 hh) (ib_in g16) d_Hall_put_34 ?_
          obtain ⟨σ17, eσ17, h0⟩ := xlet h0
          refine x_sig C eσ17 ?_
          exact x_lv C [1, 2, 3] rfl (b_Hall_put_35 C hr hk hd hR hh h0)
    · replace h0 := xif q2 h0
      exact x_lv C [] rfl (b_Hall_put_10 C hr hk hd hR hh h0)
-- LostPlaces$Likings.at(III)I
theorem d_Likings_at_0 : decode prog_7_method_8_code 0 = .ok (.iload_n 3, 1) := by decide +kernel
theorem d_Likings_at_1 : decode prog_7_method_8_code 1 = .ok (.ifCond .ge 5, 3) := by decide +kernel
theorem d_Likings_at_4 : decode prog_7_method_8_code 4 = .ok (.iconst 0, 1) := by decide +kernel
theorem d_Likings_at_5 : decode prog_7_method_8_code 5 = .ok (.ireturn, 1) := by decide +kernel
theorem d_Likings_at_6 : decode prog_7_method_8_code 6 = .ok (.iload_n 1, 1) := by decide +kernel
theorem d_Likings_at_7 : decode prog_7_method_8_code 7 = .ok (.bipush 64, 2) := by decide +kernel
theorem d_Likings_at_9 : decode prog_7_method_8_code 9 = .ok (.imul, 1) := by decide +kernel
theorem d_Likings_at_10 : decode prog_7_method_8_code 10 = .ok (.iload_n 2, 1) := by decide +kernel
theorem d_Likings_at_11 : decode prog_7_method_8_code 11 = .ok (.bipush 8, 2) := by decide +kernel
theorem d_Likings_at_13 : decode prog_7_method_8_code 13 = .ok (.imul, 1) := by decide +kernel
theorem d_Likings_at_14 : decode prog_7_method_8_code 14 = .ok (.iadd, 1) := by decide +kernel
theorem d_Likings_at_15 : decode prog_7_method_8_code 15 = .ok (.iload_n 3, 1) := by decide +kernel
theorem d_Likings_at_16 : decode prog_7_method_8_code 16 = .ok (.iadd, 1) := by decide +kernel
theorem d_Likings_at_17 : decode prog_7_method_8_code 17 = .ok (.istore 4, 2) := by decide +kernel
theorem d_Likings_at_19 : decode prog_7_method_8_code 19 = .ok (.iload 4, 2) := by decide +kernel
theorem d_Likings_at_21 : decode prog_7_method_8_code 21 = .ok (.ifCond .lt 23, 3) := by decide +kernel
theorem d_Likings_at_24 : decode prog_7_method_8_code 24 = .ok (.iload 4, 2) := by decide +kernel
theorem d_Likings_at_26 : decode prog_7_method_8_code 26 = .ok (.aload_n 0, 1) := by decide +kernel
theorem d_Likings_at_27 : decode prog_7_method_8_code 27 = .ok (.getfield 11, 3) := by decide +kernel
theorem d_Likings_at_30 : decode prog_7_method_8_code 30 = .ok (.arraylength, 1) := by decide +kernel
theorem d_Likings_at_31 : decode prog_7_method_8_code 31 = .ok (.if_icmp .ge 13, 3) := by decide +kernel
theorem d_Likings_at_34 : decode prog_7_method_8_code 34 = .ok (.aload_n 0, 1) := by decide +kernel
theorem d_Likings_at_35 : decode prog_7_method_8_code 35 = .ok (.getfield 11, 3) := by decide +kernel
theorem d_Likings_at_38 : decode prog_7_method_8_code 38 = .ok (.iload 4, 2) := by decide +kernel
theorem d_Likings_at_40 : decode prog_7_method_8_code 40 = .ok (.iaload, 1) := by decide +kernel
theorem d_Likings_at_41 : decode prog_7_method_8_code 41 = .ok (.goto 4, 3) := by decide +kernel
theorem d_Likings_at_44 : decode prog_7_method_8_code 44 = .ok (.iconst 0, 1) := by decide +kernel
theorem d_Likings_at_45 : decode prog_7_method_8_code 45 = .ok (.ireturn, 1) := by decide +kernel
def s_Likings_at_45 (p0 : Int32) (p1 : Int32) (p2 : Int32) (z0 : Int32) (σ : LH) : Option (Int32 × LH) :=
  some (z0, σ)
theorem b_Likings_at_45 {G : XG} {l : Launch} {p : Program} {e : Env} {R : Room} {s : State} {m : MethodId} {args : Array Value} {below : List Frame} {meth : Method} {c : Code} (C : XC G 1 570 p s m args c prog_7_method_8_code 5 R_Likings) (hr : meth.sig.returnType = (some .int)) (hk : meth.locks = false) {d : Nat} (hd : 1 ≤ d + 1) (hR : xroom R (d + 1)) {p0 : Int32} {p1 : Int32} {p2 : Int32} {σ' : LH} {r : Int32} {z0 : Int32} {σ : LH} (h0 : s_Likings_at_45 p0 p1 p2 z0 σ = some (r, σ')) : XJ G 1 570 p l e R s m args below meth c 5 (XQ G 1 570 below args s (some (.int r)) σ') 0 0 45 [] [.int z0] σ := by
  replace h0 := (show _ = _ from h0)
  unfold s_Likings_at_45 at h0
  exact x_iret C hr hk h0 d_Likings_at_45
def s_Likings_at_44 (p0 : Int32) (p1 : Int32) (p2 : Int32) (σ : LH) : Option (Int32 × LH) :=
  s_Likings_at_45 p0 p1 p2 0 σ
theorem b_Likings_at_44 {G : XG} {l : Launch} {p : Program} {e : Env} {R : Room} {s : State} {m : MethodId} {args : Array Value} {below : List Frame} {meth : Method} {c : Code} (C : XC G 1 570 p s m args c prog_7_method_8_code 5 R_Likings) (hr : meth.sig.returnType = (some .int)) (hk : meth.locks = false) {d : Nat} (hd : 1 ≤ d + 1) (hR : xroom R (d + 1)) {p0 : Int32} {p1 : Int32} {p2 : Int32} {σ' : LH} {r : Int32} {σ : LH} (h0 : s_Likings_at_44 p0 p1 p2 σ = some (r, σ')) : XJ G 1 570 p l e R s m args below meth c 5 (XQ G 1 570 below args s (some (.int r)) σ') 0 0 44 [] [] σ := by
  replace h0 := (show _ = _ from h0)
  unfold s_Likings_at_44 at h0
  refine x_iconst (v := 0) C d_Likings_at_44 (by decide) ?_
  exact x_lv C [] rfl (b_Likings_at_45 C hr hk hd hR h0)
def s_Likings_at (p0 : Int32) (p1 : Int32) (p2 : Int32) (σ : LH) : Option (Int32 × LH) :=
  if 0 ≤ p2 then (
   let x2 : Int32 := (((p0 * 64) + (p1 * 8)) + p2)
   if x2 < 0 then (
    s_Likings_at_44 p0 p1 p2 σ)
   else (
    if 6400 ≤ x2 then (
     s_Likings_at_44 p0 p1 p2 σ)
    else (
     if ib x2 6400 then (
     s_Likings_at_45 p0 p1 p2 (σ.1 34 (Int32.toNatClampNeg x2)) σ) else none)))
  else (
   some (0, σ))
theorem c_Likings_at {G : XG} {l : Launch} {d : Nat} (hd : 1 ≤ d) {p0 : Int32} {p1 : Int32} {p2 : Int32} {σ σ' : LH} {r : Int32} (h0 : s_Likings_at p0 p1 p2 σ = some (r, σ')) : xM G 1 570 l y_Likings_at prog_7_method_8_code 5 (some .int) d [.ref (G.2.2.1 + 33), .int p0, .int p1, .int p2] σ (some (.int r)) σ' := by
  obtain ⟨d, rfl⟩ : ∃ q, d = q + 1 := ⟨d - 1, by omega⟩
  refine x_met R_Likings rfl (by decide +kernel) (Nat.le_of_ble_eq_true rfl) fun p e s m below meth c C hr hk hR => ?_
  refine x_lv (lv' := [(0, .ref (G.2.2.1 + 33)), (1, .int p0), (2, .int p1), (3, .int p2)]) C [0, 1, 2, 3] rfl ?_
  generalize xrm (d + 1) = R at hR ⊢
  unfold s_Likings_at at h0
  refine x_iload_n C d_Likings_at_0 3 rfl ?_
  refine x_if_ge C 6 d_Likings_at_1 (by decide) (fun q1 => ?_) (fun q1 => ?_)
  · replace h0 := xit q1 h0
    refine x_iload_n C d_Likings_at_6 1 rfl ?_
    refine x_bipush (v := 64) C d_Likings_at_7 (by decide) ?_
    refine x_imul C d_Likings_at_9 ?_
    refine x_iload_n C d_Likings_at_10 2 rfl ?_
    refine x_bipush (v := 8) C d_Likings_at_11 (by decide) ?_
    refine x_imul C d_Likings_at_13 ?_
    refine x_iadd C d_Likings_at_14 ?_
    refine x_iload_n C d_Likings_at_15 3 rfl ?_
    refine x_iadd C d_Likings_at_16 ?_
    obtain ⟨x2, ex2, h0⟩ := xlet h0
    refine x_name C ex2 ?_
    refine x_istore (lv' := [(4, .int x2), (0, .ref (G.2.2.1 + 33)), (1, .int p0), (2, .int p1), (3, .int p2)]) C d_Likings_at_17 (by decide) rfl ?_
    refine x_iload C d_Likings_at_19 0 rfl ?_
    refine x_if_lt C 44 d_Likings_at_21 (by decide) (fun q3 => ?_) (fun q3 => ?_)
    · replace h0 := xit q3 h0
      exact x_lv C [] rfl (b_Likings_at_44 C hr hk hd hR h0)
    · replace h0 := xif q3 h0
      refine x_iload C d_Likings_at_24 0 rfl ?_
      refine x_aload_n C d_Likings_at_26 1 rfl ?_
      refine x_getA (y := 34) C fg_Likings_11 k_33 rfl d_Likings_at_27 ?_
      refine x_ilen (v := 6400) C k_34 rfl d_Likings_at_30 ?_
      refine x_icmp_ge C 44 d_Likings_at_31 (by decide) (fun q4 => ?_) (fun q4 => ?_)
      · replace h0 := xit q4 h0
        exact x_lv C [] rfl (b_Likings_at_44 C hr hk hd hR h0)
      · replace h0 := xif q4 h0
        refine x_aload_n C d_Likings_at_34 1 rfl ?_
        refine x_getA (y := 34) C fg_Likings_11 k_33 rfl d_Likings_at_35 ?_
        refine x_iload C d_Likings_at_38 0 rfl ?_
        obtain ⟨g5, h0⟩ := xgo h0
        refine x_iald C k_34 (ib_in g5) d_Likings_at_40 ?_
        refine x_goto C 45 d_Likings_at_41 (by decide) ?_
        exact x_lv C [] rfl (b_Likings_at_45 C hr hk hd hR h0)
  · replace h0 := xif q1 h0
    refine x_iconst (v := 0) C d_Likings_at_4 (by decide) ?_
    exact x_iret C hr hk h0 d_Likings_at_5
-- LostPlaces$Likings.row(I)I
theorem d_Likings_row_0 : decode prog_7_method_5_code 0 = .ok (.iload_n 1, 1) := by decide +kernel
theorem d_Likings_row_1 : decode prog_7_method_5_code 1 = .ok (.ifCond .lt 21, 3) := by decide +kernel
theorem d_Likings_row_4 : decode prog_7_method_5_code 4 = .ok (.iload_n 1, 1) := by decide +kernel
theorem d_Likings_row_5 : decode prog_7_method_5_code 5 = .ok (.aload_n 0, 1) := by decide +kernel
theorem d_Likings_row_6 : decode prog_7_method_5_code 6 = .ok (.getfield 15, 3) := by decide +kernel
theorem d_Likings_row_9 : decode prog_7_method_5_code 9 = .ok (.arraylength, 1) := by decide +kernel
theorem d_Likings_row_10 : decode prog_7_method_5_code 10 = .ok (.if_icmp .ge 12, 3) := by decide +kernel
theorem d_Likings_row_13 : decode prog_7_method_5_code 13 = .ok (.aload_n 0, 1) := by decide +kernel
theorem d_Likings_row_14 : decode prog_7_method_5_code 14 = .ok (.getfield 15, 3) := by decide +kernel
theorem d_Likings_row_17 : decode prog_7_method_5_code 17 = .ok (.iload_n 1, 1) := by decide +kernel
theorem d_Likings_row_18 : decode prog_7_method_5_code 18 = .ok (.iaload, 1) := by decide +kernel
theorem d_Likings_row_19 : decode prog_7_method_5_code 19 = .ok (.goto 4, 3) := by decide +kernel
theorem d_Likings_row_22 : decode prog_7_method_5_code 22 = .ok (.iconst 0, 1) := by decide +kernel
theorem d_Likings_row_23 : decode prog_7_method_5_code 23 = .ok (.ireturn, 1) := by decide +kernel
def s_Likings_row_23 (p0 : Int32) (z0 : Int32) (σ : LH) : Option (Int32 × LH) :=
  some (z0, σ)
theorem b_Likings_row_23 {G : XG} {l : Launch} {p : Program} {e : Env} {R : Room} {s : State} {m : MethodId} {args : Array Value} {below : List Frame} {meth : Method} {c : Code} (C : XC G 1 570 p s m args c prog_7_method_5_code 2 R_Likings) (hr : meth.sig.returnType = (some .int)) (hk : meth.locks = false) {d : Nat} (hd : 1 ≤ d + 1) (hR : xroom R (d + 1)) {p0 : Int32} {σ' : LH} {r : Int32} {z0 : Int32} {σ : LH} (h0 : s_Likings_row_23 p0 z0 σ = some (r, σ')) : XJ G 1 570 p l e R s m args below meth c 2 (XQ G 1 570 below args s (some (.int r)) σ') 0 0 23 [] [.int z0] σ := by
  replace h0 := (show _ = _ from h0)
  unfold s_Likings_row_23 at h0
  exact x_iret C hr hk h0 d_Likings_row_23
def s_Likings_row_22 (p0 : Int32) (σ : LH) : Option (Int32 × LH) :=
  s_Likings_row_23 p0 0 σ
theorem b_Likings_row_22 {G : XG} {l : Launch} {p : Program} {e : Env} {R : Room} {s : State} {m : MethodId} {args : Array Value} {below : List Frame} {meth : Method} {c : Code} (C : XC G 1 570 p s m args c prog_7_method_5_code 2 R_Likings) (hr : meth.sig.returnType = (some .int)) (hk : meth.locks = false) {d : Nat} (hd : 1 ≤ d + 1) (hR : xroom R (d + 1)) {p0 : Int32} {σ' : LH} {r : Int32} {σ : LH} (h0 : s_Likings_row_22 p0 σ = some (r, σ')) : XJ G 1 570 p l e R s m args below meth c 2 (XQ G 1 570 below args s (some (.int r)) σ') 0 0 22 [] [] σ := by
  replace h0 := (show _ = _ from h0)
  unfold s_Likings_row_22 at h0
  refine x_iconst (v := 0) C d_Likings_row_22 (by decide) ?_
  exact x_lv C [] rfl (b_Likings_row_23 C hr hk hd hR h0)
def s_Likings_row (p0 : Int32) (σ : LH) : Option (Int32 × LH) :=
  if p0 < 0 then (
   s_Likings_row_22 p0 σ)
  else (
   if 100 ≤ p0 then (
    s_Likings_row_22 p0 σ)
   else (
    if ib p0 100 then (
    s_Likings_row_23 p0 (σ.1 35 (Int32.toNatClampNeg p0)) σ) else none))
theorem c_Likings_row {G : XG} {l : Launch} {d : Nat} (hd : 1 ≤ d) {p0 : Int32} {σ σ' : LH} {r : Int32} (h0 : s_Likings_row p0 σ = some (r, σ')) : xM G 1 570 l y_Likings_row prog_7_method_5_code 2 (some .int) d [.ref (G.2.2.1 + 33), .int p0] σ (some (.int r)) σ' := by
  obtain ⟨d, rfl⟩ : ∃ q, d = q + 1 := ⟨d - 1, by omega⟩
  refine x_met R_Likings rfl (by decide +kernel) (Nat.le_of_ble_eq_true rfl) fun p e s m below meth c C hr hk hR => ?_
  refine x_lv (lv' := [(0, .ref (G.2.2.1 + 33)), (1, .int p0)]) C [0, 1] rfl ?_
  generalize xrm (d + 1) = R at hR ⊢
  unfold s_Likings_row at h0
  refine x_iload_n C d_Likings_row_0 1 rfl ?_
  refine x_if_lt C 22 d_Likings_row_1 (by decide) (fun q1 => ?_) (fun q1 => ?_)
  · replace h0 := xit q1 h0
    exact x_lv C [] rfl (b_Likings_row_22 C hr hk hd hR h0)
  · replace h0 := xif q1 h0
    refine x_iload_n C d_Likings_row_4 1 rfl ?_
    refine x_aload_n C d_Likings_row_5 0 rfl ?_
    refine x_getA (y := 35) C fg_Likings_15 k_33 rfl d_Likings_row_6 ?_
    refine x_ilen (v := 100) C k_35 rfl d_Likings_row_9 ?_
    refine x_icmp_ge C 22 d_Likings_row_10 (by decide) (fun q2 => ?_) (fun q2 => ?_)
    · replace h0 := xit q2 h0
      exact x_lv C [] rfl (b_Likings_row_22 C hr hk hd hR h0)
    · replace h0 := xif q2 h0
      refine x_aload_n C d_Likings_row_13 0 rfl ?_
      refine x_getA (y := 35) C fg_Likings_15 k_33 rfl d_Likings_row_14 ?_
      refine x_iload_n C d_Likings_row_17 1 rfl ?_
      obtain ⟨g3, h0⟩ := xgo h0
      refine x_iald C k_35 (ib_in g3) d_Likings_row_18 ?_
      refine x_goto C 23 d_Likings_row_19 (by decide) ?_
      exact x_lv C [] rfl (b_Likings_row_23 C hr hk hd hR h0)
-- LostPlaces$Hall.beginAs(LLostPlaces$Hall;)V
theorem d_Hall_beginAs_0 : decode prog_6_method_3_code 0 = .ok (.aload_n 1, 1) := by decide +kernel
theorem d_Hall_beginAs_1 : decode prog_6_method_3_code 1 = .ok (.getfield 9, 3) := by decide +kernel
theorem d_Hall_beginAs_4 : decode prog_6_method_3_code 4 = .ok (.iconst 0, 1) := by decide +kernel
theorem d_Hall_beginAs_5 : decode prog_6_method_3_code 5 = .ok (.aload_n 0, 1) := by decide +kernel
theorem d_Hall_beginAs_6 : decode prog_6_method_3_code 6 = .ok (.getfield 9, 3) := by decide +kernel
theorem d_Hall_beginAs_9 : decode prog_6_method_3_code 9 = .ok (.iconst 0, 1) := by decide +kernel
theorem d_Hall_beginAs_10 : decode prog_6_method_3_code 10 = .ok (.bipush 8, 2) := by decide +kernel
theorem d_Hall_beginAs_12 : decode prog_6_method_3_code 12 = .ok (.invokestatic 62, 3) := by decide +kernel
theorem d_Hall_beginAs_15 : decode prog_6_method_3_code 15 = .ok (.aload_n 1, 1) := by decide +kernel
theorem d_Hall_beginAs_16 : decode prog_6_method_3_code 16 = .ok (.getfield 15, 3) := by decide +kernel
theorem d_Hall_beginAs_19 : decode prog_6_method_3_code 19 = .ok (.iconst 0, 1) := by decide +kernel
theorem d_Hall_beginAs_20 : decode prog_6_method_3_code 20 = .ok (.aload_n 0, 1) := by decide +kernel
theorem d_Hall_beginAs_21 : decode prog_6_method_3_code 21 = .ok (.getfield 15, 3) := by decide +kernel
theorem d_Hall_beginAs_24 : decode prog_6_method_3_code 24 = .ok (.iconst 0, 1) := by decide +kernel
theorem d_Hall_beginAs_25 : decode prog_6_method_3_code 25 = .ok (.bipush 8, 2) := by decide +kernel
theorem d_Hall_beginAs_27 : decode prog_6_method_3_code 27 = .ok (.invokestatic 62, 3) := by decide +kernel
theorem d_Hall_beginAs_30 : decode prog_6_method_3_code 30 = .ok (.aload_n 1, 1) := by decide +kernel
theorem d_Hall_beginAs_31 : decode prog_6_method_3_code 31 = .ok (.getfield 18, 3) := by decide +kernel
theorem d_Hall_beginAs_34 : decode prog_6_method_3_code 34 = .ok (.iconst 0, 1) := by decide +kernel
theorem d_Hall_beginAs_35 : decode prog_6_method_3_code 35 = .ok (.aload_n 0, 1) := by decide +kernel
theorem d_Hall_beginAs_36 : decode prog_6_method_3_code 36 = .ok (.getfield 18, 3) := by decide +kernel
theorem d_Hall_beginAs_39 : decode prog_6_method_3_code 39 = .ok (.iconst 0, 1) := by decide +kernel
theorem d_Hall_beginAs_40 : decode prog_6_method_3_code 40 = .ok (.bipush 8, 2) := by decide +kernel
theorem d_Hall_beginAs_42 : decode prog_6_method_3_code 42 = .ok (.invokestatic 62, 3) := by decide +kernel
theorem d_Hall_beginAs_45 : decode prog_6_method_3_code 45 = .ok (.aload_n 1, 1) := by decide +kernel
theorem d_Hall_beginAs_46 : decode prog_6_method_3_code 46 = .ok (.getfield 21, 3) := by decide +kernel
theorem d_Hall_beginAs_49 : decode prog_6_method_3_code 49 = .ok (.iconst 0, 1) := by decide +kernel
theorem d_Hall_beginAs_50 : decode prog_6_method_3_code 50 = .ok (.aload_n 0, 1) := by decide +kernel
theorem d_Hall_beginAs_51 : decode prog_6_method_3_code 51 = .ok (.getfield 21, 3) := by decide +kernel
theorem d_Hall_beginAs_54 : decode prog_6_method_3_code 54 = .ok (.iconst 0, 1) := by decide +kernel
theorem d_Hall_beginAs_55 : decode prog_6_method_3_code 55 = .ok (.bipush 8, 2) := by decide +kernel
theorem d_Hall_beginAs_57 : decode prog_6_method_3_code 57 = .ok (.invokestatic 62, 3) := by decide +kernel
theorem d_Hall_beginAs_60 : decode prog_6_method_3_code 60 = .ok (.aload_n 1, 1) := by decide +kernel
theorem d_Hall_beginAs_61 : decode prog_6_method_3_code 61 = .ok (.getfield 24, 3) := by decide +kernel
theorem d_Hall_beginAs_64 : decode prog_6_method_3_code 64 = .ok (.iconst 0, 1) := by decide +kernel
theorem d_Hall_beginAs_65 : decode prog_6_method_3_code 65 = .ok (.aload_n 0, 1) := by decide +kernel
theorem d_Hall_beginAs_66 : decode prog_6_method_3_code 66 = .ok (.getfield 24, 3) := by decide +kernel
theorem d_Hall_beginAs_69 : decode prog_6_method_3_code 69 = .ok (.iconst 0, 1) := by decide +kernel
theorem d_Hall_beginAs_70 : decode prog_6_method_3_code 70 = .ok (.bipush 8, 2) := by decide +kernel
theorem d_Hall_beginAs_72 : decode prog_6_method_3_code 72 = .ok (.invokestatic 62, 3) := by decide +kernel
theorem d_Hall_beginAs_75 : decode prog_6_method_3_code 75 = .ok (.aload_n 1, 1) := by decide +kernel
theorem d_Hall_beginAs_76 : decode prog_6_method_3_code 76 = .ok (.getfield 27, 3) := by decide +kernel
theorem d_Hall_beginAs_79 : decode prog_6_method_3_code 79 = .ok (.iconst 0, 1) := by decide +kernel
theorem d_Hall_beginAs_80 : decode prog_6_method_3_code 80 = .ok (.aload_n 0, 1) := by decide +kernel
theorem d_Hall_beginAs_81 : decode prog_6_method_3_code 81 = .ok (.getfield 27, 3) := by decide +kernel
theorem d_Hall_beginAs_84 : decode prog_6_method_3_code 84 = .ok (.iconst 0, 1) := by decide +kernel
theorem d_Hall_beginAs_85 : decode prog_6_method_3_code 85 = .ok (.bipush 8, 2) := by decide +kernel
theorem d_Hall_beginAs_87 : decode prog_6_method_3_code 87 = .ok (.invokestatic 62, 3) := by decide +kernel
theorem d_Hall_beginAs_90 : decode prog_6_method_3_code 90 = .ok (.aload_n 1, 1) := by decide +kernel
theorem d_Hall_beginAs_91 : decode prog_6_method_3_code 91 = .ok (.getfield 30, 3) := by decide +kernel
theorem d_Hall_beginAs_94 : decode prog_6_method_3_code 94 = .ok (.iconst 0, 1) := by decide +kernel
theorem d_Hall_beginAs_95 : decode prog_6_method_3_code 95 = .ok (.aload_n 0, 1) := by decide +kernel
theorem d_Hall_beginAs_96 : decode prog_6_method_3_code 96 = .ok (.getfield 30, 3) := by decide +kernel
theorem d_Hall_beginAs_99 : decode prog_6_method_3_code 99 = .ok (.iconst 0, 1) := by decide +kernel
theorem d_Hall_beginAs_100 : decode prog_6_method_3_code 100 = .ok (.bipush 8, 2) := by decide +kernel
theorem d_Hall_beginAs_102 : decode prog_6_method_3_code 102 = .ok (.invokestatic 62, 3) := by decide +kernel
theorem d_Hall_beginAs_105 : decode prog_6_method_3_code 105 = .ok (.aload_n 0, 1) := by decide +kernel
theorem d_Hall_beginAs_106 : decode prog_6_method_3_code 106 = .ok (.aload_n 1, 1) := by decide +kernel
theorem d_Hall_beginAs_107 : decode prog_6_method_3_code 107 = .ok (.getfield 33, 3) := by decide +kernel
theorem d_Hall_beginAs_110 : decode prog_6_method_3_code 110 = .ok (.putfield 33, 3) := by decide +kernel
theorem d_Hall_beginAs_113 : decode prog_6_method_3_code 113 = .ok (.aload_n 0, 1) := by decide +kernel
theorem d_Hall_beginAs_114 : decode prog_6_method_3_code 114 = .ok (.aload_n 1, 1) := by decide +kernel
theorem d_Hall_beginAs_115 : decode prog_6_method_3_code 115 = .ok (.getfield 37, 3) := by decide +kernel
theorem d_Hall_beginAs_118 : decode prog_6_method_3_code 118 = .ok (.putfield 37, 3) := by decide +kernel
theorem d_Hall_beginAs_121 : decode prog_6_method_3_code 121 = .ok (.aload_n 0, 1) := by decide +kernel
theorem d_Hall_beginAs_122 : decode prog_6_method_3_code 122 = .ok (.aload_n 1, 1) := by decide +kernel
theorem d_Hall_beginAs_123 : decode prog_6_method_3_code 123 = .ok (.getfield 43, 3) := by decide +kernel
theorem d_Hall_beginAs_126 : decode prog_6_method_3_code 126 = .ok (.putfield 43, 3) := by decide +kernel
theorem d_Hall_beginAs_129 : decode prog_6_method_3_code 129 = .ok (.return_, 1) := by decide +kernel
def s_Hall_beginAs (h : Nat) (p0 : Nat) (σ : LH) : Option (LH) :=
  let σ1 : LH := stF σ (h + 1) (va_cpy (σ.1 (p0 + 1)) (σ.1 (h + 1)) (Int32.toNatClampNeg 0) (Int32.toNatClampNeg 0) (Int32.toNatClampNeg 8))
  let σ2 : LH := stF σ1 (h + 2) (va_cpy (σ1.1 (p0 + 2)) (σ1.1 (h + 2)) (Int32.toNatClampNeg 0) (Int32.toNatClampNeg 0) (Int32.toNatClampNeg 8))
  let σ3 : LH := stF σ2 (h + 3) (va_cpy (σ2.1 (p0 + 3)) (σ2.1 (h + 3)) (Int32.toNatClampNeg 0) (Int32.toNatClampNeg 0) (Int32.toNatClampNeg 8))
  let σ4 : LH := stF σ3 (h + 4) (va_cpy (σ3.1 (p0 + 4)) (σ3.1 (h + 4)) (Int32.toNatClampNeg 0) (Int32.toNatClampNeg 0) (Int32.toNatClampNeg 8))
  let σ5 : LH := stF σ4 (h + 5) (va_cpy (σ4.1 (p0 + 5)) (σ4.1 (h + 5)) (Int32.toNatClampNeg 0) (Int32.toNatClampNeg 0) (Int32.toNatClampNeg 8))
  let σ6 : LH := stF σ5 (h + 6) (va_cpy (σ5.1 (p0 + 6)) (σ5.1 (h + 6)) (Int32.toNatClampNeg 0) (Int32.toNatClampNeg 0) (Int32.toNatClampNeg 8))
  let σ7 : LH := stF σ6 (h + 7) (va_cpy (σ6.1 (p0 + 7)) (σ6.1 (h + 7)) (Int32.toNatClampNeg 0) (Int32.toNatClampNeg 0) (Int32.toNatClampNeg 8))
  let σ8 : LH := stI σ7 h 7 (σ7.1 p0 7)
  let σ9 : LH := stI σ8 h 8 (σ8.1 p0 8)
  let σ10 : LH := stI σ9 h 10 (σ9.1 p0 10)
  some σ10
theorem c_Hall_beginAs {G : XG} {l : Launch} {d : Nat} (hd : 9 ≤ d) {h : Nat} {p0 : Nat} (hh : h ∈ xHalls) (hp0 : p0 ∈ xHalls) {σ σ' : LH} (h0 : s_Hall_beginAs h p0 σ = some σ') : xM G 1 570 l y_Hall_beginAs prog_6_method_3_code 2 none d [.ref (G.2.2.1 + h), .ref (G.2.2.1 + p0)] σ none σ' := by
  obtain ⟨d, rfl⟩ : ∃ q, d = q + 1 := ⟨d - 1, by omega⟩
  refine x_met R_Hall rfl (by decide +kernel) (Nat.le_of_ble_eq_true rfl) fun p e s m below meth c C hr hk hR => ?_
  refine x_lv (lv' := [(0, .ref (G.2.2.1 + h)), (1, .ref (G.2.2.1 + p0))]) C [0, 1] rfl ?_
  generalize xrm (d + 1) = R at hR ⊢
  unfold s_Hall_beginAs at h0
  refine x_aload_n C d_Hall_beginAs_0 1 rfl ?_
  refine x_getR (y := 1) C fg_Hall_9 (hl_0 hp0) rfl d_Hall_beginAs_1 ?_
  refine x_iconst (v := 0) C d_Hall_beginAs_4 (by decide) ?_
  refine x_aload_n C d_Hall_beginAs_5 0 rfl ?_
  refine x_getR (y := 1) C fg_Hall_9 (hl_0 hh) rfl d_Hall_beginAs_6 ?_
  refine x_iconst (v := 0) C d_Hall_beginAs_9 (by decide) ?_
  refine x_bipush (v := 8) C d_Hall_beginAs_10 (by decide) ?_
  refine x_copyi C (hl_1 hp0) (hl_1 hh) (xroom1 hR) w_1012 w_1014 w_1013 w_131 (by decide) (by decide) (by decide) (by decide) (by decide) (Nat.le_of_ble_eq_true rfl) d_Hall_beginAs_12 ?_
  obtain ⟨σ1, eσ1, h0⟩ := xlet h0
  refine x_sig C eσ1 ?_
  refine x_aload_n C d_Hall_beginAs_15 1 rfl ?_
  refine x_getR (y := 2) C fg_Hall_15 (hl_0 hp0) rfl d_Hall_beginAs_16 ?_
  refine x_iconst (v := 0) C d_Hall_beginAs_19 (by decide) ?_
  refine x_aload_n C d_Hall_beginAs_20 0 rfl ?_
  refine x_getR (y := 2) C fg_Hall_15 (hl_0 hh) rfl d_Hall_beginAs_21 ?_
  refine x_iconst (v := 0) C d_Hall_beginAs_24 (by decide) ?_
  refine x_bipush (v := 8) C d_Hall_beginAs_25 (by decide) ?_
  refine x_copyi C (hl_2 hp0) (hl_2 hh) (xroom1 hR) w_1012 w_1014 w_1013 w_131 (by decide) (by decide) (by decide) (by decide) (by decide) (Nat.le_of_ble_eq_true rfl) d_Hall_beginAs_27 ?_
  obtain ⟨σ2, eσ2, h0⟩ := xlet h0
  refine x_sig C eσ2 ?_
  refine x_aload_n C d_Hall_beginAs_30 1 rfl ?_
  refine x_getR (y := 3) C fg_Hall_18 (hl_0 hp0) rfl d_Hall_beginAs_31 ?_
  refine x_iconst (v := 0) C d_Hall_beginAs_34 (by decide) ?_
  refine x_aload_n C d_Hall_beginAs_35 0 rfl ?_
  refine x_getR (y := 3) C fg_Hall_18 (hl_0 hh) rfl d_Hall_beginAs_36 ?_
  refine x_iconst (v := 0) C d_Hall_beginAs_39 (by decide) ?_
  refine x_bipush (v := 8) C d_Hall_beginAs_40 (by decide) ?_
  refine x_copyi C (hl_3 hp0) (hl_3 hh) (xroom1 hR) w_1012 w_1014 w_1013 w_131 (by decide) (by decide) (by decide) (by decide) (by decide) (Nat.le_of_ble_eq_true rfl) d_Hall_beginAs_42 ?_
  obtain ⟨σ3, eσ3, h0⟩ := xlet h0
  refine x_sig C eσ3 ?_
  refine x_aload_n C d_Hall_beginAs_45 1 rfl ?_
  refine x_getR (y := 4) C fg_Hall_21 (hl_0 hp0) rfl d_Hall_beginAs_46 ?_
  refine x_iconst (v := 0) C d_Hall_beginAs_49 (by decide) ?_
  refine x_aload_n C d_Hall_beginAs_50 0 rfl ?_
  refine x_getR (y := 4) C fg_Hall_21 (hl_0 hh) rfl d_Hall_beginAs_51 ?_
  refine x_iconst (v := 0) C d_Hall_beginAs_54 (by decide) ?_
  refine x_bipush (v := 8) C d_Hall_beginAs_55 (by decide) ?_
  refine x_copyi C (hl_4 hp0) (hl_4 hh) (xroom1 hR) w_1012 w_1014 w_1013 w_131 (by decide) (by decide) (by decide) (by decide) (by decide) (Nat.le_of_ble_eq_true rfl) d_Hall_beginAs_57 ?_
  obtain ⟨σ4, eσ4, h0⟩ := xlet h0
  refine x_sig C eσ4 ?_
  refine x_aload_n C d_Hall_beginAs_60 1 rfl ?_
  refine x_getR (y := 5) C fg_Hall_24 (hl_0 hp0) rfl d_Hall_beginAs_61 ?_
  refine x_iconst (v := 0) C d_Hall_beginAs_64 (by decide) ?_
  refine x_aload_n C d_Hall_beginAs_65 0 rfl ?_
  refine x_getR (y := 5) C fg_Hall_24 (hl_0 hh) rfl d_Hall_beginAs_66 ?_
  refine x_iconst (v := 0) C d_Hall_beginAs_69 (by decide) ?_
  refine x_bipush (v := 8) C d_Hall_beginAs_70 (by decide) ?_
  refine x_copyi C (hl_5 hp0) (hl_5 hh) (xroom1 hR) w_1012 w_1014 w_1013 w_131 (by decide) (by decide) (by decide) (by decide) (by decide) (Nat.le_of_ble_eq_true rfl) d_Hall_beginAs_72 ?_
  obtain ⟨σ5, eσ5, h0⟩ := xlet h0
  refine x_sig C eσ5 ?_
  refine x_aload_n C d_Hall_beginAs_75 1 rfl ?_
  refine x_getR (y := 6) C fg_Hall_27 (hl_0 hp0) rfl d_Hall_beginAs_76 ?_
  refine x_iconst (v := 0) C d_Hall_beginAs_79 (by decide) ?_
  refine x_aload_n C d_Hall_beginAs_80 0 rfl ?_
  refine x_getR (y := 6) C fg_Hall_27 (hl_0 hh) rfl d_Hall_beginAs_81 ?_
  refine x_iconst (v := 0) C d_Hall_beginAs_84 (by decide) ?_
  refine x_bipush (v := 8) C d_Hall_beginAs_85 (by decide) ?_
  refine x_copyi C (hl_6 hp0) (hl_6 hh) (xroom1 hR) w_1012 w_1014 w_1013 w_131 (by decide) (by decide) (by decide) (by decide) (by decide) (Nat.le_of_ble_eq_true rfl) d_Hall_beginAs_87 ?_
  obtain ⟨σ6, eσ6, h0⟩ := xlet h0
  refine x_sig C eσ6 ?_
  refine x_aload_n C d_Hall_beginAs_90 1 rfl ?_
  refine x_getR (y := 7) C fg_Hall_30 (hl_0 hp0) rfl d_Hall_beginAs_91 ?_
  refine x_iconst (v := 0) C d_Hall_beginAs_94 (by decide) ?_
  refine x_aload_n C d_Hall_beginAs_95 0 rfl ?_
  refine x_getR (y := 7) C fg_Hall_30 (hl_0 hh) rfl d_Hall_beginAs_96 ?_
  refine x_iconst (v := 0) C d_Hall_beginAs_99 (by decide) ?_
  refine x_bipush (v := 8) C d_Hall_beginAs_100 (by decide) ?_
  refine x_copyi C (hl_7 hp0) (hl_7 hh) (xroom1 hR) w_1012 w_1014 w_1013 w_131 (by decide) (by decide) (by decide) (by decide) (by decide) (Nat.le_of_ble_eq_true rfl) d_Hall_beginAs_102 ?_
  obtain ⟨σ7, eσ7, h0⟩ := xlet h0
  refine x_sig C eσ7 ?_
  refine x_aload_n C d_Hall_beginAs_105 0 rfl ?_
  refine x_aload_n C d_Hall_beginAs_106 1 rfl ?_
  refine x_getI (y := 0) C fg_Hall_33 (hl_0 hp0) rfl d_Hall_beginAs_107 ?_
  refine x_putI (y := 0) C fp_Hall_33 (hl_0 hh) rfl rfl rfl d_Hall_beginAs_110 ?_
  obtain ⟨σ8, eσ8, h0⟩ := xlet h0
  refine x_sig C eσ8 ?_
  refine x_aload_n C d_Hall_beginAs_113 0 rfl ?_
  refine x_aload_n C d_Hall_beginAs_114 1 rfl ?_
  refine x_getI (y := 0) C fg_Hall_37 (hl_0 hp0) rfl d_Hall_beginAs_115 ?_
  refine x_putI (y := 0) C fp_Hall_37 (hl_0 hh) rfl rfl rfl d_Hall_beginAs_118 ?_
  obtain ⟨σ9, eσ9, h0⟩ := xlet h0
  refine x_sig C eσ9 ?_
  refine x_aload_n C d_Hall_beginAs_121 0 rfl ?_
  refine x_aload_n C d_Hall_beginAs_122 1 rfl ?_
  refine x_getI (y := 0) C fg_Hall_43 (hl_0 hp0) rfl d_Hall_beginAs_123 ?_
  refine x_putI (y := 0) C fp_Hall_43 (hl_0 hh) rfl rfl rfl d_Hall_beginAs_126 ?_
  obtain ⟨σ10, eσ10, h0⟩ := xlet h0
  refine x_sig C eσ10 ?_
  exact x_vret C hr hk h0 d_Hall_beginAs_129
-- LostPlaces$Hall.isSitter(I)Z
theorem d_Hall_isSitter_0 : decode prog_6_method_6_code 0 = .ok (.iload_n 0, 1) := by decide +kernel
theorem d_Hall_isSitter_1 : decode prog_6_method_6_code 1 = .ok (.ifCond .lt 13, 3) := by decide +kernel
theorem d_Hall_isSitter_4 : decode prog_6_method_6_code 4 = .ok (.iload_n 0, 1) := by decide +kernel
theorem d_Hall_isSitter_5 : decode prog_6_method_6_code 5 = .ok (.bipush 8, 2) := by decide +kernel
theorem d_Hall_isSitter_7 : decode prog_6_method_6_code 7 = .ok (.if_icmp .ge 7, 3) := by decide +kernel
theorem d_Hall_isSitter_10 : decode prog_6_method_6_code 10 = .ok (.iconst 1, 1) := by decide +kernel
theorem d_Hall_isSitter_11 : decode prog_6_method_6_code 11 = .ok (.goto 4, 3) := by decide +kernel
theorem d_Hall_isSitter_14 : decode prog_6_method_6_code 14 = .ok (.iconst 0, 1) := by decide +kernel
theorem d_Hall_isSitter_15 : decode prog_6_method_6_code 15 = .ok (.ireturn, 1) := by decide +kernel
def s_Hall_isSitter_15 (p0 : Int32) (z0 : Int32) (σ : LH) : Option (Int32 × LH) :=
  if zb z0 then (
  some (z0, σ)) else none
theorem b_Hall_isSitter_15 {G : XG} {l : Launch} {p : Program} {e : Env} {R : Room} {s : State} {m : MethodId} {args : Array Value} {below : List Frame} {meth : Method} {c : Code} (C : XC G 1 570 p s m args c prog_6_method_6_code 1 R_Hall) (hr : meth.sig.returnType = (some .boolean)) (hk : meth.locks = false) {d : Nat} (hd : 1 ≤ d + 1) (hR : xroom R (d + 1)) {p0 : Int32} {σ' : LH} {r : Int32} {z0 : Int32} {σ : LH} (h0 : s_Hall_isSitter_15 p0 z0 σ = some (r, σ')) : XJ G 1 570 p l e R s m args below meth c 1 (XQ G 1 570 below args s (some (.int r)) σ') 0 0 15 [] [.int z0] σ := by
  replace h0 := (show _ = _ from h0)
  unfold s_Hall_isSitter_15 at h0
  obtain ⟨g2, h0⟩ := xgo h0
  exact x_zret C hr hk g2 h0 d_Hall_isSitter_15
def s_Hall_isSitter_14 (p0 : Int32) (σ : LH) : Option (Int32 × LH) :=
  s_Hall_isSitter_15 p0 0 σ
theorem b_Hall_isSitter_14 {G : XG} {l : Launch} {p : Program} {e : Env} {R : Room} {s : State} {m : MethodId} {args : Array Value} {below : List Frame} {meth : Method} {c : Code} (C : XC G 1 570 p s m args c prog_6_method_6_code 1 R_Hall) (hr : meth.sig.returnType = (some .boolean)) (hk : meth.locks = false) {d : Nat} (hd : 1 ≤ d + 1) (hR : xroom R (d + 1)) {p0 : Int32} {σ' : LH} {r : Int32} {σ : LH} (h0 : s_Hall_isSitter_14 p0 σ = some (r, σ')) : XJ G 1 570 p l e R s m args below meth c 1 (XQ G 1 570 below args s (some (.int r)) σ') 0 0 14 [] [] σ := by
  replace h0 := (show _ = _ from h0)
  unfold s_Hall_isSitter_14 at h0
  refine x_iconst (v := 0) C d_Hall_isSitter_14 (by decide) ?_
  exact x_lv C [] rfl (b_Hall_isSitter_15 C hr hk hd hR h0)
def s_Hall_isSitter (p0 : Int32) (σ : LH) : Option (Int32 × LH) :=
  if p0 < 0 then (
   s_Hall_isSitter_14 p0 σ)
  else (
   if 8 ≤ p0 then (
    s_Hall_isSitter_14 p0 σ)
   else (
    s_Hall_isSitter_15 p0 1 σ))
theorem c_Hall_isSitter {G : XG} {l : Launch} {d : Nat} (hd : 1 ≤ d) {p0 : Int32} {σ σ' : LH} {r : Int32} (h0 : s_Hall_isSitter p0 σ = some (r, σ')) : xM G 1 570 l y_Hall_isSitter prog_6_method_6_code 1 (some .boolean) d [.int p0] σ (some (.int r)) σ' := by
  obtain ⟨d, rfl⟩ : ∃ q, d = q + 1 := ⟨d - 1, by omega⟩
  refine x_met R_Hall rfl (by decide +kernel) (Nat.le_of_ble_eq_true rfl) fun p e s m below meth c C hr hk hR => ?_
  refine x_lv (lv' := [(0, .int p0)]) C [0] rfl ?_
  generalize xrm (d + 1) = R at hR ⊢
  unfold s_Hall_isSitter at h0
  refine x_iload_n C d_Hall_isSitter_0 0 rfl ?_
  refine x_if_lt C 14 d_Hall_isSitter_1 (by decide) (fun q1 => ?_) (fun q1 => ?_)
  · replace h0 := xit q1 h0
    exact x_lv C [] rfl (b_Hall_isSitter_14 C hr hk hd hR h0)
  · replace h0 := xif q1 h0
    refine x_iload_n C d_Hall_isSitter_4 0 rfl ?_
    refine x_bipush (v := 8) C d_Hall_isSitter_5 (by decide) ?_
    refine x_icmp_ge C 14 d_Hall_isSitter_7 (by decide) (fun q3 => ?_) (fun q3 => ?_)
    · replace h0 := xit q3 h0
      exact x_lv C [] rfl (b_Hall_isSitter_14 C hr hk hd hR h0)
    · replace h0 := xif q3 h0
      refine x_iconst (v := 1) C d_Hall_isSitter_10 (by decide) ?_
      refine x_goto C 15 d_Hall_isSitter_11 (by decide) ?_
      exact x_lv C [] rfl (b_Hall_isSitter_15 C hr hk hd hR h0)
-- LostPlaces$Hall.isSeat(I)Z
theorem d_Hall_isSeat_0 : decode prog_6_method_7_code 0 = .ok (.iload_n 0, 1) := by decide +kernel
theorem d_Hall_isSeat_1 : decode prog_6_method_7_code 1 = .ok (.ifCond .lt 13, 3) := by decide +kernel
theorem d_Hall_isSeat_4 : decode prog_6_method_7_code 4 = .ok (.iload_n 0, 1) := by decide +kernel
theorem d_Hall_isSeat_5 : decode prog_6_method_7_code 5 = .ok (.bipush 8, 2) := by decide +kernel
theorem d_Hall_isSeat_7 : decode prog_6_method_7_code 7 = .ok (.if_icmp .ge 7, 3) := by decide +kernel
theorem d_Hall_isSeat_10 : decode prog_6_method_7_code 10 = .ok (.iconst 1, 1) := by decide +kernel
theorem d_Hall_isSeat_11 : decode prog_6_method_7_code 11 = .ok (.goto 4, 3) := by decide +kernel
theorem d_Hall_isSeat_14 : decode prog_6_method_7_code 14 = .ok (.iconst 0, 1) := by decide +kernel
theorem d_Hall_isSeat_15 : decode prog_6_method_7_code 15 = .ok (.ireturn, 1) := by decide +kernel
def s_Hall_isSeat_15 (p0 : Int32) (z0 : Int32) (σ : LH) : Option (Int32 × LH) :=
  if zb z0 then (
  some (z0, σ)) else none
theorem b_Hall_isSeat_15 {G : XG} {l : Launch} {p : Program} {e : Env} {R : Room} {s : State} {m : MethodId} {args : Array Value} {below : List Frame} {meth : Method} {c : Code} (C : XC G 1 570 p s m args c prog_6_method_7_code 1 R_Hall) (hr : meth.sig.returnType = (some .boolean)) (hk : meth.locks = false) {d : Nat} (hd : 1 ≤ d + 1) (hR : xroom R (d + 1)) {p0 : Int32} {σ' : LH} {r : Int32} {z0 : Int32} {σ : LH} (h0 : s_Hall_isSeat_15 p0 z0 σ = some (r, σ')) : XJ G 1 570 p l e R s m args below meth c 1 (XQ G 1 570 below args s (some (.int r)) σ') 0 0 15 [] [.int z0] σ := by
  replace h0 := (show _ = _ from h0)
  unfold s_Hall_isSeat_15 at h0
  obtain ⟨g2, h0⟩ := xgo h0
  exact x_zret C hr hk g2 h0 d_Hall_isSeat_15
def s_Hall_isSeat_14 (p0 : Int32) (σ : LH) : Option (Int32 × LH) :=
  s_Hall_isSeat_15 p0 0 σ
theorem b_Hall_isSeat_14 {G : XG} {l : Launch} {p : Program} {e : Env} {R : Room} {s : State} {m : MethodId} {args : Array Value} {below : List Frame} {meth : Method} {c : Code} (C : XC G 1 570 p s m args c prog_6_method_7_code 1 R_Hall) (hr : meth.sig.returnType = (some .boolean)) (hk : meth.locks = false) {d : Nat} (hd : 1 ≤ d + 1) (hR : xroom R (d + 1)) {p0 : Int32} {σ' : LH} {r : Int32} {σ : LH} (h0 : s_Hall_isSeat_14 p0 σ = some (r, σ')) : XJ G 1 570 p l e R s m args below meth c 1 (XQ G 1 570 below args s (some (.int r)) σ') 0 0 14 [] [] σ := by
  replace h0 := (show _ = _ from h0)
  unfold s_Hall_isSeat_14 at h0
  refine x_iconst (v := 0) C d_Hall_isSeat_14 (by decide) ?_
  exact x_lv C [] rfl (b_Hall_isSeat_15 C hr hk hd hR h0)
def s_Hall_isSeat (p0 : Int32) (σ : LH) : Option (Int32 × LH) :=
  if p0 < 0 then (
   s_Hall_isSeat_14 p0 σ)
  else (
   if 8 ≤ p0 then (
    s_Hall_isSeat_14 p0 σ)
   else (
    s_Hall_isSeat_15 p0 1 σ))
theorem c_Hall_isSeat {G : XG} {l : Launch} {d : Nat} (hd : 1 ≤ d) {p0 : Int32} {σ σ' : LH} {r : Int32} (h0 : s_Hall_isSeat p0 σ = some (r, σ')) : xM G 1 570 l y_Hall_isSeat prog_6_method_7_code 1 (some .boolean) d [.int p0] σ (some (.int r)) σ' := by
  obtain ⟨d, rfl⟩ : ∃ q, d = q + 1 := ⟨d - 1, by omega⟩
  refine x_met R_Hall rfl (by decide +kernel) (Nat.le_of_ble_eq_true rfl) fun p e s m below meth c C hr hk hR => ?_
  refine x_lv (lv' := [(0, .int p0)]) C [0] rfl ?_
  generalize xrm (d + 1) = R at hR ⊢
  unfold s_Hall_isSeat at h0
  refine x_iload_n C d_Hall_isSeat_0 0 rfl ?_
  refine x_if_lt C 14 d_Hall_isSeat_1 (by decide) (fun q1 => ?_) (fun q1 => ?_)
  · replace h0 := xit q1 h0
    exact x_lv C [] rfl (b_Hall_isSeat_14 C hr hk hd hR h0)
  · replace h0 := xif q1 h0
    refine x_iload_n C d_Hall_isSeat_4 0 rfl ?_
    refine x_bipush (v := 8) C d_Hall_isSeat_5 (by decide) ?_
    refine x_icmp_ge C 14 d_Hall_isSeat_7 (by decide) (fun q3 => ?_) (fun q3 => ?_)
    · replace h0 := xit q3 h0
      exact x_lv C [] rfl (b_Hall_isSeat_14 C hr hk hd hR h0)
    · replace h0 := xif q3 h0
      refine x_iconst (v := 1) C d_Hall_isSeat_10 (by decide) ?_
      refine x_goto C 15 d_Hall_isSeat_11 (by decide) ?_
      exact x_lv C [] rfl (b_Hall_isSeat_15 C hr hk hd hR h0)
-- LostPlaces$Hall.getUp(IIZ)V
theorem d_Hall_getUp_0 : decode prog_6_method_10_code 0 = .ok (.iload_n 1, 1) := by decide +kernel
theorem d_Hall_getUp_1 : decode prog_6_method_10_code 1 = .ok (.invokestatic 76, 3) := by decide +kernel
theorem d_Hall_getUp_4 : decode prog_6_method_10_code 4 = .ok (.ifCond .ne 4, 3) := by decide +kernel
theorem d_Hall_getUp_7 : decode prog_6_method_10_code 7 = .ok (.return_, 1) := by decide +kernel
theorem d_Hall_getUp_8 : decode prog_6_method_10_code 8 = .ok (.aload_n 0, 1) := by decide +kernel
theorem d_Hall_getUp_9 : decode prog_6_method_10_code 9 = .ok (.getfield 9, 3) := by decide +kernel
theorem d_Hall_getUp_12 : decode prog_6_method_10_code 12 = .ok (.iload_n 1, 1) := by decide +kernel
theorem d_Hall_getUp_13 : decode prog_6_method_10_code 13 = .ok (.iaload, 1) := by decide +kernel
theorem d_Hall_getUp_14 : decode prog_6_method_10_code 14 = .ok (.istore 4, 2) := by decide +kernel
theorem d_Hall_getUp_16 : decode prog_6_method_10_code 16 = .ok (.aload_n 0, 1) := by decide +kernel
theorem d_Hall_getUp_17 : decode prog_6_method_10_code 17 = .ok (.iload_n 1, 1) := by decide +kernel
theorem d_Hall_getUp_18 : decode prog_6_method_10_code 18 = .ok (.bipush (-2), 2) := by decide +kernel
theorem d_Hall_getUp_20 : decode prog_6_method_10_code 20 = .ok (.invokevirtual 58, 3) := by decide +kernel
theorem d_Hall_getUp_23 : decode prog_6_method_10_code 23 = .ok (.aload_n 0, 1) := by decide +kernel
theorem d_Hall_getUp_24 : decode prog_6_method_10_code 24 = .ok (.getfield 15, 3) := by decide +kernel
theorem d_Hall_getUp_27 : decode prog_6_method_10_code 27 = .ok (.iload_n 1, 1) := by decide +kernel
theorem d_Hall_getUp_28 : decode prog_6_method_10_code 28 = .ok (.aload_n 0, 1) := by decide +kernel
theorem d_Hall_getUp_29 : decode prog_6_method_10_code 29 = .ok (.getfield 33, 3) := by decide +kernel
theorem d_Hall_getUp_32 : decode prog_6_method_10_code 32 = .ok (.iload_n 2, 1) := by decide +kernel
theorem d_Hall_getUp_33 : decode prog_6_method_10_code 33 = .ok (.iadd, 1) := by decide +kernel
theorem d_Hall_getUp_34 : decode prog_6_method_10_code 34 = .ok (.iastore, 1) := by decide +kernel
theorem d_Hall_getUp_35 : decode prog_6_method_10_code 35 = .ok (.iload_n 3, 1) := by decide +kernel
theorem d_Hall_getUp_36 : decode prog_6_method_10_code 36 = .ok (.ifCond .eq 46, 3) := by decide +kernel
theorem d_Hall_getUp_39 : decode prog_6_method_10_code 39 = .ok (.aload_n 0, 1) := by decide +kernel
theorem d_Hall_getUp_40 : decode prog_6_method_10_code 40 = .ok (.getfield 18, 3) := by decide +kernel
theorem d_Hall_getUp_43 : decode prog_6_method_10_code 43 = .ok (.iload_n 1, 1) := by decide +kernel
theorem d_Hall_getUp_44 : decode prog_6_method_10_code 44 = .ok (.iaload, 1) := by decide +kernel
theorem d_Hall_getUp_45 : decode prog_6_method_10_code 45 = .ok (.ifCond .le 37, 3) := by decide +kernel
theorem d_Hall_getUp_48 : decode prog_6_method_10_code 48 = .ok (.iload 4, 2) := by decide +kernel
theorem d_Hall_getUp_50 : decode prog_6_method_10_code 50 = .ok (.invokestatic 72, 3) := by decide +kernel
theorem d_Hall_getUp_53 : decode prog_6_method_10_code 53 = .ok (.ifCond .eq 29, 3) := by decide +kernel
theorem d_Hall_getUp_56 : decode prog_6_method_10_code 56 = .ok (.aload_n 0, 1) := by decide +kernel
theorem d_Hall_getUp_57 : decode prog_6_method_10_code 57 = .ok (.getfield 27, 3) := by decide +kernel
theorem d_Hall_getUp_60 : decode prog_6_method_10_code 60 = .ok (.iload 4, 2) := by decide +kernel
theorem d_Hall_getUp_62 : decode prog_6_method_10_code 62 = .ok (.iload_n 1, 1) := by decide +kernel
theorem d_Hall_getUp_63 : decode prog_6_method_10_code 63 = .ok (.iastore, 1) := by decide +kernel
theorem d_Hall_getUp_64 : decode prog_6_method_10_code 64 = .ok (.aload_n 0, 1) := by decide +kernel
theorem d_Hall_getUp_65 : decode prog_6_method_10_code 65 = .ok (.getfield 30, 3) := by decide +kernel
theorem d_Hall_getUp_68 : decode prog_6_method_10_code 68 = .ok (.iload 4, 2) := by decide +kernel
theorem d_Hall_getUp_70 : decode prog_6_method_10_code 70 = .ok (.aload_n 0, 1) := by decide +kernel
theorem d_Hall_getUp_71 : decode prog_6_method_10_code 71 = .ok (.getfield 33, 3) := by decide +kernel
theorem d_Hall_getUp_74 : decode prog_6_method_10_code 74 = .ok (.aload_n 0, 1) := by decide +kernel
theorem d_Hall_getUp_75 : decode prog_6_method_10_code 75 = .ok (.getfield 18, 3) := by decide +kernel
theorem d_Hall_getUp_78 : decode prog_6_method_10_code 78 = .ok (.iload_n 1, 1) := by decide +kernel
theorem d_Hall_getUp_79 : decode prog_6_method_10_code 79 = .ok (.iaload, 1) := by decide +kernel
theorem d_Hall_getUp_80 : decode prog_6_method_10_code 80 = .ok (.iadd, 1) := by decide +kernel
theorem d_Hall_getUp_81 : decode prog_6_method_10_code 81 = .ok (.iastore, 1) := by decide +kernel
theorem d_Hall_getUp_82 : decode prog_6_method_10_code 82 = .ok (.return_, 1) := by decide +kernel
def s_Hall_getUp_82 (h : Nat) (p0 : Int32) (p1 : Int32) (p2 : Int32) (σ : LH) : Option (LH) :=
  some σ
theorem b_Hall_getUp_82 {G : XG} {l : Launch} {p : Program} {e : Env} {R : Room} {s : State} {m : MethodId} {args : Array Value} {below : List Frame} {meth : Method} {c : Code} (C : XC G 1 570 p s m args c prog_6_method_10_code 5 R_Hall) (hr : meth.sig.returnType = none) (hk : meth.locks = false) {d : Nat} (hd : 2 ≤ d + 1) (hR : xroom R (d + 1)) {h : Nat} {p0 : Int32} {p1 : Int32} {p2 : Int32} (hh : h ∈ xHalls) {σ' : LH} {σ : LH} (h0 : s_Hall_getUp_82 h p0 p1 p2 σ = some σ') : XJ G 1 570 p l e R s m args below meth c 5 (XQ G 1 570 below args s none σ') 0 0 82 [] [] σ := by
  replace h0 := (show _ = _ from h0)
  unfold s_Hall_getUp_82 at h0
  exact x_vret C hr hk h0 d_Hall_getUp_82
def s_Hall_getUp (h : Nat) (p0 : Int32) (p1 : Int32) (p2 : Int32) (σ : LH) : Option (LH) :=
  xb2 (s_Hall_isSitter p0 σ) fun r2 σ3 =>
  if r2 = 0 then (
   some σ3)
  else (
   if ib p0 8 then (
   let x6 : Int32 := (σ3.1 (h + 1) (Int32.toNatClampNeg p0))
   xb1 (s_Hall_put h p0 (-2) σ3) fun σ8 =>
   if ib p0 8 then (
   let σ10 : LH := stI σ8 (h + 2) (Int32.toNatClampNeg p0) ((σ8.1 h 7) + p1)
   if p2 = 0 then (
    s_Hall_getUp_82 h p0 p1 p2 σ10)
   else (
    if ib p0 8 then (
    if (σ10.1 (h + 3) (Int32.toNatClampNeg p0)) ≤ 0 then (
     s_Hall_getUp_82 h p0 p1 p2 σ10)
    else (
     xb2 (s_Hall_isSeat x6 σ10) fun r15 σ16 =>
     if r15 = 0 then (
      s_Hall_getUp_82 h p0 p1 p2 σ16)
     else (
      if ib x6 8 then (
      let σ19 : LH := stI σ16 (h + 6) (Int32.toNatClampNeg x6) p0
      if ib p0 8 then (
      if ib x6 8 then (
      let σ22 : LH := stI σ19 (h + 7) (Int32.toNatClampNeg x6) ((σ19.1 h 7) + (σ19.1 (h + 3) (Int32.toNatClampNeg p0)))
      s_Hall_getUp_82 h p0 p1 p2 σ22) else none) else none) else none))) else none)) else none) else none)
theorem c_Hall_getUp {G : XG} {l : Launch} {d : Nat} (hd : 2 ≤ d) {h : Nat} {p0 : Int32} {p1 : Int32} {p2 : Int32} (hh : h ∈ xHalls) {σ σ' : LH} (h0 : s_Hall_getUp h p0 p1 p2 σ = some σ') : xM G 1 570 l y_Hall_getUp prog_6_method_10_code 5 none d [.ref (G.2.2.1 + h), .int p0, .int p1, .int p2] σ none σ' := by
  obtain ⟨d, rfl⟩ : ∃ q, d = q + 1 := ⟨d - 1, by omega⟩
  refine x_met R_Hall rfl (by decide +kernel) (Nat.le_of_ble_eq_true rfl) fun p e s m below meth c C hr hk hR => ?_
  refine x_lv (lv' := [(0, .ref (G.2.2.1 + h)), (1, .int p0), (2, .int p1), (3, .int p2)]) C [0, 1, 2, 3] rfl ?_
  generalize xrm (d + 1) = R at hR ⊢
  unfold s_Hall_getUp at h0
  refine x_iload_n C d_Hall_getUp_0 1 rfl ?_
  obtain ⟨r2, σ3, k1, h0⟩ := xbind2 h0
  refine x_callSi C hR (c_Hall_isSitter (d := d) (by omega) k1) cw_Hall_76 w_1020 rfl rfl (Nat.le_of_ble_eq_true rfl) ⟨Nat.zero_le _, Nat.zero_le _⟩ d_Hall_getUp_1 ?_
  refine x_if_ne C 8 d_Hall_getUp_4 (by decide) (fun q4 => ?_) (fun q4 => ?_)
  · replace h0 := xif q4 h0
    refine x_aload_n C d_Hall_getUp_8 0 rfl ?_
    refine x_getR (y := 1) C fg_Hall_9 (hl_0 hh) rfl d_Hall_getUp_9 ?_
    refine x_iload_n C d_Hall_getUp_12 1 rfl ?_
    obtain ⟨g5, h0⟩ := xgo h0
    refine x_iald C (hl_1 hh) (ib_in g5) d_Hall_getUp_13 ?_
    obtain ⟨x6, ex6, h0⟩ := xlet h0
    refine x_name C ex6 ?_
    refine x_istore (lv' := [(4, .int x6), (0, .ref (G.2.2.1 + h)), (1, .int p0), (2, .int p1), (3, .int p2)]) C d_Hall_getUp_14 (by decide) rfl ?_
    refine x_aload_n C d_Hall_getUp_16 1 rfl ?_
    refine x_iload_n C d_Hall_getUp_17 2 rfl ?_
    refine x_bipush (v := (-2)) C d_Hall_getUp_18 (by decide) ?_
    obtain ⟨σ8, k7, h0⟩ := xbind1 h0
    refine x_callVv C hR (c_Hall_put (d := d) (by omega) hh k7) cw_Hall_58 (hl_0 hh) rfl rfl rfl (Nat.le_of_ble_eq_true rfl) ⟨Nat.zero_le _, Nat.zero_le _⟩ d_Hall_getUp_20 ?_
    refine x_aload_n C d_Hall_getUp_23 1 rfl ?_
    refine x_getR (y := 2) C fg_Hall_15 (hl_0 hh) rfl d_Hall_getUp_24 ?_
    refine x_iload_n C d_Hall_getUp_27 2 rfl ?_
    refine x_aload_n C d_Hall_getUp_28 1 rfl ?_
    refine x_getI (y := 0) C fg_Hall_33 (hl_0 hh) rfl d_Hall_getUp_29 ?_
    refine x_iload_n C d_Hall_getUp_32 3 rfl ?_
    refine x_iadd C d_Hall_getUp_33 ?_
    obtain ⟨g9, h0⟩ := xgo h0
    refine x_iast C (hl_2 hh) (ib_in g9) d_Hall_getUp_34 ?_
    obtain ⟨σ10, eσ10, h0⟩ := xlet h0
    refine x_sig C eσ10 ?_
    refine x_iload_n C d_Hall_getUp_35 4 rfl ?_
    refine x_if_eq C 82 d_Hall_getUp_36 (by decide) (fun q11 => ?_) (fun q11 => ?_)
    · replace h0 := xit q11 h0
      exact x_lv C [] rfl (b_Hall_getUp_82 C hr hk hd hR hh h0)
    · replace h0 := xif q11 h0
      refine x_aload_n C d_Hall_getUp_39 1 rfl ?_
      refine x_getR (y := 3) C fg_Hall_18 (hl_0 hh) rfl d_Hall_getUp_40 ?_
      refine x_iload_n C d_Hall_getUp_43 2 rfl ?_
      obtain ⟨g12, h0⟩ := xgo h0
      refine x_iald C (hl_3 hh) (ib_in g12) d_Hall_getUp_44 ?_
      refine x_if_le C 82 d_Hall_getUp_45 (by decide) (fun q13 => ?_) (fun q13 => ?_)
      · replace h0 := xit q13 h0
        exact x_lv C [] rfl (b_Hall_getUp_82 C hr hk hd hR hh h0)
      · replace h0 := xif q13 h0
        refine x_iload C d_Hall_getUp_48 0 rfl ?_
        obtain ⟨r15, σ16, k14, h0⟩ := xbind2 h0
        refine x_callSi C hR (c_Hall_isSeat (d := d) (by omega) k14) cw_Hall_72 w_1023 rfl rfl (Nat.le_of_ble_eq_true rfl) ⟨Nat.zero_le _, Nat.zero_le _⟩ d_Hall_getUp_50 ?_
        refine x_if_eq C 82 d_Hall_getUp_53 (by decide) (fun q17 => ?_) (fun q17 => ?_)
        · replace h0 := xit q17 h0
          exact x_lv C [] rfl (b_Hall_getUp_82 C hr hk hd hR hh h0)
        · replace h0 := xif q17 h0
          refine x_aload_n C d_Hall_getUp_56 1 rfl ?_
          refine x_getR (y := 6) C fg_Hall_27 (hl_0 hh) rfl d_Hall_getUp_57 ?_
          refine x_iload C d_Hall_getUp_60 0 rfl ?_
          refine x_iload_n C d_Hall_getUp_62 2 rfl ?_
          obtain ⟨g18, h0⟩ := xgo h0
          refine x_iast C (hl_6 hh) (ib_in g18) d_Hall_getUp_63 ?_
          obtain ⟨σ19, eσ19, h0⟩ := xlet h0
          refine x_sig C eσ19 ?_
          refine x_aload_n C d_Hall_getUp_64 1 rfl ?_
          refine x_getR (y := 7) C fg_Hall_30 (hl_0 hh) rfl d_Hall_getUp_65 ?_
          refine x_iload C d_Hall_getUp_68 0 rfl ?_
          refine x_aload_n C d_Hall_getUp_70 1 rfl ?_
          refine x_getI (y := 0) C fg_Hall_33 (hl_0 hh) rfl d_Hall_getUp_71 ?_
          refine x_aload_n C d_Hall_getUp_74 1 rfl ?_
          refine x_getR (y := 3) C fg_Hall_18 (hl_0 hh) rfl d_Hall_getUp_75 ?_
          refine x_iload_n C d_Hall_getUp_78 2 rfl ?_
          obtain ⟨g20, h0⟩ := xgo h0
          refine x_iald C (hl_3 hh) (ib_in g20) d_Hall_getUp_79 ?_
          refine x_iadd C d_Hall_getUp_80 ?_
          obtain ⟨g21, h0⟩ := xgo h0
          refine x_iast C (hl_7 hh) (ib_in g21) d_Hall_getUp_81 ?_
          obtain ⟨σ22, eσ22, h0⟩ := xlet h0
          refine x_sig C eσ22 ?_
          exact x_lv C [] rfl (b_Hall_getUp_82 C hr hk hd hR hh h0)
  · replace h0 := xit q4 h0
    exact x_vret C hr hk h0 d_Hall_getUp_7
-- LostPlaces$Hall.release(I)V
theorem d_Hall_release_0 : decode prog_6_method_13_code 0 = .ok (.iload_n 1, 1) := by decide +kernel
theorem d_Hall_release_1 : decode prog_6_method_13_code 1 = .ok (.ifCond .lt 9, 3) := by decide +kernel
theorem d_Hall_release_4 : decode prog_6_method_13_code 4 = .ok (.iload_n 1, 1) := by decide +kernel
theorem d_Hall_release_5 : decode prog_6_method_13_code 5 = .ok (.bipush 8, 2) := by decide +kernel
theorem d_Hall_release_7 : decode prog_6_method_13_code 7 = .ok (.if_icmp .lt 4, 3) := by decide +kernel
theorem d_Hall_release_10 : decode prog_6_method_13_code 10 = .ok (.return_, 1) := by decide +kernel
theorem d_Hall_release_11 : decode prog_6_method_13_code 11 = .ok (.aload_n 0, 1) := by decide +kernel
theorem d_Hall_release_12 : decode prog_6_method_13_code 12 = .ok (.getfield 27, 3) := by decide +kernel
theorem d_Hall_release_15 : decode prog_6_method_13_code 15 = .ok (.iload_n 1, 1) := by decide +kernel
theorem d_Hall_release_16 : decode prog_6_method_13_code 16 = .ok (.iconst (-1), 1) := by decide +kernel
theorem d_Hall_release_17 : decode prog_6_method_13_code 17 = .ok (.iastore, 1) := by decide +kernel
theorem d_Hall_release_18 : decode prog_6_method_13_code 18 = .ok (.aload_n 0, 1) := by decide +kernel
theorem d_Hall_release_19 : decode prog_6_method_13_code 19 = .ok (.getfield 30, 3) := by decide +kernel
theorem d_Hall_release_22 : decode prog_6_method_13_code 22 = .ok (.iload_n 1, 1) := by decide +kernel
theorem d_Hall_release_23 : decode prog_6_method_13_code 23 = .ok (.iconst (-1), 1) := by decide +kernel
theorem d_Hall_release_24 : decode prog_6_method_13_code 24 = .ok (.iastore, 1) := by decide +kernel
theorem d_Hall_release_25 : decode prog_6_method_13_code 25 = .ok (.aload_n 0, 1) := by decide +kernel
theorem d_Hall_release_26 : decode prog_6_method_13_code 26 = .ok (.iconst (-1), 1) := by decide +kernel
theorem d_Hall_release_27 : decode prog_6_method_13_code 27 = .ok (.putfield 43, 3) := by decide +kernel
theorem d_Hall_release_30 : decode prog_6_method_13_code 30 = .ok (.return_, 1) := by decide +kernel
def s_Hall_release_10 (h : Nat) (p0 : Int32) (σ : LH) : Option (LH) :=
  some σ
theorem b_Hall_release_10 {G : XG} {l : Launch} {p : Program} {e : Env} {R : Room} {s : State} {m : MethodId} {args : Array Value} {below : List Frame} {meth : Method} {c : Code} (C : XC G 1 570 p s m args c prog_6_method_13_code 2 R_Hall) (hr : meth.sig.returnType = none) (hk : meth.locks = false) {d : Nat} (hd : 1 ≤ d + 1) (hR : xroom R (d + 1)) {h : Nat} {p0 : Int32} (hh : h ∈ xHalls) {σ' : LH} {σ : LH} (h0 : s_Hall_release_10 h p0 σ = some σ') : XJ G 1 570 p l e R s m args below meth c 2 (XQ G 1 570 below args s none σ') 0 0 10 [] [] σ := by
  replace h0 := (show _ = _ from h0)
  unfold s_Hall_release_10 at h0
  exact x_vret C hr hk h0 d_Hall_release_10
def s_Hall_release (h : Nat) (p0 : Int32) (σ : LH) : Option (LH) :=
  if p0 < 0 then (
   s_Hall_release_10 h p0 σ)
  else (
   if p0 < 8 then (
    if ib p0 8 then (
    let σ4 : LH := stI σ (h + 6) (Int32.toNatClampNeg p0) (-1)
    if ib p0 8 then (
    let σ6 : LH := stI σ4 (h + 7) (Int32.toNatClampNeg p0) (-1)
    let σ7 : LH := stI σ6 h 10 (-1)
    some σ7) else none) else none)
   else (
    s_Hall_release_10 h p0 σ))
theorem c_Hall_release {G : XG} {l : Launch} {d : Nat} (hd : 1 ≤ d) {h : Nat} {p0 : Int32} (hh : h ∈ xHalls) {σ σ' : LH} (h0 : s_Hall_release h p0 σ = some σ') : xM G 1 570 l y_Hall_release prog_6_method_13_code 2 none d [.ref (G.2.2.1 + h), .int p0] σ none σ' := by
  obtain ⟨d, rfl⟩ : ∃ q, d = q + 1 := ⟨d - 1, by omega⟩
  refine x_met R_Hall rfl (by decide +kernel) (Nat.le_of_ble_eq_true rfl) fun p e s m below meth c C hr hk hR => ?_
  refine x_lv (lv' := [(0, .ref (G.2.2.1 + h)), (1, .int p0)]) C [0, 1] rfl ?_
  generalize xrm (d + 1) = R at hR ⊢
  unfold s_Hall_release at h0
  refine x_iload_n C d_Hall_release_0 1 rfl ?_
  refine x_if_lt C 10 d_Hall_release_1 (by decide) (fun q1 => ?_) (fun q1 => ?_)
  · replace h0 := xit q1 h0
    exact x_lv C [] rfl (b_Hall_release_10 C hr hk hd hR hh h0)
  · replace h0 := xif q1 h0
    refine x_iload_n C d_Hall_release_4 1 rfl ?_
    refine x_bipush (v := 8) C d_Hall_release_5 (by decide) ?_
    refine x_icmp_lt C 11 d_Hall_release_7 (by decide) (fun q2 => ?_) (fun q2 => ?_)
    · replace h0 := xit q2 h0
      refine x_aload_n C d_Hall_release_11 0 rfl ?_
      refine x_getR (y := 6) C fg_Hall_27 (hl_0 hh) rfl d_Hall_release_12 ?_
      refine x_iload_n C d_Hall_release_15 1 rfl ?_
      refine x_iconst (v := (-1)) C d_Hall_release_16 (by decide) ?_
      obtain ⟨g3, h0⟩ := xgo h0
      refine x_iast C (hl_6 hh) (ib_in g3) d_Hall_release_17 ?_
      obtain ⟨σ4, eσ4, h0⟩ := xlet h0
      refine x_sig C eσ4 ?_
      refine x_aload_n C d_Hall_release_18 0 rfl ?_
      refine x_getR (y := 7) C fg_Hall_30 (hl_0 hh) rfl d_Hall_release_19 ?_
      refine x_iload_n C d_Hall_release_22 1 rfl ?_
      refine x_iconst (v := (-1)) C d_Hall_release_23 (by decide) ?_
      obtain ⟨g5, h0⟩ := xgo h0
      refine x_iast C (hl_7 hh) (ib_in g5) d_Hall_release_24 ?_
      obtain ⟨σ6, eσ6, h0⟩ := xlet h0
      refine x_sig C eσ6 ?_
      refine x_aload_n C d_Hall_release_25 0 rfl ?_
      refine x_iconst (v := (-1)) C d_Hall_release_26 (by decide) ?_
      refine x_putI (y := 0) C fp_Hall_43 (hl_0 hh) rfl rfl rfl d_Hall_release_27 ?_
      obtain ⟨σ7, eσ7, h0⟩ := xlet h0
      refine x_sig C eσ7 ?_
      exact x_vret C hr hk h0 d_Hall_release_30
    · replace h0 := xif q2 h0
      exact x_lv C [] rfl (b_Hall_release_10 C hr hk hd hR hh h0)
-- LostPlaces$Evening.release(LLostPlaces$Hall;)V
theorem d_Evening_release_0 : decode prog_3_method_12_code 0 = .ok (.iconst 0, 1) := by decide +kernel
theorem d_Evening_release_1 : decode prog_3_method_12_code 1 = .ok (.istore_n 2, 1) := by decide +kernel
theorem d_Evening_release_2 : decode prog_3_method_12_code 2 = .ok (.iload_n 2, 1) := by decide +kernel
theorem d_Evening_release_3 : decode prog_3_method_12_code 3 = .ok (.aload_n 0, 1) := by decide +kernel
theorem d_Evening_release_4 : decode prog_3_method_12_code 4 = .ok (.getfield 28, 3) := by decide +kernel
theorem d_Evening_release_7 : decode prog_3_method_12_code 7 = .ok (.getfield 113, 3) := by decide +kernel
theorem d_Evening_release_10 : decode prog_3_method_12_code 10 = .ok (.if_icmp .ge 37, 3) := by decide +kernel
theorem d_Evening_release_13 : decode prog_3_method_12_code 13 = .ok (.aload_n 1, 1) := by decide +kernel
theorem d_Evening_release_14 : decode prog_3_method_12_code 14 = .ok (.getfield 127, 3) := by decide +kernel
theorem d_Evening_release_17 : decode prog_3_method_12_code 17 = .ok (.iload_n 2, 1) := by decide +kernel
theorem d_Evening_release_18 : decode prog_3_method_12_code 18 = .ok (.iaload, 1) := by decide +kernel
theorem d_Evening_release_19 : decode prog_3_method_12_code 19 = .ok (.iconst (-1), 1) := by decide +kernel
theorem d_Evening_release_20 : decode prog_3_method_12_code 20 = .ok (.if_icmp .eq 21, 3) := by decide +kernel
theorem d_Evening_release_23 : decode prog_3_method_12_code 23 = .ok (.aload_n 1, 1) := by decide +kernel
theorem d_Evening_release_24 : decode prog_3_method_12_code 24 = .ok (.getfield 116, 3) := by decide +kernel
theorem d_Evening_release_27 : decode prog_3_method_12_code 27 = .ok (.iload_n 2, 1) := by decide +kernel
theorem d_Evening_release_28 : decode prog_3_method_12_code 28 = .ok (.iaload, 1) := by decide +kernel
theorem d_Evening_release_29 : decode prog_3_method_12_code 29 = .ok (.aload_n 1, 1) := by decide +kernel
theorem d_Evening_release_30 : decode prog_3_method_12_code 30 = .ok (.getfield 62, 3) := by decide +kernel
theorem d_Evening_release_33 : decode prog_3_method_12_code 33 = .ok (.if_icmp .gt 8, 3) := by decide +kernel
theorem d_Evening_release_36 : decode prog_3_method_12_code 36 = .ok (.aload_n 1, 1) := by decide +kernel
theorem d_Evening_release_37 : decode prog_3_method_12_code 37 = .ok (.iload_n 2, 1) := by decide +kernel
theorem d_Evening_release_38 : decode prog_3_method_12_code 38 = .ok (.invokevirtual 130, 3) := by decide +kernel
theorem d_Evening_release_41 : decode prog_3_method_12_code 41 = .ok (.iinc 2 1, 3) := by decide +kernel
theorem d_Evening_release_44 : decode prog_3_method_12_code 44 = .ok (.goto (-42), 3) := by decide +kernel
theorem d_Evening_release_47 : decode prog_3_method_12_code 47 = .ok (.return_, 1) := by decide +kernel
def s_Evening_release_41 (p0 : Nat) (rec2 : Int32 → LH → Option (LH)) (y2 : Int32) (σ : LH) : Option (LH) :=
  let x4 : Int32 := y2 + 1
  rec2 x4 σ
theorem b_Evening_release_41 {G : XG} {l : Launch} {p : Program} {e : Env} {R : Room} {s : State} {m : MethodId} {args : Array Value} {below : List Frame} {meth : Method} {c : Code} (C : XC G 1 570 p s m args c prog_3_method_12_code 3 R_Evening) (hr : meth.sig.returnType = none) (hk : meth.locks = false) {d : Nat} (hd : 2 ≤ d + 1) (hR : xroom R (d + 1)) {p0 : Nat} (hp0 : p0 ∈ xHalls) {rec2 : Int32 → LH → Option (LH)} {σ' : LH} (hrec2 : ∀ (y2 : Int32) (σ : LH), rec2 y2 σ = some σ' → XJ G 1 570 p l e R s m args below meth c 3 (XQ G 1 570 below args s none σ') 0 0 2 [(0, .ref (G.2.2.1 + 38)), (1, .ref (G.2.2.1 + p0)), (2, .int y2)] [] σ) {y2 : Int32} {σ : LH} (h0 : s_Evening_release_41 p0 rec2 y2 σ = some σ') : XJ G 1 570 p l e R s m args below meth c 3 (XQ G 1 570 below args s none σ') 0 0 41 [(0, .ref (G.2.2.1 + 38)), (1, .ref (G.2.2.1 + p0)), (2, .int y2)] [] σ := by
  replace h0 := (show _ = _ from h0)
  unfold s_Evening_release_41 at h0
  obtain ⟨x4, ex4, h0⟩ := xlet h0
  refine x_iinc (lv' := [(2, .int x4), (0, .ref (G.2.2.1 + 38)), (1, .ref (G.2.2.1 + p0))]) C d_Evening_release_41 2 rfl ex4 (by decide) rfl ?_
  refine x_goto C 2 d_Evening_release_44 (by decide) ?_
  exact x_lv C [1, 2, 0] rfl (hrec2 _ _ h0)
def s_Evening_release_2_b (p0 : Nat) (rec2 : Int32 → LH → Option (LH)) (y2 : Int32) (σ : LH) : Option (LH) :=
  if (σ.1 4 0) ≤ y2 then (
   some σ)
  else (
   if ib y2 8 then (
   if (σ.1 (p0 + 6) (Int32.toNatClampNeg y2)) = (-1) then (
    s_Evening_release_41 p0 rec2 y2 σ)
   else (
    if ib y2 8 then (
    if (σ.1 p0 7) < (σ.1 (p0 + 7) (Int32.toNatClampNeg y2)) then (
     s_Evening_release_41 p0 rec2 y2 σ)
    else (
     xb1 (s_Hall_release p0 y2 σ) fun σ8 =>
     s_Evening_release_41 p0 rec2 y2 σ8)) else none)) else none)
def s_Evening_release_2 (p0 : Nat) : Nat → Int32 → LH → Option (LH)
  | 0, _, _ => none
  | n + 1, y2, σ => s_Evening_release_2_b p0 (s_Evening_release_2 p0 n) y2 σ
theorem bb_Evening_release_2 {G : XG} {l : Launch} {p : Program} {e : Env} {R : Room} {s : State} {m : MethodId} {args : Array Value} {below : List Frame} {meth : Method} {c : Code} (C : XC G 1 570 p s m args c prog_3_method_12_code 3 R_Evening) (hr : meth.sig.returnType = none) (hk : meth.locks = false) {d : Nat} (hd : 2 ≤ d + 1) (hR : xroom R (d + 1)) {p0 : Nat} (hp0 : p0 ∈ xHalls) {rec2 : Int32 → LH → Option (LH)} {σ' : LH} (hrec2 : ∀ (y2 : Int32) (σ : LH), rec2 y2 σ = some σ' → XJ G 1 570 p l e R s m args below meth c 3 (XQ G 1 570 below args s none σ') 0 0 2 [(0, .ref (G.2.2.1 + 38)), (1, .ref (G.2.2.1 + p0)), (2, .int y2)] [] σ) {y2 : Int32} {σ : LH} (h0 : s_Evening_release_2_b p0 rec2 y2 σ = some σ') : XJ G 1 570 p l e R s m args below meth c 3 (XQ G 1 570 below args s none σ') 0 0 2 [(0, .ref (G.2.2.1 + 38)), (1, .ref (G.2.2.1 + p0)), (2, .int y2)] [] σ := by
  replace h0 := (show _ = _ from h0)
  unfold s_Evening_release_2_b at h0
  refine x_iload_n C d_Evening_release_2 2 rfl ?_
  refine x_aload_n C d_Evening_release_3 0 rfl ?_
  refine x_getA (y := 4) C fg_Evening_28 k_38 rfl d_Evening_release_4 ?_
  refine x_getI (y := 0) C fg_Evening_113 k_4 rfl d_Evening_release_7 ?_
  refine x_icmp_ge C 47 d_Evening_release_10 (by decide) (fun q1 => ?_) (fun q1 => ?_)
  · replace h0 := xit q1 h0
    exact x_vret C hr hk h0 d_Evening_release_47
  · replace h0 := xif q1 h0
    refine x_aload_n C d_Evening_release_13 1 rfl ?_
    refine x_getR (y := 6) C fg_Evening_127 (hl_0 hp0) rfl d_Evening_release_14 ?_
    refine x_iload_n C d_Evening_release_17 2 rfl ?_
    obtain ⟨g2, h0⟩ := xgo h0
    refine x_iald C (hl_6 hp0) (ib_in g2) d_Evening_release_18 ?_
    refine x_iconst (v := (-1)) C d_Evening_release_19 (by decide) ?_
    refine x_icmp_eq C 41 d_Evening_release_20 (by decide) (fun q3 => ?_) (fun q3 => ?_)
    · replace h0 := xit q3 h0
      exact x_lv C [0, 1, 2] rfl (b_Evening_release_41 C hr hk hd hR hp0 hrec2 h0)
    · replace h0 := xif q3 h0
      refine x_aload_n C d_Evening_release_23 1 rfl ?_
      refine x_getR (y := 7) C fg_Evening_116 (hl_0 hp0) rfl d_Evening_release_24 ?_
      refine x_iload_n C d_Evening_release_27 2 rfl ?_
      obtain ⟨g5, h0⟩ := xgo h0
      refine x_iald C (hl_7 hp0) (ib_in g5) d_Evening_release_28 ?_
      refine x_aload_n C d_Evening_release_29 1 rfl ?_
      refine x_getI (y := 0) C fg_Evening_62 (hl_0 hp0) rfl d_Evening_release_30 ?_
      refine x_icmp_gt C 41 d_Evening_release_33 (by decide) (fun q6 => ?_) (fun q6 => ?_)
      · replace h0 := xit q6 h0
        exact x_lv C [0, 1, 2] rfl (b_Evening_release_41 C hr hk hd hR hp0 hrec2 h0)
      · replace h0 := xif q6 h0
        refine x_aload_n C d_Evening_release_36 1 rfl ?_
        refine x_iload_n C d_Evening_release_37 2 rfl ?_
        obtain ⟨σ8, k7, h0⟩ := xbind1 h0
        refine x_callVv C hR (c_Hall_release (d := d) (by omega) hp0 k7) cw_Evening_130 (hl_0 hp0) rfl rfl rfl (Nat.le_of_ble_eq_true rfl) ⟨Nat.zero_le _, Nat.zero_le _⟩ d_Evening_release_38 ?_
        exact x_lv C [0, 1, 2] rfl (b_Evening_release_41 C hr hk hd hR hp0 hrec2 h0)
theorem b_Evening_release_2 {G : XG} {l : Launch} {p : Program} {e : Env} {R : Room} {s : State} {m : MethodId} {args : Array Value} {below : List Frame} {meth : Method} {c : Code} (C : XC G 1 570 p s m args c prog_3_method_12_code 3 R_Evening) (hr : meth.sig.returnType = none) (hk : meth.locks = false) {d : Nat} (hd : 2 ≤ d + 1) (hR : xroom R (d + 1)) {p0 : Nat} (hp0 : p0 ∈ xHalls) {σ' : LH} : ∀ (n : Nat) (y2 : Int32) (σ : LH), s_Evening_release_2 p0 n y2 σ = some σ' → XJ G 1 570 p l e R s m args below meth c 3 (XQ G 1 570 below args s none σ') 0 0 2 [(0, .ref (G.2.2.1 + 38)), (1, .ref (G.2.2.1 + p0)), (2, .int y2)] [] σ := by
  intro n
  induction n with
  | zero => intro y2 σ h0; cases h0
  | succ n ih => intro y2 σ h0; exact bb_Evening_release_2 C hr hk hd hR hp0 ih h0
def s_Evening_release (p0 : Nat) (σ : LH) : Option (LH) :=
  s_Evening_release_2 p0 FUEL 0 σ
theorem c_Evening_release {G : XG} {l : Launch} {d : Nat} (hd : 2 ≤ d) {p0 : Nat} (hp0 : p0 ∈ xHalls) {σ σ' : LH} (h0 : s_Evening_release p0 σ = some σ') : xM G 1 570 l y_Evening_release prog_3_method_12_code 3 none d [.ref (G.2.2.1 + 38), .ref (G.2.2.1 + p0)] σ none σ' := by
  obtain ⟨d, rfl⟩ : ∃ q, d = q + 1 := ⟨d - 1, by omega⟩
  refine x_met R_Evening rfl (by decide +kernel) (Nat.le_of_ble_eq_true rfl) fun p e s m below meth c C hr hk hR => ?_
  refine x_lv (lv' := [(0, .ref (G.2.2.1 + 38)), (1, .ref (G.2.2.1 + p0))]) C [0, 1] rfl ?_
  generalize xrm (d + 1) = R at hR ⊢
  unfold s_Evening_release at h0
  refine x_iconst (v := 0) C d_Evening_release_0 (by decide) ?_
  refine x_istore_n (lv' := [(2, .int 0), (0, .ref (G.2.2.1 + 38)), (1, .ref (G.2.2.1 + p0))]) C d_Evening_release_1 rfl (by decide) rfl ?_
  exact x_lv C [1, 2, 0] rfl (b_Evening_release_2 C hr hk hd hR hp0 FUEL _ _ h0)
-- LostPlaces$Hall.gap(I)I
theorem d_Hall_gap_0 : decode prog_6_method_17_code 0 = .ok (.aload_n 0, 1) := by decide +kernel
theorem d_Hall_gap_1 : decode prog_6_method_17_code 1 = .ok (.getfield 21, 3) := by decide +kernel
theorem d_Hall_gap_4 : decode prog_6_method_17_code 4 = .ok (.iconst 0, 1) := by decide +kernel
theorem d_Hall_gap_5 : decode prog_6_method_17_code 5 = .ok (.iaload, 1) := by decide +kernel
theorem d_Hall_gap_6 : decode prog_6_method_17_code 6 = .ok (.istore_n 2, 1) := by decide +kernel
theorem d_Hall_gap_7 : decode prog_6_method_17_code 7 = .ok (.aload_n 0, 1) := by decide +kernel
theorem d_Hall_gap_8 : decode prog_6_method_17_code 8 = .ok (.getfield 21, 3) := by decide +kernel
theorem d_Hall_gap_11 : decode prog_6_method_17_code 11 = .ok (.iconst 0, 1) := by decide +kernel
theorem d_Hall_gap_12 : decode prog_6_method_17_code 12 = .ok (.iaload, 1) := by decide +kernel
theorem d_Hall_gap_13 : decode prog_6_method_17_code 13 = .ok (.istore_n 3, 1) := by decide +kernel
theorem d_Hall_gap_14 : decode prog_6_method_17_code 14 = .ok (.iconst 1, 1) := by decide +kernel
theorem d_Hall_gap_15 : decode prog_6_method_17_code 15 = .ok (.istore 4, 2) := by decide +kernel
theorem d_Hall_gap_17 : decode prog_6_method_17_code 17 = .ok (.iload 4, 2) := by decide +kernel
theorem d_Hall_gap_19 : decode prog_6_method_17_code 19 = .ok (.iload_n 1, 1) := by decide +kernel
theorem d_Hall_gap_20 : decode prog_6_method_17_code 20 = .ok (.if_icmp .ge 54, 3) := by decide +kernel
theorem d_Hall_gap_23 : decode prog_6_method_17_code 23 = .ok (.iload 4, 2) := by decide +kernel
theorem d_Hall_gap_25 : decode prog_6_method_17_code 25 = .ok (.bipush 8, 2) := by decide +kernel
theorem d_Hall_gap_27 : decode prog_6_method_17_code 27 = .ok (.if_icmp .ge 47, 3) := by decide +kernel
theorem d_Hall_gap_30 : decode prog_6_method_17_code 30 = .ok (.aload_n 0, 1) := by decide +kernel
theorem d_Hall_gap_31 : decode prog_6_method_17_code 31 = .ok (.getfield 21, 3) := by decide +kernel
theorem d_Hall_gap_34 : decode prog_6_method_17_code 34 = .ok (.iload 4, 2) := by decide +kernel
theorem d_Hall_gap_36 : decode prog_6_method_17_code 36 = .ok (.iaload, 1) := by decide +kernel
theorem d_Hall_gap_37 : decode prog_6_method_17_code 37 = .ok (.iload_n 2, 1) := by decide +kernel
theorem d_Hall_gap_38 : decode prog_6_method_17_code 38 = .ok (.if_icmp .ge 11, 3) := by decide +kernel
theorem d_Hall_gap_41 : decode prog_6_method_17_code 41 = .ok (.aload_n 0, 1) := by decide +kernel
theorem d_Hall_gap_42 : decode prog_6_method_17_code 42 = .ok (.getfield 21, 3) := by decide +kernel
theorem d_Hall_gap_45 : decode prog_6_method_17_code 45 = .ok (.iload 4, 2) := by decide +kernel
theorem d_Hall_gap_47 : decode prog_6_method_17_code 47 = .ok (.iaload, 1) := by decide +kernel
theorem d_Hall_gap_48 : decode prog_6_method_17_code 48 = .ok (.istore_n 2, 1) := by decide +kernel
theorem d_Hall_gap_49 : decode prog_6_method_17_code 49 = .ok (.aload_n 0, 1) := by decide +kernel
theorem d_Hall_gap_50 : decode prog_6_method_17_code 50 = .ok (.getfield 21, 3) := by decide +kernel
theorem d_Hall_gap_53 : decode prog_6_method_17_code 53 = .ok (.iload 4, 2) := by decide +kernel
theorem d_Hall_gap_55 : decode prog_6_method_17_code 55 = .ok (.iaload, 1) := by decide +kernel
theorem d_Hall_gap_56 : decode prog_6_method_17_code 56 = .ok (.iload_n 3, 1) := by decide +kernel
theorem d_Hall_gap_57 : decode prog_6_method_17_code 57 = .ok (.if_icmp .le 11, 3) := by decide +kernel
theorem d_Hall_gap_60 : decode prog_6_method_17_code 60 = .ok (.aload_n 0, 1) := by decide +kernel
theorem d_Hall_gap_61 : decode prog_6_method_17_code 61 = .ok (.getfield 21, 3) := by decide +kernel
theorem d_Hall_gap_64 : decode prog_6_method_17_code 64 = .ok (.iload 4, 2) := by decide +kernel
theorem d_Hall_gap_66 : decode prog_6_method_17_code 66 = .ok (.iaload, 1) := by decide +kernel
theorem d_Hall_gap_67 : decode prog_6_method_17_code 67 = .ok (.istore_n 3, 1) := by decide +kernel
theorem d_Hall_gap_68 : decode prog_6_method_17_code 68 = .ok (.iinc 4 1, 3) := by decide +kernel
theorem d_Hall_gap_71 : decode prog_6_method_17_code 71 = .ok (.goto (-54), 3) := by decide +kernel
theorem d_Hall_gap_74 : decode prog_6_method_17_code 74 = .ok (.iload_n 3, 1) := by decide +kernel
theorem d_Hall_gap_75 : decode prog_6_method_17_code 75 = .ok (.iload_n 2, 1) := by decide +kernel
theorem d_Hall_gap_76 : decode prog_6_method_17_code 76 = .ok (.isub, 1) := by decide +kernel
theorem d_Hall_gap_77 : decode prog_6_method_17_code 77 = .ok (.ireturn, 1) := by decide +kernel
def s_Hall_gap_74 (h : Nat) (p0 : Int32) (y2 : Int32) (y3 : Int32) (σ : LH) : Option (Int32 × LH) :=
  some ((y3 - y2), σ)
theorem b_Hall_gap_74 {G : XG} {l : Launch} {p : Program} {e : Env} {R : Room} {s : State} {m : MethodId} {args : Array Value} {below : List Frame} {meth : Method} {c : Code} (C : XC G 1 570 p s m args c prog_6_method_17_code 5 R_Hall) (hr : meth.sig.returnType = (some .int)) (hk : meth.locks = false) {d : Nat} (hd : 1 ≤ d + 1) (hR : xroom R (d + 1)) {h : Nat} {p0 : Int32} (hh : h ∈ xHalls) {σ' : LH} {r : Int32} {y2 : Int32} {y3 : Int32} {σ : LH} (h0 : s_Hall_gap_74 h p0 y2 y3 σ = some (r, σ')) : XJ G 1 570 p l e R s m args below meth c 5 (XQ G 1 570 below args s (some (.int r)) σ') 0 0 74 [(2, .int y2), (3, .int y3)] [] σ := by
  replace h0 := (show _ = _ from h0)
  unfold s_Hall_gap_74 at h0
  refine x_iload_n C d_Hall_gap_74 1 rfl ?_
  refine x_iload_n C d_Hall_gap_75 0 rfl ?_
  refine x_isub C d_Hall_gap_76 ?_
  exact x_iret C hr hk h0 d_Hall_gap_77
def s_Hall_gap_68 (h : Nat) (p0 : Int32) (rec17 : Int32 → Int32 → Int32 → LH → Option (Int32 × LH)) (y2 : Int32) (y3 : Int32) (y4 : Int32) (σ : LH) : Option (Int32 × LH) :=
  let x11 : Int32 := y4 + 1
  rec17 y2 y3 x11 σ
theorem b_Hall_gap_68 {G : XG} {l : Launch} {p : Program} {e : Env} {R : Room} {s : State} {m : MethodId} {args : Array Value} {below : List Frame} {meth : Method} {c : Code} (C : XC G 1 570 p s m args c prog_6_method_17_code 5 R_Hall) (hr : meth.sig.returnType = (some .int)) (hk : meth.locks = false) {d : Nat} (hd : 1 ≤ d + 1) (hR : xroom R (d + 1)) {h : Nat} {p0 : Int32} (hh : h ∈ xHalls) {rec17 : Int32 → Int32 → Int32 → LH → Option (Int32 × LH)} {σ' : LH} {r : Int32} (hrec17 : ∀ (y2 : Int32) (y3 : Int32) (y4 : Int32) (σ : LH), rec17 y2 y3 y4 σ = some (r, σ') → XJ G 1 570 p l e R s m args below meth c 5 (XQ G 1 570 below args s (some (.int r)) σ') 0 0 17 [(0, .ref (G.2.2.1 + h)), (1, .int p0), (2, .int y2), (3, .int y3), (4, .int y4)] [] σ) {y2 : Int32} {y3 : Int32} {y4 : Int32} {σ : LH} (h0 : s_Hall_gap_68 h p0 rec17 y2 y3 y4 σ = some (r, σ')) : XJ G 1 570 p l e R s m args below meth c 5 (XQ G 1 570 below args s (some (.int r)) σ') 0 0 68 [(0, .ref (G.2.2.1 + h)), (1, .int p0), (2, .int y2), (3, .int y3), (4, .int y4)] [] σ := by
  replace h0 := (show _ = _ from h0)
  unfold s_Hall_gap_68 at h0
  obtain ⟨x11, ex11, h0⟩ := xlet h0
  refine x_iinc (lv' := [(4, .int x11), (0, .ref (G.2.2.1 + h)), (1, .int p0), (2, .int y2), (3, .int y3)]) C d_Hall_gap_68 4 rfl ex11 (by decide) rfl ?_
  refine x_goto C 17 d_Hall_gap_71 (by decide) ?_
  exact x_lv C [1, 2, 3, 4, 0] rfl (hrec17 _ _ _ _ h0)
def s_Hall_gap_49 (h : Nat) (p0 : Int32) (rec17 : Int32 → Int32 → Int32 → LH → Option (Int32 × LH)) (y2 : Int32) (y3 : Int32) (y4 : Int32) (σ : LH) : Option (Int32 × LH) :=
  if ib y4 8 then (
  if (σ.1 (h + 4) (Int32.toNatClampNeg y4)) ≤ y3 then (
   s_Hall_gap_68 h p0 rec17 y2 y3 y4 σ)
  else (
   if ib y4 8 then (
   let x13 : Int32 := (σ.1 (h + 4) (Int32.toNatClampNeg y4))
   s_Hall_gap_68 h p0 rec17 y2 x13 y4 σ) else none)) else none
theorem b_Hall_gap_49 {G : XG} {l : Launch} {p : Program} {e : Env} {R : Room} {s : State} {m : MethodId} {args : Array Value} {below : List Frame} {meth : Method} {c : Code} (C : XC G 1 570 p s m args c prog_6_method_17_code 5 R_Hall) (hr : meth.sig.returnType = (some .int)) (hk : meth.locks = false) {d : Nat} (hd : 1 ≤ d + 1) (hR : xroom R (d + 1)) {h : Nat} {p0 : Int32} (hh : h ∈ xHalls) {rec17 : Int32 → Int32 → Int32 → LH → Option (Int32 × LH)} {σ' : LH} {r : Int32} (hrec17 : ∀ (y2 : Int32) (y3 : Int32) (y4 : Int32) (σ : LH), rec17 y2 y3 y4 σ = some (r, σ') → XJ G 1 570 p l e R s m args below meth c 5 (XQ G 1 570 below args s (some (.int r)) σ') 0 0 17 [(0, .ref (G.2.2.1 + h)), (1, .int p0), (2, .int y2), (3, .int y3), (4, .int y4)] [] σ) {y2 : Int32} {y3 : Int32} {y4 : Int32} {σ : LH} (h0 : s_Hall_gap_49 h p0 rec17 y2 y3 y4 σ = some (r, σ')) : XJ G 1 570 p l e R s m args below meth c 5 (XQ G 1 570 below args s (some (.int r)) σ') 0 0 49 [(0, .ref (G.2.2.1 + h)), (1, .int p0), (2, .int y2), (3, .int y3), (4, .int y4)] [] σ := by
  replace h0 := (show _ = _ from h0)
  unfold s_Hall_gap_49 at h0
  refine x_aload_n C d_Hall_gap_49 0 rfl ?_
  refine x_getR (y := 4) C fg_Hall_21 (hl_0 hh) rfl d_Hall_gap_50 ?_
  refine x_iload C d_Hall_gap_53 4 rfl ?_
  obtain ⟨g9, h0⟩ := xgo h0
  refine x_iald C (hl_4 hh) (ib_in g9) d_Hall_gap_55 ?_
  refine x_iload_n C d_Hall_gap_56 3 rfl ?_
  refine x_icmp_le C 68 d_Hall_gap_57 (by decide) (fun q10 => ?_) (fun q10 => ?_)
  · replace h0 := xit q10 h0
    exact x_lv C [0, 1, 2, 3, 4] rfl (b_Hall_gap_68 C hr hk hd hR hh hrec17 h0)
  · replace h0 := xif q10 h0
    refine x_aload_n C d_Hall_gap_60 0 rfl ?_
    refine x_getR (y := 4) C fg_Hall_21 (hl_0 hh) rfl d_Hall_gap_61 ?_
    refine x_iload C d_Hall_gap_64 4 rfl ?_
    obtain ⟨g12, h0⟩ := xgo h0
    refine x_iald C (hl_4 hh) (ib_in g12) d_Hall_gap_66 ?_
    obtain ⟨x13, ex13, h0⟩ := xlet h0
    refine x_name C ex13 ?_
    refine x_istore_n (lv' := [(3, .int x13), (0, .ref (G.2.2.1 + h)), (1, .int p0), (2, .int y2), (4, .int y4)]) C d_Hall_gap_67 rfl (by decide) rfl ?_
    exact x_lv C [1, 2, 3, 0, 4] rfl (b_Hall_gap_68 C hr hk hd hR hh hrec17 h0)
def s_Hall_gap_17_b (h : Nat) (p0 : Int32) (rec17 : Int32 → Int32 → Int32 → LH → Option (Int32 × LH)) (y2 : Int32) (y3 : Int32) (y4 : Int32) (σ : LH) : Option (Int32 × LH) :=
  if p0 ≤ y4 then (
   s_Hall_gap_74 h p0 y2 y3 σ)
  else (
   if 8 ≤ y4 then (
    s_Hall_gap_74 h p0 y2 y3 σ)
   else (
    if ib y4 8 then (
    if y2 ≤ (σ.1 (h + 4) (Int32.toNatClampNeg y4)) then (
     s_Hall_gap_49 h p0 rec17 y2 y3 y4 σ)
    else (
     if ib y4 8 then (
     let x15 : Int32 := (σ.1 (h + 4) (Int32.toNatClampNeg y4))
     s_Hall_gap_49 h p0 rec17 x15 y3 y4 σ) else none)) else none))
def s_Hall_gap_17 (h : Nat) (p0 : Int32) : Nat → Int32 → Int32 → Int32 → LH → Option (Int32 × LH)
  | 0, _, _, _, _ => none
  | n + 1, y2, y3, y4, σ => s_Hall_gap_17_b h p0 (s_Hall_gap_17 h p0 n) y2 y3 y4 σ
theorem bb_Hall_gap_17 {G : XG} {l : Launch} {p : Program} {e : Env} {R : Room} {s : State} {m : MethodId} {args : Array Value} {below : List Frame} {meth : Method} {c : Code} (C : XC G 1 570 p s m args c prog_6_method_17_code 5 R_Hall) (hr : meth.sig.returnType = (some .int)) (hk : meth.locks = false) {d : Nat} (hd : 1 ≤ d + 1) (hR : xroom R (d + 1)) {h : Nat} {p0 : Int32} (hh : h ∈ xHalls) {rec17 : Int32 → Int32 → Int32 → LH → Option (Int32 × LH)} {σ' : LH} {r : Int32} (hrec17 : ∀ (y2 : Int32) (y3 : Int32) (y4 : Int32) (σ : LH), rec17 y2 y3 y4 σ = some (r, σ') → XJ G 1 570 p l e R s m args below meth c 5 (XQ G 1 570 below args s (some (.int r)) σ') 0 0 17 [(0, .ref (G.2.2.1 + h)), (1, .int p0), (2, .int y2), (3, .int y3), (4, .int y4)] [] σ) {y2 : Int32} {y3 : Int32} {y4 : Int32} {σ : LH} (h0 : s_Hall_gap_17_b h p0 rec17 y2 y3 y4 σ = some (r, σ')) : XJ G 1 570 p l e R s m args below meth c 5 (XQ G 1 570 below args s (some (.int r)) σ') 0 0 17 [(0, .ref (G.2.2.1 + h)), (1, .int p0), (2, .int y2), (3, .int y3), (4, .int y4)] [] σ := by
  replace h0 := (show _ = _ from h0)
  unfold s_Hall_gap_17_b at h0
  refine x_iload C d_Hall_gap_17 4 rfl ?_
  refine x_iload_n C d_Hall_gap_19 1 rfl ?_
  refine x_icmp_ge C 74 d_Hall_gap_20 (by decide) (fun q5 => ?_) (fun q5 => ?_)
  · replace h0 := xit q5 h0
    exact x_lv C [2, 3] rfl (b_Hall_gap_74 C hr hk hd hR hh h0)
  · replace h0 := xif q5 h0
    refine x_iload C d_Hall_gap_23 4 rfl ?_
    refine x_bipush (v := 8) C d_Hall_gap_25 (by decide) ?_
    refine x_icmp_ge C 74 d_Hall_gap_27 (by decide) (fun q6 => ?_) (fun q6 => ?_)
    · replace h0 := xit q6 h0
      exact x_lv C [2, 3] rfl (b_Hall_gap_74 C hr hk hd hR hh h0)
    · replace h0 := xif q6 h0
      refine x_aload_n C d_Hall_gap_30 0 rfl ?_
      refine x_getR (y := 4) C fg_Hall_21 (hl_0 hh) rfl d_Hall_gap_31 ?_
      refine x_iload C d_Hall_gap_34 4 rfl ?_
      obtain ⟨g7, h0⟩ := xgo h0
      refine x_iald C (hl_4 hh) (ib_in g7) d_Hall_gap_36 ?_
      refine x_iload_n C d_Hall_gap_37 2 rfl ?_
      refine x_icmp_ge C 49 d_Hall_gap_38 (by decide) (fun q8 => ?_) (fun q8 => ?_)
      · replace h0 := xit q8 h0
        exact x_lv C [0, 1, 2, 3, 4] rfl (b_Hall_gap_49 C hr hk hd hR hh hrec17 h0)
      · replace h0 := xif q8 h0
        refine x_aload_n C d_Hall_gap_41 0 rfl ?_
        refine x_getR (y := 4) C fg_Hall_21 (hl_0 hh) rfl d_Hall_gap_42 ?_
        refine x_iload C d_Hall_gap_45 4 rfl ?_
        obtain ⟨g14, h0⟩ := xgo h0
        refine x_iald C (hl_4 hh) (ib_in g14) d_Hall_gap_47 ?_
        obtain ⟨x15, ex15, h0⟩ := xlet h0
        refine x_name C ex15 ?_
        refine x_istore_n (lv' := [(2, .int x15), (0, .ref (G.2.2.1 + h)), (1, .int p0), (3, .int y3), (4, .int y4)]) C d_Hall_gap_48 rfl (by decide) rfl ?_
        exact x_lv C [1, 2, 0, 3, 4] rfl (b_Hall_gap_49 C hr hk hd hR hh hrec17 h0)
theorem b_Hall_gap_17 {G : XG} {l : Launch} {p : Program} {e : Env} {R : Room} {s : State} {m : MethodId} {args : Array Value} {below : List Frame} {meth : Method} {c : Code} (C : XC G 1 570 p s m args c prog_6_method_17_code 5 R_Hall) (hr : meth.sig.returnType = (some .int)) (hk : meth.locks = false) {d : Nat} (hd : 1 ≤ d + 1) (hR : xroom R (d + 1)) {h : Nat} {p0 : Int32} (hh : h ∈ xHalls) {σ' : LH} {r : Int32} : ∀ (n : Nat) (y2 : Int32) (y3 : Int32) (y4 : Int32) (σ : LH), s_Hall_gap_17 h p0 n y2 y3 y4 σ = some (r, σ') → XJ G 1 570 p l e R s m args below meth c 5 (XQ G 1 570 below args s (some (.int r)) σ') 0 0 17 [(0, .ref (G.2.2.1 + h)), (1, .int p0), (2, .int y2), (3, .int y3), (4, .int y4)] [] σ := by
  intro n
  induction n with
  | zero => intro y2 y3 y4 σ h0; cases h0
  | succ n ih => intro y2 y3 y4 σ h0; exact bb_Hall_gap_17 C hr hk hd hR hh ih h0
def s_Hall_gap (h : Nat) (p0 : Int32) (σ : LH) : Option (Int32 × LH) :=
  if ib 0 8 then (
  let x2 : Int32 := (σ.1 (h + 4) (Int32.toNatClampNeg 0))
  if ib 0 8 then (
  let x4 : Int32 := (σ.1 (h + 4) (Int32.toNatClampNeg 0))
  s_Hall_gap_17 h p0 FUEL x2 x4 1 σ) else none) else none
theorem c_Hall_gap {G : XG} {l : Launch} {d : Nat} (hd : 1 ≤ d) {h : Nat} {p0 : Int32} (hh : h ∈ xHalls) {σ σ' : LH} {r : Int32} (h0 : s_Hall_gap h p0 σ = some (r, σ')) : xM G 1 570 l y_Hall_gap prog_6_method_17_code 5 (some .int) d [.ref (G.2.2.1 + h), .int p0] σ (some (.int r)) σ' := by
  obtain ⟨d, rfl⟩ : ∃ q, d = q + 1 := ⟨d - 1, by omega⟩
  refine x_met R_Hall rfl (by decide +kernel) (Nat.le_of_ble_eq_true rfl) fun p e s m below meth c C hr hk hR => ?_
  refine x_lv (lv' := [(0, .ref (G.2.2.1 + h)), (1, .int p0)]) C [0, 1] rfl ?_
  generalize xrm (d + 1) = R at hR ⊢
  unfold s_Hall_gap at h0
  refine x_aload_n C d_Hall_gap_0 0 rfl ?_
  refine x_getR (y := 4) C fg_Hall_21 (hl_0 hh) rfl d_Hall_gap_1 ?_
  refine x_iconst (v := 0) C d_Hall_gap_4 (by decide) ?_
  obtain ⟨g1, h0⟩ := xgo h0
  refine x_iald C (hl_4 hh) (ib_in g1) d_Hall_gap_5 ?_
  obtain ⟨x2, ex2, h0⟩ := xlet h0
  refine x_name C ex2 ?_
  refine x_istore_n (lv' := [(2, .int x2), (0, .ref (G.2.2.1 + h)), (1, .int p0)]) C d_Hall_gap_6 rfl (by decide) rfl ?_
  refine x_aload_n C d_Hall_gap_7 1 rfl ?_
  refine x_getR (y := 4) C fg_Hall_21 (hl_0 hh) rfl d_Hall_gap_8 ?_
  refine x_iconst (v := 0) C d_Hall_gap_11 (by decide) ?_
  obtain ⟨g3, h0⟩ := xgo h0
  refine x_iald C (hl_4 hh) (ib_in g3) d_Hall_gap_12 ?_
  obtain ⟨x4, ex4, h0⟩ := xlet h0
  refine x_name C ex4 ?_
  refine x_istore_n (lv' := [(3, .int x4), (2, .int x2), (0, .ref (G.2.2.1 + h)), (1, .int p0)]) C d_Hall_gap_13 rfl (by decide) rfl ?_
  refine x_iconst (v := 1) C d_Hall_gap_14 (by decide) ?_
  refine x_istore (lv' := [(4, .int 1), (3, .int x4), (2, .int x2), (0, .ref (G.2.2.1 + h)), (1, .int p0)]) C d_Hall_gap_15 (by decide) rfl ?_
  exact x_lv C [3, 4, 2, 1, 0] rfl (b_Hall_gap_17 C hr hk hd hR hh FUEL _ _ _ _ h0)
