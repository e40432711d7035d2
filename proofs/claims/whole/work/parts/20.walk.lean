-- LostPlacesModel.going(II)I
theorem d_Model_going_0 : decode prog_14_method_62_code 0 = .ok (.aload_n 0, 1) := by decide +kernel
theorem d_Model_going_1 : decode prog_14_method_62_code 1 = .ok (.iconst 0, 1) := by decide +kernel
theorem d_Model_going_2 : decode prog_14_method_62_code 2 = .ok (.putfield 114, 3) := by decide +kernel
theorem d_Model_going_5 : decode prog_14_method_62_code 5 = .ok (.iload_n 1, 1) := by decide +kernel
theorem d_Model_going_6 : decode prog_14_method_62_code 6 = .ok (.ifCond .lt 36, 3) := by decide +kernel
theorem d_Model_going_9 : decode prog_14_method_62_code 9 = .ok (.iload_n 1, 1) := by decide +kernel
theorem d_Model_going_10 : decode prog_14_method_62_code 10 = .ok (.aload_n 0, 1) := by decide +kernel
theorem d_Model_going_11 : decode prog_14_method_62_code 11 = .ok (.getfield 308, 3) := by decide +kernel
theorem d_Model_going_14 : decode prog_14_method_62_code 14 = .ok (.if_icmp .ge 28, 3) := by decide +kernel
theorem d_Model_going_17 : decode prog_14_method_62_code 17 = .ok (.iload_n 2, 1) := by decide +kernel
theorem d_Model_going_18 : decode prog_14_method_62_code 18 = .ok (.i2l, 1) := by decide +kernel
theorem d_Model_going_19 : decode prog_14_method_62_code 19 = .ok (.lconst 0, 1) := by decide +kernel
theorem d_Model_going_20 : decode prog_14_method_62_code 20 = .ok (.ldc2_w 415, 3) := by decide +kernel
theorem d_Model_going_23 : decode prog_14_method_62_code 23 = .ok (.invokestatic 235, 3) := by decide +kernel
theorem d_Model_going_26 : decode prog_14_method_62_code 26 = .ok (.ifCond .eq 16, 3) := by decide +kernel
theorem d_Model_going_29 : decode prog_14_method_62_code 29 = .ok (.aload_n 0, 1) := by decide +kernel
theorem d_Model_going_30 : decode prog_14_method_62_code 30 = .ok (.getfield 49, 3) := by decide +kernel
theorem d_Model_going_33 : decode prog_14_method_62_code 33 = .ok (.iconst 3, 1) := by decide +kernel
theorem d_Model_going_34 : decode prog_14_method_62_code 34 = .ok (.iload_n 1, 1) := by decide +kernel
theorem d_Model_going_35 : decode prog_14_method_62_code 35 = .ok (.imul, 1) := by decide +kernel
theorem d_Model_going_36 : decode prog_14_method_62_code 36 = .ok (.iload_n 2, 1) := by decide +kernel
theorem d_Model_going_37 : decode prog_14_method_62_code 37 = .ok (.iadd, 1) := by decide +kernel
theorem d_Model_going_38 : decode prog_14_method_62_code 38 = .ok (.iaload, 1) := by decide +kernel
theorem d_Model_going_39 : decode prog_14_method_62_code 39 = .ok (.goto 4, 3) := by decide +kernel
theorem d_Model_going_42 : decode prog_14_method_62_code 42 = .ok (.iconst (-1), 1) := by decide +kernel
theorem d_Model_going_43 : decode prog_14_method_62_code 43 = .ok (.ireturn, 1) := by decide +kernel
def s_Model_going_43 (p0 : Int32) (p1 : Int32) (z0 : Int32) (σ : LH) : Option (Int32 × LH) :=
  some (z0, σ)
theorem b_Model_going_43 {G : XG} {l : Launch} {p : Program} {e : Env} {R : Room} {s : State} {m : MethodId} {args : Array Value} {below : List Frame} {meth : Method} {c : Code} (C : XC G 570 598 p s m args c prog_14_method_62_code 3 R_Model) (hr : meth.sig.returnType = (some .int)) (hk : meth.locks = false) {d : Nat} (hd : 2 ≤ d + 1) (hR : xroom R (d + 1)) {p0 : Int32} {p1 : Int32} {σ' : LH} {r : Int32} {z0 : Int32} {σ : LH} (h0 : s_Model_going_43 p0 p1 z0 σ = some (r, σ')) : XJ G 570 598 p l e R s m args below meth c 3 (XQ G 570 598 below args s (some (.int r)) σ') 0 0 43 [] [.int z0] σ := by
  replace h0 := (show _ = _ from h0)
  unfold s_Model_going_43 at h0
  exact x_iret C hr hk h0 d_Model_going_43
def s_Model_going_42 (p0 : Int32) (p1 : Int32) (σ : LH) : Option (Int32 × LH) :=
  s_Model_going_43 p0 p1 (-1) σ
theorem b_Model_going_42 {G : XG} {l : Launch} {p : Program} {e : Env} {R : Room} {s : State} {m : MethodId} {args : Array Value} {below : List Frame} {meth : Method} {c : Code} (C : XC G 570 598 p s m args c prog_14_method_62_code 3 R_Model) (hr : meth.sig.returnType = (some .int)) (hk : meth.locks = false) {d : Nat} (hd : 2 ≤ d + 1) (hR : xroom R (d + 1)) {p0 : Int32} {p1 : Int32} {σ' : LH} {r : Int32} {σ : LH} (h0 : s_Model_going_42 p0 p1 σ = some (r, σ')) : XJ G 570 598 p l e R s m args below meth c 3 (XQ G 570 598 below args s (some (.int r)) σ') 0 0 42 [] [] σ := by
  replace h0 := (show _ = _ from h0)
  unfold s_Model_going_42 at h0
  refine x_iconst (v := (-1)) C d_Model_going_42 (by decide) ?_
  exact x_lv C [] rfl (b_Model_going_43 C hr hk hd hR h0)
def s_Model_going (p0 : Int32) (p1 : Int32) (σ : LH) : Option (Int32 × LH) :=
  xl ((stI σ 570 0 0) : LH) fun σ1 =>
  if p0 < 0 then (
   s_Model_going_42 p0 p1 σ1)
  else (
   if (σ1.1 570 28) ≤ p0 then (
    s_Model_going_42 p0 p1 σ1)
   else (
    xb2 (s_Model_isIn (Int32.toInt64 p1) 0 2 σ1) fun r5 σ6 =>
    if r5 = 0 then (
     s_Model_going_42 p0 p1 σ6)
    else (
     if ib ((3 * p0) + p1) 30 then (
     s_Model_going_43 p0 p1 (σ6.1 579 (Int32.toNatClampNeg ((3 * p0) + p1))) σ6) else none)))
theorem c_Model_going {G : XG} {l : Launch} {d : Nat} (hd : 2 ≤ d) {p0 : Int32} {p1 : Int32} {σ σ' : LH} {r : Int32} (h0 : s_Model_going p0 p1 σ = some (r, σ')) : xM G 570 598 l y_Model_going prog_14_method_62_code 3 (some .int) d [.ref (G.2.2.1 + 570), .int p0, .int p1] σ (some (.int r)) σ' := by
  obtain ⟨d, rfl⟩ : ∃ q, d = q + 1 := ⟨d - 1, by omega⟩
  refine x_met R_Model rfl (by decide +kernel) (Nat.le_of_ble_eq_true rfl) fun p e s m below meth c C hr hk hR => ?_
  refine x_lv (lv' := [(0, .ref (G.2.2.1 + 570)), (1, .int p0), (2, .int p1)]) C [0, 1, 2] rfl ?_
  generalize xrm (d + 1) = R at hR ⊢
  unfold s_Model_going at h0
  refine x_aload_n C d_Model_going_0 0 rfl ?_
  refine x_iconst (v := 0) C d_Model_going_1 (by decide) ?_
  refine x_putI (y := 0) C fp_Model_114 k_570 rfl rfl rfl d_Model_going_2 ?_
  obtain ⟨σ1, eσ1, h0⟩ := xlet h0
  refine x_sig C eσ1 ?_
  refine x_iload_n C d_Model_going_5 1 rfl ?_
  refine x_if_lt C 42 d_Model_going_6 (by decide) (fun q2 => ?_) (fun q2 => ?_)
  · replace h0 := xit q2 h0
    exact x_lv C [] rfl (b_Model_going_42 C hr hk hd hR h0)
  · replace h0 := xif q2 h0
    refine x_iload_n C d_Model_going_9 1 rfl ?_
    refine x_aload_n C d_Model_going_10 0 rfl ?_
    refine x_getI (y := 0) C fg_Model_308 k_570 rfl d_Model_going_11 ?_
    refine x_icmp_ge C 42 d_Model_going_14 (by decide) (fun q3 => ?_) (fun q3 => ?_)
    · replace h0 := xit q3 h0
      exact x_lv C [] rfl (b_Model_going_42 C hr hk hd hR h0)
    · replace h0 := xif q3 h0
      refine x_iload_n C d_Model_going_17 2 rfl ?_
      refine x_i2l C d_Model_going_18 ?_
      refine x_lconst (v := 0) C d_Model_going_19 (by decide) ?_
      refine x_ldc2 (v := 2) C w_1868 d_Model_going_20 ?_
      obtain ⟨r5, σ6, k4, h0⟩ := xbind2 h0
      refine x_callSi C hR (c_Model_isIn (d := d) (by omega) k4) cw_Model_235 w_1695 rfl rfl (Nat.le_of_ble_eq_true rfl) ⟨Nat.zero_le _, Nat.zero_le _⟩ d_Model_going_23 ?_
      refine x_if_eq C 42 d_Model_going_26 (by decide) (fun q7 => ?_) (fun q7 => ?_)
      · replace h0 := xit q7 h0
        exact x_lv C [] rfl (b_Model_going_42 C hr hk hd hR h0)
      · replace h0 := xif q7 h0
        refine x_aload_n C d_Model_going_29 0 rfl ?_
        refine x_getA (y := 579) C fg_Model_49 k_570 rfl d_Model_going_30 ?_
        refine x_iconst (v := 3) C d_Model_going_33 (by decide) ?_
        refine x_iload_n C d_Model_going_34 1 rfl ?_
        refine x_imul C d_Model_going_35 ?_
        refine x_iload_n C d_Model_going_36 2 rfl ?_
        refine x_iadd C d_Model_going_37 ?_
        obtain ⟨g8, h0⟩ := xgo h0
        refine x_iald C k_579 (ib_in g8) d_Model_going_38 ?_
        refine x_goto C 43 d_Model_going_39 (by decide) ?_
        exact x_lv C [] rfl (b_Model_going_43 C hr hk hd hR h0)
-- LostPlacesModel.taste(I)Z
theorem d_Model_taste_0 : decode prog_14_method_63_code 0 = .ok (.aload_n 0, 1) := by decide +kernel
theorem d_Model_taste_1 : decode prog_14_method_63_code 1 = .ok (.iconst 0, 1) := by decide +kernel
theorem d_Model_taste_2 : decode prog_14_method_63_code 2 = .ok (.putfield 114, 3) := by decide +kernel
theorem d_Model_taste_5 : decode prog_14_method_63_code 5 = .ok (.iload_n 1, 1) := by decide +kernel
theorem d_Model_taste_6 : decode prog_14_method_63_code 6 = .ok (.iconst (-1), 1) := by decide +kernel
theorem d_Model_taste_7 : decode prog_14_method_63_code 7 = .ok (.if_icmp .eq 21, 3) := by decide +kernel
theorem d_Model_taste_10 : decode prog_14_method_63_code 10 = .ok (.iload_n 1, 1) := by decide +kernel
theorem d_Model_taste_11 : decode prog_14_method_63_code 11 = .ok (.i2l, 1) := by decide +kernel
theorem d_Model_taste_12 : decode prog_14_method_63_code 12 = .ok (.lconst 0, 1) := by decide +kernel
theorem d_Model_taste_13 : decode prog_14_method_63_code 13 = .ok (.aload_n 0, 1) := by decide +kernel
theorem d_Model_taste_14 : decode prog_14_method_63_code 14 = .ok (.getfield 297, 3) := by decide +kernel
theorem d_Model_taste_17 : decode prog_14_method_63_code 17 = .ok (.iconst 1, 1) := by decide +kernel
theorem d_Model_taste_18 : decode prog_14_method_63_code 18 = .ok (.isub, 1) := by decide +kernel
theorem d_Model_taste_19 : decode prog_14_method_63_code 19 = .ok (.i2l, 1) := by decide +kernel
theorem d_Model_taste_20 : decode prog_14_method_63_code 20 = .ok (.invokestatic 235, 3) := by decide +kernel
theorem d_Model_taste_23 : decode prog_14_method_63_code 23 = .ok (.ifCond .ne 5, 3) := by decide +kernel
theorem d_Model_taste_26 : decode prog_14_method_63_code 26 = .ok (.iconst 0, 1) := by decide +kernel
theorem d_Model_taste_27 : decode prog_14_method_63_code 27 = .ok (.ireturn, 1) := by decide +kernel
theorem d_Model_taste_28 : decode prog_14_method_63_code 28 = .ok (.aload_n 0, 1) := by decide +kernel
theorem d_Model_taste_29 : decode prog_14_method_63_code 29 = .ok (.iload_n 1, 1) := by decide +kernel
theorem d_Model_taste_30 : decode prog_14_method_63_code 30 = .ok (.putfield 67, 3) := by decide +kernel
theorem d_Model_taste_33 : decode prog_14_method_63_code 33 = .ok (.iconst 1, 1) := by decide +kernel
theorem d_Model_taste_34 : decode prog_14_method_63_code 34 = .ok (.ireturn, 1) := by decide +kernel
def s_Model_taste_28 (p0 : Int32) (σ : LH) : Option (Int32 × LH) :=
  xl ((stI σ 570 35 p0) : LH) fun σ3 =>
  some (1, σ3)
theorem b_Model_taste_28 {G : XG} {l : Launch} {p : Program} {e : Env} {R : Room} {s : State} {m : MethodId} {args : Array Value} {below : List Frame} {meth : Method} {c : Code} (C : XC G 570 598 p s m args c prog_14_method_63_code 2 R_Model) (hr : meth.sig.returnType = (some .boolean)) (hk : meth.locks = false) {d : Nat} (hd : 2 ≤ d + 1) (hR : xroom R (d + 1)) {p0 : Int32} {σ' : LH} {r : Int32} {σ : LH} (h0 : s_Model_taste_28 p0 σ = some (r, σ')) : XJ G 570 598 p l e R s m args below meth c 2 (XQ G 570 598 below args s (some (.int r)) σ') 0 0 28 [(0, .ref (G.2.2.1 + 570)), (1, .int p0)] [] σ := by
  replace h0 := (show _ = _ from h0)
  unfold s_Model_taste_28 at h0
  refine x_aload_n C d_Model_taste_28 0 rfl ?_
  refine x_iload_n C d_Model_taste_29 1 rfl ?_
  refine x_putI (y := 0) C fp_Model_67 k_570 rfl rfl rfl d_Model_taste_30 ?_
  obtain ⟨σ3, eσ3, h0⟩ := xlet h0
  refine x_sig C eσ3 ?_
  refine x_iconst (v := 1) C d_Model_taste_33 (by decide) ?_
  exact x_zret C hr hk (by decide) h0 d_Model_taste_34
def s_Model_taste (p0 : Int32) (σ : LH) : Option (Int32 × LH) :=
  xl ((stI σ 570 0 0) : LH) fun σ1 =>
  if p0 = (-1) then (
   s_Model_taste_28 p0 σ1)
  else (
   xb2 (s_Model_isIn (Int32.toInt64 p0) 0 (Int32.toInt64 ((σ1.1 570 7) - 1)) σ1) fun r5 σ6 =>
   if r5 = 0 then (
    some (0, σ6))
   else (
    s_Model_taste_28 p0 σ6))
theorem c_Model_taste {G : XG} {l : Launch} {d : Nat} (hd : 2 ≤ d) {p0 : Int32} {σ σ' : LH} {r : Int32} (h0 : s_Model_taste p0 σ = some (r, σ')) : xM G 570 598 l y_Model_taste prog_14_method_63_code 2 (some .boolean) d [.ref (G.2.2.1 + 570), .int p0] σ (some (.int r)) σ' := by
  obtain ⟨d, rfl⟩ : ∃ q, d = q + 1 := ⟨d - 1, by omega⟩
  refine x_met R_Model rfl (by decide +kernel) (Nat.le_of_ble_eq_true rfl) fun p e s m below meth c C hr hk hR => ?_
  refine x_lv (lv' := [(0, .ref (G.2.2.1 + 570)), (1, .int p0)]) C [0, 1] rfl ?_
  generalize xrm (d + 1) = R at hR ⊢
  unfold s_Model_taste at h0
  refine x_aload_n C d_Model_taste_0 0 rfl ?_
  refine x_iconst (v := 0) C d_Model_taste_1 (by decide) ?_
  refine x_putI (y := 0) C fp_Model_114 k_570 rfl rfl rfl d_Model_taste_2 ?_
  obtain ⟨σ1, eσ1, h0⟩ := xlet h0
  refine x_sig C eσ1 ?_
  refine x_iload_n C d_Model_taste_5 1 rfl ?_
  refine x_iconst (v := (-1)) C d_Model_taste_6 (by decide) ?_
  refine x_icmp_eq C 28 d_Model_taste_7 (by decide) (fun q2 => ?_) (fun q2 => ?_)
  · replace h0 := xit q2 h0
    exact x_lv C [0, 1] rfl (b_Model_taste_28 C hr hk hd hR h0)
  · replace h0 := xif q2 h0
    refine x_iload_n C d_Model_taste_10 1 rfl ?_
    refine x_i2l C d_Model_taste_11 ?_
    refine x_lconst (v := 0) C d_Model_taste_12 (by decide) ?_
    refine x_aload_n C d_Model_taste_13 0 rfl ?_
    refine x_getI (y := 0) C fg_Model_297 k_570 rfl d_Model_taste_14 ?_
    refine x_iconst (v := 1) C d_Model_taste_17 (by decide) ?_
    refine x_isub C d_Model_taste_18 ?_
    refine x_i2l C d_Model_taste_19 ?_
    obtain ⟨r5, σ6, k4, h0⟩ := xbind2 h0
    refine x_callSi C hR (c_Model_isIn (d := d) (by omega) k4) cw_Model_235 w_1695 rfl rfl (Nat.le_of_ble_eq_true rfl) ⟨Nat.zero_le _, Nat.zero_le _⟩ d_Model_taste_20 ?_
    refine x_if_ne C 28 d_Model_taste_23 (by decide) (fun q7 => ?_) (fun q7 => ?_)
    · replace h0 := xif q7 h0
      exact x_lv C [0, 1] rfl (b_Model_taste_28 C hr hk hd hR h0)
    · replace h0 := xit q7 h0
      refine x_iconst (v := 0) C d_Model_taste_26 (by decide) ?_
      exact x_zret C hr hk (by decide) h0 d_Model_taste_27
-- LostPlacesModel.restless(I)Z
theorem d_Model_restless_0 : decode prog_14_method_64_code 0 = .ok (.aload_n 0, 1) := by decide +kernel
theorem d_Model_restless_1 : decode prog_14_method_64_code 1 = .ok (.iconst 0, 1) := by decide +kernel
theorem d_Model_restless_2 : decode prog_14_method_64_code 2 = .ok (.putfield 114, 3) := by decide +kernel
theorem d_Model_restless_5 : decode prog_14_method_64_code 5 = .ok (.iload_n 1, 1) := by decide +kernel
theorem d_Model_restless_6 : decode prog_14_method_64_code 6 = .ok (.i2l, 1) := by decide +kernel
theorem d_Model_restless_7 : decode prog_14_method_64_code 7 = .ok (.lconst 0, 1) := by decide +kernel
theorem d_Model_restless_8 : decode prog_14_method_64_code 8 = .ok (.ldc2_w 417, 3) := by decide +kernel
theorem d_Model_restless_11 : decode prog_14_method_64_code 11 = .ok (.invokestatic 235, 3) := by decide +kernel
theorem d_Model_restless_14 : decode prog_14_method_64_code 14 = .ok (.ifCond .eq 11, 3) := by decide +kernel
theorem d_Model_restless_17 : decode prog_14_method_64_code 17 = .ok (.iload_n 1, 1) := by decide +kernel
theorem d_Model_restless_18 : decode prog_14_method_64_code 18 = .ok (.aload_n 0, 1) := by decide +kernel
theorem d_Model_restless_19 : decode prog_14_method_64_code 19 = .ok (.getfield 419, 3) := by decide +kernel
theorem d_Model_restless_22 : decode prog_14_method_64_code 22 = .ok (.if_icmp .ne 5, 3) := by decide +kernel
theorem d_Model_restless_25 : decode prog_14_method_64_code 25 = .ok (.iconst 0, 1) := by decide +kernel
theorem d_Model_restless_26 : decode prog_14_method_64_code 26 = .ok (.ireturn, 1) := by decide +kernel
theorem d_Model_restless_27 : decode prog_14_method_64_code 27 = .ok (.aload_n 0, 1) := by decide +kernel
theorem d_Model_restless_28 : decode prog_14_method_64_code 28 = .ok (.iload_n 1, 1) := by decide +kernel
theorem d_Model_restless_29 : decode prog_14_method_64_code 29 = .ok (.putfield 419, 3) := by decide +kernel
theorem d_Model_restless_32 : decode prog_14_method_64_code 32 = .ok (.iconst 1, 1) := by decide +kernel
theorem d_Model_restless_33 : decode prog_14_method_64_code 33 = .ok (.ireturn, 1) := by decide +kernel
def s_Model_restless_25 (p0 : Int32) (σ : LH) : Option (Int32 × LH) :=
  some (0, σ)
theorem b_Model_restless_25 {G : XG} {l : Launch} {p : Program} {e : Env} {R : Room} {s : State} {m : MethodId} {args : Array Value} {below : List Frame} {meth : Method} {c : Code} (C : XC G 570 598 p s m args c prog_14_method_64_code 2 R_Model) (hr : meth.sig.returnType = (some .boolean)) (hk : meth.locks = false) {d : Nat} (hd : 2 ≤ d + 1) (hR : xroom R (d + 1)) {p0 : Int32} {σ' : LH} {r : Int32} {σ : LH} (h0 : s_Model_restless_25 p0 σ = some (r, σ')) : XJ G 570 598 p l e R s m args below meth c 2 (XQ G 570 598 below args s (some (.int r)) σ') 0 0 25 [] [] σ := by
  replace h0 := (show _ = _ from h0)
  unfold s_Model_restless_25 at h0
  refine x_iconst (v := 0) C d_Model_restless_25 (by decide) ?_
  exact x_zret C hr hk (by decide) h0 d_Model_restless_26
def s_Model_restless (p0 : Int32) (σ : LH) : Option (Int32 × LH) :=
  xl ((stI σ 570 0 0) : LH) fun σ1 =>
  xb2 (s_Model_isIn (Int32.toInt64 p0) 0 99 σ1) fun r3 σ4 =>
  if r3 = 0 then (
   s_Model_restless_25 p0 σ4)
  else (
   if p0 = (σ4.1 570 36) then (
    s_Model_restless_25 p0 σ4)
   else (
    xl ((stI σ4 570 36 p0) : LH) fun σ7 =>
    some (1, σ7)))
theorem c_Model_restless {G : XG} {l : Launch} {d : Nat} (hd : 2 ≤ d) {p0 : Int32} {σ σ' : LH} {r : Int32} (h0 : s_Model_restless p0 σ = some (r, σ')) : xM G 570 598 l y_Model_restless prog_14_method_64_code 2 (some .boolean) d [.ref (G.2.2.1 + 570), .int p0] σ (some (.int r)) σ' := by
  obtain ⟨d, rfl⟩ : ∃ q, d = q + 1 := ⟨d - 1, by omega⟩
  refine x_met R_Model rfl (by decide +kernel) (Nat.le_of_ble_eq_true rfl) fun p e s m below meth c C hr hk hR => ?_
  refine x_lv (lv' := [(0, .ref (G.2.2.1 + 570)), (1, .int p0)]) C [0, 1] rfl ?_
  generalize xrm (d + 1) = R at hR ⊢
  unfold s_Model_restless at h0
  refine x_aload_n C d_Model_restless_0 0 rfl ?_
  refine x_iconst (v := 0) C d_Model_restless_1 (by decide) ?_
  refine x_putI (y := 0) C fp_Model_114 k_570 rfl rfl rfl d_Model_restless_2 ?_
  obtain ⟨σ1, eσ1, h0⟩ := xlet h0
  refine x_sig C eσ1 ?_
  refine x_iload_n C d_Model_restless_5 1 rfl ?_
  refine x_i2l C d_Model_restless_6 ?_
  refine x_lconst (v := 0) C d_Model_restless_7 (by decide) ?_
  refine x_ldc2 (v := 99) C w_1877 d_Model_restless_8 ?_
  obtain ⟨r3, σ4, k2, h0⟩ := xbind2 h0
  refine x_callSi C hR (c_Model_isIn (d := d) (by omega) k2) cw_Model_235 w_1695 rfl rfl (Nat.le_of_ble_eq_true rfl) ⟨Nat.zero_le _, Nat.zero_le _⟩ d_Model_restless_11 ?_
  refine x_if_eq C 25 d_Model_restless_14 (by decide) (fun q5 => ?_) (fun q5 => ?_)
  · replace h0 := xit q5 h0
    exact x_lv C [] rfl (b_Model_restless_25 C hr hk hd hR h0)
  · replace h0 := xif q5 h0
    refine x_iload_n C d_Model_restless_17 1 rfl ?_
    refine x_aload_n C d_Model_restless_18 0 rfl ?_
    refine x_getI (y := 0) C fg_Model_419 k_570 rfl d_Model_restless_19 ?_
    refine x_icmp_ne C 27 d_Model_restless_22 (by decide) (fun q6 => ?_) (fun q6 => ?_)
    · replace h0 := xif q6 h0
      refine x_aload_n C d_Model_restless_27 0 rfl ?_
      refine x_iload_n C d_Model_restless_28 1 rfl ?_
      refine x_putI (y := 0) C fp_Model_419 k_570 rfl rfl rfl d_Model_restless_29 ?_
      obtain ⟨σ7, eσ7, h0⟩ := xlet h0
      refine x_sig C eσ7 ?_
      refine x_iconst (v := 1) C d_Model_restless_32 (by decide) ?_
      exact x_zret C hr hk (by decide) h0 d_Model_restless_33
    · replace h0 := xit q6 h0
      exact x_lv C [] rfl (b_Model_restless_25 C hr hk hd hR h0)
-- LostPlacesModel.likes(II)I
theorem d_Model_likes_0 : decode prog_14_method_65_code 0 = .ok (.aload_n 0, 1) := by decide +kernel
theorem d_Model_likes_1 : decode prog_14_method_65_code 1 = .ok (.iconst 0, 1) := by decide +kernel
theorem d_Model_likes_2 : decode prog_14_method_65_code 2 = .ok (.putfield 114, 3) := by decide +kernel
theorem d_Model_likes_5 : decode prog_14_method_65_code 5 = .ok (.aload_n 0, 1) := by decide +kernel
theorem d_Model_likes_6 : decode prog_14_method_65_code 6 = .ok (.iload_n 1, 1) := by decide +kernel
theorem d_Model_likes_7 : decode prog_14_method_65_code 7 = .ok (.invokevirtual 412, 3) := by decide +kernel
theorem d_Model_likes_10 : decode prog_14_method_65_code 10 = .ok (.ifCond .eq 29, 3) := by decide +kernel
theorem d_Model_likes_13 : decode prog_14_method_65_code 13 = .ok (.iload_n 2, 1) := by decide +kernel
theorem d_Model_likes_14 : decode prog_14_method_65_code 14 = .ok (.iconst (-1), 1) := by decide +kernel
theorem d_Model_likes_15 : decode prog_14_method_65_code 15 = .ok (.if_icmp .eq 11, 3) := by decide +kernel
theorem d_Model_likes_18 : decode prog_14_method_65_code 18 = .ok (.aload_n 0, 1) := by decide +kernel
theorem d_Model_likes_19 : decode prog_14_method_65_code 19 = .ok (.iload_n 2, 1) := by decide +kernel
theorem d_Model_likes_20 : decode prog_14_method_65_code 20 = .ok (.invokevirtual 407, 3) := by decide +kernel
theorem d_Model_likes_23 : decode prog_14_method_65_code 23 = .ok (.ifCond .eq 16, 3) := by decide +kernel
theorem d_Model_likes_26 : decode prog_14_method_65_code 26 = .ok (.aload_n 0, 1) := by decide +kernel
theorem d_Model_likes_27 : decode prog_14_method_65_code 27 = .ok (.aload_n 0, 1) := by decide +kernel
theorem d_Model_likes_28 : decode prog_14_method_65_code 28 = .ok (.getfield 61, 3) := by decide +kernel
theorem d_Model_likes_31 : decode prog_14_method_65_code 31 = .ok (.iload_n 1, 1) := by decide +kernel
theorem d_Model_likes_32 : decode prog_14_method_65_code 32 = .ok (.iload_n 2, 1) := by decide +kernel
theorem d_Model_likes_33 : decode prog_14_method_65_code 33 = .ok (.invokevirtual 357, 3) := by decide +kernel
theorem d_Model_likes_36 : decode prog_14_method_65_code 36 = .ok (.goto 6, 3) := by decide +kernel
theorem d_Model_likes_39 : decode prog_14_method_65_code 39 = .ok (.ldc_w 422, 3) := by decide +kernel
theorem d_Model_likes_42 : decode prog_14_method_65_code 42 = .ok (.ireturn, 1) := by decide +kernel
def s_Model_likes_42 (p0 : Int32) (p1 : Int32) (z0 : Int32) (σ : LH) : Option (Int32 × LH) :=
  some (z0, σ)
theorem b_Model_likes_42 {G : XG} {l : Launch} {p : Program} {e : Env} {R : Room} {s : State} {m : MethodId} {args : Array Value} {below : List Frame} {meth : Method} {c : Code} (C : XC G 570 598 p s m args c prog_14_method_65_code 3 R_Model) (hr : meth.sig.returnType = (some .int)) (hk : meth.locks = false) {d : Nat} (hd : 119 ≤ d + 1) (hR : xroom R (d + 1)) {p0 : Int32} {p1 : Int32} {σ' : LH} {r : Int32} {z0 : Int32} {σ : LH} (h0 : s_Model_likes_42 p0 p1 z0 σ = some (r, σ')) : XJ G 570 598 p l e R s m args below meth c 3 (XQ G 570 598 below args s (some (.int r)) σ') 0 0 42 [] [.int z0] σ := by
  replace h0 := (show _ = _ from h0)
  unfold s_Model_likes_42 at h0
  exact x_iret C hr hk h0 d_Model_likes_42
def s_Model_likes_39 (p0 : Int32) (p1 : Int32) (σ : LH) : Option (Int32 × LH) :=
  s_Model_likes_42 p0 p1 (-1000000) σ
theorem b_Model_likes_39 {G : XG} {l : Launch} {p : Program} {e : Env} {R : Room} {s : State} {m : MethodId} {args : Array Value} {below : List Frame} {meth : Method} {c : Code} (C : XC G 570 598 p s m args c prog_14_method_65_code 3 R_Model) (hr : meth.sig.returnType = (some .int)) (hk : meth.locks = false) {d : Nat} (hd : 119 ≤ d + 1) (hR : xroom R (d + 1)) {p0 : Int32} {p1 : Int32} {σ' : LH} {r : Int32} {σ : LH} (h0 : s_Model_likes_39 p0 p1 σ = some (r, σ')) : XJ G 570 598 p l e R s m args below meth c 3 (XQ G 570 598 below args s (some (.int r)) σ') 0 0 39 [] [] σ := by
  replace h0 := (show _ = _ from h0)
  unfold s_Model_likes_39 at h0
  refine x_ldcw (v := (-1000000)) C w_1899 d_Model_likes_39 ?_
  exact x_lv C [] rfl (b_Model_likes_42 C hr hk hd hR h0)
def s_Model_likes_26 (p0 : Int32) (p1 : Int32) (σ : LH) : Option (Int32 × LH) :=
  xb2 (s_Model_likesIn 583 p0 p1 σ) fun r8 σ9 =>
  s_Model_likes_42 p0 p1 r8 σ9
theorem b_Model_likes_26 {G : XG} {l : Launch} {p : Program} {e : Env} {R : Room} {s : State} {m : MethodId} {args : Array Value} {below : List Frame} {meth : Method} {c : Code} (C : XC G 570 598 p s m args c prog_14_method_65_code 3 R_Model) (hr : meth.sig.returnType = (some .int)) (hk : meth.locks = false) {d : Nat} (hd : 119 ≤ d + 1) (hR : xroom R (d + 1)) {p0 : Int32} {p1 : Int32} {σ' : LH} {r : Int32} {σ : LH} (h0 : s_Model_likes_26 p0 p1 σ = some (r, σ')) : XJ G 570 598 p l e R s m args below meth c 3 (XQ G 570 598 below args s (some (.int r)) σ') 0 0 26 [(0, .ref (G.2.2.1 + 570)), (1, .int p0), (2, .int p1)] [] σ := by
  replace h0 := (show _ = _ from h0)
  unfold s_Model_likes_26 at h0
  refine x_aload_n C d_Model_likes_26 0 rfl ?_
  refine x_aload_n C d_Model_likes_27 0 rfl ?_
  refine x_getA (y := 583) C fg_Model_61 k_570 rfl d_Model_likes_28 ?_
  refine x_iload_n C d_Model_likes_31 1 rfl ?_
  refine x_iload_n C d_Model_likes_32 2 rfl ?_
  obtain ⟨r8, σ9, k7, h0⟩ := xbind2 h0
  refine x_callVi C hR (c_Model_likesIn (d := d) (by omega) k_583 k7) cw_Model_357 k_570 rfl rfl rfl (Nat.le_of_ble_eq_true rfl) ⟨Nat.zero_le _, Nat.zero_le _⟩ d_Model_likes_33 ?_
  refine x_goto C 42 d_Model_likes_36 (by decide) ?_
  exact x_lv C [] rfl (b_Model_likes_42 C hr hk hd hR h0)
def s_Model_likes (p0 : Int32) (p1 : Int32) (σ : LH) : Option (Int32 × LH) :=
  xl ((stI σ 570 0 0) : LH) fun σ1 =>
  xb2 (s_Model_isSitter p0 σ1) fun r3 σ4 =>
  if r3 = 0 then (
   s_Model_likes_39 p0 p1 σ4)
  else (
   if p1 = (-1) then (
    s_Model_likes_26 p0 p1 σ4)
   else (
    xb2 (s_Model_isSeat p1 σ4) fun r11 σ12 =>
    if r11 = 0 then (
     s_Model_likes_39 p0 p1 σ12)
    else (
     s_Model_likes_26 p0 p1 σ12)))
theorem c_Model_likes {G : XG} {l : Launch} {d : Nat} (hd : 119 ≤ d) {p0 : Int32} {p1 : Int32} {σ σ' : LH} {r : Int32} (h0 : s_Model_likes p0 p1 σ = some (r, σ')) : xM G 570 598 l y_Model_likes prog_14_method_65_code 3 (some .int) d [.ref (G.2.2.1 + 570), .int p0, .int p1] σ (some (.int r)) σ' := by
  obtain ⟨d, rfl⟩ : ∃ q, d = q + 1 := ⟨d - 1, by omega⟩
  refine x_met R_Model rfl (by decide +kernel) (Nat.le_of_ble_eq_true rfl) fun p e s m below meth c C hr hk hR => ?_
  refine x_lv (lv' := [(0, .ref (G.2.2.1 + 570)), (1, .int p0), (2, .int p1)]) C [0, 1, 2] rfl ?_
  generalize xrm (d + 1) = R at hR ⊢
  unfold s_Model_likes at h0
  refine x_aload_n C d_Model_likes_0 0 rfl ?_
  refine x_iconst (v := 0) C d_Model_likes_1 (by decide) ?_
  refine x_putI (y := 0) C fp_Model_114 k_570 rfl rfl rfl d_Model_likes_2 ?_
  obtain ⟨σ1, eσ1, h0⟩ := xlet h0
  refine x_sig C eσ1 ?_
  refine x_aload_n C d_Model_likes_5 0 rfl ?_
  refine x_iload_n C d_Model_likes_6 1 rfl ?_
  obtain ⟨r3, σ4, k2, h0⟩ := xbind2 h0
  refine x_callVi C hR (c_Model_isSitter (d := d) (by omega) k2) cw_Model_412 k_570 rfl rfl rfl (Nat.le_of_ble_eq_true rfl) ⟨Nat.zero_le _, Nat.zero_le _⟩ d_Model_likes_7 ?_
  refine x_if_eq C 39 d_Model_likes_10 (by decide) (fun q5 => ?_) (fun q5 => ?_)
  · replace h0 := xit q5 h0
    exact x_lv C [] rfl (b_Model_likes_39 C hr hk hd hR h0)
  · replace h0 := xif q5 h0
    refine x_iload_n C d_Model_likes_13 2 rfl ?_
    refine x_iconst (v := (-1)) C d_Model_likes_14 (by decide) ?_
    refine x_icmp_eq C 26 d_Model_likes_15 (by decide) (fun q6 => ?_) (fun q6 => ?_)
    · replace h0 := xit q6 h0
      exact x_lv C [0, 1, 2] rfl (b_Model_likes_26 C hr hk hd hR h0)
    · replace h0 := xif q6 h0
      refine x_aload_n C d_Model_likes_18 0 rfl ?_
      refine x_iload_n C d_Model_likes_19 2 rfl ?_
      obtain ⟨r11, σ12, k10, h0⟩ := xbind2 h0
      refine x_callVi C hR (c_Model_isSeat (d := d) (by omega) k10) cw_Model_407 k_570 rfl rfl rfl (Nat.le_of_ble_eq_true rfl) ⟨Nat.zero_le _, Nat.zero_le _⟩ d_Model_likes_20 ?_
      refine x_if_eq C 39 d_Model_likes_23 (by decide) (fun q13 => ?_) (fun q13 => ?_)
      · replace h0 := xit q13 h0
        exact x_lv C [] rfl (b_Model_likes_39 C hr hk hd hR h0)
      · replace h0 := xif q13 h0
        exact x_lv C [0, 1, 2] rfl (b_Model_likes_26 C hr hk hd hR h0)
-- LostPlacesModel.remember()V
theorem d_Model_remember_0 : decode prog_14_method_66_code 0 = .ok (.aload_n 0, 1) := by decide +kernel
theorem d_Model_remember_1 : decode prog_14_method_66_code 1 = .ok (.getfield 314, 3) := by decide +kernel
theorem d_Model_remember_4 : decode prog_14_method_66_code 4 = .ok (.bipush 40, 2) := by decide +kernel
theorem d_Model_remember_6 : decode prog_14_method_66_code 6 = .ok (.if_icmp .ne 44, 3) := by decide +kernel
theorem d_Model_remember_9 : decode prog_14_method_66_code 9 = .ok (.iconst 0, 1) := by decide +kernel
theorem d_Model_remember_10 : decode prog_14_method_66_code 10 = .ok (.istore_n 1, 1) := by decide +kernel
theorem d_Model_remember_11 : decode prog_14_method_66_code 11 = .ok (.iload_n 1, 1) := by decide +kernel
theorem d_Model_remember_12 : decode prog_14_method_66_code 12 = .ok (.sipush 11310, 3) := by decide +kernel
theorem d_Model_remember_15 : decode prog_14_method_66_code 15 = .ok (.if_icmp .ge 25, 3) := by decide +kernel
theorem d_Model_remember_18 : decode prog_14_method_66_code 18 = .ok (.aload_n 0, 1) := by decide +kernel
theorem d_Model_remember_19 : decode prog_14_method_66_code 19 = .ok (.getfield 90, 3) := by decide +kernel
theorem d_Model_remember_22 : decode prog_14_method_66_code 22 = .ok (.iload_n 1, 1) := by decide +kernel
theorem d_Model_remember_23 : decode prog_14_method_66_code 23 = .ok (.aload_n 0, 1) := by decide +kernel
theorem d_Model_remember_24 : decode prog_14_method_66_code 24 = .ok (.getfield 90, 3) := by decide +kernel
theorem d_Model_remember_27 : decode prog_14_method_66_code 27 = .ok (.iload_n 1, 1) := by decide +kernel
theorem d_Model_remember_28 : decode prog_14_method_66_code 28 = .ok (.sipush 290, 3) := by decide +kernel
theorem d_Model_remember_31 : decode prog_14_method_66_code 31 = .ok (.iadd, 1) := by decide +kernel
theorem d_Model_remember_32 : decode prog_14_method_66_code 32 = .ok (.iaload, 1) := by decide +kernel
theorem d_Model_remember_33 : decode prog_14_method_66_code 33 = .ok (.iastore, 1) := by decide +kernel
theorem d_Model_remember_34 : decode prog_14_method_66_code 34 = .ok (.iinc 1 1, 3) := by decide +kernel
theorem d_Model_remember_37 : decode prog_14_method_66_code 37 = .ok (.goto (-26), 3) := by decide +kernel
theorem d_Model_remember_40 : decode prog_14_method_66_code 40 = .ok (.aload_n 0, 1) := by decide +kernel
theorem d_Model_remember_41 : decode prog_14_method_66_code 41 = .ok (.dup, 1) := by decide +kernel
theorem d_Model_remember_42 : decode prog_14_method_66_code 42 = .ok (.getfield 314, 3) := by decide +kernel
theorem d_Model_remember_45 : decode prog_14_method_66_code 45 = .ok (.iconst 1, 1) := by decide +kernel
theorem d_Model_remember_46 : decode prog_14_method_66_code 46 = .ok (.isub, 1) := by decide +kernel
theorem d_Model_remember_47 : decode prog_14_method_66_code 47 = .ok (.putfield 314, 3) := by decide +kernel
theorem d_Model_remember_50 : decode prog_14_method_66_code 50 = .ok (.iconst 0, 1) := by decide +kernel
theorem d_Model_remember_51 : decode prog_14_method_66_code 51 = .ok (.istore_n 1, 1) := by decide +kernel
theorem d_Model_remember_52 : decode prog_14_method_66_code 52 = .ok (.iload_n 1, 1) := by decide +kernel
theorem d_Model_remember_53 : decode prog_14_method_66_code 53 = .ok (.sipush 290, 3) := by decide +kernel
theorem d_Model_remember_56 : decode prog_14_method_66_code 56 = .ok (.if_icmp .ge 30, 3) := by decide +kernel
theorem d_Model_remember_59 : decode prog_14_method_66_code 59 = .ok (.aload_n 0, 1) := by decide +kernel
theorem d_Model_remember_60 : decode prog_14_method_66_code 60 = .ok (.getfield 90, 3) := by decide +kernel
theorem d_Model_remember_63 : decode prog_14_method_66_code 63 = .ok (.sipush 290, 3) := by decide +kernel
theorem d_Model_remember_66 : decode prog_14_method_66_code 66 = .ok (.aload_n 0, 1) := by decide +kernel
theorem d_Model_remember_67 : decode prog_14_method_66_code 67 = .ok (.getfield 314, 3) := by decide +kernel
theorem d_Model_remember_70 : decode prog_14_method_66_code 70 = .ok (.imul, 1) := by decide +kernel
theorem d_Model_remember_71 : decode prog_14_method_66_code 71 = .ok (.iload_n 1, 1) := by decide +kernel
theorem d_Model_remember_72 : decode prog_14_method_66_code 72 = .ok (.iadd, 1) := by decide +kernel
theorem d_Model_remember_73 : decode prog_14_method_66_code 73 = .ok (.aload_n 0, 1) := by decide +kernel
theorem d_Model_remember_74 : decode prog_14_method_66_code 74 = .ok (.getfield 61, 3) := by decide +kernel
theorem d_Model_remember_77 : decode prog_14_method_66_code 77 = .ok (.iload_n 1, 1) := by decide +kernel
theorem d_Model_remember_78 : decode prog_14_method_66_code 78 = .ok (.iaload, 1) := by decide +kernel
theorem d_Model_remember_79 : decode prog_14_method_66_code 79 = .ok (.iastore, 1) := by decide +kernel
theorem d_Model_remember_80 : decode prog_14_method_66_code 80 = .ok (.iinc 1 1, 3) := by decide +kernel
theorem d_Model_remember_83 : decode prog_14_method_66_code 83 = .ok (.goto (-31), 3) := by decide +kernel
theorem d_Model_remember_86 : decode prog_14_method_66_code 86 = .ok (.aload_n 0, 1) := by decide +kernel
theorem d_Model_remember_87 : decode prog_14_method_66_code 87 = .ok (.dup, 1) := by decide +kernel
theorem d_Model_remember_88 : decode prog_14_method_66_code 88 = .ok (.getfield 314, 3) := by decide +kernel
theorem d_Model_remember_91 : decode prog_14_method_66_code 91 = .ok (.iconst 1, 1) := by decide +kernel
theorem d_Model_remember_92 : decode prog_14_method_66_code 92 = .ok (.iadd, 1) := by decide +kernel
theorem d_Model_remember_93 : decode prog_14_method_66_code 93 = .ok (.putfield 314, 3) := by decide +kernel
theorem d_Model_remember_96 : decode prog_14_method_66_code 96 = .ok (.return_, 1) := by decide +kernel
def s_Model_remember_52_b (rec52 : Int32 → LH → Option (LH)) (y1 : Int32) (σ : LH) : Option (LH) :=
  if 290 ≤ y1 then (
   xl ((stI σ 570 46 ((σ.1 570 46) + 1)) : LH) fun σ5 =>
   some σ5)
  else (
   if ib y1 290 then (
   if ib ((290 * (σ.1 570 46)) + y1) 11600 then (
   xl ((stI σ 590 (Int32.toNatClampNeg ((290 * (σ.1 570 46)) + y1)) (σ.1 583 (Int32.toNatClampNeg y1))) : LH) fun σ8 =>
   xl ((y1 + 1) : Int32) fun x9 =>
   rec52 x9 σ8) else none) else none)
def s_Model_remember_52 : Nat → Int32 → LH → Option (LH)
  | 0, _, _ => none
  | n + 1, y1, σ => s_Model_remember_52_b (s_Model_remember_52 n) y1 σ
theorem bb_Model_remember_52 {G : XG} {l : Launch} {p : Program} {e : Env} {R : Room} {s : State} {m : MethodId} {args : Array Value} {below : List Frame} {meth : Method} {c : Code} (C : XC G 570 598 p s m args c prog_14_method_66_code 2 R_Model) (hr : meth.sig.returnType = none) (hk : meth.locks = false) {d : Nat} (hd : 1 ≤ d + 1) (hR : xroom R (d + 1)) {rec52 : Int32 → LH → Option (LH)} {σ' : LH} (hrec52 : ∀ (y1 : Int32) (σ : LH), rec52 y1 σ = some σ' → XJ G 570 598 p l e R s m args below meth c 2 (XQ G 570 598 below args s none σ') 0 0 52 [(0, .ref (G.2.2.1 + 570)), (1, .int y1)] [] σ) {y1 : Int32} {σ : LH} (h0 : s_Model_remember_52_b rec52 y1 σ = some σ') : XJ G 570 598 p l e R s m args below meth c 2 (XQ G 570 598 below args s none σ') 0 0 52 [(0, .ref (G.2.2.1 + 570)), (1, .int y1)] [] σ := by
  replace h0 := (show _ = _ from h0)
  unfold s_Model_remember_52_b at h0
  refine x_iload_n C d_Model_remember_52 1 rfl ?_
  refine x_sipush (v := 290) C d_Model_remember_53 (by decide) ?_
  refine x_icmp_ge C 86 d_Model_remember_56 (by decide) (fun q4 => ?_) (fun q4 => ?_)
  · replace h0 := xit q4 h0
    refine x_aload_n C d_Model_remember_86 0 rfl ?_
    refine x_dup C d_Model_remember_87 rfl ?_
    refine x_getI (y := 0) C fg_Model_314 k_570 rfl d_Model_remember_88 ?_
    refine x_iconst (v := 1) C d_Model_remember_91 (by decide) ?_
    refine x_iadd C d_Model_remember_92 ?_
    refine x_putI (y := 0) C fp_Model_314 k_570 rfl rfl rfl d_Model_remember_93 ?_
    obtain ⟨σ5, eσ5, h0⟩ := xlet h0
    refine x_sig C eσ5 ?_
    exact x_vret C hr hk h0 d_Model_remember_96
  · replace h0 := xif q4 h0
    refine x_aload_n C d_Model_remember_59 0 rfl ?_
    refine x_getA (y := 590) C fg_Model_90 k_570 rfl d_Model_remember_60 ?_
    refine x_sipush (v := 290) C d_Model_remember_63 (by decide) ?_
    refine x_aload_n C d_Model_remember_66 0 rfl ?_
    refine x_getI (y := 0) C fg_Model_314 k_570 rfl d_Model_remember_67 ?_
    refine x_imul C d_Model_remember_70 ?_
    refine x_iload_n C d_Model_remember_71 1 rfl ?_
    refine x_iadd C d_Model_remember_72 ?_
    refine x_aload_n C d_Model_remember_73 0 rfl ?_
    refine x_getA (y := 583) C fg_Model_61 k_570 rfl d_Model_remember_74 ?_
    refine x_iload_n C d_Model_remember_77 1 rfl ?_
    obtain ⟨g6, h0⟩ := xgo h0
    refine x_iald C k_583 (ib_in g6) d_Model_remember_78 ?_
    obtain ⟨g7, h0⟩ := xgo h0
    refine x_iast C k_590 (ib_in g7) d_Model_remember_79 ?_
    obtain ⟨σ8, eσ8, h0⟩ := xlet h0
    refine x_sig C eσ8 ?_
    obtain ⟨x9, ex9, h0⟩ := xlet h0
    refine x_iinc (lv' := [(1, .int x9), (0, .ref (G.2.2.1 + 570))]) C d_Model_remember_80 1 rfl ex9 (by decide) rfl ?_
    refine x_goto C 52 d_Model_remember_83 (by decide) ?_
    exact x_lv C [1, 0] rfl (hrec52 _ _ h0)
theorem b_Model_remember_52 {G : XG} {l : Launch} {p : Program} {e : Env} {R : Room} {s : State} {m : MethodId} {args : Array Value} {below : List Frame} {meth : Method} {c : Code} (C : XC G 570 598 p s m args c prog_14_method_66_code 2 R_Model) (hr : meth.sig.returnType = none) (hk : meth.locks = false) {d : Nat} (hd : 1 ≤ d + 1) (hR : xroom R (d + 1)) {σ' : LH} : ∀ (n : Nat) (y1 : Int32) (σ : LH), s_Model_remember_52 n y1 σ = some σ' → XJ G 570 598 p l e R s m args below meth c 2 (XQ G 570 598 below args s none σ') 0 0 52 [(0, .ref (G.2.2.1 + 570)), (1, .int y1)] [] σ := by
  intro n
  induction n with
  | zero => intro y1 σ h0; cases h0
  | succ n ih => intro y1 σ h0; exact bb_Model_remember_52 C hr hk hd hR ih h0
def s_Model_remember_50 (σ : LH) : Option (LH) :=
  s_Model_remember_52 FUEL 0 σ
theorem b_Model_remember_50 {G : XG} {l : Launch} {p : Program} {e : Env} {R : Room} {s : State} {m : MethodId} {args : Array Value} {below : List Frame} {meth : Method} {c : Code} (C : XC G 570 598 p s m args c prog_14_method_66_code 2 R_Model) (hr : meth.sig.returnType = none) (hk : meth.locks = false) {d : Nat} (hd : 1 ≤ d + 1) (hR : xroom R (d + 1)) {σ' : LH} {σ : LH} (h0 : s_Model_remember_50 σ = some σ') : XJ G 570 598 p l e R s m args below meth c 2 (XQ G 570 598 below args s none σ') 0 0 50 [(0, .ref (G.2.2.1 + 570))] [] σ := by
  replace h0 := (show _ = _ from h0)
  unfold s_Model_remember_50 at h0
  refine x_iconst (v := 0) C d_Model_remember_50 (by decide) ?_
  refine x_istore_n (lv' := [(1, .int 0), (0, .ref (G.2.2.1 + 570))]) C d_Model_remember_51 rfl (by decide) rfl ?_
  exact x_lv C [1, 0] rfl (b_Model_remember_52 C hr hk hd hR FUEL _ _ h0)
def s_Model_remember_11_b (rec11 : Int32 → LH → Option (LH)) (y1 : Int32) (σ : LH) : Option (LH) :=
  if 11310 ≤ y1 then (
   xl ((stI σ 570 46 ((σ.1 570 46) - 1)) : LH) fun σ3 =>
   s_Model_remember_50 σ3)
  else (
   if ib (y1 + 290) 11600 then (
   if ib y1 11600 then (
   xl ((stI σ 590 (Int32.toNatClampNeg y1) (σ.1 590 (Int32.toNatClampNeg (y1 + 290)))) : LH) fun σ12 =>
   xl ((y1 + 1) : Int32) fun x13 =>
   rec11 x13 σ12) else none) else none)
def s_Model_remember_11 : Nat → Int32 → LH → Option (LH)
  | 0, _, _ => none
  | n + 1, y1, σ => s_Model_remember_11_b (s_Model_remember_11 n) y1 σ
theorem bb_Model_remember_11 {G : XG} {l : Launch} {p : Program} {e : Env} {R : Room} {s : State} {m : MethodId} {args : Array Value} {below : List Frame} {meth : Method} {c : Code} (C : XC G 570 598 p s m args c prog_14_method_66_code 2 R_Model) (hr : meth.sig.returnType = none) (hk : meth.locks = false) {d : Nat} (hd : 1 ≤ d + 1) (hR : xroom R (d + 1)) {rec11 : Int32 → LH → Option (LH)} {σ' : LH} (hrec11 : ∀ (y1 : Int32) (σ : LH), rec11 y1 σ = some σ' → XJ G 570 598 p l e R s m args below meth c 2 (XQ G 570 598 below args s none σ') 0 0 11 [(0, .ref (G.2.2.1 + 570)), (1, .int y1)] [] σ) {y1 : Int32} {σ : LH} (h0 : s_Model_remember_11_b rec11 y1 σ = some σ') : XJ G 570 598 p l e R s m args below meth c 2 (XQ G 570 598 below args s none σ') 0 0 11 [(0, .ref (G.2.2.1 + 570)), (1, .int y1)] [] σ := by
  replace h0 := (show _ = _ from h0)
  unfold s_Model_remember_11_b at h0
  refine x_iload_n C d_Model_remember_11 1 rfl ?_
  refine x_sipush (v := 11310) C d_Model_remember_12 (by decide) ?_
  refine x_icmp_ge C 40 d_Model_remember_15 (by decide) (fun q2 => ?_) (fun q2 => ?_)
  · replace h0 := xit q2 h0
    refine x_aload_n C d_Model_remember_40 0 rfl ?_
    refine x_dup C d_Model_remember_41 rfl ?_
    refine x_getI (y := 0) C fg_Model_314 k_570 rfl d_Model_remember_42 ?_
    refine x_iconst (v := 1) C d_Model_remember_45 (by decide) ?_
    refine x_isub C d_Model_remember_46 ?_
    refine x_putI (y := 0) C fp_Model_314 k_570 rfl rfl rfl d_Model_remember_47 ?_
    obtain ⟨σ3, eσ3, h0⟩ := xlet h0
    refine x_sig C eσ3 ?_
    exact x_lv C [0] rfl (b_Model_remember_50 C hr hk hd hR h0)
  · replace h0 := xif q2 h0
    refine x_aload_n C d_Model_remember_18 0 rfl ?_
    refine x_getA (y := 590) C fg_Model_90 k_570 rfl d_Model_remember_19 ?_
    refine x_iload_n C d_Model_remember_22 1 rfl ?_
    refine x_aload_n C d_Model_remember_23 0 rfl ?_
    refine x_getA (y := 590) C fg_Model_90 k_570 rfl d_Model_remember_24 ?_
    refine x_iload_n C d_Model_remember_27 1 rfl ?_
    refine x_sipush (v := 290) C d_Model_remember_28 (by decide) ?_
    refine x_iadd C d_Model_remember_31 ?_
    obtain ⟨g10, h0⟩ := xgo h0
    refine x_iald C k_590 (ib_in g10) d_Model_remember_32 ?_
    obtain ⟨g11, h0⟩ := xgo h0
    refine x_iast C k_590 (ib_in g11) d_Model_remember_33 ?_
    obtain ⟨σ12, eσ12, h0⟩ := xlet h0
    refine x_sig C eσ12 ?_
    obtain ⟨x13, ex13, h0⟩ := xlet h0
    refine x_iinc (lv' := [(1, .int x13), (0, .ref (G.2.2.1 + 570))]) C d_Model_remember_34 1 rfl ex13 (by decide) rfl ?_
    refine x_goto C 11 d_Model_remember_37 (by decide) ?_
    exact x_lv C [1, 0] rfl (hrec11 _ _ h0)
theorem b_Model_remember_11 {G : XG} {l : Launch} {p : Program} {e : Env} {R : Room} {s : State} {m : MethodId} {args : Array Value} {below : List Frame} {meth : Method} {c : Code} (C : XC G 570 598 p s m args c prog_14_method_66_code 2 R_Model) (hr : meth.sig.returnType = none) (hk : meth.locks = false) {d : Nat} (hd : 1 ≤ d + 1) (hR : xroom R (d + 1)) {σ' : LH} : ∀ (n : Nat) (y1 : Int32) (σ : LH), s_Model_remember_11 n y1 σ = some σ' → XJ G 570 598 p l e R s m args below meth c 2 (XQ G 570 598 below args s none σ') 0 0 11 [(0, .ref (G.2.2.1 + 570)), (1, .int y1)] [] σ := by
  intro n
  induction n with
  | zero => intro y1 σ h0; cases h0
  | succ n ih => intro y1 σ h0; exact bb_Model_remember_11 C hr hk hd hR ih h0
def s_Model_remember (σ : LH) : Option (LH) :=
  if (σ.1 570 46) = 40 then (
   s_Model_remember_11 FUEL 0 σ)
  else (
   s_Model_remember_50 σ)
theorem c_Model_remember {G : XG} {l : Launch} {d : Nat} (hd : 1 ≤ d) {σ σ' : LH} (h0 : s_Model_remember σ = some σ') : xM G 570 598 l y_Model_remember prog_14_method_66_code 2 none d [.ref (G.2.2.1 + 570)] σ none σ' := by
  obtain ⟨d, rfl⟩ : ∃ q, d = q + 1 := ⟨d - 1, by omega⟩
  refine x_met R_Model rfl (by decide +kernel) (Nat.le_of_ble_eq_true rfl) fun p e s m below meth c C hr hk hR => ?_
  refine x_lv (lv' := [(0, .ref (G.2.2.1 + 570))]) C [0] rfl ?_
  generalize xrm (d + 1) = R at hR ⊢
  unfold s_Model_remember at h0
  refine x_aload_n C d_Model_remember_0 0 rfl ?_
  refine x_getI (y := 0) C fg_Model_314 k_570 rfl d_Model_remember_1 ?_
  refine x_bipush (v := 40) C d_Model_remember_4 (by decide) ?_
  refine x_icmp_ne C 50 d_Model_remember_6 (by decide) (fun q1 => ?_) (fun q1 => ?_)
  · replace h0 := xif q1 h0
    exact x_lv C [0] rfl (b_Model_remember_50 C hr hk hd hR h0)
  · replace h0 := xit q1 h0
    refine x_iconst (v := 0) C d_Model_remember_9 (by decide) ?_
    refine x_istore_n (lv' := [(1, .int 0), (0, .ref (G.2.2.1 + 570))]) C d_Model_remember_10 rfl (by decide) rfl ?_
    exact x_lv C [1, 0] rfl (b_Model_remember_11 C hr hk hd hR FUEL _ _ h0)
-- LostPlacesModel.left()I
theorem d_Model_left_0 : decode prog_14_method_67_code 0 = .ok (.aload_n 0, 1) := by decide +kernel
theorem d_Model_left_1 : decode prog_14_method_67_code 1 = .ok (.getfield 55, 3) := by decide +kernel
theorem d_Model_left_4 : decode prog_14_method_67_code 4 = .ok (.iconst 1, 1) := by decide +kernel
theorem d_Model_left_5 : decode prog_14_method_67_code 5 = .ok (.iaload, 1) := by decide +kernel
theorem d_Model_left_6 : decode prog_14_method_67_code 6 = .ok (.aload_n 0, 1) := by decide +kernel
theorem d_Model_left_7 : decode prog_14_method_67_code 7 = .ok (.getfield 61, 3) := by decide +kernel
theorem d_Model_left_10 : decode prog_14_method_67_code 10 = .ok (.bipush 48, 2) := by decide +kernel
theorem d_Model_left_12 : decode prog_14_method_67_code 12 = .ok (.iaload, 1) := by decide +kernel
theorem d_Model_left_13 : decode prog_14_method_67_code 13 = .ok (.isub, 1) := by decide +kernel
theorem d_Model_left_14 : decode prog_14_method_67_code 14 = .ok (.ireturn, 1) := by decide +kernel
def s_Model_left (σ : LH) : Option (Int32 × LH) :=
  if ib 1 2 then (
  if ib 48 290 then (
  some (((σ.1 581 (Int32.toNatClampNeg 1)) - (σ.1 583 (Int32.toNatClampNeg 48))), σ)) else none) else none
theorem c_Model_left {G : XG} {l : Launch} {d : Nat} (hd : 1 ≤ d) {σ σ' : LH} {r : Int32} (h0 : s_Model_left σ = some (r, σ')) : xM G 570 598 l y_Model_left prog_14_method_67_code 1 (some .int) d [.ref (G.2.2.1 + 570)] σ (some (.int r)) σ' := by
  obtain ⟨d, rfl⟩ : ∃ q, d = q + 1 := ⟨d - 1, by omega⟩
  refine x_met R_Model rfl (by decide +kernel) (Nat.le_of_ble_eq_true rfl) fun p e s m below meth c C hr hk hR => ?_
  refine x_lv (lv' := [(0, .ref (G.2.2.1 + 570))]) C [0] rfl ?_
  generalize xrm (d + 1) = R at hR ⊢
  unfold s_Model_left at h0
  refine x_aload_n C d_Model_left_0 0 rfl ?_
  refine x_getA (y := 581) C fg_Model_55 k_570 rfl d_Model_left_1 ?_
  refine x_iconst (v := 1) C d_Model_left_4 (by decide) ?_
  obtain ⟨g1, h0⟩ := xgo h0
  refine x_iald C k_581 (ib_in g1) d_Model_left_5 ?_
  refine x_aload_n C d_Model_left_6 0 rfl ?_
  refine x_getA (y := 583) C fg_Model_61 k_570 rfl d_Model_left_7 ?_
  refine x_bipush (v := 48) C d_Model_left_10 (by decide) ?_
  obtain ⟨g2, h0⟩ := xgo h0
  refine x_iald C k_583 (ib_in g2) d_Model_left_12 ?_
  refine x_isub C d_Model_left_13 ?_
  exact x_iret C hr hk h0 d_Model_left_14
-- LostPlacesModel.isOpen()Z
theorem d_Model_isOpen_0 : decode prog_14_method_68_code 0 = .ok (.aload_n 0, 1) := by decide +kernel
theorem d_Model_isOpen_1 : decode prog_14_method_68_code 1 = .ok (.getfield 305, 3) := by decide +kernel
theorem d_Model_isOpen_4 : decode prog_14_method_68_code 4 = .ok (.ifCond .le 14, 3) := by decide +kernel
theorem d_Model_isOpen_7 : decode prog_14_method_68_code 7 = .ok (.aload_n 0, 1) := by decide +kernel
theorem d_Model_isOpen_8 : decode prog_14_method_68_code 8 = .ok (.invokevirtual 423, 3) := by decide +kernel
theorem d_Model_isOpen_11 : decode prog_14_method_68_code 11 = .ok (.ifCond .le 7, 3) := by decide +kernel
theorem d_Model_isOpen_14 : decode prog_14_method_68_code 14 = .ok (.iconst 1, 1) := by decide +kernel
theorem d_Model_isOpen_15 : decode prog_14_method_68_code 15 = .ok (.goto 4, 3) := by decide +kernel
theorem d_Model_isOpen_18 : decode prog_14_method_68_code 18 = .ok (.iconst 0, 1) := by decide +kernel
theorem d_Model_isOpen_19 : decode prog_14_method_68_code 19 = .ok (.ireturn, 1) := by decide +kernel
def s_Model_isOpen_19 (z0 : Int32) (σ : LH) : Option (Int32 × LH) :=
  if zb z0 then (
  some (z0, σ)) else none
theorem b_Model_isOpen_19 {G : XG} {l : Launch} {p : Program} {e : Env} {R : Room} {s : State} {m : MethodId} {args : Array Value} {below : List Frame} {meth : Method} {c : Code} (C : XC G 570 598 p s m args c prog_14_method_68_code 1 R_Model) (hr : meth.sig.returnType = (some .boolean)) (hk : meth.locks = false) {d : Nat} (hd : 2 ≤ d + 1) (hR : xroom R (d + 1)) {σ' : LH} {r : Int32} {z0 : Int32} {σ : LH} (h0 : s_Model_isOpen_19 z0 σ = some (r, σ')) : XJ G 570 598 p l e R s m args below meth c 1 (XQ G 570 598 below args s (some (.int r)) σ') 0 0 19 [] [.int z0] σ := by
  replace h0 := (show _ = _ from h0)
  unfold s_Model_isOpen_19 at h0
  obtain ⟨g2, h0⟩ := xgo h0
  exact x_zret C hr hk g2 h0 d_Model_isOpen_19
def s_Model_isOpen_18 (σ : LH) : Option (Int32 × LH) :=
  s_Model_isOpen_19 0 σ
theorem b_Model_isOpen_18 {G : XG} {l : Launch} {p : Program} {e : Env} {R : Room} {s : State} {m : MethodId} {args : Array Value} {below : List Frame} {meth : Method} {c : Code} (C : XC G 570 598 p s m args c prog_14_method_68_code 1 R_Model) (hr : meth.sig.returnType = (some .boolean)) (hk : meth.locks = false) {d : Nat} (hd : 2 ≤ d + 1) (hR : xroom R (d + 1)) {σ' : LH} {r : Int32} {σ : LH} (h0 : s_Model_isOpen_18 σ = some (r, σ')) : XJ G 570 598 p l e R s m args below meth c 1 (XQ G 570 598 below args s (some (.int r)) σ') 0 0 18 [] [] σ := by
  replace h0 := (show _ = _ from h0)
  unfold s_Model_isOpen_18 at h0
  refine x_iconst (v := 0) C d_Model_isOpen_18 (by decide) ?_
  exact x_lv C [] rfl (b_Model_isOpen_19 C hr hk hd hR h0)
def s_Model_isOpen (σ : LH) : Option (Int32 × LH) :=
  if (σ.1 570 27) ≤ 0 then (
   s_Model_isOpen_18 σ)
  else (
   xb2 (s_Model_left σ) fun r4 σ5 =>
   if r4 ≤ 0 then (
    s_Model_isOpen_18 σ5)
   else (
    s_Model_isOpen_19 1 σ5))
theorem c_Model_isOpen {G : XG} {l : Launch} {d : Nat} (hd : 2 ≤ d) {σ σ' : LH} {r : Int32} (h0 : s_Model_isOpen σ = some (r, σ')) : xM G 570 598 l y_Model_isOpen prog_14_method_68_code 1 (some .boolean) d [.ref (G.2.2.1 + 570)] σ (some (.int r)) σ' := by
  obtain ⟨d, rfl⟩ : ∃ q, d = q + 1 := ⟨d - 1, by omega⟩
  refine x_met R_Model rfl (by decide +kernel) (Nat.le_of_ble_eq_true rfl) fun p e s m below meth c C hr hk hR => ?_
  refine x_lv (lv' := [(0, .ref (G.2.2.1 + 570))]) C [0] rfl ?_
  generalize xrm (d + 1) = R at hR ⊢
  unfold s_Model_isOpen at h0
  refine x_aload_n C d_Model_isOpen_0 0 rfl ?_
  refine x_getI (y := 0) C fg_Model_305 k_570 rfl d_Model_isOpen_1 ?_
  refine x_if_le C 18 d_Model_isOpen_4 (by decide) (fun q1 => ?_) (fun q1 => ?_)
  · replace h0 := xit q1 h0
    exact x_lv C [] rfl (b_Model_isOpen_18 C hr hk hd hR h0)
  · replace h0 := xif q1 h0
    refine x_aload_n C d_Model_isOpen_7 0 rfl ?_
    obtain ⟨r4, σ5, k3, h0⟩ := xbind2 h0
    refine x_callVi C hR (c_Model_left (d := d) (by omega) k3) cw_Model_423 k_570 rfl rfl rfl (Nat.le_of_ble_eq_true rfl) ⟨Nat.zero_le _, Nat.zero_le _⟩ d_Model_isOpen_8 ?_
    refine x_if_le C 18 d_Model_isOpen_11 (by decide) (fun q6 => ?_) (fun q6 => ?_)
    · replace h0 := xit q6 h0
      exact x_lv C [] rfl (b_Model_isOpen_18 C hr hk hd hR h0)
    · replace h0 := xif q6 h0
      refine x_iconst (v := 1) C d_Model_isOpen_14 (by decide) ?_
      refine x_goto C 19 d_Model_isOpen_15 (by decide) ?_
      exact x_lv C [] rfl (b_Model_isOpen_19 C hr hk hd hR h0)
-- LostPlacesModel.up(II)I
theorem d_Model_up_0 : decode prog_14_method_69_code 0 = .ok (.aload_n 0, 1) := by decide +kernel
theorem d_Model_up_1 : decode prog_14_method_69_code 1 = .ok (.iconst 0, 1) := by decide +kernel
theorem d_Model_up_2 : decode prog_14_method_69_code 2 = .ok (.putfield 114, 3) := by decide +kernel
theorem d_Model_up_5 : decode prog_14_method_69_code 5 = .ok (.aload_n 0, 1) := by decide +kernel
theorem d_Model_up_6 : decode prog_14_method_69_code 6 = .ok (.iload_n 1, 1) := by decide +kernel
theorem d_Model_up_7 : decode prog_14_method_69_code 7 = .ok (.invokevirtual 412, 3) := by decide +kernel
theorem d_Model_up_10 : decode prog_14_method_69_code 10 = .ok (.ifCond .eq 33, 3) := by decide +kernel
theorem d_Model_up_13 : decode prog_14_method_69_code 13 = .ok (.aload_n 0, 1) := by decide +kernel
theorem d_Model_up_14 : decode prog_14_method_69_code 14 = .ok (.getfield 61, 3) := by decide +kernel
theorem d_Model_up_17 : decode prog_14_method_69_code 17 = .ok (.iload_n 1, 1) := by decide +kernel
theorem d_Model_up_18 : decode prog_14_method_69_code 18 = .ok (.invokestatic 361, 3) := by decide +kernel
theorem d_Model_up_21 : decode prog_14_method_69_code 21 = .ok (.ifCond .eq 22, 3) := by decide +kernel
theorem d_Model_up_24 : decode prog_14_method_69_code 24 = .ok (.iload_n 2, 1) := by decide +kernel
theorem d_Model_up_25 : decode prog_14_method_69_code 25 = .ok (.i2l, 1) := by decide +kernel
theorem d_Model_up_26 : decode prog_14_method_69_code 26 = .ok (.lconst 1, 1) := by decide +kernel
theorem d_Model_up_27 : decode prog_14_method_69_code 27 = .ok (.ldc2_w 426, 3) := by decide +kernel
theorem d_Model_up_30 : decode prog_14_method_69_code 30 = .ok (.invokestatic 235, 3) := by decide +kernel
theorem d_Model_up_33 : decode prog_14_method_69_code 33 = .ok (.ifCond .eq 10, 3) := by decide +kernel
theorem d_Model_up_36 : decode prog_14_method_69_code 36 = .ok (.aload_n 0, 1) := by decide +kernel
theorem d_Model_up_37 : decode prog_14_method_69_code 37 = .ok (.invokevirtual 428, 3) := by decide +kernel
theorem d_Model_up_40 : decode prog_14_method_69_code 40 = .ok (.ifCond .ne 5, 3) := by decide +kernel
theorem d_Model_up_43 : decode prog_14_method_69_code 43 = .ok (.iconst (-1), 1) := by decide +kernel
theorem d_Model_up_44 : decode prog_14_method_69_code 44 = .ok (.ireturn, 1) := by decide +kernel
theorem d_Model_up_45 : decode prog_14_method_69_code 45 = .ok (.aload_n 0, 1) := by decide +kernel
theorem d_Model_up_46 : decode prog_14_method_69_code 46 = .ok (.invokevirtual 431, 3) := by decide +kernel
theorem d_Model_up_49 : decode prog_14_method_69_code 49 = .ok (.aload_n 0, 1) := by decide +kernel
theorem d_Model_up_50 : decode prog_14_method_69_code 50 = .ok (.aload_n 0, 1) := by decide +kernel
theorem d_Model_up_51 : decode prog_14_method_69_code 51 = .ok (.getfield 61, 3) := by decide +kernel
theorem d_Model_up_54 : decode prog_14_method_69_code 54 = .ok (.iload_n 1, 1) := by decide +kernel
theorem d_Model_up_55 : decode prog_14_method_69_code 55 = .ok (.iload_n 2, 1) := by decide +kernel
theorem d_Model_up_56 : decode prog_14_method_69_code 56 = .ok (.iconst 1, 1) := by decide +kernel
theorem d_Model_up_57 : decode prog_14_method_69_code 57 = .ok (.invokevirtual 387, 3) := by decide +kernel
theorem d_Model_up_60 : decode prog_14_method_69_code 60 = .ok (.aload_n 0, 1) := by decide +kernel
theorem d_Model_up_61 : decode prog_14_method_69_code 61 = .ok (.getfield 61, 3) := by decide +kernel
theorem d_Model_up_64 : decode prog_14_method_69_code 64 = .ok (.iconst 4, 1) := by decide +kernel
theorem d_Model_up_65 : decode prog_14_method_69_code 65 = .ok (.iload_n 1, 1) := by decide +kernel
theorem d_Model_up_66 : decode prog_14_method_69_code 66 = .ok (.imul, 1) := by decide +kernel
theorem d_Model_up_67 : decode prog_14_method_69_code 67 = .ok (.iconst 1, 1) := by decide +kernel
theorem d_Model_up_68 : decode prog_14_method_69_code 68 = .ok (.iadd, 1) := by decide +kernel
theorem d_Model_up_69 : decode prog_14_method_69_code 69 = .ok (.iaload, 1) := by decide +kernel
theorem d_Model_up_70 : decode prog_14_method_69_code 70 = .ok (.ireturn, 1) := by decide +kernel
def s_Model_up_43 (p0 : Int32) (p1 : Int32) (σ : LH) : Option (Int32 × LH) :=
  some ((-1), σ)
theorem b_Model_up_43 {G : XG} {l : Launch} {p : Program} {e : Env} {R : Room} {s : State} {m : MethodId} {args : Array Value} {below : List Frame} {meth : Method} {c : Code} (C : XC G 570 598 p s m args c prog_14_method_69_code 3 R_Model) (hr : meth.sig.returnType = (some .int)) (hk : meth.locks = false) {d : Nat} (hd : 3 ≤ d + 1) (hR : xroom R (d + 1)) {p0 : Int32} {p1 : Int32} {σ' : LH} {r : Int32} {σ : LH} (h0 : s_Model_up_43 p0 p1 σ = some (r, σ')) : XJ G 570 598 p l e R s m args below meth c 3 (XQ G 570 598 below args s (some (.int r)) σ') 0 0 43 [] [] σ := by
  replace h0 := (show _ = _ from h0)
  unfold s_Model_up_43 at h0
  refine x_iconst (v := (-1)) C d_Model_up_43 (by decide) ?_
  exact x_iret C hr hk h0 d_Model_up_44
def s_Model_up (p0 : Int32) (p1 : Int32) (σ : LH) : Option (Int32 × LH) :=
  xl ((stI σ 570 0 0) : LH) fun σ1 =>
  xb2 (s_Model_isSitter p0 σ1) fun r3 σ4 =>
  if r3 = 0 then (
   s_Model_up_43 p0 p1 σ4)
  else (
   xb2 (s_Model_isHere 583 p0 σ4) fun r7 σ8 =>
   if r7 = 0 then (
    s_Model_up_43 p0 p1 σ8)
   else (
    xb2 (s_Model_isIn (Int32.toInt64 p1) 1 9 σ8) fun r11 σ12 =>
    if r11 = 0 then (
     s_Model_up_43 p0 p1 σ12)
    else (
     xb2 (s_Model_isOpen σ12) fun r15 σ16 =>
     if r15 = 0 then (
      s_Model_up_43 p0 p1 σ16)
     else (
      xb1 (s_Model_remember σ16) fun σ19 =>
      xb1 (s_Model_goesUp 583 p0 p1 1 σ19) fun σ21 =>
      if ib ((4 * p0) + 1) 290 then (
      some ((σ21.1 583 (Int32.toNatClampNeg ((4 * p0) + 1))), σ21)) else none))))
theorem c_Model_up {G : XG} {l : Launch} {d : Nat} (hd : 3 ≤ d) {p0 : Int32} {p1 : Int32} {σ σ' : LH} {r : Int32} (h0 : s_Model_up p0 p1 σ = some (r, σ')) : xM G 570 598 l y_Model_up prog_14_method_69_code 3 (some .int) d [.ref (G.2.2.1 + 570), .int p0, .int p1] σ (some (.int r)) σ' := by
  obtain ⟨d, rfl⟩ : ∃ q, d = q + 1 := ⟨d - 1, by omega⟩
  refine x_met R_Model rfl (by decide +kernel) (Nat.le_of_ble_eq_true rfl) fun p e s m below meth c C hr hk hR => ?_
  refine x_lv (lv' := [(0, .ref (G.2.2.1 + 570)), (1, .int p0), (2, .int p1)]) C [0, 1, 2] rfl ?_
  generalize xrm (d + 1) = R at hR ⊢
  unfold s_Model_up at h0
  refine x_aload_n C d_Model_up_0 0 rfl ?_
  refine x_iconst (v := 0) C d_Model_up_1 (by decide) ?_
  refine x_putI (y := 0) C fp_Model_114 k_570 rfl rfl rfl d_Model_up_2 ?_
  obtain ⟨σ1, eσ1, h0⟩ := xlet h0
  refine x_sig C eσ1 ?_
  refine x_aload_n C d_Model_up_5 0 rfl ?_
  refine x_iload_n C d_Model_up_6 1 rfl ?_
  obtain ⟨r3, σ4, k2, h0⟩ := xbind2 h0
  refine x_callVi C hR (c_Model_isSitter (d := d) (by omega) k2) cw_Model_412 k_570 rfl rfl rfl (Nat.le_of_ble_eq_true rfl) ⟨Nat.zero_le _, Nat.zero_le _⟩ d_Model_up_7 ?_
  refine x_if_eq C 43 d_Model_up_10 (by decide) (fun q5 => ?_) (fun q5 => ?_)
  · replace h0 := xit q5 h0
    exact x_lv C [] rfl (b_Model_up_43 C hr hk hd hR h0)
  · replace h0 := xif q5 h0
    refine x_aload_n C d_Model_up_13 0 rfl ?_
    refine x_getA (y := 583) C fg_Model_61 k_570 rfl d_Model_up_14 ?_
    refine x_iload_n C d_Model_up_17 1 rfl ?_
    obtain ⟨r7, σ8, k6, h0⟩ := xbind2 h0
    refine x_callSi C hR (c_Model_isHere (d := d) (by omega) k_583 k6) cw_Model_361 w_1905 rfl rfl (Nat.le_of_ble_eq_true rfl) ⟨Nat.zero_le _, Nat.zero_le _⟩ d_Model_up_18 ?_
    refine x_if_eq C 43 d_Model_up_21 (by decide) (fun q9 => ?_) (fun q9 => ?_)
    · replace h0 := xit q9 h0
      exact x_lv C [] rfl (b_Model_up_43 C hr hk hd hR h0)
    · replace h0 := xif q9 h0
      refine x_iload_n C d_Model_up_24 2 rfl ?_
      refine x_i2l C d_Model_up_25 ?_
      refine x_lconst (v := 1) C d_Model_up_26 (by decide) ?_
      refine x_ldc2 (v := 9) C w_1907 d_Model_up_27 ?_
      obtain ⟨r11, σ12, k10, h0⟩ := xbind2 h0
      refine x_callSi C hR (c_Model_isIn (d := d) (by omega) k10) cw_Model_235 w_1695 rfl rfl (Nat.le_of_ble_eq_true rfl) ⟨Nat.zero_le _, Nat.zero_le _⟩ d_Model_up_30 ?_
      refine x_if_eq C 43 d_Model_up_33 (by decide) (fun q13 => ?_) (fun q13 => ?_)
      · replace h0 := xit q13 h0
        exact x_lv C [] rfl (b_Model_up_43 C hr hk hd hR h0)
      · replace h0 := xif q13 h0
        refine x_aload_n C d_Model_up_36 0 rfl ?_
        obtain ⟨r15, σ16, k14, h0⟩ := xbind2 h0
        refine x_callVi C hR (c_Model_isOpen (d := d) (by omega) k14) cw_Model_428 k_570 rfl rfl rfl (Nat.le_of_ble_eq_true rfl) ⟨Nat.zero_le _, Nat.zero_le _⟩ d_Model_up_37 ?_
        refine x_if_ne C 45 d_Model_up_40 (by decide) (fun q17 => ?_) (fun q17 => ?_)
        · replace h0 := xif q17 h0
          refine x_aload_n C d_Model_up_45 0 rfl ?_
          obtain ⟨σ19, k18, h0⟩ := xbind1 h0
          refine x_callVv C hR (c_Model_remember (d := d) (by omega) k18) cw_Model_431 k_570 rfl rfl rfl (Nat.le_of_ble_eq_true rfl) ⟨Nat.zero_le _, Nat.zero_le _⟩ d_Model_up_46 ?_
          refine x_aload_n C d_Model_up_49 0 rfl ?_
          refine x_aload_n C d_Model_up_50 0 rfl ?_
          refine x_getA (y := 583) C fg_Model_61 k_570 rfl d_Model_up_51 ?_
          refine x_iload_n C d_Model_up_54 1 rfl ?_
          refine x_iload_n C d_Model_up_55 2 rfl ?_
          refine x_iconst (v := 1) C d_Model_up_56 (by decide) ?_
          obtain ⟨σ21, k20, h0⟩ := xbind1 h0
          refine x_callVv C hR (c_Model_goesUp (d := d) (by omega) k_583 k20) cw_Model_387 k_570 rfl rfl rfl (Nat.le_of_ble_eq_true rfl) ⟨Nat.zero_le _, Nat.zero_le _⟩ d_Model_up_57 ?_
          refine x_aload_n C d_Model_up_60 0 rfl ?_
          refine x_getA (y := 583) C fg_Model_61 k_570 rfl d_Model_up_61 ?_
          refine x_iconst (v := 4) C d_Model_up_64 (by decide) ?_
          refine x_iload_n C d_Model_up_65 1 rfl ?_
          refine x_imul C d_Model_up_66 ?_
          refine x_iconst (v := 1) C d_Model_up_67 (by decide) ?_
          refine x_iadd C d_Model_up_68 ?_
          obtain ⟨g22, h0⟩ := xgo h0
          refine x_iald C k_583 (ib_in g22) d_Model_up_69 ?_
          exact x_iret C hr hk h0 d_Model_up_70
        · replace h0 := xit q17 h0
          exact x_lv C [] rfl (b_Model_up_43 C hr hk hd hR h0)
-- LostPlacesModel.keeps(II)I
theorem d_Model_keeps_0 : decode prog_14_method_70_code 0 = .ok (.aload_n 0, 1) := by decide +kernel
theorem d_Model_keeps_1 : decode prog_14_method_70_code 1 = .ok (.iconst 0, 1) := by decide +kernel
theorem d_Model_keeps_2 : decode prog_14_method_70_code 2 = .ok (.putfield 114, 3) := by decide +kernel
theorem d_Model_keeps_5 : decode prog_14_method_70_code 5 = .ok (.aload_n 0, 1) := by decide +kernel
theorem d_Model_keeps_6 : decode prog_14_method_70_code 6 = .ok (.iload_n 1, 1) := by decide +kernel
theorem d_Model_keeps_7 : decode prog_14_method_70_code 7 = .ok (.invokevirtual 412, 3) := by decide +kernel
theorem d_Model_keeps_10 : decode prog_14_method_70_code 10 = .ok (.ifCond .eq 29, 3) := by decide +kernel
theorem d_Model_keeps_13 : decode prog_14_method_70_code 13 = .ok (.iload_n 2, 1) := by decide +kernel
theorem d_Model_keeps_14 : decode prog_14_method_70_code 14 = .ok (.i2l, 1) := by decide +kernel
theorem d_Model_keeps_15 : decode prog_14_method_70_code 15 = .ok (.lconst 0, 1) := by decide +kernel
theorem d_Model_keeps_16 : decode prog_14_method_70_code 16 = .ok (.ldc2_w 426, 3) := by decide +kernel
theorem d_Model_keeps_19 : decode prog_14_method_70_code 19 = .ok (.invokestatic 235, 3) := by decide +kernel
theorem d_Model_keeps_22 : decode prog_14_method_70_code 22 = .ok (.ifCond .eq 17, 3) := by decide +kernel
theorem d_Model_keeps_25 : decode prog_14_method_70_code 25 = .ok (.aload_n 0, 1) := by decide +kernel
theorem d_Model_keeps_26 : decode prog_14_method_70_code 26 = .ok (.getfield 61, 3) := by decide +kernel
theorem d_Model_keeps_29 : decode prog_14_method_70_code 29 = .ok (.iconst 4, 1) := by decide +kernel
theorem d_Model_keeps_30 : decode prog_14_method_70_code 30 = .ok (.iload_n 1, 1) := by decide +kernel
theorem d_Model_keeps_31 : decode prog_14_method_70_code 31 = .ok (.imul, 1) := by decide +kernel
theorem d_Model_keeps_32 : decode prog_14_method_70_code 32 = .ok (.iconst 2, 1) := by decide +kernel
theorem d_Model_keeps_33 : decode prog_14_method_70_code 33 = .ok (.iadd, 1) := by decide +kernel
theorem d_Model_keeps_34 : decode prog_14_method_70_code 34 = .ok (.iaload, 1) := by decide +kernel
theorem d_Model_keeps_35 : decode prog_14_method_70_code 35 = .ok (.iload_n 2, 1) := by decide +kernel
theorem d_Model_keeps_36 : decode prog_14_method_70_code 36 = .ok (.if_icmp .ne 5, 3) := by decide +kernel
theorem d_Model_keeps_39 : decode prog_14_method_70_code 39 = .ok (.iconst (-1), 1) := by decide +kernel
theorem d_Model_keeps_40 : decode prog_14_method_70_code 40 = .ok (.ireturn, 1) := by decide +kernel
theorem d_Model_keeps_41 : decode prog_14_method_70_code 41 = .ok (.aload_n 0, 1) := by decide +kernel
theorem d_Model_keeps_42 : decode prog_14_method_70_code 42 = .ok (.invokevirtual 431, 3) := by decide +kernel
theorem d_Model_keeps_45 : decode prog_14_method_70_code 45 = .ok (.aload_n 0, 1) := by decide +kernel
theorem d_Model_keeps_46 : decode prog_14_method_70_code 46 = .ok (.getfield 61, 3) := by decide +kernel
theorem d_Model_keeps_49 : decode prog_14_method_70_code 49 = .ok (.iconst 4, 1) := by decide +kernel
theorem d_Model_keeps_50 : decode prog_14_method_70_code 50 = .ok (.iload_n 1, 1) := by decide +kernel
theorem d_Model_keeps_51 : decode prog_14_method_70_code 51 = .ok (.imul, 1) := by decide +kernel
theorem d_Model_keeps_52 : decode prog_14_method_70_code 52 = .ok (.iconst 2, 1) := by decide +kernel
theorem d_Model_keeps_53 : decode prog_14_method_70_code 53 = .ok (.iadd, 1) := by decide +kernel
theorem d_Model_keeps_54 : decode prog_14_method_70_code 54 = .ok (.iload_n 2, 1) := by decide +kernel
theorem d_Model_keeps_55 : decode prog_14_method_70_code 55 = .ok (.iastore, 1) := by decide +kernel
theorem d_Model_keeps_56 : decode prog_14_method_70_code 56 = .ok (.aload_n 0, 1) := by decide +kernel
theorem d_Model_keeps_57 : decode prog_14_method_70_code 57 = .ok (.getfield 314, 3) := by decide +kernel
theorem d_Model_keeps_60 : decode prog_14_method_70_code 60 = .ok (.ireturn, 1) := by decide +kernel
def s_Model_keeps_39 (p0 : Int32) (p1 : Int32) (σ : LH) : Option (Int32 × LH) :=
  some ((-1), σ)
theorem b_Model_keeps_39 {G : XG} {l : Launch} {p : Program} {e : Env} {R : Room} {s : State} {m : MethodId} {args : Array Value} {below : List Frame} {meth : Method} {c : Code} (C : XC G 570 598 p s m args c prog_14_method_70_code 3 R_Model) (hr : meth.sig.returnType = (some .int)) (hk : meth.locks = false) {d : Nat} (hd : 2 ≤ d + 1) (hR : xroom R (d + 1)) {p0 : Int32} {p1 : Int32} {σ' : LH} {r : Int32} {σ : LH} (h0 : s_Model_keeps_39 p0 p1 σ = some (r, σ')) : XJ G 570 598 p l e R s m args below meth c 3 (XQ G 570 598 below args s (some (.int r)) σ') 0 0 39 [] [] σ := by
  replace h0 := (show _ = _ from h0)
  unfold s_Model_keeps_39 at h0
  refine x_iconst (v := (-1)) C d_Model_keeps_39 (by decide) ?_
  exact x_iret C hr hk h0 d_Model_keeps_40
def s_Model_keeps (p0 : Int32) (p1 : Int32) (σ : LH) : Option (Int32 × LH) :=
  xl ((stI σ 570 0 0) : LH) fun σ1 =>
  xb2 (s_Model_isSitter p0 σ1) fun r3 σ4 =>
  if r3 = 0 then (
   s_Model_keeps_39 p0 p1 σ4)
  else (
   xb2 (s_Model_isIn (Int32.toInt64 p1) 0 9 σ4) fun r7 σ8 =>
   if r7 = 0 then (
    s_Model_keeps_39 p0 p1 σ8)
   else (
    if ib ((4 * p0) + 2) 290 then (
    if (σ8.1 583 (Int32.toNatClampNeg ((4 * p0) + 2))) = p1 then (
     s_Model_keeps_39 p0 p1 σ8)
    else (
     xb1 (s_Model_remember σ8) fun σ13 =>
     if ib ((4 * p0) + 2) 290 then (
     xl ((stI σ13 583 (Int32.toNatClampNeg ((4 * p0) + 2)) p1) : LH) fun σ15 =>
     some ((σ15.1 570 46), σ15)) else none)) else none))
theorem c_Model_keeps {G : XG} {l : Launch} {d : Nat} (hd : 2 ≤ d) {p0 : Int32} {p1 : Int32} {σ σ' : LH} {r : Int32} (h0 : s_Model_keeps p0 p1 σ = some (r, σ')) : xM G 570 598 l y_Model_keeps prog_14_method_70_code 3 (some .int) d [.ref (G.2.2.1 + 570), .int p0, .int p1] σ (some (.int r)) σ' := by
  obtain ⟨d, rfl⟩ : ∃ q, d = q + 1 := ⟨d - 1, by omega⟩
  refine x_met R_Model rfl (by decide +kernel) (Nat.le_of_ble_eq_true rfl) fun p e s m below meth c C hr hk hR => ?_
  refine x_lv (lv' := [(0, .ref (G.2.2.1 + 570)), (1, .int p0), (2, .int p1)]) C [0, 1, 2] rfl ?_
  generalize xrm (d + 1) = R at hR ⊢
  unfold s_Model_keeps at h0
  refine x_aload_n C d_Model_keeps_0 0 rfl ?_
  refine x_iconst (v := 0) C d_Model_keeps_1 (by decide) ?_
  refine x_putI (y := 0) C fp_Model_114 k_570 rfl rfl rfl d_Model_keeps_2 ?_
  obtain ⟨σ1, eσ1, h0⟩ := xlet h0
  refine x_sig C eσ1 ?_
  refine x_aload_n C d_Model_keeps_5 0 rfl ?_
  refine x_iload_n C d_Model_keeps_6 1 rfl ?_
  obtain ⟨r3, σ4, k2, h0⟩ := xbind2 h0
  refine x_callVi C hR (c_Model_isSitter (d := d) (by omega) k2) cw_Model_412 k_570 rfl rfl rfl (Nat.le_of_ble_eq_true rfl) ⟨Nat.zero_le _, Nat.zero_le _⟩ d_Model_keeps_7 ?_
  refine x_if_eq C 39 d_Model_keeps_10 (by decide) (fun q5 => ?_) (fun q5 => ?_)
  · replace h0 := xit q5 h0
    exact x_lv C [] rfl (b_Model_keeps_39 C hr hk hd hR h0)
  · replace h0 := xif q5 h0
    refine x_iload_n C d_Model_keeps_13 2 rfl ?_
    refine x_i2l C d_Model_keeps_14 ?_
    refine x_lconst (v := 0) C d_Model_keeps_15 (by decide) ?_
    refine x_ldc2 (v := 9) C w_1907 d_Model_keeps_16 ?_
    obtain ⟨r7, σ8, k6, h0⟩ := xbind2 h0
    refine x_callSi C hR (c_Model_isIn (d := d) (by omega) k6) cw_Model_235 w_1695 rfl rfl (Nat.le_of_ble_eq_true rfl) ⟨Nat.zero_le _, Nat.zero_le _⟩ d_Model_keeps_19 ?_
    refine x_if_eq C 39 d_Model_keeps_22 (by decide) (fun q9 => ?_) (fun q9 => ?_)
    · replace h0 := xit q9 h0
      exact x_lv C [] rfl (b_Model_keeps_39 C hr hk hd hR h0)
    · replace h0 := xif q9 h0
      refine x_aload_n C d_Model_keeps_25 0 rfl ?_
      refine x_getA (y := 583) C fg_Model_61 k_570 rfl d_Model_keeps_26 ?_
      refine x_iconst (v := 4) C d_Model_keeps_29 (by decide) ?_
      refine x_iload_n C d_Model_keeps_30 1 rfl ?_
      refine x_imul C d_Model_keeps_31 ?_
      refine x_iconst (v := 2) C d_Model_keeps_32 (by decide) ?_
      refine x_iadd C d_Model_keeps_33 ?_
      obtain ⟨g10, h0⟩ := xgo h0
      refine x_iald C k_583 (ib_in g10) d_Model_keeps_34 ?_
      refine x_iload_n C d_Model_keeps_35 2 rfl ?_
      refine x_icmp_ne C 41 d_Model_keeps_36 (by decide) (fun q11 => ?_) (fun q11 => ?_)
      · replace h0 := xif q11 h0
        refine x_aload_n C d_Model_keeps_41 0 rfl ?_
        obtain ⟨σ13, k12, h0⟩ := xbind1 h0
        refine x_callVv C hR (c_Model_remember (d := d) (by omega) k12) cw_Model_431 k_570 rfl rfl rfl (Nat.le_of_ble_eq_true rfl) ⟨Nat.zero_le _, Nat.zero_le _⟩ d_Model_keeps_42 ?_
        refine x_aload_n C d_Model_keeps_45 0 rfl ?_
        refine x_getA (y := 583) C fg_Model_61 k_570 rfl d_Model_keeps_46 ?_
        refine x_iconst (v := 4) C d_Model_keeps_49 (by decide) ?_
        refine x_iload_n C d_Model_keeps_50 1 rfl ?_
        refine x_imul C d_Model_keeps_51 ?_
        refine x_iconst (v := 2) C d_Model_keeps_52 (by decide) ?_
        refine x_iadd C d_Model_keeps_53 ?_
        refine x_iload_n C d_Model_keeps_54 2 rfl ?_
        obtain ⟨g14, h0⟩ := xgo h0
        refine x_iast C k_583 (ib_in g14) d_Model_keeps_55 ?_
        obtain ⟨σ15, eσ15, h0⟩ := xlet h0
        refine x_sig C eσ15 ?_
        refine x_aload_n C d_Model_keeps_56 0 rfl ?_
        refine x_getI (y := 0) C fg_Model_314 k_570 rfl d_Model_keeps_57 ?_
        exact x_iret C hr hk h0 d_Model_keeps_60
      · replace h0 := xit q11 h0
        exact x_lv C [] rfl (b_Model_keeps_39 C hr hk hd hR h0)
-- LostPlacesModel.swap(II)I
theorem d_Model_swap_0 : decode prog_14_method_71_code 0 = .ok (.aload_n 0, 1) := by decide +kernel
theorem d_Model_swap_1 : decode prog_14_method_71_code 1 = .ok (.iconst 0, 1) := by decide +kernel
theorem d_Model_swap_2 : decode prog_14_method_71_code 2 = .ok (.putfield 114, 3) := by decide +kernel
theorem d_Model_swap_5 : decode prog_14_method_71_code 5 = .ok (.aload_n 0, 1) := by decide +kernel
theorem d_Model_swap_6 : decode prog_14_method_71_code 6 = .ok (.iload_n 1, 1) := by decide +kernel
theorem d_Model_swap_7 : decode prog_14_method_71_code 7 = .ok (.invokevirtual 412, 3) := by decide +kernel
theorem d_Model_swap_10 : decode prog_14_method_71_code 10 = .ok (.ifCond .eq 57, 3) := by decide +kernel
theorem d_Model_swap_13 : decode prog_14_method_71_code 13 = .ok (.aload_n 0, 1) := by decide +kernel
theorem d_Model_swap_14 : decode prog_14_method_71_code 14 = .ok (.iload_n 2, 1) := by decide +kernel
theorem d_Model_swap_15 : decode prog_14_method_71_code 15 = .ok (.invokevirtual 412, 3) := by decide +kernel
theorem d_Model_swap_18 : decode prog_14_method_71_code 18 = .ok (.ifCond .eq 49, 3) := by decide +kernel
theorem d_Model_swap_21 : decode prog_14_method_71_code 21 = .ok (.iload_n 1, 1) := by decide +kernel
theorem d_Model_swap_22 : decode prog_14_method_71_code 22 = .ok (.iload_n 2, 1) := by decide +kernel
theorem d_Model_swap_23 : decode prog_14_method_71_code 23 = .ok (.if_icmp .eq 44, 3) := by decide +kernel
theorem d_Model_swap_26 : decode prog_14_method_71_code 26 = .ok (.aload_n 0, 1) := by decide +kernel
theorem d_Model_swap_27 : decode prog_14_method_71_code 27 = .ok (.getfield 61, 3) := by decide +kernel
theorem d_Model_swap_30 : decode prog_14_method_71_code 30 = .ok (.iload_n 1, 1) := by decide +kernel
theorem d_Model_swap_31 : decode prog_14_method_71_code 31 = .ok (.invokestatic 361, 3) := by decide +kernel
theorem d_Model_swap_34 : decode prog_14_method_71_code 34 = .ok (.ifCond .eq 33, 3) := by decide +kernel
theorem d_Model_swap_37 : decode prog_14_method_71_code 37 = .ok (.aload_n 0, 1) := by decide +kernel
theorem d_Model_swap_38 : decode prog_14_method_71_code 38 = .ok (.getfield 61, 3) := by decide +kernel
theorem d_Model_swap_41 : decode prog_14_method_71_code 41 = .ok (.iload_n 2, 1) := by decide +kernel
theorem d_Model_swap_42 : decode prog_14_method_71_code 42 = .ok (.invokestatic 361, 3) := by decide +kernel
theorem d_Model_swap_45 : decode prog_14_method_71_code 45 = .ok (.ifCond .eq 22, 3) := by decide +kernel
theorem d_Model_swap_48 : decode prog_14_method_71_code 48 = .ok (.aload_n 0, 1) := by decide +kernel
theorem d_Model_swap_49 : decode prog_14_method_71_code 49 = .ok (.getfield 61, 3) := by decide +kernel
theorem d_Model_swap_52 : decode prog_14_method_71_code 52 = .ok (.iconst 4, 1) := by decide +kernel
theorem d_Model_swap_53 : decode prog_14_method_71_code 53 = .ok (.iload_n 1, 1) := by decide +kernel
theorem d_Model_swap_54 : decode prog_14_method_71_code 54 = .ok (.imul, 1) := by decide +kernel
theorem d_Model_swap_55 : decode prog_14_method_71_code 55 = .ok (.iaload, 1) := by decide +kernel
theorem d_Model_swap_56 : decode prog_14_method_71_code 56 = .ok (.aload_n 0, 1) := by decide +kernel
theorem d_Model_swap_57 : decode prog_14_method_71_code 57 = .ok (.getfield 61, 3) := by decide +kernel
theorem d_Model_swap_60 : decode prog_14_method_71_code 60 = .ok (.iconst 4, 1) := by decide +kernel
theorem d_Model_swap_61 : decode prog_14_method_71_code 61 = .ok (.iload_n 2, 1) := by decide +kernel
theorem d_Model_swap_62 : decode prog_14_method_71_code 62 = .ok (.imul, 1) := by decide +kernel
theorem d_Model_swap_63 : decode prog_14_method_71_code 63 = .ok (.iaload, 1) := by decide +kernel
theorem d_Model_swap_64 : decode prog_14_method_71_code 64 = .ok (.if_icmp .ne 5, 3) := by decide +kernel
theorem d_Model_swap_67 : decode prog_14_method_71_code 67 = .ok (.iconst (-1), 1) := by decide +kernel
theorem d_Model_swap_68 : decode prog_14_method_71_code 68 = .ok (.ireturn, 1) := by decide +kernel
theorem d_Model_swap_69 : decode prog_14_method_71_code 69 = .ok (.aload_n 0, 1) := by decide +kernel
theorem d_Model_swap_70 : decode prog_14_method_71_code 70 = .ok (.invokevirtual 431, 3) := by decide +kernel
theorem d_Model_swap_73 : decode prog_14_method_71_code 73 = .ok (.aload_n 0, 1) := by decide +kernel
theorem d_Model_swap_74 : decode prog_14_method_71_code 74 = .ok (.getfield 61, 3) := by decide +kernel
theorem d_Model_swap_77 : decode prog_14_method_71_code 77 = .ok (.iconst 4, 1) := by decide +kernel
theorem d_Model_swap_78 : decode prog_14_method_71_code 78 = .ok (.iload_n 1, 1) := by decide +kernel
theorem d_Model_swap_79 : decode prog_14_method_71_code 79 = .ok (.imul, 1) := by decide +kernel
theorem d_Model_swap_80 : decode prog_14_method_71_code 80 = .ok (.iaload, 1) := by decide +kernel
theorem d_Model_swap_81 : decode prog_14_method_71_code 81 = .ok (.istore_n 3, 1) := by decide +kernel
theorem d_Model_swap_82 : decode prog_14_method_71_code 82 = .ok (.aload_n 0, 1) := by decide +kernel
theorem d_Model_swap_83 : decode prog_14_method_71_code 83 = .ok (.getfield 61, 3) := by decide +kernel
theorem d_Model_swap_86 : decode prog_14_method_71_code 86 = .ok (.iconst 4, 1) := by decide +kernel
theorem d_Model_swap_87 : decode prog_14_method_71_code 87 = .ok (.iload_n 1, 1) := by decide +kernel
theorem d_Model_swap_88 : decode prog_14_method_71_code 88 = .ok (.imul, 1) := by decide +kernel
theorem d_Model_swap_89 : decode prog_14_method_71_code 89 = .ok (.aload_n 0, 1) := by decide +kernel
theorem d_Model_swap_90 : decode prog_14_method_71_code 90 = .ok (.getfield 61, 3) := by decide +kernel
theorem d_Model_swap_93 : decode prog_14_method_71_code 93 = .ok (.iconst 4, 1) := by decide +kernel
theorem d_Model_swap_94 : decode prog_14_method_71_code 94 = .ok (.iload_n 2, 1) := by decide +kernel
theorem d_Model_swap_95 : decode prog_14_method_71_code 95 = .ok (.imul, 1) := by decide +kernel
theorem d_Model_swap_96 : decode prog_14_method_71_code 96 = .ok (.iaload, 1) := by decide +kernel
theorem d_Model_swap_97 : decode prog_14_method_71_code 97 = .ok (.iastore, 1) := by decide +kernel
theorem d_Model_swap_98 : decode prog_14_method_71_code 98 = .ok (.aload_n 0, 1) := by decide +kernel
theorem d_Model_swap_99 : decode prog_14_method_71_code 99 = .ok (.getfield 61, 3) := by decide +kernel
theorem d_Model_swap_102 : decode prog_14_method_71_code 102 = .ok (.iconst 4, 1) := by decide +kernel
theorem d_Model_swap_103 : decode prog_14_method_71_code 103 = .ok (.iload_n 2, 1) := by decide +kernel
theorem d_Model_swap_104 : decode prog_14_method_71_code 104 = .ok (.imul, 1) := by decide +kernel
theorem d_Model_swap_105 : decode prog_14_method_71_code 105 = .ok (.iload_n 3, 1) := by decide +kernel
theorem d_Model_swap_106 : decode prog_14_method_71_code 106 = .ok (.iastore, 1) := by decide +kernel
theorem d_Model_swap_107 : decode prog_14_method_71_code 107 = .ok (.aload_n 0, 1) := by decide +kernel
theorem d_Model_swap_108 : decode prog_14_method_71_code 108 = .ok (.getfield 314, 3) := by decide +kernel
theorem d_Model_swap_111 : decode prog_14_method_71_code 111 = .ok (.ireturn, 1) := by decide +kernel
def s_Model_swap_67 (p0 : Int32) (p1 : Int32) (σ : LH) : Option (Int32 × LH) :=
  some ((-1), σ)
theorem b_Model_swap_67 {G : XG} {l : Launch} {p : Program} {e : Env} {R : Room} {s : State} {m : MethodId} {args : Array Value} {below : List Frame} {meth : Method} {c : Code} (C : XC G 570 598 p s m args c prog_14_method_71_code 4 R_Model) (hr : meth.sig.returnType = (some .int)) (hk : meth.locks = false) {d : Nat} (hd : 2 ≤ d + 1) (hR : xroom R (d + 1)) {p0 : Int32} {p1 : Int32} {σ' : LH} {r : Int32} {σ : LH} (h0 : s_Model_swap_67 p0 p1 σ = some (r, σ')) : XJ G 570 598 p l e R s m args below meth c 4 (XQ G 570 598 below args s (some (.int r)) σ') 0 0 67 [] [] σ := by
  replace h0 := (show _ = _ from h0)
  unfold s_Model_swap_67 at h0
  refine x_iconst (v := (-1)) C d_Model_swap_67 (by decide) ?_
  exact x_iret C hr hk h0 d_Model_swap_68
def s_Model_swap (p0 : Int32) (p1 : Int32) (σ : LH) : Option (Int32 × LH) :=
  xl ((stI σ 570 0 0) : LH) fun σ1 =>
  xb2 (s_Model_isSitter p0 σ1) fun r3 σ4 =>
  if r3 = 0 then (
   s_Model_swap_67 p0 p1 σ4)
  else (
   xb2 (s_Model_isSitter p1 σ4) fun r7 σ8 =>
   if r7 = 0 then (
    s_Model_swap_67 p0 p1 σ8)
   else (
    if p0 = p1 then (
     s_Model_swap_67 p0 p1 σ8)
    else (
     xb2 (s_Model_isHere 583 p0 σ8) fun r12 σ13 =>
     if r12 = 0 then (
      s_Model_swap_67 p0 p1 σ13)
     else (
      xb2 (s_Model_isHere 583 p1 σ13) fun r16 σ17 =>
      if r16 = 0 then (
       s_Model_swap_67 p0 p1 σ17)
      else (
       if ib (4 * p0) 290 then (
       if ib (4 * p1) 290 then (
       if (σ17.1 583 (Int32.toNatClampNeg (4 * p0))) = (σ17.1 583 (Int32.toNatClampNeg (4 * p1))) then (
        s_Model_swap_67 p0 p1 σ17)
       else (
        xb1 (s_Model_remember σ17) fun σ23 =>
        if ib (4 * p0) 290 then (
        xl (((σ23.1 583 (Int32.toNatClampNeg (4 * p0)))) : Int32) fun x25 =>
        if ib (4 * p1) 290 then (
        if ib (4 * p0) 290 then (
        xl ((stI σ23 583 (Int32.toNatClampNeg (4 * p0)) (σ23.1 583 (Int32.toNatClampNeg (4 * p1)))) : LH) fun σ28 =>
        if ib (4 * p1) 290 then (
        xl ((stI σ28 583 (Int32.toNatClampNeg (4 * p1)) x25) : LH) fun σ30 =>
        some ((σ30.1 570 46), σ30)) else none) else none) else none) else none)) else none) else none)))))
theorem c_Model_swap {G : XG} {l : Launch} {d : Nat} (hd : 2 ≤ d) {p0 : Int32} {p1 : Int32} {σ σ' : LH} {r : Int32} (h0 : s_Model_swap p0 p1 σ = some (r, σ')) : xM G 570 598 l y_Model_swap prog_14_method_71_code 4 (some .int) d [.ref (G.2.2.1 + 570), .int p0, .int p1] σ (some (.int r)) σ' := by
  obtain ⟨d, rfl⟩ : ∃ q, d = q + 1 := ⟨d - 1, by omega⟩
  refine x_met R_Model rfl (by decide +kernel) (Nat.le_of_ble_eq_true rfl) fun p e s m below meth c C hr hk hR => ?_
  refine x_lv (lv' := [(0, .ref (G.2.2.1 + 570)), (1, .int p0), (2, .int p1)]) C [0, 1, 2] rfl ?_
  generalize xrm (d + 1) = R at hR ⊢
  unfold s_Model_swap at h0
  refine x_aload_n C d_Model_swap_0 0 rfl ?_
  refine x_iconst (v := 0) C d_Model_swap_1 (by decide) ?_
  refine x_putI (y := 0) C fp_Model_114 k_570 rfl rfl rfl d_Model_swap_2 ?_
  obtain ⟨σ1, eσ1, h0⟩ := xlet h0
  refine x_sig C eσ1 ?_
  refine x_aload_n C d_Model_swap_5 0 rfl ?_
  refine x_iload_n C d_Model_swap_6 1 rfl ?_
  obtain ⟨r3, σ4, k2, h0⟩ := xbind2 h0
  refine x_callVi C hR (c_Model_isSitter (d := d) (by omega) k2) cw_Model_412 k_570 rfl rfl rfl (Nat.le_of_ble_eq_true rfl) ⟨Nat.zero_le _, Nat.zero_le _⟩ d_Model_swap_7 ?_
  refine x_if_eq C 67 d_Model_swap_10 (by decide) (fun q5 => ?_) (fun q5 => ?_)
  · replace h0 := xit q5 h0
    exact x_lv C [] rfl (b_Model_swap_67 C hr hk hd hR h0)
  · replace h0 := xif q5 h0
    refine x_aload_n C d_Model_swap_13 0 rfl ?_
    refine x_iload_n C d_Model_swap_14 2 rfl ?_
    obtain ⟨r7, σ8, k6, h0⟩ := xbind2 h0
    refine x_callVi C hR (c_Model_isSitter (d := d) (by omega) k6) cw_Model_412 k_570 rfl rfl rfl (Nat.le_of_ble_eq_true rfl) ⟨Nat.zero_le _, Nat.zero_le _⟩ d_Model_swap_15 ?_
    refine x_if_eq C 67 d_Model_swap_18 (by decide) (fun q9 => ?_) (fun q9 => ?_)
    · replace h0 := xit q9 h0
      exact x_lv C [] rfl (b_Model_swap_67 C hr hk hd hR h0)
    · replace h0 := xif q9 h0
      refine x_iload_n C d_Model_swap_21 1 rfl ?_
      refine x_iload_n C d_Model_swap_22 2 rfl ?_
      refine x_icmp_eq C 67 d_Model_swap_23 (by decide) (fun q10 => ?_) (fun q10 => ?_)
      · replace h0 := xit q10 h0
        exact x_lv C [] rfl (b_Model_swap_67 C hr hk hd hR h0)
      · replace h0 := xif q10 h0
        refine x_aload_n C d_Model_swap_26 0 rfl ?_
        refine x_getA (y := 583) C fg_Model_61 k_570 rfl d_Model_swap_27 ?_
        refine x_iload_n C d_Model_swap_30 1 rfl ?_
        obtain ⟨r12, σ13, k11, h0⟩ := xbind2 h0
        refine x_callSi C hR (c_Model_isHere (d := d) (by omega) k_583 k11) cw_Model_361 w_1905 rfl rfl (Nat.le_of_ble_eq_true rfl) ⟨Nat.zero_le _, Nat.zero_le _⟩ d_Model_swap_31 ?_
        refine x_if_eq C 67 d_Model_swap_34 (by decide) (fun q14 => ?_) (fun q14 => ?_)
        · replace h0 := xit q14 h0
          exact x_lv C [] rfl (b_Model_swap_67 C hr hk hd hR h0)
        · replace h0 := xif q14 h0
          refine x_aload_n C d_Model_swap_37 0 rfl ?_
          refine x_getA (y := 583) C fg_Model_61 k_570 rfl d_Model_swap_38 ?_
          refine x_iload_n C d_Model_swap_41 2 rfl ?_
          obtain ⟨r16, σ17, k15, h0⟩ := xbind2 h0
          refine x_callSi C hR (c_Model_isHere (d := d) (by omega) k_583 k15) cw_Model_361 w_1905 rfl rfl (Nat.le_of_ble_eq_true rfl) ⟨Nat.zero_le _, Nat.zero_le _⟩ d_Model_swap_42 ?_
          refine x_if_eq C 67 d_Model_swap_45 (by decide) (fun q18 => ?_) (fun q18 => ?_)
          · replace h0 := xit q18 h0
            exact x_lv C [] rfl (b_Model_swap_67 C hr hk hd hR h0)
          · replace h0 := xif q18 h0
            refine x_aload_n C d_Model_swap_48 0 rfl ?_
            refine x_getA (y := 583) C fg_Model_61 k_570 rfl d_Model_swap_49 ?_
            refine x_iconst (v := 4) C d_Model_swap_52 (by decide) ?_
            refine x_iload_n C d_Model_swap_53 1 rfl ?_
            refine x_imul C d_Model_swap_54 ?_
            obtain ⟨g19, h0⟩ := xgo h0
            refine x_iald C k_583 (ib_in g19) d_Model_swap_55 ?_
            refine x_aload_n C d_Model_swap_56 0 rfl ?_
            refine x_getA (y := 583) C fg_Model_61 k_570 rfl d_Model_swap_57 ?_
            refine x_iconst (v := 4) C d_Model_swap_60 (by decide) ?_
            refine x_iload_n C d_Model_swap_61 2 rfl ?_
            refine x_imul C d_Model_swap_62 ?_
            obtain ⟨g20, h0⟩ := xgo h0
            refine x_iald C k_583 (ib_in g20) d_Model_swap_63 ?_
            refine x_icmp_ne C 69 d_Model_swap_64 (by decide) (fun q21 => ?_) (fun q21 => ?_)
            · replace h0 := xif q21 h0
              refine x_aload_n C d_Model_swap_69 0 rfl ?_
              obtain ⟨σ23, k22, h0⟩ := xbind1 h0
              refine x_callVv C hR (c_Model_remember (d := d) (by omega) k22) cw_Model_431 k_570 rfl rfl rfl (Nat.le_of_ble_eq_true rfl) ⟨Nat.zero_le _, Nat.zero_le _⟩ d_Model_swap_70 ?_
              refine x_aload_n C d_Model_swap_73 0 rfl ?_
              refine x_getA (y := 583) C fg_Model_61 k_570 rfl d_Model_swap_74 ?_
              refine x_iconst (v := 4) C d_Model_swap_77 (by decide) ?_
              refine x_iload_n C d_Model_swap_78 1 rfl ?_
              refine x_imul C d_Model_swap_79 ?_
              obtain ⟨g24, h0⟩ := xgo h0
              refine x_iald C k_583 (ib_in g24) d_Model_swap_80 ?_
              obtain ⟨x25, ex25, h0⟩ := xlet h0
              refine x_name C ex25 ?_
              refine x_istore_n (lv' := [(3, .int x25), (0, .ref (G.2.2.1 + 570)), (1, .int p0), (2, .int p1)]) C d_Model_swap_81 rfl (by decide) rfl ?_
              refine x_aload_n C d_Model_swap_82 1 rfl ?_
              refine x_getA (y := 583) C fg_Model_61 k_570 rfl d_Model_swap_83 ?_
              refine x_iconst (v := 4) C d_Model_swap_86 (by decide) ?_
              refine x_iload_n C d_Model_swap_87 2 rfl ?_
              refine x_imul C d_Model_swap_88 ?_
              refine x_aload_n C d_Model_swap_89 1 rfl ?_
              refine x_getA (y := 583) C fg_Model_61 k_570 rfl d_Model_swap_90 ?_
              refine x_iconst (v := 4) C d_Model_swap_93 (by decide) ?_
              refine x_iload_n C d_Model_swap_94 3 rfl ?_
              refine x_imul C d_Model_swap_95 ?_
              obtain ⟨g26, h0⟩ := xgo h0
              refine x_iald C k_583 (ib_in g26) d_Model_swap_96 ?_
              obtain ⟨g27, h0⟩ := xgo h0
              refine x_iast C k_583 (ib_in g27) d_Model_swap_97 ?_
              obtain ⟨σ28, eσ28, h0⟩ := xlet h0
              refine x_sig C eσ28 ?_
              refine x_aload_n C d_Model_swap_98 1 rfl ?_
              refine x_getA (y := 583) C fg_Model_61 k_570 rfl d_Model_swap_99 ?_
              refine x_iconst (v := 4) C d_Model_swap_102 (by decide) ?_
              refine x_iload_n C d_Model_swap_103 3 rfl ?_
              refine x_imul C d_Model_swap_104 ?_
              refine x_iload_n C d_Model_swap_105 0 rfl ?_
              obtain ⟨g29, h0⟩ := xgo h0
              refine x_iast C k_583 (ib_in g29) d_Model_swap_106 ?_
              obtain ⟨σ30, eσ30, h0⟩ := xlet h0
              refine x_sig C eσ30 ?_
              refine x_aload_n C d_Model_swap_107 1 rfl ?_
              refine x_getI (y := 0) C fg_Model_314 k_570 rfl d_Model_swap_108 ?_
              exact x_iret C hr hk h0 d_Model_swap_111
            · replace h0 := xit q21 h0
              exact x_lv C [] rfl (b_Model_swap_67 C hr hk hd hR h0)
-- LostPlacesModel.go(I)I
theorem d_Model_go_0 : decode prog_14_method_72_code 0 = .ok (.aload_n 0, 1) := by decide +kernel
theorem d_Model_go_1 : decode prog_14_method_72_code 1 = .ok (.iconst 0, 1) := by decide +kernel
theorem d_Model_go_2 : decode prog_14_method_72_code 2 = .ok (.putfield 114, 3) := by decide +kernel
theorem d_Model_go_5 : decode prog_14_method_72_code 5 = .ok (.aload_n 0, 1) := by decide +kernel
theorem d_Model_go_6 : decode prog_14_method_72_code 6 = .ok (.getfield 305, 3) := by decide +kernel
theorem d_Model_go_9 : decode prog_14_method_72_code 9 = .ok (.ifCond .eq 22, 3) := by decide +kernel
theorem d_Model_go_12 : decode prog_14_method_72_code 12 = .ok (.iload_n 1, 1) := by decide +kernel
theorem d_Model_go_13 : decode prog_14_method_72_code 13 = .ok (.i2l, 1) := by decide +kernel
theorem d_Model_go_14 : decode prog_14_method_72_code 14 = .ok (.lconst 1, 1) := by decide +kernel
theorem d_Model_go_15 : decode prog_14_method_72_code 15 = .ok (.bipush 60, 2) := by decide +kernel
theorem d_Model_go_17 : decode prog_14_method_72_code 17 = .ok (.aload_n 0, 1) := by decide +kernel
theorem d_Model_go_18 : decode prog_14_method_72_code 18 = .ok (.invokevirtual 423, 3) := by decide +kernel
theorem d_Model_go_21 : decode prog_14_method_72_code 21 = .ok (.invokestatic 324, 3) := by decide +kernel
theorem d_Model_go_24 : decode prog_14_method_72_code 24 = .ok (.i2l, 1) := by decide +kernel
theorem d_Model_go_25 : decode prog_14_method_72_code 25 = .ok (.invokestatic 235, 3) := by decide +kernel
theorem d_Model_go_28 : decode prog_14_method_72_code 28 = .ok (.ifCond .ne 5, 3) := by decide +kernel
theorem d_Model_go_31 : decode prog_14_method_72_code 31 = .ok (.iconst (-1), 1) := by decide +kernel
theorem d_Model_go_32 : decode prog_14_method_72_code 32 = .ok (.ireturn, 1) := by decide +kernel
theorem d_Model_go_33 : decode prog_14_method_72_code 33 = .ok (.iconst 0, 1) := by decide +kernel
theorem d_Model_go_34 : decode prog_14_method_72_code 34 = .ok (.istore_n 2, 1) := by decide +kernel
theorem d_Model_go_35 : decode prog_14_method_72_code 35 = .ok (.iload_n 2, 1) := by decide +kernel
theorem d_Model_go_36 : decode prog_14_method_72_code 36 = .ok (.iload_n 1, 1) := by decide +kernel
theorem d_Model_go_37 : decode prog_14_method_72_code 37 = .ok (.if_icmp .ge 21, 3) := by decide +kernel
theorem d_Model_go_40 : decode prog_14_method_72_code 40 = .ok (.aload_n 0, 1) := by decide +kernel
theorem d_Model_go_41 : decode prog_14_method_72_code 41 = .ok (.invokevirtual 431, 3) := by decide +kernel
theorem d_Model_go_44 : decode prog_14_method_72_code 44 = .ok (.aload_n 0, 1) := by decide +kernel
theorem d_Model_go_45 : decode prog_14_method_72_code 45 = .ok (.aload_n 0, 1) := by decide +kernel
theorem d_Model_go_46 : decode prog_14_method_72_code 46 = .ok (.getfield 61, 3) := by decide +kernel
theorem d_Model_go_49 : decode prog_14_method_72_code 49 = .ok (.invokevirtual 404, 3) := by decide +kernel
theorem d_Model_go_52 : decode prog_14_method_72_code 52 = .ok (.iinc 2 1, 3) := by decide +kernel
theorem d_Model_go_55 : decode prog_14_method_72_code 55 = .ok (.goto (-20), 3) := by decide +kernel
theorem d_Model_go_58 : decode prog_14_method_72_code 58 = .ok (.aload_n 0, 1) := by decide +kernel
theorem d_Model_go_59 : decode prog_14_method_72_code 59 = .ok (.getfield 61, 3) := by decide +kernel
theorem d_Model_go_62 : decode prog_14_method_72_code 62 = .ok (.bipush 48, 2) := by decide +kernel
theorem d_Model_go_64 : decode prog_14_method_72_code 64 = .ok (.iaload, 1) := by decide +kernel
theorem d_Model_go_65 : decode prog_14_method_72_code 65 = .ok (.ireturn, 1) := by decide +kernel
def s_Model_go_31 (p0 : Int32) (σ : LH) : Option (Int32 × LH) :=
  some ((-1), σ)
theorem b_Model_go_31 {G : XG} {l : Launch} {p : Program} {e : Env} {R : Room} {s : State} {m : MethodId} {args : Array Value} {below : List Frame} {meth : Method} {c : Code} (C : XC G 570 598 p s m args c prog_14_method_72_code 3 R_Model) (hr : meth.sig.returnType = (some .int)) (hk : meth.locks = false) {d : Nat} (hd : 124 ≤ d + 1) (hR : xroom R (d + 1)) {p0 : Int32} {σ' : LH} {r : Int32} {σ : LH} (h0 : s_Model_go_31 p0 σ = some (r, σ')) : XJ G 570 598 p l e R s m args below meth c 3 (XQ G 570 598 below args s (some (.int r)) σ') 0 0 31 [] [] σ := by
  replace h0 := (show _ = _ from h0)
  unfold s_Model_go_31 at h0
  refine x_iconst (v := (-1)) C d_Model_go_31 (by decide) ?_
  exact x_iret C hr hk h0 d_Model_go_32
def s_Model_go_35_b (p0 : Int32) (rec35 : Int32 → LH → Option (Int32 × LH)) (y2 : Int32) (σ : LH) : Option (Int32 × LH) :=
  if p0 ≤ y2 then (
   if ib 48 290 then (
   some ((σ.1 583 (Int32.toNatClampNeg 48)), σ)) else none)
  else (
   xb1 (s_Model_remember σ) fun σ13 =>
   xb1 (s_Model_goMinute 583 σ13) fun σ15 =>
   xl ((y2 + 1) : Int32) fun x16 =>
   rec35 x16 σ15)
def s_Model_go_35 (p0 : Int32) : Nat → Int32 → LH → Option (Int32 × LH)
  | 0, _, _ => none
  | n + 1, y2, σ => s_Model_go_35_b p0 (s_Model_go_35 p0 n) y2 σ
theorem bb_Model_go_35 {G : XG} {l : Launch} {p : Program} {e : Env} {R : Room} {s : State} {m : MethodId} {args : Array Value} {below : List Frame} {meth : Method} {c : Code} (C : XC G 570 598 p s m args c prog_14_method_72_code 3 R_Model) (hr : meth.sig.returnType = (some .int)) (hk : meth.locks = false) {d : Nat} (hd : 124 ≤ d + 1) (hR : xroom R (d + 1)) {p0 : Int32} {rec35 : Int32 → LH → Option (Int32 × LH)} {σ' : LH} {r : Int32} (hrec35 : ∀ (y2 : Int32) (σ : LH), rec35 y2 σ = some (r, σ') → XJ G 570 598 p l e R s m args below meth c 3 (XQ G 570 598 below args s (some (.int r)) σ') 0 0 35 [(0, .ref (G.2.2.1 + 570)), (1, .int p0), (2, .int y2)] [] σ) {y2 : Int32} {σ : LH} (h0 : s_Model_go_35_b p0 rec35 y2 σ = some (r, σ')) : XJ G 570 598 p l e R s m args below meth c 3 (XQ G 570 598 below args s (some (.int r)) σ') 0 0 35 [(0, .ref (G.2.2.1 + 570)), (1, .int p0), (2, .int y2)] [] σ := by
  replace h0 := (show _ = _ from h0)
  unfold s_Model_go_35_b at h0
  refine x_iload_n C d_Model_go_35 2 rfl ?_
  refine x_iload_n C d_Model_go_36 1 rfl ?_
  refine x_icmp_ge C 58 d_Model_go_37 (by decide) (fun q10 => ?_) (fun q10 => ?_)
  · replace h0 := xit q10 h0
    refine x_aload_n C d_Model_go_58 0 rfl ?_
    refine x_getA (y := 583) C fg_Model_61 k_570 rfl d_Model_go_59 ?_
    refine x_bipush (v := 48) C d_Model_go_62 (by decide) ?_
    obtain ⟨g11, h0⟩ := xgo h0
    refine x_iald C k_583 (ib_in g11) d_Model_go_64 ?_
    exact x_iret C hr hk h0 d_Model_go_65
  · replace h0 := xif q10 h0
    refine x_aload_n C d_Model_go_40 0 rfl ?_
    obtain ⟨σ13, k12, h0⟩ := xbind1 h0
    refine x_callVv C hR (c_Model_remember (d := d) (by omega) k12) cw_Model_431 k_570 rfl rfl rfl (Nat.le_of_ble_eq_true rfl) ⟨Nat.zero_le _, Nat.zero_le _⟩ d_Model_go_41 ?_
    refine x_aload_n C d_Model_go_44 0 rfl ?_
    refine x_aload_n C d_Model_go_45 0 rfl ?_
    refine x_getA (y := 583) C fg_Model_61 k_570 rfl d_Model_go_46 ?_
    obtain ⟨σ15, k14, h0⟩ := xbind1 h0
    refine x_callVv C hR (c_Model_goMinute (d := d) (by omega) k_583 k14) cw_Model_404 k_570 rfl rfl rfl (Nat.le_of_ble_eq_true rfl) ⟨Nat.zero_le _, Nat.zero_le _⟩ d_Model_go_49 ?_
    obtain ⟨x16, ex16, h0⟩ := xlet h0
    refine x_iinc (lv' := [(2, .int x16), (0, .ref (G.2.2.1 + 570)), (1, .int p0)]) C d_Model_go_52 2 rfl ex16 (by decide) rfl ?_
    refine x_goto C 35 d_Model_go_55 (by decide) ?_
    exact x_lv C [1, 2, 0] rfl (hrec35 _ _ h0)
theorem b_Model_go_35 {G : XG} {l : Launch} {p : Program} {e : Env} {R : Room} {s : State} {m : MethodId} {args : Array Value} {below : List Frame} {meth : Method} {c : Code} (C : XC G 570 598 p s m args c prog_14_method_72_code 3 R_Model) (hr : meth.sig.returnType = (some .int)) (hk : meth.locks = false) {d : Nat} (hd : 124 ≤ d + 1) (hR : xroom R (d + 1)) {p0 : Int32} {σ' : LH} {r : Int32} : ∀ (n : Nat) (y2 : Int32) (σ : LH), s_Model_go_35 p0 n y2 σ = some (r, σ') → XJ G 570 598 p l e R s m args below meth c 3 (XQ G 570 598 below args s (some (.int r)) σ') 0 0 35 [(0, .ref (G.2.2.1 + 570)), (1, .int p0), (2, .int y2)] [] σ := by
  intro n
  induction n with
  | zero => intro y2 σ h0; cases h0
  | succ n ih => intro y2 σ h0; exact bb_Model_go_35 C hr hk hd hR ih h0
def s_Model_go (p0 : Int32) (σ : LH) : Option (Int32 × LH) :=
  xl ((stI σ 570 0 0) : LH) fun σ1 =>
  if (σ1.1 570 27) = 0 then (
   s_Model_go_31 p0 σ1)
  else (
   xb2 (s_Model_left σ1) fun r4 σ5 =>
   xb2 (s_Model_isIn (Int32.toInt64 p0) 1 (Int32.toInt64 (if r4 < 60 then r4 else 60)) σ5) fun r7 σ8 =>
   if r7 = 0 then (
    s_Model_go_31 p0 σ8)
   else (
    s_Model_go_35 p0 FUEL 0 σ8))
theorem c_Model_go {G : XG} {l : Launch} {d : Nat} (hd : 124 ≤ d) {p0 : Int32} {σ σ' : LH} {r : Int32} (h0 : s_Model_go p0 σ = some (r, σ')) : xM G 570 598 l y_Model_go prog_14_method_72_code 3 (some .int) d [.ref (G.2.2.1 + 570), .int p0] σ (some (.int r)) σ' := by
  obtain ⟨d, rfl⟩ : ∃ q, d = q + 1 := ⟨d - 1, by omega⟩
  refine x_met R_Model rfl (by decide +kernel) (Nat.le_of_ble_eq_true rfl) fun p e s m below meth c C hr hk hR => ?_
  refine x_lv (lv' := [(0, .ref (G.2.2.1 + 570)), (1, .int p0)]) C [0, 1] rfl ?_
  generalize xrm (d + 1) = R at hR ⊢
  unfold s_Model_go at h0
  refine x_aload_n C d_Model_go_0 0 rfl ?_
  refine x_iconst (v := 0) C d_Model_go_1 (by decide) ?_
  refine x_putI (y := 0) C fp_Model_114 k_570 rfl rfl rfl d_Model_go_2 ?_
  obtain ⟨σ1, eσ1, h0⟩ := xlet h0
  refine x_sig C eσ1 ?_
  refine x_aload_n C d_Model_go_5 0 rfl ?_
  refine x_getI (y := 0) C fg_Model_305 k_570 rfl d_Model_go_6 ?_
  refine x_if_eq C 31 d_Model_go_9 (by decide) (fun q2 => ?_) (fun q2 => ?_)
  · replace h0 := xit q2 h0
    exact x_lv C [] rfl (b_Model_go_31 C hr hk hd hR h0)
  · replace h0 := xif q2 h0
    refine x_iload_n C d_Model_go_12 1 rfl ?_
    refine x_i2l C d_Model_go_13 ?_
    refine x_lconst (v := 1) C d_Model_go_14 (by decide) ?_
    refine x_bipush (v := 60) C d_Model_go_15 (by decide) ?_
    refine x_aload_n C d_Model_go_17 0 rfl ?_
    obtain ⟨r4, σ5, k3, h0⟩ := xbind2 h0
    refine x_callVi C hR (c_Model_left (d := d) (by omega) k3) cw_Model_423 k_570 rfl rfl rfl (Nat.le_of_ble_eq_true rfl) ⟨Nat.zero_le _, Nat.zero_le _⟩ d_Model_go_18 ?_
    refine x_mmin C (xroom1 hR) w_1890 w_716 w_123 w_717 (Nat.le_of_ble_eq_true rfl) ⟨Nat.zero_le _, Nat.zero_le _⟩ d_Model_go_21 ?_
    refine x_i2l C d_Model_go_24 ?_
    obtain ⟨r7, σ8, k6, h0⟩ := xbind2 h0
    refine x_callSi C hR (c_Model_isIn (d := d) (by omega) k6) cw_Model_235 w_1695 rfl rfl (Nat.le_of_ble_eq_true rfl) ⟨Nat.zero_le _, Nat.zero_le _⟩ d_Model_go_25 ?_
    refine x_if_ne C 33 d_Model_go_28 (by decide) (fun q9 => ?_) (fun q9 => ?_)
    · replace h0 := xif q9 h0
      refine x_iconst (v := 0) C d_Model_go_33 (by decide) ?_
      refine x_istore_n (lv' := [(2, .int 0), (0, .ref (G.2.2.1 + 570)), (1, .int p0)]) C d_Model_go_34 rfl (by decide) rfl ?_
      exact x_lv C [1, 2, 0] rfl (b_Model_go_35 C hr hk hd hR FUEL _ _ h0)
    · replace h0 := xit q9 h0
      exact x_lv C [] rfl (b_Model_go_31 C hr hk hd hR h0)
-- LostPlacesModel.draw(I)I
theorem d_Model_draw_0 : decode prog_14_method_73_code 0 = .ok (.aload_n 0, 1) := by decide +kernel
theorem d_Model_draw_1 : decode prog_14_method_73_code 1 = .ok (.aload_n 0, 1) := by decide +kernel
theorem d_Model_draw_2 : decode prog_14_method_73_code 2 = .ok (.getfield 434, 3) := by decide +kernel
theorem d_Model_draw_5 : decode prog_14_method_73_code 5 = .ok (.ldc2_w 438, 3) := by decide +kernel
theorem d_Model_draw_8 : decode prog_14_method_73_code 8 = .ok (.lmul, 1) := by decide +kernel
theorem d_Model_draw_9 : decode prog_14_method_73_code 9 = .ok (.ldc2_w 440, 3) := by decide +kernel
theorem d_Model_draw_12 : decode prog_14_method_73_code 12 = .ok (.ladd, 1) := by decide +kernel
theorem d_Model_draw_13 : decode prog_14_method_73_code 13 = .ok (.putfield 434, 3) := by decide +kernel
theorem d_Model_draw_16 : decode prog_14_method_73_code 16 = .ok (.aload_n 0, 1) := by decide +kernel
theorem d_Model_draw_17 : decode prog_14_method_73_code 17 = .ok (.getfield 434, 3) := by decide +kernel
theorem d_Model_draw_20 : decode prog_14_method_73_code 20 = .ok (.bipush 33, 2) := by decide +kernel
theorem d_Model_draw_22 : decode prog_14_method_73_code 22 = .ok (.lushr, 1) := by decide +kernel
theorem d_Model_draw_23 : decode prog_14_method_73_code 23 = .ok (.iload_n 1, 1) := by decide +kernel
theorem d_Model_draw_24 : decode prog_14_method_73_code 24 = .ok (.i2l, 1) := by decide +kernel
theorem d_Model_draw_25 : decode prog_14_method_73_code 25 = .ok (.lrem, 1) := by decide +kernel
theorem d_Model_draw_26 : decode prog_14_method_73_code 26 = .ok (.l2i, 1) := by decide +kernel
theorem d_Model_draw_27 : decode prog_14_method_73_code 27 = .ok (.ireturn, 1) := by decide +kernel
def s_Model_draw (p0 : Int32) (σ : LH) : Option (Int32 × LH) :=
  xl ((stJ σ 570 47 (((σ.2.1 570 47) * 6364136223846793005) + 1442695040888963407)) : LH) fun σ1 =>
  if ¬ (Int32.toInt64 p0) = 0 then (
  some ((Int64.toInt32 (((Int64.toUInt64 (σ1.2.1 570 47)) >>> ((Int32.toInt64 33).toUInt64 &&& Int64.toUInt64 63)).toInt64 - ((Int64.toUInt64 (σ1.2.1 570 47)) >>> ((Int32.toInt64 33).toUInt64 &&& Int64.toUInt64 63)).toInt64 / (Int32.toInt64 p0) * (Int32.toInt64 p0))), σ1)) else none
theorem c_Model_draw {G : XG} {l : Launch} {d : Nat} (hd : 1 ≤ d) {p0 : Int32} {σ σ' : LH} {r : Int32} (h0 : s_Model_draw p0 σ = some (r, σ')) : xM G 570 598 l y_Model_draw prog_14_method_73_code 2 (some .int) d [.ref (G.2.2.1 + 570), .int p0] σ (some (.int r)) σ' := by
  obtain ⟨d, rfl⟩ : ∃ q, d = q + 1 := ⟨d - 1, by omega⟩
  refine x_met R_Model rfl (by decide +kernel) (Nat.le_of_ble_eq_true rfl) fun p e s m below meth c C hr hk hR => ?_
  refine x_lv (lv' := [(0, .ref (G.2.2.1 + 570)), (1, .int p0)]) C [0, 1] rfl ?_
  generalize xrm (d + 1) = R at hR ⊢
  unfold s_Model_draw at h0
  refine x_aload_n C d_Model_draw_0 0 rfl ?_
  refine x_aload_n C d_Model_draw_1 0 rfl ?_
  refine x_getJ (y := 0) C fg_Model_434 k_570 rfl d_Model_draw_2 ?_
  refine x_ldc2 (v := 6364136223846793005) C w_1995 d_Model_draw_5 ?_
  refine x_lmul C d_Model_draw_8 ?_
  refine x_ldc2 (v := 1442695040888963407) C w_1996 d_Model_draw_9 ?_
  refine x_ladd C d_Model_draw_12 ?_
  refine x_putJ (y := 0) C fp_Model_434 k_570 rfl d_Model_draw_13 ?_
  obtain ⟨σ1, eσ1, h0⟩ := xlet h0
  refine x_sig C eσ1 ?_
  refine x_aload_n C d_Model_draw_16 0 rfl ?_
  refine x_getJ (y := 0) C fg_Model_434 k_570 rfl d_Model_draw_17 ?_
  refine x_bipush (v := 33) C d_Model_draw_20 (by decide) ?_
  refine x_lushr C d_Model_draw_22 ?_
  refine x_iload_n C d_Model_draw_23 1 rfl ?_
  refine x_i2l C d_Model_draw_24 ?_
  obtain ⟨g2, h0⟩ := xgo h0
  refine x_lrem C d_Model_draw_25 g2 ?_
  refine x_l2i C d_Model_draw_26 ?_
  exact x_iret C hr hk h0 d_Model_draw_27
-- LostPlacesModel.winter(IJ)I
theorem d_Model_winter_0 : decode prog_14_method_74_code 0 = .ok (.aload_n 0, 1) := by decide +kernel
theorem d_Model_winter_1 : decode prog_14_method_74_code 1 = .ok (.iconst 0, 1) := by decide +kernel
theorem d_Model_winter_2 : decode prog_14_method_74_code 2 = .ok (.putfield 114, 3) := by decide +kernel
theorem d_Model_winter_5 : decode prog_14_method_74_code 5 = .ok (.aload_n 0, 1) := by decide +kernel
theorem d_Model_winter_6 : decode prog_14_method_74_code 6 = .ok (.getfield 305, 3) := by decide +kernel
theorem d_Model_winter_9 : decode prog_14_method_74_code 9 = .ok (.ifCond .eq 22, 3) := by decide +kernel
theorem d_Model_winter_12 : decode prog_14_method_74_code 12 = .ok (.iload_n 1, 1) := by decide +kernel
theorem d_Model_winter_13 : decode prog_14_method_74_code 13 = .ok (.i2l, 1) := by decide +kernel
theorem d_Model_winter_14 : decode prog_14_method_74_code 14 = .ok (.lconst 1, 1) := by decide +kernel
theorem d_Model_winter_15 : decode prog_14_method_74_code 15 = .ok (.bipush 60, 2) := by decide +kernel
theorem d_Model_winter_17 : decode prog_14_method_74_code 17 = .ok (.aload_n 0, 1) := by decide +kernel
theorem d_Model_winter_18 : decode prog_14_method_74_code 18 = .ok (.invokevirtual 423, 3) := by decide +kernel
theorem d_Model_winter_21 : decode prog_14_method_74_code 21 = .ok (.invokestatic 324, 3) := by decide +kernel
theorem d_Model_winter_24 : decode prog_14_method_74_code 24 = .ok (.i2l, 1) := by decide +kernel
theorem d_Model_winter_25 : decode prog_14_method_74_code 25 = .ok (.invokestatic 235, 3) := by decide +kernel
theorem d_Model_winter_28 : decode prog_14_method_74_code 28 = .ok (.ifCond .ne 5, 3) := by decide +kernel
theorem d_Model_winter_31 : decode prog_14_method_74_code 31 = .ok (.iconst (-1), 1) := by decide +kernel
theorem d_Model_winter_32 : decode prog_14_method_74_code 32 = .ok (.ireturn, 1) := by decide +kernel
theorem d_Model_winter_33 : decode prog_14_method_74_code 33 = .ok (.aload_n 0, 1) := by decide +kernel
theorem d_Model_winter_34 : decode prog_14_method_74_code 34 = .ok (.lload_n 2, 1) := by decide +kernel
theorem d_Model_winter_35 : decode prog_14_method_74_code 35 = .ok (.putfield 434, 3) := by decide +kernel
theorem d_Model_winter_38 : decode prog_14_method_74_code 38 = .ok (.iconst 0, 1) := by decide +kernel
theorem d_Model_winter_39 : decode prog_14_method_74_code 39 = .ok (.istore 4, 2) := by decide +kernel
theorem d_Model_winter_41 : decode prog_14_method_74_code 41 = .ok (.iload 4, 2) := by decide +kernel
theorem d_Model_winter_43 : decode prog_14_method_74_code 43 = .ok (.iload_n 1, 1) := by decide +kernel
theorem d_Model_winter_44 : decode prog_14_method_74_code 44 = .ok (.if_icmp .ge 82, 3) := by decide +kernel
theorem d_Model_winter_47 : decode prog_14_method_74_code 47 = .ok (.aload_n 0, 1) := by decide +kernel
theorem d_Model_winter_48 : decode prog_14_method_74_code 48 = .ok (.invokevirtual 431, 3) := by decide +kernel
theorem d_Model_winter_51 : decode prog_14_method_74_code 51 = .ok (.iconst 0, 1) := by decide +kernel
theorem d_Model_winter_52 : decode prog_14_method_74_code 52 = .ok (.istore 5, 2) := by decide +kernel
theorem d_Model_winter_54 : decode prog_14_method_74_code 54 = .ok (.iload 5, 2) := by decide +kernel
theorem d_Model_winter_56 : decode prog_14_method_74_code 56 = .ok (.aload_n 0, 1) := by decide +kernel
theorem d_Model_winter_57 : decode prog_14_method_74_code 57 = .ok (.getfield 305, 3) := by decide +kernel
theorem d_Model_winter_60 : decode prog_14_method_74_code 60 = .ok (.if_icmp .ge 52, 3) := by decide +kernel
theorem d_Model_winter_63 : decode prog_14_method_74_code 63 = .ok (.aload_n 0, 1) := by decide +kernel
theorem d_Model_winter_64 : decode prog_14_method_74_code 64 = .ok (.getfield 61, 3) := by decide +kernel
theorem d_Model_winter_67 : decode prog_14_method_74_code 67 = .ok (.iload 5, 2) := by decide +kernel
theorem d_Model_winter_69 : decode prog_14_method_74_code 69 = .ok (.invokestatic 361, 3) := by decide +kernel
theorem d_Model_winter_72 : decode prog_14_method_74_code 72 = .ok (.ifCond .eq 34, 3) := by decide +kernel
theorem d_Model_winter_75 : decode prog_14_method_74_code 75 = .ok (.aload_n 0, 1) := by decide +kernel
theorem d_Model_winter_76 : decode prog_14_method_74_code 76 = .ok (.bipush 100, 2) := by decide +kernel
theorem d_Model_winter_78 : decode prog_14_method_74_code 78 = .ok (.invokevirtual 442, 3) := by decide +kernel
theorem d_Model_winter_81 : decode prog_14_method_74_code 81 = .ok (.aload_n 0, 1) := by decide +kernel
theorem d_Model_winter_82 : decode prog_14_method_74_code 82 = .ok (.getfield 419, 3) := by decide +kernel
theorem d_Model_winter_85 : decode prog_14_method_74_code 85 = .ok (.if_icmp .ge 21, 3) := by decide +kernel
theorem d_Model_winter_88 : decode prog_14_method_74_code 88 = .ok (.aload_n 0, 1) := by decide +kernel
theorem d_Model_winter_89 : decode prog_14_method_74_code 89 = .ok (.aload_n 0, 1) := by decide +kernel
theorem d_Model_winter_90 : decode prog_14_method_74_code 90 = .ok (.getfield 61, 3) := by decide +kernel
theorem d_Model_winter_93 : decode prog_14_method_74_code 93 = .ok (.iload 5, 2) := by decide +kernel
theorem d_Model_winter_95 : decode prog_14_method_74_code 95 = .ok (.iconst 1, 1) := by decide +kernel
theorem d_Model_winter_96 : decode prog_14_method_74_code 96 = .ok (.aload_n 0, 1) := by decide +kernel
theorem d_Model_winter_97 : decode prog_14_method_74_code 97 = .ok (.iconst 3, 1) := by decide +kernel
theorem d_Model_winter_98 : decode prog_14_method_74_code 98 = .ok (.invokevirtual 442, 3) := by decide +kernel
theorem d_Model_winter_101 : decode prog_14_method_74_code 101 = .ok (.iadd, 1) := by decide +kernel
theorem d_Model_winter_102 : decode prog_14_method_74_code 102 = .ok (.iconst 1, 1) := by decide +kernel
theorem d_Model_winter_103 : decode prog_14_method_74_code 103 = .ok (.invokevirtual 387, 3) := by decide +kernel
theorem d_Model_winter_106 : decode prog_14_method_74_code 106 = .ok (.iinc 5 1, 3) := by decide +kernel
theorem d_Model_winter_109 : decode prog_14_method_74_code 109 = .ok (.goto (-55), 3) := by decide +kernel
theorem d_Model_winter_112 : decode prog_14_method_74_code 112 = .ok (.aload_n 0, 1) := by decide +kernel
theorem d_Model_winter_113 : decode prog_14_method_74_code 113 = .ok (.aload_n 0, 1) := by decide +kernel
theorem d_Model_winter_114 : decode prog_14_method_74_code 114 = .ok (.getfield 61, 3) := by decide +kernel
theorem d_Model_winter_117 : decode prog_14_method_74_code 117 = .ok (.invokevirtual 404, 3) := by decide +kernel
theorem d_Model_winter_120 : decode prog_14_method_74_code 120 = .ok (.iinc 4 1, 3) := by decide +kernel
theorem d_Model_winter_123 : decode prog_14_method_74_code 123 = .ok (.goto (-82), 3) := by decide +kernel
theorem d_Model_winter_126 : decode prog_14_method_74_code 126 = .ok (.aload_n 0, 1) := by decide +kernel
theorem d_Model_winter_127 : decode prog_14_method_74_code 127 = .ok (.getfield 61, 3) := by decide +kernel
theorem d_Model_winter_130 : decode prog_14_method_74_code 130 = .ok (.bipush 48, 2) := by decide +kernel
theorem d_Model_winter_132 : decode prog_14_method_74_code 132 = .ok (.iaload, 1) := by decide +kernel
theorem d_Model_winter_133 : decode prog_14_method_74_code 133 = .ok (.ireturn, 1) := by decide +kernel
def s_Model_winter_31 (p0 : Int32) (p1 : Int64) (σ : LH) : Option (Int32 × LH) :=
  some ((-1), σ)
theorem b_Model_winter_31 {G : XG} {l : Launch} {p : Program} {e : Env} {R : Room} {s : State} {m : MethodId} {args : Array Value} {below : List Frame} {meth : Method} {c : Code} (C : XC G 570 598 p s m args c prog_14_method_74_code 6 R_Model) (hr : meth.sig.returnType = (some .int)) (hk : meth.locks = false) {d : Nat} (hd : 124 ≤ d + 1) (hR : xroom R (d + 1)) {p0 : Int32} {p1 : Int64} {σ' : LH} {r : Int32} {σ : LH} (h0 : s_Model_winter_31 p0 p1 σ = some (r, σ')) : XJ G 570 598 p l e R s m args below meth c 6 (XQ G 570 598 below args s (some (.int r)) σ') 0 0 31 [] [] σ := by
  replace h0 := (show _ = _ from h0)
  unfold s_Model_winter_31 at h0
  refine x_iconst (v := (-1)) C d_Model_winter_31 (by decide) ?_
  exact x_iret C hr hk h0 d_Model_winter_32
def s_Model_winter_106 (p0 : Int32) (p1 : Int64) (rec54 : Int32 → Int32 → LH → Option (Int32 × LH)) (y4 : Int32) (y5 : Int32) (σ : LH) : Option (Int32 × LH) :=
  xl ((y5 + 1) : Int32) fun x23 =>
  rec54 y4 x23 σ
theorem b_Model_winter_106 {G : XG} {l : Launch} {p : Program} {e : Env} {R : Room} {s : State} {m : MethodId} {args : Array Value} {below : List Frame} {meth : Method} {c : Code} (C : XC G 570 598 p s m args c prog_14_method_74_code 6 R_Model) (hr : meth.sig.returnType = (some .int)) (hk : meth.locks = false) {d : Nat} (hd : 124 ≤ d + 1) (hR : xroom R (d + 1)) {p0 : Int32} {p1 : Int64} {rec54 : Int32 → Int32 → LH → Option (Int32 × LH)} {σ' : LH} {r : Int32} (hrec54 : ∀ (y4 : Int32) (y5 : Int32) (σ : LH), rec54 y4 y5 σ = some (r, σ') → XJ G 570 598 p l e R s m args below meth c 6 (XQ G 570 598 below args s (some (.int r)) σ') 0 0 54 [(0, .ref (G.2.2.1 + 570)), (1, .int p0), (4, .int y4), (5, .int y5)] [] σ) {y4 : Int32} {y5 : Int32} {σ : LH} (h0 : s_Model_winter_106 p0 p1 rec54 y4 y5 σ = some (r, σ')) : XJ G 570 598 p l e R s m args below meth c 6 (XQ G 570 598 below args s (some (.int r)) σ') 0 0 106 [(0, .ref (G.2.2.1 + 570)), (1, .int p0), (4, .int y4), (5, .int y5)] [] σ := by
  replace h0 := (show _ = _ from h0)
  unfold s_Model_winter_106 at h0
  obtain ⟨x23, ex23, h0⟩ := xlet h0
  refine x_iinc (lv' := [(5, .int x23), (0, .ref (G.2.2.1 + 570)), (1, .int p0), (4, .int y4)]) C d_Model_winter_106 3 rfl ex23 (by decide) rfl ?_
  refine x_goto C 54 d_Model_winter_109 (by decide) ?_
  exact x_lv C [1, 2, 3, 0] rfl (hrec54 _ _ _ h0)
def s_Model_winter_54_b (p0 : Int32) (p1 : Int64) (rec41 : Int32 → LH → Option (Int32 × LH)) (rec54 : Int32 → Int32 → LH → Option (Int32 × LH)) (y4 : Int32) (y5 : Int32) (σ : LH) : Option (Int32 × LH) :=
  if (σ.1 570 27) ≤ y5 then (
   xb1 (s_Model_goMinute 583 σ) fun σ17 =>
   xl ((y4 + 1) : Int32) fun x18 =>
   rec41 x18 σ17)
  else (
   xb2 (s_Model_isHere 583 y5 σ) fun r20 σ21 =>
   if r20 = 0 then (
    s_Model_winter_106 p0 p1 rec54 y4 y5 σ21)
   else (
    xb2 (s_Model_draw 100 σ21) fun r25 σ26 =>
    if (σ26.1 570 36) ≤ r25 then (
     s_Model_winter_106 p0 p1 rec54 y4 y5 σ26)
    else (
     xb2 (s_Model_draw 3 σ26) fun r29 σ30 =>
     xb1 (s_Model_goesUp 583 y5 (1 + r29) 1 σ30) fun σ32 =>
     s_Model_winter_106 p0 p1 rec54 y4 y5 σ32)))
def s_Model_winter_54 (p0 : Int32) (p1 : Int64) (rec41 : Int32 → LH → Option (Int32 × LH)) : Nat → Int32 → Int32 → LH → Option (Int32 × LH)
  | 0, _, _, _ => none
  | n + 1, y4, y5, σ => s_Model_winter_54_b p0 p1 rec41 (s_Model_winter_54 p0 p1 rec41 n) y4 y5 σ
theorem bb_Model_winter_54 {G : XG} {l : Launch} {p : Program} {e : Env} {R : Room} {s : State} {m : MethodId} {args : Array Value} {below : List Frame} {meth : Method} {c : Code} (C : XC G 570 598 p s m args c prog_14_method_74_code 6 R_Model) (hr : meth.sig.returnType = (some .int)) (hk : meth.locks = false) {d : Nat} (hd : 124 ≤ d + 1) (hR : xroom R (d + 1)) {p0 : Int32} {p1 : Int64} {rec41 : Int32 → LH → Option (Int32 × LH)} {rec54 : Int32 → Int32 → LH → Option (Int32 × LH)} {σ' : LH} {r : Int32} (hrec41 : ∀ (y4 : Int32) (σ : LH), rec41 y4 σ = some (r, σ') → XJ G 570 598 p l e R s m args below meth c 6 (XQ G 570 598 below args s (some (.int r)) σ') 0 0 41 [(0, .ref (G.2.2.1 + 570)), (1, .int p0), (4, .int y4)] [] σ) (hrec54 : ∀ (y4 : Int32) (y5 : Int32) (σ : LH), rec54 y4 y5 σ = some (r, σ') → XJ G 570 598 p l e R s m args below meth c 6 (XQ G 570 598 below args s (some (.int r)) σ') 0 0 54 [(0, .ref (G.2.2.1 + 570)), (1, .int p0), (4, .int y4), (5, .int y5)] [] σ) {y4 : Int32} {y5 : Int32} {σ : LH} (h0 : s_Model_winter_54_b p0 p1 rec41 rec54 y4 y5 σ = some (r, σ')) : XJ G 570 598 p l e R s m args below meth c 6 (XQ G 570 598 below args s (some (.int r)) σ') 0 0 54 [(0, .ref (G.2.2.1 + 570)), (1, .int p0), (4, .int y4), (5, .int y5)] [] σ := by
  replace h0 := (show _ = _ from h0)
  unfold s_Model_winter_54_b at h0
  refine x_iload C d_Model_winter_54 3 rfl ?_
  refine x_aload_n C d_Model_winter_56 0 rfl ?_
  refine x_getI (y := 0) C fg_Model_305 k_570 rfl d_Model_winter_57 ?_
  refine x_icmp_ge C 112 d_Model_winter_60 (by decide) (fun q15 => ?_) (fun q15 => ?_)
  · replace h0 := xit q15 h0
    refine x_aload_n C d_Model_winter_112 0 rfl ?_
    refine x_aload_n C d_Model_winter_113 0 rfl ?_
    refine x_getA (y := 583) C fg_Model_61 k_570 rfl d_Model_winter_114 ?_
    obtain ⟨σ17, k16, h0⟩ := xbind1 h0
    refine x_callVv C hR (c_Model_goMinute (d := d) (by omega) k_583 k16) cw_Model_404 k_570 rfl rfl rfl (Nat.le_of_ble_eq_true rfl) ⟨Nat.zero_le _, Nat.zero_le _⟩ d_Model_winter_117 ?_
    obtain ⟨x18, ex18, h0⟩ := xlet h0
    refine x_iinc (lv' := [(4, .int x18), (0, .ref (G.2.2.1 + 570)), (1, .int p0), (5, .int y5)]) C d_Model_winter_120 2 rfl ex18 (by decide) rfl ?_
    refine x_goto C 41 d_Model_winter_123 (by decide) ?_
    exact x_lv C [1, 2, 0] rfl (hrec41 _ _ h0)
  · replace h0 := xif q15 h0
    refine x_aload_n C d_Model_winter_63 0 rfl ?_
    refine x_getA (y := 583) C fg_Model_61 k_570 rfl d_Model_winter_64 ?_
    refine x_iload C d_Model_winter_67 3 rfl ?_
    obtain ⟨r20, σ21, k19, h0⟩ := xbind2 h0
    refine x_callSi C hR (c_Model_isHere (d := d) (by omega) k_583 k19) cw_Model_361 w_1905 rfl rfl (Nat.le_of_ble_eq_true rfl) ⟨Nat.zero_le _, Nat.zero_le _⟩ d_Model_winter_69 ?_
    refine x_if_eq C 106 d_Model_winter_72 (by decide) (fun q22 => ?_) (fun q22 => ?_)
    · replace h0 := xit q22 h0
      exact x_lv C [0, 1, 2, 3] rfl (b_Model_winter_106 C hr hk hd hR hrec54 h0)
    · replace h0 := xif q22 h0
      refine x_aload_n C d_Model_winter_75 0 rfl ?_
      refine x_bipush (v := 100) C d_Model_winter_76 (by decide) ?_
      obtain ⟨r25, σ26, k24, h0⟩ := xbind2 h0
      refine x_callVi C hR (c_Model_draw (d := d) (by omega) k24) cw_Model_442 k_570 rfl rfl rfl (Nat.le_of_ble_eq_true rfl) ⟨Nat.zero_le _, Nat.zero_le _⟩ d_Model_winter_78 ?_
      refine x_aload_n C d_Model_winter_81 0 rfl ?_
      refine x_getI (y := 0) C fg_Model_419 k_570 rfl d_Model_winter_82 ?_
      refine x_icmp_ge C 106 d_Model_winter_85 (by decide) (fun q27 => ?_) (fun q27 => ?_)
      · replace h0 := xit q27 h0
        exact x_lv C [0, 1, 2, 3] rfl (b_Model_winter_106 C hr hk hd hR hrec54 h0)
      · replace h0 := xif q27 h0
        refine x_aload_n C d_Model_winter_88 0 rfl ?_
        refine x_aload_n C d_Model_winter_89 0 rfl ?_
        refine x_getA (y := 583) C fg_Model_61 k_570 rfl d_Model_winter_90 ?_
        refine x_iload C d_Model_winter_93 3 rfl ?_
        refine x_iconst (v := 1) C d_Model_winter_95 (by decide) ?_
        refine x_aload_n C d_Model_winter_96 0 rfl ?_
        refine x_iconst (v := 3) C d_Model_winter_97 (by decide) ?_
        obtain ⟨r29, σ30, k28, h0⟩ := xbind2 h0
        refine x_callVi C hR (c_Model_draw (d := d) (by omega) k28) cw_Model_442 k_570 rfl rfl rfl (Nat.le_of_ble_eq_true rfl) ⟨Nat.zero_le _, Nat.zero_le _⟩ d_Model_winter_98 ?_
        refine x_iadd C d_Model_winter_101 ?_
        refine x_iconst (v := 1) C d_Model_winter_102 (by decide) ?_
        obtain ⟨σ32, k31, h0⟩ := xbind1 h0
        refine x_callVv C hR (c_Model_goesUp (d := d) (by omega) k_583 k31) cw_Model_387 k_570 rfl rfl rfl (Nat.le_of_ble_eq_true rfl) ⟨Nat.zero_le _, Nat.zero_le _⟩ d_Model_winter_103 ?_
        exact x_lv C [0, 1, 2, 3] rfl (b_Model_winter_106 C hr hk hd hR hrec54 h0)
theorem b_Model_winter_54 {G : XG} {l : Launch} {p : Program} {e : Env} {R : Room} {s : State} {m : MethodId} {args : Array Value} {below : List Frame} {meth : Method} {c : Code} (C : XC G 570 598 p s m args c prog_14_method_74_code 6 R_Model) (hr : meth.sig.returnType = (some .int)) (hk : meth.locks = false) {d : Nat} (hd : 124 ≤ d + 1) (hR : xroom R (d + 1)) {p0 : Int32} {p1 : Int64} {rec41 : Int32 → LH → Option (Int32 × LH)} {σ' : LH} {r : Int32} (hrec41 : ∀ (y4 : Int32) (σ : LH), rec41 y4 σ = some (r, σ') → XJ G 570 598 p l e R s m args below meth c 6 (XQ G 570 598 below args s (some (.int r)) σ') 0 0 41 [(0, .ref (G.2.2.1 + 570)), (1, .int p0), (4, .int y4)] [] σ) : ∀ (n : Nat) (y4 : Int32) (y5 : Int32) (σ : LH), s_Model_winter_54 p0 p1 rec41 n y4 y5 σ = some (r, σ') → XJ G 570 598 p l e R s m args below meth c 6 (XQ G 570 598 below args s (some (.int r)) σ') 0 0 54 [(0, .ref (G.2.2.1 + 570)), (1, .int p0), (4, .int y4), (5, .int y5)] [] σ := by
  intro n
  induction n with
  | zero => intro y4 y5 σ h0; cases h0
  | succ n ih => intro y4 y5 σ h0; exact bb_Model_winter_54 C hr hk hd hR hrec41 ih h0
def s_Model_winter_41_b (p0 : Int32) (p1 : Int64) (rec41 : Int32 → LH → Option (Int32 × LH)) (y4 : Int32) (σ : LH) : Option (Int32 × LH) :=
  if p0 ≤ y4 then (
   if ib 48 290 then (
   some ((σ.1 583 (Int32.toNatClampNeg 48)), σ)) else none)
  else (
   xb1 (s_Model_remember σ) fun σ14 =>
   s_Model_winter_54 p0 p1 rec41 FUEL y4 0 σ14)
def s_Model_winter_41 (p0 : Int32) (p1 : Int64) : Nat → Int32 → LH → Option (Int32 × LH)
  | 0, _, _ => none
  | n + 1, y4, σ => s_Model_winter_41_b p0 p1 (s_Model_winter_41 p0 p1 n) y4 σ
theorem bb_Model_winter_41 {G : XG} {l : Launch} {p : Program} {e : Env} {R : Room} {s : State} {m : MethodId} {args : Array Value} {below : List Frame} {meth : Method} {c : Code} (C : XC G 570 598 p s m args c prog_14_method_74_code 6 R_Model) (hr : meth.sig.returnType = (some .int)) (hk : meth.locks = false) {d : Nat} (hd : 124 ≤ d + 1) (hR : xroom R (d + 1)) {p0 : Int32} {p1 : Int64} {rec41 : Int32 → LH → Option (Int32 × LH)} {σ' : LH} {r : Int32} (hrec41 : ∀ (y4 : Int32) (σ : LH), rec41 y4 σ = some (r, σ') → XJ G 570 598 p l e R s m args below meth c 6 (XQ G 570 598 below args s (some (.int r)) σ') 0 0 41 [(0, .ref (G.2.2.1 + 570)), (1, .int p0), (4, .int y4)] [] σ) {y4 : Int32} {σ : LH} (h0 : s_Model_winter_41_b p0 p1 rec41 y4 σ = some (r, σ')) : XJ G 570 598 p l e R s m args below meth c 6 (XQ G 570 598 below args s (some (.int r)) σ') 0 0 41 [(0, .ref (G.2.2.1 + 570)), (1, .int p0), (4, .int y4)] [] σ := by
  replace h0 := (show _ = _ from h0)
  unfold s_Model_winter_41_b at h0
  refine x_iload C d_Model_winter_41 2 rfl ?_
  refine x_iload_n C d_Model_winter_43 1 rfl ?_
  refine x_icmp_ge C 126 d_Model_winter_44 (by decide) (fun q11 => ?_) (fun q11 => ?_)
  · replace h0 := xit q11 h0
    refine x_aload_n C d_Model_winter_126 0 rfl ?_
    refine x_getA (y := 583) C fg_Model_61 k_570 rfl d_Model_winter_127 ?_
    refine x_bipush (v := 48) C d_Model_winter_130 (by decide) ?_
    obtain ⟨g12, h0⟩ := xgo h0
    refine x_iald C k_583 (ib_in g12) d_Model_winter_132 ?_
    exact x_iret C hr hk h0 d_Model_winter_133
  · replace h0 := xif q11 h0
    refine x_aload_n C d_Model_winter_47 0 rfl ?_
    obtain ⟨σ14, k13, h0⟩ := xbind1 h0
    refine x_callVv C hR (c_Model_remember (d := d) (by omega) k13) cw_Model_431 k_570 rfl rfl rfl (Nat.le_of_ble_eq_true rfl) ⟨Nat.zero_le _, Nat.zero_le _⟩ d_Model_winter_48 ?_
    refine x_iconst (v := 0) C d_Model_winter_51 (by decide) ?_
    refine x_istore (lv' := [(5, .int 0), (0, .ref (G.2.2.1 + 570)), (1, .int p0), (4, .int y4)]) C d_Model_winter_52 (by decide) rfl ?_
    exact x_lv C [1, 2, 3, 0] rfl (b_Model_winter_54 C hr hk hd hR hrec41 FUEL _ _ _ h0)
theorem b_Model_winter_41 {G : XG} {l : Launch} {p : Program} {e : Env} {R : Room} {s : State} {m : MethodId} {args : Array Value} {below : List Frame} {meth : Method} {c : Code} (C : XC G 570 598 p s m args c prog_14_method_74_code 6 R_Model) (hr : meth.sig.returnType = (some .int)) (hk : meth.locks = false) {d : Nat} (hd : 124 ≤ d + 1) (hR : xroom R (d + 1)) {p0 : Int32} {p1 : Int64} {σ' : LH} {r : Int32} : ∀ (n : Nat) (y4 : Int32) (σ : LH), s_Model_winter_41 p0 p1 n y4 σ = some (r, σ') → XJ G 570 598 p l e R s m args below meth c 6 (XQ G 570 598 below args s (some (.int r)) σ') 0 0 41 [(0, .ref (G.2.2.1 + 570)), (1, .int p0), (4, .int y4)] [] σ := by
  intro n
  induction n with
  | zero => intro y4 σ h0; cases h0
  | succ n ih => intro y4 σ h0; exact bb_Model_winter_41 C hr hk hd hR ih h0
def s_Model_winter (p0 : Int32) (p1 : Int64) (σ : LH) : Option (Int32 × LH) :=
  xl ((stI σ 570 0 0) : LH) fun σ1 =>
  if (σ1.1 570 27) = 0 then (
   s_Model_winter_31 p0 p1 σ1)
  else (
   xb2 (s_Model_left σ1) fun r4 σ5 =>
   xb2 (s_Model_isIn (Int32.toInt64 p0) 1 (Int32.toInt64 (if r4 < 60 then r4 else 60)) σ5) fun r7 σ8 =>
   if r7 = 0 then (
    s_Model_winter_31 p0 p1 σ8)
   else (
    xl ((stJ σ8 570 47 p1) : LH) fun σ10 =>
    s_Model_winter_41 p0 p1 FUEL 0 σ10))
theorem c_Model_winter {G : XG} {l : Launch} {d : Nat} (hd : 124 ≤ d) {p0 : Int32} {p1 : Int64} {σ σ' : LH} {r : Int32} (h0 : s_Model_winter p0 p1 σ = some (r, σ')) : xM G 570 598 l y_Model_winter prog_14_method_74_code 6 (some .int) d [.ref (G.2.2.1 + 570), .int p0, .long (p1)] σ (some (.int r)) σ' := by
  obtain ⟨d, rfl⟩ : ∃ q, d = q + 1 := ⟨d - 1, by omega⟩
  refine x_met R_Model rfl (by decide +kernel) (Nat.le_of_ble_eq_true rfl) fun p e s m below meth c C hr hk hR => ?_
  refine x_lv (lv' := [(0, .ref (G.2.2.1 + 570)), (1, .int p0), (2, .long (p1))]) C [0, 1, 2] rfl ?_
  generalize xrm (d + 1) = R at hR ⊢
  unfold s_Model_winter at h0
  refine x_aload_n C d_Model_winter_0 0 rfl ?_
  refine x_iconst (v := 0) C d_Model_winter_1 (by decide) ?_
  refine x_putI (y := 0) C fp_Model_114 k_570 rfl rfl rfl d_Model_winter_2 ?_
  obtain ⟨σ1, eσ1, h0⟩ := xlet h0
  refine x_sig C eσ1 ?_
  refine x_aload_n C d_Model_winter_5 0 rfl ?_
  refine x_getI (y := 0) C fg_Model_305 k_570 rfl d_Model_winter_6 ?_
  refine x_if_eq C 31 d_Model_winter_9 (by decide) (fun q2 => ?_) (fun q2 => ?_)
  · replace h0 := xit q2 h0
    exact x_lv C [] rfl (b_Model_winter_31 C hr hk hd hR h0)
  · replace h0 := xif q2 h0
    refine x_iload_n C d_Model_winter_12 1 rfl ?_
    refine x_i2l C d_Model_winter_13 ?_
    refine x_lconst (v := 1) C d_Model_winter_14 (by decide) ?_
    refine x_bipush (v := 60) C d_Model_winter_15 (by decide) ?_
    refine x_aload_n C d_Model_winter_17 0 rfl ?_
    obtain ⟨r4, σ5, k3, h0⟩ := xbind2 h0
    refine x_callVi C hR (c_Model_left (d := d) (by omega) k3) cw_Model_423 k_570 rfl rfl rfl (Nat.le_of_ble_eq_true rfl) ⟨Nat.zero_le _, Nat.zero_le _⟩ d_Model_winter_18 ?_
    refine x_mmin C (xroom1 hR) w_1890 w_716 w_123 w_717 (Nat.le_of_ble_eq_true rfl) ⟨Nat.zero_le _, Nat.zero_le _⟩ d_Model_winter_21 ?_
    refine x_i2l C d_Model_winter_24 ?_
    obtain ⟨r7, σ8, k6, h0⟩ := xbind2 h0
    refine x_callSi C hR (c_Model_isIn (d := d) (by omega) k6) cw_Model_235 w_1695 rfl rfl (Nat.le_of_ble_eq_true rfl) ⟨Nat.zero_le _, Nat.zero_le _⟩ d_Model_winter_25 ?_
    refine x_if_ne C 33 d_Model_winter_28 (by decide) (fun q9 => ?_) (fun q9 => ?_)
    · replace h0 := xif q9 h0
      refine x_aload_n C d_Model_winter_33 0 rfl ?_
      refine x_lload_n C d_Model_winter_34 2 rfl ?_
      refine x_putJ (y := 0) C fp_Model_434 k_570 rfl d_Model_winter_35 ?_
      obtain ⟨σ10, eσ10, h0⟩ := xlet h0
      refine x_sig C eσ10 ?_
      refine x_iconst (v := 0) C d_Model_winter_38 (by decide) ?_
      refine x_istore (lv' := [(4, .int 0), (0, .ref (G.2.2.1 + 570)), (1, .int p0), (2, .long (p1))]) C d_Model_winter_39 (by decide) rfl ?_
      exact x_lv C [1, 2, 0] rfl (b_Model_winter_41 C hr hk hd hR FUEL _ _ h0)
    · replace h0 := xit q9 h0
      exact x_lv C [] rfl (b_Model_winter_31 C hr hk hd hR h0)
-- LostPlacesModel.undo()I
theorem d_Model_undo_0 : decode prog_14_method_75_code 0 = .ok (.aload_n 0, 1) := by decide +kernel
theorem d_Model_undo_1 : decode prog_14_method_75_code 1 = .ok (.iconst 0, 1) := by decide +kernel
theorem d_Model_undo_2 : decode prog_14_method_75_code 2 = .ok (.putfield 114, 3) := by decide +kernel
theorem d_Model_undo_5 : decode prog_14_method_75_code 5 = .ok (.aload_n 0, 1) := by decide +kernel
theorem d_Model_undo_6 : decode prog_14_method_75_code 6 = .ok (.getfield 314, 3) := by decide +kernel
theorem d_Model_undo_9 : decode prog_14_method_75_code 9 = .ok (.ifCond .ne 5, 3) := by decide +kernel
theorem d_Model_undo_12 : decode prog_14_method_75_code 12 = .ok (.iconst (-1), 1) := by decide +kernel
theorem d_Model_undo_13 : decode prog_14_method_75_code 13 = .ok (.ireturn, 1) := by decide +kernel
theorem d_Model_undo_14 : decode prog_14_method_75_code 14 = .ok (.aload_n 0, 1) := by decide +kernel
theorem d_Model_undo_15 : decode prog_14_method_75_code 15 = .ok (.dup, 1) := by decide +kernel
theorem d_Model_undo_16 : decode prog_14_method_75_code 16 = .ok (.getfield 314, 3) := by decide +kernel
theorem d_Model_undo_19 : decode prog_14_method_75_code 19 = .ok (.iconst 1, 1) := by decide +kernel
theorem d_Model_undo_20 : decode prog_14_method_75_code 20 = .ok (.isub, 1) := by decide +kernel
theorem d_Model_undo_21 : decode prog_14_method_75_code 21 = .ok (.putfield 314, 3) := by decide +kernel
theorem d_Model_undo_24 : decode prog_14_method_75_code 24 = .ok (.iconst 0, 1) := by decide +kernel
theorem d_Model_undo_25 : decode prog_14_method_75_code 25 = .ok (.istore_n 1, 1) := by decide +kernel
theorem d_Model_undo_26 : decode prog_14_method_75_code 26 = .ok (.iload_n 1, 1) := by decide +kernel
theorem d_Model_undo_27 : decode prog_14_method_75_code 27 = .ok (.sipush 290, 3) := by decide +kernel
theorem d_Model_undo_30 : decode prog_14_method_75_code 30 = .ok (.if_icmp .ge 30, 3) := by decide +kernel
theorem d_Model_undo_33 : decode prog_14_method_75_code 33 = .ok (.aload_n 0, 1) := by decide +kernel
theorem d_Model_undo_34 : decode prog_14_method_75_code 34 = .ok (.getfield 61, 3) := by decide +kernel
theorem d_Model_undo_37 : decode prog_14_method_75_code 37 = .ok (.iload_n 1, 1) := by decide +kernel
theorem d_Model_undo_38 : decode prog_14_method_75_code 38 = .ok (.aload_n 0, 1) := by decide +kernel
theorem d_Model_undo_39 : decode prog_14_method_75_code 39 = .ok (.getfield 90, 3) := by decide +kernel
theorem d_Model_undo_42 : decode prog_14_method_75_code 42 = .ok (.sipush 290, 3) := by decide +kernel
theorem d_Model_undo_45 : decode prog_14_method_75_code 45 = .ok (.aload_n 0, 1) := by decide +kernel
theorem d_Model_undo_46 : decode prog_14_method_75_code 46 = .ok (.getfield 314, 3) := by decide +kernel
theorem d_Model_undo_49 : decode prog_14_method_75_code 49 = .ok (.imul, 1) := by decide +kernel
theorem d_Model_undo_50 : decode prog_14_method_75_code 50 = .ok (.iload_n 1, 1) := by decide +kernel
theorem d_Model_undo_51 : decode prog_14_method_75_code 51 = .ok (.iadd, 1) := by decide +kernel
theorem d_Model_undo_52 : decode prog_14_method_75_code 52 = .ok (.iaload, 1) := by decide +kernel
theorem d_Model_undo_53 : decode prog_14_method_75_code 53 = .ok (.iastore, 1) := by decide +kernel
theorem d_Model_undo_54 : decode prog_14_method_75_code 54 = .ok (.iinc 1 1, 3) := by decide +kernel
theorem d_Model_undo_57 : decode prog_14_method_75_code 57 = .ok (.goto (-31), 3) := by decide +kernel
theorem d_Model_undo_60 : decode prog_14_method_75_code 60 = .ok (.aload_n 0, 1) := by decide +kernel
theorem d_Model_undo_61 : decode prog_14_method_75_code 61 = .ok (.getfield 314, 3) := by decide +kernel
theorem d_Model_undo_64 : decode prog_14_method_75_code 64 = .ok (.ireturn, 1) := by decide +kernel
def s_Model_undo_26_b (rec26 : Int32 → LH → Option (Int32 × LH)) (y1 : Int32) (σ : LH) : Option (Int32 × LH) :=
  if 290 ≤ y1 then (
   some ((σ.1 570 46), σ))
  else (
   if ib ((290 * (σ.1 570 46)) + y1) 11600 then (
   if ib y1 290 then (
   xl ((stI σ 583 (Int32.toNatClampNeg y1) (σ.1 590 (Int32.toNatClampNeg ((290 * (σ.1 570 46)) + y1)))) : LH) fun σ7 =>
   xl ((y1 + 1) : Int32) fun x8 =>
   rec26 x8 σ7) else none) else none)
def s_Model_undo_26 : Nat → Int32 → LH → Option (Int32 × LH)
  | 0, _, _ => none
  | n + 1, y1, σ => s_Model_undo_26_b (s_Model_undo_26 n) y1 σ
theorem bb_Model_undo_26 {G : XG} {l : Launch} {p : Program} {e : Env} {R : Room} {s : State} {m : MethodId} {args : Array Value} {below : List Frame} {meth : Method} {c : Code} (C : XC G 570 598 p s m args c prog_14_method_75_code 2 R_Model) (hr : meth.sig.returnType = (some .int)) (hk : meth.locks = false) {d : Nat} (hd : 1 ≤ d + 1) (hR : xroom R (d + 1)) {rec26 : Int32 → LH → Option (Int32 × LH)} {σ' : LH} {r : Int32} (hrec26 : ∀ (y1 : Int32) (σ : LH), rec26 y1 σ = some (r, σ') → XJ G 570 598 p l e R s m args below meth c 2 (XQ G 570 598 below args s (some (.int r)) σ') 0 0 26 [(0, .ref (G.2.2.1 + 570)), (1, .int y1)] [] σ) {y1 : Int32} {σ : LH} (h0 : s_Model_undo_26_b rec26 y1 σ = some (r, σ')) : XJ G 570 598 p l e R s m args below meth c 2 (XQ G 570 598 below args s (some (.int r)) σ') 0 0 26 [(0, .ref (G.2.2.1 + 570)), (1, .int y1)] [] σ := by
  replace h0 := (show _ = _ from h0)
  unfold s_Model_undo_26_b at h0
  refine x_iload_n C d_Model_undo_26 1 rfl ?_
  refine x_sipush (v := 290) C d_Model_undo_27 (by decide) ?_
  refine x_icmp_ge C 60 d_Model_undo_30 (by decide) (fun q4 => ?_) (fun q4 => ?_)
  · replace h0 := xit q4 h0
    refine x_aload_n C d_Model_undo_60 0 rfl ?_
    refine x_getI (y := 0) C fg_Model_314 k_570 rfl d_Model_undo_61 ?_
    exact x_iret C hr hk h0 d_Model_undo_64
  · replace h0 := xif q4 h0
    refine x_aload_n C d_Model_undo_33 0 rfl ?_
    refine x_getA (y := 583) C fg_Model_61 k_570 rfl d_Model_undo_34 ?_
    refine x_iload_n C d_Model_undo_37 1 rfl ?_
    refine x_aload_n C d_Model_undo_38 0 rfl ?_
    refine x_getA (y := 590) C fg_Model_90 k_570 rfl d_Model_undo_39 ?_
    refine x_sipush (v := 290) C d_Model_undo_42 (by decide) ?_
    refine x_aload_n C d_Model_undo_45 0 rfl ?_
    refine x_getI (y := 0) C fg_Model_314 k_570 rfl d_Model_undo_46 ?_
    refine x_imul C d_Model_undo_49 ?_
    refine x_iload_n C d_Model_undo_50 1 rfl ?_
    refine x_iadd C d_Model_undo_51 ?_
    obtain ⟨g5, h0⟩ := xgo h0
    refine x_iald C k_590 (ib_in g5) d_Model_undo_52 ?_
    obtain ⟨g6, h0⟩ := xgo h0
    refine x_iast C k_583 (ib_in g6) d_Model_undo_53 ?_
    obtain ⟨σ7, eσ7, h0⟩ := xlet h0
    refine x_sig C eσ7 ?_
    obtain ⟨x8, ex8, h0⟩ := xlet h0
    refine x_iinc (lv' := [(1, .int x8), (0, .ref (G.2.2.1 + 570))]) C d_Model_undo_54 1 rfl ex8 (by decide) rfl ?_
    refine x_goto C 26 d_Model_undo_57 (by decide) ?_
    exact x_lv C [1, 0] rfl (hrec26 _ _ h0)
theorem b_Model_undo_26 {G : XG} {l : Launch} {p : Program} {e : Env} {R : Room} {s : State} {m : MethodId} {args : Array Value} {below : List Frame} {meth : Method} {c : Code} (C : XC G 570 598 p s m args c prog_14_method_75_code 2 R_Model) (hr : meth.sig.returnType = (some .int)) (hk : meth.locks = false) {d : Nat} (hd : 1 ≤ d + 1) (hR : xroom R (d + 1)) {σ' : LH} {r : Int32} : ∀ (n : Nat) (y1 : Int32) (σ : LH), s_Model_undo_26 n y1 σ = some (r, σ') → XJ G 570 598 p l e R s m args below meth c 2 (XQ G 570 598 below args s (some (.int r)) σ') 0 0 26 [(0, .ref (G.2.2.1 + 570)), (1, .int y1)] [] σ := by
  intro n
  induction n with
  | zero => intro y1 σ h0; cases h0
  | succ n ih => intro y1 σ h0; exact bb_Model_undo_26 C hr hk hd hR ih h0
def s_Model_undo (σ : LH) : Option (Int32 × LH) :=
  xl ((stI σ 570 0 0) : LH) fun σ1 =>
  if (σ1.1 570 46) = 0 then (
   some ((-1), σ1))
  else (
   xl ((stI σ1 570 46 ((σ1.1 570 46) - 1)) : LH) fun σ3 =>
   s_Model_undo_26 FUEL 0 σ3)
theorem c_Model_undo {G : XG} {l : Launch} {d : Nat} (hd : 1 ≤ d) {σ σ' : LH} {r : Int32} (h0 : s_Model_undo σ = some (r, σ')) : xM G 570 598 l y_Model_undo prog_14_method_75_code 2 (some .int) d [.ref (G.2.2.1 + 570)] σ (some (.int r)) σ' := by
  obtain ⟨d, rfl⟩ : ∃ q, d = q + 1 := ⟨d - 1, by omega⟩
  refine x_met R_Model rfl (by decide +kernel) (Nat.le_of_ble_eq_true rfl) fun p e s m below meth c C hr hk hR => ?_
  refine x_lv (lv' := [(0, .ref (G.2.2.1 + 570))]) C [0] rfl ?_
  generalize xrm (d + 1) = R at hR ⊢
  unfold s_Model_undo at h0
  refine x_aload_n C d_Model_undo_0 0 rfl ?_
  refine x_iconst (v := 0) C d_Model_undo_1 (by decide) ?_
  refine x_putI (y := 0) C fp_Model_114 k_570 rfl rfl rfl d_Model_undo_2 ?_
  obtain ⟨σ1, eσ1, h0⟩ := xlet h0
  refine x_sig C eσ1 ?_
  refine x_aload_n C d_Model_undo_5 0 rfl ?_
  refine x_getI (y := 0) C fg_Model_314 k_570 rfl d_Model_undo_6 ?_
  refine x_if_ne C 14 d_Model_undo_9 (by decide) (fun q2 => ?_) (fun q2 => ?_)
  · replace h0 := xif q2 h0
    refine x_aload_n C d_Model_undo_14 0 rfl ?_
    refine x_dup C d_Model_undo_15 rfl ?_
    refine x_getI (y := 0) C fg_Model_314 k_570 rfl d_Model_undo_16 ?_
    refine x_iconst (v := 1) C d_Model_undo_19 (by decide) ?_
    refine x_isub C d_Model_undo_20 ?_
    refine x_putI (y := 0) C fp_Model_314 k_570 rfl rfl rfl d_Model_undo_21 ?_
    obtain ⟨σ3, eσ3, h0⟩ := xlet h0
    refine x_sig C eσ3 ?_
    refine x_iconst (v := 0) C d_Model_undo_24 (by decide) ?_
    refine x_istore_n (lv' := [(1, .int 0), (0, .ref (G.2.2.1 + 570))]) C d_Model_undo_25 rfl (by decide) rfl ?_
    exact x_lv C [1, 0] rfl (b_Model_undo_26 C hr hk hd hR FUEL _ _ h0)
  · replace h0 := xit q2 h0
    refine x_iconst (v := (-1)) C d_Model_undo_12 (by decide) ?_
    exact x_iret C hr hk h0 d_Model_undo_13
-- LostPlacesModel.log(II)I
theorem d_Model_log_0 : decode prog_14_method_76_code 0 = .ok (.aload_n 0, 1) := by decide +kernel
theorem d_Model_log_1 : decode prog_14_method_76_code 1 = .ok (.iconst 0, 1) := by decide +kernel
theorem d_Model_log_2 : decode prog_14_method_76_code 2 = .ok (.putfield 114, 3) := by decide +kernel
theorem d_Model_log_5 : decode prog_14_method_76_code 5 = .ok (.iload_n 1, 1) := by decide +kernel
theorem d_Model_log_6 : decode prog_14_method_76_code 6 = .ok (.i2l, 1) := by decide +kernel
theorem d_Model_log_7 : decode prog_14_method_76_code 7 = .ok (.lconst 0, 1) := by decide +kernel
theorem d_Model_log_8 : decode prog_14_method_76_code 8 = .ok (.aload_n 0, 1) := by decide +kernel
theorem d_Model_log_9 : decode prog_14_method_76_code 9 = .ok (.getfield 61, 3) := by decide +kernel
theorem d_Model_log_12 : decode prog_14_method_76_code 12 = .ok (.bipush 49, 2) := by decide +kernel
theorem d_Model_log_14 : decode prog_14_method_76_code 14 = .ok (.iaload, 1) := by decide +kernel
theorem d_Model_log_15 : decode prog_14_method_76_code 15 = .ok (.iconst 1, 1) := by decide +kernel
theorem d_Model_log_16 : decode prog_14_method_76_code 16 = .ok (.isub, 1) := by decide +kernel
theorem d_Model_log_17 : decode prog_14_method_76_code 17 = .ok (.i2l, 1) := by decide +kernel
theorem d_Model_log_18 : decode prog_14_method_76_code 18 = .ok (.invokestatic 235, 3) := by decide +kernel
theorem d_Model_log_21 : decode prog_14_method_76_code 21 = .ok (.ifCond .eq 41, 3) := by decide +kernel
theorem d_Model_log_24 : decode prog_14_method_76_code 24 = .ok (.iload_n 2, 1) := by decide +kernel
theorem d_Model_log_25 : decode prog_14_method_76_code 25 = .ok (.i2l, 1) := by decide +kernel
theorem d_Model_log_26 : decode prog_14_method_76_code 26 = .ok (.lconst 0, 1) := by decide +kernel
theorem d_Model_log_27 : decode prog_14_method_76_code 27 = .ok (.ldc2_w 445, 3) := by decide +kernel
theorem d_Model_log_30 : decode prog_14_method_76_code 30 = .ok (.invokestatic 235, 3) := by decide +kernel
theorem d_Model_log_33 : decode prog_14_method_76_code 33 = .ok (.ifCond .eq 29, 3) := by decide +kernel
theorem d_Model_log_36 : decode prog_14_method_76_code 36 = .ok (.aload_n 0, 1) := by decide +kernel
theorem d_Model_log_37 : decode prog_14_method_76_code 37 = .ok (.getfield 61, 3) := by decide +kernel
theorem d_Model_log_40 : decode prog_14_method_76_code 40 = .ok (.bipush 50, 2) := by decide +kernel
theorem d_Model_log_42 : decode prog_14_method_76_code 42 = .ok (.iconst 4, 1) := by decide +kernel
theorem d_Model_log_43 : decode prog_14_method_76_code 43 = .ok (.aload_n 0, 1) := by decide +kernel
theorem d_Model_log_44 : decode prog_14_method_76_code 44 = .ok (.getfield 61, 3) := by decide +kernel
theorem d_Model_log_47 : decode prog_14_method_76_code 47 = .ok (.bipush 49, 2) := by decide +kernel
theorem d_Model_log_49 : decode prog_14_method_76_code 49 = .ok (.iaload, 1) := by decide +kernel
theorem d_Model_log_50 : decode prog_14_method_76_code 50 = .ok (.iconst 1, 1) := by decide +kernel
theorem d_Model_log_51 : decode prog_14_method_76_code 51 = .ok (.isub, 1) := by decide +kernel
theorem d_Model_log_52 : decode prog_14_method_76_code 52 = .ok (.iload_n 1, 1) := by decide +kernel
theorem d_Model_log_53 : decode prog_14_method_76_code 53 = .ok (.isub, 1) := by decide +kernel
theorem d_Model_log_54 : decode prog_14_method_76_code 54 = .ok (.imul, 1) := by decide +kernel
theorem d_Model_log_55 : decode prog_14_method_76_code 55 = .ok (.iadd, 1) := by decide +kernel
theorem d_Model_log_56 : decode prog_14_method_76_code 56 = .ok (.iload_n 2, 1) := by decide +kernel
theorem d_Model_log_57 : decode prog_14_method_76_code 57 = .ok (.iadd, 1) := by decide +kernel
theorem d_Model_log_58 : decode prog_14_method_76_code 58 = .ok (.iaload, 1) := by decide +kernel
theorem d_Model_log_59 : decode prog_14_method_76_code 59 = .ok (.goto 6, 3) := by decide +kernel
theorem d_Model_log_62 : decode prog_14_method_76_code 62 = .ok (.ldc_w 422, 3) := by decide +kernel
theorem d_Model_log_65 : decode prog_14_method_76_code 65 = .ok (.ireturn, 1) := by decide +kernel
def s_Model_log_65 (p0 : Int32) (p1 : Int32) (z0 : Int32) (σ : LH) : Option (Int32 × LH) :=
  some (z0, σ)
theorem b_Model_log_65 {G : XG} {l : Launch} {p : Program} {e : Env} {R : Room} {s : State} {m : MethodId} {args : Array Value} {below : List Frame} {meth : Method} {c : Code} (C : XC G 570 598 p s m args c prog_14_method_76_code 3 R_Model) (hr : meth.sig.returnType = (some .int)) (hk : meth.locks = false) {d : Nat} (hd : 2 ≤ d + 1) (hR : xroom R (d + 1)) {p0 : Int32} {p1 : Int32} {σ' : LH} {r : Int32} {z0 : Int32} {σ : LH} (h0 : s_Model_log_65 p0 p1 z0 σ = some (r, σ')) : XJ G 570 598 p l e R s m args below meth c 3 (XQ G 570 598 below args s (some (.int r)) σ') 0 0 65 [] [.int z0] σ := by
  replace h0 := (show _ = _ from h0)
  unfold s_Model_log_65 at h0
  exact x_iret C hr hk h0 d_Model_log_65
def s_Model_log_62 (p0 : Int32) (p1 : Int32) (σ : LH) : Option (Int32 × LH) :=
  s_Model_log_65 p0 p1 (-1000000) σ
theorem b_Model_log_62 {G : XG} {l : Launch} {p : Program} {e : Env} {R : Room} {s : State} {m : MethodId} {args : Array Value} {below : List Frame} {meth : Method} {c : Code} (C : XC G 570 598 p s m args c prog_14_method_76_code 3 R_Model) (hr : meth.sig.returnType = (some .int)) (hk : meth.locks = false) {d : Nat} (hd : 2 ≤ d + 1) (hR : xroom R (d + 1)) {p0 : Int32} {p1 : Int32} {σ' : LH} {r : Int32} {σ : LH} (h0 : s_Model_log_62 p0 p1 σ = some (r, σ')) : XJ G 570 598 p l e R s m args below meth c 3 (XQ G 570 598 below args s (some (.int r)) σ') 0 0 62 [] [] σ := by
  replace h0 := (show _ = _ from h0)
  unfold s_Model_log_62 at h0
  refine x_ldcw (v := (-1000000)) C w_1899 d_Model_log_62 ?_
  exact x_lv C [] rfl (b_Model_log_65 C hr hk hd hR h0)
def s_Model_log (p0 : Int32) (p1 : Int32) (σ : LH) : Option (Int32 × LH) :=
  xl ((stI σ 570 0 0) : LH) fun σ1 =>
  if ib 49 290 then (
  xb2 (s_Model_isIn (Int32.toInt64 p0) 0 (Int32.toInt64 ((σ1.1 583 (Int32.toNatClampNeg 49)) - 1)) σ1) fun r4 σ5 =>
  if r4 = 0 then (
   s_Model_log_62 p0 p1 σ5)
  else (
   xb2 (s_Model_isIn (Int32.toInt64 p1) 0 3 σ5) fun r8 σ9 =>
   if r8 = 0 then (
    s_Model_log_62 p0 p1 σ9)
   else (
    if ib 49 290 then (
    if ib ((50 + (4 * (((σ9.1 583 (Int32.toNatClampNeg 49)) - 1) - p0))) + p1) 290 then (
    s_Model_log_65 p0 p1 (σ9.1 583 (Int32.toNatClampNeg ((50 + (4 * (((σ9.1 583 (Int32.toNatClampNeg 49)) - 1) - p0))) + p1))) σ9) else none) else none))) else none
theorem c_Model_log {G : XG} {l : Launch} {d : Nat} (hd : 2 ≤ d) {p0 : Int32} {p1 : Int32} {σ σ' : LH} {r : Int32} (h0 : s_Model_log p0 p1 σ = some (r, σ')) : xM G 570 598 l y_Model_log prog_14_method_76_code 3 (some .int) d [.ref (G.2.2.1 + 570), .int p0, .int p1] σ (some (.int r)) σ' := by
  obtain ⟨d, rfl⟩ : ∃ q, d = q + 1 := ⟨d - 1, by omega⟩
  refine x_met R_Model rfl (by decide +kernel) (Nat.le_of_ble_eq_true rfl) fun p e s m below meth c C hr hk hR => ?_
  refine x_lv (lv' := [(0, .ref (G.2.2.1 + 570)), (1, .int p0), (2, .int p1)]) C [0, 1, 2] rfl ?_
  generalize xrm (d + 1) = R at hR ⊢
  unfold s_Model_log at h0
  refine x_aload_n C d_Model_log_0 0 rfl ?_
  refine x_iconst (v := 0) C d_Model_log_1 (by decide) ?_
  refine x_putI (y := 0) C fp_Model_114 k_570 rfl rfl rfl d_Model_log_2 ?_
  obtain ⟨σ1, eσ1, h0⟩ := xlet h0
  refine x_sig C eσ1 ?_
  refine x_iload_n C d_Model_log_5 1 rfl ?_
  refine x_i2l C d_Model_log_6 ?_
  refine x_lconst (v := 0) C d_Model_log_7 (by decide) ?_
  refine x_aload_n C d_Model_log_8 0 rfl ?_
  refine x_getA (y := 583) C fg_Model_61 k_570 rfl d_Model_log_9 ?_
  refine x_bipush (v := 49) C d_Model_log_12 (by decide) ?_
  obtain ⟨g2, h0⟩ := xgo h0
  refine x_iald C k_583 (ib_in g2) d_Model_log_14 ?_
  refine x_iconst (v := 1) C d_Model_log_15 (by decide) ?_
  refine x_isub C d_Model_log_16 ?_
  refine x_i2l C d_Model_log_17 ?_
  obtain ⟨r4, σ5, k3, h0⟩ := xbind2 h0
  refine x_callSi C hR (c_Model_isIn (d := d) (by omega) k3) cw_Model_235 w_1695 rfl rfl (Nat.le_of_ble_eq_true rfl) ⟨Nat.zero_le _, Nat.zero_le _⟩ d_Model_log_18 ?_
  refine x_if_eq C 62 d_Model_log_21 (by decide) (fun q6 => ?_) (fun q6 => ?_)
  · replace h0 := xit q6 h0
    exact x_lv C [] rfl (b_Model_log_62 C hr hk hd hR h0)
  · replace h0 := xif q6 h0
    refine x_iload_n C d_Model_log_24 2 rfl ?_
    refine x_i2l C d_Model_log_25 ?_
    refine x_lconst (v := 0) C d_Model_log_26 (by decide) ?_
    refine x_ldc2 (v := 3) C w_2005 d_Model_log_27 ?_
    obtain ⟨r8, σ9, k7, h0⟩ := xbind2 h0
    refine x_callSi C hR (c_Model_isIn (d := d) (by omega) k7) cw_Model_235 w_1695 rfl rfl (Nat.le_of_ble_eq_true rfl) ⟨Nat.zero_le _, Nat.zero_le _⟩ d_Model_log_30 ?_
    refine x_if_eq C 62 d_Model_log_33 (by decide) (fun q10 => ?_) (fun q10 => ?_)
    · replace h0 := xit q10 h0
      exact x_lv C [] rfl (b_Model_log_62 C hr hk hd hR h0)
    · replace h0 := xif q10 h0
      refine x_aload_n C d_Model_log_36 0 rfl ?_
      refine x_getA (y := 583) C fg_Model_61 k_570 rfl d_Model_log_37 ?_
      refine x_bipush (v := 50) C d_Model_log_40 (by decide) ?_
      refine x_iconst (v := 4) C d_Model_log_42 (by decide) ?_
      refine x_aload_n C d_Model_log_43 0 rfl ?_
      refine x_getA (y := 583) C fg_Model_61 k_570 rfl d_Model_log_44 ?_
      refine x_bipush (v := 49) C d_Model_log_47 (by decide) ?_
      obtain ⟨g11, h0⟩ := xgo h0
      refine x_iald C k_583 (ib_in g11) d_Model_log_49 ?_
      refine x_iconst (v := 1) C d_Model_log_50 (by decide) ?_
      refine x_isub C d_Model_log_51 ?_
      refine x_iload_n C d_Model_log_52 1 rfl ?_
      refine x_isub C d_Model_log_53 ?_
      refine x_imul C d_Model_log_54 ?_
      refine x_iadd C d_Model_log_55 ?_
      refine x_iload_n C d_Model_log_56 2 rfl ?_
      refine x_iadd C d_Model_log_57 ?_
      obtain ⟨g12, h0⟩ := xgo h0
      refine x_iald C k_583 (ib_in g12) d_Model_log_58 ?_
      refine x_goto C 65 d_Model_log_59 (by decide) ?_
      exact x_lv C [] rfl (b_Model_log_65 C hr hk hd hR h0)
-- LostPlacesModel.ahead(III)I
theorem d_Model_ahead_0 : decode prog_14_method_77_code 0 = .ok (.aload_n 0, 1) := by decide +kernel
theorem d_Model_ahead_1 : decode prog_14_method_77_code 1 = .ok (.iconst 0, 1) := by decide +kernel
theorem d_Model_ahead_2 : decode prog_14_method_77_code 2 = .ok (.putfield 114, 3) := by decide +kernel
theorem d_Model_ahead_5 : decode prog_14_method_77_code 5 = .ok (.aload_n 0, 1) := by decide +kernel
theorem d_Model_ahead_6 : decode prog_14_method_77_code 6 = .ok (.iload_n 1, 1) := by decide +kernel
theorem d_Model_ahead_7 : decode prog_14_method_77_code 7 = .ok (.invokevirtual 412, 3) := by decide +kernel
theorem d_Model_ahead_10 : decode prog_14_method_77_code 10 = .ok (.ifCond .eq 27, 3) := by decide +kernel
theorem d_Model_ahead_13 : decode prog_14_method_77_code 13 = .ok (.iload_n 2, 1) := by decide +kernel
theorem d_Model_ahead_14 : decode prog_14_method_77_code 14 = .ok (.i2l, 1) := by decide +kernel
theorem d_Model_ahead_15 : decode prog_14_method_77_code 15 = .ok (.lconst 0, 1) := by decide +kernel
theorem d_Model_ahead_16 : decode prog_14_method_77_code 16 = .ok (.aload_n 0, 1) := by decide +kernel
theorem d_Model_ahead_17 : decode prog_14_method_77_code 17 = .ok (.invokevirtual 423, 3) := by decide +kernel
theorem d_Model_ahead_20 : decode prog_14_method_77_code 20 = .ok (.i2l, 1) := by decide +kernel
theorem d_Model_ahead_21 : decode prog_14_method_77_code 21 = .ok (.invokestatic 235, 3) := by decide +kernel
theorem d_Model_ahead_24 : decode prog_14_method_77_code 24 = .ok (.ifCond .eq 13, 3) := by decide +kernel
theorem d_Model_ahead_27 : decode prog_14_method_77_code 27 = .ok (.iload_n 3, 1) := by decide +kernel
theorem d_Model_ahead_28 : decode prog_14_method_77_code 28 = .ok (.i2l, 1) := by decide +kernel
theorem d_Model_ahead_29 : decode prog_14_method_77_code 29 = .ok (.lconst 0, 1) := by decide +kernel
theorem d_Model_ahead_30 : decode prog_14_method_77_code 30 = .ok (.lconst 1, 1) := by decide +kernel
theorem d_Model_ahead_31 : decode prog_14_method_77_code 31 = .ok (.invokestatic 235, 3) := by decide +kernel
theorem d_Model_ahead_34 : decode prog_14_method_77_code 34 = .ok (.ifCond .ne 7, 3) := by decide +kernel
theorem d_Model_ahead_37 : decode prog_14_method_77_code 37 = .ok (.ldc_w 422, 3) := by decide +kernel
theorem d_Model_ahead_40 : decode prog_14_method_77_code 40 = .ok (.ireturn, 1) := by decide +kernel
theorem d_Model_ahead_41 : decode prog_14_method_77_code 41 = .ok (.aload_n 0, 1) := by decide +kernel
theorem d_Model_ahead_42 : decode prog_14_method_77_code 42 = .ok (.getfield 61, 3) := by decide +kernel
theorem d_Model_ahead_45 : decode prog_14_method_77_code 45 = .ok (.aload_n 0, 1) := by decide +kernel
theorem d_Model_ahead_46 : decode prog_14_method_77_code 46 = .ok (.getfield 64, 3) := by decide +kernel
theorem d_Model_ahead_49 : decode prog_14_method_77_code 49 = .ok (.invokestatic 447, 3) := by decide +kernel
theorem d_Model_ahead_52 : decode prog_14_method_77_code 52 = .ok (.iconst 0, 1) := by decide +kernel
theorem d_Model_ahead_53 : decode prog_14_method_77_code 53 = .ok (.istore 4, 2) := by decide +kernel
theorem d_Model_ahead_55 : decode prog_14_method_77_code 55 = .ok (.iload 4, 2) := by decide +kernel
theorem d_Model_ahead_57 : decode prog_14_method_77_code 57 = .ok (.iload_n 2, 1) := by decide +kernel
theorem d_Model_ahead_58 : decode prog_14_method_77_code 58 = .ok (.if_icmp .ge 17, 3) := by decide +kernel
theorem d_Model_ahead_61 : decode prog_14_method_77_code 61 = .ok (.aload_n 0, 1) := by decide +kernel
theorem d_Model_ahead_62 : decode prog_14_method_77_code 62 = .ok (.aload_n 0, 1) := by decide +kernel
theorem d_Model_ahead_63 : decode prog_14_method_77_code 63 = .ok (.getfield 64, 3) := by decide +kernel
theorem d_Model_ahead_66 : decode prog_14_method_77_code 66 = .ok (.invokevirtual 404, 3) := by decide +kernel
theorem d_Model_ahead_69 : decode prog_14_method_77_code 69 = .ok (.iinc 4 1, 3) := by decide +kernel
theorem d_Model_ahead_72 : decode prog_14_method_77_code 72 = .ok (.goto (-17), 3) := by decide +kernel
theorem d_Model_ahead_75 : decode prog_14_method_77_code 75 = .ok (.iload_n 3, 1) := by decide +kernel
theorem d_Model_ahead_76 : decode prog_14_method_77_code 76 = .ok (.ifCond .ne 14, 3) := by decide +kernel
theorem d_Model_ahead_79 : decode prog_14_method_77_code 79 = .ok (.aload_n 0, 1) := by decide +kernel
theorem d_Model_ahead_80 : decode prog_14_method_77_code 80 = .ok (.getfield 64, 3) := by decide +kernel
theorem d_Model_ahead_83 : decode prog_14_method_77_code 83 = .ok (.iconst 4, 1) := by decide +kernel
theorem d_Model_ahead_84 : decode prog_14_method_77_code 84 = .ok (.iload_n 1, 1) := by decide +kernel
theorem d_Model_ahead_85 : decode prog_14_method_77_code 85 = .ok (.imul, 1) := by decide +kernel
theorem d_Model_ahead_86 : decode prog_14_method_77_code 86 = .ok (.iaload, 1) := by decide +kernel
theorem d_Model_ahead_87 : decode prog_14_method_77_code 87 = .ok (.goto 13, 3) := by decide +kernel
theorem d_Model_ahead_90 : decode prog_14_method_77_code 90 = .ok (.aload_n 0, 1) := by decide +kernel
theorem d_Model_ahead_91 : decode prog_14_method_77_code 91 = .ok (.getfield 64, 3) := by decide +kernel
theorem d_Model_ahead_94 : decode prog_14_method_77_code 94 = .ok (.iconst 4, 1) := by decide +kernel
theorem d_Model_ahead_95 : decode prog_14_method_77_code 95 = .ok (.iload_n 1, 1) := by decide +kernel
theorem d_Model_ahead_96 : decode prog_14_method_77_code 96 = .ok (.imul, 1) := by decide +kernel
theorem d_Model_ahead_97 : decode prog_14_method_77_code 97 = .ok (.iconst 3, 1) := by decide +kernel
theorem d_Model_ahead_98 : decode prog_14_method_77_code 98 = .ok (.iadd, 1) := by decide +kernel
theorem d_Model_ahead_99 : decode prog_14_method_77_code 99 = .ok (.iaload, 1) := by decide +kernel
theorem d_Model_ahead_100 : decode prog_14_method_77_code 100 = .ok (.ireturn, 1) := by decide +kernel
def s_Model_ahead_37 (p0 : Int32) (p1 : Int32) (p2 : Int32) (σ : LH) : Option (Int32 × LH) :=
  some ((-1000000), σ)
theorem b_Model_ahead_37 {G : XG} {l : Launch} {p : Program} {e : Env} {R : Room} {s : State} {m : MethodId} {args : Array Value} {below : List Frame} {meth : Method} {c : Code} (C : XC G 570 598 p s m args c prog_14_method_77_code 5 R_Model) (hr : meth.sig.returnType = (some .int)) (hk : meth.locks = false) {d : Nat} (hd : 124 ≤ d + 1) (hR : xroom R (d + 1)) {p0 : Int32} {p1 : Int32} {p2 : Int32} {σ' : LH} {r : Int32} {σ : LH} (h0 : s_Model_ahead_37 p0 p1 p2 σ = some (r, σ')) : XJ G 570 598 p l e R s m args below meth c 5 (XQ G 570 598 below args s (some (.int r)) σ') 0 0 37 [] [] σ := by
  replace h0 := (show _ = _ from h0)
  unfold s_Model_ahead_37 at h0
  refine x_ldcw (v := (-1000000)) C w_1899 d_Model_ahead_37 ?_
  exact x_iret C hr hk h0 d_Model_ahead_40
def s_Model_ahead_100 (p0 : Int32) (p1 : Int32) (p2 : Int32) (z0 : Int32) (σ : LH) : Option (Int32 × LH) :=
  some (z0, σ)
theorem b_Model_ahead_100 {G : XG} {l : Launch} {p : Program} {e : Env} {R : Room} {s : State} {m : MethodId} {args : Array Value} {below : List Frame} {meth : Method} {c : Code} (C : XC G 570 598 p s m args c prog_14_method_77_code 5 R_Model) (hr : meth.sig.returnType = (some .int)) (hk : meth.locks = false) {d : Nat} (hd : 124 ≤ d + 1) (hR : xroom R (d + 1)) {p0 : Int32} {p1 : Int32} {p2 : Int32} {σ' : LH} {r : Int32} {z0 : Int32} {σ : LH} (h0 : s_Model_ahead_100 p0 p1 p2 z0 σ = some (r, σ')) : XJ G 570 598 p l e R s m args below meth c 5 (XQ G 570 598 below args s (some (.int r)) σ') 0 0 100 [] [.int z0] σ := by
  replace h0 := (show _ = _ from h0)
  unfold s_Model_ahead_100 at h0
  exact x_iret C hr hk h0 d_Model_ahead_100
def s_Model_ahead_55_b (p0 : Int32) (p1 : Int32) (p2 : Int32) (rec55 : Int32 → LH → Option (Int32 × LH)) (y4 : Int32) (σ : LH) : Option (Int32 × LH) :=
  if p1 ≤ y4 then (
   if p2 = 0 then (
    if ib (4 * p0) 290 then (
    s_Model_ahead_100 p0 p1 p2 (σ.1 584 (Int32.toNatClampNeg (4 * p0))) σ) else none)
   else (
    if ib ((4 * p0) + 3) 290 then (
    s_Model_ahead_100 p0 p1 p2 (σ.1 584 (Int32.toNatClampNeg ((4 * p0) + 3))) σ) else none))
  else (
   xb1 (s_Model_goMinute 584 σ) fun σ24 =>
   xl ((y4 + 1) : Int32) fun x25 =>
   rec55 x25 σ24)
def s_Model_ahead_55 (p0 : Int32) (p1 : Int32) (p2 : Int32) : Nat → Int32 → LH → Option (Int32 × LH)
  | 0, _, _ => none
  | n + 1, y4, σ => s_Model_ahead_55_b p0 p1 p2 (s_Model_ahead_55 p0 p1 p2 n) y4 σ
theorem bb_Model_ahead_55 {G : XG} {l : Launch} {p : Program} {e : Env} {R : Room} {s : State} {m : MethodId} {args : Array Value} {below : List Frame} {meth : Method} {c : Code} (C : XC G 570 598 p s m args c prog_14_method_77_code 5 R_Model) (hr : meth.sig.returnType = (some .int)) (hk : meth.locks = false) {d : Nat} (hd : 124 ≤ d + 1) (hR : xroom R (d + 1)) {p0 : Int32} {p1 : Int32} {p2 : Int32} {rec55 : Int32 → LH → Option (Int32 × LH)} {σ' : LH} {r : Int32} (hrec55 : ∀ (y4 : Int32) (σ : LH), rec55 y4 σ = some (r, σ') → XJ G 570 598 p l e R s m args below meth c 5 (XQ G 570 598 below args s (some (.int r)) σ') 0 0 55 [(0, .ref (G.2.2.1 + 570)), (1, .int p0), (2, .int p1), (3, .int p2), (4, .int y4)] [] σ) {y4 : Int32} {σ : LH} (h0 : s_Model_ahead_55_b p0 p1 p2 rec55 y4 σ = some (r, σ')) : XJ G 570 598 p l e R s m args below meth c 5 (XQ G 570 598 below args s (some (.int r)) σ') 0 0 55 [(0, .ref (G.2.2.1 + 570)), (1, .int p0), (2, .int p1), (3, .int p2), (4, .int y4)] [] σ := by
  replace h0 := (show _ = _ from h0)
  unfold s_Model_ahead_55_b at h0
  refine x_iload C d_Model_ahead_55 4 rfl ?_
  refine x_iload_n C d_Model_ahead_57 2 rfl ?_
  refine x_icmp_ge C 75 d_Model_ahead_58 (by decide) (fun q19 => ?_) (fun q19 => ?_)
  · replace h0 := xit q19 h0
    refine x_iload_n C d_Model_ahead_75 3 rfl ?_
    refine x_if_ne C 90 d_Model_ahead_76 (by decide) (fun q20 => ?_) (fun q20 => ?_)
    · replace h0 := xif q20 h0
      refine x_aload_n C d_Model_ahead_90 0 rfl ?_
      refine x_getA (y := 584) C fg_Model_64 k_570 rfl d_Model_ahead_91 ?_
      refine x_iconst (v := 4) C d_Model_ahead_94 (by decide) ?_
      refine x_iload_n C d_Model_ahead_95 1 rfl ?_
      refine x_imul C d_Model_ahead_96 ?_
      refine x_iconst (v := 3) C d_Model_ahead_97 (by decide) ?_
      refine x_iadd C d_Model_ahead_98 ?_
      obtain ⟨g22, h0⟩ := xgo h0
      refine x_iald C k_584 (ib_in g22) d_Model_ahead_99 ?_
      exact x_lv C [] rfl (b_Model_ahead_100 C hr hk hd hR h0)
    · replace h0 := xit q20 h0
      refine x_aload_n C d_Model_ahead_79 0 rfl ?_
      refine x_getA (y := 584) C fg_Model_64 k_570 rfl d_Model_ahead_80 ?_
      refine x_iconst (v := 4) C d_Model_ahead_83 (by decide) ?_
      refine x_iload_n C d_Model_ahead_84 1 rfl ?_
      refine x_imul C d_Model_ahead_85 ?_
      obtain ⟨g21, h0⟩ := xgo h0
      refine x_iald C k_584 (ib_in g21) d_Model_ahead_86 ?_
      refine x_goto C 100 d_Model_ahead_87 (by decide) ?_
      exact x_lv C [] rfl (b_Model_ahead_100 C hr hk hd hR h0)
  · replace h0 := xif q19 h0
    refine x_aload_n C d_Model_ahead_61 0 rfl ?_
    refine x_aload_n C d_Model_ahead_62 0 rfl ?_
    refine x_getA (y := 584) C fg_Model_64 k_570 rfl d_Model_ahead_63 ?_
    obtain ⟨σ24, k23, h0⟩ := xbind1 h0
    refine x_callVv C hR (c_Model_goMinute (d := d) (by omega) k_584 k23) cw_Model_404 k_570 rfl rfl rfl (Nat.le_of_ble_eq_true rfl) ⟨Nat.zero_le _, Nat.zero_le _⟩ d_Model_ahead_66 ?_
    obtain ⟨x25, ex25, h0⟩ := xlet h0
    refine x_iinc (lv' := [(4, .int x25), (0, .ref (G.2.2.1 + 570)), (1, .int p0), (2, .int p1), (3, .int p2)]) C d_Model_ahead_69 4 rfl ex25 (by decide) rfl ?_
    refine x_goto C 55 d_Model_ahead_72 (by decide) ?_
    exact x_lv C [1, 2, 3, 4, 0] rfl (hrec55 _ _ h0)
theorem b_Model_ahead_55 {G : XG} {l : Launch} {p : Program} {e : Env} {R : Room} {s : State} {m : MethodId} {args : Array Value} {below : List Frame} {meth : Method} {c : Code} (C : XC G 570 598 p s m args c prog_14_method_77_code 5 R_Model) (hr : meth.sig.returnType = (some .int)) (hk : meth.locks = false) {d : Nat} (hd : 124 ≤ d + 1) (hR : xroom R (d + 1)) {p0 : Int32} {p1 : Int32} {p2 : Int32} {σ' : LH} {r : Int32} : ∀ (n : Nat) (y4 : Int32) (σ : LH), s_Model_ahead_55 p0 p1 p2 n y4 σ = some (r, σ') → XJ G 570 598 p l e R s m args below meth c 5 (XQ G 570 598 below args s (some (.int r)) σ') 0 0 55 [(0, .ref (G.2.2.1 + 570)), (1, .int p0), (2, .int p1), (3, .int p2), (4, .int y4)] [] σ := by
  intro n
  induction n with
  | zero => intro y4 σ h0; cases h0
  | succ n ih => intro y4 σ h0; exact bb_Model_ahead_55 C hr hk hd hR ih h0
def s_Model_ahead (p0 : Int32) (p1 : Int32) (p2 : Int32) (σ : LH) : Option (Int32 × LH) :=
  xl ((stI σ 570 0 0) : LH) fun σ1 =>
  xb2 (s_Model_isSitter p0 σ1) fun r3 σ4 =>
  if r3 = 0 then (
   s_Model_ahead_37 p0 p1 p2 σ4)
  else (
   xb2 (s_Model_left σ4) fun r7 σ8 =>
   xb2 (s_Model_isIn (Int32.toInt64 p1) 0 (Int32.toInt64 r7) σ8) fun r10 σ11 =>
   if r10 = 0 then (
    s_Model_ahead_37 p0 p1 p2 σ11)
   else (
    xb2 (s_Model_isIn (Int32.toInt64 p2) 0 1 σ11) fun r14 σ15 =>
    if r14 = 0 then (
     s_Model_ahead_37 p0 p1 p2 σ15)
    else (
     xb1 (s_Model_copy 583 584 σ15) fun σ18 =>
     s_Model_ahead_55 p0 p1 p2 FUEL 0 σ18)))
theorem c_Model_ahead {G : XG} {l : Launch} {d : Nat} (hd : 124 ≤ d) {p0 : Int32} {p1 : Int32} {p2 : Int32} {σ σ' : LH} {r : Int32} (h0 : s_Model_ahead p0 p1 p2 σ = some (r, σ')) : xM G 570 598 l y_Model_ahead prog_14_method_77_code 5 (some .int) d [.ref (G.2.2.1 + 570), .int p0, .int p1, .int p2] σ (some (.int r)) σ' := by
  obtain ⟨d, rfl⟩ : ∃ q, d = q + 1 := ⟨d - 1, by omega⟩
  refine x_met R_Model rfl (by decide +kernel) (Nat.le_of_ble_eq_true rfl) fun p e s m below meth c C hr hk hR => ?_
  refine x_lv (lv' := [(0, .ref (G.2.2.1 + 570)), (1, .int p0), (2, .int p1), (3, .int p2)]) C [0, 1, 2, 3] rfl ?_
  generalize xrm (d + 1) = R at hR ⊢
  unfold s_Model_ahead at h0
  refine x_aload_n C d_Model_ahead_0 0 rfl ?_
  refine x_iconst (v := 0) C d_Model_ahead_1 (by decide) ?_
  refine x_putI (y := 0) C fp_Model_114 k_570 rfl rfl rfl d_Model_ahead_2 ?_
  obtain ⟨σ1, eσ1, h0⟩ := xlet h0
  refine x_sig C eσ1 ?_
  refine x_aload_n C d_Model_ahead_5 0 rfl ?_
  refine x_iload_n C d_Model_ahead_6 1 rfl ?_
  obtain ⟨r3, σ4, k2, h0⟩ := xbind2 h0
  refine x_callVi C hR (c_Model_isSitter (d := d) (by omega) k2) cw_Model_412 k_570 rfl rfl rfl (Nat.le_of_ble_eq_true rfl) ⟨Nat.zero_le _, Nat.zero_le _⟩ d_Model_ahead_7 ?_
  refine x_if_eq C 37 d_Model_ahead_10 (by decide) (fun q5 => ?_) (fun q5 => ?_)
  · replace h0 := xit q5 h0
    exact x_lv C [] rfl (b_Model_ahead_37 C hr hk hd hR h0)
  · replace h0 := xif q5 h0
    refine x_iload_n C d_Model_ahead_13 2 rfl ?_
    refine x_i2l C d_Model_ahead_14 ?_
    refine x_lconst (v := 0) C d_Model_ahead_15 (by decide) ?_
    refine x_aload_n C d_Model_ahead_16 0 rfl ?_
    obtain ⟨r7, σ8, k6, h0⟩ := xbind2 h0
    refine x_callVi C hR (c_Model_left (d := d) (by omega) k6) cw_Model_423 k_570 rfl rfl rfl (Nat.le_of_ble_eq_true rfl) ⟨Nat.zero_le _, Nat.zero_le _⟩ d_Model_ahead_17 ?_
    refine x_i2l C d_Model_ahead_20 ?_
    obtain ⟨r10, σ11, k9, h0⟩ := xbind2 h0
    refine x_callSi C hR (c_Model_isIn (d := d) (by omega) k9) cw_Model_235 w_1695 rfl rfl (Nat.le_of_ble_eq_true rfl) ⟨Nat.zero_le _, Nat.zero_le _⟩ d_Model_ahead_21 ?_
    refine x_if_eq C 37 d_Model_ahead_24 (by decide) (fun q12 => ?_) (fun q12 => ?_)
    · replace h0 := xit q12 h0
      exact x_lv C [] rfl (b_Model_ahead_37 C hr hk hd hR h0)
    · replace h0 := xif q12 h0
      refine x_iload_n C d_Model_ahead_27 3 rfl ?_
      refine x_i2l C d_Model_ahead_28 ?_
      refine x_lconst (v := 0) C d_Model_ahead_29 (by decide) ?_
      refine x_lconst (v := 1) C d_Model_ahead_30 (by decide) ?_
      obtain ⟨r14, σ15, k13, h0⟩ := xbind2 h0
      refine x_callSi C hR (c_Model_isIn (d := d) (by omega) k13) cw_Model_235 w_1695 rfl rfl (Nat.le_of_ble_eq_true rfl) ⟨Nat.zero_le _, Nat.zero_le _⟩ d_Model_ahead_31 ?_
      refine x_if_ne C 41 d_Model_ahead_34 (by decide) (fun q16 => ?_) (fun q16 => ?_)
      · replace h0 := xif q16 h0
        refine x_aload_n C d_Model_ahead_41 0 rfl ?_
        refine x_getA (y := 583) C fg_Model_61 k_570 rfl d_Model_ahead_42 ?_
        refine x_aload_n C d_Model_ahead_45 0 rfl ?_
        refine x_getA (y := 584) C fg_Model_64 k_570 rfl d_Model_ahead_46 ?_
        obtain ⟨σ18, k17, h0⟩ := xbind1 h0
        refine x_callSv C hR (c_Model_copy (d := d) (by omega) k_583 k_584 k17) cw_Model_447 w_2011 rfl rfl (Nat.le_of_ble_eq_true rfl) ⟨Nat.zero_le _, Nat.zero_le _⟩ d_Model_ahead_49 ?_
        refine x_iconst (v := 0) C d_Model_ahead_52 (by decide) ?_
        refine x_istore (lv' := [(4, .int 0), (0, .ref (G.2.2.1 + 570)), (1, .int p0), (2, .int p1), (3, .int p2)]) C d_Model_ahead_53 (by decide) rfl ?_
        exact x_lv C [1, 2, 3, 4, 0] rfl (b_Model_ahead_55 C hr hk hd hR FUEL _ _ h0)
      · replace h0 := xit q16 h0
        exact x_lv C [] rfl (b_Model_ahead_37 C hr hk hd hR h0)
-- LostPlacesModel.chain(II)I
theorem d_Model_chain_0 : decode prog_14_method_78_code 0 = .ok (.aload_n 0, 1) := by decide +kernel
theorem d_Model_chain_1 : decode prog_14_method_78_code 1 = .ok (.iconst 0, 1) := by decide +kernel
theorem d_Model_chain_2 : decode prog_14_method_78_code 2 = .ok (.putfield 114, 3) := by decide +kernel
theorem d_Model_chain_5 : decode prog_14_method_78_code 5 = .ok (.aload_n 0, 1) := by decide +kernel
theorem d_Model_chain_6 : decode prog_14_method_78_code 6 = .ok (.iload_n 1, 1) := by decide +kernel
theorem d_Model_chain_7 : decode prog_14_method_78_code 7 = .ok (.invokevirtual 412, 3) := by decide +kernel
theorem d_Model_chain_10 : decode prog_14_method_78_code 10 = .ok (.ifCond .eq 31, 3) := by decide +kernel
theorem d_Model_chain_13 : decode prog_14_method_78_code 13 = .ok (.aload_n 0, 1) := by decide +kernel
theorem d_Model_chain_14 : decode prog_14_method_78_code 14 = .ok (.getfield 61, 3) := by decide +kernel
theorem d_Model_chain_17 : decode prog_14_method_78_code 17 = .ok (.iconst 4, 1) := by decide +kernel
theorem d_Model_chain_18 : decode prog_14_method_78_code 18 = .ok (.iload_n 1, 1) := by decide +kernel
theorem d_Model_chain_19 : decode prog_14_method_78_code 19 = .ok (.imul, 1) := by decide +kernel
theorem d_Model_chain_20 : decode prog_14_method_78_code 20 = .ok (.iaload, 1) := by decide +kernel
theorem d_Model_chain_21 : decode prog_14_method_78_code 21 = .ok (.ifCond .lt 20, 3) := by decide +kernel
theorem d_Model_chain_24 : decode prog_14_method_78_code 24 = .ok (.aload_n 0, 1) := by decide +kernel
theorem d_Model_chain_25 : decode prog_14_method_78_code 25 = .ok (.invokevirtual 428, 3) := by decide +kernel
theorem d_Model_chain_28 : decode prog_14_method_78_code 28 = .ok (.ifCond .eq 13, 3) := by decide +kernel
theorem d_Model_chain_31 : decode prog_14_method_78_code 31 = .ok (.iload_n 2, 1) := by decide +kernel
theorem d_Model_chain_32 : decode prog_14_method_78_code 32 = .ok (.i2l, 1) := by decide +kernel
theorem d_Model_chain_33 : decode prog_14_method_78_code 33 = .ok (.lconst 0, 1) := by decide +kernel
theorem d_Model_chain_34 : decode prog_14_method_78_code 34 = .ok (.lconst 1, 1) := by decide +kernel
theorem d_Model_chain_35 : decode prog_14_method_78_code 35 = .ok (.invokestatic 235, 3) := by decide +kernel
theorem d_Model_chain_38 : decode prog_14_method_78_code 38 = .ok (.ifCond .ne 7, 3) := by decide +kernel
theorem d_Model_chain_41 : decode prog_14_method_78_code 41 = .ok (.ldc_w 422, 3) := by decide +kernel
theorem d_Model_chain_44 : decode prog_14_method_78_code 44 = .ok (.ireturn, 1) := by decide +kernel
theorem d_Model_chain_45 : decode prog_14_method_78_code 45 = .ok (.aload_n 0, 1) := by decide +kernel
theorem d_Model_chain_46 : decode prog_14_method_78_code 46 = .ok (.getfield 61, 3) := by decide +kernel
theorem d_Model_chain_49 : decode prog_14_method_78_code 49 = .ok (.aload_n 0, 1) := by decide +kernel
theorem d_Model_chain_50 : decode prog_14_method_78_code 50 = .ok (.getfield 64, 3) := by decide +kernel
theorem d_Model_chain_53 : decode prog_14_method_78_code 53 = .ok (.invokestatic 447, 3) := by decide +kernel
theorem d_Model_chain_56 : decode prog_14_method_78_code 56 = .ok (.aload_n 0, 1) := by decide +kernel
theorem d_Model_chain_57 : decode prog_14_method_78_code 57 = .ok (.aload_n 0, 1) := by decide +kernel
theorem d_Model_chain_58 : decode prog_14_method_78_code 58 = .ok (.getfield 64, 3) := by decide +kernel
theorem d_Model_chain_61 : decode prog_14_method_78_code 61 = .ok (.iload_n 1, 1) := by decide +kernel
theorem d_Model_chain_62 : decode prog_14_method_78_code 62 = .ok (.iconst 1, 1) := by decide +kernel
theorem d_Model_chain_63 : decode prog_14_method_78_code 63 = .ok (.iconst 1, 1) := by decide +kernel
theorem d_Model_chain_64 : decode prog_14_method_78_code 64 = .ok (.invokevirtual 387, 3) := by decide +kernel
theorem d_Model_chain_67 : decode prog_14_method_78_code 67 = .ok (.aload_n 0, 1) := by decide +kernel
theorem d_Model_chain_68 : decode prog_14_method_78_code 68 = .ok (.iconst 0, 1) := by decide +kernel
theorem d_Model_chain_69 : decode prog_14_method_78_code 69 = .ok (.putfield 374, 3) := by decide +kernel
theorem d_Model_chain_72 : decode prog_14_method_78_code 72 = .ok (.aload_n 0, 1) := by decide +kernel
theorem d_Model_chain_73 : decode prog_14_method_78_code 73 = .ok (.aload_n 0, 1) := by decide +kernel
theorem d_Model_chain_74 : decode prog_14_method_78_code 74 = .ok (.getfield 64, 3) := by decide +kernel
theorem d_Model_chain_77 : decode prog_14_method_78_code 77 = .ok (.invokevirtual 398, 3) := by decide +kernel
theorem d_Model_chain_80 : decode prog_14_method_78_code 80 = .ok (.iload_n 2, 1) := by decide +kernel
theorem d_Model_chain_81 : decode prog_14_method_78_code 81 = .ok (.ifCond .ne 10, 3) := by decide +kernel
theorem d_Model_chain_84 : decode prog_14_method_78_code 84 = .ok (.aload_n 0, 1) := by decide +kernel
theorem d_Model_chain_85 : decode prog_14_method_78_code 85 = .ok (.getfield 374, 3) := by decide +kernel
theorem d_Model_chain_88 : decode prog_14_method_78_code 88 = .ok (.goto 19, 3) := by decide +kernel
theorem d_Model_chain_91 : decode prog_14_method_78_code 91 = .ok (.aload_n 0, 1) := by decide +kernel
theorem d_Model_chain_92 : decode prog_14_method_78_code 92 = .ok (.aload_n 0, 1) := by decide +kernel
theorem d_Model_chain_93 : decode prog_14_method_78_code 93 = .ok (.getfield 64, 3) := by decide +kernel
theorem d_Model_chain_96 : decode prog_14_method_78_code 96 = .ok (.aload_n 0, 1) := by decide +kernel
theorem d_Model_chain_97 : decode prog_14_method_78_code 97 = .ok (.getfield 61, 3) := by decide +kernel
theorem d_Model_chain_100 : decode prog_14_method_78_code 100 = .ok (.iconst 4, 1) := by decide +kernel
theorem d_Model_chain_101 : decode prog_14_method_78_code 101 = .ok (.iload_n 1, 1) := by decide +kernel
theorem d_Model_chain_102 : decode prog_14_method_78_code 102 = .ok (.imul, 1) := by decide +kernel
theorem d_Model_chain_103 : decode prog_14_method_78_code 103 = .ok (.iaload, 1) := by decide +kernel
theorem d_Model_chain_104 : decode prog_14_method_78_code 104 = .ok (.invokevirtual 320, 3) := by decide +kernel
theorem d_Model_chain_107 : decode prog_14_method_78_code 107 = .ok (.ireturn, 1) := by decide +kernel
def s_Model_chain_41 (p0 : Int32) (p1 : Int32) (σ : LH) : Option (Int32 × LH) :=
  some ((-1000000), σ)
theorem b_Model_chain_41 {G : XG} {l : Launch} {p : Program} {e : Env} {R : Room} {s : State} {m : MethodId} {args : Array Value} {below : List Frame} {meth : Method} {c : Code} (C : XC G 570 598 p s m args c prog_14_method_78_code 3 R_Model) (hr : meth.sig.returnType = (some .int)) (hk : meth.locks = false) {d : Nat} (hd : 122 ≤ d + 1) (hR : xroom R (d + 1)) {p0 : Int32} {p1 : Int32} {σ' : LH} {r : Int32} {σ : LH} (h0 : s_Model_chain_41 p0 p1 σ = some (r, σ')) : XJ G 570 598 p l e R s m args below meth c 3 (XQ G 570 598 below args s (some (.int r)) σ') 0 0 41 [] [] σ := by
  replace h0 := (show _ = _ from h0)
  unfold s_Model_chain_41 at h0
  refine x_ldcw (v := (-1000000)) C w_1899 d_Model_chain_41 ?_
  exact x_iret C hr hk h0 d_Model_chain_44
def s_Model_chain_107 (p0 : Int32) (p1 : Int32) (z0 : Int32) (σ : LH) : Option (Int32 × LH) :=
  some (z0, σ)
theorem b_Model_chain_107 {G : XG} {l : Launch} {p : Program} {e : Env} {R : Room} {s : State} {m : MethodId} {args : Array Value} {below : List Frame} {meth : Method} {c : Code} (C : XC G 570 598 p s m args c prog_14_method_78_code 3 R_Model) (hr : meth.sig.returnType = (some .int)) (hk : meth.locks = false) {d : Nat} (hd : 122 ≤ d + 1) (hR : xroom R (d + 1)) {p0 : Int32} {p1 : Int32} {σ' : LH} {r : Int32} {z0 : Int32} {σ : LH} (h0 : s_Model_chain_107 p0 p1 z0 σ = some (r, σ')) : XJ G 570 598 p l e R s m args below meth c 3 (XQ G 570 598 below args s (some (.int r)) σ') 0 0 107 [] [.int z0] σ := by
  replace h0 := (show _ = _ from h0)
  unfold s_Model_chain_107 at h0
  exact x_iret C hr hk h0 d_Model_chain_107
def s_Model_chain (p0 : Int32) (p1 : Int32) (σ : LH) : Option (Int32 × LH) :=
  xl ((stI σ 570 0 0) : LH) fun σ1 =>
  xb2 (s_Model_isSitter p0 σ1) fun r3 σ4 =>
  if r3 = 0 then (
   s_Model_chain_41 p0 p1 σ4)
  else (
   if ib (4 * p0) 290 then (
   if (σ4.1 583 (Int32.toNatClampNeg (4 * p0))) < 0 then (
    s_Model_chain_41 p0 p1 σ4)
   else (
    xb2 (s_Model_isOpen σ4) fun r9 σ10 =>
    if r9 = 0 then (
     s_Model_chain_41 p0 p1 σ10)
    else (
     xb2 (s_Model_isIn (Int32.toInt64 p1) 0 1 σ10) fun r13 σ14 =>
     if r13 = 0 then (
      s_Model_chain_41 p0 p1 σ14)
     else (
      xb1 (s_Model_copy 583 584 σ14) fun σ17 =>
      xb1 (s_Model_goesUp 584 p0 1 1 σ17) fun σ19 =>
      xl ((stI σ19 570 41 0) : LH) fun σ20 =>
      xb1 (s_Model_movesUp 584 σ20) fun σ22 =>
      if p1 = 0 then (
       s_Model_chain_107 p0 p1 (σ22.1 570 41) σ22)
      else (
       if ib (4 * p0) 290 then (
       xb2 (s_Model_sitsOn 584 (σ22.1 583 (Int32.toNatClampNeg (4 * p0))) σ22) fun r26 σ27 =>
       s_Model_chain_107 p0 p1 r26 σ27) else none))))) else none)
theorem c_Model_chain {G : XG} {l : Launch} {d : Nat} (hd : 122 ≤ d) {p0 : Int32} {p1 : Int32} {σ σ' : LH} {r : Int32} (h0 : s_Model_chain p0 p1 σ = some (r, σ')) : xM G 570 598 l y_Model_chain prog_14_method_78_code 3 (some .int) d [.ref (G.2.2.1 + 570), .int p0, .int p1] σ (some (.int r)) σ' := by
  obtain ⟨d, rfl⟩ : ∃ q, d = q + 1 := ⟨d - 1, by omega⟩
  refine x_met R_Model rfl (by decide +kernel) (Nat.le_of_ble_eq_true rfl) fun p e s m below meth c C hr hk hR => ?_
  refine x_lv (lv' := [(0, .ref (G.2.2.1 + 570)), (1, .int p0), (2, .int p1)]) C [0, 1, 2] rfl ?_
  generalize xrm (d + 1) = R at hR ⊢
  unfold s_Model_chain at h0
  refine x_aload_n C d_Model_chain_0 0 rfl ?_
  refine x_iconst (v := 0) C d_Model_chain_1 (by decide) ?_
  refine x_putI (y := 0) C fp_Model_114 k_570 rfl rfl rfl d_Model_chain_2 ?_
  obtain ⟨σ1, eσ1, h0⟩ := xlet h0
  refine x_sig C eσ1 ?_
  refine x_aload_n C d_Model_chain_5 0 rfl ?_
  refine x_iload_n C d_Model_chain_6 1 rfl ?_
  obtain ⟨r3, σ4, k2, h0⟩ := xbind2 h0
  refine x_callVi C hR (c_Model_isSitter (d := d) (by omega) k2) cw_Model_412 k_570 rfl rfl rfl (Nat.le_of_ble_eq_true rfl) ⟨Nat.zero_le _, Nat.zero_le _⟩ d_Model_chain_7 ?_
  refine x_if_eq C 41 d_Model_chain_10 (by decide) (fun q5 => ?_) (fun q5 => ?_)
  · replace h0 := xit q5 h0
    exact x_lv C [] rfl (b_Model_chain_41 C hr hk hd hR h0)
  · replace h0 := xif q5 h0
    refine x_aload_n C d_Model_chain_13 0 rfl ?_
    refine x_getA (y := 583) C fg_Model_61 k_570 rfl d_Model_chain_14 ?_
    refine x_iconst (v := 4) C d_Model_chain_17 (by decide) ?_
    refine x_iload_n C d_Model_chain_18 1 rfl ?_
    refine x_imul C d_Model_chain_19 ?_
    obtain ⟨g6, h0⟩ := xgo h0
    refine x_iald C k_583 (ib_in g6) d_Model_chain_20 ?_
    refine x_if_lt C 41 d_Model_chain_21 (by decide) (fun q7 => ?_) (fun q7 => ?_)
    · replace h0 := xit q7 h0
      exact x_lv C [] rfl (b_Model_chain_41 C hr hk hd hR h0)
    · replace h0 := xif q7 h0
      refine x_aload_n C d_Model_chain_24 0 rfl ?_
      obtain ⟨r9, σ10, k8, h0⟩ := xbind2 h0
      refine x_callVi C hR (c_Model_isOpen (d := d) (by omega) k8) cw_Model_428 k_570 rfl rfl rfl (Nat.le_of_ble_eq_true rfl) ⟨Nat.zero_le _, Nat.zero_le _⟩ d_Model_chain_25 ?_
      refine x_if_eq C 41 d_Model_chain_28 (by decide) (fun q11 => ?_) (fun q11 => ?_)
      · replace h0 := xit q11 h0
        exact x_lv C [] rfl (b_Model_chain_41 C hr hk hd hR h0)
      · replace h0 := xif q11 h0
        refine x_iload_n C d_Model_chain_31 2 rfl ?_
        refine x_i2l C d_Model_chain_32 ?_
        refine x_lconst (v := 0) C d_Model_chain_33 (by decide) ?_
        refine x_lconst (v := 1) C d_Model_chain_34 (by decide) ?_
        obtain ⟨r13, σ14, k12, h0⟩ := xbind2 h0
        refine x_callSi C hR (c_Model_isIn (d := d) (by omega) k12) cw_Model_235 w_1695 rfl rfl (Nat.le_of_ble_eq_true rfl) ⟨Nat.zero_le _, Nat.zero_le _⟩ d_Model_chain_35 ?_
        refine x_if_ne C 45 d_Model_chain_38 (by decide) (fun q15 => ?_) (fun q15 => ?_)
        · replace h0 := xif q15 h0
          refine x_aload_n C d_Model_chain_45 0 rfl ?_
          refine x_getA (y := 583) C fg_Model_61 k_570 rfl d_Model_chain_46 ?_
          refine x_aload_n C d_Model_chain_49 0 rfl ?_
          refine x_getA (y := 584) C fg_Model_64 k_570 rfl d_Model_chain_50 ?_
          obtain ⟨σ17, k16, h0⟩ := xbind1 h0
          refine x_callSv C hR (c_Model_copy (d := d) (by omega) k_583 k_584 k16) cw_Model_447 w_2011 rfl rfl (Nat.le_of_ble_eq_true rfl) ⟨Nat.zero_le _, Nat.zero_le _⟩ d_Model_chain_53 ?_
          refine x_aload_n C d_Model_chain_56 0 rfl ?_
          refine x_aload_n C d_Model_chain_57 0 rfl ?_
          refine x_getA (y := 584) C fg_Model_64 k_570 rfl d_Model_chain_58 ?_
          refine x_iload_n C d_Model_chain_61 1 rfl ?_
          refine x_iconst (v := 1) C d_Model_chain_62 (by decide) ?_
          refine x_iconst (v := 1) C d_Model_chain_63 (by decide) ?_
          obtain ⟨σ19, k18, h0⟩ := xbind1 h0
          refine x_callVv C hR (c_Model_goesUp (d := d) (by omega) k_584 k18) cw_Model_387 k_570 rfl rfl rfl (Nat.le_of_ble_eq_true rfl) ⟨Nat.zero_le _, Nat.zero_le _⟩ d_Model_chain_64 ?_
          refine x_aload_n C d_Model_chain_67 0 rfl ?_
          refine x_iconst (v := 0) C d_Model_chain_68 (by decide) ?_
          refine x_putI (y := 0) C fp_Model_374 k_570 rfl rfl rfl d_Model_chain_69 ?_
          obtain ⟨σ20, eσ20, h0⟩ := xlet h0
          refine x_sig C eσ20 ?_
          refine x_aload_n C d_Model_chain_72 0 rfl ?_
          refine x_aload_n C d_Model_chain_73 0 rfl ?_
          refine x_getA (y := 584) C fg_Model_64 k_570 rfl d_Model_chain_74 ?_
          obtain ⟨σ22, k21, h0⟩ := xbind1 h0
          refine x_callVv C hR (c_Model_movesUp (d := d) (by omega) k_584 k21) cw_Model_398 k_570 rfl rfl rfl (Nat.le_of_ble_eq_true rfl) ⟨Nat.zero_le _, Nat.zero_le _⟩ d_Model_chain_77 ?_
          refine x_iload_n C d_Model_chain_80 2 rfl ?_
          refine x_if_ne C 91 d_Model_chain_81 (by decide) (fun q23 => ?_) (fun q23 => ?_)
          · replace h0 := xif q23 h0
            refine x_aload_n C d_Model_chain_91 0 rfl ?_
            refine x_aload_n C d_Model_chain_92 0 rfl ?_
            refine x_getA (y := 584) C fg_Model_64 k_570 rfl d_Model_chain_93 ?_
            refine x_aload_n C d_Model_chain_96 0 rfl ?_
            refine x_getA (y := 583) C fg_Model_61 k_570 rfl d_Model_chain_97 ?_
            refine x_iconst (v := 4) C d_Model_chain_100 (by decide) ?_
            refine x_iload_n C d_Model_chain_101 1 rfl ?_
            refine x_imul C d_Model_chain_102 ?_
            obtain ⟨g24, h0⟩ := xgo h0
            refine x_iald C k_583 (ib_in g24) d_Model_chain_103 ?_
            obtain ⟨r26, σ27, k25, h0⟩ := xbind2 h0
            refine x_callVi C hR (c_Model_sitsOn (d := d) (by omega) k_584 k25) cw_Model_320 k_570 rfl rfl rfl (Nat.le_of_ble_eq_true rfl) ⟨Nat.zero_le _, Nat.zero_le _⟩ d_Model_chain_104 ?_
            exact x_lv C [] rfl (b_Model_chain_107 C hr hk hd hR h0)
          · replace h0 := xit q23 h0
            refine x_aload_n C d_Model_chain_84 0 rfl ?_
            refine x_getI (y := 0) C fg_Model_374 k_570 rfl d_Model_chain_85 ?_
            refine x_goto C 107 d_Model_chain_88 (by decide) ?_
            exact x_lv C [] rfl (b_Model_chain_107 C hr hk hd hR h0)
        · replace h0 := xit q15 h0
          exact x_lv C [] rfl (b_Model_chain_41 C hr hk hd hR h0)
-- LostPlacesModel.extra(III)V
theorem d_Model_extra_0 : decode prog_14_method_79_code 0 = .ok (.aload_n 0, 1) := by decide +kernel
theorem d_Model_extra_1 : decode prog_14_method_79_code 1 = .ok (.getfield 81, 3) := by decide +kernel
theorem d_Model_extra_4 : decode prog_14_method_79_code 4 = .ok (.aload_n 0, 1) := by decide +kernel
theorem d_Model_extra_5 : decode prog_14_method_79_code 5 = .ok (.getfield 391, 3) := by decide +kernel
theorem d_Model_extra_8 : decode prog_14_method_79_code 8 = .ok (.iload_n 1, 1) := by decide +kernel
theorem d_Model_extra_9 : decode prog_14_method_79_code 9 = .ok (.iastore, 1) := by decide +kernel
theorem d_Model_extra_10 : decode prog_14_method_79_code 10 = .ok (.aload_n 0, 1) := by decide +kernel
theorem d_Model_extra_11 : decode prog_14_method_79_code 11 = .ok (.getfield 84, 3) := by decide +kernel
theorem d_Model_extra_14 : decode prog_14_method_79_code 14 = .ok (.aload_n 0, 1) := by decide +kernel
theorem d_Model_extra_15 : decode prog_14_method_79_code 15 = .ok (.getfield 391, 3) := by decide +kernel
theorem d_Model_extra_18 : decode prog_14_method_79_code 18 = .ok (.iload_n 2, 1) := by decide +kernel
theorem d_Model_extra_19 : decode prog_14_method_79_code 19 = .ok (.iastore, 1) := by decide +kernel
theorem d_Model_extra_20 : decode prog_14_method_79_code 20 = .ok (.aload_n 0, 1) := by decide +kernel
theorem d_Model_extra_21 : decode prog_14_method_79_code 21 = .ok (.getfield 87, 3) := by decide +kernel
theorem d_Model_extra_24 : decode prog_14_method_79_code 24 = .ok (.aload_n 0, 1) := by decide +kernel
theorem d_Model_extra_25 : decode prog_14_method_79_code 25 = .ok (.getfield 391, 3) := by decide +kernel
theorem d_Model_extra_28 : decode prog_14_method_79_code 28 = .ok (.iload_n 3, 1) := by decide +kernel
theorem d_Model_extra_29 : decode prog_14_method_79_code 29 = .ok (.iastore, 1) := by decide +kernel
theorem d_Model_extra_30 : decode prog_14_method_79_code 30 = .ok (.aload_n 0, 1) := by decide +kernel
theorem d_Model_extra_31 : decode prog_14_method_79_code 31 = .ok (.dup, 1) := by decide +kernel
theorem d_Model_extra_32 : decode prog_14_method_79_code 32 = .ok (.getfield 391, 3) := by decide +kernel
theorem d_Model_extra_35 : decode prog_14_method_79_code 35 = .ok (.iconst 1, 1) := by decide +kernel
theorem d_Model_extra_36 : decode prog_14_method_79_code 36 = .ok (.iadd, 1) := by decide +kernel
theorem d_Model_extra_37 : decode prog_14_method_79_code 37 = .ok (.putfield 391, 3) := by decide +kernel
theorem d_Model_extra_40 : decode prog_14_method_79_code 40 = .ok (.return_, 1) := by decide +kernel
def s_Model_extra (p0 : Int32) (p1 : Int32) (p2 : Int32) (σ : LH) : Option (LH) :=
  if ib (σ.1 570 40) 8 then (
  xl ((stI σ 587 (Int32.toNatClampNeg (σ.1 570 40)) p0) : LH) fun σ2 =>
  if ib (σ2.1 570 40) 8 then (
  xl ((stI σ2 588 (Int32.toNatClampNeg (σ2.1 570 40)) p1) : LH) fun σ4 =>
  if ib (σ4.1 570 40) 8 then (
  xl ((stI σ4 589 (Int32.toNatClampNeg (σ4.1 570 40)) p2) : LH) fun σ6 =>
  xl ((stI σ6 570 40 ((σ6.1 570 40) + 1)) : LH) fun σ7 =>
  some σ7) else none) else none) else none
theorem c_Model_extra {G : XG} {l : Launch} {d : Nat} (hd : 1 ≤ d) {p0 : Int32} {p1 : Int32} {p2 : Int32} {σ σ' : LH} (h0 : s_Model_extra p0 p1 p2 σ = some σ') : xM G 570 598 l y_Model_extra prog_14_method_79_code 4 none d [.ref (G.2.2.1 + 570), .int p0, .int p1, .int p2] σ none σ' := by
  obtain ⟨d, rfl⟩ : ∃ q, d = q + 1 := ⟨d - 1, by omega⟩
  refine x_met R_Model rfl (by decide +kernel) (Nat.le_of_ble_eq_true rfl) fun p e s m below meth c C hr hk hR => ?_
  refine x_lv (lv' := [(0, .ref (G.2.2.1 + 570)), (1, .int p0), (2, .int p1), (3, .int p2)]) C [0, 1, 2, 3] rfl ?_
  generalize xrm (d + 1) = R at hR ⊢
  unfold s_Model_extra at h0
  refine x_aload_n C d_Model_extra_0 0 rfl ?_
  refine x_getA (y := 587) C fg_Model_81 k_570 rfl d_Model_extra_1 ?_
  refine x_aload_n C d_Model_extra_4 0 rfl ?_
  refine x_getI (y := 0) C fg_Model_391 k_570 rfl d_Model_extra_5 ?_
  refine x_iload_n C d_Model_extra_8 1 rfl ?_
  obtain ⟨g1, h0⟩ := xgo h0
  refine x_iast C k_587 (ib_in g1) d_Model_extra_9 ?_
  obtain ⟨σ2, eσ2, h0⟩ := xlet h0
  refine x_sig C eσ2 ?_
  refine x_aload_n C d_Model_extra_10 0 rfl ?_
  refine x_getA (y := 588) C fg_Model_84 k_570 rfl d_Model_extra_11 ?_
  refine x_aload_n C d_Model_extra_14 0 rfl ?_
  refine x_getI (y := 0) C fg_Model_391 k_570 rfl d_Model_extra_15 ?_
  refine x_iload_n C d_Model_extra_18 2 rfl ?_
  obtain ⟨g3, h0⟩ := xgo h0
  refine x_iast C k_588 (ib_in g3) d_Model_extra_19 ?_
  obtain ⟨σ4, eσ4, h0⟩ := xlet h0
  refine x_sig C eσ4 ?_
  refine x_aload_n C d_Model_extra_20 0 rfl ?_
  refine x_getA (y := 589) C fg_Model_87 k_570 rfl d_Model_extra_21 ?_
  refine x_aload_n C d_Model_extra_24 0 rfl ?_
  refine x_getI (y := 0) C fg_Model_391 k_570 rfl d_Model_extra_25 ?_
  refine x_iload_n C d_Model_extra_28 3 rfl ?_
  obtain ⟨g5, h0⟩ := xgo h0
  refine x_iast C k_589 (ib_in g5) d_Model_extra_29 ?_
  obtain ⟨σ6, eσ6, h0⟩ := xlet h0
  refine x_sig C eσ6 ?_
  refine x_aload_n C d_Model_extra_30 0 rfl ?_
  refine x_dup C d_Model_extra_31 rfl ?_
  refine x_getI (y := 0) C fg_Model_391 k_570 rfl d_Model_extra_32 ?_
  refine x_iconst (v := 1) C d_Model_extra_35 (by decide) ?_
  refine x_iadd C d_Model_extra_36 ?_
  refine x_putI (y := 0) C fp_Model_391 k_570 rfl rfl rfl d_Model_extra_37 ?_
  obtain ⟨σ7, eσ7, h0⟩ := xlet h0
  refine x_sig C eσ7 ?_
  exact x_vret C hr hk h0 d_Model_extra_40
-- LostPlacesModel.when(IIII)I
theorem d_Model_when_0 : decode prog_14_method_80_code 0 = .ok (.aload_n 0, 1) := by decide +kernel
theorem d_Model_when_1 : decode prog_14_method_80_code 1 = .ok (.iconst 0, 1) := by decide +kernel
theorem d_Model_when_2 : decode prog_14_method_80_code 2 = .ok (.putfield 114, 3) := by decide +kernel
theorem d_Model_when_5 : decode prog_14_method_80_code 5 = .ok (.aload_n 0, 1) := by decide +kernel
theorem d_Model_when_6 : decode prog_14_method_80_code 6 = .ok (.iload_n 1, 1) := by decide +kernel
theorem d_Model_when_7 : decode prog_14_method_80_code 7 = .ok (.invokevirtual 412, 3) := by decide +kernel
theorem d_Model_when_10 : decode prog_14_method_80_code 10 = .ok (.ifCond .eq 45, 3) := by decide +kernel
theorem d_Model_when_13 : decode prog_14_method_80_code 13 = .ok (.iload_n 2, 1) := by decide +kernel
theorem d_Model_when_14 : decode prog_14_method_80_code 14 = .ok (.i2l, 1) := by decide +kernel
theorem d_Model_when_15 : decode prog_14_method_80_code 15 = .ok (.lconst 1, 1) := by decide +kernel
theorem d_Model_when_16 : decode prog_14_method_80_code 16 = .ok (.ldc2_w 426, 3) := by decide +kernel
theorem d_Model_when_19 : decode prog_14_method_80_code 19 = .ok (.invokestatic 235, 3) := by decide +kernel
theorem d_Model_when_22 : decode prog_14_method_80_code 22 = .ok (.ifCond .eq 33, 3) := by decide +kernel
theorem d_Model_when_25 : decode prog_14_method_80_code 25 = .ok (.iload_n 3, 1) := by decide +kernel
theorem d_Model_when_26 : decode prog_14_method_80_code 26 = .ok (.i2l, 1) := by decide +kernel
theorem d_Model_when_27 : decode prog_14_method_80_code 27 = .ok (.lconst 1, 1) := by decide +kernel
theorem d_Model_when_28 : decode prog_14_method_80_code 28 = .ok (.ldc2_w 451, 3) := by decide +kernel
theorem d_Model_when_31 : decode prog_14_method_80_code 31 = .ok (.invokestatic 235, 3) := by decide +kernel
theorem d_Model_when_34 : decode prog_14_method_80_code 34 = .ok (.ifCond .eq 21, 3) := by decide +kernel
theorem d_Model_when_37 : decode prog_14_method_80_code 37 = .ok (.iload 4, 2) := by decide +kernel
theorem d_Model_when_39 : decode prog_14_method_80_code 39 = .ok (.i2l, 1) := by decide +kernel
theorem d_Model_when_40 : decode prog_14_method_80_code 40 = .ok (.lconst 0, 1) := by decide +kernel
theorem d_Model_when_41 : decode prog_14_method_80_code 41 = .ok (.lconst 1, 1) := by decide +kernel
theorem d_Model_when_42 : decode prog_14_method_80_code 42 = .ok (.invokestatic 235, 3) := by decide +kernel
theorem d_Model_when_45 : decode prog_14_method_80_code 45 = .ok (.ifCond .eq 10, 3) := by decide +kernel
theorem d_Model_when_48 : decode prog_14_method_80_code 48 = .ok (.aload_n 0, 1) := by decide +kernel
theorem d_Model_when_49 : decode prog_14_method_80_code 49 = .ok (.invokevirtual 428, 3) := by decide +kernel
theorem d_Model_when_52 : decode prog_14_method_80_code 52 = .ok (.ifCond .ne 7, 3) := by decide +kernel
theorem d_Model_when_55 : decode prog_14_method_80_code 55 = .ok (.ldc_w 422, 3) := by decide +kernel
theorem d_Model_when_58 : decode prog_14_method_80_code 58 = .ok (.ireturn, 1) := by decide +kernel
theorem d_Model_when_59 : decode prog_14_method_80_code 59 = .ok (.iconst (-1), 1) := by decide +kernel
theorem d_Model_when_60 : decode prog_14_method_80_code 60 = .ok (.istore 5, 2) := by decide +kernel
theorem d_Model_when_62 : decode prog_14_method_80_code 62 = .ok (.iconst 0, 1) := by decide +kernel
theorem d_Model_when_63 : decode prog_14_method_80_code 63 = .ok (.istore 6, 2) := by decide +kernel
theorem d_Model_when_65 : decode prog_14_method_80_code 65 = .ok (.aload_n 0, 1) := by decide +kernel
theorem d_Model_when_66 : decode prog_14_method_80_code 66 = .ok (.getfield 61, 3) := by decide +kernel
theorem d_Model_when_69 : decode prog_14_method_80_code 69 = .ok (.bipush 48, 2) := by decide +kernel
theorem d_Model_when_71 : decode prog_14_method_80_code 71 = .ok (.iaload, 1) := by decide +kernel
theorem d_Model_when_72 : decode prog_14_method_80_code 72 = .ok (.istore 7, 2) := by decide +kernel
theorem d_Model_when_74 : decode prog_14_method_80_code 74 = .ok (.iload 7, 2) := by decide +kernel
theorem d_Model_when_76 : decode prog_14_method_80_code 76 = .ok (.aload_n 0, 1) := by decide +kernel
theorem d_Model_when_77 : decode prog_14_method_80_code 77 = .ok (.getfield 61, 3) := by decide +kernel
theorem d_Model_when_80 : decode prog_14_method_80_code 80 = .ok (.bipush 48, 2) := by decide +kernel
theorem d_Model_when_82 : decode prog_14_method_80_code 82 = .ok (.iaload, 1) := by decide +kernel
theorem d_Model_when_83 : decode prog_14_method_80_code 83 = .ok (.iload_n 3, 1) := by decide +kernel
theorem d_Model_when_84 : decode prog_14_method_80_code 84 = .ok (.iadd, 1) := by decide +kernel
theorem d_Model_when_85 : decode prog_14_method_80_code 85 = .ok (.if_icmp .ge 92, 3) := by decide +kernel
theorem d_Model_when_88 : decode prog_14_method_80_code 88 = .ok (.iload 7, 2) := by decide +kernel
theorem d_Model_when_90 : decode prog_14_method_80_code 90 = .ok (.aload_n 0, 1) := by decide +kernel
theorem d_Model_when_91 : decode prog_14_method_80_code 91 = .ok (.getfield 55, 3) := by decide +kernel
theorem d_Model_when_94 : decode prog_14_method_80_code 94 = .ok (.iconst 1, 1) := by decide +kernel
theorem d_Model_when_95 : decode prog_14_method_80_code 95 = .ok (.iaload, 1) := by decide +kernel
theorem d_Model_when_96 : decode prog_14_method_80_code 96 = .ok (.if_icmp .ge 81, 3) := by decide +kernel
theorem d_Model_when_99 : decode prog_14_method_80_code 99 = .ok (.aload_n 0, 1) := by decide +kernel
theorem d_Model_when_100 : decode prog_14_method_80_code 100 = .ok (.getfield 61, 3) := by decide +kernel
theorem d_Model_when_103 : decode prog_14_method_80_code 103 = .ok (.aload_n 0, 1) := by decide +kernel
theorem d_Model_when_104 : decode prog_14_method_80_code 104 = .ok (.getfield 64, 3) := by decide +kernel
theorem d_Model_when_107 : decode prog_14_method_80_code 107 = .ok (.invokestatic 447, 3) := by decide +kernel
theorem d_Model_when_110 : decode prog_14_method_80_code 110 = .ok (.aload_n 0, 1) := by decide +kernel
theorem d_Model_when_111 : decode prog_14_method_80_code 111 = .ok (.iload_n 1, 1) := by decide +kernel
theorem d_Model_when_112 : decode prog_14_method_80_code 112 = .ok (.iload 7, 2) := by decide +kernel
theorem d_Model_when_114 : decode prog_14_method_80_code 114 = .ok (.iload_n 2, 1) := by decide +kernel
theorem d_Model_when_115 : decode prog_14_method_80_code 115 = .ok (.invokevirtual 453, 3) := by decide +kernel
theorem d_Model_when_118 : decode prog_14_method_80_code 118 = .ok (.aload_n 0, 1) := by decide +kernel
theorem d_Model_when_119 : decode prog_14_method_80_code 119 = .ok (.aload_n 0, 1) := by decide +kernel
theorem d_Model_when_120 : decode prog_14_method_80_code 120 = .ok (.getfield 64, 3) := by decide +kernel
theorem d_Model_when_123 : decode prog_14_method_80_code 123 = .ok (.invokevirtual 457, 3) := by decide +kernel
theorem d_Model_when_126 : decode prog_14_method_80_code 126 = .ok (.aload_n 0, 1) := by decide +kernel
theorem d_Model_when_127 : decode prog_14_method_80_code 127 = .ok (.iconst 0, 1) := by decide +kernel
theorem d_Model_when_128 : decode prog_14_method_80_code 128 = .ok (.putfield 391, 3) := by decide +kernel
theorem d_Model_when_131 : decode prog_14_method_80_code 131 = .ok (.iload 5, 2) := by decide +kernel
theorem d_Model_when_133 : decode prog_14_method_80_code 133 = .ok (.iconst (-1), 1) := by decide +kernel
theorem d_Model_when_134 : decode prog_14_method_80_code 134 = .ok (.if_icmp .eq 21, 3) := by decide +kernel
theorem d_Model_when_137 : decode prog_14_method_80_code 137 = .ok (.aload_n 0, 1) := by decide +kernel
theorem d_Model_when_138 : decode prog_14_method_80_code 138 = .ok (.getfield 64, 3) := by decide +kernel
theorem d_Model_when_141 : decode prog_14_method_80_code 141 = .ok (.iconst 4, 1) := by decide +kernel
theorem d_Model_when_142 : decode prog_14_method_80_code 142 = .ok (.iload_n 1, 1) := by decide +kernel
theorem d_Model_when_143 : decode prog_14_method_80_code 143 = .ok (.imul, 1) := by decide +kernel
theorem d_Model_when_144 : decode prog_14_method_80_code 144 = .ok (.iconst 3, 1) := by decide +kernel
theorem d_Model_when_145 : decode prog_14_method_80_code 145 = .ok (.iadd, 1) := by decide +kernel
theorem d_Model_when_146 : decode prog_14_method_80_code 146 = .ok (.iaload, 1) := by decide +kernel
theorem d_Model_when_147 : decode prog_14_method_80_code 147 = .ok (.iload 6, 2) := by decide +kernel
theorem d_Model_when_149 : decode prog_14_method_80_code 149 = .ok (.if_icmp .gt 6, 3) := by decide +kernel
theorem d_Model_when_152 : decode prog_14_method_80_code 152 = .ok (.goto 19, 3) := by decide +kernel
theorem d_Model_when_155 : decode prog_14_method_80_code 155 = .ok (.iload 7, 2) := by decide +kernel
theorem d_Model_when_157 : decode prog_14_method_80_code 157 = .ok (.istore 5, 2) := by decide +kernel
theorem d_Model_when_159 : decode prog_14_method_80_code 159 = .ok (.aload_n 0, 1) := by decide +kernel
theorem d_Model_when_160 : decode prog_14_method_80_code 160 = .ok (.getfield 64, 3) := by decide +kernel
theorem d_Model_when_163 : decode prog_14_method_80_code 163 = .ok (.iconst 4, 1) := by decide +kernel
theorem d_Model_when_164 : decode prog_14_method_80_code 164 = .ok (.iload_n 1, 1) := by decide +kernel
theorem d_Model_when_165 : decode prog_14_method_80_code 165 = .ok (.imul, 1) := by decide +kernel
theorem d_Model_when_166 : decode prog_14_method_80_code 166 = .ok (.iconst 3, 1) := by decide +kernel
theorem d_Model_when_167 : decode prog_14_method_80_code 167 = .ok (.iadd, 1) := by decide +kernel
theorem d_Model_when_168 : decode prog_14_method_80_code 168 = .ok (.iaload, 1) := by decide +kernel
theorem d_Model_when_169 : decode prog_14_method_80_code 169 = .ok (.istore 6, 2) := by decide +kernel
theorem d_Model_when_171 : decode prog_14_method_80_code 171 = .ok (.iinc 7 1, 3) := by decide +kernel
theorem d_Model_when_174 : decode prog_14_method_80_code 174 = .ok (.goto (-100), 3) := by decide +kernel
theorem d_Model_when_177 : decode prog_14_method_80_code 177 = .ok (.iload 4, 2) := by decide +kernel
theorem d_Model_when_179 : decode prog_14_method_80_code 179 = .ok (.ifCond .ne 8, 3) := by decide +kernel
theorem d_Model_when_182 : decode prog_14_method_80_code 182 = .ok (.iload 5, 2) := by decide +kernel
theorem d_Model_when_184 : decode prog_14_method_80_code 184 = .ok (.goto 5, 3) := by decide +kernel
theorem d_Model_when_187 : decode prog_14_method_80_code 187 = .ok (.iload 6, 2) := by decide +kernel
theorem d_Model_when_189 : decode prog_14_method_80_code 189 = .ok (.ireturn, 1) := by decide +kernel
def s_Model_when_55 (p0 : Int32) (p1 : Int32) (p2 : Int32) (p3 : Int32) (σ : LH) : Option (Int32 × LH) :=
  some ((-1000000), σ)
theorem b_Model_when_55 {G : XG} {l : Launch} {p : Program} {e : Env} {R : Room} {s : State} {m : MethodId} {args : Array Value} {below : List Frame} {meth : Method} {c : Code} (C : XC G 570 598 p s m args c prog_14_method_80_code 8 R_Model) (hr : meth.sig.returnType = (some .int)) (hk : meth.locks = false) {d : Nat} (hd : 125 ≤ d + 1) (hR : xroom R (d + 1)) {p0 : Int32} {p1 : Int32} {p2 : Int32} {p3 : Int32} {σ' : LH} {r : Int32} {σ : LH} (h0 : s_Model_when_55 p0 p1 p2 p3 σ = some (r, σ')) : XJ G 570 598 p l e R s m args below meth c 8 (XQ G 570 598 below args s (some (.int r)) σ') 0 0 55 [] [] σ := by
  replace h0 := (show _ = _ from h0)
  unfold s_Model_when_55 at h0
  refine x_ldcw (v := (-1000000)) C w_1899 d_Model_when_55 ?_
  exact x_iret C hr hk h0 d_Model_when_58
def s_Model_when_189 (p0 : Int32) (p1 : Int32) (p2 : Int32) (p3 : Int32) (z0 : Int32) (σ : LH) : Option (Int32 × LH) :=
  some (z0, σ)
theorem b_Model_when_189 {G : XG} {l : Launch} {p : Program} {e : Env} {R : Room} {s : State} {m : MethodId} {args : Array Value} {below : List Frame} {meth : Method} {c : Code} (C : XC G 570 598 p s m args c prog_14_method_80_code 8 R_Model) (hr : meth.sig.returnType = (some .int)) (hk : meth.locks = false) {d : Nat} (hd : 125 ≤ d + 1) (hR : xroom R (d + 1)) {p0 : Int32} {p1 : Int32} {p2 : Int32} {p3 : Int32} {σ' : LH} {r : Int32} {z0 : Int32} {σ : LH} (h0 : s_Model_when_189 p0 p1 p2 p3 z0 σ = some (r, σ')) : XJ G 570 598 p l e R s m args below meth c 8 (XQ G 570 598 below args s (some (.int r)) σ') 0 0 189 [] [.int z0] σ := by
  replace h0 := (show _ = _ from h0)
  unfold s_Model_when_189 at h0
  exact x_iret C hr hk h0 d_Model_when_189
def s_Model_when_177 (p0 : Int32) (p1 : Int32) (p2 : Int32) (p3 : Int32) (y5 : Int32) (y6 : Int32) (σ : LH) : Option (Int32 × LH) :=
  if p3 = 0 then (
   s_Model_when_189 p0 p1 p2 p3 y5 σ)
  else (
   s_Model_when_189 p0 p1 p2 p3 y6 σ)
theorem b_Model_when_177 {G : XG} {l : Launch} {p : Program} {e : Env} {R : Room} {s : State} {m : MethodId} {args : Array Value} {below : List Frame} {meth : Method} {c : Code} (C : XC G 570 598 p s m args c prog_14_method_80_code 8 R_Model) (hr : meth.sig.returnType = (some .int)) (hk : meth.locks = false) {d : Nat} (hd : 125 ≤ d + 1) (hR : xroom R (d + 1)) {p0 : Int32} {p1 : Int32} {p2 : Int32} {p3 : Int32} {σ' : LH} {r : Int32} {y5 : Int32} {y6 : Int32} {σ : LH} (h0 : s_Model_when_177 p0 p1 p2 p3 y5 y6 σ = some (r, σ')) : XJ G 570 598 p l e R s m args below meth c 8 (XQ G 570 598 below args s (some (.int r)) σ') 0 0 177 [(4, .int p3), (5, .int y5), (6, .int y6)] [] σ := by
  replace h0 := (show _ = _ from h0)
  unfold s_Model_when_177 at h0
  refine x_iload C d_Model_when_177 0 rfl ?_
  refine x_if_ne C 187 d_Model_when_179 (by decide) (fun q26 => ?_) (fun q26 => ?_)
  · replace h0 := xif q26 h0
    refine x_iload C d_Model_when_187 2 rfl ?_
    exact x_lv C [] rfl (b_Model_when_189 C hr hk hd hR h0)
  · replace h0 := xit q26 h0
    refine x_iload C d_Model_when_182 1 rfl ?_
    refine x_goto C 189 d_Model_when_184 (by decide) ?_
    exact x_lv C [] rfl (b_Model_when_189 C hr hk hd hR h0)
def s_Model_when_171 (p0 : Int32) (p1 : Int32) (p2 : Int32) (p3 : Int32) (rec74 : Int32 → Int32 → Int32 → LH → Option (Int32 × LH)) (y5 : Int32) (y6 : Int32) (y7 : Int32) (σ : LH) : Option (Int32 × LH) :=
  xl ((y7 + 1) : Int32) fun x39 =>
  rec74 y5 y6 x39 σ
theorem b_Model_when_171 {G : XG} {l : Launch} {p : Program} {e : Env} {R : Room} {s : State} {m : MethodId} {args : Array Value} {below : List Frame} {meth : Method} {c : Code} (C : XC G 570 598 p s m args c prog_14_method_80_code 8 R_Model) (hr : meth.sig.returnType = (some .int)) (hk : meth.locks = false) {d : Nat} (hd : 125 ≤ d + 1) (hR : xroom R (d + 1)) {p0 : Int32} {p1 : Int32} {p2 : Int32} {p3 : Int32} {rec74 : Int32 → Int32 → Int32 → LH → Option (Int32 × LH)} {σ' : LH} {r : Int32} (hrec74 : ∀ (y5 : Int32) (y6 : Int32) (y7 : Int32) (σ : LH), rec74 y5 y6 y7 σ = some (r, σ') → XJ G 570 598 p l e R s m args below meth c 8 (XQ G 570 598 below args s (some (.int r)) σ') 0 0 74 [(0, .ref (G.2.2.1 + 570)), (1, .int p0), (2, .int p1), (3, .int p2), (4, .int p3), (5, .int y5), (6, .int y6), (7, .int y7)] [] σ) {y5 : Int32} {y6 : Int32} {y7 : Int32} {σ : LH} (h0 : s_Model_when_171 p0 p1 p2 p3 rec74 y5 y6 y7 σ = some (r, σ')) : XJ G 570 598 p l e R s m args below meth c 8 (XQ G 570 598 below args s (some (.int r)) σ') 0 0 171 [(0, .ref (G.2.2.1 + 570)), (1, .int p0), (2, .int p1), (3, .int p2), (4, .int p3), (5, .int y5), (6, .int y6), (7, .int y7)] [] σ := by
  replace h0 := (show _ = _ from h0)
  unfold s_Model_when_171 at h0
  obtain ⟨x39, ex39, h0⟩ := xlet h0
  refine x_iinc (lv' := [(7, .int x39), (0, .ref (G.2.2.1 + 570)), (1, .int p0), (2, .int p1), (3, .int p2), (4, .int p3), (5, .int y5), (6, .int y6)]) C d_Model_when_171 7 rfl ex39 (by decide) rfl ?_
  refine x_goto C 74 d_Model_when_174 (by decide) ?_
  exact x_lv C [1, 2, 3, 4, 5, 6, 7, 0] rfl (hrec74 _ _ _ _ h0)
def s_Model_when_155 (p0 : Int32) (p1 : Int32) (p2 : Int32) (p3 : Int32) (rec74 : Int32 → Int32 → Int32 → LH → Option (Int32 × LH)) (y7 : Int32) (σ : LH) : Option (Int32 × LH) :=
  if ib ((4 * p0) + 3) 290 then (
  xl (((σ.1 584 (Int32.toNatClampNeg ((4 * p0) + 3)))) : Int32) fun x38 =>
  s_Model_when_171 p0 p1 p2 p3 rec74 y7 x38 y7 σ) else none
theorem b_Model_when_155 {G : XG} {l : Launch} {p : Program} {e : Env} {R : Room} {s : State} {m : MethodId} {args : Array Value} {below : List Frame} {meth : Method} {c : Code} (C : XC G 570 598 p s m args c prog_14_method_80_code 8 R_Model) (hr : meth.sig.returnType = (some .int)) (hk : meth.locks = false) {d : Nat} (hd : 125 ≤ d + 1) (hR : xroom R (d + 1)) {p0 : Int32} {p1 : Int32} {p2 : Int32} {p3 : Int32} {rec74 : Int32 → Int32 → Int32 → LH → Option (Int32 × LH)} {σ' : LH} {r : Int32} (hrec74 : ∀ (y5 : Int32) (y6 : Int32) (y7 : Int32) (σ : LH), rec74 y5 y6 y7 σ = some (r, σ') → XJ G 570 598 p l e R s m args below meth c 8 (XQ G 570 598 below args s (some (.int r)) σ') 0 0 74 [(0, .ref (G.2.2.1 + 570)), (1, .int p0), (2, .int p1), (3, .int p2), (4, .int p3), (5, .int y5), (6, .int y6), (7, .int y7)] [] σ) {y7 : Int32} {σ : LH} (h0 : s_Model_when_155 p0 p1 p2 p3 rec74 y7 σ = some (r, σ')) : XJ G 570 598 p l e R s m args below meth c 8 (XQ G 570 598 below args s (some (.int r)) σ') 0 0 155 [(0, .ref (G.2.2.1 + 570)), (1, .int p0), (2, .int p1), (3, .int p2), (4, .int p3), (7, .int y7)] [] σ := by
  replace h0 := (show _ = _ from h0)
  unfold s_Model_when_155 at h0
  refine x_iload C d_Model_when_155 5 rfl ?_
  refine x_istore (lv' := [(5, .int y7), (0, .ref (G.2.2.1 + 570)), (1, .int p0), (2, .int p1), (3, .int p2), (4, .int p3), (7, .int y7)]) C d_Model_when_157 (by decide) rfl ?_
  refine x_aload_n C d_Model_when_159 1 rfl ?_
  refine x_getA (y := 584) C fg_Model_64 k_570 rfl d_Model_when_160 ?_
  refine x_iconst (v := 4) C d_Model_when_163 (by decide) ?_
  refine x_iload_n C d_Model_when_164 2 rfl ?_
  refine x_imul C d_Model_when_165 ?_
  refine x_iconst (v := 3) C d_Model_when_166 (by decide) ?_
  refine x_iadd C d_Model_when_167 ?_
  obtain ⟨g37, h0⟩ := xgo h0
  refine x_iald C k_584 (ib_in g37) d_Model_when_168 ?_
  obtain ⟨x38, ex38, h0⟩ := xlet h0
  refine x_name C ex38 ?_
  refine x_istore (lv' := [(6, .int x38), (5, .int y7), (0, .ref (G.2.2.1 + 570)), (1, .int p0), (2, .int p1), (3, .int p2), (4, .int p3), (7, .int y7)]) C d_Model_when_169 (by decide) rfl ?_
  exact x_lv C [2, 3, 4, 5, 6, 1, 0, 7] rfl (b_Model_when_171 C hr hk hd hR hrec74 h0)
def s_Model_when_74_b (p0 : Int32) (p1 : Int32) (p2 : Int32) (p3 : Int32) (rec74 : Int32 → Int32 → Int32 → LH → Option (Int32 × LH)) (y5 : Int32) (y6 : Int32) (y7 : Int32) (σ : LH) : Option (Int32 × LH) :=
  if ib 48 290 then (
  if ((σ.1 583 (Int32.toNatClampNeg 48)) + p2) ≤ y7 then (
   s_Model_when_177 p0 p1 p2 p3 y5 y6 σ)
  else (
   if ib 1 2 then (
   if (σ.1 581 (Int32.toNatClampNeg 1)) ≤ y7 then (
    s_Model_when_177 p0 p1 p2 p3 y5 y6 σ)
   else (
    xb1 (s_Model_copy 583 584 σ) fun σ30 =>
    xb1 (s_Model_extra p0 y7 p1 σ30) fun σ32 =>
    xb1 (s_Model_toEnd 584 σ32) fun σ34 =>
    xl ((stI σ34 570 40 0) : LH) fun σ35 =>
    if y5 = (-1) then (
     s_Model_when_155 p0 p1 p2 p3 rec74 y7 σ35)
    else (
     if ib ((4 * p0) + 3) 290 then (
     if y6 < (σ35.1 584 (Int32.toNatClampNeg ((4 * p0) + 3))) then (
      s_Model_when_155 p0 p1 p2 p3 rec74 y7 σ35)
     else (
      s_Model_when_171 p0 p1 p2 p3 rec74 y5 y6 y7 σ35)) else none))) else none)) else none
def s_Model_when_74 (p0 : Int32) (p1 : Int32) (p2 : Int32) (p3 : Int32) : Nat → Int32 → Int32 → Int32 → LH → Option (Int32 × LH)
  | 0, _, _, _, _ => none
  | n + 1, y5, y6, y7, σ => s_Model_when_74_b p0 p1 p2 p3 (s_Model_when_74 p0 p1 p2 p3 n) y5 y6 y7 σ
theorem bb_Model_when_74 {G : XG} {l : Launch} {p : Program} {e : Env} {R : Room} {s : State} {m : MethodId} {args : Array Value} {below : List Frame} {meth : Method} {c : Code} (C : XC G 570 598 p s m args c prog_14_method_80_code 8 R_Model) (hr : meth.sig.returnType = (some .int)) (hk : meth.locks = false) {d : Nat} (hd : 125 ≤ d + 1) (hR : xroom R (d + 1)) {p0 : Int32} {p1 : Int32} {p2 : Int32} {p3 : Int32} {rec74 : Int32 → Int32 → Int32 → LH → Option (Int32 × LH)} {σ' : LH} {r : Int32} (hrec74 : ∀ (y5 : Int32) (y6 : Int32) (y7 : Int32) (σ : LH), rec74 y5 y6 y7 σ = some (r, σ') → XJ G 570 598 p l e R s m args below meth c 8 (XQ G 570 598 below args s (some (.int r)) σ') 0 0 74 [(0, .ref (G.2.2.1 + 570)), (1, .int p0), (2, .int p1), (3, .int p2), (4, .int p3), (5, .int y5), (6, .int y6), (7, .int y7)] [] σ) {y5 : Int32} {y6 : Int32} {y7 : Int32} {σ : LH} (h0 : s_Model_when_74_b p0 p1 p2 p3 rec74 y5 y6 y7 σ = some (r, σ')) : XJ G 570 598 p l e R s m args below meth c 8 (XQ G 570 598 below args s (some (.int r)) σ') 0 0 74 [(0, .ref (G.2.2.1 + 570)), (1, .int p0), (2, .int p1), (3, .int p2), (4, .int p3), (5, .int y5), (6, .int y6), (7, .int y7)] [] σ := by
  replace h0 := (show _ = _ from h0)
  unfold s_Model_when_74_b at h0
  refine x_iload C d_Model_when_74 7 rfl ?_
  refine x_aload_n C d_Model_when_76 0 rfl ?_
  refine x_getA (y := 583) C fg_Model_61 k_570 rfl d_Model_when_77 ?_
  refine x_bipush (v := 48) C d_Model_when_80 (by decide) ?_
  obtain ⟨g24, h0⟩ := xgo h0
  refine x_iald C k_583 (ib_in g24) d_Model_when_82 ?_
  refine x_iload_n C d_Model_when_83 3 rfl ?_
  refine x_iadd C d_Model_when_84 ?_
  refine x_icmp_ge C 177 d_Model_when_85 (by decide) (fun q25 => ?_) (fun q25 => ?_)
  · replace h0 := xit q25 h0
    exact x_lv C [4, 5, 6] rfl (b_Model_when_177 C hr hk hd hR h0)
  · replace h0 := xif q25 h0
    refine x_iload C d_Model_when_88 7 rfl ?_
    refine x_aload_n C d_Model_when_90 0 rfl ?_
    refine x_getA (y := 581) C fg_Model_55 k_570 rfl d_Model_when_91 ?_
    refine x_iconst (v := 1) C d_Model_when_94 (by decide) ?_
    obtain ⟨g27, h0⟩ := xgo h0
    refine x_iald C k_581 (ib_in g27) d_Model_when_95 ?_
    refine x_icmp_ge C 177 d_Model_when_96 (by decide) (fun q28 => ?_) (fun q28 => ?_)
    · replace h0 := xit q28 h0
      exact x_lv C [4, 5, 6] rfl (b_Model_when_177 C hr hk hd hR h0)
    · replace h0 := xif q28 h0
      refine x_aload_n C d_Model_when_99 0 rfl ?_
      refine x_getA (y := 583) C fg_Model_61 k_570 rfl d_Model_when_100 ?_
      refine x_aload_n C d_Model_when_103 0 rfl ?_
      refine x_getA (y := 584) C fg_Model_64 k_570 rfl d_Model_when_104 ?_
      obtain ⟨σ30, k29, h0⟩ := xbind1 h0
      refine x_callSv C hR (c_Model_copy (d := d) (by omega) k_583 k_584 k29) cw_Model_447 w_2011 rfl rfl (Nat.le_of_ble_eq_true rfl) ⟨Nat.zero_le _, Nat.zero_le _⟩ d_Model_when_107 ?_
      refine x_aload_n C d_Model_when_110 0 rfl ?_
      refine x_iload_n C d_Model_when_111 1 rfl ?_
      refine x_iload C d_Model_when_112 7 rfl ?_
      refine x_iload_n C d_Model_when_114 2 rfl ?_
      obtain ⟨σ32, k31, h0⟩ := xbind1 h0
      refine x_callVv C hR (c_Model_extra (d := d) (by omega) k31) cw_Model_453 k_570 rfl rfl rfl (Nat.le_of_ble_eq_true rfl) ⟨Nat.zero_le _, Nat.zero_le _⟩ d_Model_when_115 ?_
      refine x_aload_n C d_Model_when_118 0 rfl ?_
      refine x_aload_n C d_Model_when_119 0 rfl ?_
      refine x_getA (y := 584) C fg_Model_64 k_570 rfl d_Model_when_120 ?_
      obtain ⟨σ34, k33, h0⟩ := xbind1 h0
      refine x_callVv C hR (c_Model_toEnd (d := d) (by omega) k_584 k33) cw_Model_457 k_570 rfl rfl rfl (Nat.le_of_ble_eq_true rfl) ⟨Nat.zero_le _, Nat.zero_le _⟩ d_Model_when_123 ?_
      refine x_aload_n C d_Model_when_126 0 rfl ?_
      refine x_iconst (v := 0) C d_Model_when_127 (by decide) ?_
      refine x_putI (y := 0) C fp_Model_391 k_570 rfl rfl rfl d_Model_when_128 ?_
      obtain ⟨σ35, eσ35, h0⟩ := xlet h0
      refine x_sig C eσ35 ?_
      refine x_iload C d_Model_when_131 5 rfl ?_
      refine x_iconst (v := (-1)) C d_Model_when_133 (by decide) ?_
      refine x_icmp_eq C 155 d_Model_when_134 (by decide) (fun q36 => ?_) (fun q36 => ?_)
      · replace h0 := xit q36 h0
        exact x_lv C [0, 1, 2, 3, 4, 7] rfl (b_Model_when_155 C hr hk hd hR hrec74 h0)
      · replace h0 := xif q36 h0
        refine x_aload_n C d_Model_when_137 0 rfl ?_
        refine x_getA (y := 584) C fg_Model_64 k_570 rfl d_Model_when_138 ?_
        refine x_iconst (v := 4) C d_Model_when_141 (by decide) ?_
        refine x_iload_n C d_Model_when_142 1 rfl ?_
        refine x_imul C d_Model_when_143 ?_
        refine x_iconst (v := 3) C d_Model_when_144 (by decide) ?_
        refine x_iadd C d_Model_when_145 ?_
        obtain ⟨g40, h0⟩ := xgo h0
        refine x_iald C k_584 (ib_in g40) d_Model_when_146 ?_
        refine x_iload C d_Model_when_147 6 rfl ?_
        refine x_icmp_gt C 155 d_Model_when_149 (by decide) (fun q41 => ?_) (fun q41 => ?_)
        · replace h0 := xit q41 h0
          exact x_lv C [0, 1, 2, 3, 4, 7] rfl (b_Model_when_155 C hr hk hd hR hrec74 h0)
        · replace h0 := xif q41 h0
          refine x_goto C 171 d_Model_when_152 (by decide) ?_
          exact x_lv C [0, 1, 2, 3, 4, 5, 6, 7] rfl (b_Model_when_171 C hr hk hd hR hrec74 h0)
theorem b_Model_when_74 {G : XG} {l : Launch} {p : Program} {e : Env} {R : Room} {s : State} {m : MethodId} {args : Array Value} {below : List Frame} {meth : Method} {c : Code} (C : XC G 570 598 p s m args c prog_14_method_80_code 8 R_Model) (hr : meth.sig.returnType = (some .int)) (hk : meth.locks = false) {d : Nat} (hd : 125 ≤ d + 1) (hR : xroom R (d + 1)) {p0 : Int32} {p1 : Int32} {p2 : Int32} {p3 : Int32} {σ' : LH} {r : Int32} : ∀ (n : Nat) (y5 : Int32) (y6 : Int32) (y7 : Int32) (σ : LH), s_Model_when_74 p0 p1 p2 p3 n y5 y6 y7 σ = some (r, σ') → XJ G 570 598 p l e R s m args below meth c 8 (XQ G 570 598 below args s (some (.int r)) σ') 0 0 74 [(0, .ref (G.2.2.1 + 570)), (1, .int p0), (2, .int p1), (3, .int p2), (4, .int p3), (5, .int y5), (6, .int y6), (7, .int y7)] [] σ := by
  intro n
  induction n with
  | zero => intro y5 y6 y7 σ h0; cases h0
  | succ n ih => intro y5 y6 y7 σ h0; exact bb_Model_when_74 C hr hk hd hR ih h0
def s_Model_when (p0 : Int32) (p1 : Int32) (p2 : Int32) (p3 : Int32) (σ : LH) : Option (Int32 × LH) :=
  xl ((stI σ 570 0 0) : LH) fun σ1 =>
  xb2 (s_Model_isSitter p0 σ1) fun r3 σ4 =>
  if r3 = 0 then (
   s_Model_when_55 p0 p1 p2 p3 σ4)
  else (
   xb2 (s_Model_isIn (Int32.toInt64 p1) 1 9 σ4) fun r7 σ8 =>
   if r7 = 0 then (
    s_Model_when_55 p0 p1 p2 p3 σ8)
   else (
    xb2 (s_Model_isIn (Int32.toInt64 p2) 1 30 σ8) fun r11 σ12 =>
    if r11 = 0 then (
     s_Model_when_55 p0 p1 p2 p3 σ12)
    else (
     xb2 (s_Model_isIn (Int32.toInt64 p3) 0 1 σ12) fun r15 σ16 =>
     if r15 = 0 then (
      s_Model_when_55 p0 p1 p2 p3 σ16)
     else (
      xb2 (s_Model_isOpen σ16) fun r19 σ20 =>
      if r19 = 0 then (
       s_Model_when_55 p0 p1 p2 p3 σ20)
      else (
       if ib 48 290 then (
       xl (((σ20.1 583 (Int32.toNatClampNeg 48))) : Int32) fun x23 =>
       s_Model_when_74 p0 p1 p2 p3 FUEL (-1) 0 x23 σ20) else none)))))
theorem c_Model_when {G : XG} {l : Launch} {d : Nat} (hd : 125 ≤ d) {p0 : Int32} {p1 : Int32} {p2 : Int32} {p3 : Int32} {σ σ' : LH} {r : Int32} (h0 : s_Model_when p0 p1 p2 p3 σ = some (r, σ')) : xM G 570 598 l y_Model_when prog_14_method_80_code 8 (some .int) d [.ref (G.2.2.1 + 570), .int p0, .int p1, .int p2, .int p3] σ (some (.int r)) σ' := by
  obtain ⟨d, rfl⟩ : ∃ q, d = q + 1 := ⟨d - 1, by omega⟩
  refine x_met R_Model rfl (by decide +kernel) (Nat.le_of_ble_eq_true rfl) fun p e s m below meth c C hr hk hR => ?_
  refine x_lv (lv' := [(0, .ref (G.2.2.1 + 570)), (1, .int p0), (2, .int p1), (3, .int p2), (4, .int p3)]) C [0, 1, 2, 3, 4] rfl ?_
  generalize xrm (d + 1) = R at hR ⊢
  unfold s_Model_when at h0
  refine x_aload_n C d_Model_when_0 0 rfl ?_
  refine x_iconst (v := 0) C d_Model_when_1 (by decide) ?_
  refine x_putI (y := 0) C fp_Model_114 k_570 rfl rfl rfl d_Model_when_2 ?_
  obtain ⟨σ1, eσ1, h0⟩ := xlet h0
  refine x_sig C eσ1 ?_
  refine x_aload_n C d_Model_when_5 0 rfl ?_
  refine x_iload_n C d_Model_when_6 1 rfl ?_
  obtain ⟨r3, σ4, k2, h0⟩ := xbind2 h0
  refine x_callVi C hR (c_Model_isSitter (d := d) (by omega) k2) cw_Model_412 k_570 rfl rfl rfl (Nat.le_of_ble_eq_true rfl) ⟨Nat.zero_le _, Nat.zero_le _⟩ d_Model_when_7 ?_
  refine x_if_eq C 55 d_Model_when_10 (by decide) (fun q5 => ?_) (fun q5 => ?_)
  · replace h0 := xit q5 h0
    exact x_lv C [] rfl (b_Model_when_55 C hr hk hd hR h0)
  · replace h0 := xif q5 h0
    refine x_iload_n C d_Model_when_13 2 rfl ?_
    refine x_i2l C d_Model_when_14 ?_
    refine x_lconst (v := 1) C d_Model_when_15 (by decide) ?_
    refine x_ldc2 (v := 9) C w_1907 d_Model_when_16 ?_
    obtain ⟨r7, σ8, k6, h0⟩ := xbind2 h0
    refine x_callSi C hR (c_Model_isIn (d := d) (by omega) k6) cw_Model_235 w_1695 rfl rfl (Nat.le_of_ble_eq_true rfl) ⟨Nat.zero_le _, Nat.zero_le _⟩ d_Model_when_19 ?_
    refine x_if_eq C 55 d_Model_when_22 (by decide) (fun q9 => ?_) (fun q9 => ?_)
    · replace h0 := xit q9 h0
      exact x_lv C [] rfl (b_Model_when_55 C hr hk hd hR h0)
    · replace h0 := xif q9 h0
      refine x_iload_n C d_Model_when_25 3 rfl ?_
      refine x_i2l C d_Model_when_26 ?_
      refine x_lconst (v := 1) C d_Model_when_27 (by decide) ?_
      refine x_ldc2 (v := 30) C w_2021 d_Model_when_28 ?_
      obtain ⟨r11, σ12, k10, h0⟩ := xbind2 h0
      refine x_callSi C hR (c_Model_isIn (d := d) (by omega) k10) cw_Model_235 w_1695 rfl rfl (Nat.le_of_ble_eq_true rfl) ⟨Nat.zero_le _, Nat.zero_le _⟩ d_Model_when_31 ?_
      refine x_if_eq C 55 d_Model_when_34 (by decide) (fun q13 => ?_) (fun q13 => ?_)
      · replace h0 := xit q13 h0
        exact x_lv C [] rfl (b_Model_when_55 C hr hk hd hR h0)
      · replace h0 := xif q13 h0
        refine x_iload C d_Model_when_37 4 rfl ?_
        refine x_i2l C d_Model_when_39 ?_
        refine x_lconst (v := 0) C d_Model_when_40 (by decide) ?_
        refine x_lconst (v := 1) C d_Model_when_41 (by decide) ?_
        obtain ⟨r15, σ16, k14, h0⟩ := xbind2 h0
        refine x_callSi C hR (c_Model_isIn (d := d) (by omega) k14) cw_Model_235 w_1695 rfl rfl (Nat.le_of_ble_eq_true rfl) ⟨Nat.zero_le _, Nat.zero_le _⟩ d_Model_when_42 ?_
        refine x_if_eq C 55 d_Model_when_45 (by decide) (fun q17 => ?_) (fun q17 => ?_)
        · replace h0 := xit q17 h0
          exact x_lv C [] rfl (b_Model_when_55 C hr hk hd hR h0)
        · replace h0 := xif q17 h0
          refine x_aload_n C d_Model_when_48 0 rfl ?_
          obtain ⟨r19, σ20, k18, h0⟩ := xbind2 h0
          refine x_callVi C hR (c_Model_isOpen (d := d) (by omega) k18) cw_Model_428 k_570 rfl rfl rfl (Nat.le_of_ble_eq_true rfl) ⟨Nat.zero_le _, Nat.zero_le _⟩ d_Model_when_49 ?_
          refine x_if_ne C 59 d_Model_when_52 (by decide) (fun q21 => ?_) (fun q21 => ?_)
          · replace h0 := xif q21 h0
            refine x_iconst (v := (-1)) C d_Model_when_59 (by decide) ?_
            refine x_istore (lv' := [(5, .int (-1)), (0, .ref (G.2.2.1 + 570)), (1, .int p0), (2, .int p1), (3, .int p2), (4, .int p3)]) C d_Model_when_60 (by decide) rfl ?_
            refine x_iconst (v := 0) C d_Model_when_62 (by decide) ?_
            refine x_istore (lv' := [(6, .int 0), (5, .int (-1)), (0, .ref (G.2.2.1 + 570)), (1, .int p0), (2, .int p1), (3, .int p2), (4, .int p3)]) C d_Model_when_63 (by decide) rfl ?_
            refine x_aload_n C d_Model_when_65 2 rfl ?_
            refine x_getA (y := 583) C fg_Model_61 k_570 rfl d_Model_when_66 ?_
            refine x_bipush (v := 48) C d_Model_when_69 (by decide) ?_
            obtain ⟨g22, h0⟩ := xgo h0
            refine x_iald C k_583 (ib_in g22) d_Model_when_71 ?_
            obtain ⟨x23, ex23, h0⟩ := xlet h0
            refine x_name C ex23 ?_
            refine x_istore (lv' := [(7, .int x23), (6, .int 0), (5, .int (-1)), (0, .ref (G.2.2.1 + 570)), (1, .int p0), (2, .int p1), (3, .int p2), (4, .int p3)]) C d_Model_when_72 (by decide) rfl ?_
            exact x_lv C [3, 4, 5, 6, 7, 2, 1, 0] rfl (b_Model_when_74 C hr hk hd hR FUEL _ _ _ _ h0)
          · replace h0 := xit q21 h0
            exact x_lv C [] rfl (b_Model_when_55 C hr hk hd hR h0)
-- LostPlacesModel.joyKeeping(II)I
theorem d_Model_joyKeeping_0 : decode prog_14_method_81_code 0 = .ok (.aload_n 0, 1) := by decide +kernel
theorem d_Model_joyKeeping_1 : decode prog_14_method_81_code 1 = .ok (.getfield 61, 3) := by decide +kernel
theorem d_Model_joyKeeping_4 : decode prog_14_method_81_code 4 = .ok (.aload_n 0, 1) := by decide +kernel
theorem d_Model_joyKeeping_5 : decode prog_14_method_81_code 5 = .ok (.getfield 64, 3) := by decide +kernel
theorem d_Model_joyKeeping_8 : decode prog_14_method_81_code 8 = .ok (.invokestatic 447, 3) := by decide +kernel
theorem d_Model_joyKeeping_11 : decode prog_14_method_81_code 11 = .ok (.aload_n 0, 1) := by decide +kernel
theorem d_Model_joyKeeping_12 : decode prog_14_method_81_code 12 = .ok (.getfield 64, 3) := by decide +kernel
theorem d_Model_joyKeeping_15 : decode prog_14_method_81_code 15 = .ok (.iconst 4, 1) := by decide +kernel
theorem d_Model_joyKeeping_16 : decode prog_14_method_81_code 16 = .ok (.iload_n 1, 1) := by decide +kernel
theorem d_Model_joyKeeping_17 : decode prog_14_method_81_code 17 = .ok (.imul, 1) := by decide +kernel
theorem d_Model_joyKeeping_18 : decode prog_14_method_81_code 18 = .ok (.iconst 2, 1) := by decide +kernel
theorem d_Model_joyKeeping_19 : decode prog_14_method_81_code 19 = .ok (.iadd, 1) := by decide +kernel
theorem d_Model_joyKeeping_20 : decode prog_14_method_81_code 20 = .ok (.iload_n 2, 1) := by decide +kernel
theorem d_Model_joyKeeping_21 : decode prog_14_method_81_code 21 = .ok (.iastore, 1) := by decide +kernel
theorem d_Model_joyKeeping_22 : decode prog_14_method_81_code 22 = .ok (.aload_n 0, 1) := by decide +kernel
theorem d_Model_joyKeeping_23 : decode prog_14_method_81_code 23 = .ok (.aload_n 0, 1) := by decide +kernel
theorem d_Model_joyKeeping_24 : decode prog_14_method_81_code 24 = .ok (.getfield 64, 3) := by decide +kernel
theorem d_Model_joyKeeping_27 : decode prog_14_method_81_code 27 = .ok (.invokevirtual 457, 3) := by decide +kernel
theorem d_Model_joyKeeping_30 : decode prog_14_method_81_code 30 = .ok (.aload_n 0, 1) := by decide +kernel
theorem d_Model_joyKeeping_31 : decode prog_14_method_81_code 31 = .ok (.getfield 64, 3) := by decide +kernel
theorem d_Model_joyKeeping_34 : decode prog_14_method_81_code 34 = .ok (.iconst 4, 1) := by decide +kernel
theorem d_Model_joyKeeping_35 : decode prog_14_method_81_code 35 = .ok (.iload_n 1, 1) := by decide +kernel
theorem d_Model_joyKeeping_36 : decode prog_14_method_81_code 36 = .ok (.imul, 1) := by decide +kernel
theorem d_Model_joyKeeping_37 : decode prog_14_method_81_code 37 = .ok (.iconst 3, 1) := by decide +kernel
theorem d_Model_joyKeeping_38 : decode prog_14_method_81_code 38 = .ok (.iadd, 1) := by decide +kernel
theorem d_Model_joyKeeping_39 : decode prog_14_method_81_code 39 = .ok (.iaload, 1) := by decide +kernel
theorem d_Model_joyKeeping_40 : decode prog_14_method_81_code 40 = .ok (.ireturn, 1) := by decide +kernel
def s_Model_joyKeeping (p0 : Int32) (p1 : Int32) (σ : LH) : Option (Int32 × LH) :=
  xb1 (s_Model_copy 583 584 σ) fun σ2 =>
  if ib ((4 * p0) + 2) 290 then (
  xl ((stI σ2 584 (Int32.toNatClampNeg ((4 * p0) + 2)) p1) : LH) fun σ4 =>
  xb1 (s_Model_toEnd 584 σ4) fun σ6 =>
  if ib ((4 * p0) + 3) 290 then (
  some ((σ6.1 584 (Int32.toNatClampNeg ((4 * p0) + 3))), σ6)) else none) else none
theorem c_Model_joyKeeping {G : XG} {l : Launch} {d : Nat} (hd : 125 ≤ d) {p0 : Int32} {p1 : Int32} {σ σ' : LH} {r : Int32} (h0 : s_Model_joyKeeping p0 p1 σ = some (r, σ')) : xM G 570 598 l y_Model_joyKeeping prog_14_method_81_code 3 (some .int) d [.ref (G.2.2.1 + 570), .int p0, .int p1] σ (some (.int r)) σ' := by
  obtain ⟨d, rfl⟩ : ∃ q, d = q + 1 := ⟨d - 1, by omega⟩
  refine x_met R_Model rfl (by decide +kernel) (Nat.le_of_ble_eq_true rfl) fun p e s m below meth c C hr hk hR => ?_
  refine x_lv (lv' := [(0, .ref (G.2.2.1 + 570)), (1, .int p0), (2, .int p1)]) C [0, 1, 2] rfl ?_
  generalize xrm (d + 1) = R at hR ⊢
  unfold s_Model_joyKeeping at h0
  refine x_aload_n C d_Model_joyKeeping_0 0 rfl ?_
  refine x_getA (y := 583) C fg_Model_61 k_570 rfl d_Model_joyKeeping_1 ?_
  refine x_aload_n C d_Model_joyKeeping_4 0 rfl ?_
  refine x_getA (y := 584) C fg_Model_64 k_570 rfl d_Model_joyKeeping_5 ?_
  obtain ⟨σ2, k1, h0⟩ := xbind1 h0
  refine x_callSv C hR (c_Model_copy (d := d) (by omega) k_583 k_584 k1) cw_Model_447 w_2011 rfl rfl (Nat.le_of_ble_eq_true rfl) ⟨Nat.zero_le _, Nat.zero_le _⟩ d_Model_joyKeeping_8 ?_
  refine x_aload_n C d_Model_joyKeeping_11 0 rfl ?_
  refine x_getA (y := 584) C fg_Model_64 k_570 rfl d_Model_joyKeeping_12 ?_
  refine x_iconst (v := 4) C d_Model_joyKeeping_15 (by decide) ?_
  refine x_iload_n C d_Model_joyKeeping_16 1 rfl ?_
  refine x_imul C d_Model_joyKeeping_17 ?_
  refine x_iconst (v := 2) C d_Model_joyKeeping_18 (by decide) ?_
  refine x_iadd C d_Model_joyKeeping_19 ?_
  refine x_iload_n C d_Model_joyKeeping_20 2 rfl ?_
  obtain ⟨g3, h0⟩ := xgo h0
  refine x_iast C k_584 (ib_in g3) d_Model_joyKeeping_21 ?_
  obtain ⟨σ4, eσ4, h0⟩ := xlet h0
  refine x_sig C eσ4 ?_
  refine x_aload_n C d_Model_joyKeeping_22 0 rfl ?_
  refine x_aload_n C d_Model_joyKeeping_23 0 rfl ?_
  refine x_getA (y := 584) C fg_Model_64 k_570 rfl d_Model_joyKeeping_24 ?_
  obtain ⟨σ6, k5, h0⟩ := xbind1 h0
  refine x_callVv C hR (c_Model_toEnd (d := d) (by omega) k_584 k5) cw_Model_457 k_570 rfl rfl rfl (Nat.le_of_ble_eq_true rfl) ⟨Nat.zero_le _, Nat.zero_le _⟩ d_Model_joyKeeping_27 ?_
  refine x_aload_n C d_Model_joyKeeping_30 0 rfl ?_
  refine x_getA (y := 584) C fg_Model_64 k_570 rfl d_Model_joyKeeping_31 ?_
  refine x_iconst (v := 4) C d_Model_joyKeeping_34 (by decide) ?_
  refine x_iload_n C d_Model_joyKeeping_35 1 rfl ?_
  refine x_imul C d_Model_joyKeeping_36 ?_
  refine x_iconst (v := 3) C d_Model_joyKeeping_37 (by decide) ?_
  refine x_iadd C d_Model_joyKeeping_38 ?_
  obtain ⟨g7, h0⟩ := xgo h0
  refine x_iald C k_584 (ib_in g7) d_Model_joyKeeping_39 ?_
  exact x_iret C hr hk h0 d_Model_joyKeeping_40
-- LostPlacesModel.keeping(II)I
theorem d_Model_keeping_0 : decode prog_14_method_82_code 0 = .ok (.aload_n 0, 1) := by decide +kernel
theorem d_Model_keeping_1 : decode prog_14_method_82_code 1 = .ok (.iconst 0, 1) := by decide +kernel
theorem d_Model_keeping_2 : decode prog_14_method_82_code 2 = .ok (.putfield 114, 3) := by decide +kernel
theorem d_Model_keeping_5 : decode prog_14_method_82_code 5 = .ok (.aload_n 0, 1) := by decide +kernel
theorem d_Model_keeping_6 : decode prog_14_method_82_code 6 = .ok (.iload_n 1, 1) := by decide +kernel
theorem d_Model_keeping_7 : decode prog_14_method_82_code 7 = .ok (.invokevirtual 412, 3) := by decide +kernel
theorem d_Model_keeping_10 : decode prog_14_method_82_code 10 = .ok (.ifCond .eq 31, 3) := by decide +kernel
theorem d_Model_keeping_13 : decode prog_14_method_82_code 13 = .ok (.iload_n 2, 1) := by decide +kernel
theorem d_Model_keeping_14 : decode prog_14_method_82_code 14 = .ok (.i2l, 1) := by decide +kernel
theorem d_Model_keeping_15 : decode prog_14_method_82_code 15 = .ok (.lconst 0, 1) := by decide +kernel
theorem d_Model_keeping_16 : decode prog_14_method_82_code 16 = .ok (.ldc2_w 426, 3) := by decide +kernel
theorem d_Model_keeping_19 : decode prog_14_method_82_code 19 = .ok (.invokestatic 235, 3) := by decide +kernel
theorem d_Model_keeping_22 : decode prog_14_method_82_code 22 = .ok (.ifCond .eq 19, 3) := by decide +kernel
theorem d_Model_keeping_25 : decode prog_14_method_82_code 25 = .ok (.aload_n 0, 1) := by decide +kernel
theorem d_Model_keeping_26 : decode prog_14_method_82_code 26 = .ok (.iload_n 1, 1) := by decide +kernel
theorem d_Model_keeping_27 : decode prog_14_method_82_code 27 = .ok (.iload_n 2, 1) := by decide +kernel
theorem d_Model_keeping_28 : decode prog_14_method_82_code 28 = .ok (.invokevirtual 460, 3) := by decide +kernel
theorem d_Model_keeping_31 : decode prog_14_method_82_code 31 = .ok (.aload_n 0, 1) := by decide +kernel
theorem d_Model_keeping_32 : decode prog_14_method_82_code 32 = .ok (.iload_n 1, 1) := by decide +kernel
theorem d_Model_keeping_33 : decode prog_14_method_82_code 33 = .ok (.iconst 0, 1) := by decide +kernel
theorem d_Model_keeping_34 : decode prog_14_method_82_code 34 = .ok (.invokevirtual 460, 3) := by decide +kernel
theorem d_Model_keeping_37 : decode prog_14_method_82_code 37 = .ok (.isub, 1) := by decide +kernel
theorem d_Model_keeping_38 : decode prog_14_method_82_code 38 = .ok (.goto 6, 3) := by decide +kernel
theorem d_Model_keeping_41 : decode prog_14_method_82_code 41 = .ok (.ldc_w 422, 3) := by decide +kernel
theorem d_Model_keeping_44 : decode prog_14_method_82_code 44 = .ok (.ireturn, 1) := by decide +kernel
def s_Model_keeping_44 (p0 : Int32) (p1 : Int32) (z0 : Int32) (σ : LH) : Option (Int32 × LH) :=
  some (z0, σ)
theorem b_Model_keeping_44 {G : XG} {l : Launch} {p : Program} {e : Env} {R : Room} {s : State} {m : MethodId} {args : Array Value} {below : List Frame} {meth : Method} {c : Code} (C : XC G 570 598 p s m args c prog_14_method_82_code 3 R_Model) (hr : meth.sig.returnType = (some .int)) (hk : meth.locks = false) {d : Nat} (hd : 126 ≤ d + 1) (hR : xroom R (d + 1)) {p0 : Int32} {p1 : Int32} {σ' : LH} {r : Int32} {z0 : Int32} {σ : LH} (h0 : s_Model_keeping_44 p0 p1 z0 σ = some (r, σ')) : XJ G 570 598 p l e R s m args below meth c 3 (XQ G 570 598 below args s (some (.int r)) σ') 0 0 44 [] [.int z0] σ := by
  replace h0 := (show _ = _ from h0)
  unfold s_Model_keeping_44 at h0
  exact x_iret C hr hk h0 d_Model_keeping_44
def s_Model_keeping_41 (p0 : Int32) (p1 : Int32) (σ : LH) : Option (Int32 × LH) :=
  s_Model_keeping_44 p0 p1 (-1000000) σ
theorem b_Model_keeping_41 {G : XG} {l : Launch} {p : Program} {e : Env} {R : Room} {s : State} {m : MethodId} {args : Array Value} {below : List Frame} {meth : Method} {c : Code} (C : XC G 570 598 p s m args c prog_14_method_82_code 3 R_Model) (hr : meth.sig.returnType = (some .int)) (hk : meth.locks = false) {d : Nat} (hd : 126 ≤ d + 1) (hR : xroom R (d + 1)) {p0 : Int32} {p1 : Int32} {σ' : LH} {r : Int32} {σ : LH} (h0 : s_Model_keeping_41 p0 p1 σ = some (r, σ')) : XJ G 570 598 p l e R s m args below meth c 3 (XQ G 570 598 below args s (some (.int r)) σ') 0 0 41 [] [] σ := by
  replace h0 := (show _ = _ from h0)
  unfold s_Model_keeping_41 at h0
  refine x_ldcw (v := (-1000000)) C w_1899 d_Model_keeping_41 ?_
  exact x_lv C [] rfl (b_Model_keeping_44 C hr hk hd hR h0)
def s_Model_keeping (p0 : Int32) (p1 : Int32) (σ : LH) : Option (Int32 × LH) :=
  xl ((stI σ 570 0 0) : LH) fun σ1 =>
  xb2 (s_Model_isSitter p0 σ1) fun r3 σ4 =>
  if r3 = 0 then (
   s_Model_keeping_41 p0 p1 σ4)
  else (
   xb2 (s_Model_isIn (Int32.toInt64 p1) 0 9 σ4) fun r7 σ8 =>
   if r7 = 0 then (
    s_Model_keeping_41 p0 p1 σ8)
   else (
    xb2 (s_Model_joyKeeping p0 p1 σ8) fun r11 σ12 =>
    xb2 (s_Model_joyKeeping p0 0 σ12) fun r14 σ15 =>
    s_Model_keeping_44 p0 p1 (r11 - r14) σ15))
theorem c_Model_keeping {G : XG} {l : Launch} {d : Nat} (hd : 126 ≤ d) {p0 : Int32} {p1 : Int32} {σ σ' : LH} {r : Int32} (h0 : s_Model_keeping p0 p1 σ = some (r, σ')) : xM G 570 598 l y_Model_keeping prog_14_method_82_code 3 (some .int) d [.ref (G.2.2.1 + 570), .int p0, .int p1] σ (some (.int r)) σ' := by
  obtain ⟨d, rfl⟩ : ∃ q, d = q + 1 := ⟨d - 1, by omega⟩
  refine x_met R_Model rfl (by decide +kernel) (Nat.le_of_ble_eq_true rfl) fun p e s m below meth c C hr hk hR => ?_
  refine x_lv (lv' := [(0, .ref (G.2.2.1 + 570)), (1, .int p0), (2, .int p1)]) C [0, 1, 2] rfl ?_
  generalize xrm (d + 1) = R at hR ⊢
  unfold s_Model_keeping at h0
  refine x_aload_n C d_Model_keeping_0 0 rfl ?_
  refine x_iconst (v := 0) C d_Model_keeping_1 (by decide) ?_
  refine x_putI (y := 0) C fp_Model_114 k_570 rfl rfl rfl d_Model_keeping_2 ?_
  obtain ⟨σ1, eσ1, h0⟩ := xlet h0
  refine x_sig C eσ1 ?_
  refine x_aload_n C d_Model_keeping_5 0 rfl ?_
  refine x_iload_n C d_Model_keeping_6 1 rfl ?_
  obtain ⟨r3, σ4, k2, h0⟩ := xbind2 h0
  refine x_callVi C hR (c_Model_isSitter (d := d) (by omega) k2) cw_Model_412 k_570 rfl rfl rfl (Nat.le_of_ble_eq_true rfl) ⟨Nat.zero_le _, Nat.zero_le _⟩ d_Model_keeping_7 ?_
  refine x_if_eq C 41 d_Model_keeping_10 (by decide) (fun q5 => ?_) (fun q5 => ?_)
  · replace h0 := xit q5 h0
    exact x_lv C [] rfl (b_Model_keeping_41 C hr hk hd hR h0)
  · replace h0 := xif q5 h0
    refine x_iload_n C d_Model_keeping_13 2 rfl ?_
    refine x_i2l C d_Model_keeping_14 ?_
    refine x_lconst (v := 0) C d_Model_keeping_15 (by decide) ?_
    refine x_ldc2 (v := 9) C w_1907 d_Model_keeping_16 ?_
    obtain ⟨r7, σ8, k6, h0⟩ := xbind2 h0
    refine x_callSi C hR (c_Model_isIn (d := d) (by omega) k6) cw_Model_235 w_1695 rfl rfl (Nat.le_of_ble_eq_true rfl) ⟨Nat.zero_le _, Nat.zero_le _⟩ d_Model_keeping_19 ?_
    refine x_if_eq C 41 d_Model_keeping_22 (by decide) (fun q9 => ?_) (fun q9 => ?_)
    · replace h0 := xit q9 h0
      exact x_lv C [] rfl (b_Model_keeping_41 C hr hk hd hR h0)
    · replace h0 := xif q9 h0
      refine x_aload_n C d_Model_keeping_25 0 rfl ?_
      refine x_iload_n C d_Model_keeping_26 1 rfl ?_
      refine x_iload_n C d_Model_keeping_27 2 rfl ?_
      obtain ⟨r11, σ12, k10, h0⟩ := xbind2 h0
      refine x_callVi C hR (c_Model_joyKeeping (d := d) (by omega) k10) cw_Model_460 k_570 rfl rfl rfl (Nat.le_of_ble_eq_true rfl) ⟨Nat.zero_le _, Nat.zero_le _⟩ d_Model_keeping_28 ?_
      refine x_aload_n C d_Model_keeping_31 0 rfl ?_
      refine x_iload_n C d_Model_keeping_32 1 rfl ?_
      refine x_iconst (v := 0) C d_Model_keeping_33 (by decide) ?_
      obtain ⟨r14, σ15, k13, h0⟩ := xbind2 h0
      refine x_callVi C hR (c_Model_joyKeeping (d := d) (by omega) k13) cw_Model_460 k_570 rfl rfl rfl (Nat.le_of_ble_eq_true rfl) ⟨Nat.zero_le _, Nat.zero_le _⟩ d_Model_keeping_34 ?_
      refine x_isub C d_Model_keeping_37 ?_
      refine x_goto C 44 d_Model_keeping_38 (by decide) ?_
      exact x_lv C [] rfl (b_Model_keeping_44 C hr hk hd hR h0)
-- LostPlacesModel.joyOn(II)I
theorem d_Model_joyOn_0 : decode prog_14_method_83_code 0 = .ok (.aload_n 0, 1) := by decide +kernel
theorem d_Model_joyOn_1 : decode prog_14_method_83_code 1 = .ok (.getfield 61, 3) := by decide +kernel
theorem d_Model_joyOn_4 : decode prog_14_method_83_code 4 = .ok (.aload_n 0, 1) := by decide +kernel
theorem d_Model_joyOn_5 : decode prog_14_method_83_code 5 = .ok (.getfield 64, 3) := by decide +kernel
theorem d_Model_joyOn_8 : decode prog_14_method_83_code 8 = .ok (.invokestatic 447, 3) := by decide +kernel
theorem d_Model_joyOn_11 : decode prog_14_method_83_code 11 = .ok (.aload_n 0, 1) := by decide +kernel
theorem d_Model_joyOn_12 : decode prog_14_method_83_code 12 = .ok (.getfield 64, 3) := by decide +kernel
theorem d_Model_joyOn_15 : decode prog_14_method_83_code 15 = .ok (.iconst 4, 1) := by decide +kernel
theorem d_Model_joyOn_16 : decode prog_14_method_83_code 16 = .ok (.iload_n 1, 1) := by decide +kernel
theorem d_Model_joyOn_17 : decode prog_14_method_83_code 17 = .ok (.imul, 1) := by decide +kernel
theorem d_Model_joyOn_18 : decode prog_14_method_83_code 18 = .ok (.iload_n 2, 1) := by decide +kernel
theorem d_Model_joyOn_19 : decode prog_14_method_83_code 19 = .ok (.iastore, 1) := by decide +kernel
theorem d_Model_joyOn_20 : decode prog_14_method_83_code 20 = .ok (.aload_n 0, 1) := by decide +kernel
theorem d_Model_joyOn_21 : decode prog_14_method_83_code 21 = .ok (.aload_n 0, 1) := by decide +kernel
theorem d_Model_joyOn_22 : decode prog_14_method_83_code 22 = .ok (.getfield 64, 3) := by decide +kernel
theorem d_Model_joyOn_25 : decode prog_14_method_83_code 25 = .ok (.invokevirtual 457, 3) := by decide +kernel
theorem d_Model_joyOn_28 : decode prog_14_method_83_code 28 = .ok (.aload_n 0, 1) := by decide +kernel
theorem d_Model_joyOn_29 : decode prog_14_method_83_code 29 = .ok (.getfield 64, 3) := by decide +kernel
theorem d_Model_joyOn_32 : decode prog_14_method_83_code 32 = .ok (.iconst 4, 1) := by decide +kernel
theorem d_Model_joyOn_33 : decode prog_14_method_83_code 33 = .ok (.iload_n 1, 1) := by decide +kernel
theorem d_Model_joyOn_34 : decode prog_14_method_83_code 34 = .ok (.imul, 1) := by decide +kernel
theorem d_Model_joyOn_35 : decode prog_14_method_83_code 35 = .ok (.iconst 3, 1) := by decide +kernel
theorem d_Model_joyOn_36 : decode prog_14_method_83_code 36 = .ok (.iadd, 1) := by decide +kernel
theorem d_Model_joyOn_37 : decode prog_14_method_83_code 37 = .ok (.iaload, 1) := by decide +kernel
theorem d_Model_joyOn_38 : decode prog_14_method_83_code 38 = .ok (.ireturn, 1) := by decide +kernel
def s_Model_joyOn (p0 : Int32) (p1 : Int32) (σ : LH) : Option (Int32 × LH) :=
  xb1 (s_Model_copy 583 584 σ) fun σ2 =>
  if ib (4 * p0) 290 then (
  xl ((stI σ2 584 (Int32.toNatClampNeg (4 * p0)) p1) : LH) fun σ4 =>
  xb1 (s_Model_toEnd 584 σ4) fun σ6 =>
  if ib ((4 * p0) + 3) 290 then (
  some ((σ6.1 584 (Int32.toNatClampNeg ((4 * p0) + 3))), σ6)) else none) else none
theorem c_Model_joyOn {G : XG} {l : Launch} {d : Nat} (hd : 125 ≤ d) {p0 : Int32} {p1 : Int32} {σ σ' : LH} {r : Int32} (h0 : s_Model_joyOn p0 p1 σ = some (r, σ')) : xM G 570 598 l y_Model_joyOn prog_14_method_83_code 3 (some .int) d [.ref (G.2.2.1 + 570), .int p0, .int p1] σ (some (.int r)) σ' := by
  obtain ⟨d, rfl⟩ : ∃ q, d = q + 1 := ⟨d - 1, by omega⟩
  refine x_met R_Model rfl (by decide +kernel) (Nat.le_of_ble_eq_true rfl) fun p e s m below meth c C hr hk hR => ?_
  refine x_lv (lv' := [(0, .ref (G.2.2.1 + 570)), (1, .int p0), (2, .int p1)]) C [0, 1, 2] rfl ?_
  generalize xrm (d + 1) = R at hR ⊢
  unfold s_Model_joyOn at h0
  refine x_aload_n C d_Model_joyOn_0 0 rfl ?_
  refine x_getA (y := 583) C fg_Model_61 k_570 rfl d_Model_joyOn_1 ?_
  refine x_aload_n C d_Model_joyOn_4 0 rfl ?_
  refine x_getA (y := 584) C fg_Model_64 k_570 rfl d_Model_joyOn_5 ?_
  obtain ⟨σ2, k1, h0⟩ := xbind1 h0
  refine x_callSv C hR (c_Model_copy (d := d) (by omega) k_583 k_584 k1) cw_Model_447 w_2011 rfl rfl (Nat.le_of_ble_eq_true rfl) ⟨Nat.zero_le _, Nat.zero_le _⟩ d_Model_joyOn_8 ?_
  refine x_aload_n C d_Model_joyOn_11 0 rfl ?_
  refine x_getA (y := 584) C fg_Model_64 k_570 rfl d_Model_joyOn_12 ?_
  refine x_iconst (v := 4) C d_Model_joyOn_15 (by decide) ?_
  refine x_iload_n C d_Model_joyOn_16 1 rfl ?_
  refine x_imul C d_Model_joyOn_17 ?_
  refine x_iload_n C d_Model_joyOn_18 2 rfl ?_
  obtain ⟨g3, h0⟩ := xgo h0
  refine x_iast C k_584 (ib_in g3) d_Model_joyOn_19 ?_
  obtain ⟨σ4, eσ4, h0⟩ := xlet h0
  refine x_sig C eσ4 ?_
  refine x_aload_n C d_Model_joyOn_20 0 rfl ?_
  refine x_aload_n C d_Model_joyOn_21 0 rfl ?_
  refine x_getA (y := 584) C fg_Model_64 k_570 rfl d_Model_joyOn_22 ?_
  obtain ⟨σ6, k5, h0⟩ := xbind1 h0
  refine x_callVv C hR (c_Model_toEnd (d := d) (by omega) k_584 k5) cw_Model_457 k_570 rfl rfl rfl (Nat.le_of_ble_eq_true rfl) ⟨Nat.zero_le _, Nat.zero_le _⟩ d_Model_joyOn_25 ?_
  refine x_aload_n C d_Model_joyOn_28 0 rfl ?_
  refine x_getA (y := 584) C fg_Model_64 k_570 rfl d_Model_joyOn_29 ?_
  refine x_iconst (v := 4) C d_Model_joyOn_32 (by decide) ?_
  refine x_iload_n C d_Model_joyOn_33 1 rfl ?_
  refine x_imul C d_Model_joyOn_34 ?_
  refine x_iconst (v := 3) C d_Model_joyOn_35 (by decide) ?_
  refine x_iadd C d_Model_joyOn_36 ?_
  obtain ⟨g7, h0⟩ := xgo h0
  refine x_iald C k_584 (ib_in g7) d_Model_joyOn_37 ?_
  exact x_iret C hr hk h0 d_Model_joyOn_38
