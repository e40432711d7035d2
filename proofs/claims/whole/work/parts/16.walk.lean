-- LostPlaces$Game.gainNow(II)I
theorem d_Game_gainNow_0 : decode prog_4_method_9_code 0 = .ok (.aload_n 0, 1) := by decide +kernel
theorem d_Game_gainNow_1 : decode prog_4_method_9_code 1 = .ok (.aload_n 0, 1) := by decide +kernel
theorem d_Game_gainNow_2 : decode prog_4_method_9_code 2 = .ok (.invokevirtual 84, 3) := by decide +kernel
theorem d_Game_gainNow_5 : decode prog_4_method_9_code 5 = .ok (.invokevirtual 87, 3) := by decide +kernel
theorem d_Game_gainNow_8 : decode prog_4_method_9_code 8 = .ok (.aload_n 0, 1) := by decide +kernel
theorem d_Game_gainNow_9 : decode prog_4_method_9_code 9 = .ok (.iload_n 1, 1) := by decide +kernel
theorem d_Game_gainNow_10 : decode prog_4_method_9_code 10 = .ok (.iload_n 2, 1) := by decide +kernel
theorem d_Game_gainNow_11 : decode prog_4_method_9_code 11 = .ok (.invokevirtual 91, 3) := by decide +kernel
theorem d_Game_gainNow_14 : decode prog_4_method_9_code 14 = .ok (.ireturn, 1) := by decide +kernel
def s_Game_gainNow (p0 : Int32) (p1 : Int32) (σ : LH) : Option (Int32 × LH) :=
  xb2 (s_Game_outcome σ) fun r2 σ3 =>
  xb1 (s_Game_tryOut r2 σ3) fun σ5 =>
  xb2 (s_Game_gain p0 p1 σ5) fun r7 σ8 =>
  some (r7, σ8)
theorem c_Game_gainNow {G : XG} {l : Launch} {d : Nat} (hd : 7 ≤ d) {p0 : Int32} {p1 : Int32} {σ σ' : LH} {r : Int32} (h0 : s_Game_gainNow p0 p1 σ = some (r, σ')) : xM G 1 570 l y_Game_gainNow prog_4_method_9_code 3 (some .int) d [.ref (G.2.2.1 + 68), .int p0, .int p1] σ (some (.int r)) σ' := by
  obtain ⟨d, rfl⟩ : ∃ q, d = q + 1 := ⟨d - 1, by omega⟩
  refine x_met R_Game rfl (by decide +kernel) (Nat.le_of_ble_eq_true rfl) fun p e s m below meth c C hr hk hR => ?_
  refine x_lv (lv' := [(0, .ref (G.2.2.1 + 68)), (1, .int p0), (2, .int p1)]) C [0, 1, 2] rfl ?_
  generalize xrm (d + 1) = R at hR ⊢
  unfold s_Game_gainNow at h0
  refine x_aload_n C d_Game_gainNow_0 0 rfl ?_
  refine x_aload_n C d_Game_gainNow_1 0 rfl ?_
  obtain ⟨r2, σ3, k1, h0⟩ := xbind2 h0
  refine x_callVi C hR (c_Game_outcome (d := d) (by omega) k1) cw_Game_84 k_68 rfl rfl rfl (Nat.le_of_ble_eq_true rfl) ⟨Nat.zero_le _, Nat.zero_le _⟩ d_Game_gainNow_2 ?_
  obtain ⟨σ5, k4, h0⟩ := xbind1 h0
  refine x_callVv C hR (c_Game_tryOut (d := d) (by omega) k4) cw_Game_87 k_68 rfl rfl rfl (Nat.le_of_ble_eq_true rfl) ⟨Nat.zero_le _, Nat.zero_le _⟩ d_Game_gainNow_5 ?_
  refine x_aload_n C d_Game_gainNow_8 0 rfl ?_
  refine x_iload_n C d_Game_gainNow_9 1 rfl ?_
  refine x_iload_n C d_Game_gainNow_10 2 rfl ?_
  obtain ⟨r7, σ8, k6, h0⟩ := xbind2 h0
  refine x_callVi C hR (c_Game_gain (d := d) (by omega) k6) cw_Game_91 k_68 rfl rfl rfl (Nat.le_of_ble_eq_true rfl) ⟨Nat.zero_le _, Nat.zero_le _⟩ d_Game_gainNow_11 ?_
  exact x_iret C hr hk h0 d_Game_gainNow_14
-- LostPlaces.call(III)I
theorem d_Main_call_0 : decode prog_1_method_39_code 0 = .ok (.aload_n 0, 1) := by decide +kernel
theorem d_Main_call_1 : decode prog_1_method_39_code 1 = .ok (.iload_n 2, 1) := by decide +kernel
theorem d_Main_call_2 : decode prog_1_method_39_code 2 = .ok (.invokevirtual 324, 3) := by decide +kernel
theorem d_Main_call_5 : decode prog_1_method_39_code 5 = .ok (.ifCond .eq 14, 3) := by decide +kernel
theorem d_Main_call_8 : decode prog_1_method_39_code 8 = .ok (.aload_n 0, 1) := by decide +kernel
theorem d_Main_call_9 : decode prog_1_method_39_code 9 = .ok (.getfield 114, 3) := by decide +kernel
theorem d_Main_call_12 : decode prog_1_method_39_code 12 = .ok (.iload_n 1, 1) := by decide +kernel
theorem d_Main_call_13 : decode prog_1_method_39_code 13 = .ok (.invokevirtual 327, 3) := by decide +kernel
theorem d_Main_call_16 : decode prog_1_method_39_code 16 = .ok (.ifCond .ne 6, 3) := by decide +kernel
theorem d_Main_call_19 : decode prog_1_method_39_code 19 = .ok (.ldc 226, 2) := by decide +kernel
theorem d_Main_call_21 : decode prog_1_method_39_code 21 = .ok (.ireturn, 1) := by decide +kernel
theorem d_Main_call_22 : decode prog_1_method_39_code 22 = .ok (.aload_n 0, 1) := by decide +kernel
theorem d_Main_call_23 : decode prog_1_method_39_code 23 = .ok (.getfield 114, 3) := by decide +kernel
theorem d_Main_call_26 : decode prog_1_method_39_code 26 = .ok (.iload_n 3, 1) := by decide +kernel
theorem d_Main_call_27 : decode prog_1_method_39_code 27 = .ok (.invokevirtual 330, 3) := by decide +kernel
theorem d_Main_call_30 : decode prog_1_method_39_code 30 = .ok (.istore 4, 2) := by decide +kernel
theorem d_Main_call_32 : decode prog_1_method_39_code 32 = .ok (.iload 4, 2) := by decide +kernel
theorem d_Main_call_34 : decode prog_1_method_39_code 34 = .ok (.iconst (-1), 1) := by decide +kernel
theorem d_Main_call_35 : decode prog_1_method_39_code 35 = .ok (.if_icmp .ne 8, 3) := by decide +kernel
theorem d_Main_call_38 : decode prog_1_method_39_code 38 = .ok (.ldc 226, 2) := by decide +kernel
theorem d_Main_call_40 : decode prog_1_method_39_code 40 = .ok (.goto 13, 3) := by decide +kernel
theorem d_Main_call_43 : decode prog_1_method_39_code 43 = .ok (.aload_n 0, 1) := by decide +kernel
theorem d_Main_call_44 : decode prog_1_method_39_code 44 = .ok (.getfield 114, 3) := by decide +kernel
theorem d_Main_call_47 : decode prog_1_method_39_code 47 = .ok (.iload 4, 2) := by decide +kernel
theorem d_Main_call_49 : decode prog_1_method_39_code 49 = .ok (.iload_n 2, 1) := by decide +kernel
theorem d_Main_call_50 : decode prog_1_method_39_code 50 = .ok (.invokevirtual 333, 3) := by decide +kernel
theorem d_Main_call_53 : decode prog_1_method_39_code 53 = .ok (.ireturn, 1) := by decide +kernel
def s_Main_call_19 (p0 : Int32) (p1 : Int32) (p2 : Int32) (σ : LH) : Option (Int32 × LH) :=
  some ((-1000000), σ)
theorem b_Main_call_19 {G : XG} {l : Launch} {p : Program} {e : Env} {R : Room} {s : State} {m : MethodId} {args : Array Value} {below : List Frame} {meth : Method} {c : Code} (C : XC G 1 570 p s m args c prog_1_method_39_code 5 R_Main) (hr : meth.sig.returnType = (some .int)) (hk : meth.locks = false) {d : Nat} (hd : 8 ≤ d + 1) (hR : xroom R (d + 1)) {p0 : Int32} {p1 : Int32} {p2 : Int32} {σ' : LH} {r : Int32} {σ : LH} (h0 : s_Main_call_19 p0 p1 p2 σ = some (r, σ')) : XJ G 1 570 p l e R s m args below meth c 5 (XQ G 1 570 below args s (some (.int r)) σ') 0 0 19 [] [] σ := by
  replace h0 := (show _ = _ from h0)
  unfold s_Main_call_19 at h0
  refine x_ldc (v := (-1000000)) C w_982 d_Main_call_19 ?_
  exact x_iret C hr hk h0 d_Main_call_21
def s_Main_call_53 (p0 : Int32) (p1 : Int32) (p2 : Int32) (z0 : Int32) (σ : LH) : Option (Int32 × LH) :=
  some (z0, σ)
theorem b_Main_call_53 {G : XG} {l : Launch} {p : Program} {e : Env} {R : Room} {s : State} {m : MethodId} {args : Array Value} {below : List Frame} {meth : Method} {c : Code} (C : XC G 1 570 p s m args c prog_1_method_39_code 5 R_Main) (hr : meth.sig.returnType = (some .int)) (hk : meth.locks = false) {d : Nat} (hd : 8 ≤ d + 1) (hR : xroom R (d + 1)) {p0 : Int32} {p1 : Int32} {p2 : Int32} {σ' : LH} {r : Int32} {z0 : Int32} {σ : LH} (h0 : s_Main_call_53 p0 p1 p2 z0 σ = some (r, σ')) : XJ G 1 570 p l e R s m args below meth c 5 (XQ G 1 570 below args s (some (.int r)) σ') 0 0 53 [] [.int z0] σ := by
  replace h0 := (show _ = _ from h0)
  unfold s_Main_call_53 at h0
  exact x_iret C hr hk h0 d_Main_call_53
def s_Main_call (p0 : Int32) (p1 : Int32) (p2 : Int32) (σ : LH) : Option (Int32 × LH) :=
  xb2 (s_Main_isGame p1 σ) fun r2 σ3 =>
  if r2 = 0 then (
   s_Main_call_19 p0 p1 p2 σ3)
  else (
   xb2 (s_Game_takeRow p0 σ3) fun r6 σ7 =>
   if r6 = 0 then (
    s_Main_call_19 p0 p1 p2 σ7)
   else (
    xb2 (s_Game_placeOf p2 σ7) fun r10 σ11 =>
    if r10 = (-1) then (
     s_Main_call_53 p0 p1 p2 (-1000000) σ11)
    else (
     xb2 (s_Game_gainNow r10 p1 σ11) fun r14 σ15 =>
     s_Main_call_53 p0 p1 p2 r14 σ15)))
theorem c_Main_call {G : XG} {l : Launch} {d : Nat} (hd : 8 ≤ d) {p0 : Int32} {p1 : Int32} {p2 : Int32} {σ σ' : LH} {r : Int32} (h0 : s_Main_call p0 p1 p2 σ = some (r, σ')) : xM G 1 570 l y_Main_call prog_1_method_39_code 5 (some .int) d [.ref (G.2.2.1 + 1), .int p0, .int p1, .int p2] σ (some (.int r)) σ' := by
  obtain ⟨d, rfl⟩ : ∃ q, d = q + 1 := ⟨d - 1, by omega⟩
  refine x_met R_Main rfl (by decide +kernel) (Nat.le_of_ble_eq_true rfl) fun p e s m below meth c C hr hk hR => ?_
  refine x_lv (lv' := [(0, .ref (G.2.2.1 + 1)), (1, .int p0), (2, .int p1), (3, .int p2)]) C [0, 1, 2, 3] rfl ?_
  generalize xrm (d + 1) = R at hR ⊢
  unfold s_Main_call at h0
  refine x_aload_n C d_Main_call_0 0 rfl ?_
  refine x_iload_n C d_Main_call_1 2 rfl ?_
  obtain ⟨r2, σ3, k1, h0⟩ := xbind2 h0
  refine x_callVi C hR (c_Main_isGame (d := d) (by omega) k1) cw_Main_324 k_1 rfl rfl rfl (Nat.le_of_ble_eq_true rfl) ⟨Nat.zero_le _, Nat.zero_le _⟩ d_Main_call_2 ?_
  refine x_if_eq C 19 d_Main_call_5 (by decide) (fun q4 => ?_) (fun q4 => ?_)
  · replace h0 := xit q4 h0
    exact x_lv C [] rfl (b_Main_call_19 C hr hk hd hR h0)
  · replace h0 := xif q4 h0
    refine x_aload_n C d_Main_call_8 0 rfl ?_
    refine x_getA (y := 68) C fg_Main_114 k_1 rfl d_Main_call_9 ?_
    refine x_iload_n C d_Main_call_12 1 rfl ?_
    obtain ⟨r6, σ7, k5, h0⟩ := xbind2 h0
    refine x_callVi C hR (c_Game_takeRow (d := d) (by omega) k5) cw_Main_327 k_68 rfl rfl rfl (Nat.le_of_ble_eq_true rfl) ⟨Nat.zero_le _, Nat.zero_le _⟩ d_Main_call_13 ?_
    refine x_if_ne C 22 d_Main_call_16 (by decide) (fun q8 => ?_) (fun q8 => ?_)
    · replace h0 := xif q8 h0
      refine x_aload_n C d_Main_call_22 0 rfl ?_
      refine x_getA (y := 68) C fg_Main_114 k_1 rfl d_Main_call_23 ?_
      refine x_iload_n C d_Main_call_26 3 rfl ?_
      obtain ⟨r10, σ11, k9, h0⟩ := xbind2 h0
      refine x_callVi C hR (c_Game_placeOf (d := d) (by omega) k9) cw_Main_330 k_68 rfl rfl rfl (Nat.le_of_ble_eq_true rfl) ⟨Nat.zero_le _, Nat.zero_le _⟩ d_Main_call_27 ?_
      refine x_istore (lv' := [(4, .int r10), (0, .ref (G.2.2.1 + 1)), (1, .int p0), (2, .int p1), (3, .int p2)]) C d_Main_call_30 (by decide) rfl ?_
      refine x_iload C d_Main_call_32 0 rfl ?_
      refine x_iconst (v := (-1)) C d_Main_call_34 (by decide) ?_
      refine x_icmp_ne C 43 d_Main_call_35 (by decide) (fun q12 => ?_) (fun q12 => ?_)
      · replace h0 := xif q12 h0
        refine x_aload_n C d_Main_call_43 1 rfl ?_
        refine x_getA (y := 68) C fg_Main_114 k_1 rfl d_Main_call_44 ?_
        refine x_iload C d_Main_call_47 0 rfl ?_
        refine x_iload_n C d_Main_call_49 3 rfl ?_
        obtain ⟨r14, σ15, k13, h0⟩ := xbind2 h0
        refine x_callVi C hR (c_Game_gainNow (d := d) (by omega) k13) cw_Main_333 k_68 rfl rfl rfl (Nat.le_of_ble_eq_true rfl) ⟨Nat.zero_le _, Nat.zero_le _⟩ d_Main_call_50 ?_
        exact x_lv C [] rfl (b_Main_call_53 C hr hk hd hR h0)
      · replace h0 := xit q12 h0
        refine x_ldc (v := (-1000000)) C w_982 d_Main_call_38 ?_
        refine x_goto C 53 d_Main_call_40 (by decide) ?_
        exact x_lv C [] rfl (b_Main_call_53 C hr hk hd hR h0)
    · replace h0 := xit q8 h0
      exact x_lv C [] rfl (b_Main_call_19 C hr hk hd hR h0)
-- LostPlaces$Game.isRest(I)Z
theorem d_Game_isRest_0 : decode prog_4_method_13_code 0 = .ok (.iconst 0, 1) := by decide +kernel
theorem d_Game_isRest_1 : decode prog_4_method_13_code 1 = .ok (.istore_n 2, 1) := by decide +kernel
theorem d_Game_isRest_2 : decode prog_4_method_13_code 2 = .ok (.iload_n 2, 1) := by decide +kernel
theorem d_Game_isRest_3 : decode prog_4_method_13_code 3 = .ok (.aload_n 0, 1) := by decide +kernel
theorem d_Game_isRest_4 : decode prog_4_method_13_code 4 = .ok (.getfield 22, 3) := by decide +kernel
theorem d_Game_isRest_7 : decode prog_4_method_13_code 7 = .ok (.if_icmp .ge 78, 3) := by decide +kernel
theorem d_Game_isRest_10 : decode prog_4_method_13_code 10 = .ok (.aload_n 0, 1) := by decide +kernel
theorem d_Game_isRest_11 : decode prog_4_method_13_code 11 = .ok (.getfield 26, 3) := by decide +kernel
theorem d_Game_isRest_14 : decode prog_4_method_13_code 14 = .ok (.iload_n 2, 1) := by decide +kernel
theorem d_Game_isRest_15 : decode prog_4_method_13_code 15 = .ok (.iaload, 1) := by decide +kernel
theorem d_Game_isRest_16 : decode prog_4_method_13_code 16 = .ok (.istore_n 3, 1) := by decide +kernel
theorem d_Game_isRest_17 : decode prog_4_method_13_code 17 = .ok (.aload_n 0, 1) := by decide +kernel
theorem d_Game_isRest_18 : decode prog_4_method_13_code 18 = .ok (.iload_n 2, 1) := by decide +kernel
theorem d_Game_isRest_19 : decode prog_4_method_13_code 19 = .ok (.iload_n 1, 1) := by decide +kernel
theorem d_Game_isRest_20 : decode prog_4_method_13_code 20 = .ok (.invokevirtual 91, 3) := by decide +kernel
theorem d_Game_isRest_23 : decode prog_4_method_13_code 23 = .ok (.istore 4, 2) := by decide +kernel
theorem d_Game_isRest_25 : decode prog_4_method_13_code 25 = .ok (.iconst 0, 1) := by decide +kernel
theorem d_Game_isRest_26 : decode prog_4_method_13_code 26 = .ok (.istore 5, 2) := by decide +kernel
theorem d_Game_isRest_28 : decode prog_4_method_13_code 28 = .ok (.iconst 0, 1) := by decide +kernel
theorem d_Game_isRest_29 : decode prog_4_method_13_code 29 = .ok (.istore 6, 2) := by decide +kernel
theorem d_Game_isRest_31 : decode prog_4_method_13_code 31 = .ok (.iload 6, 2) := by decide +kernel
theorem d_Game_isRest_33 : decode prog_4_method_13_code 33 = .ok (.iconst 4, 1) := by decide +kernel
theorem d_Game_isRest_34 : decode prog_4_method_13_code 34 = .ok (.if_icmp .gt 31, 3) := by decide +kernel
theorem d_Game_isRest_37 : decode prog_4_method_13_code 37 = .ok (.aload_n 0, 1) := by decide +kernel
theorem d_Game_isRest_38 : decode prog_4_method_13_code 38 = .ok (.getfield 26, 3) := by decide +kernel
theorem d_Game_isRest_41 : decode prog_4_method_13_code 41 = .ok (.iload_n 2, 1) := by decide +kernel
theorem d_Game_isRest_42 : decode prog_4_method_13_code 42 = .ok (.iload 6, 2) := by decide +kernel
theorem d_Game_isRest_44 : decode prog_4_method_13_code 44 = .ok (.iastore, 1) := by decide +kernel
theorem d_Game_isRest_45 : decode prog_4_method_13_code 45 = .ok (.aload_n 0, 1) := by decide +kernel
theorem d_Game_isRest_46 : decode prog_4_method_13_code 46 = .ok (.iload_n 2, 1) := by decide +kernel
theorem d_Game_isRest_47 : decode prog_4_method_13_code 47 = .ok (.iload_n 1, 1) := by decide +kernel
theorem d_Game_isRest_48 : decode prog_4_method_13_code 48 = .ok (.invokevirtual 91, 3) := by decide +kernel
theorem d_Game_isRest_51 : decode prog_4_method_13_code 51 = .ok (.iload 4, 2) := by decide +kernel
theorem d_Game_isRest_53 : decode prog_4_method_13_code 53 = .ok (.if_icmp .le 6, 3) := by decide +kernel
theorem d_Game_isRest_56 : decode prog_4_method_13_code 56 = .ok (.iconst 1, 1) := by decide +kernel
theorem d_Game_isRest_57 : decode prog_4_method_13_code 57 = .ok (.istore 5, 2) := by decide +kernel
theorem d_Game_isRest_59 : decode prog_4_method_13_code 59 = .ok (.iinc 6 1, 3) := by decide +kernel
theorem d_Game_isRest_62 : decode prog_4_method_13_code 62 = .ok (.goto (-31), 3) := by decide +kernel
theorem d_Game_isRest_65 : decode prog_4_method_13_code 65 = .ok (.aload_n 0, 1) := by decide +kernel
theorem d_Game_isRest_66 : decode prog_4_method_13_code 66 = .ok (.getfield 26, 3) := by decide +kernel
theorem d_Game_isRest_69 : decode prog_4_method_13_code 69 = .ok (.iload_n 2, 1) := by decide +kernel
theorem d_Game_isRest_70 : decode prog_4_method_13_code 70 = .ok (.iload_n 3, 1) := by decide +kernel
theorem d_Game_isRest_71 : decode prog_4_method_13_code 71 = .ok (.iastore, 1) := by decide +kernel
theorem d_Game_isRest_72 : decode prog_4_method_13_code 72 = .ok (.iload 5, 2) := by decide +kernel
theorem d_Game_isRest_74 : decode prog_4_method_13_code 74 = .ok (.ifCond .eq 5, 3) := by decide +kernel
theorem d_Game_isRest_77 : decode prog_4_method_13_code 77 = .ok (.iconst 0, 1) := by decide +kernel
theorem d_Game_isRest_78 : decode prog_4_method_13_code 78 = .ok (.ireturn, 1) := by decide +kernel
theorem d_Game_isRest_79 : decode prog_4_method_13_code 79 = .ok (.iinc 2 1, 3) := by decide +kernel
theorem d_Game_isRest_82 : decode prog_4_method_13_code 82 = .ok (.goto (-80), 3) := by decide +kernel
theorem d_Game_isRest_85 : decode prog_4_method_13_code 85 = .ok (.iconst 1, 1) := by decide +kernel
theorem d_Game_isRest_86 : decode prog_4_method_13_code 86 = .ok (.ireturn, 1) := by decide +kernel
def s_Game_isRest_59 (p0 : Int32) (rec31 : Int32 → Int32 → Int32 → Int32 → Int32 → LH → Option (Int32 × LH)) (y2 : Int32) (y3 : Int32) (y4 : Int32) (y5 : Int32) (y6 : Int32) (σ : LH) : Option (Int32 × LH) :=
  xl ((y6 + 1) : Int32) fun x18 =>
  rec31 y2 y3 y4 y5 x18 σ
theorem b_Game_isRest_59 {G : XG} {l : Launch} {p : Program} {e : Env} {R : Room} {s : State} {m : MethodId} {args : Array Value} {below : List Frame} {meth : Method} {c : Code} (C : XC G 1 570 p s m args c prog_4_method_13_code 7 R_Game) (hr : meth.sig.returnType = (some .boolean)) (hk : meth.locks = false) {d : Nat} (hd : 4 ≤ d + 1) (hR : xroom R (d + 1)) {p0 : Int32} {rec31 : Int32 → Int32 → Int32 → Int32 → Int32 → LH → Option (Int32 × LH)} {σ' : LH} {r : Int32} (hrec31 : ∀ (y2 : Int32) (y3 : Int32) (y4 : Int32) (y5 : Int32) (y6 : Int32) (σ : LH), rec31 y2 y3 y4 y5 y6 σ = some (r, σ') → XJ G 1 570 p l e R s m args below meth c 7 (XQ G 1 570 below args s (some (.int r)) σ') 0 0 31 [(0, .ref (G.2.2.1 + 68)), (1, .int p0), (2, .int y2), (3, .int y3), (4, .int y4), (5, .int y5), (6, .int y6)] [] σ) {y2 : Int32} {y3 : Int32} {y4 : Int32} {y5 : Int32} {y6 : Int32} {σ : LH} (h0 : s_Game_isRest_59 p0 rec31 y2 y3 y4 y5 y6 σ = some (r, σ')) : XJ G 1 570 p l e R s m args below meth c 7 (XQ G 1 570 below args s (some (.int r)) σ') 0 0 59 [(0, .ref (G.2.2.1 + 68)), (1, .int p0), (2, .int y2), (3, .int y3), (4, .int y4), (5, .int y5), (6, .int y6)] [] σ := by
  replace h0 := (show _ = _ from h0)
  unfold s_Game_isRest_59 at h0
  obtain ⟨x18, ex18, h0⟩ := xlet h0
  refine x_iinc (lv' := [(6, .int x18), (0, .ref (G.2.2.1 + 68)), (1, .int p0), (2, .int y2), (3, .int y3), (4, .int y4), (5, .int y5)]) C d_Game_isRest_59 6 rfl ex18 (by decide) rfl ?_
  refine x_goto C 31 d_Game_isRest_62 (by decide) ?_
  exact x_lv C [1, 2, 3, 4, 5, 6, 0] rfl (hrec31 _ _ _ _ _ _ h0)
def s_Game_isRest_31_b (p0 : Int32) (rec2 : Int32 → LH → Option (Int32 × LH)) (rec31 : Int32 → Int32 → Int32 → Int32 → Int32 → LH → Option (Int32 × LH)) (y2 : Int32) (y3 : Int32) (y4 : Int32) (y5 : Int32) (y6 : Int32) (σ : LH) : Option (Int32 × LH) :=
  if 4 < y6 then (
   if ib y2 4 then (
   xl ((stI σ 79 (Int32.toNatClampNeg y2) y3) : LH) fun σ9 =>
   if y5 = 0 then (
    xl ((y2 + 1) : Int32) fun x11 =>
    rec2 x11 σ9)
   else (
    some (0, σ9))) else none)
  else (
   if ib y2 4 then (
   xl ((stI σ 79 (Int32.toNatClampNeg y2) y6) : LH) fun σ13 =>
   xb2 (s_Game_gain y2 p0 σ13) fun r15 σ16 =>
   if r15 ≤ y4 then (
    s_Game_isRest_59 p0 rec31 y2 y3 y4 y5 y6 σ16)
   else (
    s_Game_isRest_59 p0 rec31 y2 y3 y4 1 y6 σ16)) else none)
def s_Game_isRest_31 (p0 : Int32) (rec2 : Int32 → LH → Option (Int32 × LH)) : Nat → Int32 → Int32 → Int32 → Int32 → Int32 → LH → Option (Int32 × LH)
  | 0, _, _, _, _, _, _ => none
  | n + 1, y2, y3, y4, y5, y6, σ => s_Game_isRest_31_b p0 rec2 (s_Game_isRest_31 p0 rec2 n) y2 y3 y4 y5 y6 σ
theorem bb_Game_isRest_31 {G : XG} {l : Launch} {p : Program} {e : Env} {R : Room} {s : State} {m : MethodId} {args : Array Value} {below : List Frame} {meth : Method} {c : Code} (C : XC G 1 570 p s m args c prog_4_method_13_code 7 R_Game) (hr : meth.sig.returnType = (some .boolean)) (hk : meth.locks = false) {d : Nat} (hd : 4 ≤ d + 1) (hR : xroom R (d + 1)) {p0 : Int32} {rec2 : Int32 → LH → Option (Int32 × LH)} {rec31 : Int32 → Int32 → Int32 → Int32 → Int32 → LH → Option (Int32 × LH)} {σ' : LH} {r : Int32} (hrec2 : ∀ (y2 : Int32) (σ : LH), rec2 y2 σ = some (r, σ') → XJ G 1 570 p l e R s m args below meth c 7 (XQ G 1 570 below args s (some (.int r)) σ') 0 0 2 [(0, .ref (G.2.2.1 + 68)), (1, .int p0), (2, .int y2)] [] σ) (hrec31 : ∀ (y2 : Int32) (y3 : Int32) (y4 : Int32) (y5 : Int32) (y6 : Int32) (σ : LH), rec31 y2 y3 y4 y5 y6 σ = some (r, σ') → XJ G 1 570 p l e R s m args below meth c 7 (XQ G 1 570 below args s (some (.int r)) σ') 0 0 31 [(0, .ref (G.2.2.1 + 68)), (1, .int p0), (2, .int y2), (3, .int y3), (4, .int y4), (5, .int y5), (6, .int y6)] [] σ) {y2 : Int32} {y3 : Int32} {y4 : Int32} {y5 : Int32} {y6 : Int32} {σ : LH} (h0 : s_Game_isRest_31_b p0 rec2 rec31 y2 y3 y4 y5 y6 σ = some (r, σ')) : XJ G 1 570 p l e R s m args below meth c 7 (XQ G 1 570 below args s (some (.int r)) σ') 0 0 31 [(0, .ref (G.2.2.1 + 68)), (1, .int p0), (2, .int y2), (3, .int y3), (4, .int y4), (5, .int y5), (6, .int y6)] [] σ := by
  replace h0 := (show _ = _ from h0)
  unfold s_Game_isRest_31_b at h0
  refine x_iload C d_Game_isRest_31 6 rfl ?_
  refine x_iconst (v := 4) C d_Game_isRest_33 (by decide) ?_
  refine x_icmp_gt C 65 d_Game_isRest_34 (by decide) (fun q7 => ?_) (fun q7 => ?_)
  · replace h0 := xit q7 h0
    refine x_aload_n C d_Game_isRest_65 0 rfl ?_
    refine x_getA (y := 79) C fg_Game_26 k_68 rfl d_Game_isRest_66 ?_
    refine x_iload_n C d_Game_isRest_69 2 rfl ?_
    refine x_iload_n C d_Game_isRest_70 3 rfl ?_
    obtain ⟨g8, h0⟩ := xgo h0
    refine x_iast C k_79 (ib_in g8) d_Game_isRest_71 ?_
    obtain ⟨σ9, eσ9, h0⟩ := xlet h0
    refine x_sig C eσ9 ?_
    refine x_iload C d_Game_isRest_72 5 rfl ?_
    refine x_if_eq C 79 d_Game_isRest_74 (by decide) (fun q10 => ?_) (fun q10 => ?_)
    · replace h0 := xit q10 h0
      obtain ⟨x11, ex11, h0⟩ := xlet h0
      refine x_iinc (lv' := [(2, .int x11), (0, .ref (G.2.2.1 + 68)), (1, .int p0), (3, .int y3), (4, .int y4), (5, .int y5), (6, .int y6)]) C d_Game_isRest_79 2 rfl ex11 (by decide) rfl ?_
      refine x_goto C 2 d_Game_isRest_82 (by decide) ?_
      exact x_lv C [1, 2, 0] rfl (hrec2 _ _ h0)
    · replace h0 := xif q10 h0
      refine x_iconst (v := 0) C d_Game_isRest_77 (by decide) ?_
      exact x_zret C hr hk (by decide) h0 d_Game_isRest_78
  · replace h0 := xif q7 h0
    refine x_aload_n C d_Game_isRest_37 0 rfl ?_
    refine x_getA (y := 79) C fg_Game_26 k_68 rfl d_Game_isRest_38 ?_
    refine x_iload_n C d_Game_isRest_41 2 rfl ?_
    refine x_iload C d_Game_isRest_42 6 rfl ?_
    obtain ⟨g12, h0⟩ := xgo h0
    refine x_iast C k_79 (ib_in g12) d_Game_isRest_44 ?_
    obtain ⟨σ13, eσ13, h0⟩ := xlet h0
    refine x_sig C eσ13 ?_
    refine x_aload_n C d_Game_isRest_45 0 rfl ?_
    refine x_iload_n C d_Game_isRest_46 2 rfl ?_
    refine x_iload_n C d_Game_isRest_47 1 rfl ?_
    obtain ⟨r15, σ16, k14, h0⟩ := xbind2 h0
    refine x_callVi C hR (c_Game_gain (d := d) (by omega) k14) cw_Game_91 k_68 rfl rfl rfl (Nat.le_of_ble_eq_true rfl) ⟨Nat.zero_le _, Nat.zero_le _⟩ d_Game_isRest_48 ?_
    refine x_iload C d_Game_isRest_51 4 rfl ?_
    refine x_icmp_le C 59 d_Game_isRest_53 (by decide) (fun q17 => ?_) (fun q17 => ?_)
    · replace h0 := xit q17 h0
      exact x_lv C [0, 1, 2, 3, 4, 5, 6] rfl (b_Game_isRest_59 C hr hk hd hR hrec31 h0)
    · replace h0 := xif q17 h0
      refine x_iconst (v := 1) C d_Game_isRest_56 (by decide) ?_
      refine x_istore (lv' := [(5, .int 1), (0, .ref (G.2.2.1 + 68)), (1, .int p0), (2, .int y2), (3, .int y3), (4, .int y4), (6, .int y6)]) C d_Game_isRest_57 (by decide) rfl ?_
      exact x_lv C [1, 2, 3, 4, 5, 0, 6] rfl (b_Game_isRest_59 C hr hk hd hR hrec31 h0)
theorem b_Game_isRest_31 {G : XG} {l : Launch} {p : Program} {e : Env} {R : Room} {s : State} {m : MethodId} {args : Array Value} {below : List Frame} {meth : Method} {c : Code} (C : XC G 1 570 p s m args c prog_4_method_13_code 7 R_Game) (hr : meth.sig.returnType = (some .boolean)) (hk : meth.locks = false) {d : Nat} (hd : 4 ≤ d + 1) (hR : xroom R (d + 1)) {p0 : Int32} {rec2 : Int32 → LH → Option (Int32 × LH)} {σ' : LH} {r : Int32} (hrec2 : ∀ (y2 : Int32) (σ : LH), rec2 y2 σ = some (r, σ') → XJ G 1 570 p l e R s m args below meth c 7 (XQ G 1 570 below args s (some (.int r)) σ') 0 0 2 [(0, .ref (G.2.2.1 + 68)), (1, .int p0), (2, .int y2)] [] σ) : ∀ (n : Nat) (y2 : Int32) (y3 : Int32) (y4 : Int32) (y5 : Int32) (y6 : Int32) (σ : LH), s_Game_isRest_31 p0 rec2 n y2 y3 y4 y5 y6 σ = some (r, σ') → XJ G 1 570 p l e R s m args below meth c 7 (XQ G 1 570 below args s (some (.int r)) σ') 0 0 31 [(0, .ref (G.2.2.1 + 68)), (1, .int p0), (2, .int y2), (3, .int y3), (4, .int y4), (5, .int y5), (6, .int y6)] [] σ := by
  intro n
  induction n with
  | zero => intro y2 y3 y4 y5 y6 σ h0; cases h0
  | succ n ih => intro y2 y3 y4 y5 y6 σ h0; exact bb_Game_isRest_31 C hr hk hd hR hrec2 ih h0
def s_Game_isRest_2_b (p0 : Int32) (rec2 : Int32 → LH → Option (Int32 × LH)) (y2 : Int32) (σ : LH) : Option (Int32 × LH) :=
  if (σ.1 68 5) ≤ y2 then (
   some (1, σ))
  else (
   if ib y2 4 then (
   xl (((σ.1 79 (Int32.toNatClampNeg y2))) : Int32) fun x3 =>
   xb2 (s_Game_gain y2 p0 σ) fun r5 σ6 =>
   s_Game_isRest_31 p0 rec2 FUEL y2 x3 r5 0 0 σ6) else none)
def s_Game_isRest_2 (p0 : Int32) : Nat → Int32 → LH → Option (Int32 × LH)
  | 0, _, _ => none
  | n + 1, y2, σ => s_Game_isRest_2_b p0 (s_Game_isRest_2 p0 n) y2 σ
theorem bb_Game_isRest_2 {G : XG} {l : Launch} {p : Program} {e : Env} {R : Room} {s : State} {m : MethodId} {args : Array Value} {below : List Frame} {meth : Method} {c : Code} (C : XC G 1 570 p s m args c prog_4_method_13_code 7 R_Game) (hr : meth.sig.returnType = (some .boolean)) (hk : meth.locks = false) {d : Nat} (hd : 4 ≤ d + 1) (hR : xroom R (d + 1)) {p0 : Int32} {rec2 : Int32 → LH → Option (Int32 × LH)} {σ' : LH} {r : Int32} (hrec2 : ∀ (y2 : Int32) (σ : LH), rec2 y2 σ = some (r, σ') → XJ G 1 570 p l e R s m args below meth c 7 (XQ G 1 570 below args s (some (.int r)) σ') 0 0 2 [(0, .ref (G.2.2.1 + 68)), (1, .int p0), (2, .int y2)] [] σ) {y2 : Int32} {σ : LH} (h0 : s_Game_isRest_2_b p0 rec2 y2 σ = some (r, σ')) : XJ G 1 570 p l e R s m args below meth c 7 (XQ G 1 570 below args s (some (.int r)) σ') 0 0 2 [(0, .ref (G.2.2.1 + 68)), (1, .int p0), (2, .int y2)] [] σ := by
  replace h0 := (show _ = _ from h0)
  unfold s_Game_isRest_2_b at h0
  refine x_iload_n C d_Game_isRest_2 2 rfl ?_
  refine x_aload_n C d_Game_isRest_3 0 rfl ?_
  refine x_getI (y := 0) C fg_Game_22 k_68 rfl d_Game_isRest_4 ?_
  refine x_icmp_ge C 85 d_Game_isRest_7 (by decide) (fun q1 => ?_) (fun q1 => ?_)
  · replace h0 := xit q1 h0
    refine x_iconst (v := 1) C d_Game_isRest_85 (by decide) ?_
    exact x_zret C hr hk (by decide) h0 d_Game_isRest_86
  · replace h0 := xif q1 h0
    refine x_aload_n C d_Game_isRest_10 0 rfl ?_
    refine x_getA (y := 79) C fg_Game_26 k_68 rfl d_Game_isRest_11 ?_
    refine x_iload_n C d_Game_isRest_14 2 rfl ?_
    obtain ⟨g2, h0⟩ := xgo h0
    refine x_iald C k_79 (ib_in g2) d_Game_isRest_15 ?_
    obtain ⟨x3, ex3, h0⟩ := xlet h0
    refine x_name C ex3 ?_
    refine x_istore_n (lv' := [(3, .int x3), (0, .ref (G.2.2.1 + 68)), (1, .int p0), (2, .int y2)]) C d_Game_isRest_16 rfl (by decide) rfl ?_
    refine x_aload_n C d_Game_isRest_17 1 rfl ?_
    refine x_iload_n C d_Game_isRest_18 3 rfl ?_
    refine x_iload_n C d_Game_isRest_19 2 rfl ?_
    obtain ⟨r5, σ6, k4, h0⟩ := xbind2 h0
    refine x_callVi C hR (c_Game_gain (d := d) (by omega) k4) cw_Game_91 k_68 rfl rfl rfl (Nat.le_of_ble_eq_true rfl) ⟨Nat.zero_le _, Nat.zero_le _⟩ d_Game_isRest_20 ?_
    refine x_istore (lv' := [(4, .int r5), (3, .int x3), (0, .ref (G.2.2.1 + 68)), (1, .int p0), (2, .int y2)]) C d_Game_isRest_23 (by decide) rfl ?_
    refine x_iconst (v := 0) C d_Game_isRest_25 (by decide) ?_
    refine x_istore (lv' := [(5, .int 0), (4, .int r5), (3, .int x3), (0, .ref (G.2.2.1 + 68)), (1, .int p0), (2, .int y2)]) C d_Game_isRest_26 (by decide) rfl ?_
    refine x_iconst (v := 0) C d_Game_isRest_28 (by decide) ?_
    refine x_istore (lv' := [(6, .int 0), (5, .int 0), (4, .int r5), (3, .int x3), (0, .ref (G.2.2.1 + 68)), (1, .int p0), (2, .int y2)]) C d_Game_isRest_29 (by decide) rfl ?_
    exact x_lv C [4, 5, 6, 3, 2, 1, 0] rfl (b_Game_isRest_31 C hr hk hd hR hrec2 FUEL _ _ _ _ _ _ h0)
theorem b_Game_isRest_2 {G : XG} {l : Launch} {p : Program} {e : Env} {R : Room} {s : State} {m : MethodId} {args : Array Value} {below : List Frame} {meth : Method} {c : Code} (C : XC G 1 570 p s m args c prog_4_method_13_code 7 R_Game) (hr : meth.sig.returnType = (some .boolean)) (hk : meth.locks = false) {d : Nat} (hd : 4 ≤ d + 1) (hR : xroom R (d + 1)) {p0 : Int32} {σ' : LH} {r : Int32} : ∀ (n : Nat) (y2 : Int32) (σ : LH), s_Game_isRest_2 p0 n y2 σ = some (r, σ') → XJ G 1 570 p l e R s m args below meth c 7 (XQ G 1 570 below args s (some (.int r)) σ') 0 0 2 [(0, .ref (G.2.2.1 + 68)), (1, .int p0), (2, .int y2)] [] σ := by
  intro n
  induction n with
  | zero => intro y2 σ h0; cases h0
  | succ n ih => intro y2 σ h0; exact bb_Game_isRest_2 C hr hk hd hR ih h0
def s_Game_isRest (p0 : Int32) (σ : LH) : Option (Int32 × LH) :=
  s_Game_isRest_2 p0 FUEL 0 σ
theorem c_Game_isRest {G : XG} {l : Launch} {d : Nat} (hd : 4 ≤ d) {p0 : Int32} {σ σ' : LH} {r : Int32} (h0 : s_Game_isRest p0 σ = some (r, σ')) : xM G 1 570 l y_Game_isRest prog_4_method_13_code 7 (some .boolean) d [.ref (G.2.2.1 + 68), .int p0] σ (some (.int r)) σ' := by
  obtain ⟨d, rfl⟩ : ∃ q, d = q + 1 := ⟨d - 1, by omega⟩
  refine x_met R_Game rfl (by decide +kernel) (Nat.le_of_ble_eq_true rfl) fun p e s m below meth c C hr hk hR => ?_
  refine x_lv (lv' := [(0, .ref (G.2.2.1 + 68)), (1, .int p0)]) C [0, 1] rfl ?_
  generalize xrm (d + 1) = R at hR ⊢
  unfold s_Game_isRest at h0
  refine x_iconst (v := 0) C d_Game_isRest_0 (by decide) ?_
  refine x_istore_n (lv' := [(2, .int 0), (0, .ref (G.2.2.1 + 68)), (1, .int p0)]) C d_Game_isRest_1 rfl (by decide) rfl ?_
  exact x_lv C [1, 2, 0] rfl (b_Game_isRest_2 C hr hk hd hR FUEL _ _ h0)
-- LostPlaces$Game.row()I
theorem d_Game_row_0 : decode prog_4_method_5_code 0 = .ok (.iconst 0, 1) := by decide +kernel
theorem d_Game_row_1 : decode prog_4_method_5_code 1 = .ok (.istore_n 1, 1) := by decide +kernel
theorem d_Game_row_2 : decode prog_4_method_5_code 2 = .ok (.iconst 0, 1) := by decide +kernel
theorem d_Game_row_3 : decode prog_4_method_5_code 3 = .ok (.istore_n 2, 1) := by decide +kernel
theorem d_Game_row_4 : decode prog_4_method_5_code 4 = .ok (.iload_n 2, 1) := by decide +kernel
theorem d_Game_row_5 : decode prog_4_method_5_code 5 = .ok (.aload_n 0, 1) := by decide +kernel
theorem d_Game_row_6 : decode prog_4_method_5_code 6 = .ok (.getfield 22, 3) := by decide +kernel
theorem d_Game_row_9 : decode prog_4_method_5_code 9 = .ok (.if_icmp .ge 21, 3) := by decide +kernel
theorem d_Game_row_12 : decode prog_4_method_5_code 12 = .ok (.iload_n 1, 1) := by decide +kernel
theorem d_Game_row_13 : decode prog_4_method_5_code 13 = .ok (.bipush 10, 2) := by decide +kernel
theorem d_Game_row_15 : decode prog_4_method_5_code 15 = .ok (.imul, 1) := by decide +kernel
theorem d_Game_row_16 : decode prog_4_method_5_code 16 = .ok (.aload_n 0, 1) := by decide +kernel
theorem d_Game_row_17 : decode prog_4_method_5_code 17 = .ok (.getfield 26, 3) := by decide +kernel
theorem d_Game_row_20 : decode prog_4_method_5_code 20 = .ok (.iload_n 2, 1) := by decide +kernel
theorem d_Game_row_21 : decode prog_4_method_5_code 21 = .ok (.iaload, 1) := by decide +kernel
theorem d_Game_row_22 : decode prog_4_method_5_code 22 = .ok (.iadd, 1) := by decide +kernel
theorem d_Game_row_23 : decode prog_4_method_5_code 23 = .ok (.istore_n 1, 1) := by decide +kernel
theorem d_Game_row_24 : decode prog_4_method_5_code 24 = .ok (.iinc 2 1, 3) := by decide +kernel
theorem d_Game_row_27 : decode prog_4_method_5_code 27 = .ok (.goto (-23), 3) := by decide +kernel
theorem d_Game_row_30 : decode prog_4_method_5_code 30 = .ok (.iload_n 1, 1) := by decide +kernel
theorem d_Game_row_31 : decode prog_4_method_5_code 31 = .ok (.ireturn, 1) := by decide +kernel
def s_Game_row_4_b (rec4 : Int32 → Int32 → LH → Option (Int32 × LH)) (y1 : Int32) (y2 : Int32) (σ : LH) : Option (Int32 × LH) :=
  if (σ.1 68 5) ≤ y2 then (
   some (y1, σ))
  else (
   if ib y2 4 then (
   xl ((((y1 * 10) + (σ.1 79 (Int32.toNatClampNeg y2)))) : Int32) fun x3 =>
   xl ((y2 + 1) : Int32) fun x4 =>
   rec4 x3 x4 σ) else none)
def s_Game_row_4 : Nat → Int32 → Int32 → LH → Option (Int32 × LH)
  | 0, _, _, _ => none
  | n + 1, y1, y2, σ => s_Game_row_4_b (s_Game_row_4 n) y1 y2 σ
theorem bb_Game_row_4 {G : XG} {l : Launch} {p : Program} {e : Env} {R : Room} {s : State} {m : MethodId} {args : Array Value} {below : List Frame} {meth : Method} {c : Code} (C : XC G 1 570 p s m args c prog_4_method_5_code 3 R_Game) (hr : meth.sig.returnType = (some .int)) (hk : meth.locks = false) {d : Nat} (hd : 1 ≤ d + 1) (hR : xroom R (d + 1)) {rec4 : Int32 → Int32 → LH → Option (Int32 × LH)} {σ' : LH} {r : Int32} (hrec4 : ∀ (y1 : Int32) (y2 : Int32) (σ : LH), rec4 y1 y2 σ = some (r, σ') → XJ G 1 570 p l e R s m args below meth c 3 (XQ G 1 570 below args s (some (.int r)) σ') 0 0 4 [(0, .ref (G.2.2.1 + 68)), (1, .int y1), (2, .int y2)] [] σ) {y1 : Int32} {y2 : Int32} {σ : LH} (h0 : s_Game_row_4_b rec4 y1 y2 σ = some (r, σ')) : XJ G 1 570 p l e R s m args below meth c 3 (XQ G 1 570 below args s (some (.int r)) σ') 0 0 4 [(0, .ref (G.2.2.1 + 68)), (1, .int y1), (2, .int y2)] [] σ := by
  replace h0 := (show _ = _ from h0)
  unfold s_Game_row_4_b at h0
  refine x_iload_n C d_Game_row_4 2 rfl ?_
  refine x_aload_n C d_Game_row_5 0 rfl ?_
  refine x_getI (y := 0) C fg_Game_22 k_68 rfl d_Game_row_6 ?_
  refine x_icmp_ge C 30 d_Game_row_9 (by decide) (fun q1 => ?_) (fun q1 => ?_)
  · replace h0 := xit q1 h0
    refine x_iload_n C d_Game_row_30 1 rfl ?_
    exact x_iret C hr hk h0 d_Game_row_31
  · replace h0 := xif q1 h0
    refine x_iload_n C d_Game_row_12 1 rfl ?_
    refine x_bipush (v := 10) C d_Game_row_13 (by decide) ?_
    refine x_imul C d_Game_row_15 ?_
    refine x_aload_n C d_Game_row_16 0 rfl ?_
    refine x_getA (y := 79) C fg_Game_26 k_68 rfl d_Game_row_17 ?_
    refine x_iload_n C d_Game_row_20 2 rfl ?_
    obtain ⟨g2, h0⟩ := xgo h0
    refine x_iald C k_79 (ib_in g2) d_Game_row_21 ?_
    refine x_iadd C d_Game_row_22 ?_
    obtain ⟨x3, ex3, h0⟩ := xlet h0
    refine x_name C ex3 ?_
    refine x_istore_n (lv' := [(1, .int x3), (0, .ref (G.2.2.1 + 68)), (2, .int y2)]) C d_Game_row_23 rfl (by decide) rfl ?_
    obtain ⟨x4, ex4, h0⟩ := xlet h0
    refine x_iinc (lv' := [(2, .int x4), (1, .int x3), (0, .ref (G.2.2.1 + 68))]) C d_Game_row_24 2 rfl ex4 (by decide) rfl ?_
    refine x_goto C 4 d_Game_row_27 (by decide) ?_
    exact x_lv C [2, 1, 0] rfl (hrec4 _ _ _ h0)
theorem b_Game_row_4 {G : XG} {l : Launch} {p : Program} {e : Env} {R : Room} {s : State} {m : MethodId} {args : Array Value} {below : List Frame} {meth : Method} {c : Code} (C : XC G 1 570 p s m args c prog_4_method_5_code 3 R_Game) (hr : meth.sig.returnType = (some .int)) (hk : meth.locks = false) {d : Nat} (hd : 1 ≤ d + 1) (hR : xroom R (d + 1)) {σ' : LH} {r : Int32} : ∀ (n : Nat) (y1 : Int32) (y2 : Int32) (σ : LH), s_Game_row_4 n y1 y2 σ = some (r, σ') → XJ G 1 570 p l e R s m args below meth c 3 (XQ G 1 570 below args s (some (.int r)) σ') 0 0 4 [(0, .ref (G.2.2.1 + 68)), (1, .int y1), (2, .int y2)] [] σ := by
  intro n
  induction n with
  | zero => intro y1 y2 σ h0; cases h0
  | succ n ih => intro y1 y2 σ h0; exact bb_Game_row_4 C hr hk hd hR ih h0
def s_Game_row (σ : LH) : Option (Int32 × LH) :=
  s_Game_row_4 FUEL 0 0 σ
theorem c_Game_row {G : XG} {l : Launch} {d : Nat} (hd : 1 ≤ d) {σ σ' : LH} {r : Int32} (h0 : s_Game_row σ = some (r, σ')) : xM G 1 570 l y_Game_row prog_4_method_5_code 3 (some .int) d [.ref (G.2.2.1 + 68)] σ (some (.int r)) σ' := by
  obtain ⟨d, rfl⟩ : ∃ q, d = q + 1 := ⟨d - 1, by omega⟩
  refine x_met R_Game rfl (by decide +kernel) (Nat.le_of_ble_eq_true rfl) fun p e s m below meth c C hr hk hR => ?_
  refine x_lv (lv' := [(0, .ref (G.2.2.1 + 68))]) C [0] rfl ?_
  generalize xrm (d + 1) = R at hR ⊢
  unfold s_Game_row at h0
  refine x_iconst (v := 0) C d_Game_row_0 (by decide) ?_
  refine x_istore_n (lv' := [(1, .int 0), (0, .ref (G.2.2.1 + 68))]) C d_Game_row_1 rfl (by decide) rfl ?_
  refine x_iconst (v := 0) C d_Game_row_2 (by decide) ?_
  refine x_istore_n (lv' := [(2, .int 0), (1, .int 0), (0, .ref (G.2.2.1 + 68))]) C d_Game_row_3 rfl (by decide) rfl ?_
  exact x_lv C [2, 1, 0] rfl (b_Game_row_4 C hr hk hd hR FUEL _ _ _ h0)
-- LostPlaces$Game.countUp()Z
theorem d_Game_countUp_0 : decode prog_4_method_12_code 0 = .ok (.aload_n 0, 1) := by decide +kernel
theorem d_Game_countUp_1 : decode prog_4_method_12_code 1 = .ok (.getfield 22, 3) := by decide +kernel
theorem d_Game_countUp_4 : decode prog_4_method_12_code 4 = .ok (.iconst 1, 1) := by decide +kernel
theorem d_Game_countUp_5 : decode prog_4_method_12_code 5 = .ok (.isub, 1) := by decide +kernel
theorem d_Game_countUp_6 : decode prog_4_method_12_code 6 = .ok (.istore_n 1, 1) := by decide +kernel
theorem d_Game_countUp_7 : decode prog_4_method_12_code 7 = .ok (.iload_n 1, 1) := by decide +kernel
theorem d_Game_countUp_8 : decode prog_4_method_12_code 8 = .ok (.ifCond .lt 38, 3) := by decide +kernel
theorem d_Game_countUp_11 : decode prog_4_method_12_code 11 = .ok (.aload_n 0, 1) := by decide +kernel
theorem d_Game_countUp_12 : decode prog_4_method_12_code 12 = .ok (.getfield 26, 3) := by decide +kernel
theorem d_Game_countUp_15 : decode prog_4_method_12_code 15 = .ok (.iload_n 1, 1) := by decide +kernel
theorem d_Game_countUp_16 : decode prog_4_method_12_code 16 = .ok (.dup2, 1) := by decide +kernel
theorem d_Game_countUp_17 : decode prog_4_method_12_code 17 = .ok (.iaload, 1) := by decide +kernel
theorem d_Game_countUp_18 : decode prog_4_method_12_code 18 = .ok (.iconst 1, 1) := by decide +kernel
theorem d_Game_countUp_19 : decode prog_4_method_12_code 19 = .ok (.iadd, 1) := by decide +kernel
theorem d_Game_countUp_20 : decode prog_4_method_12_code 20 = .ok (.iastore, 1) := by decide +kernel
theorem d_Game_countUp_21 : decode prog_4_method_12_code 21 = .ok (.aload_n 0, 1) := by decide +kernel
theorem d_Game_countUp_22 : decode prog_4_method_12_code 22 = .ok (.getfield 26, 3) := by decide +kernel
theorem d_Game_countUp_25 : decode prog_4_method_12_code 25 = .ok (.iload_n 1, 1) := by decide +kernel
theorem d_Game_countUp_26 : decode prog_4_method_12_code 26 = .ok (.iaload, 1) := by decide +kernel
theorem d_Game_countUp_27 : decode prog_4_method_12_code 27 = .ok (.iconst 4, 1) := by decide +kernel
theorem d_Game_countUp_28 : decode prog_4_method_12_code 28 = .ok (.if_icmp .gt 5, 3) := by decide +kernel
theorem d_Game_countUp_31 : decode prog_4_method_12_code 31 = .ok (.iconst 1, 1) := by decide +kernel
theorem d_Game_countUp_32 : decode prog_4_method_12_code 32 = .ok (.ireturn, 1) := by decide +kernel
theorem d_Game_countUp_33 : decode prog_4_method_12_code 33 = .ok (.aload_n 0, 1) := by decide +kernel
theorem d_Game_countUp_34 : decode prog_4_method_12_code 34 = .ok (.getfield 26, 3) := by decide +kernel
theorem d_Game_countUp_37 : decode prog_4_method_12_code 37 = .ok (.iload_n 1, 1) := by decide +kernel
theorem d_Game_countUp_38 : decode prog_4_method_12_code 38 = .ok (.iconst 0, 1) := by decide +kernel
theorem d_Game_countUp_39 : decode prog_4_method_12_code 39 = .ok (.iastore, 1) := by decide +kernel
theorem d_Game_countUp_40 : decode prog_4_method_12_code 40 = .ok (.iinc 1 (-1), 3) := by decide +kernel
theorem d_Game_countUp_43 : decode prog_4_method_12_code 43 = .ok (.goto (-36), 3) := by decide +kernel
theorem d_Game_countUp_46 : decode prog_4_method_12_code 46 = .ok (.iconst 0, 1) := by decide +kernel
theorem d_Game_countUp_47 : decode prog_4_method_12_code 47 = .ok (.ireturn, 1) := by decide +kernel
def s_Game_countUp_7_b (rec7 : Int32 → LH → Option (Int32 × LH)) (y1 : Int32) (σ : LH) : Option (Int32 × LH) :=
  if y1 < 0 then (
   some (0, σ))
  else (
   if ib y1 4 then (
   if ib y1 4 then (
   xl ((stI σ 79 (Int32.toNatClampNeg y1) ((σ.1 79 (Int32.toNatClampNeg y1)) + 1)) : LH) fun σ5 =>
   if ib y1 4 then (
   if 4 < (σ5.1 79 (Int32.toNatClampNeg y1)) then (
    if ib y1 4 then (
    xl ((stI σ5 79 (Int32.toNatClampNeg y1) 0) : LH) fun σ9 =>
    xl ((y1 + (-1)) : Int32) fun x10 =>
    rec7 x10 σ9) else none)
   else (
    some (1, σ5))) else none) else none) else none)
def s_Game_countUp_7 : Nat → Int32 → LH → Option (Int32 × LH)
  | 0, _, _ => none
  | n + 1, y1, σ => s_Game_countUp_7_b (s_Game_countUp_7 n) y1 σ
theorem bb_Game_countUp_7 {G : XG} {l : Launch} {p : Program} {e : Env} {R : Room} {s : State} {m : MethodId} {args : Array Value} {below : List Frame} {meth : Method} {c : Code} (C : XC G 1 570 p s m args c prog_4_method_12_code 2 R_Game) (hr : meth.sig.returnType = (some .boolean)) (hk : meth.locks = false) {d : Nat} (hd : 1 ≤ d + 1) (hR : xroom R (d + 1)) {rec7 : Int32 → LH → Option (Int32 × LH)} {σ' : LH} {r : Int32} (hrec7 : ∀ (y1 : Int32) (σ : LH), rec7 y1 σ = some (r, σ') → XJ G 1 570 p l e R s m args below meth c 2 (XQ G 1 570 below args s (some (.int r)) σ') 0 0 7 [(0, .ref (G.2.2.1 + 68)), (1, .int y1)] [] σ) {y1 : Int32} {σ : LH} (h0 : s_Game_countUp_7_b rec7 y1 σ = some (r, σ')) : XJ G 1 570 p l e R s m args below meth c 2 (XQ G 1 570 below args s (some (.int r)) σ') 0 0 7 [(0, .ref (G.2.2.1 + 68)), (1, .int y1)] [] σ := by
  replace h0 := (show _ = _ from h0)
  unfold s_Game_countUp_7_b at h0
  refine x_iload_n C d_Game_countUp_7 1 rfl ?_
  refine x_if_lt C 46 d_Game_countUp_8 (by decide) (fun q2 => ?_) (fun q2 => ?_)
  · replace h0 := xit q2 h0
    refine x_iconst (v := 0) C d_Game_countUp_46 (by decide) ?_
    exact x_zret C hr hk (by decide) h0 d_Game_countUp_47
  · replace h0 := xif q2 h0
    refine x_aload_n C d_Game_countUp_11 0 rfl ?_
    refine x_getA (y := 79) C fg_Game_26 k_68 rfl d_Game_countUp_12 ?_
    refine x_iload_n C d_Game_countUp_15 1 rfl ?_
    refine x_dup2 C d_Game_countUp_16 rfl rfl ?_
    obtain ⟨g3, h0⟩ := xgo h0
    refine x_iald C k_79 (ib_in g3) d_Game_countUp_17 ?_
    refine x_iconst (v := 1) C d_Game_countUp_18 (by decide) ?_
    refine x_iadd C d_Game_countUp_19 ?_
    obtain ⟨g4, h0⟩ := xgo h0
    refine x_iast C k_79 (ib_in g4) d_Game_countUp_20 ?_
    obtain ⟨σ5, eσ5, h0⟩ := xlet h0
    refine x_sig C eσ5 ?_
    refine x_aload_n C d_Game_countUp_21 0 rfl ?_
    refine x_getA (y := 79) C fg_Game_26 k_68 rfl d_Game_countUp_22 ?_
    refine x_iload_n C d_Game_countUp_25 1 rfl ?_
    obtain ⟨g6, h0⟩ := xgo h0
    refine x_iald C k_79 (ib_in g6) d_Game_countUp_26 ?_
    refine x_iconst (v := 4) C d_Game_countUp_27 (by decide) ?_
    refine x_icmp_gt C 33 d_Game_countUp_28 (by decide) (fun q7 => ?_) (fun q7 => ?_)
    · replace h0 := xit q7 h0
      refine x_aload_n C d_Game_countUp_33 0 rfl ?_
      refine x_getA (y := 79) C fg_Game_26 k_68 rfl d_Game_countUp_34 ?_
      refine x_iload_n C d_Game_countUp_37 1 rfl ?_
      refine x_iconst (v := 0) C d_Game_countUp_38 (by decide) ?_
      obtain ⟨g8, h0⟩ := xgo h0
      refine x_iast C k_79 (ib_in g8) d_Game_countUp_39 ?_
      obtain ⟨σ9, eσ9, h0⟩ := xlet h0
      refine x_sig C eσ9 ?_
      obtain ⟨x10, ex10, h0⟩ := xlet h0
      refine x_iinc (lv' := [(1, .int x10), (0, .ref (G.2.2.1 + 68))]) C d_Game_countUp_40 1 rfl ex10 (by decide) rfl ?_
      refine x_goto C 7 d_Game_countUp_43 (by decide) ?_
      exact x_lv C [1, 0] rfl (hrec7 _ _ h0)
    · replace h0 := xif q7 h0
      refine x_iconst (v := 1) C d_Game_countUp_31 (by decide) ?_
      exact x_zret C hr hk (by decide) h0 d_Game_countUp_32
theorem b_Game_countUp_7 {G : XG} {l : Launch} {p : Program} {e : Env} {R : Room} {s : State} {m : MethodId} {args : Array Value} {below : List Frame} {meth : Method} {c : Code} (C : XC G 1 570 p s m args c prog_4_method_12_code 2 R_Game) (hr : meth.sig.returnType = (some .boolean)) (hk : meth.locks = false) {d : Nat} (hd : 1 ≤ d + 1) (hR : xroom R (d + 1)) {σ' : LH} {r : Int32} : ∀ (n : Nat) (y1 : Int32) (σ : LH), s_Game_countUp_7 n y1 σ = some (r, σ') → XJ G 1 570 p l e R s m args below meth c 2 (XQ G 1 570 below args s (some (.int r)) σ') 0 0 7 [(0, .ref (G.2.2.1 + 68)), (1, .int y1)] [] σ := by
  intro n
  induction n with
  | zero => intro y1 σ h0; cases h0
  | succ n ih => intro y1 σ h0; exact bb_Game_countUp_7 C hr hk hd hR ih h0
def s_Game_countUp (σ : LH) : Option (Int32 × LH) :=
  xl ((((σ.1 68 5) - 1)) : Int32) fun x1 =>
  s_Game_countUp_7 FUEL x1 σ
theorem c_Game_countUp {G : XG} {l : Launch} {d : Nat} (hd : 1 ≤ d) {σ σ' : LH} {r : Int32} (h0 : s_Game_countUp σ = some (r, σ')) : xM G 1 570 l y_Game_countUp prog_4_method_12_code 2 (some .boolean) d [.ref (G.2.2.1 + 68)] σ (some (.int r)) σ' := by
  obtain ⟨d, rfl⟩ : ∃ q, d = q + 1 := ⟨d - 1, by omega⟩
  refine x_met R_Game rfl (by decide +kernel) (Nat.le_of_ble_eq_true rfl) fun p e s m below meth c C hr hk hR => ?_
  refine x_lv (lv' := [(0, .ref (G.2.2.1 + 68))]) C [0] rfl ?_
  generalize xrm (d + 1) = R at hR ⊢
  unfold s_Game_countUp at h0
  refine x_aload_n C d_Game_countUp_0 0 rfl ?_
  refine x_getI (y := 0) C fg_Game_22 k_68 rfl d_Game_countUp_1 ?_
  refine x_iconst (v := 1) C d_Game_countUp_4 (by decide) ?_
  refine x_isub C d_Game_countUp_5 ?_
  obtain ⟨x1, ex1, h0⟩ := xlet h0
  refine x_name C ex1 ?_
  refine x_istore_n (lv' := [(1, .int x1), (0, .ref (G.2.2.1 + 68))]) C d_Game_countUp_6 rfl (by decide) rfl ?_
  exact x_lv C [1, 0] rfl (b_Game_countUp_7 C hr hk hd hR FUEL _ _ h0)
-- LostPlaces$Game.findRests(II)I
theorem d_Game_findRests_0 : decode prog_4_method_11_code 0 = .ok (.iconst 0, 1) := by decide +kernel
theorem d_Game_findRests_1 : decode prog_4_method_11_code 1 = .ok (.istore_n 3, 1) := by decide +kernel
theorem d_Game_findRests_2 : decode prog_4_method_11_code 2 = .ok (.iload_n 3, 1) := by decide +kernel
theorem d_Game_findRests_3 : decode prog_4_method_11_code 3 = .ok (.iconst 4, 1) := by decide +kernel
theorem d_Game_findRests_4 : decode prog_4_method_11_code 4 = .ok (.if_icmp .ge 37, 3) := by decide +kernel
theorem d_Game_findRests_7 : decode prog_4_method_11_code 7 = .ok (.iconst 0, 1) := by decide +kernel
theorem d_Game_findRests_8 : decode prog_4_method_11_code 8 = .ok (.istore 4, 2) := by decide +kernel
theorem d_Game_findRests_10 : decode prog_4_method_11_code 10 = .ok (.iload 4, 2) := by decide +kernel
theorem d_Game_findRests_12 : decode prog_4_method_11_code 12 = .ok (.aload_n 0, 1) := by decide +kernel
theorem d_Game_findRests_13 : decode prog_4_method_11_code 13 = .ok (.getfield 22, 3) := by decide +kernel
theorem d_Game_findRests_16 : decode prog_4_method_11_code 16 = .ok (.if_icmp .ge 19, 3) := by decide +kernel
theorem d_Game_findRests_19 : decode prog_4_method_11_code 19 = .ok (.aload_n 0, 1) := by decide +kernel
theorem d_Game_findRests_20 : decode prog_4_method_11_code 20 = .ok (.iload_n 3, 1) := by decide +kernel
theorem d_Game_findRests_21 : decode prog_4_method_11_code 21 = .ok (.iconst 4, 1) := by decide +kernel
theorem d_Game_findRests_22 : decode prog_4_method_11_code 22 = .ok (.imul, 1) := by decide +kernel
theorem d_Game_findRests_23 : decode prog_4_method_11_code 23 = .ok (.iload 4, 2) := by decide +kernel
theorem d_Game_findRests_25 : decode prog_4_method_11_code 25 = .ok (.iadd, 1) := by decide +kernel
theorem d_Game_findRests_26 : decode prog_4_method_11_code 26 = .ok (.invokevirtual 87, 3) := by decide +kernel
theorem d_Game_findRests_29 : decode prog_4_method_11_code 29 = .ok (.iinc 4 1, 3) := by decide +kernel
theorem d_Game_findRests_32 : decode prog_4_method_11_code 32 = .ok (.goto (-22), 3) := by decide +kernel
theorem d_Game_findRests_35 : decode prog_4_method_11_code 35 = .ok (.iinc 3 1, 3) := by decide +kernel
theorem d_Game_findRests_38 : decode prog_4_method_11_code 38 = .ok (.goto (-36), 3) := by decide +kernel
theorem d_Game_findRests_41 : decode prog_4_method_11_code 41 = .ok (.aload_n 0, 1) := by decide +kernel
theorem d_Game_findRests_42 : decode prog_4_method_11_code 42 = .ok (.bipush 16, 2) := by decide +kernel
theorem d_Game_findRests_44 : decode prog_4_method_11_code 44 = .ok (.invokevirtual 87, 3) := by decide +kernel
theorem d_Game_findRests_47 : decode prog_4_method_11_code 47 = .ok (.iconst 0, 1) := by decide +kernel
theorem d_Game_findRests_48 : decode prog_4_method_11_code 48 = .ok (.istore_n 3, 1) := by decide +kernel
theorem d_Game_findRests_49 : decode prog_4_method_11_code 49 = .ok (.iload_n 3, 1) := by decide +kernel
theorem d_Game_findRests_50 : decode prog_4_method_11_code 50 = .ok (.aload_n 0, 1) := by decide +kernel
theorem d_Game_findRests_51 : decode prog_4_method_11_code 51 = .ok (.getfield 22, 3) := by decide +kernel
theorem d_Game_findRests_54 : decode prog_4_method_11_code 54 = .ok (.if_icmp .ge 16, 3) := by decide +kernel
theorem d_Game_findRests_57 : decode prog_4_method_11_code 57 = .ok (.aload_n 0, 1) := by decide +kernel
theorem d_Game_findRests_58 : decode prog_4_method_11_code 58 = .ok (.getfield 26, 3) := by decide +kernel
theorem d_Game_findRests_61 : decode prog_4_method_11_code 61 = .ok (.iload_n 3, 1) := by decide +kernel
theorem d_Game_findRests_62 : decode prog_4_method_11_code 62 = .ok (.iconst 0, 1) := by decide +kernel
theorem d_Game_findRests_63 : decode prog_4_method_11_code 63 = .ok (.iastore, 1) := by decide +kernel
theorem d_Game_findRests_64 : decode prog_4_method_11_code 64 = .ok (.iinc 3 1, 3) := by decide +kernel
theorem d_Game_findRests_67 : decode prog_4_method_11_code 67 = .ok (.goto (-18), 3) := by decide +kernel
theorem d_Game_findRests_70 : decode prog_4_method_11_code 70 = .ok (.iconst 0, 1) := by decide +kernel
theorem d_Game_findRests_71 : decode prog_4_method_11_code 71 = .ok (.istore_n 3, 1) := by decide +kernel
theorem d_Game_findRests_72 : decode prog_4_method_11_code 72 = .ok (.iconst 1, 1) := by decide +kernel
theorem d_Game_findRests_73 : decode prog_4_method_11_code 73 = .ok (.istore 4, 2) := by decide +kernel
theorem d_Game_findRests_75 : decode prog_4_method_11_code 75 = .ok (.iconst 0, 1) := by decide +kernel
theorem d_Game_findRests_76 : decode prog_4_method_11_code 76 = .ok (.istore 5, 2) := by decide +kernel
theorem d_Game_findRests_78 : decode prog_4_method_11_code 78 = .ok (.iload 4, 2) := by decide +kernel
theorem d_Game_findRests_80 : decode prog_4_method_11_code 80 = .ok (.ifCond .eq 44, 3) := by decide +kernel
theorem d_Game_findRests_83 : decode prog_4_method_11_code 83 = .ok (.iload 5, 2) := by decide +kernel
theorem d_Game_findRests_85 : decode prog_4_method_11_code 85 = .ok (.sipush 1000, 3) := by decide +kernel
theorem d_Game_findRests_88 : decode prog_4_method_11_code 88 = .ok (.if_icmp .ge 36, 3) := by decide +kernel
theorem d_Game_findRests_91 : decode prog_4_method_11_code 91 = .ok (.aload_n 0, 1) := by decide +kernel
theorem d_Game_findRests_92 : decode prog_4_method_11_code 92 = .ok (.iload_n 1, 1) := by decide +kernel
theorem d_Game_findRests_93 : decode prog_4_method_11_code 93 = .ok (.invokevirtual 95, 3) := by decide +kernel
theorem d_Game_findRests_96 : decode prog_4_method_11_code 96 = .ok (.ifCond .eq 16, 3) := by decide +kernel
theorem d_Game_findRests_99 : decode prog_4_method_11_code 99 = .ok (.iload_n 3, 1) := by decide +kernel
theorem d_Game_findRests_100 : decode prog_4_method_11_code 100 = .ok (.iload_n 2, 1) := by decide +kernel
theorem d_Game_findRests_101 : decode prog_4_method_11_code 101 = .ok (.if_icmp .ne 8, 3) := by decide +kernel
theorem d_Game_findRests_104 : decode prog_4_method_11_code 104 = .ok (.aload_n 0, 1) := by decide +kernel
theorem d_Game_findRests_105 : decode prog_4_method_11_code 105 = .ok (.invokevirtual 99, 3) := by decide +kernel
theorem d_Game_findRests_108 : decode prog_4_method_11_code 108 = .ok (.ireturn, 1) := by decide +kernel
theorem d_Game_findRests_109 : decode prog_4_method_11_code 109 = .ok (.iinc 3 1, 3) := by decide +kernel
theorem d_Game_findRests_112 : decode prog_4_method_11_code 112 = .ok (.aload_n 0, 1) := by decide +kernel
theorem d_Game_findRests_113 : decode prog_4_method_11_code 113 = .ok (.invokevirtual 102, 3) := by decide +kernel
theorem d_Game_findRests_116 : decode prog_4_method_11_code 116 = .ok (.istore 4, 2) := by decide +kernel
theorem d_Game_findRests_118 : decode prog_4_method_11_code 118 = .ok (.iinc 5 1, 3) := by decide +kernel
theorem d_Game_findRests_121 : decode prog_4_method_11_code 121 = .ok (.goto (-43), 3) := by decide +kernel
theorem d_Game_findRests_124 : decode prog_4_method_11_code 124 = .ok (.iload_n 2, 1) := by decide +kernel
theorem d_Game_findRests_125 : decode prog_4_method_11_code 125 = .ok (.iconst (-1), 1) := by decide +kernel
theorem d_Game_findRests_126 : decode prog_4_method_11_code 126 = .ok (.if_icmp .ne 7, 3) := by decide +kernel
theorem d_Game_findRests_129 : decode prog_4_method_11_code 129 = .ok (.iload_n 3, 1) := by decide +kernel
theorem d_Game_findRests_130 : decode prog_4_method_11_code 130 = .ok (.goto 4, 3) := by decide +kernel
theorem d_Game_findRests_133 : decode prog_4_method_11_code 133 = .ok (.iconst (-1), 1) := by decide +kernel
theorem d_Game_findRests_134 : decode prog_4_method_11_code 134 = .ok (.ireturn, 1) := by decide +kernel
def s_Game_findRests_134 (p0 : Int32) (p1 : Int32) (z0 : Int32) (σ : LH) : Option (Int32 × LH) :=
  some (z0, σ)
theorem b_Game_findRests_134 {G : XG} {l : Launch} {p : Program} {e : Env} {R : Room} {s : State} {m : MethodId} {args : Array Value} {below : List Frame} {meth : Method} {c : Code} (C : XC G 1 570 p s m args c prog_4_method_11_code 6 R_Game) (hr : meth.sig.returnType = (some .int)) (hk : meth.locks = false) {d : Nat} (hd : 7 ≤ d + 1) (hR : xroom R (d + 1)) {p0 : Int32} {p1 : Int32} {σ' : LH} {r : Int32} {z0 : Int32} {σ : LH} (h0 : s_Game_findRests_134 p0 p1 z0 σ = some (r, σ')) : XJ G 1 570 p l e R s m args below meth c 6 (XQ G 1 570 below args s (some (.int r)) σ') 0 0 134 [] [.int z0] σ := by
  replace h0 := (show _ = _ from h0)
  unfold s_Game_findRests_134 at h0
  exact x_iret C hr hk h0 d_Game_findRests_134
def s_Game_findRests_124 (p0 : Int32) (p1 : Int32) (y3 : Int32) (σ : LH) : Option (Int32 × LH) :=
  if p1 = (-1) then (
   s_Game_findRests_134 p0 p1 y3 σ)
  else (
   s_Game_findRests_134 p0 p1 (-1) σ)
theorem b_Game_findRests_124 {G : XG} {l : Launch} {p : Program} {e : Env} {R : Room} {s : State} {m : MethodId} {args : Array Value} {below : List Frame} {meth : Method} {c : Code} (C : XC G 1 570 p s m args c prog_4_method_11_code 6 R_Game) (hr : meth.sig.returnType = (some .int)) (hk : meth.locks = false) {d : Nat} (hd : 7 ≤ d + 1) (hR : xroom R (d + 1)) {p0 : Int32} {p1 : Int32} {σ' : LH} {r : Int32} {y3 : Int32} {σ : LH} (h0 : s_Game_findRests_124 p0 p1 y3 σ = some (r, σ')) : XJ G 1 570 p l e R s m args below meth c 6 (XQ G 1 570 below args s (some (.int r)) σ') 0 0 124 [(2, .int p1), (3, .int y3)] [] σ := by
  replace h0 := (show _ = _ from h0)
  unfold s_Game_findRests_124 at h0
  refine x_iload_n C d_Game_findRests_124 0 rfl ?_
  refine x_iconst (v := (-1)) C d_Game_findRests_125 (by decide) ?_
  refine x_icmp_ne C 133 d_Game_findRests_126 (by decide) (fun q6 => ?_) (fun q6 => ?_)
  · replace h0 := xif q6 h0
    refine x_iconst (v := (-1)) C d_Game_findRests_133 (by decide) ?_
    exact x_lv C [] rfl (b_Game_findRests_134 C hr hk hd hR h0)
  · replace h0 := xit q6 h0
    refine x_iload_n C d_Game_findRests_129 1 rfl ?_
    refine x_goto C 134 d_Game_findRests_130 (by decide) ?_
    exact x_lv C [] rfl (b_Game_findRests_134 C hr hk hd hR h0)
def s_Game_findRests_112 (p0 : Int32) (p1 : Int32) (rec78 : Int32 → Int32 → Int32 → LH → Option (Int32 × LH)) (y3 : Int32) (y5 : Int32) (σ : LH) : Option (Int32 × LH) :=
  xb2 (s_Game_countUp σ) fun r13 σ14 =>
  xl ((y5 + 1) : Int32) fun x15 =>
  rec78 y3 r13 x15 σ14
theorem b_Game_findRests_112 {G : XG} {l : Launch} {p : Program} {e : Env} {R : Room} {s : State} {m : MethodId} {args : Array Value} {below : List Frame} {meth : Method} {c : Code} (C : XC G 1 570 p s m args c prog_4_method_11_code 6 R_Game) (hr : meth.sig.returnType = (some .int)) (hk : meth.locks = false) {d : Nat} (hd : 7 ≤ d + 1) (hR : xroom R (d + 1)) {p0 : Int32} {p1 : Int32} {rec78 : Int32 → Int32 → Int32 → LH → Option (Int32 × LH)} {σ' : LH} {r : Int32} (hrec78 : ∀ (y3 : Int32) (y4 : Int32) (y5 : Int32) (σ : LH), rec78 y3 y4 y5 σ = some (r, σ') → XJ G 1 570 p l e R s m args below meth c 6 (XQ G 1 570 below args s (some (.int r)) σ') 0 0 78 [(0, .ref (G.2.2.1 + 68)), (1, .int p0), (2, .int p1), (3, .int y3), (4, .int y4), (5, .int y5)] [] σ) {y3 : Int32} {y5 : Int32} {σ : LH} (h0 : s_Game_findRests_112 p0 p1 rec78 y3 y5 σ = some (r, σ')) : XJ G 1 570 p l e R s m args below meth c 6 (XQ G 1 570 below args s (some (.int r)) σ') 0 0 112 [(0, .ref (G.2.2.1 + 68)), (1, .int p0), (2, .int p1), (3, .int y3), (5, .int y5)] [] σ := by
  replace h0 := (show _ = _ from h0)
  unfold s_Game_findRests_112 at h0
  refine x_aload_n C d_Game_findRests_112 0 rfl ?_
  obtain ⟨r13, σ14, k12, h0⟩ := xbind2 h0
  refine x_callVi C hR (c_Game_countUp (d := d) (by omega) k12) cw_Game_102 k_68 rfl rfl rfl (Nat.le_of_ble_eq_true rfl) ⟨Nat.zero_le _, Nat.zero_le _⟩ d_Game_findRests_113 ?_
  refine x_istore (lv' := [(4, .int r13), (0, .ref (G.2.2.1 + 68)), (1, .int p0), (2, .int p1), (3, .int y3), (5, .int y5)]) C d_Game_findRests_116 (by decide) rfl ?_
  obtain ⟨x15, ex15, h0⟩ := xlet h0
  refine x_iinc (lv' := [(5, .int x15), (4, .int r13), (0, .ref (G.2.2.1 + 68)), (1, .int p0), (2, .int p1), (3, .int y3)]) C d_Game_findRests_118 5 rfl ex15 (by decide) rfl ?_
  refine x_goto C 78 d_Game_findRests_121 (by decide) ?_
  exact x_lv C [2, 3, 4, 5, 1, 0] rfl (hrec78 _ _ _ _ h0)
def s_Game_findRests_78_b (p0 : Int32) (p1 : Int32) (rec78 : Int32 → Int32 → Int32 → LH → Option (Int32 × LH)) (y3 : Int32) (y4 : Int32) (y5 : Int32) (σ : LH) : Option (Int32 × LH) :=
  if y4 = 0 then (
   s_Game_findRests_124 p0 p1 y3 σ)
  else (
   if 1000 ≤ y5 then (
    s_Game_findRests_124 p0 p1 y3 σ)
   else (
    xb2 (s_Game_isRest p0 σ) fun r9 σ10 =>
    if r9 = 0 then (
     s_Game_findRests_112 p0 p1 rec78 y3 y5 σ10)
    else (
     if y3 = p1 then (
      xb2 (s_Game_row σ10) fun r18 σ19 =>
      some (r18, σ19))
     else (
      xl ((y3 + 1) : Int32) fun x20 =>
      s_Game_findRests_112 p0 p1 rec78 x20 y5 σ10))))
def s_Game_findRests_78 (p0 : Int32) (p1 : Int32) : Nat → Int32 → Int32 → Int32 → LH → Option (Int32 × LH)
  | 0, _, _, _, _ => none
  | n + 1, y3, y4, y5, σ => s_Game_findRests_78_b p0 p1 (s_Game_findRests_78 p0 p1 n) y3 y4 y5 σ
theorem bb_Game_findRests_78 {G : XG} {l : Launch} {p : Program} {e : Env} {R : Room} {s : State} {m : MethodId} {args : Array Value} {below : List Frame} {meth : Method} {c : Code} (C : XC G 1 570 p s m args c prog_4_method_11_code 6 R_Game) (hr : meth.sig.returnType = (some .int)) (hk : meth.locks = false) {d : Nat} (hd : 7 ≤ d + 1) (hR : xroom R (d + 1)) {p0 : Int32} {p1 : Int32} {rec78 : Int32 → Int32 → Int32 → LH → Option (Int32 × LH)} {σ' : LH} {r : Int32} (hrec78 : ∀ (y3 : Int32) (y4 : Int32) (y5 : Int32) (σ : LH), rec78 y3 y4 y5 σ = some (r, σ') → XJ G 1 570 p l e R s m args below meth c 6 (XQ G 1 570 below args s (some (.int r)) σ') 0 0 78 [(0, .ref (G.2.2.1 + 68)), (1, .int p0), (2, .int p1), (3, .int y3), (4, .int y4), (5, .int y5)] [] σ) {y3 : Int32} {y4 : Int32} {y5 : Int32} {σ : LH} (h0 : s_Game_findRests_78_b p0 p1 rec78 y3 y4 y5 σ = some (r, σ')) : XJ G 1 570 p l e R s m args below meth c 6 (XQ G 1 570 below args s (some (.int r)) σ') 0 0 78 [(0, .ref (G.2.2.1 + 68)), (1, .int p0), (2, .int p1), (3, .int y3), (4, .int y4), (5, .int y5)] [] σ := by
  replace h0 := (show _ = _ from h0)
  unfold s_Game_findRests_78_b at h0
  refine x_iload C d_Game_findRests_78 4 rfl ?_
  refine x_if_eq C 124 d_Game_findRests_80 (by decide) (fun q5 => ?_) (fun q5 => ?_)
  · replace h0 := xit q5 h0
    exact x_lv C [2, 3] rfl (b_Game_findRests_124 C hr hk hd hR h0)
  · replace h0 := xif q5 h0
    refine x_iload C d_Game_findRests_83 5 rfl ?_
    refine x_sipush (v := 1000) C d_Game_findRests_85 (by decide) ?_
    refine x_icmp_ge C 124 d_Game_findRests_88 (by decide) (fun q7 => ?_) (fun q7 => ?_)
    · replace h0 := xit q7 h0
      exact x_lv C [2, 3] rfl (b_Game_findRests_124 C hr hk hd hR h0)
    · replace h0 := xif q7 h0
      refine x_aload_n C d_Game_findRests_91 0 rfl ?_
      refine x_iload_n C d_Game_findRests_92 1 rfl ?_
      obtain ⟨r9, σ10, k8, h0⟩ := xbind2 h0
      refine x_callVi C hR (c_Game_isRest (d := d) (by omega) k8) cw_Game_95 k_68 rfl rfl rfl (Nat.le_of_ble_eq_true rfl) ⟨Nat.zero_le _, Nat.zero_le _⟩ d_Game_findRests_93 ?_
      refine x_if_eq C 112 d_Game_findRests_96 (by decide) (fun q11 => ?_) (fun q11 => ?_)
      · replace h0 := xit q11 h0
        exact x_lv C [0, 1, 2, 3, 5] rfl (b_Game_findRests_112 C hr hk hd hR hrec78 h0)
      · replace h0 := xif q11 h0
        refine x_iload_n C d_Game_findRests_99 3 rfl ?_
        refine x_iload_n C d_Game_findRests_100 2 rfl ?_
        refine x_icmp_ne C 109 d_Game_findRests_101 (by decide) (fun q16 => ?_) (fun q16 => ?_)
        · replace h0 := xif q16 h0
          obtain ⟨x20, ex20, h0⟩ := xlet h0
          refine x_iinc (lv' := [(3, .int x20), (0, .ref (G.2.2.1 + 68)), (1, .int p0), (2, .int p1), (4, .int y4), (5, .int y5)]) C d_Game_findRests_109 3 rfl ex20 (by decide) rfl ?_
          exact x_lv C [1, 2, 3, 0, 5] rfl (b_Game_findRests_112 C hr hk hd hR hrec78 h0)
        · replace h0 := xit q16 h0
          refine x_aload_n C d_Game_findRests_104 0 rfl ?_
          obtain ⟨r18, σ19, k17, h0⟩ := xbind2 h0
          refine x_callVi C hR (c_Game_row (d := d) (by omega) k17) cw_Game_99 k_68 rfl rfl rfl (Nat.le_of_ble_eq_true rfl) ⟨Nat.zero_le _, Nat.zero_le _⟩ d_Game_findRests_105 ?_
          exact x_iret C hr hk h0 d_Game_findRests_108
theorem b_Game_findRests_78 {G : XG} {l : Launch} {p : Program} {e : Env} {R : Room} {s : State} {m : MethodId} {args : Array Value} {below : List Frame} {meth : Method} {c : Code} (C : XC G 1 570 p s m args c prog_4_method_11_code 6 R_Game) (hr : meth.sig.returnType = (some .int)) (hk : meth.locks = false) {d : Nat} (hd : 7 ≤ d + 1) (hR : xroom R (d + 1)) {p0 : Int32} {p1 : Int32} {σ' : LH} {r : Int32} : ∀ (n : Nat) (y3 : Int32) (y4 : Int32) (y5 : Int32) (σ : LH), s_Game_findRests_78 p0 p1 n y3 y4 y5 σ = some (r, σ') → XJ G 1 570 p l e R s m args below meth c 6 (XQ G 1 570 below args s (some (.int r)) σ') 0 0 78 [(0, .ref (G.2.2.1 + 68)), (1, .int p0), (2, .int p1), (3, .int y3), (4, .int y4), (5, .int y5)] [] σ := by
  intro n
  induction n with
  | zero => intro y3 y4 y5 σ h0; cases h0
  | succ n ih => intro y3 y4 y5 σ h0; exact bb_Game_findRests_78 C hr hk hd hR ih h0
def s_Game_findRests_49_b (p0 : Int32) (p1 : Int32) (rec49 : Int32 → LH → Option (Int32 × LH)) (y3 : Int32) (σ : LH) : Option (Int32 × LH) :=
  if (σ.1 68 5) ≤ y3 then (
   s_Game_findRests_78 p0 p1 FUEL 0 1 0 σ)
  else (
   if ib y3 4 then (
   xl ((stI σ 79 (Int32.toNatClampNeg y3) 0) : LH) fun σ22 =>
   xl ((y3 + 1) : Int32) fun x23 =>
   rec49 x23 σ22) else none)
def s_Game_findRests_49 (p0 : Int32) (p1 : Int32) : Nat → Int32 → LH → Option (Int32 × LH)
  | 0, _, _ => none
  | n + 1, y3, σ => s_Game_findRests_49_b p0 p1 (s_Game_findRests_49 p0 p1 n) y3 σ
theorem bb_Game_findRests_49 {G : XG} {l : Launch} {p : Program} {e : Env} {R : Room} {s : State} {m : MethodId} {args : Array Value} {below : List Frame} {meth : Method} {c : Code} (C : XC G 1 570 p s m args c prog_4_method_11_code 6 R_Game) (hr : meth.sig.returnType = (some .int)) (hk : meth.locks = false) {d : Nat} (hd : 7 ≤ d + 1) (hR : xroom R (d + 1)) {p0 : Int32} {p1 : Int32} {rec49 : Int32 → LH → Option (Int32 × LH)} {σ' : LH} {r : Int32} (hrec49 : ∀ (y3 : Int32) (σ : LH), rec49 y3 σ = some (r, σ') → XJ G 1 570 p l e R s m args below meth c 6 (XQ G 1 570 below args s (some (.int r)) σ') 0 0 49 [(0, .ref (G.2.2.1 + 68)), (1, .int p0), (2, .int p1), (3, .int y3)] [] σ) {y3 : Int32} {σ : LH} (h0 : s_Game_findRests_49_b p0 p1 rec49 y3 σ = some (r, σ')) : XJ G 1 570 p l e R s m args below meth c 6 (XQ G 1 570 below args s (some (.int r)) σ') 0 0 49 [(0, .ref (G.2.2.1 + 68)), (1, .int p0), (2, .int p1), (3, .int y3)] [] σ := by
  replace h0 := (show _ = _ from h0)
  unfold s_Game_findRests_49_b at h0
  refine x_iload_n C d_Game_findRests_49 3 rfl ?_
  refine x_aload_n C d_Game_findRests_50 0 rfl ?_
  refine x_getI (y := 0) C fg_Game_22 k_68 rfl d_Game_findRests_51 ?_
  refine x_icmp_ge C 70 d_Game_findRests_54 (by decide) (fun q4 => ?_) (fun q4 => ?_)
  · replace h0 := xit q4 h0
    refine x_iconst (v := 0) C d_Game_findRests_70 (by decide) ?_
    refine x_istore_n (lv' := [(3, .int 0), (0, .ref (G.2.2.1 + 68)), (1, .int p0), (2, .int p1)]) C d_Game_findRests_71 rfl (by decide) rfl ?_
    refine x_iconst (v := 1) C d_Game_findRests_72 (by decide) ?_
    refine x_istore (lv' := [(4, .int 1), (3, .int 0), (0, .ref (G.2.2.1 + 68)), (1, .int p0), (2, .int p1)]) C d_Game_findRests_73 (by decide) rfl ?_
    refine x_iconst (v := 0) C d_Game_findRests_75 (by decide) ?_
    refine x_istore (lv' := [(5, .int 0), (4, .int 1), (3, .int 0), (0, .ref (G.2.2.1 + 68)), (1, .int p0), (2, .int p1)]) C d_Game_findRests_76 (by decide) rfl ?_
    exact x_lv C [3, 4, 5, 2, 1, 0] rfl (b_Game_findRests_78 C hr hk hd hR FUEL _ _ _ _ h0)
  · replace h0 := xif q4 h0
    refine x_aload_n C d_Game_findRests_57 0 rfl ?_
    refine x_getA (y := 79) C fg_Game_26 k_68 rfl d_Game_findRests_58 ?_
    refine x_iload_n C d_Game_findRests_61 3 rfl ?_
    refine x_iconst (v := 0) C d_Game_findRests_62 (by decide) ?_
    obtain ⟨g21, h0⟩ := xgo h0
    refine x_iast C k_79 (ib_in g21) d_Game_findRests_63 ?_
    obtain ⟨σ22, eσ22, h0⟩ := xlet h0
    refine x_sig C eσ22 ?_
    obtain ⟨x23, ex23, h0⟩ := xlet h0
    refine x_iinc (lv' := [(3, .int x23), (0, .ref (G.2.2.1 + 68)), (1, .int p0), (2, .int p1)]) C d_Game_findRests_64 3 rfl ex23 (by decide) rfl ?_
    refine x_goto C 49 d_Game_findRests_67 (by decide) ?_
    exact x_lv C [1, 2, 3, 0] rfl (hrec49 _ _ h0)
theorem b_Game_findRests_49 {G : XG} {l : Launch} {p : Program} {e : Env} {R : Room} {s : State} {m : MethodId} {args : Array Value} {below : List Frame} {meth : Method} {c : Code} (C : XC G 1 570 p s m args c prog_4_method_11_code 6 R_Game) (hr : meth.sig.returnType = (some .int)) (hk : meth.locks = false) {d : Nat} (hd : 7 ≤ d + 1) (hR : xroom R (d + 1)) {p0 : Int32} {p1 : Int32} {σ' : LH} {r : Int32} : ∀ (n : Nat) (y3 : Int32) (σ : LH), s_Game_findRests_49 p0 p1 n y3 σ = some (r, σ') → XJ G 1 570 p l e R s m args below meth c 6 (XQ G 1 570 below args s (some (.int r)) σ') 0 0 49 [(0, .ref (G.2.2.1 + 68)), (1, .int p0), (2, .int p1), (3, .int y3)] [] σ := by
  intro n
  induction n with
  | zero => intro y3 σ h0; cases h0
  | succ n ih => intro y3 σ h0; exact bb_Game_findRests_49 C hr hk hd hR ih h0
def s_Game_findRests_10_b (p0 : Int32) (p1 : Int32) (rec2 : Int32 → LH → Option (Int32 × LH)) (rec10 : Int32 → Int32 → LH → Option (Int32 × LH)) (y3 : Int32) (y4 : Int32) (σ : LH) : Option (Int32 × LH) :=
  if (σ.1 68 5) ≤ y4 then (
   xl ((y3 + 1) : Int32) fun x25 =>
   rec2 x25 σ)
  else (
   xb1 (s_Game_tryOut ((y3 * 4) + y4) σ) fun σ27 =>
   xl ((y4 + 1) : Int32) fun x28 =>
   rec10 y3 x28 σ27)
def s_Game_findRests_10 (p0 : Int32) (p1 : Int32) (rec2 : Int32 → LH → Option (Int32 × LH)) : Nat → Int32 → Int32 → LH → Option (Int32 × LH)
  | 0, _, _, _ => none
  | n + 1, y3, y4, σ => s_Game_findRests_10_b p0 p1 rec2 (s_Game_findRests_10 p0 p1 rec2 n) y3 y4 σ
theorem bb_Game_findRests_10 {G : XG} {l : Launch} {p : Program} {e : Env} {R : Room} {s : State} {m : MethodId} {args : Array Value} {below : List Frame} {meth : Method} {c : Code} (C : XC G 1 570 p s m args c prog_4_method_11_code 6 R_Game) (hr : meth.sig.returnType = (some .int)) (hk : meth.locks = false) {d : Nat} (hd : 7 ≤ d + 1) (hR : xroom R (d + 1)) {p0 : Int32} {p1 : Int32} {rec2 : Int32 → LH → Option (Int32 × LH)} {rec10 : Int32 → Int32 → LH → Option (Int32 × LH)} {σ' : LH} {r : Int32} (hrec2 : ∀ (y3 : Int32) (σ : LH), rec2 y3 σ = some (r, σ') → XJ G 1 570 p l e R s m args below meth c 6 (XQ G 1 570 below args s (some (.int r)) σ') 0 0 2 [(0, .ref (G.2.2.1 + 68)), (1, .int p0), (2, .int p1), (3, .int y3)] [] σ) (hrec10 : ∀ (y3 : Int32) (y4 : Int32) (σ : LH), rec10 y3 y4 σ = some (r, σ') → XJ G 1 570 p l e R s m args below meth c 6 (XQ G 1 570 below args s (some (.int r)) σ') 0 0 10 [(0, .ref (G.2.2.1 + 68)), (1, .int p0), (2, .int p1), (3, .int y3), (4, .int y4)] [] σ) {y3 : Int32} {y4 : Int32} {σ : LH} (h0 : s_Game_findRests_10_b p0 p1 rec2 rec10 y3 y4 σ = some (r, σ')) : XJ G 1 570 p l e R s m args below meth c 6 (XQ G 1 570 below args s (some (.int r)) σ') 0 0 10 [(0, .ref (G.2.2.1 + 68)), (1, .int p0), (2, .int p1), (3, .int y3), (4, .int y4)] [] σ := by
  replace h0 := (show _ = _ from h0)
  unfold s_Game_findRests_10_b at h0
  refine x_iload C d_Game_findRests_10 4 rfl ?_
  refine x_aload_n C d_Game_findRests_12 0 rfl ?_
  refine x_getI (y := 0) C fg_Game_22 k_68 rfl d_Game_findRests_13 ?_
  refine x_icmp_ge C 35 d_Game_findRests_16 (by decide) (fun q24 => ?_) (fun q24 => ?_)
  · replace h0 := xit q24 h0
    obtain ⟨x25, ex25, h0⟩ := xlet h0
    refine x_iinc (lv' := [(3, .int x25), (0, .ref (G.2.2.1 + 68)), (1, .int p0), (2, .int p1), (4, .int y4)]) C d_Game_findRests_35 3 rfl ex25 (by decide) rfl ?_
    refine x_goto C 2 d_Game_findRests_38 (by decide) ?_
    exact x_lv C [1, 2, 3, 0] rfl (hrec2 _ _ h0)
  · replace h0 := xif q24 h0
    refine x_aload_n C d_Game_findRests_19 0 rfl ?_
    refine x_iload_n C d_Game_findRests_20 3 rfl ?_
    refine x_iconst (v := 4) C d_Game_findRests_21 (by decide) ?_
    refine x_imul C d_Game_findRests_22 ?_
    refine x_iload C d_Game_findRests_23 4 rfl ?_
    refine x_iadd C d_Game_findRests_25 ?_
    obtain ⟨σ27, k26, h0⟩ := xbind1 h0
    refine x_callVv C hR (c_Game_tryOut (d := d) (by omega) k26) cw_Game_87 k_68 rfl rfl rfl (Nat.le_of_ble_eq_true rfl) ⟨Nat.zero_le _, Nat.zero_le _⟩ d_Game_findRests_26 ?_
    obtain ⟨x28, ex28, h0⟩ := xlet h0
    refine x_iinc (lv' := [(4, .int x28), (0, .ref (G.2.2.1 + 68)), (1, .int p0), (2, .int p1), (3, .int y3)]) C d_Game_findRests_29 4 rfl ex28 (by decide) rfl ?_
    refine x_goto C 10 d_Game_findRests_32 (by decide) ?_
    exact x_lv C [1, 2, 3, 4, 0] rfl (hrec10 _ _ _ h0)
theorem b_Game_findRests_10 {G : XG} {l : Launch} {p : Program} {e : Env} {R : Room} {s : State} {m : MethodId} {args : Array Value} {below : List Frame} {meth : Method} {c : Code} (C : XC G 1 570 p s m args c prog_4_method_11_code 6 R_Game) (hr : meth.sig.returnType = (some .int)) (hk : meth.locks = false) {d : Nat} (hd : 7 ≤ d + 1) (hR : xroom R (d + 1)) {p0 : Int32} {p1 : Int32} {rec2 : Int32 → LH → Option (Int32 × LH)} {σ' : LH} {r : Int32} (hrec2 : ∀ (y3 : Int32) (σ : LH), rec2 y3 σ = some (r, σ') → XJ G 1 570 p l e R s m args below meth c 6 (XQ G 1 570 below args s (some (.int r)) σ') 0 0 2 [(0, .ref (G.2.2.1 + 68)), (1, .int p0), (2, .int p1), (3, .int y3)] [] σ) : ∀ (n : Nat) (y3 : Int32) (y4 : Int32) (σ : LH), s_Game_findRests_10 p0 p1 rec2 n y3 y4 σ = some (r, σ') → XJ G 1 570 p l e R s m args below meth c 6 (XQ G 1 570 below args s (some (.int r)) σ') 0 0 10 [(0, .ref (G.2.2.1 + 68)), (1, .int p0), (2, .int p1), (3, .int y3), (4, .int y4)] [] σ := by
  intro n
  induction n with
  | zero => intro y3 y4 σ h0; cases h0
  | succ n ih => intro y3 y4 σ h0; exact bb_Game_findRests_10 C hr hk hd hR hrec2 ih h0
def s_Game_findRests_2_b (p0 : Int32) (p1 : Int32) (rec2 : Int32 → LH → Option (Int32 × LH)) (y3 : Int32) (σ : LH) : Option (Int32 × LH) :=
  if 4 ≤ y3 then (
   xb1 (s_Game_tryOut 16 σ) fun σ3 =>
   s_Game_findRests_49 p0 p1 FUEL 0 σ3)
  else (
   s_Game_findRests_10 p0 p1 rec2 FUEL y3 0 σ)
def s_Game_findRests_2 (p0 : Int32) (p1 : Int32) : Nat → Int32 → LH → Option (Int32 × LH)
  | 0, _, _ => none
  | n + 1, y3, σ => s_Game_findRests_2_b p0 p1 (s_Game_findRests_2 p0 p1 n) y3 σ
theorem bb_Game_findRests_2 {G : XG} {l : Launch} {p : Program} {e : Env} {R : Room} {s : State} {m : MethodId} {args : Array Value} {below : List Frame} {meth : Method} {c : Code} (C : XC G 1 570 p s m args c prog_4_method_11_code 6 R_Game) (hr : meth.sig.returnType = (some .int)) (hk : meth.locks = false) {d : Nat} (hd : 7 ≤ d + 1) (hR : xroom R (d + 1)) {p0 : Int32} {p1 : Int32} {rec2 : Int32 → LH → Option (Int32 × LH)} {σ' : LH} {r : Int32} (hrec2 : ∀ (y3 : Int32) (σ : LH), rec2 y3 σ = some (r, σ') → XJ G 1 570 p l e R s m args below meth c 6 (XQ G 1 570 below args s (some (.int r)) σ') 0 0 2 [(0, .ref (G.2.2.1 + 68)), (1, .int p0), (2, .int p1), (3, .int y3)] [] σ) {y3 : Int32} {σ : LH} (h0 : s_Game_findRests_2_b p0 p1 rec2 y3 σ = some (r, σ')) : XJ G 1 570 p l e R s m args below meth c 6 (XQ G 1 570 below args s (some (.int r)) σ') 0 0 2 [(0, .ref (G.2.2.1 + 68)), (1, .int p0), (2, .int p1), (3, .int y3)] [] σ := by
  replace h0 := (show _ = _ from h0)
  unfold s_Game_findRests_2_b at h0
  refine x_iload_n C d_Game_findRests_2 3 rfl ?_
  refine x_iconst (v := 4) C d_Game_findRests_3 (by decide) ?_
  refine x_icmp_ge C 41 d_Game_findRests_4 (by decide) (fun q1 => ?_) (fun q1 => ?_)
  · replace h0 := xit q1 h0
    refine x_aload_n C d_Game_findRests_41 0 rfl ?_
    refine x_bipush (v := 16) C d_Game_findRests_42 (by decide) ?_
    obtain ⟨σ3, k2, h0⟩ := xbind1 h0
    refine x_callVv C hR (c_Game_tryOut (d := d) (by omega) k2) cw_Game_87 k_68 rfl rfl rfl (Nat.le_of_ble_eq_true rfl) ⟨Nat.zero_le _, Nat.zero_le _⟩ d_Game_findRests_44 ?_
    refine x_iconst (v := 0) C d_Game_findRests_47 (by decide) ?_
    refine x_istore_n (lv' := [(3, .int 0), (0, .ref (G.2.2.1 + 68)), (1, .int p0), (2, .int p1)]) C d_Game_findRests_48 rfl (by decide) rfl ?_
    exact x_lv C [1, 2, 3, 0] rfl (b_Game_findRests_49 C hr hk hd hR FUEL _ _ h0)
  · replace h0 := xif q1 h0
    refine x_iconst (v := 0) C d_Game_findRests_7 (by decide) ?_
    refine x_istore (lv' := [(4, .int 0), (0, .ref (G.2.2.1 + 68)), (1, .int p0), (2, .int p1), (3, .int y3)]) C d_Game_findRests_8 (by decide) rfl ?_
    exact x_lv C [1, 2, 3, 4, 0] rfl (b_Game_findRests_10 C hr hk hd hR hrec2 FUEL _ _ _ h0)
theorem b_Game_findRests_2 {G : XG} {l : Launch} {p : Program} {e : Env} {R : Room} {s : State} {m : MethodId} {args : Array Value} {below : List Frame} {meth : Method} {c : Code} (C : XC G 1 570 p s m args c prog_4_method_11_code 6 R_Game) (hr : meth.sig.returnType = (some .int)) (hk : meth.locks = false) {d : Nat} (hd : 7 ≤ d + 1) (hR : xroom R (d + 1)) {p0 : Int32} {p1 : Int32} {σ' : LH} {r : Int32} : ∀ (n : Nat) (y3 : Int32) (σ : LH), s_Game_findRests_2 p0 p1 n y3 σ = some (r, σ') → XJ G 1 570 p l e R s m args below meth c 6 (XQ G 1 570 below args s (some (.int r)) σ') 0 0 2 [(0, .ref (G.2.2.1 + 68)), (1, .int p0), (2, .int p1), (3, .int y3)] [] σ := by
  intro n
  induction n with
  | zero => intro y3 σ h0; cases h0
  | succ n ih => intro y3 σ h0; exact bb_Game_findRests_2 C hr hk hd hR ih h0
def s_Game_findRests (p0 : Int32) (p1 : Int32) (σ : LH) : Option (Int32 × LH) :=
  s_Game_findRests_2 p0 p1 FUEL 0 σ
theorem c_Game_findRests {G : XG} {l : Launch} {d : Nat} (hd : 7 ≤ d) {p0 : Int32} {p1 : Int32} {σ σ' : LH} {r : Int32} (h0 : s_Game_findRests p0 p1 σ = some (r, σ')) : xM G 1 570 l y_Game_findRests prog_4_method_11_code 6 (some .int) d [.ref (G.2.2.1 + 68), .int p0, .int p1] σ (some (.int r)) σ' := by
  obtain ⟨d, rfl⟩ : ∃ q, d = q + 1 := ⟨d - 1, by omega⟩
  refine x_met R_Game rfl (by decide +kernel) (Nat.le_of_ble_eq_true rfl) fun p e s m below meth c C hr hk hR => ?_
  refine x_lv (lv' := [(0, .ref (G.2.2.1 + 68)), (1, .int p0), (2, .int p1)]) C [0, 1, 2] rfl ?_
  generalize xrm (d + 1) = R at hR ⊢
  unfold s_Game_findRests at h0
  refine x_iconst (v := 0) C d_Game_findRests_0 (by decide) ?_
  refine x_istore_n (lv' := [(3, .int 0), (0, .ref (G.2.2.1 + 68)), (1, .int p0), (2, .int p1)]) C d_Game_findRests_1 rfl (by decide) rfl ?_
  exact x_lv C [1, 2, 3, 0] rfl (b_Game_findRests_2 C hr hk hd hR FUEL _ _ h0)
-- LostPlaces.rests(II)I
theorem d_Main_rests_0 : decode prog_1_method_40_code 0 = .ok (.aload_n 0, 1) := by decide +kernel
theorem d_Main_rests_1 : decode prog_1_method_40_code 1 = .ok (.iload_n 1, 1) := by decide +kernel
theorem d_Main_rests_2 : decode prog_1_method_40_code 2 = .ok (.invokevirtual 324, 3) := by decide +kernel
theorem d_Main_rests_5 : decode prog_1_method_40_code 5 = .ok (.ifCond .eq 15, 3) := by decide +kernel
theorem d_Main_rests_8 : decode prog_1_method_40_code 8 = .ok (.aload_n 0, 1) := by decide +kernel
theorem d_Main_rests_9 : decode prog_1_method_40_code 9 = .ok (.getfield 114, 3) := by decide +kernel
theorem d_Main_rests_12 : decode prog_1_method_40_code 12 = .ok (.iload_n 1, 1) := by decide +kernel
theorem d_Main_rests_13 : decode prog_1_method_40_code 13 = .ok (.iload_n 2, 1) := by decide +kernel
theorem d_Main_rests_14 : decode prog_1_method_40_code 14 = .ok (.invokevirtual 336, 3) := by decide +kernel
theorem d_Main_rests_17 : decode prog_1_method_40_code 17 = .ok (.goto 5, 3) := by decide +kernel
theorem d_Main_rests_20 : decode prog_1_method_40_code 20 = .ok (.ldc 226, 2) := by decide +kernel
theorem d_Main_rests_22 : decode prog_1_method_40_code 22 = .ok (.ireturn, 1) := by decide +kernel
def s_Main_rests_22 (p0 : Int32) (p1 : Int32) (z0 : Int32) (σ : LH) : Option (Int32 × LH) :=
  some (z0, σ)
theorem b_Main_rests_22 {G : XG} {l : Launch} {p : Program} {e : Env} {R : Room} {s : State} {m : MethodId} {args : Array Value} {below : List Frame} {meth : Method} {c : Code} (C : XC G 1 570 p s m args c prog_1_method_40_code 3 R_Main) (hr : meth.sig.returnType = (some .int)) (hk : meth.locks = false) {d : Nat} (hd : 8 ≤ d + 1) (hR : xroom R (d + 1)) {p0 : Int32} {p1 : Int32} {σ' : LH} {r : Int32} {z0 : Int32} {σ : LH} (h0 : s_Main_rests_22 p0 p1 z0 σ = some (r, σ')) : XJ G 1 570 p l e R s m args below meth c 3 (XQ G 1 570 below args s (some (.int r)) σ') 0 0 22 [] [.int z0] σ := by
  replace h0 := (show _ = _ from h0)
  unfold s_Main_rests_22 at h0
  exact x_iret C hr hk h0 d_Main_rests_22
def s_Main_rests (p0 : Int32) (p1 : Int32) (σ : LH) : Option (Int32 × LH) :=
  xb2 (s_Main_isGame p0 σ) fun r2 σ3 =>
  if r2 = 0 then (
   s_Main_rests_22 p0 p1 (-1000000) σ3)
  else (
   xb2 (s_Game_findRests p0 p1 σ3) fun r6 σ7 =>
   s_Main_rests_22 p0 p1 r6 σ7)
theorem c_Main_rests {G : XG} {l : Launch} {d : Nat} (hd : 8 ≤ d) {p0 : Int32} {p1 : Int32} {σ σ' : LH} {r : Int32} (h0 : s_Main_rests p0 p1 σ = some (r, σ')) : xM G 1 570 l y_Main_rests prog_1_method_40_code 3 (some .int) d [.ref (G.2.2.1 + 1), .int p0, .int p1] σ (some (.int r)) σ' := by
  obtain ⟨d, rfl⟩ : ∃ q, d = q + 1 := ⟨d - 1, by omega⟩
  refine x_met R_Main rfl (by decide +kernel) (Nat.le_of_ble_eq_true rfl) fun p e s m below meth c C hr hk hR => ?_
  refine x_lv (lv' := [(0, .ref (G.2.2.1 + 1)), (1, .int p0), (2, .int p1)]) C [0, 1, 2] rfl ?_
  generalize xrm (d + 1) = R at hR ⊢
  unfold s_Main_rests at h0
  refine x_aload_n C d_Main_rests_0 0 rfl ?_
  refine x_iload_n C d_Main_rests_1 1 rfl ?_
  obtain ⟨r2, σ3, k1, h0⟩ := xbind2 h0
  refine x_callVi C hR (c_Main_isGame (d := d) (by omega) k1) cw_Main_324 k_1 rfl rfl rfl (Nat.le_of_ble_eq_true rfl) ⟨Nat.zero_le _, Nat.zero_le _⟩ d_Main_rests_2 ?_
  refine x_if_eq C 20 d_Main_rests_5 (by decide) (fun q4 => ?_) (fun q4 => ?_)
  · replace h0 := xit q4 h0
    refine x_ldc (v := (-1000000)) C w_982 d_Main_rests_20 ?_
    exact x_lv C [] rfl (b_Main_rests_22 C hr hk hd hR h0)
  · replace h0 := xif q4 h0
    refine x_aload_n C d_Main_rests_8 0 rfl ?_
    refine x_getA (y := 68) C fg_Main_114 k_1 rfl d_Main_rests_9 ?_
    refine x_iload_n C d_Main_rests_12 1 rfl ?_
    refine x_iload_n C d_Main_rests_13 2 rfl ?_
    obtain ⟨r6, σ7, k5, h0⟩ := xbind2 h0
    refine x_callVi C hR (c_Game_findRests (d := d) (by omega) k5) cw_Main_336 k_68 rfl rfl rfl (Nat.le_of_ble_eq_true rfl) ⟨Nat.zero_le _, Nat.zero_le _⟩ d_Main_rests_14 ?_
    refine x_goto C 22 d_Main_rests_17 (by decide) ?_
    exact x_lv C [] rfl (b_Main_rests_22 C hr hk hd hR h0)
-- LostPlaces$Hall.gap(I)I
theorem d_Hall_gap_0 : decode prog_6_method_17_code 0 = .ok (.aload_n 0, 1) := by decide +kernel
theorem d_Hall_gap_1 : decode prog_6_method_17_code 1 = .ok (.getfield 21, 3) := by decide +kernel
theorem d_Hall_gap_4 : decode prog_6_method_17_code 4 = .ok (.iconst 0, 1) := by decide +kernel
theorem d_Hall_gap_5 : decode prog_6_method_17_code 5 = .ok (.iaload, 1) := by decide +kernel
theorem d_Hall_gap_6 : decode prog_6_method_17_code 6 = .ok (.istore_n 2, 1) := by decide +kernel
theorem d_Hall_gap_7 : decode prog_6_method_17_code 7 = .ok (.aload_n 0, 1) := by decide +kernel
theorem d_Hall_gap_8 : decode prog_6_method_17_code 8 = .ok (.getfield 21, 3) := by decide +kernel
theorem d_Hall_gap_11 : decode prog_6_method_17_code 11 = .ok (.iconst 0, 1) := by decide +kernel
theorem d_Hall_gap_12 : decode prog_6_method_17_code 12 = .ok (.iaload, 1) := by decide +kernel
theorem d_Hall_gap_13 : decode prog_6_method_17_code 13 = .ok (.istore_n 3, 1) := by decide +kernel
theorem d_Hall_gap_14 : decode prog_6_method_17_code 14 = .ok (.iconst 1, 1) := by decide +kernel
theorem d_Hall_gap_15 : decode prog_6_method_17_code 15 = .ok (.istore 4, 2) := by decide +kernel
theorem d_Hall_gap_17 : decode prog_6_method_17_code 17 = .ok (.iload 4, 2) := by decide +kernel
theorem d_Hall_gap_19 : decode prog_6_method_17_code 19 = .ok (.iload_n 1, 1) := by decide +kernel
theorem d_Hall_gap_20 : decode prog_6_method_17_code 20 = .ok (.if_icmp .ge 54, 3) := by decide +kernel
theorem d_Hall_gap_23 : decode prog_6_method_17_code 23 = .ok (.iload 4, 2) := by decide +kernel
theorem d_Hall_gap_25 : decode prog_6_method_17_code 25 = .ok (.bipush 8, 2) := by decide +kernel
theorem d_Hall_gap_27 : decode prog_6_method_17_code 27 = .ok (.if_icmp .ge 47, 3) := by decide +kernel
theorem d_Hall_gap_30 : decode prog_6_method_17_code 30 = .ok (.aload_n 0, 1) := by decide +kernel
theorem d_Hall_gap_31 : decode prog_6_method_17_code 31 = .ok (.getfield 21, 3) := by decide +kernel
theorem d_Hall_gap_34 : decode prog_6_method_17_code 34 = .ok (.iload 4, 2) := by decide +kernel
theorem d_Hall_gap_36 : decode prog_6_method_17_code 36 = .ok (.iaload, 1) := by decide +kernel
theorem d_Hall_gap_37 : decode prog_6_method_17_code 37 = .ok (.iload_n 2, 1) := by decide +kernel
theorem d_Hall_gap_38 : decode prog_6_method_17_code 38 = .ok (.if_icmp .ge 11, 3) := by decide +kernel
theorem d_Hall_gap_41 : decode prog_6_method_17_code 41 = .ok (.aload_n 0, 1) := by decide +kernel
theorem d_Hall_gap_42 : decode prog_6_method_17_code 42 = .ok (.getfield 21, 3) := by decide +kernel
theorem d_Hall_gap_45 : decode prog_6_method_17_code 45 = .ok (.iload 4, 2) := by decide +kernel
theorem d_Hall_gap_47 : decode prog_6_method_17_code 47 = .ok (.iaload, 1) := by decide +kernel
theorem d_Hall_gap_48 : decode prog_6_method_17_code 48 = .ok (.istore_n 2, 1) := by decide +kernel
theorem d_Hall_gap_49 : decode prog_6_method_17_code 49 = .ok (.aload_n 0, 1) := by decide +kernel
theorem d_Hall_gap_50 : decode prog_6_method_17_code 50 = .ok (.getfield 21, 3) := by decide +kernel
theorem d_Hall_gap_53 : decode prog_6_method_17_code 53 = .ok (.iload 4, 2) := by decide +kernel
theorem d_Hall_gap_55 : decode prog_6_method_17_code 55 = .ok (.iaload, 1) := by decide +kernel
theorem d_Hall_gap_56 : decode prog_6_method_17_code 56 = .ok (.iload_n 3, 1) := by decide +kernel
theorem d_Hall_gap_57 : decode prog_6_method_17_code 57 = .ok (.if_icmp .le 11, 3) := by decide +kernel
theorem d_Hall_gap_60 : decode prog_6_method_17_code 60 = .ok (.aload_n 0, 1) := by decide +kernel
theorem d_Hall_gap_61 : decode prog_6_method_17_code 61 = .ok (.getfield 21, 3) := by decide +kernel
theorem d_Hall_gap_64 : decode prog_6_method_17_code 64 = .ok (.iload 4, 2) := by decide +kernel
theorem d_Hall_gap_66 : decode prog_6_method_17_code 66 = .ok (.iaload, 1) := by decide +kernel
theorem d_Hall_gap_67 : decode prog_6_method_17_code 67 = .ok (.istore_n 3, 1) := by decide +kernel
theorem d_Hall_gap_68 : decode prog_6_method_17_code 68 = .ok (.iinc 4 1, 3) := by decide +kernel
theorem d_Hall_gap_71 : decode prog_6_method_17_code 71 = .ok (.goto (-54), 3) := by decide +kernel
theorem d_Hall_gap_74 : decode prog_6_method_17_code 74 = .ok (.iload_n 3, 1) := by decide +kernel
theorem d_Hall_gap_75 : decode prog_6_method_17_code 75 = .ok (.iload_n 2, 1) := by decide +kernel
theorem d_Hall_gap_76 : decode prog_6_method_17_code 76 = .ok (.isub, 1) := by decide +kernel
theorem d_Hall_gap_77 : decode prog_6_method_17_code 77 = .ok (.ireturn, 1) := by decide +kernel
def s_Hall_gap_74 (h : Nat) (p0 : Int32) (y2 : Int32) (y3 : Int32) (σ : LH) : Option (Int32 × LH) :=
  some ((y3 - y2), σ)
theorem b_Hall_gap_74 {G : XG} {l : Launch} {p : Program} {e : Env} {R : Room} {s : State} {m : MethodId} {args : Array Value} {below : List Frame} {meth : Method} {c : Code} (C : XC G 1 570 p s m args c prog_6_method_17_code 5 R_Hall) (hr : meth.sig.returnType = (some .int)) (hk : meth.locks = false) {d : Nat} (hd : 1 ≤ d + 1) (hR : xroom R (d + 1)) {h : Nat} {p0 : Int32} (hh : h ∈ xHalls) {σ' : LH} {r : Int32} {y2 : Int32} {y3 : Int32} {σ : LH} (h0 : s_Hall_gap_74 h p0 y2 y3 σ = some (r, σ')) : XJ G 1 570 p l e R s m args below meth c 5 (XQ G 1 570 below args s (some (.int r)) σ') 0 0 74 [(2, .int y2), (3, .int y3)] [] σ := by
  replace h0 := (show _ = _ from h0)
  unfold s_Hall_gap_74 at h0
  refine x_iload_n C d_Hall_gap_74 1 rfl ?_
  refine x_iload_n C d_Hall_gap_75 0 rfl ?_
  refine x_isub C d_Hall_gap_76 ?_
  exact x_iret C hr hk h0 d_Hall_gap_77
def s_Hall_gap_68 (h : Nat) (p0 : Int32) (rec17 : Int32 → Int32 → Int32 → LH → Option (Int32 × LH)) (y2 : Int32) (y3 : Int32) (y4 : Int32) (σ : LH) : Option (Int32 × LH) :=
  xl ((y4 + 1) : Int32) fun x11 =>
  rec17 y2 y3 x11 σ
theorem b_Hall_gap_68 {G : XG} {l : Launch} {p : Program} {e : Env} {R : Room} {s : State} {m : MethodId} {args : Array Value} {below : List Frame} {meth : Method} {c : Code} (C : XC G 1 570 p s m args c prog_6_method_17_code 5 R_Hall) (hr : meth.sig.returnType = (some .int)) (hk : meth.locks = false) {d : Nat} (hd : 1 ≤ d + 1) (hR : xroom R (d + 1)) {h : Nat} {p0 : Int32} (hh : h ∈ xHalls) {rec17 : Int32 → Int32 → Int32 → LH → Option (Int32 × LH)} {σ' : LH} {r : Int32} (hrec17 : ∀ (y2 : Int32) (y3 : Int32) (y4 : Int32) (σ : LH), rec17 y2 y3 y4 σ = some (r, σ') → XJ G 1 570 p l e R s m args below meth c 5 (XQ G 1 570 below args s (some (.int r)) σ') 0 0 17 [(0, .ref (G.2.2.1 + h)), (1, .int p0), (2, .int y2), (3, .int y3), (4, .int y4)] [] σ) {y2 : Int32} {y3 : Int32} {y4 : Int32} {σ : LH} (h0 : s_Hall_gap_68 h p0 rec17 y2 y3 y4 σ = some (r, σ')) : XJ G 1 570 p l e R s m args below meth c 5 (XQ G 1 570 below args s (some (.int r)) σ') 0 0 68 [(0, .ref (G.2.2.1 + h)), (1, .int p0), (2, .int y2), (3, .int y3), (4, .int y4)] [] σ := by
  replace h0 := (show _ = _ from h0)
  unfold s_Hall_gap_68 at h0
  obtain ⟨x11, ex11, h0⟩ := xlet h0
  refine x_iinc (lv' := [(4, .int x11), (0, .ref (G.2.2.1 + h)), (1, .int p0), (2, .int y2), (3, .int y3)]) C d_Hall_gap_68 4 rfl ex11 (by decide) rfl ?_
  refine x_goto C 17 d_Hall_gap_71 (by decide) ?_
  exact x_lv C [1, 2, 3, 4, 0] rfl (hrec17 _ _ _ _ h0)
def s_Hall_gap_49 (h : Nat) (p0 : Int32) (rec17 : Int32 → Int32 → Int32 → LH → Option (Int32 × LH)) (y2 : Int32) (y3 : Int32) (y4 : Int32) (σ : LH) : Option (Int32 × LH) :=
  if ib y4 8 then (
  if (σ.1 (h + 4) (Int32.toNatClampNeg y4)) ≤ y3 then (
   s_Hall_gap_68 h p0 rec17 y2 y3 y4 σ)
  else (
   if ib y4 8 then (
   xl (((σ.1 (h + 4) (Int32.toNatClampNeg y4))) : Int32) fun x13 =>
   s_Hall_gap_68 h p0 rec17 y2 x13 y4 σ) else none)) else none
theorem b_Hall_gap_49 {G : XG} {l : Launch} {p : Program} {e : Env} {R : Room} {s : State} {m : MethodId} {args : Array Value} {below : List Frame} {meth : Method} {c : Code} (C : XC G 1 570 p s m args c prog_6_method_17_code 5 R_Hall) (hr : meth.sig.returnType = (some .int)) (hk : meth.locks = false) {d : Nat} (hd : 1 ≤ d + 1) (hR : xroom R (d + 1)) {h : Nat} {p0 : Int32} (hh : h ∈ xHalls) {rec17 : Int32 → Int32 → Int32 → LH → Option (Int32 × LH)} {σ' : LH} {r : Int32} (hrec17 : ∀ (y2 : Int32) (y3 : Int32) (y4 : Int32) (σ : LH), rec17 y2 y3 y4 σ = some (r, σ') → XJ G 1 570 p l e R s m args below meth c 5 (XQ G 1 570 below args s (some (.int r)) σ') 0 0 17 [(0, .ref (G.2.2.1 + h)), (1, .int p0), (2, .int y2), (3, .int y3), (4, .int y4)] [] σ) {y2 : Int32} {y3 : Int32} {y4 : Int32} {σ : LH} (h0 : s_Hall_gap_49 h p0 rec17 y2 y3 y4 σ = some (r, σ')) : XJ G 1 570 p l e R s m args below meth c 5 (XQ G 1 570 below args s (some (.int r)) σ') 0 0 49 [(0, .ref (G.2.2.1 + h)), (1, .int p0), (2, .int y2), (3, .int y3), (4, .int y4)] [] σ := by
  replace h0 := (show _ = _ from h0)
  unfold s_Hall_gap_49 at h0
  refine x_aload_n C d_Hall_gap_49 0 rfl ?_
  refine x_getR (y := 4) C fg_Hall_21 (hl_0 hh) rfl d_Hall_gap_50 ?_
  refine x_iload C d_Hall_gap_53 4 rfl ?_
  obtain ⟨g9, h0⟩ := xgo h0
  refine x_iald C (hl_4 hh) (ib_in g9) d_Hall_gap_55 ?_
  refine x_iload_n C d_Hall_gap_56 3 rfl ?_
  refine x_icmp_le C 68 d_Hall_gap_57 (by decide) (fun q10 => ?_) (fun q10 => ?_)
  · replace h0 := xit q10 h0
    exact x_lv C [0, 1, 2, 3, 4] rfl (b_Hall_gap_68 C hr hk hd hR hh hrec17 h0)
  · replace h0 := xif q10 h0
    refine x_aload_n C d_Hall_gap_60 0 rfl ?_
    refine x_getR (y := 4) C fg_Hall_21 (hl_0 hh) rfl d_Hall_gap_61 ?_
    refine x_iload C d_Hall_gap_64 4 rfl ?_
    obtain ⟨g12, h0⟩ := xgo h0
    refine x_iald C (hl_4 hh) (ib_in g12) d_Hall_gap_66 ?_
    obtain ⟨x13, ex13, h0⟩ := xlet h0
    refine x_name C ex13 ?_
    refine x_istore_n (lv' := [(3, .int x13), (0, .ref (G.2.2.1 + h)), (1, .int p0), (2, .int y2), (4, .int y4)]) C d_Hall_gap_67 rfl (by decide) rfl ?_
    exact x_lv C [1, 2, 3, 0, 4] rfl (b_Hall_gap_68 C hr hk hd hR hh hrec17 h0)
def s_Hall_gap_17_b (h : Nat) (p0 : Int32) (rec17 : Int32 → Int32 → Int32 → LH → Option (Int32 × LH)) (y2 : Int32) (y3 : Int32) (y4 : Int32) (σ : LH) : Option (Int32 × LH) :=
  if p0 ≤ y4 then (
   s_Hall_gap_74 h p0 y2 y3 σ)
  else (
   if 8 ≤ y4 then (
    s_Hall_gap_74 h p0 y2 y3 σ)
   else (
    if ib y4 8 then (
    if y2 ≤ (σ.1 (h + 4) (Int32.toNatClampNeg y4)) then (
     s_Hall_gap_49 h p0 rec17 y2 y3 y4 σ)
    else (
     if ib y4 8 then (
     xl (((σ.1 (h + 4) (Int32.toNatClampNeg y4))) : Int32) fun x15 =>
     s_Hall_gap_49 h p0 rec17 x15 y3 y4 σ) else none)) else none))
def s_Hall_gap_17 (h : Nat) (p0 : Int32) : Nat → Int32 → Int32 → Int32 → LH → Option (Int32 × LH)
  | 0, _, _, _, _ => none
  | n + 1, y2, y3, y4, σ => s_Hall_gap_17_b h p0 (s_Hall_gap_17 h p0 n) y2 y3 y4 σ
theorem bb_Hall_gap_17 {G : XG} {l : Launch} {p : Program} {e : Env} {R : Room} {s : State} {m : MethodId} {args : Array Value} {below : List Frame} {meth : Method} {c : Code} (C : XC G 1 570 p s m args c prog_6_method_17_code 5 R_Hall) (hr : meth.sig.returnType = (some .int)) (hk : meth.locks = false) {d : Nat} (hd : 1 ≤ d + 1) (hR : xroom R (d + 1)) {h : Nat} {p0 : Int32} (hh : h ∈ xHalls) {rec17 : Int32 → Int32 → Int32 → LH → Option (Int32 × LH)} {σ' : LH} {r : Int32} (hrec17 : ∀ (y2 : Int32) (y3 : Int32) (y4 : Int32) (σ : LH), rec17 y2 y3 y4 σ = some (r, σ') → XJ G 1 570 p l e R s m args below meth c 5 (XQ G 1 570 below args s (some (.int r)) σ') 0 0 17 [(0, .ref (G.2.2.1 + h)), (1, .int p0), (2, .int y2), (3, .int y3), (4, .int y4)] [] σ) {y2 : Int32} {y3 : Int32} {y4 : Int32} {σ : LH} (h0 : s_Hall_gap_17_b h p0 rec17 y2 y3 y4 σ = some (r, σ')) : XJ G 1 570 p l e R s m args below meth c 5 (XQ G 1 570 below args s (some (.int r)) σ') 0 0 17 [(0, .ref (G.2.2.1 + h)), (1, .int p0), (2, .int y2), (3, .int y3), (4, .int y4)] [] σ := by
  replace h0 := (show _ = _ from h0)
  unfold s_Hall_gap_17_b at h0
  refine x_iload C d_Hall_gap_17 4 rfl ?_
  refine x_iload_n C d_Hall_gap_19 1 rfl ?_
  refine x_icmp_ge C 74 d_Hall_gap_20 (by decide) (fun q5 => ?_) (fun q5 => ?_)
  · replace h0 := xit q5 h0
    exact x_lv C [2, 3] rfl (b_Hall_gap_74 C hr hk hd hR hh h0)
  · replace h0 := xif q5 h0
    refine x_iload C d_Hall_gap_23 4 rfl ?_
    refine x_bipush (v := 8) C d_Hall_gap_25 (by decide) ?_
    refine x_icmp_ge C 74 d_Hall_gap_27 (by decide) (fun q6 => ?_) (fun q6 => ?_)
    · replace h0 := xit q6 h0
      exact x_lv C [2, 3] rfl (b_Hall_gap_74 C hr hk hd hR hh h0)
    · replace h0 := xif q6 h0
      refine x_aload_n C d_Hall_gap_30 0 rfl ?_
      refine x_getR (y := 4) C fg_Hall_21 (hl_0 hh) rfl d_Hall_gap_31 ?_
      refine x_iload C d_Hall_gap_34 4 rfl ?_
      obtain ⟨g7, h0⟩ := xgo h0
      refine x_iald C (hl_4 hh) (ib_in g7) d_Hall_gap_36 ?_
      refine x_iload_n C d_Hall_gap_37 2 rfl ?_
      refine x_icmp_ge C 49 d_Hall_gap_38 (by decide) (fun q8 => ?_) (fun q8 => ?_)
      · replace h0 := xit q8 h0
        exact x_lv C [0, 1, 2, 3, 4] rfl (b_Hall_gap_49 C hr hk hd hR hh hrec17 h0)
      · replace h0 := xif q8 h0
        refine x_aload_n C d_Hall_gap_41 0 rfl ?_
        refine x_getR (y := 4) C fg_Hall_21 (hl_0 hh) rfl d_Hall_gap_42 ?_
        refine x_iload C d_Hall_gap_45 4 rfl ?_
        obtain ⟨g14, h0⟩ := xgo h0
        refine x_iald C (hl_4 hh) (ib_in g14) d_Hall_gap_47 ?_
        obtain ⟨x15, ex15, h0⟩ := xlet h0
        refine x_name C ex15 ?_
        refine x_istore_n (lv' := [(2, .int x15), (0, .ref (G.2.2.1 + h)), (1, .int p0), (3, .int y3), (4, .int y4)]) C d_Hall_gap_48 rfl (by decide) rfl ?_
        exact x_lv C [1, 2, 0, 3, 4] rfl (b_Hall_gap_49 C hr hk hd hR hh hrec17 h0)
theorem b_Hall_gap_17 {G : XG} {l : Launch} {p : Program} {e : Env} {R : Room} {s : State} {m : MethodId} {args : Array Value} {below : List Frame} {meth : Method} {c : Code} (C : XC G 1 570 p s m args c prog_6_method_17_code 5 R_Hall) (hr : meth.sig.returnType = (some .int)) (hk : meth.locks = false) {d : Nat} (hd : 1 ≤ d + 1) (hR : xroom R (d + 1)) {h : Nat} {p0 : Int32} (hh : h ∈ xHalls) {σ' : LH} {r : Int32} : ∀ (n : Nat) (y2 : Int32) (y3 : Int32) (y4 : Int32) (σ : LH), s_Hall_gap_17 h p0 n y2 y3 y4 σ = some (r, σ') → XJ G 1 570 p l e R s m args below meth c 5 (XQ G 1 570 below args s (some (.int r)) σ') 0 0 17 [(0, .ref (G.2.2.1 + h)), (1, .int p0), (2, .int y2), (3, .int y3), (4, .int y4)] [] σ := by
  intro n
  induction n with
  | zero => intro y2 y3 y4 σ h0; cases h0
  | succ n ih => intro y2 y3 y4 σ h0; exact bb_Hall_gap_17 C hr hk hd hR hh ih h0
def s_Hall_gap (h : Nat) (p0 : Int32) (σ : LH) : Option (Int32 × LH) :=
  if ib 0 8 then (
  xl (((σ.1 (h + 4) (Int32.toNatClampNeg 0))) : Int32) fun x2 =>
  if ib 0 8 then (
  xl (((σ.1 (h + 4) (Int32.toNatClampNeg 0))) : Int32) fun x4 =>
  s_Hall_gap_17 h p0 FUEL x2 x4 1 σ) else none) else none
theorem c_Hall_gap {G : XG} {l : Launch} {d : Nat} (hd : 1 ≤ d) {h : Nat} {p0 : Int32} (hh : h ∈ xHalls) {σ σ' : LH} {r : Int32} (h0 : s_Hall_gap h p0 σ = some (r, σ')) : xM G 1 570 l y_Hall_gap prog_6_method_17_code 5 (some .int) d [.ref (G.2.2.1 + h), .int p0] σ (some (.int r)) σ' := by
  obtain ⟨d, rfl⟩ : ∃ q, d = q + 1 := ⟨d - 1, by omega⟩
  refine x_met R_Hall rfl (by decide +kernel) (Nat.le_of_ble_eq_true rfl) fun p e s m below meth c C hr hk hR => ?_
  refine x_lv (lv' := [(0, .ref (G.2.2.1 + h)), (1, .int p0)]) C [0, 1] rfl ?_
  generalize xrm (d + 1) = R at hR ⊢
  unfold s_Hall_gap at h0
  refine x_aload_n C d_Hall_gap_0 0 rfl ?_
  refine x_getR (y := 4) C fg_Hall_21 (hl_0 hh) rfl d_Hall_gap_1 ?_
  refine x_iconst (v := 0) C d_Hall_gap_4 (by decide) ?_
  obtain ⟨g1, h0⟩ := xgo h0
  refine x_iald C (hl_4 hh) (ib_in g1) d_Hall_gap_5 ?_
  obtain ⟨x2, ex2, h0⟩ := xlet h0
  refine x_name C ex2 ?_
  refine x_istore_n (lv' := [(2, .int x2), (0, .ref (G.2.2.1 + h)), (1, .int p0)]) C d_Hall_gap_6 rfl (by decide) rfl ?_
  refine x_aload_n C d_Hall_gap_7 1 rfl ?_
  refine x_getR (y := 4) C fg_Hall_21 (hl_0 hh) rfl d_Hall_gap_8 ?_
  refine x_iconst (v := 0) C d_Hall_gap_11 (by decide) ?_
  obtain ⟨g3, h0⟩ := xgo h0
  refine x_iald C (hl_4 hh) (ib_in g3) d_Hall_gap_12 ?_
  obtain ⟨x4, ex4, h0⟩ := xlet h0
  refine x_name C ex4 ?_
  refine x_istore_n (lv' := [(3, .int x4), (2, .int x2), (0, .ref (G.2.2.1 + h)), (1, .int p0)]) C d_Hall_gap_13 rfl (by decide) rfl ?_
  refine x_iconst (v := 1) C d_Hall_gap_14 (by decide) ?_
  refine x_istore (lv' := [(4, .int 1), (3, .int x4), (2, .int x2), (0, .ref (G.2.2.1 + h)), (1, .int p0)]) C d_Hall_gap_15 (by decide) rfl ?_
  exact x_lv C [3, 4, 2, 1, 0] rfl (b_Hall_gap_17 C hr hk hd hR hh FUEL _ _ _ _ h0)
-- LostPlaces$Branches.order(III)V
theorem d_Branches_order_0 : decode prog_2_method_3_code 0 = .ok (.iload_n 1, 1) := by decide +kernel
theorem d_Branches_order_1 : decode prog_2_method_3_code 1 = .ok (.ifCond .lt 8, 3) := by decide +kernel
theorem d_Branches_order_4 : decode prog_2_method_3_code 4 = .ok (.iload_n 1, 1) := by decide +kernel
theorem d_Branches_order_5 : decode prog_2_method_3_code 5 = .ok (.iconst 5, 1) := by decide +kernel
theorem d_Branches_order_6 : decode prog_2_method_3_code 6 = .ok (.if_icmp .le 4, 3) := by decide +kernel
theorem d_Branches_order_9 : decode prog_2_method_3_code 9 = .ok (.return_, 1) := by decide +kernel
theorem d_Branches_order_10 : decode prog_2_method_3_code 10 = .ok (.aload_n 0, 1) := by decide +kernel
theorem d_Branches_order_11 : decode prog_2_method_3_code 11 = .ok (.getfield 11, 3) := by decide +kernel
theorem d_Branches_order_14 : decode prog_2_method_3_code 14 = .ok (.iload_n 1, 1) := by decide +kernel
theorem d_Branches_order_15 : decode prog_2_method_3_code 15 = .ok (.aaload, 1) := by decide +kernel
theorem d_Branches_order_16 : decode prog_2_method_3_code 16 = .ok (.astore 4, 2) := by decide +kernel
theorem d_Branches_order_18 : decode prog_2_method_3_code 18 = .ok (.iload_n 1, 1) := by decide +kernel
theorem d_Branches_order_19 : decode prog_2_method_3_code 19 = .ok (.aload_n 0, 1) := by decide +kernel
theorem d_Branches_order_20 : decode prog_2_method_3_code 20 = .ok (.getfield 58, 3) := by decide +kernel
theorem d_Branches_order_23 : decode prog_2_method_3_code 23 = .ok (.getfield 81, 3) := by decide +kernel
theorem d_Branches_order_26 : decode prog_2_method_3_code 26 = .ok (.if_icmp .lt 62, 3) := by decide +kernel
theorem d_Branches_order_29 : decode prog_2_method_3_code 29 = .ok (.aload_n 0, 1) := by decide +kernel
theorem d_Branches_order_30 : decode prog_2_method_3_code 30 = .ok (.getfield 66, 3) := by decide +kernel
theorem d_Branches_order_33 : decode prog_2_method_3_code 33 = .ok (.aload 4, 2) := by decide +kernel
theorem d_Branches_order_35 : decode prog_2_method_3_code 35 = .ok (.aload_n 0, 1) := by decide +kernel
theorem d_Branches_order_36 : decode prog_2_method_3_code 36 = .ok (.getfield 58, 3) := by decide +kernel
theorem d_Branches_order_39 : decode prog_2_method_3_code 39 = .ok (.getfield 86, 3) := by decide +kernel
theorem d_Branches_order_42 : decode prog_2_method_3_code 42 = .ok (.invokevirtual 89, 3) := by decide +kernel
theorem d_Branches_order_45 : decode prog_2_method_3_code 45 = .ok (.aload 4, 2) := by decide +kernel
theorem d_Branches_order_47 : decode prog_2_method_3_code 47 = .ok (.aload_n 0, 1) := by decide +kernel
theorem d_Branches_order_48 : decode prog_2_method_3_code 48 = .ok (.getfield 58, 3) := by decide +kernel
theorem d_Branches_order_51 : decode prog_2_method_3_code 51 = .ok (.getfield 81, 3) := by decide +kernel
theorem d_Branches_order_54 : decode prog_2_method_3_code 54 = .ok (.invokevirtual 95, 3) := by decide +kernel
theorem d_Branches_order_57 : decode prog_2_method_3_code 57 = .ok (.istore 5, 2) := by decide +kernel
theorem d_Branches_order_59 : decode prog_2_method_3_code 59 = .ok (.aload_n 0, 1) := by decide +kernel
theorem d_Branches_order_60 : decode prog_2_method_3_code 60 = .ok (.getfield 24, 3) := by decide +kernel
theorem d_Branches_order_63 : decode prog_2_method_3_code 63 = .ok (.iconst (-1), 1) := by decide +kernel
theorem d_Branches_order_64 : decode prog_2_method_3_code 64 = .ok (.if_icmp .eq 12, 3) := by decide +kernel
theorem d_Branches_order_67 : decode prog_2_method_3_code 67 = .ok (.iload 5, 2) := by decide +kernel
theorem d_Branches_order_69 : decode prog_2_method_3_code 69 = .ok (.aload_n 0, 1) := by decide +kernel
theorem d_Branches_order_70 : decode prog_2_method_3_code 70 = .ok (.getfield 24, 3) := by decide +kernel
theorem d_Branches_order_73 : decode prog_2_method_3_code 73 = .ok (.if_icmp .ge 14, 3) := by decide +kernel
theorem d_Branches_order_76 : decode prog_2_method_3_code 76 = .ok (.aload_n 0, 1) := by decide +kernel
theorem d_Branches_order_77 : decode prog_2_method_3_code 77 = .ok (.iload 5, 2) := by decide +kernel
theorem d_Branches_order_79 : decode prog_2_method_3_code 79 = .ok (.putfield 24, 3) := by decide +kernel
theorem d_Branches_order_82 : decode prog_2_method_3_code 82 = .ok (.aload_n 0, 1) := by decide +kernel
theorem d_Branches_order_83 : decode prog_2_method_3_code 83 = .ok (.iload_n 3, 1) := by decide +kernel
theorem d_Branches_order_84 : decode prog_2_method_3_code 84 = .ok (.putfield 21, 3) := by decide +kernel
theorem d_Branches_order_87 : decode prog_2_method_3_code 87 = .ok (.return_, 1) := by decide +kernel
theorem d_Branches_order_88 : decode prog_2_method_3_code 88 = .ok (.iconst 0, 1) := by decide +kernel
theorem d_Branches_order_89 : decode prog_2_method_3_code 89 = .ok (.istore 5, 2) := by decide +kernel
theorem d_Branches_order_91 : decode prog_2_method_3_code 91 = .ok (.iload 5, 2) := by decide +kernel
theorem d_Branches_order_93 : decode prog_2_method_3_code 93 = .ok (.aload_n 0, 1) := by decide +kernel
theorem d_Branches_order_94 : decode prog_2_method_3_code 94 = .ok (.getfield 58, 3) := by decide +kernel
theorem d_Branches_order_97 : decode prog_2_method_3_code 97 = .ok (.getfield 81, 3) := by decide +kernel
theorem d_Branches_order_100 : decode prog_2_method_3_code 100 = .ok (.if_icmp .ge 92, 3) := by decide +kernel
theorem d_Branches_order_103 : decode prog_2_method_3_code 103 = .ok (.iload_n 2, 1) := by decide +kernel
theorem d_Branches_order_104 : decode prog_2_method_3_code 104 = .ok (.iload 5, 2) := by decide +kernel
theorem d_Branches_order_106 : decode prog_2_method_3_code 106 = .ok (.ishr, 1) := by decide +kernel
theorem d_Branches_order_107 : decode prog_2_method_3_code 107 = .ok (.iconst 1, 1) := by decide +kernel
theorem d_Branches_order_108 : decode prog_2_method_3_code 108 = .ok (.iand, 1) := by decide +kernel
theorem d_Branches_order_109 : decode prog_2_method_3_code 109 = .ok (.ifCond .eq 6, 3) := by decide +kernel
theorem d_Branches_order_112 : decode prog_2_method_3_code 112 = .ok (.goto 74, 3) := by decide +kernel
theorem d_Branches_order_115 : decode prog_2_method_3_code 115 = .ok (.aload_n 0, 1) := by decide +kernel
theorem d_Branches_order_116 : decode prog_2_method_3_code 116 = .ok (.getfield 11, 3) := by decide +kernel
theorem d_Branches_order_119 : decode prog_2_method_3_code 119 = .ok (.iload_n 1, 1) := by decide +kernel
theorem d_Branches_order_120 : decode prog_2_method_3_code 120 = .ok (.iconst 1, 1) := by decide +kernel
theorem d_Branches_order_121 : decode prog_2_method_3_code 121 = .ok (.iadd, 1) := by decide +kernel
theorem d_Branches_order_122 : decode prog_2_method_3_code 122 = .ok (.aaload, 1) := by decide +kernel
theorem d_Branches_order_123 : decode prog_2_method_3_code 123 = .ok (.astore 6, 2) := by decide +kernel
theorem d_Branches_order_125 : decode prog_2_method_3_code 125 = .ok (.aload 6, 2) := by decide +kernel
theorem d_Branches_order_127 : decode prog_2_method_3_code 127 = .ok (.aload 4, 2) := by decide +kernel
theorem d_Branches_order_129 : decode prog_2_method_3_code 129 = .ok (.invokevirtual 73, 3) := by decide +kernel
theorem d_Branches_order_132 : decode prog_2_method_3_code 132 = .ok (.aload_n 0, 1) := by decide +kernel
theorem d_Branches_order_133 : decode prog_2_method_3_code 133 = .ok (.getfield 66, 3) := by decide +kernel
theorem d_Branches_order_136 : decode prog_2_method_3_code 136 = .ok (.iload 5, 2) := by decide +kernel
theorem d_Branches_order_138 : decode prog_2_method_3_code 138 = .ok (.aload 6, 2) := by decide +kernel
theorem d_Branches_order_140 : decode prog_2_method_3_code 140 = .ok (.getfield 99, 3) := by decide +kernel
theorem d_Branches_order_143 : decode prog_2_method_3_code 143 = .ok (.aload_n 0, 1) := by decide +kernel
theorem d_Branches_order_144 : decode prog_2_method_3_code 144 = .ok (.getfield 17, 3) := by decide +kernel
theorem d_Branches_order_147 : decode prog_2_method_3_code 147 = .ok (.invokevirtual 102, 3) := by decide +kernel
theorem d_Branches_order_150 : decode prog_2_method_3_code 150 = .ok (.aload_n 0, 1) := by decide +kernel
theorem d_Branches_order_151 : decode prog_2_method_3_code 151 = .ok (.getfield 66, 3) := by decide +kernel
theorem d_Branches_order_154 : decode prog_2_method_3_code 154 = .ok (.aload 6, 2) := by decide +kernel
theorem d_Branches_order_156 : decode prog_2_method_3_code 156 = .ok (.invokevirtual 105, 3) := by decide +kernel
theorem d_Branches_order_159 : decode prog_2_method_3_code 159 = .ok (.aload_n 0, 1) := by decide +kernel
theorem d_Branches_order_160 : decode prog_2_method_3_code 160 = .ok (.getfield 66, 3) := by decide +kernel
theorem d_Branches_order_163 : decode prog_2_method_3_code 163 = .ok (.invokevirtual 108, 3) := by decide +kernel
theorem d_Branches_order_166 : decode prog_2_method_3_code 166 = .ok (.aload_n 0, 1) := by decide +kernel
theorem d_Branches_order_167 : decode prog_2_method_3_code 167 = .ok (.iload_n 1, 1) := by decide +kernel
theorem d_Branches_order_168 : decode prog_2_method_3_code 168 = .ok (.iconst 1, 1) := by decide +kernel
theorem d_Branches_order_169 : decode prog_2_method_3_code 169 = .ok (.iadd, 1) := by decide +kernel
theorem d_Branches_order_170 : decode prog_2_method_3_code 170 = .ok (.iload_n 2, 1) := by decide +kernel
theorem d_Branches_order_171 : decode prog_2_method_3_code 171 = .ok (.iconst 1, 1) := by decide +kernel
theorem d_Branches_order_172 : decode prog_2_method_3_code 172 = .ok (.iload 5, 2) := by decide +kernel
theorem d_Branches_order_174 : decode prog_2_method_3_code 174 = .ok (.ishl, 1) := by decide +kernel
theorem d_Branches_order_175 : decode prog_2_method_3_code 175 = .ok (.ior, 1) := by decide +kernel
theorem d_Branches_order_176 : decode prog_2_method_3_code 176 = .ok (.iload_n 3, 1) := by decide +kernel
theorem d_Branches_order_177 : decode prog_2_method_3_code 177 = .ok (.bipush 10, 2) := by decide +kernel
theorem d_Branches_order_179 : decode prog_2_method_3_code 179 = .ok (.imul, 1) := by decide +kernel
theorem d_Branches_order_180 : decode prog_2_method_3_code 180 = .ok (.iload 5, 2) := by decide +kernel
theorem d_Branches_order_182 : decode prog_2_method_3_code 182 = .ok (.iadd, 1) := by decide +kernel
theorem d_Branches_order_183 : decode prog_2_method_3_code 183 = .ok (.invokevirtual 77, 3) := by decide +kernel
theorem d_Branches_order_186 : decode prog_2_method_3_code 186 = .ok (.iinc 5 1, 3) := by decide +kernel
theorem d_Branches_order_189 : decode prog_2_method_3_code 189 = .ok (.goto (-98), 3) := by decide +kernel
theorem d_Branches_order_192 : decode prog_2_method_3_code 192 = .ok (.return_, 1) := by decide +kernel
def s_Branches_order_9 (rf : Int32 → Int32 → Int32 → LH → Option (LH)) (p0 : Int32) (p1 : Int32) (p2 : Int32) (σ : LH) : Option (LH) :=
  some σ
theorem b_Branches_order_9 {G : XG} {l : Launch} {p : Program} {e : Env} {R : Room} {s : State} {m : MethodId} {args : Array Value} {below : List Frame} {meth : Method} {c : Code} (C : XC G 1 570 p s m args c prog_2_method_3_code 7 R_Branches) (hr : meth.sig.returnType = none) (hk : meth.locks = false) {d dr : Nat} (hd : dr + 1 ≤ d + 1) (hd2 : 6 ≤ d + 1) (hR : xroom R (d + 1)) {rf : Int32 → Int32 → Int32 → LH → Option (LH)} (hrf : ∀ (p0 : Int32) (p1 : Int32) (p2 : Int32) (σ : LH) (σ' : LH), rf p0 p1 p2 σ = some σ' → ∀ d, dr ≤ d → xM G 1 570 l y_Branches_order prog_2_method_3_code 7 none d [.ref (G.2.2.1 + 81), .int p0, .int p1, .int p2] σ none σ') {p0 : Int32} {p1 : Int32} {p2 : Int32} {σ' : LH} {σ : LH} (h0 : s_Branches_order_9 rf p0 p1 p2 σ = some σ') : XJ G 1 570 p l e R s m args below meth c 7 (XQ G 1 570 below args s none σ') 0 0 9 [] [] σ := by
  replace h0 := (show _ = _ from h0)
  unfold s_Branches_order_9 at h0
  exact x_vret C hr hk h0 d_Branches_order_9
def s_Branches_order_186 (rf : Int32 → Int32 → Int32 → LH → Option (LH)) (p0 : Int32) (p1 : Int32) (p2 : Int32) (rec91 : Nat → Int32 → LH → Option (LH)) (y4 : Nat) (y5 : Int32) (σ : LH) : Option (LH) :=
  xl ((y5 + 1) : Int32) fun x20 =>
  rec91 y4 x20 σ
theorem b_Branches_order_186 {G : XG} {l : Launch} {p : Program} {e : Env} {R : Room} {s : State} {m : MethodId} {args : Array Value} {below : List Frame} {meth : Method} {c : Code} (C : XC G 1 570 p s m args c prog_2_method_3_code 7 R_Branches) (hr : meth.sig.returnType = none) (hk : meth.locks = false) {d dr : Nat} (hd : dr + 1 ≤ d + 1) (hd2 : 6 ≤ d + 1) (hR : xroom R (d + 1)) {rf : Int32 → Int32 → Int32 → LH → Option (LH)} (hrf : ∀ (p0 : Int32) (p1 : Int32) (p2 : Int32) (σ : LH) (σ' : LH), rf p0 p1 p2 σ = some σ' → ∀ d, dr ≤ d → xM G 1 570 l y_Branches_order prog_2_method_3_code 7 none d [.ref (G.2.2.1 + 81), .int p0, .int p1, .int p2] σ none σ') {p0 : Int32} {p1 : Int32} {p2 : Int32} {rec91 : Nat → Int32 → LH → Option (LH)} {σ' : LH} (hrec91 : ∀ (y4 : Nat) (y5 : Int32) (σ : LH), y4 ∈ xHalls → rec91 y4 y5 σ = some σ' → XJ G 1 570 p l e R s m args below meth c 7 (XQ G 1 570 below args s none σ') 0 0 91 [(0, .ref (G.2.2.1 + 81)), (1, .int p0), (2, .int p1), (3, .int p2), (4, .ref (G.2.2.1 + y4)), (5, .int y5)] [] σ) {y4 : Nat} {y5 : Int32} {σ : LH} (hy4 : y4 ∈ xHalls) (h0 : s_Branches_order_186 rf p0 p1 p2 rec91 y4 y5 σ = some σ') : XJ G 1 570 p l e R s m args below meth c 7 (XQ G 1 570 below args s none σ') 0 0 186 [(0, .ref (G.2.2.1 + 81)), (1, .int p0), (2, .int p1), (3, .int p2), (4, .ref (G.2.2.1 + y4)), (5, .int y5)] [] σ := by
  replace h0 := (show _ = _ from h0)
  unfold s_Branches_order_186 at h0
  obtain ⟨x20, ex20, h0⟩ := xlet h0
  refine x_iinc (lv' := [(5, .int x20), (0, .ref (G.2.2.1 + 81)), (1, .int p0), (2, .int p1), (3, .int p2), (4, .ref (G.2.2.1 + y4))]) C d_Branches_order_186 5 rfl ex20 (by decide) rfl ?_
  refine x_goto C 91 d_Branches_order_189 (by decide) ?_
  exact x_lv C [1, 2, 3, 4, 5, 0] rfl (hrec91 _ _ _ hy4 h0)
def s_Branches_order_91_b (rf : Int32 → Int32 → Int32 → LH → Option (LH)) (p0 : Int32) (p1 : Int32) (p2 : Int32) (rec91 : Nat → Int32 → LH → Option (LH)) (y4 : Nat) (y5 : Int32) (σ : LH) : Option (LH) :=
  if (σ.1 4 1) ≤ y5 then (
   some σ)
  else (
   if ((p1 >>> (y5 &&& 31)) &&& 1) = 0 then (
    if ib (p0 + 1) 11 then (
    xl ((96 + 9 * (Int32.toNatClampNeg (p0 + 1))) : Nat) fun h9 =>
    xb1 (s_Hall_beginAs h9 y4 σ) fun σ11 =>
    xb1 (s_Evening_addGoing y5 (σ11.1 h9 7) (σ11.1 81 5) σ11) fun σ13 =>
    xb1 (s_Evening_pass h9 σ13) fun σ15 =>
    xb1 (s_Evening_dropGoing σ15) fun σ17 =>
    xb1 (rf (p0 + 1) (p1 ||| (1 <<< (y5 &&& 31))) ((p2 * 10) + y5) σ17) fun σ19 =>
    s_Branches_order_186 rf p0 p1 p2 rec91 y4 y5 σ19) else none)
   else (
    s_Branches_order_186 rf p0 p1 p2 rec91 y4 y5 σ))
def s_Branches_order_91 (rf : Int32 → Int32 → Int32 → LH → Option (LH)) (p0 : Int32) (p1 : Int32) (p2 : Int32) : Nat → Nat → Int32 → LH → Option (LH)
  | 0, _, _, _ => none
  | n + 1, y4, y5, σ => s_Branches_order_91_b rf p0 p1 p2 (s_Branches_order_91 rf p0 p1 p2 n) y4 y5 σ
theorem bb_Branches_order_91 {G : XG} {l : Launch} {p : Program} {e : Env} {R : Room} {s : State} {m : MethodId} {args : Array Value} {below : List Frame} {meth : Method} {c : Code} (C : XC G 1 570 p s m args c prog_2_method_3_code 7 R_Branches) (hr : meth.sig.returnType = none) (hk : meth.locks = false) {d dr : Nat} (hd : dr + 1 ≤ d + 1) (hd2 : 6 ≤ d + 1) (hR : xroom R (d + 1)) {rf : Int32 → Int32 → Int32 → LH → Option (LH)} (hrf : ∀ (p0 : Int32) (p1 : Int32) (p2 : Int32) (σ : LH) (σ' : LH), rf p0 p1 p2 σ = some σ' → ∀ d, dr ≤ d → xM G 1 570 l y_Branches_order prog_2_method_3_code 7 none d [.ref (G.2.2.1 + 81), .int p0, .int p1, .int p2] σ none σ') {p0 : Int32} {p1 : Int32} {p2 : Int32} {rec91 : Nat → Int32 → LH → Option (LH)} {σ' : LH} (hrec91 : ∀ (y4 : Nat) (y5 : Int32) (σ : LH), y4 ∈ xHalls → rec91 y4 y5 σ = some σ' → XJ G 1 570 p l e R s m args below meth c 7 (XQ G 1 570 below args s none σ') 0 0 91 [(0, .ref (G.2.2.1 + 81)), (1, .int p0), (2, .int p1), (3, .int p2), (4, .ref (G.2.2.1 + y4)), (5, .int y5)] [] σ) {y4 : Nat} {y5 : Int32} {σ : LH} (hy4 : y4 ∈ xHalls) (h0 : s_Branches_order_91_b rf p0 p1 p2 rec91 y4 y5 σ = some σ') : XJ G 1 570 p l e R s m args below meth c 7 (XQ G 1 570 below args s none σ') 0 0 91 [(0, .ref (G.2.2.1 + 81)), (1, .int p0), (2, .int p1), (3, .int p2), (4, .ref (G.2.2.1 + y4)), (5, .int y5)] [] σ := by
  replace h0 := (show _ = _ from h0)
  unfold s_Branches_order_91_b at h0
  refine x_iload C d_Branches_order_91 5 rfl ?_
  refine x_aload_n C d_Branches_order_93 0 rfl ?_
  refine x_getA (y := 4) C fg_Branches_58 k_81 rfl d_Branches_order_94 ?_
  refine x_getI (y := 0) C fg_Branches_81 k_4 rfl d_Branches_order_97 ?_
  refine x_icmp_ge C 192 d_Branches_order_100 (by decide) (fun q6 => ?_) (fun q6 => ?_)
  · replace h0 := xit q6 h0
    exact x_vret C hr hk h0 d_Branches_order_192
  · replace h0 := xif q6 h0
    refine x_iload_n C d_Branches_order_103 2 rfl ?_
    refine x_iload C d_Branches_order_104 5 rfl ?_
    refine x_ishr C d_Branches_order_106 ?_
    refine x_iconst (v := 1) C d_Branches_order_107 (by decide) ?_
    refine x_iand C d_Branches_order_108 ?_
    refine x_if_eq C 115 d_Branches_order_109 (by decide) (fun q7 => ?_) (fun q7 => ?_)
    · replace h0 := xit q7 h0
      refine x_aload_n C d_Branches_order_115 0 rfl ?_
      refine x_getA (y := 82) C fg_Branches_11 k_81 rfl d_Branches_order_116 ?_
      refine x_iload_n C d_Branches_order_119 1 rfl ?_
      refine x_iconst (v := 1) C d_Branches_order_120 (by decide) ?_
      refine x_iadd C d_Branches_order_121 ?_
      obtain ⟨g8, h0⟩ := xgo h0
      refine x_hald C k_82 (ib_in g8) d_Branches_order_122 ?_
      obtain ⟨h9, eh9, h0⟩ := xlet h0
      refine x_nameR C eh9 ?_
      have hh9 : h9 ∈ xHalls := by rw [eh9]; exact ways_in g8
      refine x_astore (lv' := [(6, .ref (G.2.2.1 + h9)), (0, .ref (G.2.2.1 + 81)), (1, .int p0), (2, .int p1), (3, .int p2), (4, .ref (G.2.2.1 + y4)), (5, .int y5)]) C d_Branches_order_123 (by decide) rfl ?_
      refine x_aload C d_Branches_order_125 0 rfl ?_
      refine x_aload C d_Branches_order_127 5 rfl ?_
      obtain ⟨σ11, k10, h0⟩ := xbind1 h0
      refine x_callVv C hR (c_Hall_beginAs (d := d) (by omega) hh9 hy4 k10) cw_Branches_73 (hl_0 hh9) rfl rfl rfl (Nat.le_of_ble_eq_true rfl) ⟨Nat.zero_le _, Nat.zero_le _⟩ d_Branches_order_129 ?_
      refine x_aload_n C d_Branches_order_132 1 rfl ?_
      refine x_getA (y := 38) C fg_Branches_66 k_81 rfl d_Branches_order_133 ?_
      refine x_iload C d_Branches_order_136 6 rfl ?_
      refine x_aload C d_Branches_order_138 0 rfl ?_
      refine x_getI (y := 0) C fg_Branches_99 (hl_0 hh9) rfl d_Branches_order_140 ?_
      refine x_aload_n C d_Branches_order_143 1 rfl ?_
      refine x_getI (y := 0) C fg_Branches_17 k_81 rfl d_Branches_order_144 ?_
      obtain ⟨σ13, k12, h0⟩ := xbind1 h0
      refine x_callVv C hR (c_Evening_addGoing (d := d) (by omega) k12) cw_Branches_102 k_38 rfl rfl rfl (Nat.le_of_ble_eq_true rfl) ⟨Nat.zero_le _, Nat.zero_le _⟩ d_Branches_order_147 ?_
      refine x_aload_n C d_Branches_order_150 1 rfl ?_
      refine x_getA (y := 38) C fg_Branches_66 k_81 rfl d_Branches_order_151 ?_
      refine x_aload C d_Branches_order_154 0 rfl ?_
      obtain ⟨σ15, k14, h0⟩ := xbind1 h0
      refine x_callVv C hR (c_Evening_pass (d := d) (by omega) hh9 k14) cw_Branches_105 k_38 rfl rfl rfl (Nat.le_of_ble_eq_true rfl) ⟨Nat.zero_le _, Nat.zero_le _⟩ d_Branches_order_156 ?_
      refine x_aload_n C d_Branches_order_159 1 rfl ?_
      refine x_getA (y := 38) C fg_Branches_66 k_81 rfl d_Branches_order_160 ?_
      obtain ⟨σ17, k16, h0⟩ := xbind1 h0
      refine x_callVv C hR (c_Evening_dropGoing (d := d) (by omega) k16) cw_Branches_108 k_38 rfl rfl rfl (Nat.le_of_ble_eq_true rfl) ⟨Nat.zero_le _, Nat.zero_le _⟩ d_Branches_order_163 ?_
      refine x_aload_n C d_Branches_order_166 1 rfl ?_
      refine x_iload_n C d_Branches_order_167 2 rfl ?_
      refine x_iconst (v := 1) C d_Branches_order_168 (by decide) ?_
      refine x_iadd C d_Branches_order_169 ?_
      refine x_iload_n C d_Branches_order_170 3 rfl ?_
      refine x_iconst (v := 1) C d_Branches_order_171 (by decide) ?_
      refine x_iload C d_Branches_order_172 6 rfl ?_
      refine x_ishl C d_Branches_order_174 ?_
      refine x_ior C d_Branches_order_175 ?_
      refine x_iload_n C d_Branches_order_176 4 rfl ?_
      refine x_bipush (v := 10) C d_Branches_order_177 (by decide) ?_
      refine x_imul C d_Branches_order_179 ?_
      refine x_iload C d_Branches_order_180 6 rfl ?_
      refine x_iadd C d_Branches_order_182 ?_
      obtain ⟨σ19, k18, h0⟩ := xbind1 h0
      refine x_callVv C hR (hrf _ _ _ _ _ k18 d (by omega)) cw_Branches_77 k_81 rfl rfl rfl (Nat.le_of_ble_eq_true rfl) ⟨Nat.zero_le _, Nat.zero_le _⟩ d_Branches_order_183 ?_
      exact x_lv C [1, 2, 3, 4, 5, 6] rfl (b_Branches_order_186 C hr hk hd hd2 hR hrf hrec91 hy4 h0)
    · replace h0 := xif q7 h0
      refine x_goto C 186 d_Branches_order_112 (by decide) ?_
      exact x_lv C [0, 1, 2, 3, 4, 5] rfl (b_Branches_order_186 C hr hk hd hd2 hR hrf hrec91 hy4 h0)
theorem b_Branches_order_91 {G : XG} {l : Launch} {p : Program} {e : Env} {R : Room} {s : State} {m : MethodId} {args : Array Value} {below : List Frame} {meth : Method} {c : Code} (C : XC G 1 570 p s m args c prog_2_method_3_code 7 R_Branches) (hr : meth.sig.returnType = none) (hk : meth.locks = false) {d dr : Nat} (hd : dr + 1 ≤ d + 1) (hd2 : 6 ≤ d + 1) (hR : xroom R (d + 1)) {rf : Int32 → Int32 → Int32 → LH → Option (LH)} (hrf : ∀ (p0 : Int32) (p1 : Int32) (p2 : Int32) (σ : LH) (σ' : LH), rf p0 p1 p2 σ = some σ' → ∀ d, dr ≤ d → xM G 1 570 l y_Branches_order prog_2_method_3_code 7 none d [.ref (G.2.2.1 + 81), .int p0, .int p1, .int p2] σ none σ') {p0 : Int32} {p1 : Int32} {p2 : Int32} {σ' : LH} : ∀ (n : Nat) (y4 : Nat) (y5 : Int32) (σ : LH), y4 ∈ xHalls → s_Branches_order_91 rf p0 p1 p2 n y4 y5 σ = some σ' → XJ G 1 570 p l e R s m args below meth c 7 (XQ G 1 570 below args s none σ') 0 0 91 [(0, .ref (G.2.2.1 + 81)), (1, .int p0), (2, .int p1), (3, .int p2), (4, .ref (G.2.2.1 + y4)), (5, .int y5)] [] σ := by
  intro n
  induction n with
  | zero => intro y4 y5 σ hqy4 h0; cases h0
  | succ n ih => intro y4 y5 σ hqy4 h0; exact bb_Branches_order_91 C hr hk hd hd2 hR hrf ih hqy4 h0
def s_Branches_order_87 (rf : Int32 → Int32 → Int32 → LH → Option (LH)) (p0 : Int32) (p1 : Int32) (p2 : Int32) (σ : LH) : Option (LH) :=
  some σ
theorem b_Branches_order_87 {G : XG} {l : Launch} {p : Program} {e : Env} {R : Room} {s : State} {m : MethodId} {args : Array Value} {below : List Frame} {meth : Method} {c : Code} (C : XC G 1 570 p s m args c prog_2_method_3_code 7 R_Branches) (hr : meth.sig.returnType = none) (hk : meth.locks = false) {d dr : Nat} (hd : dr + 1 ≤ d + 1) (hd2 : 6 ≤ d + 1) (hR : xroom R (d + 1)) {rf : Int32 → Int32 → Int32 → LH → Option (LH)} (hrf : ∀ (p0 : Int32) (p1 : Int32) (p2 : Int32) (σ : LH) (σ' : LH), rf p0 p1 p2 σ = some σ' → ∀ d, dr ≤ d → xM G 1 570 l y_Branches_order prog_2_method_3_code 7 none d [.ref (G.2.2.1 + 81), .int p0, .int p1, .int p2] σ none σ') {p0 : Int32} {p1 : Int32} {p2 : Int32} {σ' : LH} {σ : LH} (h0 : s_Branches_order_87 rf p0 p1 p2 σ = some σ') : XJ G 1 570 p l e R s m args below meth c 7 (XQ G 1 570 below args s none σ') 0 0 87 [] [] σ := by
  replace h0 := (show _ = _ from h0)
  unfold s_Branches_order_87 at h0
  exact x_vret C hr hk h0 d_Branches_order_87
def s_Branches_order_76 (rf : Int32 → Int32 → Int32 → LH → Option (LH)) (p0 : Int32) (p1 : Int32) (p2 : Int32) (y5 : Int32) (σ : LH) : Option (LH) :=
  xl ((stI σ 81 7 y5) : LH) fun σ27 =>
  xl ((stI σ27 81 6 p2) : LH) fun σ28 =>
  s_Branches_order_87 rf p0 p1 p2 σ28
theorem b_Branches_order_76 {G : XG} {l : Launch} {p : Program} {e : Env} {R : Room} {s : State} {m : MethodId} {args : Array Value} {below : List Frame} {meth : Method} {c : Code} (C : XC G 1 570 p s m args c prog_2_method_3_code 7 R_Branches) (hr : meth.sig.returnType = none) (hk : meth.locks = false) {d dr : Nat} (hd : dr + 1 ≤ d + 1) (hd2 : 6 ≤ d + 1) (hR : xroom R (d + 1)) {rf : Int32 → Int32 → Int32 → LH → Option (LH)} (hrf : ∀ (p0 : Int32) (p1 : Int32) (p2 : Int32) (σ : LH) (σ' : LH), rf p0 p1 p2 σ = some σ' → ∀ d, dr ≤ d → xM G 1 570 l y_Branches_order prog_2_method_3_code 7 none d [.ref (G.2.2.1 + 81), .int p0, .int p1, .int p2] σ none σ') {p0 : Int32} {p1 : Int32} {p2 : Int32} {σ' : LH} {y5 : Int32} {σ : LH} (h0 : s_Branches_order_76 rf p0 p1 p2 y5 σ = some σ') : XJ G 1 570 p l e R s m args below meth c 7 (XQ G 1 570 below args s none σ') 0 0 76 [(0, .ref (G.2.2.1 + 81)), (3, .int p2), (5, .int y5)] [] σ := by
  replace h0 := (show _ = _ from h0)
  unfold s_Branches_order_76 at h0
  refine x_aload_n C d_Branches_order_76 0 rfl ?_
  refine x_iload C d_Branches_order_77 2 rfl ?_
  refine x_putI (y := 0) C fp_Branches_24 k_81 rfl rfl rfl d_Branches_order_79 ?_
  obtain ⟨σ27, eσ27, h0⟩ := xlet h0
  refine x_sig C eσ27 ?_
  refine x_aload_n C d_Branches_order_82 0 rfl ?_
  refine x_iload_n C d_Branches_order_83 1 rfl ?_
  refine x_putI (y := 0) C fp_Branches_21 k_81 rfl rfl rfl d_Branches_order_84 ?_
  obtain ⟨σ28, eσ28, h0⟩ := xlet h0
  refine x_sig C eσ28 ?_
  exact x_lv C [] rfl (b_Branches_order_87 C hr hk hd hd2 hR hrf h0)
def s_Branches_order_b (rf : Int32 → Int32 → Int32 → LH → Option (LH)) (p0 : Int32) (p1 : Int32) (p2 : Int32) (σ : LH) : Option (LH) :=
  if p0 < 0 then (
   s_Branches_order_9 rf p0 p1 p2 σ)
  else (
   if p0 ≤ 5 then (
    if ib p0 11 then (
    xl ((96 + 9 * (Int32.toNatClampNeg p0)) : Nat) fun h4 =>
    if p0 < (σ.1 4 1) then (
     s_Branches_order_91 rf p0 p1 p2 FUEL h4 0 σ)
    else (
     xb1 (s_Evening_run h4 (σ.1 4 15) σ) fun σ22 =>
     xb2 (s_Hall_gap h4 (σ22.1 4 1) σ22) fun r24 σ25 =>
     if (σ25.1 81 7) = (-1) then (
      s_Branches_order_76 rf p0 p1 p2 r24 σ25)
     else (
      if (σ25.1 81 7) ≤ r24 then (
       s_Branches_order_87 rf p0 p1 p2 σ25)
      else (
       s_Branches_order_76 rf p0 p1 p2 r24 σ25)))) else none)
   else (
    s_Branches_order_9 rf p0 p1 p2 σ))
def s_Branches_order : Nat → Int32 → Int32 → Int32 → LH → Option (LH)
  | 0, _, _, _, _ => none
  | n + 1, p0, p1, p2, σ => s_Branches_order_b (s_Branches_order n) p0 p1 p2 σ
theorem c_Branches_order_b {G : XG} {l : Launch} {d dr : Nat} {rf : Int32 → Int32 → Int32 → LH → Option (LH)} (hrf : ∀ (p0 : Int32) (p1 : Int32) (p2 : Int32) (σ : LH) (σ' : LH), rf p0 p1 p2 σ = some σ' → ∀ d, dr ≤ d → xM G 1 570 l y_Branches_order prog_2_method_3_code 7 none d [.ref (G.2.2.1 + 81), .int p0, .int p1, .int p2] σ none σ') (hd : dr + 1 ≤ d) (hd2 : 6 ≤ d) {p0 : Int32} {p1 : Int32} {p2 : Int32} {σ σ' : LH} (h0 : s_Branches_order_b rf p0 p1 p2 σ = some σ') : xM G 1 570 l y_Branches_order prog_2_method_3_code 7 none d [.ref (G.2.2.1 + 81), .int p0, .int p1, .int p2] σ none σ' := by
  obtain ⟨d, rfl⟩ : ∃ q, d = q + 1 := ⟨d - 1, by omega⟩
  refine x_met R_Branches rfl (by decide +kernel) (Nat.le_of_ble_eq_true rfl) fun p e s m below meth c C hr hk hR => ?_
  refine x_lv (lv' := [(0, .ref (G.2.2.1 + 81)), (1, .int p0), (2, .int p1), (3, .int p2)]) C [0, 1, 2, 3] rfl ?_
  generalize xrm (d + 1) = R at hR ⊢
  unfold s_Branches_order_b at h0
  refine x_iload_n C d_Branches_order_0 1 rfl ?_
  refine x_if_lt C 9 d_Branches_order_1 (by decide) (fun q1 => ?_) (fun q1 => ?_)
  · replace h0 := xit q1 h0
    exact x_lv C [] rfl (b_Branches_order_9 C hr hk hd hd2 hR hrf h0)
  · replace h0 := xif q1 h0
    refine x_iload_n C d_Branches_order_4 1 rfl ?_
    refine x_iconst (v := 5) C d_Branches_order_5 (by decide) ?_
    refine x_icmp_le C 10 d_Branches_order_6 (by decide) (fun q2 => ?_) (fun q2 => ?_)
    · replace h0 := xit q2 h0
      refine x_aload_n C d_Branches_order_10 0 rfl ?_
      refine x_getA (y := 82) C fg_Branches_11 k_81 rfl d_Branches_order_11 ?_
      refine x_iload_n C d_Branches_order_14 1 rfl ?_
      obtain ⟨g3, h0⟩ := xgo h0
      refine x_hald C k_82 (ib_in g3) d_Branches_order_15 ?_
      obtain ⟨h4, eh4, h0⟩ := xlet h0
      refine x_nameR C eh4 ?_
      have hh4 : h4 ∈ xHalls := by rw [eh4]; exact ways_in g3
      refine x_astore (lv' := [(4, .ref (G.2.2.1 + h4)), (0, .ref (G.2.2.1 + 81)), (1, .int p0), (2, .int p1), (3, .int p2)]) C d_Branches_order_16 (by decide) rfl ?_
      refine x_iload_n C d_Branches_order_18 2 rfl ?_
      refine x_aload_n C d_Branches_order_19 1 rfl ?_
      refine x_getA (y := 4) C fg_Branches_58 k_81 rfl d_Branches_order_20 ?_
      refine x_getI (y := 0) C fg_Branches_81 k_4 rfl d_Branches_order_23 ?_
      refine x_icmp_lt C 88 d_Branches_order_26 (by decide) (fun q5 => ?_) (fun q5 => ?_)
      · replace h0 := xit q5 h0
        refine x_iconst (v := 0) C d_Branches_order_88 (by decide) ?_
        refine x_istore (lv' := [(5, .int 0), (4, .ref (G.2.2.1 + h4)), (0, .ref (G.2.2.1 + 81)), (1, .int p0), (2, .int p1), (3, .int p2)]) C d_Branches_order_89 (by decide) rfl ?_
        exact x_lv C [2, 3, 4, 5, 1, 0] rfl (b_Branches_order_91 C hr hk hd hd2 hR hrf FUEL _ _ _ hh4 h0)
      · replace h0 := xif q5 h0
        refine x_aload_n C d_Branches_order_29 1 rfl ?_
        refine x_getA (y := 38) C fg_Branches_66 k_81 rfl d_Branches_order_30 ?_
        refine x_aload C d_Branches_order_33 0 rfl ?_
        refine x_aload_n C d_Branches_order_35 1 rfl ?_
        refine x_getA (y := 4) C fg_Branches_58 k_81 rfl d_Branches_order_36 ?_
        refine x_getI (y := 0) C fg_Branches_86 k_4 rfl d_Branches_order_39 ?_
        obtain ⟨σ22, k21, h0⟩ := xbind1 h0
        refine x_callVv C hR (c_Evening_run (d := d) (by omega) hh4 k21) cw_Branches_89 k_38 rfl rfl rfl (Nat.le_of_ble_eq_true rfl) ⟨Nat.zero_le _, Nat.zero_le _⟩ d_Branches_order_42 ?_
        refine x_aload C d_Branches_order_45 0 rfl ?_
        refine x_aload_n C d_Branches_order_47 1 rfl ?_
        refine x_getA (y := 4) C fg_Branches_58 k_81 rfl d_Branches_order_48 ?_
        refine x_getI (y := 0) C fg_Branches_81 k_4 rfl d_Branches_order_51 ?_
        obtain ⟨r24, σ25, k23, h0⟩ := xbind2 h0
        refine x_callVi C hR (c_Hall_gap (d := d) (by omega) hh4 k23) cw_Branches_95 (hl_0 hh4) rfl rfl rfl (Nat.le_of_ble_eq_true rfl) ⟨Nat.zero_le _, Nat.zero_le _⟩ d_Branches_order_54 ?_
        refine x_istore (lv' := [(5, .int r24), (4, .ref (G.2.2.1 + h4)), (0, .ref (G.2.2.1 + 81)), (1, .int p0), (2, .int p1), (3, .int p2)]) C d_Branches_order_57 (by decide) rfl ?_
        refine x_aload_n C d_Branches_order_59 2 rfl ?_
        refine x_getI (y := 0) C fg_Branches_24 k_81 rfl d_Branches_order_60 ?_
        refine x_iconst (v := (-1)) C d_Branches_order_63 (by decide) ?_
        refine x_icmp_eq C 76 d_Branches_order_64 (by decide) (fun q26 => ?_) (fun q26 => ?_)
        · replace h0 := xit q26 h0
          exact x_lv C [2, 5, 0] rfl (b_Branches_order_76 C hr hk hd hd2 hR hrf h0)
        · replace h0 := xif q26 h0
          refine x_iload C d_Branches_order_67 0 rfl ?_
          refine x_aload_n C d_Branches_order_69 2 rfl ?_
          refine x_getI (y := 0) C fg_Branches_24 k_81 rfl d_Branches_order_70 ?_
          refine x_icmp_ge C 87 d_Branches_order_73 (by decide) (fun q29 => ?_) (fun q29 => ?_)
          · replace h0 := xit q29 h0
            exact x_lv C [] rfl (b_Branches_order_87 C hr hk hd hd2 hR hrf h0)
          · replace h0 := xif q29 h0
            exact x_lv C [2, 5, 0] rfl (b_Branches_order_76 C hr hk hd hd2 hR hrf h0)
    · replace h0 := xif q2 h0
      exact x_lv C [] rfl (b_Branches_order_9 C hr hk hd hd2 hR hrf h0)
theorem h_Branches_order_n {G : XG} {l : Launch} : ∀ (n : Nat) (p0 : Int32) (p1 : Int32) (p2 : Int32) (σ : LH) (σ' : LH), s_Branches_order n p0 p1 p2 σ = some σ' → ∀ d, 1 * n + 6 ≤ d → xM G 1 570 l y_Branches_order prog_2_method_3_code 7 none d [.ref (G.2.2.1 + 81), .int p0, .int p1, .int p2] σ none σ' := by
  intro n
  induction n with
  | zero => intro p0 p1 p2 σ σ' h0; cases h0
  | succ n ih => intro p0 p1 p2 σ σ' h0 d hd; exact c_Branches_order_b (dr := 1 * n + 6) ih (by omega) (by omega) h0
theorem h_Branches_order {G : XG} {l : Launch} : ∀ (p0 : Int32) (p1 : Int32) (p2 : Int32) (σ : LH) (σ' : LH), s_Branches_order RF p0 p1 p2 σ = some σ' → ∀ d, 22 ≤ d → xM G 1 570 l y_Branches_order prog_2_method_3_code 7 none d [.ref (G.2.2.1 + 81), .int p0, .int p1, .int p2] σ none σ' := h_Branches_order_n RF
theorem c_Branches_order {G : XG} {l : Launch} {d : Nat} (hd : 22 ≤ d) {p0 : Int32} {p1 : Int32} {p2 : Int32} {σ σ' : LH} (h0 : s_Branches_order RF p0 p1 p2 σ = some σ') : xM G 1 570 l y_Branches_order prog_2_method_3_code 7 none d [.ref (G.2.2.1 + 81), .int p0, .int p1, .int p2] σ none σ' := h_Branches_order _ _ _ _ _ h0 d hd
-- LostPlaces$Branches.findOrder(I)V
theorem d_Branches_findOrder_0 : decode prog_2_method_2_code 0 = .ok (.aload_n 0, 1) := by decide +kernel
theorem d_Branches_findOrder_1 : decode prog_2_method_2_code 1 = .ok (.iload_n 1, 1) := by decide +kernel
theorem d_Branches_findOrder_2 : decode prog_2_method_2_code 2 = .ok (.putfield 17, 3) := by decide +kernel
theorem d_Branches_findOrder_5 : decode prog_2_method_2_code 5 = .ok (.aload_n 0, 1) := by decide +kernel
theorem d_Branches_findOrder_6 : decode prog_2_method_2_code 6 = .ok (.iconst (-1), 1) := by decide +kernel
theorem d_Branches_findOrder_7 : decode prog_2_method_2_code 7 = .ok (.putfield 24, 3) := by decide +kernel
theorem d_Branches_findOrder_10 : decode prog_2_method_2_code 10 = .ok (.aload_n 0, 1) := by decide +kernel
theorem d_Branches_findOrder_11 : decode prog_2_method_2_code 11 = .ok (.getfield 11, 3) := by decide +kernel
theorem d_Branches_findOrder_14 : decode prog_2_method_2_code 14 = .ok (.iconst 0, 1) := by decide +kernel
theorem d_Branches_findOrder_15 : decode prog_2_method_2_code 15 = .ok (.aaload, 1) := by decide +kernel
theorem d_Branches_findOrder_16 : decode prog_2_method_2_code 16 = .ok (.aload_n 0, 1) := by decide +kernel
theorem d_Branches_findOrder_17 : decode prog_2_method_2_code 17 = .ok (.getfield 70, 3) := by decide +kernel
theorem d_Branches_findOrder_20 : decode prog_2_method_2_code 20 = .ok (.invokevirtual 73, 3) := by decide +kernel
theorem d_Branches_findOrder_23 : decode prog_2_method_2_code 23 = .ok (.aload_n 0, 1) := by decide +kernel
theorem d_Branches_findOrder_24 : decode prog_2_method_2_code 24 = .ok (.iconst 0, 1) := by decide +kernel
theorem d_Branches_findOrder_25 : decode prog_2_method_2_code 25 = .ok (.iconst 0, 1) := by decide +kernel
theorem d_Branches_findOrder_26 : decode prog_2_method_2_code 26 = .ok (.iconst 0, 1) := by decide +kernel
theorem d_Branches_findOrder_27 : decode prog_2_method_2_code 27 = .ok (.invokevirtual 77, 3) := by decide +kernel
theorem d_Branches_findOrder_30 : decode prog_2_method_2_code 30 = .ok (.return_, 1) := by decide +kernel
def s_Branches_findOrder (p0 : Int32) (σ : LH) : Option (LH) :=
  xl ((stI σ 81 5 p0) : LH) fun σ1 =>
  xl ((stI σ1 81 7 (-1)) : LH) fun σ2 =>
  if ib 0 11 then (
  xl ((96 + 9 * (Int32.toNatClampNeg 0)) : Nat) fun h4 =>
  xb1 (s_Hall_beginAs h4 39 σ2) fun σ6 =>
  xb1 (s_Branches_order RF 0 0 0 σ6) fun σ8 =>
  some σ8) else none
theorem c_Branches_findOrder {G : XG} {l : Launch} {d : Nat} (hd : 23 ≤ d) {p0 : Int32} {σ σ' : LH} (h0 : s_Branches_findOrder p0 σ = some σ') : xM G 1 570 l y_Branches_findOrder prog_2_method_2_code 2 none d [.ref (G.2.2.1 + 81), .int p0] σ none σ' := by
  obtain ⟨d, rfl⟩ : ∃ q, d = q + 1 := ⟨d - 1, by omega⟩
  refine x_met R_Branches rfl (by decide +kernel) (Nat.le_of_ble_eq_true rfl) fun p e s m below meth c C hr hk hR => ?_
  refine x_lv (lv' := [(0, .ref (G.2.2.1 + 81)), (1, .int p0)]) C [0, 1] rfl ?_
  generalize xrm (d + 1) = R at hR ⊢
  unfold s_Branches_findOrder at h0
  refine x_aload_n C d_Branches_findOrder_0 0 rfl ?_
  refine x_iload_n C d_Branches_findOrder_1 1 rfl ?_
  refine x_putI (y := 0) C fp_Branches_17 k_81 rfl rfl rfl d_Branches_findOrder_2 ?_
  obtain ⟨σ1, eσ1, h0⟩ := xlet h0
  refine x_sig C eσ1 ?_
  refine x_aload_n C d_Branches_findOrder_5 0 rfl ?_
  refine x_iconst (v := (-1)) C d_Branches_findOrder_6 (by decide) ?_
  refine x_putI (y := 0) C fp_Branches_24 k_81 rfl rfl rfl d_Branches_findOrder_7 ?_
  obtain ⟨σ2, eσ2, h0⟩ := xlet h0
  refine x_sig C eσ2 ?_
  refine x_aload_n C d_Branches_findOrder_10 0 rfl ?_
  refine x_getA (y := 82) C fg_Branches_11 k_81 rfl d_Branches_findOrder_11 ?_
  refine x_iconst (v := 0) C d_Branches_findOrder_14 (by decide) ?_
  obtain ⟨g3, h0⟩ := xgo h0
  refine x_hald C k_82 (ib_in g3) d_Branches_findOrder_15 ?_
  obtain ⟨h4, eh4, h0⟩ := xlet h0
  refine x_nameR C eh4 ?_
  have hh4 : h4 ∈ xHalls := by rw [eh4]; exact ways_in g3
  refine x_aload_n C d_Branches_findOrder_16 0 rfl ?_
  refine x_getA (y := 39) C fg_Branches_70 k_81 rfl d_Branches_findOrder_17 ?_
  obtain ⟨σ6, k5, h0⟩ := xbind1 h0
  refine x_callVv C hR (c_Hall_beginAs (d := d) (by omega) hh4 (show 39 ∈ xHalls by decide) k5) cw_Branches_73 (hl_0 hh4) rfl rfl rfl (Nat.le_of_ble_eq_true rfl) ⟨Nat.zero_le _, Nat.zero_le _⟩ d_Branches_findOrder_20 ?_
  refine x_aload_n C d_Branches_findOrder_23 0 rfl ?_
  refine x_iconst (v := 0) C d_Branches_findOrder_24 (by decide) ?_
  refine x_iconst (v := 0) C d_Branches_findOrder_25 (by decide) ?_
  refine x_iconst (v := 0) C d_Branches_findOrder_26 (by decide) ?_
  obtain ⟨σ8, k7, h0⟩ := xbind1 h0
  refine x_callVv C hR (c_Branches_order (d := d) (by omega) k7) cw_Branches_77 k_81 rfl rfl rfl (Nat.le_of_ble_eq_true rfl) ⟨Nat.zero_le _, Nat.zero_le _⟩ d_Branches_findOrder_27 ?_
  exact x_vret C hr hk h0 d_Branches_findOrder_30
-- LostPlaces.fair(II)I
theorem d_Main_fair_0 : decode prog_1_method_42_code 0 = .ok (.aload_n 0, 1) := by decide +kernel
theorem d_Main_fair_1 : decode prog_1_method_42_code 1 = .ok (.invokevirtual 317, 3) := by decide +kernel
theorem d_Main_fair_4 : decode prog_1_method_42_code 4 = .ok (.ifCond .eq 20, 3) := by decide +kernel
theorem d_Main_fair_7 : decode prog_1_method_42_code 7 = .ok (.iload_n 1, 1) := by decide +kernel
theorem d_Main_fair_8 : decode prog_1_method_42_code 8 = .ok (.iconst 1, 1) := by decide +kernel
theorem d_Main_fair_9 : decode prog_1_method_42_code 9 = .ok (.if_icmp .lt 15, 3) := by decide +kernel
theorem d_Main_fair_12 : decode prog_1_method_42_code 12 = .ok (.iload_n 1, 1) := by decide +kernel
theorem d_Main_fair_13 : decode prog_1_method_42_code 13 = .ok (.iconst 3, 1) := by decide +kernel
theorem d_Main_fair_14 : decode prog_1_method_42_code 14 = .ok (.if_icmp .gt 10, 3) := by decide +kernel
theorem d_Main_fair_17 : decode prog_1_method_42_code 17 = .ok (.iload_n 2, 1) := by decide +kernel
theorem d_Main_fair_18 : decode prog_1_method_42_code 18 = .ok (.invokestatic 283, 3) := by decide +kernel
theorem d_Main_fair_21 : decode prog_1_method_42_code 21 = .ok (.ifCond .eq 6, 3) := by decide +kernel
theorem d_Main_fair_24 : decode prog_1_method_42_code 24 = .ok (.ldc 226, 2) := by decide +kernel
theorem d_Main_fair_26 : decode prog_1_method_42_code 26 = .ok (.ireturn, 1) := by decide +kernel
theorem d_Main_fair_27 : decode prog_1_method_42_code 27 = .ok (.aload_n 0, 1) := by decide +kernel
theorem d_Main_fair_28 : decode prog_1_method_42_code 28 = .ok (.getfield 19, 3) := by decide +kernel
theorem d_Main_fair_31 : decode prog_1_method_42_code 31 = .ok (.getfield 157, 3) := by decide +kernel
theorem d_Main_fair_34 : decode prog_1_method_42_code 34 = .ok (.iconst 5, 1) := by decide +kernel
theorem d_Main_fair_35 : decode prog_1_method_42_code 35 = .ok (.if_icmp .gt 17, 3) := by decide +kernel
theorem d_Main_fair_38 : decode prog_1_method_42_code 38 = .ok (.aload_n 0, 1) := by decide +kernel
theorem d_Main_fair_39 : decode prog_1_method_42_code 39 = .ok (.invokevirtual 247, 3) := by decide +kernel
theorem d_Main_fair_42 : decode prog_1_method_42_code 42 = .ok (.aload_n 0, 1) := by decide +kernel
theorem d_Main_fair_43 : decode prog_1_method_42_code 43 = .ok (.getfield 19, 3) := by decide +kernel
theorem d_Main_fair_46 : decode prog_1_method_42_code 46 = .ok (.getfield 157, 3) := by decide +kernel
theorem d_Main_fair_49 : decode prog_1_method_42_code 49 = .ok (.if_icmp .ge 6, 3) := by decide +kernel
theorem d_Main_fair_52 : decode prog_1_method_42_code 52 = .ok (.ldc 226, 2) := by decide +kernel
theorem d_Main_fair_54 : decode prog_1_method_42_code 54 = .ok (.ireturn, 1) := by decide +kernel
theorem d_Main_fair_55 : decode prog_1_method_42_code 55 = .ok (.aload_n 0, 1) := by decide +kernel
theorem d_Main_fair_56 : decode prog_1_method_42_code 56 = .ok (.getfield 121, 3) := by decide +kernel
theorem d_Main_fair_59 : decode prog_1_method_42_code 59 = .ok (.iload_n 1, 1) := by decide +kernel
theorem d_Main_fair_60 : decode prog_1_method_42_code 60 = .ok (.invokevirtual 342, 3) := by decide +kernel
theorem d_Main_fair_63 : decode prog_1_method_42_code 63 = .ok (.iload_n 2, 1) := by decide +kernel
theorem d_Main_fair_64 : decode prog_1_method_42_code 64 = .ok (.ifCond .ne 13, 3) := by decide +kernel
theorem d_Main_fair_67 : decode prog_1_method_42_code 67 = .ok (.aload_n 0, 1) := by decide +kernel
theorem d_Main_fair_68 : decode prog_1_method_42_code 68 = .ok (.getfield 121, 3) := by decide +kernel
theorem d_Main_fair_71 : decode prog_1_method_42_code 71 = .ok (.getfield 345, 3) := by decide +kernel
theorem d_Main_fair_74 : decode prog_1_method_42_code 74 = .ok (.goto 10, 3) := by decide +kernel
theorem d_Main_fair_77 : decode prog_1_method_42_code 77 = .ok (.aload_n 0, 1) := by decide +kernel
theorem d_Main_fair_78 : decode prog_1_method_42_code 78 = .ok (.getfield 121, 3) := by decide +kernel
theorem d_Main_fair_81 : decode prog_1_method_42_code 81 = .ok (.getfield 348, 3) := by decide +kernel
theorem d_Main_fair_84 : decode prog_1_method_42_code 84 = .ok (.ireturn, 1) := by decide +kernel
def s_Main_fair_24 (p0 : Int32) (p1 : Int32) (σ : LH) : Option (Int32 × LH) :=
  some ((-1000000), σ)
theorem b_Main_fair_24 {G : XG} {l : Launch} {p : Program} {e : Env} {R : Room} {s : State} {m : MethodId} {args : Array Value} {below : List Frame} {meth : Method} {c : Code} (C : XC G 1 570 p s m args c prog_1_method_42_code 3 R_Main) (hr : meth.sig.returnType = (some .int)) (hk : meth.locks = false) {d : Nat} (hd : 24 ≤ d + 1) (hR : xroom R (d + 1)) {p0 : Int32} {p1 : Int32} {σ' : LH} {r : Int32} {σ : LH} (h0 : s_Main_fair_24 p0 p1 σ = some (r, σ')) : XJ G 1 570 p l e R s m args below meth c 3 (XQ G 1 570 below args s (some (.int r)) σ') 0 0 24 [] [] σ := by
  replace h0 := (show _ = _ from h0)
  unfold s_Main_fair_24 at h0
  refine x_ldc (v := (-1000000)) C w_982 d_Main_fair_24 ?_
  exact x_iret C hr hk h0 d_Main_fair_26
def s_Main_fair_52 (p0 : Int32) (p1 : Int32) (σ : LH) : Option (Int32 × LH) :=
  some ((-1000000), σ)
theorem b_Main_fair_52 {G : XG} {l : Launch} {p : Program} {e : Env} {R : Room} {s : State} {m : MethodId} {args : Array Value} {below : List Frame} {meth : Method} {c : Code} (C : XC G 1 570 p s m args c prog_1_method_42_code 3 R_Main) (hr : meth.sig.returnType = (some .int)) (hk : meth.locks = false) {d : Nat} (hd : 24 ≤ d + 1) (hR : xroom R (d + 1)) {p0 : Int32} {p1 : Int32} {σ' : LH} {r : Int32} {σ : LH} (h0 : s_Main_fair_52 p0 p1 σ = some (r, σ')) : XJ G 1 570 p l e R s m args below meth c 3 (XQ G 1 570 below args s (some (.int r)) σ') 0 0 52 [] [] σ := by
  replace h0 := (show _ = _ from h0)
  unfold s_Main_fair_52 at h0
  refine x_ldc (v := (-1000000)) C w_982 d_Main_fair_52 ?_
  exact x_iret C hr hk h0 d_Main_fair_54
def s_Main_fair_84 (p0 : Int32) (p1 : Int32) (z0 : Int32) (σ : LH) : Option (Int32 × LH) :=
  some (z0, σ)
theorem b_Main_fair_84 {G : XG} {l : Launch} {p : Program} {e : Env} {R : Room} {s : State} {m : MethodId} {args : Array Value} {below : List Frame} {meth : Method} {c : Code} (C : XC G 1 570 p s m args c prog_1_method_42_code 3 R_Main) (hr : meth.sig.returnType = (some .int)) (hk : meth.locks = false) {d : Nat} (hd : 24 ≤ d + 1) (hR : xroom R (d + 1)) {p0 : Int32} {p1 : Int32} {σ' : LH} {r : Int32} {z0 : Int32} {σ : LH} (h0 : s_Main_fair_84 p0 p1 z0 σ = some (r, σ')) : XJ G 1 570 p l e R s m args below meth c 3 (XQ G 1 570 below args s (some (.int r)) σ') 0 0 84 [] [.int z0] σ := by
  replace h0 := (show _ = _ from h0)
  unfold s_Main_fair_84 at h0
  exact x_iret C hr hk h0 d_Main_fair_84
def s_Main_fair (p0 : Int32) (p1 : Int32) (σ : LH) : Option (Int32 × LH) :=
  xb2 (s_Main_hasRoom σ) fun r2 σ3 =>
  if r2 = 0 then (
   s_Main_fair_24 p0 p1 σ3)
  else (
   if p0 < 1 then (
    s_Main_fair_24 p0 p1 σ3)
   else (
    if 3 < p0 then (
     s_Main_fair_24 p0 p1 σ3)
    else (
     xb2 (s_Main_isNoChoice p1 σ3) fun r8 σ9 =>
     if r8 = 0 then (
      if 5 < (σ9.1 4 1) then (
       s_Main_fair_52 p0 p1 σ9)
      else (
       xb2 (s_Main_minutesLeft σ9) fun r13 σ14 =>
       if (σ14.1 4 1) ≤ r13 then (
        xb1 (s_Branches_findOrder p0 σ14) fun σ17 =>
        if p1 = 0 then (
         s_Main_fair_84 p0 p1 (σ17.1 81 6) σ17)
        else (
         s_Main_fair_84 p0 p1 (σ17.1 81 7) σ17))
       else (
        s_Main_fair_52 p0 p1 σ14)))
     else (
      s_Main_fair_24 p0 p1 σ9))))
theorem c_Main_fair {G : XG} {l : Launch} {d : Nat} (hd : 24 ≤ d) {p0 : Int32} {p1 : Int32} {σ σ' : LH} {r : Int32} (h0 : s_Main_fair p0 p1 σ = some (r, σ')) : xM G 1 570 l y_Main_fair prog_1_method_42_code 3 (some .int) d [.ref (G.2.2.1 + 1), .int p0, .int p1] σ (some (.int r)) σ' := by
  obtain ⟨d, rfl⟩ : ∃ q, d = q + 1 := ⟨d - 1, by omega⟩
  refine x_met R_Main rfl (by decide +kernel) (Nat.le_of_ble_eq_true rfl) fun p e s m below meth c C hr hk hR => ?_
  refine x_lv (lv' := [(0, .ref (G.2.2.1 + 1)), (1, .int p0), (2, .int p1)]) C [0, 1, 2] rfl ?_
  generalize xrm (d + 1) = R at hR ⊢
  unfold s_Main_fair at h0
  refine x_aload_n C d_Main_fair_0 0 rfl ?_
  obtain ⟨r2, σ3, k1, h0⟩ := xbind2 h0
  refine x_callVi C hR (c_Main_hasRoom (d := d) (by omega) k1) cw_Main_317 k_1 rfl rfl rfl (Nat.le_of_ble_eq_true rfl) ⟨Nat.zero_le _, Nat.zero_le _⟩ d_Main_fair_1 ?_
  refine x_if_eq C 24 d_Main_fair_4 (by decide) (fun q4 => ?_) (fun q4 => ?_)
  · replace h0 := xit q4 h0
    exact x_lv C [] rfl (b_Main_fair_24 C hr hk hd hR h0)
  · replace h0 := xif q4 h0
    refine x_iload_n C d_Main_fair_7 1 rfl ?_
    refine x_iconst (v := 1) C d_Main_fair_8 (by decide) ?_
    refine x_icmp_lt C 24 d_Main_fair_9 (by decide) (fun q5 => ?_) (fun q5 => ?_)
    · replace h0 := xit q5 h0
      exact x_lv C [] rfl (b_Main_fair_24 C hr hk hd hR h0)
    · replace h0 := xif q5 h0
      refine x_iload_n C d_Main_fair_12 1 rfl ?_
      refine x_iconst (v := 3) C d_Main_fair_13 (by decide) ?_
      refine x_icmp_gt C 24 d_Main_fair_14 (by decide) (fun q6 => ?_) (fun q6 => ?_)
      · replace h0 := xit q6 h0
        exact x_lv C [] rfl (b_Main_fair_24 C hr hk hd hR h0)
      · replace h0 := xif q6 h0
        refine x_iload_n C d_Main_fair_17 2 rfl ?_
        obtain ⟨r8, σ9, k7, h0⟩ := xbind2 h0
        refine x_callSi C hR (c_Main_isNoChoice (d := d) (by omega) k7) cw_Main_283 w_1149 rfl rfl (Nat.le_of_ble_eq_true rfl) ⟨Nat.zero_le _, Nat.zero_le _⟩ d_Main_fair_18 ?_
        refine x_if_eq C 27 d_Main_fair_21 (by decide) (fun q10 => ?_) (fun q10 => ?_)
        · replace h0 := xit q10 h0
          refine x_aload_n C d_Main_fair_27 0 rfl ?_
          refine x_getA (y := 4) C fg_Main_19 k_1 rfl d_Main_fair_28 ?_
          refine x_getI (y := 0) C fg_Main_157 k_4 rfl d_Main_fair_31 ?_
          refine x_iconst (v := 5) C d_Main_fair_34 (by decide) ?_
          refine x_icmp_gt C 52 d_Main_fair_35 (by decide) (fun q11 => ?_) (fun q11 => ?_)
          · replace h0 := xit q11 h0
            exact x_lv C [] rfl (b_Main_fair_52 C hr hk hd hR h0)
          · replace h0 := xif q11 h0
            refine x_aload_n C d_Main_fair_38 0 rfl ?_
            obtain ⟨r13, σ14, k12, h0⟩ := xbind2 h0
            refine x_callVi C hR (c_Main_minutesLeft (d := d) (by omega) k12) cw_Main_247 k_1 rfl rfl rfl (Nat.le_of_ble_eq_true rfl) ⟨Nat.zero_le _, Nat.zero_le _⟩ d_Main_fair_39 ?_
            refine x_aload_n C d_Main_fair_42 0 rfl ?_
            refine x_getA (y := 4) C fg_Main_19 k_1 rfl d_Main_fair_43 ?_
            refine x_getI (y := 0) C fg_Main_157 k_4 rfl d_Main_fair_46 ?_
            refine x_icmp_ge C 55 d_Main_fair_49 (by decide) (fun q15 => ?_) (fun q15 => ?_)
            · replace h0 := xit q15 h0
              refine x_aload_n C d_Main_fair_55 0 rfl ?_
              refine x_getA (y := 81) C fg_Main_121 k_1 rfl d_Main_fair_56 ?_
              refine x_iload_n C d_Main_fair_59 1 rfl ?_
              obtain ⟨σ17, k16, h0⟩ := xbind1 h0
              refine x_callVv C hR (c_Branches_findOrder (d := d) (by omega) k16) cw_Main_342 k_81 rfl rfl rfl (Nat.le_of_ble_eq_true rfl) ⟨Nat.zero_le _, Nat.zero_le _⟩ d_Main_fair_60 ?_
              refine x_iload_n C d_Main_fair_63 2 rfl ?_
              refine x_if_ne C 77 d_Main_fair_64 (by decide) (fun q18 => ?_) (fun q18 => ?_)
              · replace h0 := xif q18 h0
                refine x_aload_n C d_Main_fair_77 0 rfl ?_
                refine x_getA (y := 81) C fg_Main_121 k_1 rfl d_Main_fair_78 ?_
                refine x_getI (y := 0) C fg_Main_348 k_81 rfl d_Main_fair_81 ?_
                exact x_lv C [] rfl (b_Main_fair_84 C hr hk hd hR h0)
              · replace h0 := xit q18 h0
                refine x_aload_n C d_Main_fair_67 0 rfl ?_
                refine x_getA (y := 81) C fg_Main_121 k_1 rfl d_Main_fair_68 ?_
                refine x_getI (y := 0) C fg_Main_345 k_81 rfl d_Main_fair_71 ?_
                refine x_goto C 84 d_Main_fair_74 (by decide) ?_
                exact x_lv C [] rfl (b_Main_fair_84 C hr hk hd hR h0)
            · replace h0 := xif q15 h0
              exact x_lv C [] rfl (b_Main_fair_52 C hr hk hd hR h0)
        · replace h0 := xif q10 h0
          exact x_lv C [] rfl (b_Main_fair_24 C hr hk hd hR h0)
-- LostPlaces$Branches.tell(II)Z
theorem d_Branches_tell_0 : decode prog_2_method_4_code 0 = .ok (.aload_n 0, 1) := by decide +kernel
theorem d_Branches_tell_1 : decode prog_2_method_4_code 1 = .ok (.getfield 34, 3) := by decide +kernel
theorem d_Branches_tell_4 : decode prog_2_method_4_code 4 = .ok (.ifCond .lt 12, 3) := by decide +kernel
theorem d_Branches_tell_7 : decode prog_2_method_4_code 7 = .ok (.aload_n 0, 1) := by decide +kernel
theorem d_Branches_tell_8 : decode prog_2_method_4_code 8 = .ok (.getfield 34, 3) := by decide +kernel
theorem d_Branches_tell_11 : decode prog_2_method_4_code 11 = .ok (.bipush 8, 2) := by decide +kernel
theorem d_Branches_tell_13 : decode prog_2_method_4_code 13 = .ok (.if_icmp .lt 5, 3) := by decide +kernel
theorem d_Branches_tell_16 : decode prog_2_method_4_code 16 = .ok (.iconst 0, 1) := by decide +kernel
theorem d_Branches_tell_17 : decode prog_2_method_4_code 17 = .ok (.ireturn, 1) := by decide +kernel
theorem d_Branches_tell_18 : decode prog_2_method_4_code 18 = .ok (.aload_n 0, 1) := by decide +kernel
theorem d_Branches_tell_19 : decode prog_2_method_4_code 19 = .ok (.getfield 27, 3) := by decide +kernel
theorem d_Branches_tell_22 : decode prog_2_method_4_code 22 = .ok (.aload_n 0, 1) := by decide +kernel
theorem d_Branches_tell_23 : decode prog_2_method_4_code 23 = .ok (.getfield 34, 3) := by decide +kernel
theorem d_Branches_tell_26 : decode prog_2_method_4_code 26 = .ok (.iload_n 1, 1) := by decide +kernel
theorem d_Branches_tell_27 : decode prog_2_method_4_code 27 = .ok (.iastore, 1) := by decide +kernel
theorem d_Branches_tell_28 : decode prog_2_method_4_code 28 = .ok (.aload_n 0, 1) := by decide +kernel
theorem d_Branches_tell_29 : decode prog_2_method_4_code 29 = .ok (.getfield 31, 3) := by decide +kernel
theorem d_Branches_tell_32 : decode prog_2_method_4_code 32 = .ok (.aload_n 0, 1) := by decide +kernel
theorem d_Branches_tell_33 : decode prog_2_method_4_code 33 = .ok (.getfield 34, 3) := by decide +kernel
theorem d_Branches_tell_36 : decode prog_2_method_4_code 36 = .ok (.iload_n 2, 1) := by decide +kernel
theorem d_Branches_tell_37 : decode prog_2_method_4_code 37 = .ok (.iastore, 1) := by decide +kernel
theorem d_Branches_tell_38 : decode prog_2_method_4_code 38 = .ok (.aload_n 0, 1) := by decide +kernel
theorem d_Branches_tell_39 : decode prog_2_method_4_code 39 = .ok (.dup, 1) := by decide +kernel
theorem d_Branches_tell_40 : decode prog_2_method_4_code 40 = .ok (.getfield 34, 3) := by decide +kernel
theorem d_Branches_tell_43 : decode prog_2_method_4_code 43 = .ok (.iconst 1, 1) := by decide +kernel
theorem d_Branches_tell_44 : decode prog_2_method_4_code 44 = .ok (.iadd, 1) := by decide +kernel
theorem d_Branches_tell_45 : decode prog_2_method_4_code 45 = .ok (.putfield 34, 3) := by decide +kernel
theorem d_Branches_tell_48 : decode prog_2_method_4_code 48 = .ok (.iconst 1, 1) := by decide +kernel
theorem d_Branches_tell_49 : decode prog_2_method_4_code 49 = .ok (.ireturn, 1) := by decide +kernel
def s_Branches_tell_16 (p0 : Int32) (p1 : Int32) (σ : LH) : Option (Int32 × LH) :=
  some (0, σ)
theorem b_Branches_tell_16 {G : XG} {l : Launch} {p : Program} {e : Env} {R : Room} {s : State} {m : MethodId} {args : Array Value} {below : List Frame} {meth : Method} {c : Code} (C : XC G 1 570 p s m args c prog_2_method_4_code 3 R_Branches) (hr : meth.sig.returnType = (some .boolean)) (hk : meth.locks = false) {d : Nat} (hd : 1 ≤ d + 1) (hR : xroom R (d + 1)) {p0 : Int32} {p1 : Int32} {σ' : LH} {r : Int32} {σ : LH} (h0 : s_Branches_tell_16 p0 p1 σ = some (r, σ')) : XJ G 1 570 p l e R s m args below meth c 3 (XQ G 1 570 below args s (some (.int r)) σ') 0 0 16 [] [] σ := by
  replace h0 := (show _ = _ from h0)
  unfold s_Branches_tell_16 at h0
  refine x_iconst (v := 0) C d_Branches_tell_16 (by decide) ?_
  exact x_zret C hr hk (by decide) h0 d_Branches_tell_17
def s_Branches_tell (p0 : Int32) (p1 : Int32) (σ : LH) : Option (Int32 × LH) :=
  if (σ.1 81 10) < 0 then (
   s_Branches_tell_16 p0 p1 σ)
  else (
   if (σ.1 81 10) < 8 then (
    if ib (σ.1 81 10) 8 then (
    xl ((stI σ 83 (Int32.toNatClampNeg (σ.1 81 10)) p0) : LH) fun σ4 =>
    if ib (σ4.1 81 10) 8 then (
    xl ((stI σ4 84 (Int32.toNatClampNeg (σ4.1 81 10)) p1) : LH) fun σ6 =>
    xl ((stI σ6 81 10 ((σ6.1 81 10) + 1)) : LH) fun σ7 =>
    some (1, σ7)) else none) else none)
   else (
    s_Branches_tell_16 p0 p1 σ))
theorem c_Branches_tell {G : XG} {l : Launch} {d : Nat} (hd : 1 ≤ d) {p0 : Int32} {p1 : Int32} {σ σ' : LH} {r : Int32} (h0 : s_Branches_tell p0 p1 σ = some (r, σ')) : xM G 1 570 l y_Branches_tell prog_2_method_4_code 3 (some .boolean) d [.ref (G.2.2.1 + 81), .int p0, .int p1] σ (some (.int r)) σ' := by
  obtain ⟨d, rfl⟩ : ∃ q, d = q + 1 := ⟨d - 1, by omega⟩
  refine x_met R_Branches rfl (by decide +kernel) (Nat.le_of_ble_eq_true rfl) fun p e s m below meth c C hr hk hR => ?_
  refine x_lv (lv' := [(0, .ref (G.2.2.1 + 81)), (1, .int p0), (2, .int p1)]) C [0, 1, 2] rfl ?_
  generalize xrm (d + 1) = R at hR ⊢
  unfold s_Branches_tell at h0
  refine x_aload_n C d_Branches_tell_0 0 rfl ?_
  refine x_getI (y := 0) C fg_Branches_34 k_81 rfl d_Branches_tell_1 ?_
  refine x_if_lt C 16 d_Branches_tell_4 (by decide) (fun q1 => ?_) (fun q1 => ?_)
  · replace h0 := xit q1 h0
    exact x_lv C [] rfl (b_Branches_tell_16 C hr hk hd hR h0)
  · replace h0 := xif q1 h0
    refine x_aload_n C d_Branches_tell_7 0 rfl ?_
    refine x_getI (y := 0) C fg_Branches_34 k_81 rfl d_Branches_tell_8 ?_
    refine x_bipush (v := 8) C d_Branches_tell_11 (by decide) ?_
    refine x_icmp_lt C 18 d_Branches_tell_13 (by decide) (fun q2 => ?_) (fun q2 => ?_)
    · replace h0 := xit q2 h0
      refine x_aload_n C d_Branches_tell_18 0 rfl ?_
      refine x_getA (y := 83) C fg_Branches_27 k_81 rfl d_Branches_tell_19 ?_
      refine x_aload_n C d_Branches_tell_22 0 rfl ?_
      refine x_getI (y := 0) C fg_Branches_34 k_81 rfl d_Branches_tell_23 ?_
      refine x_iload_n C d_Branches_tell_26 1 rfl ?_
      obtain ⟨g3, h0⟩ := xgo h0
      refine x_iast C k_83 (ib_in g3) d_Branches_tell_27 ?_
      obtain ⟨σ4, eσ4, h0⟩ := xlet h0
      refine x_sig C eσ4 ?_
      refine x_aload_n C d_Branches_tell_28 0 rfl ?_
      refine x_getA (y := 84) C fg_Branches_31 k_81 rfl d_Branches_tell_29 ?_
      refine x_aload_n C d_Branches_tell_32 0 rfl ?_
      refine x_getI (y := 0) C fg_Branches_34 k_81 rfl d_Branches_tell_33 ?_
      refine x_iload_n C d_Branches_tell_36 2 rfl ?_
      obtain ⟨g5, h0⟩ := xgo h0
      refine x_iast C k_84 (ib_in g5) d_Branches_tell_37 ?_
      obtain ⟨σ6, eσ6, h0⟩ := xlet h0
      refine x_sig C eσ6 ?_
      refine x_aload_n C d_Branches_tell_38 0 rfl ?_
      refine x_dup C d_Branches_tell_39 rfl ?_
      refine x_getI (y := 0) C fg_Branches_34 k_81 rfl d_Branches_tell_40 ?_
      refine x_iconst (v := 1) C d_Branches_tell_43 (by decide) ?_
      refine x_iadd C d_Branches_tell_44 ?_
      refine x_putI (y := 0) C fp_Branches_34 k_81 rfl rfl rfl d_Branches_tell_45 ?_
      obtain ⟨σ7, eσ7, h0⟩ := xlet h0
      refine x_sig C eσ7 ?_
      refine x_iconst (v := 1) C d_Branches_tell_48 (by decide) ?_
      exact x_zret C hr hk (by decide) h0 d_Branches_tell_49
    · replace h0 := xif q2 h0
      exact x_lv C [] rfl (b_Branches_tell_16 C hr hk hd hR h0)
-- LostPlaces.tells(II)I
theorem d_Main_tells_0 : decode prog_1_method_43_code 0 = .ok (.aload_n 0, 1) := by decide +kernel
theorem d_Main_tells_1 : decode prog_1_method_43_code 1 = .ok (.iload_n 1, 1) := by decide +kernel
theorem d_Main_tells_2 : decode prog_1_method_43_code 2 = .ok (.invokevirtual 186, 3) := by decide +kernel
theorem d_Main_tells_5 : decode prog_1_method_43_code 5 = .ok (.ifCond .eq 22, 3) := by decide +kernel
theorem d_Main_tells_8 : decode prog_1_method_43_code 8 = .ok (.iload_n 2, 1) := by decide +kernel
theorem d_Main_tells_9 : decode prog_1_method_43_code 9 = .ok (.iconst (-1), 1) := by decide +kernel
theorem d_Main_tells_10 : decode prog_1_method_43_code 10 = .ok (.if_icmp .eq 19, 3) := by decide +kernel
theorem d_Main_tells_13 : decode prog_1_method_43_code 13 = .ok (.iload_n 2, 1) := by decide +kernel
theorem d_Main_tells_14 : decode prog_1_method_43_code 14 = .ok (.bipush (-2), 2) := by decide +kernel
theorem d_Main_tells_16 : decode prog_1_method_43_code 16 = .ok (.if_icmp .eq 13, 3) := by decide +kernel
theorem d_Main_tells_19 : decode prog_1_method_43_code 19 = .ok (.aload_n 0, 1) := by decide +kernel
theorem d_Main_tells_20 : decode prog_1_method_43_code 20 = .ok (.iload_n 2, 1) := by decide +kernel
theorem d_Main_tells_21 : decode prog_1_method_43_code 21 = .ok (.invokevirtual 164, 3) := by decide +kernel
theorem d_Main_tells_24 : decode prog_1_method_43_code 24 = .ok (.ifCond .ne 5, 3) := by decide +kernel
theorem d_Main_tells_27 : decode prog_1_method_43_code 27 = .ok (.iconst (-1), 1) := by decide +kernel
theorem d_Main_tells_28 : decode prog_1_method_43_code 28 = .ok (.ireturn, 1) := by decide +kernel
theorem d_Main_tells_29 : decode prog_1_method_43_code 29 = .ok (.aload_n 0, 1) := by decide +kernel
theorem d_Main_tells_30 : decode prog_1_method_43_code 30 = .ok (.getfield 121, 3) := by decide +kernel
theorem d_Main_tells_33 : decode prog_1_method_43_code 33 = .ok (.iload_n 1, 1) := by decide +kernel
theorem d_Main_tells_34 : decode prog_1_method_43_code 34 = .ok (.iload_n 2, 1) := by decide +kernel
theorem d_Main_tells_35 : decode prog_1_method_43_code 35 = .ok (.invokevirtual 351, 3) := by decide +kernel
theorem d_Main_tells_38 : decode prog_1_method_43_code 38 = .ok (.ifCond .eq 13, 3) := by decide +kernel
theorem d_Main_tells_41 : decode prog_1_method_43_code 41 = .ok (.aload_n 0, 1) := by decide +kernel
theorem d_Main_tells_42 : decode prog_1_method_43_code 42 = .ok (.getfield 121, 3) := by decide +kernel
theorem d_Main_tells_45 : decode prog_1_method_43_code 45 = .ok (.getfield 148, 3) := by decide +kernel
theorem d_Main_tells_48 : decode prog_1_method_43_code 48 = .ok (.goto 4, 3) := by decide +kernel
theorem d_Main_tells_51 : decode prog_1_method_43_code 51 = .ok (.iconst (-1), 1) := by decide +kernel
theorem d_Main_tells_52 : decode prog_1_method_43_code 52 = .ok (.ireturn, 1) := by decide +kernel
def s_Main_tells_27 (p0 : Int32) (p1 : Int32) (σ : LH) : Option (Int32 × LH) :=
  some ((-1), σ)
theorem b_Main_tells_27 {G : XG} {l : Launch} {p : Program} {e : Env} {R : Room} {s : State} {m : MethodId} {args : Array Value} {below : List Frame} {meth : Method} {c : Code} (C : XC G 1 570 p s m args c prog_1_method_43_code 3 R_Main) (hr : meth.sig.returnType = (some .int)) (hk : meth.locks = false) {d : Nat} (hd : 2 ≤ d + 1) (hR : xroom R (d + 1)) {p0 : Int32} {p1 : Int32} {σ' : LH} {r : Int32} {σ : LH} (h0 : s_Main_tells_27 p0 p1 σ = some (r, σ')) : XJ G 1 570 p l e R s m args below meth c 3 (XQ G 1 570 below args s (some (.int r)) σ') 0 0 27 [] [] σ := by
  replace h0 := (show _ = _ from h0)
  unfold s_Main_tells_27 at h0
  refine x_iconst (v := (-1)) C d_Main_tells_27 (by decide) ?_
  exact x_iret C hr hk h0 d_Main_tells_28
def s_Main_tells_52 (p0 : Int32) (p1 : Int32) (z0 : Int32) (σ : LH) : Option (Int32 × LH) :=
  some (z0, σ)
theorem b_Main_tells_52 {G : XG} {l : Launch} {p : Program} {e : Env} {R : Room} {s : State} {m : MethodId} {args : Array Value} {below : List Frame} {meth : Method} {c : Code} (C : XC G 1 570 p s m args c prog_1_method_43_code 3 R_Main) (hr : meth.sig.returnType = (some .int)) (hk : meth.locks = false) {d : Nat} (hd : 2 ≤ d + 1) (hR : xroom R (d + 1)) {p0 : Int32} {p1 : Int32} {σ' : LH} {r : Int32} {z0 : Int32} {σ : LH} (h0 : s_Main_tells_52 p0 p1 z0 σ = some (r, σ')) : XJ G 1 570 p l e R s m args below meth c 3 (XQ G 1 570 below args s (some (.int r)) σ') 0 0 52 [] [.int z0] σ := by
  replace h0 := (show _ = _ from h0)
  unfold s_Main_tells_52 at h0
  exact x_iret C hr hk h0 d_Main_tells_52
def s_Main_tells_29 (p0 : Int32) (p1 : Int32) (σ : LH) : Option (Int32 × LH) :=
  xb2 (s_Branches_tell p0 p1 σ) fun r7 σ8 =>
  if r7 = 0 then (
   s_Main_tells_52 p0 p1 (-1) σ8)
  else (
   s_Main_tells_52 p0 p1 (σ8.1 81 10) σ8)
theorem b_Main_tells_29 {G : XG} {l : Launch} {p : Program} {e : Env} {R : Room} {s : State} {m : MethodId} {args : Array Value} {below : List Frame} {meth : Method} {c : Code} (C : XC G 1 570 p s m args c prog_1_method_43_code 3 R_Main) (hr : meth.sig.returnType = (some .int)) (hk : meth.locks = false) {d : Nat} (hd : 2 ≤ d + 1) (hR : xroom R (d + 1)) {p0 : Int32} {p1 : Int32} {σ' : LH} {r : Int32} {σ : LH} (h0 : s_Main_tells_29 p0 p1 σ = some (r, σ')) : XJ G 1 570 p l e R s m args below meth c 3 (XQ G 1 570 below args s (some (.int r)) σ') 0 0 29 [(0, .ref (G.2.2.1 + 1)), (1, .int p0), (2, .int p1)] [] σ := by
  replace h0 := (show _ = _ from h0)
  unfold s_Main_tells_29 at h0
  refine x_aload_n C d_Main_tells_29 0 rfl ?_
  refine x_getA (y := 81) C fg_Main_121 k_1 rfl d_Main_tells_30 ?_
  refine x_iload_n C d_Main_tells_33 1 rfl ?_
  refine x_iload_n C d_Main_tells_34 2 rfl ?_
  obtain ⟨r7, σ8, k6, h0⟩ := xbind2 h0
  refine x_callVi C hR (c_Branches_tell (d := d) (by omega) k6) cw_Main_351 k_81 rfl rfl rfl (Nat.le_of_ble_eq_true rfl) ⟨Nat.zero_le _, Nat.zero_le _⟩ d_Main_tells_35 ?_
  refine x_if_eq C 51 d_Main_tells_38 (by decide) (fun q9 => ?_) (fun q9 => ?_)
  · replace h0 := xit q9 h0
    refine x_iconst (v := (-1)) C d_Main_tells_51 (by decide) ?_
    exact x_lv C [] rfl (b_Main_tells_52 C hr hk hd hR h0)
  · replace h0 := xif q9 h0
    refine x_aload_n C d_Main_tells_41 0 rfl ?_
    refine x_getA (y := 81) C fg_Main_121 k_1 rfl d_Main_tells_42 ?_
    refine x_getI (y := 0) C fg_Main_148 k_81 rfl d_Main_tells_45 ?_
    refine x_goto C 52 d_Main_tells_48 (by decide) ?_
    exact x_lv C [] rfl (b_Main_tells_52 C hr hk hd hR h0)
def s_Main_tells (p0 : Int32) (p1 : Int32) (σ : LH) : Option (Int32 × LH) :=
  xb2 (s_Main_isSitter p0 σ) fun r2 σ3 =>
  if r2 = 0 then (
   s_Main_tells_27 p0 p1 σ3)
  else (
   if p1 = (-1) then (
    s_Main_tells_29 p0 p1 σ3)
   else (
    if p1 = (-2) then (
     s_Main_tells_29 p0 p1 σ3)
    else (
     xb2 (s_Main_isSeat p1 σ3) fun r12 σ13 =>
     if r12 = 0 then (
      s_Main_tells_27 p0 p1 σ13)
     else (
      s_Main_tells_29 p0 p1 σ13))))
theorem c_Main_tells {G : XG} {l : Launch} {d : Nat} (hd : 2 ≤ d) {p0 : Int32} {p1 : Int32} {σ σ' : LH} {r : Int32} (h0 : s_Main_tells p0 p1 σ = some (r, σ')) : xM G 1 570 l y_Main_tells prog_1_method_43_code 3 (some .int) d [.ref (G.2.2.1 + 1), .int p0, .int p1] σ (some (.int r)) σ' := by
  obtain ⟨d, rfl⟩ : ∃ q, d = q + 1 := ⟨d - 1, by omega⟩
  refine x_met R_Main rfl (by decide +kernel) (Nat.le_of_ble_eq_true rfl) fun p e s m below meth c C hr hk hR => ?_
  refine x_lv (lv' := [(0, .ref (G.2.2.1 + 1)), (1, .int p0), (2, .int p1)]) C [0, 1, 2] rfl ?_
  generalize xrm (d + 1) = R at hR ⊢
  unfold s_Main_tells at h0
  refine x_aload_n C d_Main_tells_0 0 rfl ?_
  refine x_iload_n C d_Main_tells_1 1 rfl ?_
  obtain ⟨r2, σ3, k1, h0⟩ := xbind2 h0
  refine x_callVi C hR (c_Main_isSitter (d := d) (by omega) k1) cw_Main_186 k_1 rfl rfl rfl (Nat.le_of_ble_eq_true rfl) ⟨Nat.zero_le _, Nat.zero_le _⟩ d_Main_tells_2 ?_
  refine x_if_eq C 27 d_Main_tells_5 (by decide) (fun q4 => ?_) (fun q4 => ?_)
  · replace h0 := xit q4 h0
    exact x_lv C [] rfl (b_Main_tells_27 C hr hk hd hR h0)
  · replace h0 := xif q4 h0
    refine x_iload_n C d_Main_tells_8 2 rfl ?_
    refine x_iconst (v := (-1)) C d_Main_tells_9 (by decide) ?_
    refine x_icmp_eq C 29 d_Main_tells_10 (by decide) (fun q5 => ?_) (fun q5 => ?_)
    · replace h0 := xit q5 h0
      exact x_lv C [0, 1, 2] rfl (b_Main_tells_29 C hr hk hd hR h0)
    · replace h0 := xif q5 h0
      refine x_iload_n C d_Main_tells_13 2 rfl ?_
      refine x_bipush (v := (-2)) C d_Main_tells_14 (by decide) ?_
      refine x_icmp_eq C 29 d_Main_tells_16 (by decide) (fun q10 => ?_) (fun q10 => ?_)
      · replace h0 := xit q10 h0
        exact x_lv C [0, 1, 2] rfl (b_Main_tells_29 C hr hk hd hR h0)
      · replace h0 := xif q10 h0
        refine x_aload_n C d_Main_tells_19 0 rfl ?_
        refine x_iload_n C d_Main_tells_20 2 rfl ?_
        obtain ⟨r12, σ13, k11, h0⟩ := xbind2 h0
        refine x_callVi C hR (c_Main_isSeat (d := d) (by omega) k11) cw_Main_164 k_1 rfl rfl rfl (Nat.le_of_ble_eq_true rfl) ⟨Nat.zero_le _, Nat.zero_le _⟩ d_Main_tells_21 ?_
        refine x_if_ne C 29 d_Main_tells_24 (by decide) (fun q14 => ?_) (fun q14 => ?_)
        · replace h0 := xif q14 h0
          exact x_lv C [0, 1, 2] rfl (b_Main_tells_29 C hr hk hd hR h0)
        · replace h0 := xit q14 h0
          exact x_lv C [] rfl (b_Main_tells_27 C hr hk hd hR h0)
-- LostPlaces$Hall.goesOnAs(LLostPlaces$Hall;)Z
theorem d_Hall_goesOnAs_0 : decode prog_6_method_5_code 0 = .ok (.aload_n 0, 1) := by decide +kernel
theorem d_Hall_goesOnAs_1 : decode prog_6_method_5_code 1 = .ok (.getfield 33, 3) := by decide +kernel
theorem d_Hall_goesOnAs_4 : decode prog_6_method_5_code 4 = .ok (.aload_n 1, 1) := by decide +kernel
theorem d_Hall_goesOnAs_5 : decode prog_6_method_5_code 5 = .ok (.getfield 33, 3) := by decide +kernel
theorem d_Hall_goesOnAs_8 : decode prog_6_method_5_code 8 = .ok (.if_icmp .eq 5, 3) := by decide +kernel
theorem d_Hall_goesOnAs_11 : decode prog_6_method_5_code 11 = .ok (.iconst 0, 1) := by decide +kernel
theorem d_Hall_goesOnAs_12 : decode prog_6_method_5_code 12 = .ok (.ireturn, 1) := by decide +kernel
theorem d_Hall_goesOnAs_13 : decode prog_6_method_5_code 13 = .ok (.iconst 0, 1) := by decide +kernel
theorem d_Hall_goesOnAs_14 : decode prog_6_method_5_code 14 = .ok (.istore_n 2, 1) := by decide +kernel
theorem d_Hall_goesOnAs_15 : decode prog_6_method_5_code 15 = .ok (.iload_n 2, 1) := by decide +kernel
theorem d_Hall_goesOnAs_16 : decode prog_6_method_5_code 16 = .ok (.bipush 8, 2) := by decide +kernel
theorem d_Hall_goesOnAs_18 : decode prog_6_method_5_code 18 = .ok (.if_icmp .ge 66, 3) := by decide +kernel
theorem d_Hall_goesOnAs_21 : decode prog_6_method_5_code 21 = .ok (.aload_n 0, 1) := by decide +kernel
theorem d_Hall_goesOnAs_22 : decode prog_6_method_5_code 22 = .ok (.getfield 9, 3) := by decide +kernel
theorem d_Hall_goesOnAs_25 : decode prog_6_method_5_code 25 = .ok (.iload_n 2, 1) := by decide +kernel
theorem d_Hall_goesOnAs_26 : decode prog_6_method_5_code 26 = .ok (.iaload, 1) := by decide +kernel
theorem d_Hall_goesOnAs_27 : decode prog_6_method_5_code 27 = .ok (.aload_n 1, 1) := by decide +kernel
theorem d_Hall_goesOnAs_28 : decode prog_6_method_5_code 28 = .ok (.getfield 9, 3) := by decide +kernel
theorem d_Hall_goesOnAs_31 : decode prog_6_method_5_code 31 = .ok (.iload_n 2, 1) := by decide +kernel
theorem d_Hall_goesOnAs_32 : decode prog_6_method_5_code 32 = .ok (.iaload, 1) := by decide +kernel
theorem d_Hall_goesOnAs_33 : decode prog_6_method_5_code 33 = .ok (.if_icmp .ne 37, 3) := by decide +kernel
theorem d_Hall_goesOnAs_36 : decode prog_6_method_5_code 36 = .ok (.aload_n 0, 1) := by decide +kernel
theorem d_Hall_goesOnAs_37 : decode prog_6_method_5_code 37 = .ok (.getfield 15, 3) := by decide +kernel
theorem d_Hall_goesOnAs_40 : decode prog_6_method_5_code 40 = .ok (.iload_n 2, 1) := by decide +kernel
theorem d_Hall_goesOnAs_41 : decode prog_6_method_5_code 41 = .ok (.iaload, 1) := by decide +kernel
theorem d_Hall_goesOnAs_42 : decode prog_6_method_5_code 42 = .ok (.aload_n 1, 1) := by decide +kernel
theorem d_Hall_goesOnAs_43 : decode prog_6_method_5_code 43 = .ok (.getfield 15, 3) := by decide +kernel
theorem d_Hall_goesOnAs_46 : decode prog_6_method_5_code 46 = .ok (.iload_n 2, 1) := by decide +kernel
theorem d_Hall_goesOnAs_47 : decode prog_6_method_5_code 47 = .ok (.iaload, 1) := by decide +kernel
theorem d_Hall_goesOnAs_48 : decode prog_6_method_5_code 48 = .ok (.if_icmp .ne 22, 3) := by decide +kernel
theorem d_Hall_goesOnAs_51 : decode prog_6_method_5_code 51 = .ok (.aload_n 0, 1) := by decide +kernel
theorem d_Hall_goesOnAs_52 : decode prog_6_method_5_code 52 = .ok (.getfield 18, 3) := by decide +kernel
theorem d_Hall_goesOnAs_55 : decode prog_6_method_5_code 55 = .ok (.iload_n 2, 1) := by decide +kernel
theorem d_Hall_goesOnAs_56 : decode prog_6_method_5_code 56 = .ok (.iaload, 1) := by decide +kernel
theorem d_Hall_goesOnAs_57 : decode prog_6_method_5_code 57 = .ok (.aload_n 1, 1) := by decide +kernel
theorem d_Hall_goesOnAs_58 : decode prog_6_method_5_code 58 = .ok (.getfield 18, 3) := by decide +kernel
theorem d_Hall_goesOnAs_61 : decode prog_6_method_5_code 61 = .ok (.iload_n 2, 1) := by decide +kernel
theorem d_Hall_goesOnAs_62 : decode prog_6_method_5_code 62 = .ok (.iaload, 1) := by decide +kernel
theorem d_Hall_goesOnAs_63 : decode prog_6_method_5_code 63 = .ok (.if_icmp .ne 7, 3) := by decide +kernel
theorem d_Hall_goesOnAs_66 : decode prog_6_method_5_code 66 = .ok (.iconst 1, 1) := by decide +kernel
theorem d_Hall_goesOnAs_67 : decode prog_6_method_5_code 67 = .ok (.goto 4, 3) := by decide +kernel
theorem d_Hall_goesOnAs_70 : decode prog_6_method_5_code 70 = .ok (.iconst 0, 1) := by decide +kernel
theorem d_Hall_goesOnAs_71 : decode prog_6_method_5_code 71 = .ok (.istore_n 3, 1) := by decide +kernel
theorem d_Hall_goesOnAs_72 : decode prog_6_method_5_code 72 = .ok (.iload_n 3, 1) := by decide +kernel
theorem d_Hall_goesOnAs_73 : decode prog_6_method_5_code 73 = .ok (.ifCond .ne 5, 3) := by decide +kernel
theorem d_Hall_goesOnAs_76 : decode prog_6_method_5_code 76 = .ok (.iconst 0, 1) := by decide +kernel
theorem d_Hall_goesOnAs_77 : decode prog_6_method_5_code 77 = .ok (.ireturn, 1) := by decide +kernel
theorem d_Hall_goesOnAs_78 : decode prog_6_method_5_code 78 = .ok (.iinc 2 1, 3) := by decide +kernel
theorem d_Hall_goesOnAs_81 : decode prog_6_method_5_code 81 = .ok (.goto (-66), 3) := by decide +kernel
theorem d_Hall_goesOnAs_84 : decode prog_6_method_5_code 84 = .ok (.iconst 0, 1) := by decide +kernel
theorem d_Hall_goesOnAs_85 : decode prog_6_method_5_code 85 = .ok (.istore_n 2, 1) := by decide +kernel
theorem d_Hall_goesOnAs_86 : decode prog_6_method_5_code 86 = .ok (.iload_n 2, 1) := by decide +kernel
theorem d_Hall_goesOnAs_87 : decode prog_6_method_5_code 87 = .ok (.bipush 8, 2) := by decide +kernel
theorem d_Hall_goesOnAs_89 : decode prog_6_method_5_code 89 = .ok (.if_icmp .ge 41, 3) := by decide +kernel
theorem d_Hall_goesOnAs_92 : decode prog_6_method_5_code 92 = .ok (.aload_n 0, 1) := by decide +kernel
theorem d_Hall_goesOnAs_93 : decode prog_6_method_5_code 93 = .ok (.getfield 27, 3) := by decide +kernel
theorem d_Hall_goesOnAs_96 : decode prog_6_method_5_code 96 = .ok (.iload_n 2, 1) := by decide +kernel
theorem d_Hall_goesOnAs_97 : decode prog_6_method_5_code 97 = .ok (.iaload, 1) := by decide +kernel
theorem d_Hall_goesOnAs_98 : decode prog_6_method_5_code 98 = .ok (.aload_n 1, 1) := by decide +kernel
theorem d_Hall_goesOnAs_99 : decode prog_6_method_5_code 99 = .ok (.getfield 27, 3) := by decide +kernel
theorem d_Hall_goesOnAs_102 : decode prog_6_method_5_code 102 = .ok (.iload_n 2, 1) := by decide +kernel
theorem d_Hall_goesOnAs_103 : decode prog_6_method_5_code 103 = .ok (.iaload, 1) := by decide +kernel
theorem d_Hall_goesOnAs_104 : decode prog_6_method_5_code 104 = .ok (.if_icmp .ne 18, 3) := by decide +kernel
theorem d_Hall_goesOnAs_107 : decode prog_6_method_5_code 107 = .ok (.aload_n 0, 1) := by decide +kernel
theorem d_Hall_goesOnAs_108 : decode prog_6_method_5_code 108 = .ok (.getfield 30, 3) := by decide +kernel
theorem d_Hall_goesOnAs_111 : decode prog_6_method_5_code 111 = .ok (.iload_n 2, 1) := by decide +kernel
theorem d_Hall_goesOnAs_112 : decode prog_6_method_5_code 112 = .ok (.iaload, 1) := by decide +kernel
theorem d_Hall_goesOnAs_113 : decode prog_6_method_5_code 113 = .ok (.aload_n 1, 1) := by decide +kernel
theorem d_Hall_goesOnAs_114 : decode prog_6_method_5_code 114 = .ok (.getfield 30, 3) := by decide +kernel
theorem d_Hall_goesOnAs_117 : decode prog_6_method_5_code 117 = .ok (.iload_n 2, 1) := by decide +kernel
theorem d_Hall_goesOnAs_118 : decode prog_6_method_5_code 118 = .ok (.iaload, 1) := by decide +kernel
theorem d_Hall_goesOnAs_119 : decode prog_6_method_5_code 119 = .ok (.if_icmp .eq 5, 3) := by decide +kernel
theorem d_Hall_goesOnAs_122 : decode prog_6_method_5_code 122 = .ok (.iconst 0, 1) := by decide +kernel
theorem d_Hall_goesOnAs_123 : decode prog_6_method_5_code 123 = .ok (.ireturn, 1) := by decide +kernel
theorem d_Hall_goesOnAs_124 : decode prog_6_method_5_code 124 = .ok (.iinc 2 1, 3) := by decide +kernel
theorem d_Hall_goesOnAs_127 : decode prog_6_method_5_code 127 = .ok (.goto (-41), 3) := by decide +kernel
theorem d_Hall_goesOnAs_130 : decode prog_6_method_5_code 130 = .ok (.iconst 1, 1) := by decide +kernel
theorem d_Hall_goesOnAs_131 : decode prog_6_method_5_code 131 = .ok (.ireturn, 1) := by decide +kernel
def s_Hall_goesOnAs_122 (h : Nat) (p0 : Nat) (σ : LH) : Option (Int32 × LH) :=
  some (0, σ)
theorem b_Hall_goesOnAs_122 {G : XG} {l : Launch} {p : Program} {e : Env} {R : Room} {s : State} {m : MethodId} {args : Array Value} {below : List Frame} {meth : Method} {c : Code} (C : XC G 1 570 p s m args c prog_6_method_5_code 4 R_Hall) (hr : meth.sig.returnType = (some .boolean)) (hk : meth.locks = false) {d : Nat} (hd : 1 ≤ d + 1) (hR : xroom R (d + 1)) {h : Nat} {p0 : Nat} (hh : h ∈ xHalls) (hp0 : p0 ∈ xHalls) {σ' : LH} {r : Int32} {σ : LH} (h0 : s_Hall_goesOnAs_122 h p0 σ = some (r, σ')) : XJ G 1 570 p l e R s m args below meth c 4 (XQ G 1 570 below args s (some (.int r)) σ') 0 0 122 [] [] σ := by
  replace h0 := (show _ = _ from h0)
  unfold s_Hall_goesOnAs_122 at h0
  refine x_iconst (v := 0) C d_Hall_goesOnAs_122 (by decide) ?_
  exact x_zret C hr hk (by decide) h0 d_Hall_goesOnAs_123
def s_Hall_goesOnAs_86_b (h : Nat) (p0 : Nat) (rec86 : Int32 → LH → Option (Int32 × LH)) (y2 : Int32) (σ : LH) : Option (Int32 × LH) :=
  if 8 ≤ y2 then (
   some (1, σ))
  else (
   if ib y2 8 then (
   if ib y2 8 then (
   if (σ.1 (h + 6) (Int32.toNatClampNeg y2)) = (σ.1 (p0 + 6) (Int32.toNatClampNeg y2)) then (
    if ib y2 8 then (
    if ib y2 8 then (
    if (σ.1 (h + 7) (Int32.toNatClampNeg y2)) = (σ.1 (p0 + 7) (Int32.toNatClampNeg y2)) then (
     xl ((y2 + 1) : Int32) fun x10 =>
     rec86 x10 σ)
    else (
     s_Hall_goesOnAs_122 h p0 σ)) else none) else none)
   else (
    s_Hall_goesOnAs_122 h p0 σ)) else none) else none)
def s_Hall_goesOnAs_86 (h : Nat) (p0 : Nat) : Nat → Int32 → LH → Option (Int32 × LH)
  | 0, _, _ => none
  | n + 1, y2, σ => s_Hall_goesOnAs_86_b h p0 (s_Hall_goesOnAs_86 h p0 n) y2 σ
theorem bb_Hall_goesOnAs_86 {G : XG} {l : Launch} {p : Program} {e : Env} {R : Room} {s : State} {m : MethodId} {args : Array Value} {below : List Frame} {meth : Method} {c : Code} (C : XC G 1 570 p s m args c prog_6_method_5_code 4 R_Hall) (hr : meth.sig.returnType = (some .boolean)) (hk : meth.locks = false) {d : Nat} (hd : 1 ≤ d + 1) (hR : xroom R (d + 1)) {h : Nat} {p0 : Nat} (hh : h ∈ xHalls) (hp0 : p0 ∈ xHalls) {rec86 : Int32 → LH → Option (Int32 × LH)} {σ' : LH} {r : Int32} (hrec86 : ∀ (y2 : Int32) (σ : LH), rec86 y2 σ = some (r, σ') → XJ G 1 570 p l e R s m args below meth c 4 (XQ G 1 570 below args s (some (.int r)) σ') 0 0 86 [(0, .ref (G.2.2.1 + h)), (1, .ref (G.2.2.1 + p0)), (2, .int y2)] [] σ) {y2 : Int32} {σ : LH} (h0 : s_Hall_goesOnAs_86_b h p0 rec86 y2 σ = some (r, σ')) : XJ G 1 570 p l e R s m args below meth c 4 (XQ G 1 570 below args s (some (.int r)) σ') 0 0 86 [(0, .ref (G.2.2.1 + h)), (1, .ref (G.2.2.1 + p0)), (2, .int y2)] [] σ := by
  replace h0 := (show _ = _ from h0)
  unfold s_Hall_goesOnAs_86_b at h0
  refine x_iload_n C d_Hall_goesOnAs_86 2 rfl ?_
  refine x_bipush (v := 8) C d_Hall_goesOnAs_87 (by decide) ?_
  refine x_icmp_ge C 130 d_Hall_goesOnAs_89 (by decide) (fun q3 => ?_) (fun q3 => ?_)
  · replace h0 := xit q3 h0
    refine x_iconst (v := 1) C d_Hall_goesOnAs_130 (by decide) ?_
    exact x_zret C hr hk (by decide) h0 d_Hall_goesOnAs_131
  · replace h0 := xif q3 h0
    refine x_aload_n C d_Hall_goesOnAs_92 0 rfl ?_
    refine x_getR (y := 6) C fg_Hall_27 (hl_0 hh) rfl d_Hall_goesOnAs_93 ?_
    refine x_iload_n C d_Hall_goesOnAs_96 2 rfl ?_
    obtain ⟨g4, h0⟩ := xgo h0
    refine x_iald C (hl_6 hh) (ib_in g4) d_Hall_goesOnAs_97 ?_
    refine x_aload_n C d_Hall_goesOnAs_98 1 rfl ?_
    refine x_getR (y := 6) C fg_Hall_27 (hl_0 hp0) rfl d_Hall_goesOnAs_99 ?_
    refine x_iload_n C d_Hall_goesOnAs_102 2 rfl ?_
    obtain ⟨g5, h0⟩ := xgo h0
    refine x_iald C (hl_6 hp0) (ib_in g5) d_Hall_goesOnAs_103 ?_
    refine x_icmp_ne C 122 d_Hall_goesOnAs_104 (by decide) (fun q6 => ?_) (fun q6 => ?_)
    · replace h0 := xif q6 h0
      exact x_lv C [] rfl (b_Hall_goesOnAs_122 C hr hk hd hR hh hp0 h0)
    · replace h0 := xit q6 h0
      refine x_aload_n C d_Hall_goesOnAs_107 0 rfl ?_
      refine x_getR (y := 7) C fg_Hall_30 (hl_0 hh) rfl d_Hall_goesOnAs_108 ?_
      refine x_iload_n C d_Hall_goesOnAs_111 2 rfl ?_
      obtain ⟨g7, h0⟩ := xgo h0
      refine x_iald C (hl_7 hh) (ib_in g7) d_Hall_goesOnAs_112 ?_
      refine x_aload_n C d_Hall_goesOnAs_113 1 rfl ?_
      refine x_getR (y := 7) C fg_Hall_30 (hl_0 hp0) rfl d_Hall_goesOnAs_114 ?_
      refine x_iload_n C d_Hall_goesOnAs_117 2 rfl ?_
      obtain ⟨g8, h0⟩ := xgo h0
      refine x_iald C (hl_7 hp0) (ib_in g8) d_Hall_goesOnAs_118 ?_
      refine x_icmp_eq C 124 d_Hall_goesOnAs_119 (by decide) (fun q9 => ?_) (fun q9 => ?_)
      · replace h0 := xit q9 h0
        obtain ⟨x10, ex10, h0⟩ := xlet h0
        refine x_iinc (lv' := [(2, .int x10), (0, .ref (G.2.2.1 + h)), (1, .ref (G.2.2.1 + p0))]) C d_Hall_goesOnAs_124 2 rfl ex10 (by decide) rfl ?_
        refine x_goto C 86 d_Hall_goesOnAs_127 (by decide) ?_
        exact x_lv C [1, 2, 0] rfl (hrec86 _ _ h0)
      · replace h0 := xif q9 h0
        exact x_lv C [] rfl (b_Hall_goesOnAs_122 C hr hk hd hR hh hp0 h0)
theorem b_Hall_goesOnAs_86 {G : XG} {l : Launch} {p : Program} {e : Env} {R : Room} {s : State} {m : MethodId} {args : Array Value} {below : List Frame} {meth : Method} {c : Code} (C : XC G 1 570 p s m args c prog_6_method_5_code 4 R_Hall) (hr : meth.sig.returnType = (some .boolean)) (hk : meth.locks = false) {d : Nat} (hd : 1 ≤ d + 1) (hR : xroom R (d + 1)) {h : Nat} {p0 : Nat} (hh : h ∈ xHalls) (hp0 : p0 ∈ xHalls) {σ' : LH} {r : Int32} : ∀ (n : Nat) (y2 : Int32) (σ : LH), s_Hall_goesOnAs_86 h p0 n y2 σ = some (r, σ') → XJ G 1 570 p l e R s m args below meth c 4 (XQ G 1 570 below args s (some (.int r)) σ') 0 0 86 [(0, .ref (G.2.2.1 + h)), (1, .ref (G.2.2.1 + p0)), (2, .int y2)] [] σ := by
  intro n
  induction n with
  | zero => intro y2 σ h0; cases h0
  | succ n ih => intro y2 σ h0; exact bb_Hall_goesOnAs_86 C hr hk hd hR hh hp0 ih h0
def s_Hall_goesOnAs_71 (h : Nat) (p0 : Nat) (rec15 : Int32 → LH → Option (Int32 × LH)) (y2 : Int32) (z0 : Int32) (σ : LH) : Option (Int32 × LH) :=
  if z0 = 0 then (
   some (0, σ))
  else (
   xl ((y2 + 1) : Int32) fun x21 =>
   rec15 x21 σ)
theorem b_Hall_goesOnAs_71 {G : XG} {l : Launch} {p : Program} {e : Env} {R : Room} {s : State} {m : MethodId} {args : Array Value} {below : List Frame} {meth : Method} {c : Code} (C : XC G 1 570 p s m args c prog_6_method_5_code 4 R_Hall) (hr : meth.sig.returnType = (some .boolean)) (hk : meth.locks = false) {d : Nat} (hd : 1 ≤ d + 1) (hR : xroom R (d + 1)) {h : Nat} {p0 : Nat} (hh : h ∈ xHalls) (hp0 : p0 ∈ xHalls) {rec15 : Int32 → LH → Option (Int32 × LH)} {σ' : LH} {r : Int32} (hrec15 : ∀ (y2 : Int32) (σ : LH), rec15 y2 σ = some (r, σ') → XJ G 1 570 p l e R s m args below meth c 4 (XQ G 1 570 below args s (some (.int r)) σ') 0 0 15 [(0, .ref (G.2.2.1 + h)), (1, .ref (G.2.2.1 + p0)), (2, .int y2)] [] σ) {y2 : Int32} {z0 : Int32} {σ : LH} (h0 : s_Hall_goesOnAs_71 h p0 rec15 y2 z0 σ = some (r, σ')) : XJ G 1 570 p l e R s m args below meth c 4 (XQ G 1 570 below args s (some (.int r)) σ') 0 0 71 [(0, .ref (G.2.2.1 + h)), (1, .ref (G.2.2.1 + p0)), (2, .int y2)] [.int z0] σ := by
  replace h0 := (show _ = _ from h0)
  unfold s_Hall_goesOnAs_71 at h0
  refine x_istore_n (lv' := [(3, .int z0), (0, .ref (G.2.2.1 + h)), (1, .ref (G.2.2.1 + p0)), (2, .int y2)]) C d_Hall_goesOnAs_71 rfl (by decide) rfl ?_
  refine x_iload_n C d_Hall_goesOnAs_72 0 rfl ?_
  refine x_if_ne C 78 d_Hall_goesOnAs_73 (by decide) (fun q20 => ?_) (fun q20 => ?_)
  · replace h0 := xif q20 h0
    obtain ⟨x21, ex21, h0⟩ := xlet h0
    refine x_iinc (lv' := [(2, .int x21), (3, .int z0), (0, .ref (G.2.2.1 + h)), (1, .ref (G.2.2.1 + p0))]) C d_Hall_goesOnAs_78 3 rfl ex21 (by decide) rfl ?_
    refine x_goto C 15 d_Hall_goesOnAs_81 (by decide) ?_
    exact x_lv C [2, 3, 0] rfl (hrec15 _ _ h0)
  · replace h0 := xit q20 h0
    refine x_iconst (v := 0) C d_Hall_goesOnAs_76 (by decide) ?_
    exact x_zret C hr hk (by decide) h0 d_Hall_goesOnAs_77
def s_Hall_goesOnAs_70 (h : Nat) (p0 : Nat) (rec15 : Int32 → LH → Option (Int32 × LH)) (y2 : Int32) (σ : LH) : Option (Int32 × LH) :=
  s_Hall_goesOnAs_71 h p0 rec15 y2 0 σ
theorem b_Hall_goesOnAs_70 {G : XG} {l : Launch} {p : Program} {e : Env} {R : Room} {s : State} {m : MethodId} {args : Array Value} {below : List Frame} {meth : Method} {c : Code} (C : XC G 1 570 p s m args c prog_6_method_5_code 4 R_Hall) (hr : meth.sig.returnType = (some .boolean)) (hk : meth.locks = false) {d : Nat} (hd : 1 ≤ d + 1) (hR : xroom R (d + 1)) {h : Nat} {p0 : Nat} (hh : h ∈ xHalls) (hp0 : p0 ∈ xHalls) {rec15 : Int32 → LH → Option (Int32 × LH)} {σ' : LH} {r : Int32} (hrec15 : ∀ (y2 : Int32) (σ : LH), rec15 y2 σ = some (r, σ') → XJ G 1 570 p l e R s m args below meth c 4 (XQ G 1 570 below args s (some (.int r)) σ') 0 0 15 [(0, .ref (G.2.2.1 + h)), (1, .ref (G.2.2.1 + p0)), (2, .int y2)] [] σ) {y2 : Int32} {σ : LH} (h0 : s_Hall_goesOnAs_70 h p0 rec15 y2 σ = some (r, σ')) : XJ G 1 570 p l e R s m args below meth c 4 (XQ G 1 570 below args s (some (.int r)) σ') 0 0 70 [(0, .ref (G.2.2.1 + h)), (1, .ref (G.2.2.1 + p0)), (2, .int y2)] [] σ := by
  replace h0 := (show _ = _ from h0)
  unfold s_Hall_goesOnAs_70 at h0
  refine x_iconst (v := 0) C d_Hall_goesOnAs_70 (by decide) ?_
  exact x_lv C [0, 1, 2] rfl (b_Hall_goesOnAs_71 C hr hk hd hR hh hp0 hrec15 h0)
def s_Hall_goesOnAs_15_b (h : Nat) (p0 : Nat) (rec15 : Int32 → LH → Option (Int32 × LH)) (y2 : Int32) (σ : LH) : Option (Int32 × LH) :=
  if 8 ≤ y2 then (
   s_Hall_goesOnAs_86 h p0 FUEL 0 σ)
  else (
   if ib y2 8 then (
   if ib y2 8 then (
   if (σ.1 (h + 1) (Int32.toNatClampNeg y2)) = (σ.1 (p0 + 1) (Int32.toNatClampNeg y2)) then (
    if ib y2 8 then (
    if ib y2 8 then (
    if (σ.1 (h + 2) (Int32.toNatClampNeg y2)) = (σ.1 (p0 + 2) (Int32.toNatClampNeg y2)) then (
     if ib y2 8 then (
     if ib y2 8 then (
     if (σ.1 (h + 3) (Int32.toNatClampNeg y2)) = (σ.1 (p0 + 3) (Int32.toNatClampNeg y2)) then (
      s_Hall_goesOnAs_71 h p0 rec15 y2 1 σ)
     else (
      s_Hall_goesOnAs_70 h p0 rec15 y2 σ)) else none) else none)
    else (
     s_Hall_goesOnAs_70 h p0 rec15 y2 σ)) else none) else none)
   else (
    s_Hall_goesOnAs_70 h p0 rec15 y2 σ)) else none) else none)
def s_Hall_goesOnAs_15 (h : Nat) (p0 : Nat) : Nat → Int32 → LH → Option (Int32 × LH)
  | 0, _, _ => none
  | n + 1, y2, σ => s_Hall_goesOnAs_15_b h p0 (s_Hall_goesOnAs_15 h p0 n) y2 σ
theorem bb_Hall_goesOnAs_15 {G : XG} {l : Launch} {p : Program} {e : Env} {R : Room} {s : State} {m : MethodId} {args : Array Value} {below : List Frame} {meth : Method} {c : Code} (C : XC G 1 570 p s m args c prog_6_method_5_code 4 R_Hall) (hr : meth.sig.returnType = (some .boolean)) (hk : meth.locks = false) {d : Nat} (hd : 1 ≤ d + 1) (hR : xroom R (d + 1)) {h : Nat} {p0 : Nat} (hh : h ∈ xHalls) (hp0 : p0 ∈ xHalls) {rec15 : Int32 → LH → Option (Int32 × LH)} {σ' : LH} {r : Int32} (hrec15 : ∀ (y2 : Int32) (σ : LH), rec15 y2 σ = some (r, σ') → XJ G 1 570 p l e R s m args below meth c 4 (XQ G 1 570 below args s (some (.int r)) σ') 0 0 15 [(0, .ref (G.2.2.1 + h)), (1, .ref (G.2.2.1 + p0)), (2, .int y2)] [] σ) {y2 : Int32} {σ : LH} (h0 : s_Hall_goesOnAs_15_b h p0 rec15 y2 σ = some (r, σ')) : XJ G 1 570 p l e R s m args below meth c 4 (XQ G 1 570 below args s (some (.int r)) σ') 0 0 15 [(0, .ref (G.2.2.1 + h)), (1, .ref (G.2.2.1 + p0)), (2, .int y2)] [] σ := by
  replace h0 := (show _ = _ from h0)
  unfold s_Hall_goesOnAs_15_b at h0
  refine x_iload_n C d_Hall_goesOnAs_15 2 rfl ?_
  refine x_bipush (v := 8) C d_Hall_goesOnAs_16 (by decide) ?_
  refine x_icmp_ge C 84 d_Hall_goesOnAs_18 (by decide) (fun q2 => ?_) (fun q2 => ?_)
  · replace h0 := xit q2 h0
    refine x_iconst (v := 0) C d_Hall_goesOnAs_84 (by decide) ?_
    refine x_istore_n (lv' := [(2, .int 0), (0, .ref (G.2.2.1 + h)), (1, .ref (G.2.2.1 + p0))]) C d_Hall_goesOnAs_85 rfl (by decide) rfl ?_
    exact x_lv C [1, 2, 0] rfl (b_Hall_goesOnAs_86 C hr hk hd hR hh hp0 FUEL _ _ h0)
  · replace h0 := xif q2 h0
    refine x_aload_n C d_Hall_goesOnAs_21 0 rfl ?_
    refine x_getR (y := 1) C fg_Hall_9 (hl_0 hh) rfl d_Hall_goesOnAs_22 ?_
    refine x_iload_n C d_Hall_goesOnAs_25 2 rfl ?_
    obtain ⟨g11, h0⟩ := xgo h0
    refine x_iald C (hl_1 hh) (ib_in g11) d_Hall_goesOnAs_26 ?_
    refine x_aload_n C d_Hall_goesOnAs_27 1 rfl ?_
    refine x_getR (y := 1) C fg_Hall_9 (hl_0 hp0) rfl d_Hall_goesOnAs_28 ?_
    refine x_iload_n C d_Hall_goesOnAs_31 2 rfl ?_
    obtain ⟨g12, h0⟩ := xgo h0
    refine x_iald C (hl_1 hp0) (ib_in g12) d_Hall_goesOnAs_32 ?_
    refine x_icmp_ne C 70 d_Hall_goesOnAs_33 (by decide) (fun q13 => ?_) (fun q13 => ?_)
    · replace h0 := xif q13 h0
      exact x_lv C [0, 1, 2] rfl (b_Hall_goesOnAs_70 C hr hk hd hR hh hp0 hrec15 h0)
    · replace h0 := xit q13 h0
      refine x_aload_n C d_Hall_goesOnAs_36 0 rfl ?_
      refine x_getR (y := 2) C fg_Hall_15 (hl_0 hh) rfl d_Hall_goesOnAs_37 ?_
      refine x_iload_n C d_Hall_goesOnAs_40 2 rfl ?_
      obtain ⟨g14, h0⟩ := xgo h0
      refine x_iald C (hl_2 hh) (ib_in g14) d_Hall_goesOnAs_41 ?_
      refine x_aload_n C d_Hall_goesOnAs_42 1 rfl ?_
      refine x_getR (y := 2) C fg_Hall_15 (hl_0 hp0) rfl d_Hall_goesOnAs_43 ?_
      refine x_iload_n C d_Hall_goesOnAs_46 2 rfl ?_
      obtain ⟨g15, h0⟩ := xgo h0
      refine x_iald C (hl_2 hp0) (ib_in g15) d_Hall_goesOnAs_47 ?_
      refine x_icmp_ne C 70 d_Hall_goesOnAs_48 (by decide) (fun q16 => ?_) (fun q16 => ?_)
      · replace h0 := xif q16 h0
        exact x_lv C [0, 1, 2] rfl (b_Hall_goesOnAs_70 C hr hk hd hR hh hp0 hrec15 h0)
      · replace h0 := xit q16 h0
        refine x_aload_n C d_Hall_goesOnAs_51 0 rfl ?_
        refine x_getR (y := 3) C fg_Hall_18 (hl_0 hh) rfl d_Hall_goesOnAs_52 ?_
        refine x_iload_n C d_Hall_goesOnAs_55 2 rfl ?_
        obtain ⟨g17, h0⟩ := xgo h0
        refine x_iald C (hl_3 hh) (ib_in g17) d_Hall_goesOnAs_56 ?_
        refine x_aload_n C d_Hall_goesOnAs_57 1 rfl ?_
        refine x_getR (y := 3) C fg_Hall_18 (hl_0 hp0) rfl d_Hall_goesOnAs_58 ?_
        refine x_iload_n C d_Hall_goesOnAs_61 2 rfl ?_
        obtain ⟨g18, h0⟩ := xgo h0
        refine x_iald C (hl_3 hp0) (ib_in g18) d_Hall_goesOnAs_62 ?_
        refine x_icmp_ne C 70 d_Hall_goesOnAs_63 (by decide) (fun q19 => ?_) (fun q19 => ?_)
        · replace h0 := xif q19 h0
          exact x_lv C [0, 1, 2] rfl (b_Hall_goesOnAs_70 C hr hk hd hR hh hp0 hrec15 h0)
        · replace h0 := xit q19 h0
          refine x_iconst (v := 1) C d_Hall_goesOnAs_66 (by decide) ?_
          refine x_goto C 71 d_Hall_goesOnAs_67 (by decide) ?_
          exact x_lv C [0, 1, 2] rfl (b_Hall_goesOnAs_71 C hr hk hd hR hh hp0 hrec15 h0)
theorem b_Hall_goesOnAs_15 {G : XG} {l : Launch} {p : Program} {e : Env} {R : Room} {s : State} {m : MethodId} {args : Array Value} {below : List Frame} {meth : Method} {c : Code} (C : XC G 1 570 p s m args c prog_6_method_5_code 4 R_Hall) (hr : meth.sig.returnType = (some .boolean)) (hk : meth.locks = false) {d : Nat} (hd : 1 ≤ d + 1) (hR : xroom R (d + 1)) {h : Nat} {p0 : Nat} (hh : h ∈ xHalls) (hp0 : p0 ∈ xHalls) {σ' : LH} {r : Int32} : ∀ (n : Nat) (y2 : Int32) (σ : LH), s_Hall_goesOnAs_15 h p0 n y2 σ = some (r, σ') → XJ G 1 570 p l e R s m args below meth c 4 (XQ G 1 570 below args s (some (.int r)) σ') 0 0 15 [(0, .ref (G.2.2.1 + h)), (1, .ref (G.2.2.1 + p0)), (2, .int y2)] [] σ := by
  intro n
  induction n with
  | zero => intro y2 σ h0; cases h0
  | succ n ih => intro y2 σ h0; exact bb_Hall_goesOnAs_15 C hr hk hd hR hh hp0 ih h0
def s_Hall_goesOnAs (h : Nat) (p0 : Nat) (σ : LH) : Option (Int32 × LH) :=
  if (σ.1 h 7) = (σ.1 p0 7) then (
   s_Hall_goesOnAs_15 h p0 FUEL 0 σ)
  else (
   some (0, σ))
theorem c_Hall_goesOnAs {G : XG} {l : Launch} {d : Nat} (hd : 1 ≤ d) {h : Nat} {p0 : Nat} (hh : h ∈ xHalls) (hp0 : p0 ∈ xHalls) {σ σ' : LH} {r : Int32} (h0 : s_Hall_goesOnAs h p0 σ = some (r, σ')) : xM G 1 570 l y_Hall_goesOnAs prog_6_method_5_code 4 (some .boolean) d [.ref (G.2.2.1 + h), .ref (G.2.2.1 + p0)] σ (some (.int r)) σ' := by
  obtain ⟨d, rfl⟩ : ∃ q, d = q + 1 := ⟨d - 1, by omega⟩
  refine x_met R_Hall rfl (by decide +kernel) (Nat.le_of_ble_eq_true rfl) fun p e s m below meth c C hr hk hR => ?_
  refine x_lv (lv' := [(0, .ref (G.2.2.1 + h)), (1, .ref (G.2.2.1 + p0))]) C [0, 1] rfl ?_
  generalize xrm (d + 1) = R at hR ⊢
  unfold s_Hall_goesOnAs at h0
  refine x_aload_n C d_Hall_goesOnAs_0 0 rfl ?_
  refine x_getI (y := 0) C fg_Hall_33 (hl_0 hh) rfl d_Hall_goesOnAs_1 ?_
  refine x_aload_n C d_Hall_goesOnAs_4 1 rfl ?_
  refine x_getI (y := 0) C fg_Hall_33 (hl_0 hp0) rfl d_Hall_goesOnAs_5 ?_
  refine x_icmp_eq C 13 d_Hall_goesOnAs_8 (by decide) (fun q1 => ?_) (fun q1 => ?_)
  · replace h0 := xit q1 h0
    refine x_iconst (v := 0) C d_Hall_goesOnAs_13 (by decide) ?_
    refine x_istore_n (lv' := [(2, .int 0), (0, .ref (G.2.2.1 + h)), (1, .ref (G.2.2.1 + p0))]) C d_Hall_goesOnAs_14 rfl (by decide) rfl ?_
    exact x_lv C [1, 2, 0] rfl (b_Hall_goesOnAs_15 C hr hk hd hR hh hp0 FUEL _ _ h0)
  · replace h0 := xif q1 h0
    refine x_iconst (v := 0) C d_Hall_goesOnAs_11 (by decide) ?_
    exact x_zret C hr hk (by decide) h0 d_Hall_goesOnAs_12
-- LostPlaces$Branches.lineUp()V
theorem d_Branches_lineUp_0 : decode prog_2_method_8_code 0 = .ok (.aload_n 0, 1) := by decide +kernel
theorem d_Branches_lineUp_1 : decode prog_2_method_8_code 1 = .ok (.iconst 0, 1) := by decide +kernel
theorem d_Branches_lineUp_2 : decode prog_2_method_8_code 2 = .ok (.putfield 40, 3) := by decide +kernel
theorem d_Branches_lineUp_5 : decode prog_2_method_8_code 5 = .ok (.aload_n 0, 1) := by decide +kernel
theorem d_Branches_lineUp_6 : decode prog_2_method_8_code 6 = .ok (.getfield 70, 3) := by decide +kernel
theorem d_Branches_lineUp_9 : decode prog_2_method_8_code 9 = .ok (.getfield 99, 3) := by decide +kernel
theorem d_Branches_lineUp_12 : decode prog_2_method_8_code 12 = .ok (.istore_n 1, 1) := by decide +kernel
theorem d_Branches_lineUp_13 : decode prog_2_method_8_code 13 = .ok (.iload_n 1, 1) := by decide +kernel
theorem d_Branches_lineUp_14 : decode prog_2_method_8_code 14 = .ok (.bipush 100, 2) := by decide +kernel
theorem d_Branches_lineUp_16 : decode prog_2_method_8_code 16 = .ok (.if_icmp .ge 73, 3) := by decide +kernel
theorem d_Branches_lineUp_19 : decode prog_2_method_8_code 19 = .ok (.iconst 0, 1) := by decide +kernel
theorem d_Branches_lineUp_20 : decode prog_2_method_8_code 20 = .ok (.istore_n 2, 1) := by decide +kernel
theorem d_Branches_lineUp_21 : decode prog_2_method_8_code 21 = .ok (.iload_n 2, 1) := by decide +kernel
theorem d_Branches_lineUp_22 : decode prog_2_method_8_code 22 = .ok (.aload_n 0, 1) := by decide +kernel
theorem d_Branches_lineUp_23 : decode prog_2_method_8_code 23 = .ok (.getfield 58, 3) := by decide +kernel
theorem d_Branches_lineUp_26 : decode prog_2_method_8_code 26 = .ok (.getfield 133, 3) := by decide +kernel
theorem d_Branches_lineUp_29 : decode prog_2_method_8_code 29 = .ok (.if_icmp .ge 54, 3) := by decide +kernel
theorem d_Branches_lineUp_32 : decode prog_2_method_8_code 32 = .ok (.aload_n 0, 1) := by decide +kernel
theorem d_Branches_lineUp_33 : decode prog_2_method_8_code 33 = .ok (.getfield 58, 3) := by decide +kernel
theorem d_Branches_lineUp_36 : decode prog_2_method_8_code 36 = .ok (.getfield 136, 3) := by decide +kernel
theorem d_Branches_lineUp_39 : decode prog_2_method_8_code 39 = .ok (.iload_n 2, 1) := by decide +kernel
theorem d_Branches_lineUp_40 : decode prog_2_method_8_code 40 = .ok (.iaload, 1) := by decide +kernel
theorem d_Branches_lineUp_41 : decode prog_2_method_8_code 41 = .ok (.iload_n 1, 1) := by decide +kernel
theorem d_Branches_lineUp_42 : decode prog_2_method_8_code 42 = .ok (.if_icmp .ne 35, 3) := by decide +kernel
theorem d_Branches_lineUp_45 : decode prog_2_method_8_code 45 = .ok (.aload_n 0, 1) := by decide +kernel
theorem d_Branches_lineUp_46 : decode prog_2_method_8_code 46 = .ok (.getfield 40, 3) := by decide +kernel
theorem d_Branches_lineUp_49 : decode prog_2_method_8_code 49 = .ok (.bipush 10, 2) := by decide +kernel
theorem d_Branches_lineUp_51 : decode prog_2_method_8_code 51 = .ok (.if_icmp .lt 6, 3) := by decide +kernel
theorem d_Branches_lineUp_54 : decode prog_2_method_8_code 54 = .ok (.goto 23, 3) := by decide +kernel
theorem d_Branches_lineUp_57 : decode prog_2_method_8_code 57 = .ok (.aload_n 0, 1) := by decide +kernel
theorem d_Branches_lineUp_58 : decode prog_2_method_8_code 58 = .ok (.getfield 37, 3) := by decide +kernel
theorem d_Branches_lineUp_61 : decode prog_2_method_8_code 61 = .ok (.aload_n 0, 1) := by decide +kernel
theorem d_Branches_lineUp_62 : decode prog_2_method_8_code 62 = .ok (.getfield 40, 3) := by decide +kernel
theorem d_Branches_lineUp_65 : decode prog_2_method_8_code 65 = .ok (.iload_n 2, 1) := by decide +kernel
theorem d_Branches_lineUp_66 : decode prog_2_method_8_code 66 = .ok (.iastore, 1) := by decide +kernel
theorem d_Branches_lineUp_67 : decode prog_2_method_8_code 67 = .ok (.aload_n 0, 1) := by decide +kernel
theorem d_Branches_lineUp_68 : decode prog_2_method_8_code 68 = .ok (.dup, 1) := by decide +kernel
theorem d_Branches_lineUp_69 : decode prog_2_method_8_code 69 = .ok (.getfield 40, 3) := by decide +kernel
theorem d_Branches_lineUp_72 : decode prog_2_method_8_code 72 = .ok (.iconst 1, 1) := by decide +kernel
theorem d_Branches_lineUp_73 : decode prog_2_method_8_code 73 = .ok (.iadd, 1) := by decide +kernel
theorem d_Branches_lineUp_74 : decode prog_2_method_8_code 74 = .ok (.putfield 40, 3) := by decide +kernel
theorem d_Branches_lineUp_77 : decode prog_2_method_8_code 77 = .ok (.iinc 2 1, 3) := by decide +kernel
theorem d_Branches_lineUp_80 : decode prog_2_method_8_code 80 = .ok (.goto (-59), 3) := by decide +kernel
theorem d_Branches_lineUp_83 : decode prog_2_method_8_code 83 = .ok (.iinc 1 1, 3) := by decide +kernel
theorem d_Branches_lineUp_86 : decode prog_2_method_8_code 86 = .ok (.goto (-73), 3) := by decide +kernel
theorem d_Branches_lineUp_89 : decode prog_2_method_8_code 89 = .ok (.return_, 1) := by decide +kernel
def s_Branches_lineUp_77 (rec21 : Int32 → Int32 → LH → Option (LH)) (y1 : Int32) (y2 : Int32) (σ : LH) : Option (LH) :=
  xl ((y2 + 1) : Int32) fun x12 =>
  rec21 y1 x12 σ
theorem b_Branches_lineUp_77 {G : XG} {l : Launch} {p : Program} {e : Env} {R : Room} {s : State} {m : MethodId} {args : Array Value} {below : List Frame} {meth : Method} {c : Code} (C : XC G 1 570 p s m args c prog_2_method_8_code 3 R_Branches) (hr : meth.sig.returnType = none) (hk : meth.locks = false) {d : Nat} (hd : 1 ≤ d + 1) (hR : xroom R (d + 1)) {rec21 : Int32 → Int32 → LH → Option (LH)} {σ' : LH} (hrec21 : ∀ (y1 : Int32) (y2 : Int32) (σ : LH), rec21 y1 y2 σ = some σ' → XJ G 1 570 p l e R s m args below meth c 3 (XQ G 1 570 below args s none σ') 0 0 21 [(0, .ref (G.2.2.1 + 81)), (1, .int y1), (2, .int y2)] [] σ) {y1 : Int32} {y2 : Int32} {σ : LH} (h0 : s_Branches_lineUp_77 rec21 y1 y2 σ = some σ') : XJ G 1 570 p l e R s m args below meth c 3 (XQ G 1 570 below args s none σ') 0 0 77 [(0, .ref (G.2.2.1 + 81)), (1, .int y1), (2, .int y2)] [] σ := by
  replace h0 := (show _ = _ from h0)
  unfold s_Branches_lineUp_77 at h0
  obtain ⟨x12, ex12, h0⟩ := xlet h0
  refine x_iinc (lv' := [(2, .int x12), (0, .ref (G.2.2.1 + 81)), (1, .int y1)]) C d_Branches_lineUp_77 2 rfl ex12 (by decide) rfl ?_
  refine x_goto C 21 d_Branches_lineUp_80 (by decide) ?_
  exact x_lv C [1, 2, 0] rfl (hrec21 _ _ _ h0)
def s_Branches_lineUp_21_b (rec13 : Int32 → LH → Option (LH)) (rec21 : Int32 → Int32 → LH → Option (LH)) (y1 : Int32) (y2 : Int32) (σ : LH) : Option (LH) :=
  if (σ.1 4 2) ≤ y2 then (
   xl ((y1 + 1) : Int32) fun x5 =>
   rec13 x5 σ)
  else (
   if ib y2 10 then (
   if (σ.1 13 (Int32.toNatClampNeg y2)) = y1 then (
    if (σ.1 81 12) < 10 then (
     if ib (σ.1 81 12) 10 then (
     xl ((stI σ 85 (Int32.toNatClampNeg (σ.1 81 12)) y2) : LH) fun σ10 =>
     xl ((stI σ10 81 12 ((σ10.1 81 12) + 1)) : LH) fun σ11 =>
     s_Branches_lineUp_77 rec21 y1 y2 σ11) else none)
    else (
     s_Branches_lineUp_77 rec21 y1 y2 σ))
   else (
    s_Branches_lineUp_77 rec21 y1 y2 σ)) else none)
def s_Branches_lineUp_21 (rec13 : Int32 → LH → Option (LH)) : Nat → Int32 → Int32 → LH → Option (LH)
  | 0, _, _, _ => none
  | n + 1, y1, y2, σ => s_Branches_lineUp_21_b rec13 (s_Branches_lineUp_21 rec13 n) y1 y2 σ
theorem bb_Branches_lineUp_21 {G : XG} {l : Launch} {p : Program} {e : Env} {R : Room} {s : State} {m : MethodId} {args : Array Value} {below : List Frame} {meth : Method} {c : Code} (C : XC G 1 570 p s m args c prog_2_method_8_code 3 R_Branches) (hr : meth.sig.returnType = none) (hk : meth.locks = false) {d : Nat} (hd : 1 ≤ d + 1) (hR : xroom R (d + 1)) {rec13 : Int32 → LH → Option (LH)} {rec21 : Int32 → Int32 → LH → Option (LH)} {σ' : LH} (hrec13 : ∀ (y1 : Int32) (σ : LH), rec13 y1 σ = some σ' → XJ G 1 570 p l e R s m args below meth c 3 (XQ G 1 570 below args s none σ') 0 0 13 [(0, .ref (G.2.2.1 + 81)), (1, .int y1)] [] σ) (hrec21 : ∀ (y1 : Int32) (y2 : Int32) (σ : LH), rec21 y1 y2 σ = some σ' → XJ G 1 570 p l e R s m args below meth c 3 (XQ G 1 570 below args s none σ') 0 0 21 [(0, .ref (G.2.2.1 + 81)), (1, .int y1), (2, .int y2)] [] σ) {y1 : Int32} {y2 : Int32} {σ : LH} (h0 : s_Branches_lineUp_21_b rec13 rec21 y1 y2 σ = some σ') : XJ G 1 570 p l e R s m args below meth c 3 (XQ G 1 570 below args s none σ') 0 0 21 [(0, .ref (G.2.2.1 + 81)), (1, .int y1), (2, .int y2)] [] σ := by
  replace h0 := (show _ = _ from h0)
  unfold s_Branches_lineUp_21_b at h0
  refine x_iload_n C d_Branches_lineUp_21 2 rfl ?_
  refine x_aload_n C d_Branches_lineUp_22 0 rfl ?_
  refine x_getA (y := 4) C fg_Branches_58 k_81 rfl d_Branches_lineUp_23 ?_
  refine x_getI (y := 0) C fg_Branches_133 k_4 rfl d_Branches_lineUp_26 ?_
  refine x_icmp_ge C 83 d_Branches_lineUp_29 (by decide) (fun q4 => ?_) (fun q4 => ?_)
  · replace h0 := xit q4 h0
    obtain ⟨x5, ex5, h0⟩ := xlet h0
    refine x_iinc (lv' := [(1, .int x5), (0, .ref (G.2.2.1 + 81)), (2, .int y2)]) C d_Branches_lineUp_83 1 rfl ex5 (by decide) rfl ?_
    refine x_goto C 13 d_Branches_lineUp_86 (by decide) ?_
    exact x_lv C [1, 0] rfl (hrec13 _ _ h0)
  · replace h0 := xif q4 h0
    refine x_aload_n C d_Branches_lineUp_32 0 rfl ?_
    refine x_getA (y := 4) C fg_Branches_58 k_81 rfl d_Branches_lineUp_33 ?_
    refine x_getR (y := 9) C fg_Branches_136 k_4 rfl d_Branches_lineUp_36 ?_
    show XJ _ _ _ _ _ _ _ _ _ _ _ _ _ _ _ _ _ _ _ (.ref (G.2.2.1 + 13) :: _) _
    refine x_iload_n C d_Branches_lineUp_39 2 rfl ?_
    obtain ⟨g6, h0⟩ := xgo h0
    refine x_iald C k_13 (ib_in g6) d_Branches_lineUp_40 ?_
    refine x_iload_n C d_Branches_lineUp_41 1 rfl ?_
    refine x_icmp_ne C 77 d_Branches_lineUp_42 (by decide) (fun q7 => ?_) (fun q7 => ?_)
    · replace h0 := xif q7 h0
      exact x_lv C [0, 1, 2] rfl (b_Branches_lineUp_77 C hr hk hd hR hrec21 h0)
    · replace h0 := xit q7 h0
      refine x_aload_n C d_Branches_lineUp_45 0 rfl ?_
      refine x_getI (y := 0) C fg_Branches_40 k_81 rfl d_Branches_lineUp_46 ?_
      refine x_bipush (v := 10) C d_Branches_lineUp_49 (by decide) ?_
      refine x_icmp_lt C 57 d_Branches_lineUp_51 (by decide) (fun q8 => ?_) (fun q8 => ?_)
      · replace h0 := xit q8 h0
        refine x_aload_n C d_Branches_lineUp_57 0 rfl ?_
        refine x_getA (y := 85) C fg_Branches_37 k_81 rfl d_Branches_lineUp_58 ?_
        refine x_aload_n C d_Branches_lineUp_61 0 rfl ?_
        refine x_getI (y := 0) C fg_Branches_40 k_81 rfl d_Branches_lineUp_62 ?_
        refine x_iload_n C d_Branches_lineUp_65 2 rfl ?_
        obtain ⟨g9, h0⟩ := xgo h0
        refine x_iast C k_85 (ib_in g9) d_Branches_lineUp_66 ?_
        obtain ⟨σ10, eσ10, h0⟩ := xlet h0
        refine x_sig C eσ10 ?_
        refine x_aload_n C d_Branches_lineUp_67 0 rfl ?_
        refine x_dup C d_Branches_lineUp_68 rfl ?_
        refine x_getI (y := 0) C fg_Branches_40 k_81 rfl d_Branches_lineUp_69 ?_
        refine x_iconst (v := 1) C d_Branches_lineUp_72 (by decide) ?_
        refine x_iadd C d_Branches_lineUp_73 ?_
        refine x_putI (y := 0) C fp_Branches_40 k_81 rfl rfl rfl d_Branches_lineUp_74 ?_
        obtain ⟨σ11, eσ11, h0⟩ := xlet h0
        refine x_sig C eσ11 ?_
        exact x_lv C [0, 1, 2] rfl (b_Branches_lineUp_77 C hr hk hd hR hrec21 h0)
      · replace h0 := xif q8 h0
        refine x_goto C 77 d_Branches_lineUp_54 (by decide) ?_
        exact x_lv C [0, 1, 2] rfl (b_Branches_lineUp_77 C hr hk hd hR hrec21 h0)
theorem b_Branches_lineUp_21 {G : XG} {l : Launch} {p : Program} {e : Env} {R : Room} {s : State} {m : MethodId} {args : Array Value} {below : List Frame} {meth : Method} {c : Code} (C : XC G 1 570 p s m args c prog_2_method_8_code 3 R_Branches) (hr : meth.sig.returnType = none) (hk : meth.locks = false) {d : Nat} (hd : 1 ≤ d + 1) (hR : xroom R (d + 1)) {rec13 : Int32 → LH → Option (LH)} {σ' : LH} (hrec13 : ∀ (y1 : Int32) (σ : LH), rec13 y1 σ = some σ' → XJ G 1 570 p l e R s m args below meth c 3 (XQ G 1 570 below args s none σ') 0 0 13 [(0, .ref (G.2.2.1 + 81)), (1, .int y1)] [] σ) : ∀ (n : Nat) (y1 : Int32) (y2 : Int32) (σ : LH), s_Branches_lineUp_21 rec13 n y1 y2 σ = some σ' → XJ G 1 570 p l e R s m args below meth c 3 (XQ G 1 570 below args s none σ') 0 0 21 [(0, .ref (G.2.2.1 + 81)), (1, .int y1), (2, .int y2)] [] σ := by
  intro n
  induction n with
  | zero => intro y1 y2 σ h0; cases h0
  | succ n ih => intro y1 y2 σ h0; exact bb_Branches_lineUp_21 C hr hk hd hR hrec13 ih h0
def s_Branches_lineUp_13_b (rec13 : Int32 → LH → Option (LH)) (y1 : Int32) (σ : LH) : Option (LH) :=
  if 100 ≤ y1 then (
   some σ)
  else (
   s_Branches_lineUp_21 rec13 FUEL y1 0 σ)
def s_Branches_lineUp_13 : Nat → Int32 → LH → Option (LH)
  | 0, _, _ => none
  | n + 1, y1, σ => s_Branches_lineUp_13_b (s_Branches_lineUp_13 n) y1 σ
theorem bb_Branches_lineUp_13 {G : XG} {l : Launch} {p : Program} {e : Env} {R : Room} {s : State} {m : MethodId} {args : Array Value} {below : List Frame} {meth : Method} {c : Code} (C : XC G 1 570 p s m args c prog_2_method_8_code 3 R_Branches) (hr : meth.sig.returnType = none) (hk : meth.locks = false) {d : Nat} (hd : 1 ≤ d + 1) (hR : xroom R (d + 1)) {rec13 : Int32 → LH → Option (LH)} {σ' : LH} (hrec13 : ∀ (y1 : Int32) (σ : LH), rec13 y1 σ = some σ' → XJ G 1 570 p l e R s m args below meth c 3 (XQ G 1 570 below args s none σ') 0 0 13 [(0, .ref (G.2.2.1 + 81)), (1, .int y1)] [] σ) {y1 : Int32} {σ : LH} (h0 : s_Branches_lineUp_13_b rec13 y1 σ = some σ') : XJ G 1 570 p l e R s m args below meth c 3 (XQ G 1 570 below args s none σ') 0 0 13 [(0, .ref (G.2.2.1 + 81)), (1, .int y1)] [] σ := by
  replace h0 := (show _ = _ from h0)
  unfold s_Branches_lineUp_13_b at h0
  refine x_iload_n C d_Branches_lineUp_13 1 rfl ?_
  refine x_bipush (v := 100) C d_Branches_lineUp_14 (by decide) ?_
  refine x_icmp_ge C 89 d_Branches_lineUp_16 (by decide) (fun q3 => ?_) (fun q3 => ?_)
  · replace h0 := xit q3 h0
    exact x_vret C hr hk h0 d_Branches_lineUp_89
  · replace h0 := xif q3 h0
    refine x_iconst (v := 0) C d_Branches_lineUp_19 (by decide) ?_
    refine x_istore_n (lv' := [(2, .int 0), (0, .ref (G.2.2.1 + 81)), (1, .int y1)]) C d_Branches_lineUp_20 rfl (by decide) rfl ?_
    exact x_lv C [1, 2, 0] rfl (b_Branches_lineUp_21 C hr hk hd hR hrec13 FUEL _ _ _ h0)
theorem b_Branches_lineUp_13 {G : XG} {l : Launch} {p : Program} {e : Env} {R : Room} {s : State} {m : MethodId} {args : Array Value} {below : List Frame} {meth : Method} {c : Code} (C : XC G 1 570 p s m args c prog_2_method_8_code 3 R_Branches) (hr : meth.sig.returnType = none) (hk : meth.locks = false) {d : Nat} (hd : 1 ≤ d + 1) (hR : xroom R (d + 1)) {σ' : LH} : ∀ (n : Nat) (y1 : Int32) (σ : LH), s_Branches_lineUp_13 n y1 σ = some σ' → XJ G 1 570 p l e R s m args below meth c 3 (XQ G 1 570 below args s none σ') 0 0 13 [(0, .ref (G.2.2.1 + 81)), (1, .int y1)] [] σ := by
  intro n
  induction n with
  | zero => intro y1 σ h0; cases h0
  | succ n ih => intro y1 σ h0; exact bb_Branches_lineUp_13 C hr hk hd hR ih h0
def s_Branches_lineUp (σ : LH) : Option (LH) :=
  xl ((stI σ 81 12 0) : LH) fun σ1 =>
  xl (((σ1.1 39 7)) : Int32) fun x2 =>
  s_Branches_lineUp_13 FUEL x2 σ1
theorem c_Branches_lineUp {G : XG} {l : Launch} {d : Nat} (hd : 1 ≤ d) {σ σ' : LH} (h0 : s_Branches_lineUp σ = some σ') : xM G 1 570 l y_Branches_lineUp prog_2_method_8_code 3 none d [.ref (G.2.2.1 + 81)] σ none σ' := by
  obtain ⟨d, rfl⟩ : ∃ q, d = q + 1 := ⟨d - 1, by omega⟩
  refine x_met R_Branches rfl (by decide +kernel) (Nat.le_of_ble_eq_true rfl) fun p e s m below meth c C hr hk hR => ?_
  refine x_lv (lv' := [(0, .ref (G.2.2.1 + 81))]) C [0] rfl ?_
  generalize xrm (d + 1) = R at hR ⊢
  unfold s_Branches_lineUp at h0
  refine x_aload_n C d_Branches_lineUp_0 0 rfl ?_
  refine x_iconst (v := 0) C d_Branches_lineUp_1 (by decide) ?_
  refine x_putI (y := 0) C fp_Branches_40 k_81 rfl rfl rfl d_Branches_lineUp_2 ?_
  obtain ⟨σ1, eσ1, h0⟩ := xlet h0
  refine x_sig C eσ1 ?_
  refine x_aload_n C d_Branches_lineUp_5 0 rfl ?_
  refine x_getA (y := 39) C fg_Branches_70 k_81 rfl d_Branches_lineUp_6 ?_
  refine x_getI (y := 0) C fg_Branches_99 k_39 rfl d_Branches_lineUp_9 ?_
  obtain ⟨x2, ex2, h0⟩ := xlet h0
  refine x_name C ex2 ?_
  refine x_istore_n (lv' := [(1, .int x2), (0, .ref (G.2.2.1 + 81))]) C d_Branches_lineUp_12 rfl (by decide) rfl ?_
  exact x_lv C [1, 0] rfl (b_Branches_lineUp_13 C hr hk hd hR FUEL _ _ h0)
-- LostPlaces$Branches.isAsTold(LLostPlaces$Hall;)Z
theorem d_Branches_isAsTold_0 : decode prog_2_method_5_code 0 = .ok (.iconst 0, 1) := by decide +kernel
theorem d_Branches_isAsTold_1 : decode prog_2_method_5_code 1 = .ok (.istore_n 2, 1) := by decide +kernel
theorem d_Branches_isAsTold_2 : decode prog_2_method_5_code 2 = .ok (.iload_n 2, 1) := by decide +kernel
theorem d_Branches_isAsTold_3 : decode prog_2_method_5_code 3 = .ok (.aload_n 0, 1) := by decide +kernel
theorem d_Branches_isAsTold_4 : decode prog_2_method_5_code 4 = .ok (.getfield 34, 3) := by decide +kernel
theorem d_Branches_isAsTold_7 : decode prog_2_method_5_code 7 = .ok (.if_icmp .ge 49, 3) := by decide +kernel
theorem d_Branches_isAsTold_10 : decode prog_2_method_5_code 10 = .ok (.iload_n 2, 1) := by decide +kernel
theorem d_Branches_isAsTold_11 : decode prog_2_method_5_code 11 = .ok (.bipush 8, 2) := by decide +kernel
theorem d_Branches_isAsTold_13 : decode prog_2_method_5_code 13 = .ok (.if_icmp .ge 43, 3) := by decide +kernel
theorem d_Branches_isAsTold_16 : decode prog_2_method_5_code 16 = .ok (.aload_n 0, 1) := by decide +kernel
theorem d_Branches_isAsTold_17 : decode prog_2_method_5_code 17 = .ok (.getfield 27, 3) := by decide +kernel
theorem d_Branches_isAsTold_20 : decode prog_2_method_5_code 20 = .ok (.iload_n 2, 1) := by decide +kernel
theorem d_Branches_isAsTold_21 : decode prog_2_method_5_code 21 = .ok (.iaload, 1) := by decide +kernel
theorem d_Branches_isAsTold_22 : decode prog_2_method_5_code 22 = .ok (.istore_n 3, 1) := by decide +kernel
theorem d_Branches_isAsTold_23 : decode prog_2_method_5_code 23 = .ok (.iload_n 3, 1) := by decide +kernel
theorem d_Branches_isAsTold_24 : decode prog_2_method_5_code 24 = .ok (.ifCond .lt 26, 3) := by decide +kernel
theorem d_Branches_isAsTold_27 : decode prog_2_method_5_code 27 = .ok (.iload_n 3, 1) := by decide +kernel
theorem d_Branches_isAsTold_28 : decode prog_2_method_5_code 28 = .ok (.bipush 8, 2) := by decide +kernel
theorem d_Branches_isAsTold_30 : decode prog_2_method_5_code 30 = .ok (.if_icmp .ge 20, 3) := by decide +kernel
theorem d_Branches_isAsTold_33 : decode prog_2_method_5_code 33 = .ok (.aload_n 1, 1) := by decide +kernel
theorem d_Branches_isAsTold_34 : decode prog_2_method_5_code 34 = .ok (.getfield 111, 3) := by decide +kernel
theorem d_Branches_isAsTold_37 : decode prog_2_method_5_code 37 = .ok (.iload_n 3, 1) := by decide +kernel
theorem d_Branches_isAsTold_38 : decode prog_2_method_5_code 38 = .ok (.iaload, 1) := by decide +kernel
theorem d_Branches_isAsTold_39 : decode prog_2_method_5_code 39 = .ok (.aload_n 0, 1) := by decide +kernel
theorem d_Branches_isAsTold_40 : decode prog_2_method_5_code 40 = .ok (.getfield 31, 3) := by decide +kernel
theorem d_Branches_isAsTold_43 : decode prog_2_method_5_code 43 = .ok (.iload_n 2, 1) := by decide +kernel
theorem d_Branches_isAsTold_44 : decode prog_2_method_5_code 44 = .ok (.iaload, 1) := by decide +kernel
theorem d_Branches_isAsTold_45 : decode prog_2_method_5_code 45 = .ok (.if_icmp .eq 5, 3) := by decide +kernel
theorem d_Branches_isAsTold_48 : decode prog_2_method_5_code 48 = .ok (.iconst 0, 1) := by decide +kernel
theorem d_Branches_isAsTold_49 : decode prog_2_method_5_code 49 = .ok (.ireturn, 1) := by decide +kernel
theorem d_Branches_isAsTold_50 : decode prog_2_method_5_code 50 = .ok (.iinc 2 1, 3) := by decide +kernel
theorem d_Branches_isAsTold_53 : decode prog_2_method_5_code 53 = .ok (.goto (-51), 3) := by decide +kernel
theorem d_Branches_isAsTold_56 : decode prog_2_method_5_code 56 = .ok (.iconst 1, 1) := by decide +kernel
theorem d_Branches_isAsTold_57 : decode prog_2_method_5_code 57 = .ok (.ireturn, 1) := by decide +kernel
def s_Branches_isAsTold_56 (p0 : Nat) (σ : LH) : Option (Int32 × LH) :=
  some (1, σ)
theorem b_Branches_isAsTold_56 {G : XG} {l : Launch} {p : Program} {e : Env} {R : Room} {s : State} {m : MethodId} {args : Array Value} {below : List Frame} {meth : Method} {c : Code} (C : XC G 1 570 p s m args c prog_2_method_5_code 4 R_Branches) (hr : meth.sig.returnType = (some .boolean)) (hk : meth.locks = false) {d : Nat} (hd : 1 ≤ d + 1) (hR : xroom R (d + 1)) {p0 : Nat} (hp0 : p0 ∈ xHalls) {σ' : LH} {r : Int32} {σ : LH} (h0 : s_Branches_isAsTold_56 p0 σ = some (r, σ')) : XJ G 1 570 p l e R s m args below meth c 4 (XQ G 1 570 below args s (some (.int r)) σ') 0 0 56 [] [] σ := by
  replace h0 := (show _ = _ from h0)
  unfold s_Branches_isAsTold_56 at h0
  refine x_iconst (v := 1) C d_Branches_isAsTold_56 (by decide) ?_
  exact x_zret C hr hk (by decide) h0 d_Branches_isAsTold_57
def s_Branches_isAsTold_50 (p0 : Nat) (rec2 : Int32 → LH → Option (Int32 × LH)) (y2 : Int32) (σ : LH) : Option (Int32 × LH) :=
  xl ((y2 + 1) : Int32) fun x6 =>
  rec2 x6 σ
theorem b_Branches_isAsTold_50 {G : XG} {l : Launch} {p : Program} {e : Env} {R : Room} {s : State} {m : MethodId} {args : Array Value} {below : List Frame} {meth : Method} {c : Code} (C : XC G 1 570 p s m args c prog_2_method_5_code 4 R_Branches) (hr : meth.sig.returnType = (some .boolean)) (hk : meth.locks = false) {d : Nat} (hd : 1 ≤ d + 1) (hR : xroom R (d + 1)) {p0 : Nat} (hp0 : p0 ∈ xHalls) {rec2 : Int32 → LH → Option (Int32 × LH)} {σ' : LH} {r : Int32} (hrec2 : ∀ (y2 : Int32) (σ : LH), rec2 y2 σ = some (r, σ') → XJ G 1 570 p l e R s m args below meth c 4 (XQ G 1 570 below args s (some (.int r)) σ') 0 0 2 [(0, .ref (G.2.2.1 + 81)), (1, .ref (G.2.2.1 + p0)), (2, .int y2)] [] σ) {y2 : Int32} {σ : LH} (h0 : s_Branches_isAsTold_50 p0 rec2 y2 σ = some (r, σ')) : XJ G 1 570 p l e R s m args below meth c 4 (XQ G 1 570 below args s (some (.int r)) σ') 0 0 50 [(0, .ref (G.2.2.1 + 81)), (1, .ref (G.2.2.1 + p0)), (2, .int y2)] [] σ := by
  replace h0 := (show _ = _ from h0)
  unfold s_Branches_isAsTold_50 at h0
  obtain ⟨x6, ex6, h0⟩ := xlet h0
  refine x_iinc (lv' := [(2, .int x6), (0, .ref (G.2.2.1 + 81)), (1, .ref (G.2.2.1 + p0))]) C d_Branches_isAsTold_50 2 rfl ex6 (by decide) rfl ?_
  refine x_goto C 2 d_Branches_isAsTold_53 (by decide) ?_
  exact x_lv C [1, 2, 0] rfl (hrec2 _ _ h0)
def s_Branches_isAsTold_2_b (p0 : Nat) (rec2 : Int32 → LH → Option (Int32 × LH)) (y2 : Int32) (σ : LH) : Option (Int32 × LH) :=
  if (σ.1 81 10) ≤ y2 then (
   s_Branches_isAsTold_56 p0 σ)
  else (
   if 8 ≤ y2 then (
    s_Branches_isAsTold_56 p0 σ)
   else (
    if ib y2 8 then (
    xl (((σ.1 83 (Int32.toNatClampNeg y2))) : Int32) fun x4 =>
    if x4 < 0 then (
     s_Branches_isAsTold_50 p0 rec2 y2 σ)
    else (
     if 8 ≤ x4 then (
      s_Branches_isAsTold_50 p0 rec2 y2 σ)
     else (
      if ib x4 8 then (
      if ib y2 8 then (
      if (σ.1 (p0 + 1) (Int32.toNatClampNeg x4)) = (σ.1 84 (Int32.toNatClampNeg y2)) then (
       s_Branches_isAsTold_50 p0 rec2 y2 σ)
      else (
       some (0, σ))) else none) else none))) else none))
def s_Branches_isAsTold_2 (p0 : Nat) : Nat → Int32 → LH → Option (Int32 × LH)
  | 0, _, _ => none
  | n + 1, y2, σ => s_Branches_isAsTold_2_b p0 (s_Branches_isAsTold_2 p0 n) y2 σ
theorem bb_Branches_isAsTold_2 {G : XG} {l : Launch} {p : Program} {e : Env} {R : Room} {s : State} {m : MethodId} {args : Array Value} {below : List Frame} {meth : Method} {c : Code} (C : XC G 1 570 p s m args c prog_2_method_5_code 4 R_Branches) (hr : meth.sig.returnType = (some .boolean)) (hk : meth.locks = false) {d : Nat} (hd : 1 ≤ d + 1) (hR : xroom R (d + 1)) {p0 : Nat} (hp0 : p0 ∈ xHalls) {rec2 : Int32 → LH → Option (Int32 × LH)} {σ' : LH} {r : Int32} (hrec2 : ∀ (y2 : Int32) (σ : LH), rec2 y2 σ = some (r, σ') → XJ G 1 570 p l e R s m args below meth c 4 (XQ G 1 570 below args s (some (.int r)) σ') 0 0 2 [(0, .ref (G.2.2.1 + 81)), (1, .ref (G.2.2.1 + p0)), (2, .int y2)] [] σ) {y2 : Int32} {σ : LH} (h0 : s_Branches_isAsTold_2_b p0 rec2 y2 σ = some (r, σ')) : XJ G 1 570 p l e R s m args below meth c 4 (XQ G 1 570 below args s (some (.int r)) σ') 0 0 2 [(0, .ref (G.2.2.1 + 81)), (1, .ref (G.2.2.1 + p0)), (2, .int y2)] [] σ := by
  replace h0 := (show _ = _ from h0)
  unfold s_Branches_isAsTold_2_b at h0
  refine x_iload_n C d_Branches_isAsTold_2 2 rfl ?_
  refine x_aload_n C d_Branches_isAsTold_3 0 rfl ?_
  refine x_getI (y := 0) C fg_Branches_34 k_81 rfl d_Branches_isAsTold_4 ?_
  refine x_icmp_ge C 56 d_Branches_isAsTold_7 (by decide) (fun q1 => ?_) (fun q1 => ?_)
  · replace h0 := xit q1 h0
    exact x_lv C [] rfl (b_Branches_isAsTold_56 C hr hk hd hR hp0 h0)
  · replace h0 := xif q1 h0
    refine x_iload_n C d_Branches_isAsTold_10 2 rfl ?_
    refine x_bipush (v := 8) C d_Branches_isAsTold_11 (by decide) ?_
    refine x_icmp_ge C 56 d_Branches_isAsTold_13 (by decide) (fun q2 => ?_) (fun q2 => ?_)
    · replace h0 := xit q2 h0
      exact x_lv C [] rfl (b_Branches_isAsTold_56 C hr hk hd hR hp0 h0)
    · replace h0 := xif q2 h0
      refine x_aload_n C d_Branches_isAsTold_16 0 rfl ?_
      refine x_getA (y := 83) C fg_Branches_27 k_81 rfl d_Branches_isAsTold_17 ?_
      refine x_iload_n C d_Branches_isAsTold_20 2 rfl ?_
      obtain ⟨g3, h0⟩ := xgo h0
      refine x_iald C k_83 (ib_in g3) d_Branches_isAsTold_21 ?_
      obtain ⟨x4, ex4, h0⟩ := xlet h0
      refine x_name C ex4 ?_
      refine x_istore_n (lv' := [(3, .int x4), (0, .ref (G.2.2.1 + 81)), (1, .ref (G.2.2.1 + p0)), (2, .int y2)]) C d_Branches_isAsTold_22 rfl (by decide) rfl ?_
      refine x_iload_n C d_Branches_isAsTold_23 0 rfl ?_
      refine x_if_lt C 50 d_Branches_isAsTold_24 (by decide) (fun q5 => ?_) (fun q5 => ?_)
      · replace h0 := xit q5 h0
        exact x_lv C [1, 2, 3] rfl (b_Branches_isAsTold_50 C hr hk hd hR hp0 hrec2 h0)
      · replace h0 := xif q5 h0
        refine x_iload_n C d_Branches_isAsTold_27 0 rfl ?_
        refine x_bipush (v := 8) C d_Branches_isAsTold_28 (by decide) ?_
        refine x_icmp_ge C 50 d_Branches_isAsTold_30 (by decide) (fun q7 => ?_) (fun q7 => ?_)
        · replace h0 := xit q7 h0
          exact x_lv C [1, 2, 3] rfl (b_Branches_isAsTold_50 C hr hk hd hR hp0 hrec2 h0)
        · replace h0 := xif q7 h0
          refine x_aload_n C d_Branches_isAsTold_33 2 rfl ?_
          refine x_getR (y := 1) C fg_Branches_111 (hl_0 hp0) rfl d_Branches_isAsTold_34 ?_
          refine x_iload_n C d_Branches_isAsTold_37 0 rfl ?_
          obtain ⟨g8, h0⟩ := xgo h0
          refine x_iald C (hl_1 hp0) (ib_in g8) d_Branches_isAsTold_38 ?_
          refine x_aload_n C d_Branches_isAsTold_39 1 rfl ?_
          refine x_getA (y := 84) C fg_Branches_31 k_81 rfl d_Branches_isAsTold_40 ?_
          refine x_iload_n C d_Branches_isAsTold_43 3 rfl ?_
          obtain ⟨g9, h0⟩ := xgo h0
          refine x_iald C k_84 (ib_in g9) d_Branches_isAsTold_44 ?_
          refine x_icmp_eq C 50 d_Branches_isAsTold_45 (by decide) (fun q10 => ?_) (fun q10 => ?_)
          · replace h0 := xit q10 h0
            exact x_lv C [1, 2, 3] rfl (b_Branches_isAsTold_50 C hr hk hd hR hp0 hrec2 h0)
          · replace h0 := xif q10 h0
            refine x_iconst (v := 0) C d_Branches_isAsTold_48 (by decide) ?_
            exact x_zret C hr hk (by decide) h0 d_Branches_isAsTold_49
theorem b_Branches_isAsTold_2 {G : XG} {l : Launch} {p : Program} {e : Env} {R : Room} {s : State} {m : MethodId} {args : Array Value} {below : List Frame} {meth : Method} {c : Code} (C : XC G 1 570 p s m args c prog_2_method_5_code 4 R_Branches) (hr : meth.sig.returnType = (some .boolean)) (hk : meth.locks = false) {d : Nat} (hd : 1 ≤ d + 1) (hR : xroom R (d + 1)) {p0 : Nat} (hp0 : p0 ∈ xHalls) {σ' : LH} {r : Int32} : ∀ (n : Nat) (y2 : Int32) (σ : LH), s_Branches_isAsTold_2 p0 n y2 σ = some (r, σ') → XJ G 1 570 p l e R s m args below meth c 4 (XQ G 1 570 below args s (some (.int r)) σ') 0 0 2 [(0, .ref (G.2.2.1 + 81)), (1, .ref (G.2.2.1 + p0)), (2, .int y2)] [] σ := by
  intro n
  induction n with
  | zero => intro y2 σ h0; cases h0
  | succ n ih => intro y2 σ h0; exact bb_Branches_isAsTold_2 C hr hk hd hR hp0 ih h0
def s_Branches_isAsTold (p0 : Nat) (σ : LH) : Option (Int32 × LH) :=
  s_Branches_isAsTold_2 p0 FUEL 0 σ
theorem c_Branches_isAsTold {G : XG} {l : Launch} {d : Nat} (hd : 1 ≤ d) {p0 : Nat} (hp0 : p0 ∈ xHalls) {σ σ' : LH} {r : Int32} (h0 : s_Branches_isAsTold p0 σ = some (r, σ')) : xM G 1 570 l y_Branches_isAsTold prog_2_method_5_code 4 (some .boolean) d [.ref (G.2.2.1 + 81), .ref (G.2.2.1 + p0)] σ (some (.int r)) σ' := by
  obtain ⟨d, rfl⟩ : ∃ q, d = q + 1 := ⟨d - 1, by omega⟩
  refine x_met R_Branches rfl (by decide +kernel) (Nat.le_of_ble_eq_true rfl) fun p e s m below meth c C hr hk hR => ?_
  refine x_lv (lv' := [(0, .ref (G.2.2.1 + 81)), (1, .ref (G.2.2.1 + p0))]) C [0, 1] rfl ?_
  generalize xrm (d + 1) = R at hR ⊢
  unfold s_Branches_isAsTold at h0
  refine x_iconst (v := 0) C d_Branches_isAsTold_0 (by decide) ?_
  refine x_istore_n (lv' := [(2, .int 0), (0, .ref (G.2.2.1 + 81)), (1, .ref (G.2.2.1 + p0))]) C d_Branches_isAsTold_1 rfl (by decide) rfl ?_
  exact x_lv C [1, 2, 0] rfl (b_Branches_isAsTold_2 C hr hk hd hR hp0 FUEL _ _ h0)
-- LostPlaces$Branches.choose(II)V
theorem d_Branches_choose_0 : decode prog_2_method_9_code 0 = .ok (.iload_n 1, 1) := by decide +kernel
theorem d_Branches_choose_1 : decode prog_2_method_9_code 1 = .ok (.ifCond .lt 25, 3) := by decide +kernel
theorem d_Branches_choose_4 : decode prog_2_method_9_code 4 = .ok (.iload_n 1, 1) := by decide +kernel
theorem d_Branches_choose_5 : decode prog_2_method_9_code 5 = .ok (.aload_n 0, 1) := by decide +kernel
theorem d_Branches_choose_6 : decode prog_2_method_9_code 6 = .ok (.getfield 11, 3) := by decide +kernel
theorem d_Branches_choose_9 : decode prog_2_method_9_code 9 = .ok (.arraylength, 1) := by decide +kernel
theorem d_Branches_choose_10 : decode prog_2_method_9_code 10 = .ok (.if_icmp .ge 16, 3) := by decide +kernel
theorem d_Branches_choose_13 : decode prog_2_method_9_code 13 = .ok (.iload_n 2, 1) := by decide +kernel
theorem d_Branches_choose_14 : decode prog_2_method_9_code 14 = .ok (.ifCond .lt 12, 3) := by decide +kernel
theorem d_Branches_choose_17 : decode prog_2_method_9_code 17 = .ok (.iload_n 2, 1) := by decide +kernel
theorem d_Branches_choose_18 : decode prog_2_method_9_code 18 = .ok (.aload_n 0, 1) := by decide +kernel
theorem d_Branches_choose_19 : decode prog_2_method_9_code 19 = .ok (.getfield 43, 3) := by decide +kernel
theorem d_Branches_choose_22 : decode prog_2_method_9_code 22 = .ok (.arraylength, 1) := by decide +kernel
theorem d_Branches_choose_23 : decode prog_2_method_9_code 23 = .ok (.if_icmp .lt 4, 3) := by decide +kernel
theorem d_Branches_choose_26 : decode prog_2_method_9_code 26 = .ok (.return_, 1) := by decide +kernel
theorem d_Branches_choose_27 : decode prog_2_method_9_code 27 = .ok (.aload_n 0, 1) := by decide +kernel
theorem d_Branches_choose_28 : decode prog_2_method_9_code 28 = .ok (.getfield 11, 3) := by decide +kernel
theorem d_Branches_choose_31 : decode prog_2_method_9_code 31 = .ok (.iload_n 1, 1) := by decide +kernel
theorem d_Branches_choose_32 : decode prog_2_method_9_code 32 = .ok (.aaload, 1) := by decide +kernel
theorem d_Branches_choose_33 : decode prog_2_method_9_code 33 = .ok (.astore_n 3, 1) := by decide +kernel
theorem d_Branches_choose_34 : decode prog_2_method_9_code 34 = .ok (.iload_n 1, 1) := by decide +kernel
theorem d_Branches_choose_35 : decode prog_2_method_9_code 35 = .ok (.aload_n 0, 1) := by decide +kernel
theorem d_Branches_choose_36 : decode prog_2_method_9_code 36 = .ok (.getfield 40, 3) := by decide +kernel
theorem d_Branches_choose_39 : decode prog_2_method_9_code 39 = .ok (.if_icmp .ge 9, 3) := by decide +kernel
theorem d_Branches_choose_42 : decode prog_2_method_9_code 42 = .ok (.iload_n 1, 1) := by decide +kernel
theorem d_Branches_choose_43 : decode prog_2_method_9_code 43 = .ok (.bipush 10, 2) := by decide +kernel
theorem d_Branches_choose_45 : decode prog_2_method_9_code 45 = .ok (.if_icmp .lt 38, 3) := by decide +kernel
theorem d_Branches_choose_48 : decode prog_2_method_9_code 48 = .ok (.aload_n 0, 1) := by decide +kernel
theorem d_Branches_choose_49 : decode prog_2_method_9_code 49 = .ok (.getfield 66, 3) := by decide +kernel
theorem d_Branches_choose_52 : decode prog_2_method_9_code 52 = .ok (.iload_n 2, 1) := by decide +kernel
theorem d_Branches_choose_53 : decode prog_2_method_9_code 53 = .ok (.putfield 130, 3) := by decide +kernel
theorem d_Branches_choose_56 : decode prog_2_method_9_code 56 = .ok (.aload_n 0, 1) := by decide +kernel
theorem d_Branches_choose_57 : decode prog_2_method_9_code 57 = .ok (.getfield 66, 3) := by decide +kernel
theorem d_Branches_choose_60 : decode prog_2_method_9_code 60 = .ok (.aload_n 3, 1) := by decide +kernel
theorem d_Branches_choose_61 : decode prog_2_method_9_code 61 = .ok (.aload_n 0, 1) := by decide +kernel
theorem d_Branches_choose_62 : decode prog_2_method_9_code 62 = .ok (.getfield 58, 3) := by decide +kernel
theorem d_Branches_choose_65 : decode prog_2_method_9_code 65 = .ok (.getfield 86, 3) := by decide +kernel
theorem d_Branches_choose_68 : decode prog_2_method_9_code 68 = .ok (.invokevirtual 89, 3) := by decide +kernel
theorem d_Branches_choose_71 : decode prog_2_method_9_code 71 = .ok (.aload_n 0, 1) := by decide +kernel
theorem d_Branches_choose_72 : decode prog_2_method_9_code 72 = .ok (.getfield 43, 3) := by decide +kernel
theorem d_Branches_choose_75 : decode prog_2_method_9_code 75 = .ok (.iload_n 2, 1) := by decide +kernel
theorem d_Branches_choose_76 : decode prog_2_method_9_code 76 = .ok (.aload_n 0, 1) := by decide +kernel
theorem d_Branches_choose_77 : decode prog_2_method_9_code 77 = .ok (.aload_n 3, 1) := by decide +kernel
theorem d_Branches_choose_78 : decode prog_2_method_9_code 78 = .ok (.invokevirtual 139, 3) := by decide +kernel
theorem d_Branches_choose_81 : decode prog_2_method_9_code 81 = .ok (.bastore, 1) := by decide +kernel
theorem d_Branches_choose_82 : decode prog_2_method_9_code 82 = .ok (.return_, 1) := by decide +kernel
theorem d_Branches_choose_83 : decode prog_2_method_9_code 83 = .ok (.aload_n 0, 1) := by decide +kernel
theorem d_Branches_choose_84 : decode prog_2_method_9_code 84 = .ok (.getfield 58, 3) := by decide +kernel
theorem d_Branches_choose_87 : decode prog_2_method_9_code 87 = .ok (.getfield 136, 3) := by decide +kernel
theorem d_Branches_choose_90 : decode prog_2_method_9_code 90 = .ok (.aload_n 0, 1) := by decide +kernel
theorem d_Branches_choose_91 : decode prog_2_method_9_code 91 = .ok (.getfield 37, 3) := by decide +kernel
theorem d_Branches_choose_94 : decode prog_2_method_9_code 94 = .ok (.iload_n 1, 1) := by decide +kernel
theorem d_Branches_choose_95 : decode prog_2_method_9_code 95 = .ok (.iaload, 1) := by decide +kernel
theorem d_Branches_choose_96 : decode prog_2_method_9_code 96 = .ok (.iaload, 1) := by decide +kernel
theorem d_Branches_choose_97 : decode prog_2_method_9_code 97 = .ok (.istore 4, 2) := by decide +kernel
theorem d_Branches_choose_99 : decode prog_2_method_9_code 99 = .ok (.aload_n 0, 1) := by decide +kernel
theorem d_Branches_choose_100 : decode prog_2_method_9_code 100 = .ok (.getfield 66, 3) := by decide +kernel
theorem d_Branches_choose_103 : decode prog_2_method_9_code 103 = .ok (.iload_n 2, 1) := by decide +kernel
theorem d_Branches_choose_104 : decode prog_2_method_9_code 104 = .ok (.putfield 130, 3) := by decide +kernel
theorem d_Branches_choose_107 : decode prog_2_method_9_code 107 = .ok (.aload_n 0, 1) := by decide +kernel
theorem d_Branches_choose_108 : decode prog_2_method_9_code 108 = .ok (.getfield 66, 3) := by decide +kernel
theorem d_Branches_choose_111 : decode prog_2_method_9_code 111 = .ok (.aload_n 3, 1) := by decide +kernel
theorem d_Branches_choose_112 : decode prog_2_method_9_code 112 = .ok (.iload 4, 2) := by decide +kernel
theorem d_Branches_choose_114 : decode prog_2_method_9_code 114 = .ok (.invokevirtual 89, 3) := by decide +kernel
theorem d_Branches_choose_117 : decode prog_2_method_9_code 117 = .ok (.aload_n 0, 1) := by decide +kernel
theorem d_Branches_choose_118 : decode prog_2_method_9_code 118 = .ok (.getfield 11, 3) := by decide +kernel
theorem d_Branches_choose_121 : decode prog_2_method_9_code 121 = .ok (.iload_n 1, 1) := by decide +kernel
theorem d_Branches_choose_122 : decode prog_2_method_9_code 122 = .ok (.iconst 1, 1) := by decide +kernel
theorem d_Branches_choose_123 : decode prog_2_method_9_code 123 = .ok (.iadd, 1) := by decide +kernel
theorem d_Branches_choose_124 : decode prog_2_method_9_code 124 = .ok (.aaload, 1) := by decide +kernel
theorem d_Branches_choose_125 : decode prog_2_method_9_code 125 = .ok (.aload_n 3, 1) := by decide +kernel
theorem d_Branches_choose_126 : decode prog_2_method_9_code 126 = .ok (.invokevirtual 73, 3) := by decide +kernel
theorem d_Branches_choose_129 : decode prog_2_method_9_code 129 = .ok (.aload_n 0, 1) := by decide +kernel
theorem d_Branches_choose_130 : decode prog_2_method_9_code 130 = .ok (.iload_n 1, 1) := by decide +kernel
theorem d_Branches_choose_131 : decode prog_2_method_9_code 131 = .ok (.iconst 1, 1) := by decide +kernel
theorem d_Branches_choose_132 : decode prog_2_method_9_code 132 = .ok (.iadd, 1) := by decide +kernel
theorem d_Branches_choose_133 : decode prog_2_method_9_code 133 = .ok (.iload_n 2, 1) := by decide +kernel
theorem d_Branches_choose_134 : decode prog_2_method_9_code 134 = .ok (.invokevirtual 126, 3) := by decide +kernel
theorem d_Branches_choose_137 : decode prog_2_method_9_code 137 = .ok (.aload_n 0, 1) := by decide +kernel
theorem d_Branches_choose_138 : decode prog_2_method_9_code 138 = .ok (.getfield 11, 3) := by decide +kernel
theorem d_Branches_choose_141 : decode prog_2_method_9_code 141 = .ok (.iload_n 1, 1) := by decide +kernel
theorem d_Branches_choose_142 : decode prog_2_method_9_code 142 = .ok (.iconst 1, 1) := by decide +kernel
theorem d_Branches_choose_143 : decode prog_2_method_9_code 143 = .ok (.iadd, 1) := by decide +kernel
theorem d_Branches_choose_144 : decode prog_2_method_9_code 144 = .ok (.aaload, 1) := by decide +kernel
theorem d_Branches_choose_145 : decode prog_2_method_9_code 145 = .ok (.aload_n 3, 1) := by decide +kernel
theorem d_Branches_choose_146 : decode prog_2_method_9_code 146 = .ok (.invokevirtual 73, 3) := by decide +kernel
theorem d_Branches_choose_149 : decode prog_2_method_9_code 149 = .ok (.aload_n 0, 1) := by decide +kernel
theorem d_Branches_choose_150 : decode prog_2_method_9_code 150 = .ok (.iload_n 1, 1) := by decide +kernel
theorem d_Branches_choose_151 : decode prog_2_method_9_code 151 = .ok (.iconst 1, 1) := by decide +kernel
theorem d_Branches_choose_152 : decode prog_2_method_9_code 152 = .ok (.iadd, 1) := by decide +kernel
theorem d_Branches_choose_153 : decode prog_2_method_9_code 153 = .ok (.iload_n 2, 1) := by decide +kernel
theorem d_Branches_choose_154 : decode prog_2_method_9_code 154 = .ok (.iconst 1, 1) := by decide +kernel
theorem d_Branches_choose_155 : decode prog_2_method_9_code 155 = .ok (.aload_n 0, 1) := by decide +kernel
theorem d_Branches_choose_156 : decode prog_2_method_9_code 156 = .ok (.getfield 37, 3) := by decide +kernel
theorem d_Branches_choose_159 : decode prog_2_method_9_code 159 = .ok (.iload_n 1, 1) := by decide +kernel
theorem d_Branches_choose_160 : decode prog_2_method_9_code 160 = .ok (.iaload, 1) := by decide +kernel
theorem d_Branches_choose_161 : decode prog_2_method_9_code 161 = .ok (.ishl, 1) := by decide +kernel
theorem d_Branches_choose_162 : decode prog_2_method_9_code 162 = .ok (.ior, 1) := by decide +kernel
theorem d_Branches_choose_163 : decode prog_2_method_9_code 163 = .ok (.invokevirtual 126, 3) := by decide +kernel
theorem d_Branches_choose_166 : decode prog_2_method_9_code 166 = .ok (.return_, 1) := by decide +kernel
def s_Branches_choose_26 (rf : Int32 → Int32 → LH → Option (LH)) (p0 : Int32) (p1 : Int32) (σ : LH) : Option (LH) :=
  some σ
theorem b_Branches_choose_26 {G : XG} {l : Launch} {p : Program} {e : Env} {R : Room} {s : State} {m : MethodId} {args : Array Value} {below : List Frame} {meth : Method} {c : Code} (C : XC G 1 570 p s m args c prog_2_method_9_code 5 R_Branches) (hr : meth.sig.returnType = none) (hk : meth.locks = false) {d dr : Nat} (hd : dr + 1 ≤ d + 1) (hd2 : 6 ≤ d + 1) (hR : xroom R (d + 1)) {rf : Int32 → Int32 → LH → Option (LH)} (hrf : ∀ (p0 : Int32) (p1 : Int32) (σ : LH) (σ' : LH), rf p0 p1 σ = some σ' → ∀ d, dr ≤ d → xM G 1 570 l y_Branches_choose prog_2_method_9_code 5 none d [.ref (G.2.2.1 + 81), .int p0, .int p1] σ none σ') {p0 : Int32} {p1 : Int32} {σ' : LH} {σ : LH} (h0 : s_Branches_choose_26 rf p0 p1 σ = some σ') : XJ G 1 570 p l e R s m args below meth c 5 (XQ G 1 570 below args s none σ') 0 0 26 [] [] σ := by
  replace h0 := (show _ = _ from h0)
  unfold s_Branches_choose_26 at h0
  exact x_vret C hr hk h0 d_Branches_choose_26
def s_Branches_choose_48 (rf : Int32 → Int32 → LH → Option (LH)) (p0 : Int32) (p1 : Int32) (y3 : Nat) (σ : LH) : Option (LH) :=
  xl ((stI σ 38 2 p1) : LH) fun σ8 =>
  xb1 (s_Evening_run y3 (σ8.1 4 15) σ8) fun σ10 =>
  xb2 (s_Branches_isAsTold y3 σ10) fun r12 σ13 =>
  if ib p1 1024 then (
  xl ((stI σ13 86 (Int32.toNatClampNeg p1) (vp_nar .boolean r12)) : LH) fun σ15 =>
  some σ15) else none
theorem b_Branches_choose_48 {G : XG} {l : Launch} {p : Program} {e : Env} {R : Room} {s : State} {m : MethodId} {args : Array Value} {below : List Frame} {meth : Method} {c : Code} (C : XC G 1 570 p s m args c prog_2_method_9_code 5 R_Branches) (hr : meth.sig.returnType = none) (hk : meth.locks = false) {d dr : Nat} (hd : dr + 1 ≤ d + 1) (hd2 : 6 ≤ d + 1) (hR : xroom R (d + 1)) {rf : Int32 → Int32 → LH → Option (LH)} (hrf : ∀ (p0 : Int32) (p1 : Int32) (σ : LH) (σ' : LH), rf p0 p1 σ = some σ' → ∀ d, dr ≤ d → xM G 1 570 l y_Branches_choose prog_2_method_9_code 5 none d [.ref (G.2.2.1 + 81), .int p0, .int p1] σ none σ') {p0 : Int32} {p1 : Int32} {σ' : LH} {y3 : Nat} {σ : LH} (hy3 : y3 ∈ xHalls) (h0 : s_Branches_choose_48 rf p0 p1 y3 σ = some σ') : XJ G 1 570 p l e R s m args below meth c 5 (XQ G 1 570 below args s none σ') 0 0 48 [(0, .ref (G.2.2.1 + 81)), (2, .int p1), (3, .ref (G.2.2.1 + y3))] [] σ := by
  replace h0 := (show _ = _ from h0)
  unfold s_Branches_choose_48 at h0
  refine x_aload_n C d_Branches_choose_48 0 rfl ?_
  refine x_getA (y := 38) C fg_Branches_66 k_81 rfl d_Branches_choose_49 ?_
  refine x_iload_n C d_Branches_choose_52 1 rfl ?_
  refine x_putI (y := 0) C fp_Branches_130 k_38 rfl rfl rfl d_Branches_choose_53 ?_
  obtain ⟨σ8, eσ8, h0⟩ := xlet h0
  refine x_sig C eσ8 ?_
  refine x_aload_n C d_Branches_choose_56 0 rfl ?_
  refine x_getA (y := 38) C fg_Branches_66 k_81 rfl d_Branches_choose_57 ?_
  refine x_aload_n C d_Branches_choose_60 2 rfl ?_
  refine x_aload_n C d_Branches_choose_61 0 rfl ?_
  refine x_getA (y := 4) C fg_Branches_58 k_81 rfl d_Branches_choose_62 ?_
  refine x_getI (y := 0) C fg_Branches_86 k_4 rfl d_Branches_choose_65 ?_
  obtain ⟨σ10, k9, h0⟩ := xbind1 h0
  refine x_callVv C hR (c_Evening_run (d := d) (by omega) hy3 k9) cw_Branches_89 k_38 rfl rfl rfl (Nat.le_of_ble_eq_true rfl) ⟨Nat.zero_le _, Nat.zero_le _⟩ d_Branches_choose_68 ?_
  refine x_aload_n C d_Branches_choose_71 0 rfl ?_
  refine x_getA (y := 86) C fg_Branches_43 k_81 rfl d_Branches_choose_72 ?_
  refine x_iload_n C d_Branches_choose_75 1 rfl ?_
  refine x_aload_n C d_Branches_choose_76 0 rfl ?_
  refine x_aload_n C d_Branches_choose_77 2 rfl ?_
  obtain ⟨r12, σ13, k11, h0⟩ := xbind2 h0
  refine x_callVi C hR (c_Branches_isAsTold (d := d) (by omega) hy3 k11) cw_Branches_139 k_81 rfl rfl rfl (Nat.le_of_ble_eq_true rfl) ⟨Nat.zero_le _, Nat.zero_le _⟩ d_Branches_choose_78 ?_
  obtain ⟨g14, h0⟩ := xgo h0
  refine x_zast C k_86 (ib_in g14) d_Branches_choose_81 ?_
  obtain ⟨σ15, eσ15, h0⟩ := xlet h0
  refine x_sig C eσ15 ?_
  exact x_vret C hr hk h0 d_Branches_choose_82
def s_Branches_choose_b (rf : Int32 → Int32 → LH → Option (LH)) (p0 : Int32) (p1 : Int32) (σ : LH) : Option (LH) :=
  if p0 < 0 then (
   s_Branches_choose_26 rf p0 p1 σ)
  else (
   if 11 ≤ p0 then (
    s_Branches_choose_26 rf p0 p1 σ)
   else (
    if p1 < 0 then (
     s_Branches_choose_26 rf p0 p1 σ)
    else (
     if p1 < 1024 then (
      if ib p0 11 then (
      xl ((96 + 9 * (Int32.toNatClampNeg p0)) : Nat) fun h6 =>
      if (σ.1 81 12) ≤ p0 then (
       s_Branches_choose_48 rf p0 p1 h6 σ)
      else (
       if p0 < 10 then (
        if ib p0 10 then (
        if ib (σ.1 85 (Int32.toNatClampNeg p0)) 10 then (
        xl (((σ.1 13 (Int32.toNatClampNeg (σ.1 85 (Int32.toNatClampNeg p0))))) : Int32) fun x19 =>
        xl ((stI σ 38 2 p1) : LH) fun σ20 =>
        xb1 (s_Evening_run h6 x19 σ20) fun σ22 =>
        if ib (p0 + 1) 11 then (
        xl ((96 + 9 * (Int32.toNatClampNeg (p0 + 1))) : Nat) fun h24 =>
        xb1 (s_Hall_beginAs h24 h6 σ22) fun σ26 =>
        xb1 (rf (p0 + 1) p1 σ26) fun σ28 =>
        if ib (p0 + 1) 11 then (
        xl ((96 + 9 * (Int32.toNatClampNeg (p0 + 1))) : Nat) fun h30 =>
        xb1 (s_Hall_beginAs h30 h6 σ28) fun σ32 =>
        if ib p0 10 then (
        xb1 (rf (p0 + 1) (p1 ||| (1 <<< ((σ32.1 85 (Int32.toNatClampNeg p0)) &&& 31))) σ32) fun σ35 =>
        some σ35) else none) else none) else none) else none) else none)
       else (
        s_Branches_choose_48 rf p0 p1 h6 σ))) else none)
     else (
      s_Branches_choose_26 rf p0 p1 σ))))
def s_Branches_choose : Nat → Int32 → Int32 → LH → Option (LH)
  | 0, _, _, _ => none
  | n + 1, p0, p1, σ => s_Branches_choose_b (s_Branches_choose n) p0 p1 σ
theorem c_Branches_choose_b {G : XG} {l : Launch} {d dr : Nat} {rf : Int32 → Int32 → LH → Option (LH)} (hrf : ∀ (p0 : Int32) (p1 : Int32) (σ : LH) (σ' : LH), rf p0 p1 σ = some σ' → ∀ d, dr ≤ d → xM G 1 570 l y_Branches_choose prog_2_method_9_code 5 none d [.ref (G.2.2.1 + 81), .int p0, .int p1] σ none σ') (hd : dr + 1 ≤ d) (hd2 : 6 ≤ d) {p0 : Int32} {p1 : Int32} {σ σ' : LH} (h0 : s_Branches_choose_b rf p0 p1 σ = some σ') : xM G 1 570 l y_Branches_choose prog_2_method_9_code 5 none d [.ref (G.2.2.1 + 81), .int p0, .int p1] σ none σ' := by
  obtain ⟨d, rfl⟩ : ∃ q, d = q + 1 := ⟨d - 1, by omega⟩
  refine x_met R_Branches rfl (by decide +kernel) (Nat.le_of_ble_eq_true rfl) fun p e s m below meth c C hr hk hR => ?_
  refine x_lv (lv' := [(0, .ref (G.2.2.1 + 81)), (1, .int p0), (2, .int p1)]) C [0, 1, 2] rfl ?_
  generalize xrm (d + 1) = R at hR ⊢
  unfold s_Branches_choose_b at h0
  refine x_iload_n C d_Branches_choose_0 1 rfl ?_
  refine x_if_lt C 26 d_Branches_choose_1 (by decide) (fun q1 => ?_) (fun q1 => ?_)
  · replace h0 := xit q1 h0
    exact x_lv C [] rfl (b_Branches_choose_26 C hr hk hd hd2 hR hrf h0)
  · replace h0 := xif q1 h0
    refine x_iload_n C d_Branches_choose_4 1 rfl ?_
    refine x_aload_n C d_Branches_choose_5 0 rfl ?_
    refine x_getA (y := 82) C fg_Branches_11 k_81 rfl d_Branches_choose_6 ?_
    refine x_hlen (v := 11) C k_82 rfl d_Branches_choose_9 ?_
    refine x_icmp_ge C 26 d_Branches_choose_10 (by decide) (fun q2 => ?_) (fun q2 => ?_)
    · replace h0 := xit q2 h0
      exact x_lv C [] rfl (b_Branches_choose_26 C hr hk hd hd2 hR hrf h0)
    · replace h0 := xif q2 h0
      refine x_iload_n C d_Branches_choose_13 2 rfl ?_
      refine x_if_lt C 26 d_Branches_choose_14 (by decide) (fun q3 => ?_) (fun q3 => ?_)
      · replace h0 := xit q3 h0
        exact x_lv C [] rfl (b_Branches_choose_26 C hr hk hd hd2 hR hrf h0)
      · replace h0 := xif q3 h0
        refine x_iload_n C d_Branches_choose_17 2 rfl ?_
        refine x_aload_n C d_Branches_choose_18 0 rfl ?_
        refine x_getA (y := 86) C fg_Branches_43 k_81 rfl d_Branches_choose_19 ?_
        refine x_zlen (v := 1024) C k_86 rfl d_Branches_choose_22 ?_
        refine x_icmp_lt C 27 d_Branches_choose_23 (by decide) (fun q4 => ?_) (fun q4 => ?_)
        · replace h0 := xit q4 h0
          refine x_aload_n C d_Branches_choose_27 0 rfl ?_
          refine x_getA (y := 82) C fg_Branches_11 k_81 rfl d_Branches_choose_28 ?_
          refine x_iload_n C d_Branches_choose_31 1 rfl ?_
          obtain ⟨g5, h0⟩ := xgo h0
          refine x_hald C k_82 (ib_in g5) d_Branches_choose_32 ?_
          obtain ⟨h6, eh6, h0⟩ := xlet h0
          refine x_nameR C eh6 ?_
          have hh6 : h6 ∈ xHalls := by rw [eh6]; exact ways_in g5
          refine x_astore_n (lv' := [(3, .ref (G.2.2.1 + h6)), (0, .ref (G.2.2.1 + 81)), (1, .int p0), (2, .int p1)]) C d_Branches_choose_33 rfl (by decide) rfl ?_
          refine x_iload_n C d_Branches_choose_34 2 rfl ?_
          refine x_aload_n C d_Branches_choose_35 1 rfl ?_
          refine x_getI (y := 0) C fg_Branches_40 k_81 rfl d_Branches_choose_36 ?_
          refine x_icmp_ge C 48 d_Branches_choose_39 (by decide) (fun q7 => ?_) (fun q7 => ?_)
          · replace h0 := xit q7 h0
            exact x_lv C [1, 3, 0] rfl (b_Branches_choose_48 C hr hk hd hd2 hR hrf hh6 h0)
          · replace h0 := xif q7 h0
            refine x_iload_n C d_Branches_choose_42 2 rfl ?_
            refine x_bipush (v := 10) C d_Branches_choose_43 (by decide) ?_
            refine x_icmp_lt C 83 d_Branches_choose_45 (by decide) (fun q16 => ?_) (fun q16 => ?_)
            · replace h0 := xit q16 h0
              refine x_aload_n C d_Branches_choose_83 1 rfl ?_
              refine x_getA (y := 4) C fg_Branches_58 k_81 rfl d_Branches_choose_84 ?_
              refine x_getR (y := 9) C fg_Branches_136 k_4 rfl d_Branches_choose_87 ?_
              show XJ _ _ _ _ _ _ _ _ _ _ _ _ _ _ _ _ _ _ _ (.ref (G.2.2.1 + 13) :: _) _
              refine x_aload_n C d_Branches_choose_90 1 rfl ?_
              refine x_getA (y := 85) C fg_Branches_37 k_81 rfl d_Branches_choose_91 ?_
              refine x_iload_n C d_Branches_choose_94 2 rfl ?_
              obtain ⟨g17, h0⟩ := xgo h0
              refine x_iald C k_85 (ib_in g17) d_Branches_choose_95 ?_
              obtain ⟨g18, h0⟩ := xgo h0
              refine x_iald C k_13 (ib_in g18) d_Branches_choose_96 ?_
              obtain ⟨x19, ex19, h0⟩ := xlet h0
              refine x_name C ex19 ?_
              refine x_istore (lv' := [(4, .int x19), (3, .ref (G.2.2.1 + h6)), (0, .ref (G.2.2.1 + 81)), (1, .int p0), (2, .int p1)]) C d_Branches_choose_97 (by decide) rfl ?_
              refine x_aload_n C d_Branches_choose_99 2 rfl ?_
              refine x_getA (y := 38) C fg_Branches_66 k_81 rfl d_Branches_choose_100 ?_
              refine x_iload_n C d_Branches_choose_103 4 rfl ?_
              refine x_putI (y := 0) C fp_Branches_130 k_38 rfl rfl rfl d_Branches_choose_104 ?_
              obtain ⟨σ20, eσ20, h0⟩ := xlet h0
              refine x_sig C eσ20 ?_
              refine x_aload_n C d_Branches_choose_107 2 rfl ?_
              refine x_getA (y := 38) C fg_Branches_66 k_81 rfl d_Branches_choose_108 ?_
              refine x_aload_n C d_Branches_choose_111 1 rfl ?_
              refine x_iload C d_Branches_choose_112 0 rfl ?_
              obtain ⟨σ22, k21, h0⟩ := xbind1 h0
              refine x_callVv C hR (c_Evening_run (d := d) (by omega) hh6 k21) cw_Branches_89 k_38 rfl rfl rfl (Nat.le_of_ble_eq_true rfl) ⟨Nat.zero_le _, Nat.zero_le _⟩ d_Branches_choose_114 ?_
              refine x_aload_n C d_Branches_choose_117 2 rfl ?_
              refine x_getA (y := 82) C fg_Branches_11 k_81 rfl d_Branches_choose_118 ?_
              refine x_iload_n C d_Branches_choose_121 3 rfl ?_
              refine x_iconst (v := 1) C d_Branches_choose_122 (by decide) ?_
              refine x_iadd C d_Branches_choose_123 ?_
              obtain ⟨g23, h0⟩ := xgo h0
              refine x_hald C k_82 (ib_in g23) d_Branches_choose_124 ?_
              obtain ⟨h24, eh24, h0⟩ := xlet h0
              refine x_nameR C eh24 ?_
              have hh24 : h24 ∈ xHalls := by rw [eh24]; exact ways_in g23
              refine x_aload_n C d_Branches_choose_125 1 rfl ?_
              obtain ⟨σ26, k25, h0⟩ := xbind1 h0
              refine x_callVv C hR (c_Hall_beginAs (d := d) (by omega) hh24 hh6 k25) cw_Branches_73 (hl_0 hh24) rfl rfl rfl (Nat.le_of_ble_eq_true rfl) ⟨Nat.zero_le _, Nat.zero_le _⟩ d_Branches_choose_126 ?_
              refine x_aload_n C d_Branches_choose_129 2 rfl ?_
              refine x_iload_n C d_Branches_choose_130 3 rfl ?_
              refine x_iconst (v := 1) C d_Branches_choose_131 (by decide) ?_
              refine x_iadd C d_Branches_choose_132 ?_
              refine x_iload_n C d_Branches_choose_133 4 rfl ?_
              obtain ⟨σ28, k27, h0⟩ := xbind1 h0
              refine x_callVv C hR (hrf _ _ _ _ k27 d (by omega)) cw_Branches_126 k_81 rfl rfl rfl (Nat.le_of_ble_eq_true rfl) ⟨Nat.zero_le _, Nat.zero_le _⟩ d_Branches_choose_134 ?_
              refine x_aload_n C d_Branches_choose_137 2 rfl ?_
              refine x_getA (y := 82) C fg_Branches_11 k_81 rfl d_Branches_choose_138 ?_
              refine x_iload_n C d_Branches_choose_141 3 rfl ?_
              refine x_iconst (v := 1) C d_Branches_choose_142 (by decide) ?_
              refine x_iadd C d_Branches_choose_143 ?_
              obtain ⟨g29, h0⟩ := xgo h0
              refine x_hald C k_82 (ib_in g29) d_Branches_choose_144 ?_
              obtain ⟨h30, eh30, h0⟩ := xlet h0
              refine x_nameR C eh30 ?_
              have hh30 : h30 ∈ xHalls := by rw [eh30]; exact ways_in g29
              refine x_aload_n C d_Branches_choose_145 1 rfl ?_
              obtain ⟨σ32, k31, h0⟩ := xbind1 h0
              refine x_callVv C hR (c_Hall_beginAs (d := d) (by omega) hh30 hh6 k31) cw_Branches_73 (hl_0 hh30) rfl rfl rfl (Nat.le_of_ble_eq_true rfl) ⟨Nat.zero_le _, Nat.zero_le _⟩ d_Branches_choose_146 ?_
              refine x_aload_n C d_Branches_choose_149 2 rfl ?_
              refine x_iload_n C d_Branches_choose_150 3 rfl ?_
              refine x_iconst (v := 1) C d_Branches_choose_151 (by decide) ?_
              refine x_iadd C d_Branches_choose_152 ?_
              refine x_iload_n C d_Branches_choose_153 4 rfl ?_
              refine x_iconst (v := 1) C d_Branches_choose_154 (by decide) ?_
              refine x_aload_n C d_Branches_choose_155 2 rfl ?_
              refine x_getA (y := 85) C fg_Branches_37 k_81 rfl d_Branches_choose_156 ?_
              refine x_iload_n C d_Branches_choose_159 3 rfl ?_
              obtain ⟨g33, h0⟩ := xgo h0
              refine x_iald C k_85 (ib_in g33) d_Branches_choose_160 ?_
              refine x_ishl C d_Branches_choose_161 ?_
              refine x_ior C d_Branches_choose_162 ?_
              obtain ⟨σ35, k34, h0⟩ := xbind1 h0
              refine x_callVv C hR (hrf _ _ _ _ k34 d (by omega)) cw_Branches_126 k_81 rfl rfl rfl (Nat.le_of_ble_eq_true rfl) ⟨Nat.zero_le _, Nat.zero_le _⟩ d_Branches_choose_163 ?_
              exact x_vret C hr hk h0 d_Branches_choose_166
            · replace h0 := xif q16 h0
              exact x_lv C [1, 3, 0] rfl (b_Branches_choose_48 C hr hk hd hd2 hR hrf hh6 h0)
        · replace h0 := xif q4 h0
          exact x_lv C [] rfl (b_Branches_choose_26 C hr hk hd hd2 hR hrf h0)
theorem h_Branches_choose_n {G : XG} {l : Launch} : ∀ (n : Nat) (p0 : Int32) (p1 : Int32) (σ : LH) (σ' : LH), s_Branches_choose n p0 p1 σ = some σ' → ∀ d, 1 * n + 6 ≤ d → xM G 1 570 l y_Branches_choose prog_2_method_9_code 5 none d [.ref (G.2.2.1 + 81), .int p0, .int p1] σ none σ' := by
  intro n
  induction n with
  | zero => intro p0 p1 σ σ' h0; cases h0
  | succ n ih => intro p0 p1 σ σ' h0 d hd; exact c_Branches_choose_b (dr := 1 * n + 6) ih (by omega) (by omega) h0
theorem h_Branches_choose {G : XG} {l : Launch} : ∀ (p0 : Int32) (p1 : Int32) (σ : LH) (σ' : LH), s_Branches_choose RF p0 p1 σ = some σ' → ∀ d, 22 ≤ d → xM G 1 570 l y_Branches_choose prog_2_method_9_code 5 none d [.ref (G.2.2.1 + 81), .int p0, .int p1] σ none σ' := h_Branches_choose_n RF
theorem c_Branches_choose {G : XG} {l : Launch} {d : Nat} (hd : 22 ≤ d) {p0 : Int32} {p1 : Int32} {σ σ' : LH} (h0 : s_Branches_choose RF p0 p1 σ = some σ') : xM G 1 570 l y_Branches_choose prog_2_method_9_code 5 none d [.ref (G.2.2.1 + 81), .int p0, .int p1] σ none σ' := h_Branches_choose _ _ _ _ h0 d hd
-- LostPlaces$Branches.findSets()V
theorem d_Branches_findSets_0 : decode prog_2_method_6_code 0 = .ok (.aload_n 0, 1) := by decide +kernel
theorem d_Branches_findSets_1 : decode prog_2_method_6_code 1 = .ok (.getfield 52, 3) := by decide +kernel
theorem d_Branches_findSets_4 : decode prog_2_method_6_code 4 = .ok (.aload_n 0, 1) := by decide +kernel
theorem d_Branches_findSets_5 : decode prog_2_method_6_code 5 = .ok (.getfield 62, 3) := by decide +kernel
theorem d_Branches_findSets_8 : decode prog_2_method_6_code 8 = .ok (.getfield 114, 3) := by decide +kernel
theorem d_Branches_findSets_11 : decode prog_2_method_6_code 11 = .ok (.if_icmp .ne 32, 3) := by decide +kernel
theorem d_Branches_findSets_14 : decode prog_2_method_6_code 14 = .ok (.aload_n 0, 1) := by decide +kernel
theorem d_Branches_findSets_15 : decode prog_2_method_6_code 15 = .ok (.getfield 55, 3) := by decide +kernel
theorem d_Branches_findSets_18 : decode prog_2_method_6_code 18 = .ok (.aload_n 0, 1) := by decide +kernel
theorem d_Branches_findSets_19 : decode prog_2_method_6_code 19 = .ok (.getfield 34, 3) := by decide +kernel
theorem d_Branches_findSets_22 : decode prog_2_method_6_code 22 = .ok (.if_icmp .ne 21, 3) := by decide +kernel
theorem d_Branches_findSets_25 : decode prog_2_method_6_code 25 = .ok (.aload_n 0, 1) := by decide +kernel
theorem d_Branches_findSets_26 : decode prog_2_method_6_code 26 = .ok (.getfield 48, 3) := by decide +kernel
theorem d_Branches_findSets_29 : decode prog_2_method_6_code 29 = .ok (.aload_n 0, 1) := by decide +kernel
theorem d_Branches_findSets_30 : decode prog_2_method_6_code 30 = .ok (.getfield 70, 3) := by decide +kernel
theorem d_Branches_findSets_33 : decode prog_2_method_6_code 33 = .ok (.invokevirtual 119, 3) := by decide +kernel
theorem d_Branches_findSets_36 : decode prog_2_method_6_code 36 = .ok (.ifCond .eq 7, 3) := by decide +kernel
theorem d_Branches_findSets_39 : decode prog_2_method_6_code 39 = .ok (.iconst 1, 1) := by decide +kernel
theorem d_Branches_findSets_40 : decode prog_2_method_6_code 40 = .ok (.goto 4, 3) := by decide +kernel
theorem d_Branches_findSets_43 : decode prog_2_method_6_code 43 = .ok (.iconst 0, 1) := by decide +kernel
theorem d_Branches_findSets_44 : decode prog_2_method_6_code 44 = .ok (.istore_n 1, 1) := by decide +kernel
theorem d_Branches_findSets_45 : decode prog_2_method_6_code 45 = .ok (.iload_n 1, 1) := by decide +kernel
theorem d_Branches_findSets_46 : decode prog_2_method_6_code 46 = .ok (.ifCond .eq 4, 3) := by decide +kernel
theorem d_Branches_findSets_49 : decode prog_2_method_6_code 49 = .ok (.return_, 1) := by decide +kernel
theorem d_Branches_findSets_50 : decode prog_2_method_6_code 50 = .ok (.aload_n 0, 1) := by decide +kernel
theorem d_Branches_findSets_51 : decode prog_2_method_6_code 51 = .ok (.invokevirtual 123, 3) := by decide +kernel
theorem d_Branches_findSets_54 : decode prog_2_method_6_code 54 = .ok (.iconst 0, 1) := by decide +kernel
theorem d_Branches_findSets_55 : decode prog_2_method_6_code 55 = .ok (.istore_n 2, 1) := by decide +kernel
theorem d_Branches_findSets_56 : decode prog_2_method_6_code 56 = .ok (.iload_n 2, 1) := by decide +kernel
theorem d_Branches_findSets_57 : decode prog_2_method_6_code 57 = .ok (.aload_n 0, 1) := by decide +kernel
theorem d_Branches_findSets_58 : decode prog_2_method_6_code 58 = .ok (.getfield 43, 3) := by decide +kernel
theorem d_Branches_findSets_61 : decode prog_2_method_6_code 61 = .ok (.arraylength, 1) := by decide +kernel
theorem d_Branches_findSets_62 : decode prog_2_method_6_code 62 = .ok (.if_icmp .ge 16, 3) := by decide +kernel
theorem d_Branches_findSets_65 : decode prog_2_method_6_code 65 = .ok (.aload_n 0, 1) := by decide +kernel
theorem d_Branches_findSets_66 : decode prog_2_method_6_code 66 = .ok (.getfield 43, 3) := by decide +kernel
theorem d_Branches_findSets_69 : decode prog_2_method_6_code 69 = .ok (.iload_n 2, 1) := by decide +kernel
theorem d_Branches_findSets_70 : decode prog_2_method_6_code 70 = .ok (.iconst 0, 1) := by decide +kernel
theorem d_Branches_findSets_71 : decode prog_2_method_6_code 71 = .ok (.bastore, 1) := by decide +kernel
theorem d_Branches_findSets_72 : decode prog_2_method_6_code 72 = .ok (.iinc 2 1, 3) := by decide +kernel
theorem d_Branches_findSets_75 : decode prog_2_method_6_code 75 = .ok (.goto (-19), 3) := by decide +kernel
theorem d_Branches_findSets_78 : decode prog_2_method_6_code 78 = .ok (.aload_n 0, 1) := by decide +kernel
theorem d_Branches_findSets_79 : decode prog_2_method_6_code 79 = .ok (.getfield 11, 3) := by decide +kernel
theorem d_Branches_findSets_82 : decode prog_2_method_6_code 82 = .ok (.iconst 0, 1) := by decide +kernel
theorem d_Branches_findSets_83 : decode prog_2_method_6_code 83 = .ok (.aaload, 1) := by decide +kernel
theorem d_Branches_findSets_84 : decode prog_2_method_6_code 84 = .ok (.aload_n 0, 1) := by decide +kernel
theorem d_Branches_findSets_85 : decode prog_2_method_6_code 85 = .ok (.getfield 70, 3) := by decide +kernel
theorem d_Branches_findSets_88 : decode prog_2_method_6_code 88 = .ok (.invokevirtual 73, 3) := by decide +kernel
theorem d_Branches_findSets_91 : decode prog_2_method_6_code 91 = .ok (.aload_n 0, 1) := by decide +kernel
theorem d_Branches_findSets_92 : decode prog_2_method_6_code 92 = .ok (.iconst 0, 1) := by decide +kernel
theorem d_Branches_findSets_93 : decode prog_2_method_6_code 93 = .ok (.iconst 0, 1) := by decide +kernel
theorem d_Branches_findSets_94 : decode prog_2_method_6_code 94 = .ok (.invokevirtual 126, 3) := by decide +kernel
theorem d_Branches_findSets_97 : decode prog_2_method_6_code 97 = .ok (.aload_n 0, 1) := by decide +kernel
theorem d_Branches_findSets_98 : decode prog_2_method_6_code 98 = .ok (.getfield 66, 3) := by decide +kernel
theorem d_Branches_findSets_101 : decode prog_2_method_6_code 101 = .ok (.sipush 1023, 3) := by decide +kernel
theorem d_Branches_findSets_104 : decode prog_2_method_6_code 104 = .ok (.putfield 130, 3) := by decide +kernel
theorem d_Branches_findSets_107 : decode prog_2_method_6_code 107 = .ok (.aload_n 0, 1) := by decide +kernel
theorem d_Branches_findSets_108 : decode prog_2_method_6_code 108 = .ok (.getfield 48, 3) := by decide +kernel
theorem d_Branches_findSets_111 : decode prog_2_method_6_code 111 = .ok (.aload_n 0, 1) := by decide +kernel
theorem d_Branches_findSets_112 : decode prog_2_method_6_code 112 = .ok (.getfield 70, 3) := by decide +kernel
theorem d_Branches_findSets_115 : decode prog_2_method_6_code 115 = .ok (.invokevirtual 73, 3) := by decide +kernel
theorem d_Branches_findSets_118 : decode prog_2_method_6_code 118 = .ok (.aload_n 0, 1) := by decide +kernel
theorem d_Branches_findSets_119 : decode prog_2_method_6_code 119 = .ok (.aload_n 0, 1) := by decide +kernel
theorem d_Branches_findSets_120 : decode prog_2_method_6_code 120 = .ok (.getfield 62, 3) := by decide +kernel
theorem d_Branches_findSets_123 : decode prog_2_method_6_code 123 = .ok (.getfield 114, 3) := by decide +kernel
theorem d_Branches_findSets_126 : decode prog_2_method_6_code 126 = .ok (.putfield 52, 3) := by decide +kernel
theorem d_Branches_findSets_129 : decode prog_2_method_6_code 129 = .ok (.aload_n 0, 1) := by decide +kernel
theorem d_Branches_findSets_130 : decode prog_2_method_6_code 130 = .ok (.aload_n 0, 1) := by decide +kernel
theorem d_Branches_findSets_131 : decode prog_2_method_6_code 131 = .ok (.getfield 34, 3) := by decide +kernel
theorem d_Branches_findSets_134 : decode prog_2_method_6_code 134 = .ok (.putfield 55, 3) := by decide +kernel
theorem d_Branches_findSets_137 : decode prog_2_method_6_code 137 = .ok (.return_, 1) := by decide +kernel
def s_Branches_findSets_56_b (rec56 : Int32 → LH → Option (LH)) (y2 : Int32) (σ : LH) : Option (LH) :=
  if 1024 ≤ y2 then (
   if ib 0 11 then (
   xl ((96 + 9 * (Int32.toNatClampNeg 0)) : Nat) fun h12 =>
   xb1 (s_Hall_beginAs h12 39 σ) fun σ14 =>
   xb1 (s_Branches_choose RF 0 0 σ14) fun σ16 =>
   xl ((stI σ16 38 2 1023) : LH) fun σ17 =>
   xb1 (s_Hall_beginAs 87 39 σ17) fun σ19 =>
   xl ((stI σ19 81 15 (σ19.1 33 5)) : LH) fun σ20 =>
   xl ((stI σ20 81 16 (σ20.1 81 10)) : LH) fun σ21 =>
   some σ21) else none)
  else (
   if ib y2 1024 then (
   xl ((stI σ 86 (Int32.toNatClampNeg y2) (vp_nar .boolean 0)) : LH) fun σ23 =>
   xl ((y2 + 1) : Int32) fun x24 =>
   rec56 x24 σ23) else none)
def s_Branches_findSets_56 : Nat → Int32 → LH → Option (LH)
  | 0, _, _ => none
  | n + 1, y2, σ => s_Branches_findSets_56_b (s_Branches_findSets_56 n) y2 σ
theorem bb_Branches_findSets_56 {G : XG} {l : Launch} {p : Program} {e : Env} {R : Room} {s : State} {m : MethodId} {args : Array Value} {below : List Frame} {meth : Method} {c : Code} (C : XC G 1 570 p s m args c prog_2_method_6_code 3 R_Branches) (hr : meth.sig.returnType = none) (hk : meth.locks = false) {d : Nat} (hd : 23 ≤ d + 1) (hR : xroom R (d + 1)) {rec56 : Int32 → LH → Option (LH)} {σ' : LH} (hrec56 : ∀ (y2 : Int32) (σ : LH), rec56 y2 σ = some σ' → XJ G 1 570 p l e R s m args below meth c 3 (XQ G 1 570 below args s none σ') 0 0 56 [(0, .ref (G.2.2.1 + 81)), (2, .int y2)] [] σ) {y2 : Int32} {σ : LH} (h0 : s_Branches_findSets_56_b rec56 y2 σ = some σ') : XJ G 1 570 p l e R s m args below meth c 3 (XQ G 1 570 below args s none σ') 0 0 56 [(0, .ref (G.2.2.1 + 81)), (2, .int y2)] [] σ := by
  replace h0 := (show _ = _ from h0)
  unfold s_Branches_findSets_56_b at h0
  refine x_iload_n C d_Branches_findSets_56 1 rfl ?_
  refine x_aload_n C d_Branches_findSets_57 0 rfl ?_
  refine x_getA (y := 86) C fg_Branches_43 k_81 rfl d_Branches_findSets_58 ?_
  refine x_zlen (v := 1024) C k_86 rfl d_Branches_findSets_61 ?_
  refine x_icmp_ge C 78 d_Branches_findSets_62 (by decide) (fun q10 => ?_) (fun q10 => ?_)
  · replace h0 := xit q10 h0
    refine x_aload_n C d_Branches_findSets_78 0 rfl ?_
    refine x_getA (y := 82) C fg_Branches_11 k_81 rfl d_Branches_findSets_79 ?_
    refine x_iconst (v := 0) C d_Branches_findSets_82 (by decide) ?_
    obtain ⟨g11, h0⟩ := xgo h0
    refine x_hald C k_82 (ib_in g11) d_Branches_findSets_83 ?_
    obtain ⟨h12, eh12, h0⟩ := xlet h0
    refine x_nameR C eh12 ?_
    have hh12 : h12 ∈ xHalls := by rw [eh12]; exact ways_in g11
    refine x_aload_n C d_Branches_findSets_84 0 rfl ?_
    refine x_getA (y := 39) C fg_Branches_70 k_81 rfl d_Branches_findSets_85 ?_
    obtain ⟨σ14, k13, h0⟩ := xbind1 h0
    refine x_callVv C hR (c_Hall_beginAs (d := d) (by omega) hh12 (show 39 ∈ xHalls by decide) k13) cw_Branches_73 (hl_0 hh12) rfl rfl rfl (Nat.le_of_ble_eq_true rfl) ⟨Nat.zero_le _, Nat.zero_le _⟩ d_Branches_findSets_88 ?_
    refine x_aload_n C d_Branches_findSets_91 0 rfl ?_
    refine x_iconst (v := 0) C d_Branches_findSets_92 (by decide) ?_
    refine x_iconst (v := 0) C d_Branches_findSets_93 (by decide) ?_
    obtain ⟨σ16, k15, h0⟩ := xbind1 h0
    refine x_callVv C hR (c_Branches_choose (d := d) (by omega) k15) cw_Branches_126 k_81 rfl rfl rfl (Nat.le_of_ble_eq_true rfl) ⟨Nat.zero_le _, Nat.zero_le _⟩ d_Branches_findSets_94 ?_
    refine x_aload_n C d_Branches_findSets_97 0 rfl ?_
    refine x_getA (y := 38) C fg_Branches_66 k_81 rfl d_Branches_findSets_98 ?_
    refine x_sipush (v := 1023) C d_Branches_findSets_101 (by decide) ?_
    refine x_putI (y := 0) C fp_Branches_130 k_38 rfl rfl rfl d_Branches_findSets_104 ?_
    obtain ⟨σ17, eσ17, h0⟩ := xlet h0
    refine x_sig C eσ17 ?_
    refine x_aload_n C d_Branches_findSets_107 0 rfl ?_
    refine x_getA (y := 87) C fg_Branches_48 k_81 rfl d_Branches_findSets_108 ?_
    refine x_aload_n C d_Branches_findSets_111 0 rfl ?_
    refine x_getA (y := 39) C fg_Branches_70 k_81 rfl d_Branches_findSets_112 ?_
    obtain ⟨σ19, k18, h0⟩ := xbind1 h0
    refine x_callVv C hR (c_Hall_beginAs (d := d) (by omega) (show 87 ∈ xHalls by decide) (show 39 ∈ xHalls by decide) k18) cw_Branches_73 k_87 rfl rfl rfl (Nat.le_of_ble_eq_true rfl) ⟨Nat.zero_le _, Nat.zero_le _⟩ d_Branches_findSets_115 ?_
    refine x_aload_n C d_Branches_findSets_118 0 rfl ?_
    refine x_aload_n C d_Branches_findSets_119 0 rfl ?_
    refine x_getA (y := 33) C fg_Branches_62 k_81 rfl d_Branches_findSets_120 ?_
    refine x_getI (y := 0) C fg_Branches_114 k_33 rfl d_Branches_findSets_123 ?_
    refine x_putI (y := 0) C fp_Branches_52 k_81 rfl rfl rfl d_Branches_findSets_126 ?_
    obtain ⟨σ20, eσ20, h0⟩ := xlet h0
    refine x_sig C eσ20 ?_
    refine x_aload_n C d_Branches_findSets_129 0 rfl ?_
    refine x_aload_n C d_Branches_findSets_130 0 rfl ?_
    refine x_getI (y := 0) C fg_Branches_34 k_81 rfl d_Branches_findSets_131 ?_
    refine x_putI (y := 0) C fp_Branches_55 k_81 rfl rfl rfl d_Branches_findSets_134 ?_
    obtain ⟨σ21, eσ21, h0⟩ := xlet h0
    refine x_sig C eσ21 ?_
    exact x_vret C hr hk h0 d_Branches_findSets_137
  · replace h0 := xif q10 h0
    refine x_aload_n C d_Branches_findSets_65 0 rfl ?_
    refine x_getA (y := 86) C fg_Branches_43 k_81 rfl d_Branches_findSets_66 ?_
    refine x_iload_n C d_Branches_findSets_69 1 rfl ?_
    refine x_iconst (v := 0) C d_Branches_findSets_70 (by decide) ?_
    obtain ⟨g22, h0⟩ := xgo h0
    refine x_zast C k_86 (ib_in g22) d_Branches_findSets_71 ?_
    obtain ⟨σ23, eσ23, h0⟩ := xlet h0
    refine x_sig C eσ23 ?_
    obtain ⟨x24, ex24, h0⟩ := xlet h0
    refine x_iinc (lv' := [(2, .int x24), (0, .ref (G.2.2.1 + 81))]) C d_Branches_findSets_72 1 rfl ex24 (by decide) rfl ?_
    refine x_goto C 56 d_Branches_findSets_75 (by decide) ?_
    exact x_lv C [1, 0] rfl (hrec56 _ _ h0)
theorem b_Branches_findSets_56 {G : XG} {l : Launch} {p : Program} {e : Env} {R : Room} {s : State} {m : MethodId} {args : Array Value} {below : List Frame} {meth : Method} {c : Code} (C : XC G 1 570 p s m args c prog_2_method_6_code 3 R_Branches) (hr : meth.sig.returnType = none) (hk : meth.locks = false) {d : Nat} (hd : 23 ≤ d + 1) (hR : xroom R (d + 1)) {σ' : LH} : ∀ (n : Nat) (y2 : Int32) (σ : LH), s_Branches_findSets_56 n y2 σ = some σ' → XJ G 1 570 p l e R s m args below meth c 3 (XQ G 1 570 below args s none σ') 0 0 56 [(0, .ref (G.2.2.1 + 81)), (2, .int y2)] [] σ := by
  intro n
  induction n with
  | zero => intro y2 σ h0; cases h0
  | succ n ih => intro y2 σ h0; exact bb_Branches_findSets_56 C hr hk hd hR ih h0
def s_Branches_findSets_44 (z0 : Int32) (σ : LH) : Option (LH) :=
  if z0 = 0 then (
   xb1 (s_Branches_lineUp σ) fun σ9 =>
   s_Branches_findSets_56 FUEL 0 σ9)
  else (
   some σ)
theorem b_Branches_findSets_44 {G : XG} {l : Launch} {p : Program} {e : Env} {R : Room} {s : State} {m : MethodId} {args : Array Value} {below : List Frame} {meth : Method} {c : Code} (C : XC G 1 570 p s m args c prog_2_method_6_code 3 R_Branches) (hr : meth.sig.returnType = none) (hk : meth.locks = false) {d : Nat} (hd : 23 ≤ d + 1) (hR : xroom R (d + 1)) {σ' : LH} {z0 : Int32} {σ : LH} (h0 : s_Branches_findSets_44 z0 σ = some σ') : XJ G 1 570 p l e R s m args below meth c 3 (XQ G 1 570 below args s none σ') 0 0 44 [(0, .ref (G.2.2.1 + 81))] [.int z0] σ := by
  replace h0 := (show _ = _ from h0)
  unfold s_Branches_findSets_44 at h0
  refine x_istore_n (lv' := [(1, .int z0), (0, .ref (G.2.2.1 + 81))]) C d_Branches_findSets_44 rfl (by decide) rfl ?_
  refine x_iload_n C d_Branches_findSets_45 0 rfl ?_
  refine x_if_eq C 50 d_Branches_findSets_46 (by decide) (fun q7 => ?_) (fun q7 => ?_)
  · replace h0 := xit q7 h0
    refine x_aload_n C d_Branches_findSets_50 1 rfl ?_
    obtain ⟨σ9, k8, h0⟩ := xbind1 h0
    refine x_callVv C hR (c_Branches_lineUp (d := d) (by omega) k8) cw_Branches_123 k_81 rfl rfl rfl (Nat.le_of_ble_eq_true rfl) ⟨Nat.zero_le _, Nat.zero_le _⟩ d_Branches_findSets_51 ?_
    refine x_iconst (v := 0) C d_Branches_findSets_54 (by decide) ?_
    refine x_istore_n (lv' := [(2, .int 0), (1, .int z0), (0, .ref (G.2.2.1 + 81))]) C d_Branches_findSets_55 rfl (by decide) rfl ?_
    exact x_lv C [2, 0] rfl (b_Branches_findSets_56 C hr hk hd hR FUEL _ _ h0)
  · replace h0 := xif q7 h0
    exact x_vret C hr hk h0 d_Branches_findSets_49
def s_Branches_findSets_43 (σ : LH) : Option (LH) :=
  s_Branches_findSets_44 0 σ
theorem b_Branches_findSets_43 {G : XG} {l : Launch} {p : Program} {e : Env} {R : Room} {s : State} {m : MethodId} {args : Array Value} {below : List Frame} {meth : Method} {c : Code} (C : XC G 1 570 p s m args c prog_2_method_6_code 3 R_Branches) (hr : meth.sig.returnType = none) (hk : meth.locks = false) {d : Nat} (hd : 23 ≤ d + 1) (hR : xroom R (d + 1)) {σ' : LH} {σ : LH} (h0 : s_Branches_findSets_43 σ = some σ') : XJ G 1 570 p l e R s m args below meth c 3 (XQ G 1 570 below args s none σ') 0 0 43 [(0, .ref (G.2.2.1 + 81))] [] σ := by
  replace h0 := (show _ = _ from h0)
  unfold s_Branches_findSets_43 at h0
  refine x_iconst (v := 0) C d_Branches_findSets_43 (by decide) ?_
  exact x_lv C [0] rfl (b_Branches_findSets_44 C hr hk hd hR h0)
def s_Branches_findSets (σ : LH) : Option (LH) :=
  if (σ.1 81 15) = (σ.1 33 5) then (
   if (σ.1 81 16) = (σ.1 81 10) then (
    xb2 (s_Hall_goesOnAs 87 39 σ) fun r4 σ5 =>
    if r4 = 0 then (
     s_Branches_findSets_43 σ5)
    else (
     s_Branches_findSets_44 1 σ5))
   else (
    s_Branches_findSets_43 σ))
  else (
   s_Branches_findSets_43 σ)
theorem c_Branches_findSets {G : XG} {l : Launch} {d : Nat} (hd : 23 ≤ d) {σ σ' : LH} (h0 : s_Branches_findSets σ = some σ') : xM G 1 570 l y_Branches_findSets prog_2_method_6_code 3 none d [.ref (G.2.2.1 + 81)] σ none σ' := by
  obtain ⟨d, rfl⟩ : ∃ q, d = q + 1 := ⟨d - 1, by omega⟩
  refine x_met R_Branches rfl (by decide +kernel) (Nat.le_of_ble_eq_true rfl) fun p e s m below meth c C hr hk hR => ?_
  refine x_lv (lv' := [(0, .ref (G.2.2.1 + 81))]) C [0] rfl ?_
  generalize xrm (d + 1) = R at hR ⊢
  unfold s_Branches_findSets at h0
  refine x_aload_n C d_Branches_findSets_0 0 rfl ?_
  refine x_getI (y := 0) C fg_Branches_52 k_81 rfl d_Branches_findSets_1 ?_
  refine x_aload_n C d_Branches_findSets_4 0 rfl ?_
  refine x_getA (y := 33) C fg_Branches_62 k_81 rfl d_Branches_findSets_5 ?_
  refine x_getI (y := 0) C fg_Branches_114 k_33 rfl d_Branches_findSets_8 ?_
  refine x_icmp_ne C 43 d_Branches_findSets_11 (by decide) (fun q1 => ?_) (fun q1 => ?_)
  · replace h0 := xif q1 h0
    exact x_lv C [0] rfl (b_Branches_findSets_43 C hr hk hd hR h0)
  · replace h0 := xit q1 h0
    refine x_aload_n C d_Branches_findSets_14 0 rfl ?_
    refine x_getI (y := 0) C fg_Branches_55 k_81 rfl d_Branches_findSets_15 ?_
    refine x_aload_n C d_Branches_findSets_18 0 rfl ?_
    refine x_getI (y := 0) C fg_Branches_34 k_81 rfl d_Branches_findSets_19 ?_
    refine x_icmp_ne C 43 d_Branches_findSets_22 (by decide) (fun q2 => ?_) (fun q2 => ?_)
    · replace h0 := xif q2 h0
      exact x_lv C [0] rfl (b_Branches_findSets_43 C hr hk hd hR h0)
    · replace h0 := xit q2 h0
      refine x_aload_n C d_Branches_findSets_25 0 rfl ?_
      refine x_getA (y := 87) C fg_Branches_48 k_81 rfl d_Branches_findSets_26 ?_
      refine x_aload_n C d_Branches_findSets_29 0 rfl ?_
      refine x_getA (y := 39) C fg_Branches_70 k_81 rfl d_Branches_findSets_30 ?_
      obtain ⟨r4, σ5, k3, h0⟩ := xbind2 h0
      refine x_callVi C hR (c_Hall_goesOnAs (d := d) (by omega) (show 87 ∈ xHalls by decide) (show 39 ∈ xHalls by decide) k3) cw_Branches_119 k_87 rfl rfl rfl (Nat.le_of_ble_eq_true rfl) ⟨Nat.zero_le _, Nat.zero_le _⟩ d_Branches_findSets_33 ?_
      refine x_if_eq C 43 d_Branches_findSets_36 (by decide) (fun q6 => ?_) (fun q6 => ?_)
      · replace h0 := xit q6 h0
        exact x_lv C [0] rfl (b_Branches_findSets_43 C hr hk hd hR h0)
      · replace h0 := xif q6 h0
        refine x_iconst (v := 1) C d_Branches_findSets_39 (by decide) ?_
        refine x_goto C 44 d_Branches_findSets_40 (by decide) ?_
        exact x_lv C [0] rfl (b_Branches_findSets_44 C hr hk hd hR h0)
-- LostPlaces$Branches.fitting(I)I
theorem d_Branches_fitting_0 : decode prog_2_method_7_code 0 = .ok (.iconst 0, 1) := by decide +kernel
theorem d_Branches_fitting_1 : decode prog_2_method_7_code 1 = .ok (.istore_n 2, 1) := by decide +kernel
theorem d_Branches_fitting_2 : decode prog_2_method_7_code 2 = .ok (.iconst 0, 1) := by decide +kernel
theorem d_Branches_fitting_3 : decode prog_2_method_7_code 3 = .ok (.istore_n 3, 1) := by decide +kernel
theorem d_Branches_fitting_4 : decode prog_2_method_7_code 4 = .ok (.iload_n 3, 1) := by decide +kernel
theorem d_Branches_fitting_5 : decode prog_2_method_7_code 5 = .ok (.aload_n 0, 1) := by decide +kernel
theorem d_Branches_fitting_6 : decode prog_2_method_7_code 6 = .ok (.getfield 43, 3) := by decide +kernel
theorem d_Branches_fitting_9 : decode prog_2_method_7_code 9 = .ok (.arraylength, 1) := by decide +kernel
theorem d_Branches_fitting_10 : decode prog_2_method_7_code 10 = .ok (.if_icmp .ge 31, 3) := by decide +kernel
theorem d_Branches_fitting_13 : decode prog_2_method_7_code 13 = .ok (.aload_n 0, 1) := by decide +kernel
theorem d_Branches_fitting_14 : decode prog_2_method_7_code 14 = .ok (.getfield 43, 3) := by decide +kernel
theorem d_Branches_fitting_17 : decode prog_2_method_7_code 17 = .ok (.iload_n 3, 1) := by decide +kernel
theorem d_Branches_fitting_18 : decode prog_2_method_7_code 18 = .ok (.baload, 1) := by decide +kernel
theorem d_Branches_fitting_19 : decode prog_2_method_7_code 19 = .ok (.ifCond .ne 6, 3) := by decide +kernel
theorem d_Branches_fitting_22 : decode prog_2_method_7_code 22 = .ok (.goto 13, 3) := by decide +kernel
theorem d_Branches_fitting_25 : decode prog_2_method_7_code 25 = .ok (.iload_n 2, 1) := by decide +kernel
theorem d_Branches_fitting_26 : decode prog_2_method_7_code 26 = .ok (.iload_n 1, 1) := by decide +kernel
theorem d_Branches_fitting_27 : decode prog_2_method_7_code 27 = .ok (.if_icmp .ne 5, 3) := by decide +kernel
theorem d_Branches_fitting_30 : decode prog_2_method_7_code 30 = .ok (.iload_n 3, 1) := by decide +kernel
theorem d_Branches_fitting_31 : decode prog_2_method_7_code 31 = .ok (.ireturn, 1) := by decide +kernel
theorem d_Branches_fitting_32 : decode prog_2_method_7_code 32 = .ok (.iinc 2 1, 3) := by decide +kernel
theorem d_Branches_fitting_35 : decode prog_2_method_7_code 35 = .ok (.iinc 3 1, 3) := by decide +kernel
theorem d_Branches_fitting_38 : decode prog_2_method_7_code 38 = .ok (.goto (-34), 3) := by decide +kernel
theorem d_Branches_fitting_41 : decode prog_2_method_7_code 41 = .ok (.iload_n 1, 1) := by decide +kernel
theorem d_Branches_fitting_42 : decode prog_2_method_7_code 42 = .ok (.iconst (-1), 1) := by decide +kernel
theorem d_Branches_fitting_43 : decode prog_2_method_7_code 43 = .ok (.if_icmp .ne 7, 3) := by decide +kernel
theorem d_Branches_fitting_46 : decode prog_2_method_7_code 46 = .ok (.iload_n 2, 1) := by decide +kernel
theorem d_Branches_fitting_47 : decode prog_2_method_7_code 47 = .ok (.goto 4, 3) := by decide +kernel
theorem d_Branches_fitting_50 : decode prog_2_method_7_code 50 = .ok (.iconst (-1), 1) := by decide +kernel
theorem d_Branches_fitting_51 : decode prog_2_method_7_code 51 = .ok (.ireturn, 1) := by decide +kernel
def s_Branches_fitting_51 (p0 : Int32) (z0 : Int32) (σ : LH) : Option (Int32 × LH) :=
  some (z0, σ)
theorem b_Branches_fitting_51 {G : XG} {l : Launch} {p : Program} {e : Env} {R : Room} {s : State} {m : MethodId} {args : Array Value} {below : List Frame} {meth : Method} {c : Code} (C : XC G 1 570 p s m args c prog_2_method_7_code 4 R_Branches) (hr : meth.sig.returnType = (some .int)) (hk : meth.locks = false) {d : Nat} (hd : 1 ≤ d + 1) (hR : xroom R (d + 1)) {p0 : Int32} {σ' : LH} {r : Int32} {z0 : Int32} {σ : LH} (h0 : s_Branches_fitting_51 p0 z0 σ = some (r, σ')) : XJ G 1 570 p l e R s m args below meth c 4 (XQ G 1 570 below args s (some (.int r)) σ') 0 0 51 [] [.int z0] σ := by
  replace h0 := (show _ = _ from h0)
  unfold s_Branches_fitting_51 at h0
  exact x_iret C hr hk h0 d_Branches_fitting_51
def s_Branches_fitting_35 (p0 : Int32) (rec4 : Int32 → Int32 → LH → Option (Int32 × LH)) (y2 : Int32) (y3 : Int32) (σ : LH) : Option (Int32 × LH) :=
  xl ((y3 + 1) : Int32) fun x5 =>
  rec4 y2 x5 σ
theorem b_Branches_fitting_35 {G : XG} {l : Launch} {p : Program} {e : Env} {R : Room} {s : State} {m : MethodId} {args : Array Value} {below : List Frame} {meth : Method} {c : Code} (C : XC G 1 570 p s m args c prog_2_method_7_code 4 R_Branches) (hr : meth.sig.returnType = (some .int)) (hk : meth.locks = false) {d : Nat} (hd : 1 ≤ d + 1) (hR : xroom R (d + 1)) {p0 : Int32} {rec4 : Int32 → Int32 → LH → Option (Int32 × LH)} {σ' : LH} {r : Int32} (hrec4 : ∀ (y2 : Int32) (y3 : Int32) (σ : LH), rec4 y2 y3 σ = some (r, σ') → XJ G 1 570 p l e R s m args below meth c 4 (XQ G 1 570 below args s (some (.int r)) σ') 0 0 4 [(0, .ref (G.2.2.1 + 81)), (1, .int p0), (2, .int y2), (3, .int y3)] [] σ) {y2 : Int32} {y3 : Int32} {σ : LH} (h0 : s_Branches_fitting_35 p0 rec4 y2 y3 σ = some (r, σ')) : XJ G 1 570 p l e R s m args below meth c 4 (XQ G 1 570 below args s (some (.int r)) σ') 0 0 35 [(0, .ref (G.2.2.1 + 81)), (1, .int p0), (2, .int y2), (3, .int y3)] [] σ := by
  replace h0 := (show _ = _ from h0)
  unfold s_Branches_fitting_35 at h0
  obtain ⟨x5, ex5, h0⟩ := xlet h0
  refine x_iinc (lv' := [(3, .int x5), (0, .ref (G.2.2.1 + 81)), (1, .int p0), (2, .int y2)]) C d_Branches_fitting_35 3 rfl ex5 (by decide) rfl ?_
  refine x_goto C 4 d_Branches_fitting_38 (by decide) ?_
  exact x_lv C [1, 2, 3, 0] rfl (hrec4 _ _ _ h0)
def s_Branches_fitting_4_b (p0 : Int32) (rec4 : Int32 → Int32 → LH → Option (Int32 × LH)) (y2 : Int32) (y3 : Int32) (σ : LH) : Option (Int32 × LH) :=
  if 1024 ≤ y3 then (
   if p0 = (-1) then (
    s_Branches_fitting_51 p0 y2 σ)
   else (
    s_Branches_fitting_51 p0 (-1) σ))
  else (
   if ib y3 1024 then (
   if (σ.1 86 (Int32.toNatClampNeg y3)) = 0 then (
    s_Branches_fitting_35 p0 rec4 y2 y3 σ)
   else (
    if y2 = p0 then (
     some (y3, σ))
    else (
     xl ((y2 + 1) : Int32) fun x7 =>
     s_Branches_fitting_35 p0 rec4 x7 y3 σ))) else none)
def s_Branches_fitting_4 (p0 : Int32) : Nat → Int32 → Int32 → LH → Option (Int32 × LH)
  | 0, _, _, _ => none
  | n + 1, y2, y3, σ => s_Branches_fitting_4_b p0 (s_Branches_fitting_4 p0 n) y2 y3 σ
theorem bb_Branches_fitting_4 {G : XG} {l : Launch} {p : Program} {e : Env} {R : Room} {s : State} {m : MethodId} {args : Array Value} {below : List Frame} {meth : Method} {c : Code} (C : XC G 1 570 p s m args c prog_2_method_7_code 4 R_Branches) (hr : meth.sig.returnType = (some .int)) (hk : meth.locks = false) {d : Nat} (hd : 1 ≤ d + 1) (hR : xroom R (d + 1)) {p0 : Int32} {rec4 : Int32 → Int32 → LH → Option (Int32 × LH)} {σ' : LH} {r : Int32} (hrec4 : ∀ (y2 : Int32) (y3 : Int32) (σ : LH), rec4 y2 y3 σ = some (r, σ') → XJ G 1 570 p l e R s m args below meth c 4 (XQ G 1 570 below args s (some (.int r)) σ') 0 0 4 [(0, .ref (G.2.2.1 + 81)), (1, .int p0), (2, .int y2), (3, .int y3)] [] σ) {y2 : Int32} {y3 : Int32} {σ : LH} (h0 : s_Branches_fitting_4_b p0 rec4 y2 y3 σ = some (r, σ')) : XJ G 1 570 p l e R s m args below meth c 4 (XQ G 1 570 below args s (some (.int r)) σ') 0 0 4 [(0, .ref (G.2.2.1 + 81)), (1, .int p0), (2, .int y2), (3, .int y3)] [] σ := by
  replace h0 := (show _ = _ from h0)
  unfold s_Branches_fitting_4_b at h0
  refine x_iload_n C d_Branches_fitting_4 3 rfl ?_
  refine x_aload_n C d_Branches_fitting_5 0 rfl ?_
  refine x_getA (y := 86) C fg_Branches_43 k_81 rfl d_Branches_fitting_6 ?_
  refine x_zlen (v := 1024) C k_86 rfl d_Branches_fitting_9 ?_
  refine x_icmp_ge C 41 d_Branches_fitting_10 (by decide) (fun q1 => ?_) (fun q1 => ?_)
  · replace h0 := xit q1 h0
    refine x_iload_n C d_Branches_fitting_41 1 rfl ?_
    refine x_iconst (v := (-1)) C d_Branches_fitting_42 (by decide) ?_
    refine x_icmp_ne C 50 d_Branches_fitting_43 (by decide) (fun q2 => ?_) (fun q2 => ?_)
    · replace h0 := xif q2 h0
      refine x_iconst (v := (-1)) C d_Branches_fitting_50 (by decide) ?_
      exact x_lv C [] rfl (b_Branches_fitting_51 C hr hk hd hR h0)
    · replace h0 := xit q2 h0
      refine x_iload_n C d_Branches_fitting_46 2 rfl ?_
      refine x_goto C 51 d_Branches_fitting_47 (by decide) ?_
      exact x_lv C [] rfl (b_Branches_fitting_51 C hr hk hd hR h0)
  · replace h0 := xif q1 h0
    refine x_aload_n C d_Branches_fitting_13 0 rfl ?_
    refine x_getA (y := 86) C fg_Branches_43 k_81 rfl d_Branches_fitting_14 ?_
    refine x_iload_n C d_Branches_fitting_17 3 rfl ?_
    obtain ⟨g3, h0⟩ := xgo h0
    refine x_zald C k_86 (ib_in g3) d_Branches_fitting_18 ?_
    refine x_if_ne C 25 d_Branches_fitting_19 (by decide) (fun q4 => ?_) (fun q4 => ?_)
    · replace h0 := xif q4 h0
      refine x_iload_n C d_Branches_fitting_25 2 rfl ?_
      refine x_iload_n C d_Branches_fitting_26 1 rfl ?_
      refine x_icmp_ne C 32 d_Branches_fitting_27 (by decide) (fun q6 => ?_) (fun q6 => ?_)
      · replace h0 := xif q6 h0
        obtain ⟨x7, ex7, h0⟩ := xlet h0
        refine x_iinc (lv' := [(2, .int x7), (0, .ref (G.2.2.1 + 81)), (1, .int p0), (3, .int y3)]) C d_Branches_fitting_32 2 rfl ex7 (by decide) rfl ?_
        exact x_lv C [1, 2, 0, 3] rfl (b_Branches_fitting_35 C hr hk hd hR hrec4 h0)
      · replace h0 := xit q6 h0
        refine x_iload_n C d_Branches_fitting_30 3 rfl ?_
        exact x_iret C hr hk h0 d_Branches_fitting_31
    · replace h0 := xit q4 h0
      refine x_goto C 35 d_Branches_fitting_22 (by decide) ?_
      exact x_lv C [0, 1, 2, 3] rfl (b_Branches_fitting_35 C hr hk hd hR hrec4 h0)
theorem b_Branches_fitting_4 {G : XG} {l : Launch} {p : Program} {e : Env} {R : Room} {s : State} {m : MethodId} {args : Array Value} {below : List Frame} {meth : Method} {c : Code} (C : XC G 1 570 p s m args c prog_2_method_7_code 4 R_Branches) (hr : meth.sig.returnType = (some .int)) (hk : meth.locks = false) {d : Nat} (hd : 1 ≤ d + 1) (hR : xroom R (d + 1)) {p0 : Int32} {σ' : LH} {r : Int32} : ∀ (n : Nat) (y2 : Int32) (y3 : Int32) (σ : LH), s_Branches_fitting_4 p0 n y2 y3 σ = some (r, σ') → XJ G 1 570 p l e R s m args below meth c 4 (XQ G 1 570 below args s (some (.int r)) σ') 0 0 4 [(0, .ref (G.2.2.1 + 81)), (1, .int p0), (2, .int y2), (3, .int y3)] [] σ := by
  intro n
  induction n with
  | zero => intro y2 y3 σ h0; cases h0
  | succ n ih => intro y2 y3 σ h0; exact bb_Branches_fitting_4 C hr hk hd hR ih h0
def s_Branches_fitting (p0 : Int32) (σ : LH) : Option (Int32 × LH) :=
  s_Branches_fitting_4 p0 FUEL 0 0 σ
theorem c_Branches_fitting {G : XG} {l : Launch} {d : Nat} (hd : 1 ≤ d) {p0 : Int32} {σ σ' : LH} {r : Int32} (h0 : s_Branches_fitting p0 σ = some (r, σ')) : xM G 1 570 l y_Branches_fitting prog_2_method_7_code 4 (some .int) d [.ref (G.2.2.1 + 81), .int p0] σ (some (.int r)) σ' := by
  obtain ⟨d, rfl⟩ : ∃ q, d = q + 1 := ⟨d - 1, by omega⟩
  refine x_met R_Branches rfl (by decide +kernel) (Nat.le_of_ble_eq_true rfl) fun p e s m below meth c C hr hk hR => ?_
  refine x_lv (lv' := [(0, .ref (G.2.2.1 + 81)), (1, .int p0)]) C [0, 1] rfl ?_
  generalize xrm (d + 1) = R at hR ⊢
  unfold s_Branches_fitting at h0
  refine x_iconst (v := 0) C d_Branches_fitting_0 (by decide) ?_
  refine x_istore_n (lv' := [(2, .int 0), (0, .ref (G.2.2.1 + 81)), (1, .int p0)]) C d_Branches_fitting_1 rfl (by decide) rfl ?_
  refine x_iconst (v := 0) C d_Branches_fitting_2 (by decide) ?_
  refine x_istore_n (lv' := [(3, .int 0), (2, .int 0), (0, .ref (G.2.2.1 + 81)), (1, .int p0)]) C d_Branches_fitting_3 rfl (by decide) rfl ?_
  exact x_lv C [2, 3, 1, 0] rfl (b_Branches_fitting_4 C hr hk hd hR FUEL _ _ _ h0)
-- LostPlaces.been(I)I
theorem d_Main_been_0 : decode prog_1_method_44_code 0 = .ok (.aload_n 0, 1) := by decide +kernel
theorem d_Main_been_1 : decode prog_1_method_44_code 1 = .ok (.invokevirtual 317, 3) := by decide +kernel
theorem d_Main_been_4 : decode prog_1_method_44_code 4 = .ok (.ifCond .ne 5, 3) := by decide +kernel
theorem d_Main_been_7 : decode prog_1_method_44_code 7 = .ok (.iconst (-1), 1) := by decide +kernel
theorem d_Main_been_8 : decode prog_1_method_44_code 8 = .ok (.ireturn, 1) := by decide +kernel
theorem d_Main_been_9 : decode prog_1_method_44_code 9 = .ok (.aload_n 0, 1) := by decide +kernel
theorem d_Main_been_10 : decode prog_1_method_44_code 10 = .ok (.getfield 121, 3) := by decide +kernel
theorem d_Main_been_13 : decode prog_1_method_44_code 13 = .ok (.invokevirtual 355, 3) := by decide +kernel
theorem d_Main_been_16 : decode prog_1_method_44_code 16 = .ok (.aload_n 0, 1) := by decide +kernel
theorem d_Main_been_17 : decode prog_1_method_44_code 17 = .ok (.getfield 121, 3) := by decide +kernel
theorem d_Main_been_20 : decode prog_1_method_44_code 20 = .ok (.iload_n 1, 1) := by decide +kernel
theorem d_Main_been_21 : decode prog_1_method_44_code 21 = .ok (.invokevirtual 358, 3) := by decide +kernel
theorem d_Main_been_24 : decode prog_1_method_44_code 24 = .ok (.ireturn, 1) := by decide +kernel
def s_Main_been (p0 : Int32) (σ : LH) : Option (Int32 × LH) :=
  xb2 (s_Main_hasRoom σ) fun r2 σ3 =>
  if r2 = 0 then (
   some ((-1), σ3))
  else (
   xb1 (s_Branches_findSets σ3) fun σ6 =>
   xb2 (s_Branches_fitting p0 σ6) fun r8 σ9 =>
   some (r8, σ9))
theorem c_Main_been {G : XG} {l : Launch} {d : Nat} (hd : 24 ≤ d) {p0 : Int32} {σ σ' : LH} {r : Int32} (h0 : s_Main_been p0 σ = some (r, σ')) : xM G 1 570 l y_Main_been prog_1_method_44_code 2 (some .int) d [.ref (G.2.2.1 + 1), .int p0] σ (some (.int r)) σ' := by
  obtain ⟨d, rfl⟩ : ∃ q, d = q + 1 := ⟨d - 1, by omega⟩
  refine x_met R_Main rfl (by decide +kernel) (Nat.le_of_ble_eq_true rfl) fun p e s m below meth c C hr hk hR => ?_
  refine x_lv (lv' := [(0, .ref (G.2.2.1 + 1)), (1, .int p0)]) C [0, 1] rfl ?_
  generalize xrm (d + 1) = R at hR ⊢
  unfold s_Main_been at h0
  refine x_aload_n C d_Main_been_0 0 rfl ?_
  obtain ⟨r2, σ3, k1, h0⟩ := xbind2 h0
  refine x_callVi C hR (c_Main_hasRoom (d := d) (by omega) k1) cw_Main_317 k_1 rfl rfl rfl (Nat.le_of_ble_eq_true rfl) ⟨Nat.zero_le _, Nat.zero_le _⟩ d_Main_been_1 ?_
  refine x_if_ne C 9 d_Main_been_4 (by decide) (fun q4 => ?_) (fun q4 => ?_)
  · replace h0 := xif q4 h0
    refine x_aload_n C d_Main_been_9 0 rfl ?_
    refine x_getA (y := 81) C fg_Main_121 k_1 rfl d_Main_been_10 ?_
    obtain ⟨σ6, k5, h0⟩ := xbind1 h0
    refine x_callVv C hR (c_Branches_findSets (d := d) (by omega) k5) cw_Main_355 k_81 rfl rfl rfl (Nat.le_of_ble_eq_true rfl) ⟨Nat.zero_le _, Nat.zero_le _⟩ d_Main_been_13 ?_
    refine x_aload_n C d_Main_been_16 0 rfl ?_
    refine x_getA (y := 81) C fg_Main_121 k_1 rfl d_Main_been_17 ?_
    refine x_iload_n C d_Main_been_20 1 rfl ?_
    obtain ⟨r8, σ9, k7, h0⟩ := xbind2 h0
    refine x_callVi C hR (c_Branches_fitting (d := d) (by omega) k7) cw_Main_358 k_81 rfl rfl rfl (Nat.le_of_ble_eq_true rfl) ⟨Nat.zero_le _, Nat.zero_le _⟩ d_Main_been_21 ?_
    exact x_iret C hr hk h0 d_Main_been_24
  · replace h0 := xit q4 h0
    refine x_iconst (v := (-1)) C d_Main_been_7 (by decide) ?_
    exact x_iret C hr hk h0 d_Main_been_8
-- LostPlaces.rank(I)I
theorem d_Main_rank_0 : decode prog_1_method_46_code 0 = .ok (.iconst 0, 1) := by decide +kernel
theorem d_Main_rank_1 : decode prog_1_method_46_code 1 = .ok (.istore_n 2, 1) := by decide +kernel
theorem d_Main_rank_2 : decode prog_1_method_46_code 2 = .ok (.iconst 0, 1) := by decide +kernel
theorem d_Main_rank_3 : decode prog_1_method_46_code 3 = .ok (.istore_n 3, 1) := by decide +kernel
theorem d_Main_rank_4 : decode prog_1_method_46_code 4 = .ok (.iload_n 3, 1) := by decide +kernel
theorem d_Main_rank_5 : decode prog_1_method_46_code 5 = .ok (.aload_n 0, 1) := by decide +kernel
theorem d_Main_rank_6 : decode prog_1_method_46_code 6 = .ok (.getfield 19, 3) := by decide +kernel
theorem d_Main_rank_9 : decode prog_1_method_46_code 9 = .ok (.getfield 238, 3) := by decide +kernel
theorem d_Main_rank_12 : decode prog_1_method_46_code 12 = .ok (.if_icmp .ge 59, 3) := by decide +kernel
theorem d_Main_rank_15 : decode prog_1_method_46_code 15 = .ok (.aload_n 0, 1) := by decide +kernel
theorem d_Main_rank_16 : decode prog_1_method_46_code 16 = .ok (.getfield 19, 3) := by decide +kernel
theorem d_Main_rank_19 : decode prog_1_method_46_code 19 = .ok (.getfield 167, 3) := by decide +kernel
theorem d_Main_rank_22 : decode prog_1_method_46_code 22 = .ok (.iload_n 3, 1) := by decide +kernel
theorem d_Main_rank_23 : decode prog_1_method_46_code 23 = .ok (.iaload, 1) := by decide +kernel
theorem d_Main_rank_24 : decode prog_1_method_46_code 24 = .ok (.aload_n 0, 1) := by decide +kernel
theorem d_Main_rank_25 : decode prog_1_method_46_code 25 = .ok (.getfield 19, 3) := by decide +kernel
theorem d_Main_rank_28 : decode prog_1_method_46_code 28 = .ok (.getfield 167, 3) := by decide +kernel
theorem d_Main_rank_31 : decode prog_1_method_46_code 31 = .ok (.iload_n 1, 1) := by decide +kernel
theorem d_Main_rank_32 : decode prog_1_method_46_code 32 = .ok (.iaload, 1) := by decide +kernel
theorem d_Main_rank_33 : decode prog_1_method_46_code 33 = .ok (.if_icmp .gt 29, 3) := by decide +kernel
theorem d_Main_rank_36 : decode prog_1_method_46_code 36 = .ok (.aload_n 0, 1) := by decide +kernel
theorem d_Main_rank_37 : decode prog_1_method_46_code 37 = .ok (.getfield 19, 3) := by decide +kernel
theorem d_Main_rank_40 : decode prog_1_method_46_code 40 = .ok (.getfield 167, 3) := by decide +kernel
theorem d_Main_rank_43 : decode prog_1_method_46_code 43 = .ok (.iload_n 3, 1) := by decide +kernel
theorem d_Main_rank_44 : decode prog_1_method_46_code 44 = .ok (.iaload, 1) := by decide +kernel
theorem d_Main_rank_45 : decode prog_1_method_46_code 45 = .ok (.aload_n 0, 1) := by decide +kernel
theorem d_Main_rank_46 : decode prog_1_method_46_code 46 = .ok (.getfield 19, 3) := by decide +kernel
theorem d_Main_rank_49 : decode prog_1_method_46_code 49 = .ok (.getfield 167, 3) := by decide +kernel
theorem d_Main_rank_52 : decode prog_1_method_46_code 52 = .ok (.iload_n 1, 1) := by decide +kernel
theorem d_Main_rank_53 : decode prog_1_method_46_code 53 = .ok (.iaload, 1) := by decide +kernel
theorem d_Main_rank_54 : decode prog_1_method_46_code 54 = .ok (.if_icmp .ne 11, 3) := by decide +kernel
theorem d_Main_rank_57 : decode prog_1_method_46_code 57 = .ok (.iload_n 3, 1) := by decide +kernel
theorem d_Main_rank_58 : decode prog_1_method_46_code 58 = .ok (.iload_n 1, 1) := by decide +kernel
theorem d_Main_rank_59 : decode prog_1_method_46_code 59 = .ok (.if_icmp .ge 6, 3) := by decide +kernel
theorem d_Main_rank_62 : decode prog_1_method_46_code 62 = .ok (.iinc 2 1, 3) := by decide +kernel
theorem d_Main_rank_65 : decode prog_1_method_46_code 65 = .ok (.iinc 3 1, 3) := by decide +kernel
theorem d_Main_rank_68 : decode prog_1_method_46_code 68 = .ok (.goto (-64), 3) := by decide +kernel
theorem d_Main_rank_71 : decode prog_1_method_46_code 71 = .ok (.iload_n 2, 1) := by decide +kernel
theorem d_Main_rank_72 : decode prog_1_method_46_code 72 = .ok (.ireturn, 1) := by decide +kernel
def s_Main_rank_65 (p0 : Int32) (rec4 : Int32 → Int32 → LH → Option (Int32 × LH)) (y2 : Int32) (y3 : Int32) (σ : LH) : Option (Int32 × LH) :=
  xl ((y3 + 1) : Int32) fun x6 =>
  rec4 y2 x6 σ
theorem b_Main_rank_65 {G : XG} {l : Launch} {p : Program} {e : Env} {R : Room} {s : State} {m : MethodId} {args : Array Value} {below : List Frame} {meth : Method} {c : Code} (C : XC G 1 570 p s m args c prog_1_method_46_code 4 R_Main) (hr : meth.sig.returnType = (some .int)) (hk : meth.locks = false) {d : Nat} (hd : 1 ≤ d + 1) (hR : xroom R (d + 1)) {p0 : Int32} {rec4 : Int32 → Int32 → LH → Option (Int32 × LH)} {σ' : LH} {r : Int32} (hrec4 : ∀ (y2 : Int32) (y3 : Int32) (σ : LH), rec4 y2 y3 σ = some (r, σ') → XJ G 1 570 p l e R s m args below meth c 4 (XQ G 1 570 below args s (some (.int r)) σ') 0 0 4 [(0, .ref (G.2.2.1 + 1)), (1, .int p0), (2, .int y2), (3, .int y3)] [] σ) {y2 : Int32} {y3 : Int32} {σ : LH} (h0 : s_Main_rank_65 p0 rec4 y2 y3 σ = some (r, σ')) : XJ G 1 570 p l e R s m args below meth c 4 (XQ G 1 570 below args s (some (.int r)) σ') 0 0 65 [(0, .ref (G.2.2.1 + 1)), (1, .int p0), (2, .int y2), (3, .int y3)] [] σ := by
  replace h0 := (show _ = _ from h0)
  unfold s_Main_rank_65 at h0
  obtain ⟨x6, ex6, h0⟩ := xlet h0
  refine x_iinc (lv' := [(3, .int x6), (0, .ref (G.2.2.1 + 1)), (1, .int p0), (2, .int y2)]) C d_Main_rank_65 3 rfl ex6 (by decide) rfl ?_
  refine x_goto C 4 d_Main_rank_68 (by decide) ?_
  exact x_lv C [1, 2, 3, 0] rfl (hrec4 _ _ _ h0)
def s_Main_rank_62 (p0 : Int32) (rec4 : Int32 → Int32 → LH → Option (Int32 × LH)) (y2 : Int32) (y3 : Int32) (σ : LH) : Option (Int32 × LH) :=
  xl ((y2 + 1) : Int32) fun x5 =>
  s_Main_rank_65 p0 rec4 x5 y3 σ
theorem b_Main_rank_62 {G : XG} {l : Launch} {p : Program} {e : Env} {R : Room} {s : State} {m : MethodId} {args : Array Value} {below : List Frame} {meth : Method} {c : Code} (C : XC G 1 570 p s m args c prog_1_method_46_code 4 R_Main) (hr : meth.sig.returnType = (some .int)) (hk : meth.locks = false) {d : Nat} (hd : 1 ≤ d + 1) (hR : xroom R (d + 1)) {p0 : Int32} {rec4 : Int32 → Int32 → LH → Option (Int32 × LH)} {σ' : LH} {r : Int32} (hrec4 : ∀ (y2 : Int32) (y3 : Int32) (σ : LH), rec4 y2 y3 σ = some (r, σ') → XJ G 1 570 p l e R s m args below meth c 4 (XQ G 1 570 below args s (some (.int r)) σ') 0 0 4 [(0, .ref (G.2.2.1 + 1)), (1, .int p0), (2, .int y2), (3, .int y3)] [] σ) {y2 : Int32} {y3 : Int32} {σ : LH} (h0 : s_Main_rank_62 p0 rec4 y2 y3 σ = some (r, σ')) : XJ G 1 570 p l e R s m args below meth c 4 (XQ G 1 570 below args s (some (.int r)) σ') 0 0 62 [(0, .ref (G.2.2.1 + 1)), (1, .int p0), (2, .int y2), (3, .int y3)] [] σ := by
  replace h0 := (show _ = _ from h0)
  unfold s_Main_rank_62 at h0
  obtain ⟨x5, ex5, h0⟩ := xlet h0
  refine x_iinc (lv' := [(2, .int x5), (0, .ref (G.2.2.1 + 1)), (1, .int p0), (3, .int y3)]) C d_Main_rank_62 2 rfl ex5 (by decide) rfl ?_
  exact x_lv C [1, 2, 0, 3] rfl (b_Main_rank_65 C hr hk hd hR hrec4 h0)
def s_Main_rank_4_b (p0 : Int32) (rec4 : Int32 → Int32 → LH → Option (Int32 × LH)) (y2 : Int32) (y3 : Int32) (σ : LH) : Option (Int32 × LH) :=
  if (σ.1 4 0) ≤ y3 then (
   some (y2, σ))
  else (
   if ib y3 8 then (
   if ib p0 8 then (
   if (σ.1 5 (Int32.toNatClampNeg p0)) < (σ.1 5 (Int32.toNatClampNeg y3)) then (
    s_Main_rank_62 p0 rec4 y2 y3 σ)
   else (
    if ib y3 8 then (
    if ib p0 8 then (
    if (σ.1 5 (Int32.toNatClampNeg y3)) = (σ.1 5 (Int32.toNatClampNeg p0)) then (
     if p0 ≤ y3 then (
      s_Main_rank_65 p0 rec4 y2 y3 σ)
     else (
      s_Main_rank_62 p0 rec4 y2 y3 σ))
    else (
     s_Main_rank_65 p0 rec4 y2 y3 σ)) else none) else none)) else none) else none)
def s_Main_rank_4 (p0 : Int32) : Nat → Int32 → Int32 → LH → Option (Int32 × LH)
  | 0, _, _, _ => none
  | n + 1, y2, y3, σ => s_Main_rank_4_b p0 (s_Main_rank_4 p0 n) y2 y3 σ
theorem bb_Main_rank_4 {G : XG} {l : Launch} {p : Program} {e : Env} {R : Room} {s : State} {m : MethodId} {args : Array Value} {below : List Frame} {meth : Method} {c : Code} (C : XC G 1 570 p s m args c prog_1_method_46_code 4 R_Main) (hr : meth.sig.returnType = (some .int)) (hk : meth.locks = false) {d : Nat} (hd : 1 ≤ d + 1) (hR : xroom R (d + 1)) {p0 : Int32} {rec4 : Int32 → Int32 → LH → Option (Int32 × LH)} {σ' : LH} {r : Int32} (hrec4 : ∀ (y2 : Int32) (y3 : Int32) (σ : LH), rec4 y2 y3 σ = some (r, σ') → XJ G 1 570 p l e R s m args below meth c 4 (XQ G 1 570 below args s (some (.int r)) σ') 0 0 4 [(0, .ref (G.2.2.1 + 1)), (1, .int p0), (2, .int y2), (3, .int y3)] [] σ) {y2 : Int32} {y3 : Int32} {σ : LH} (h0 : s_Main_rank_4_b p0 rec4 y2 y3 σ = some (r, σ')) : XJ G 1 570 p l e R s m args below meth c 4 (XQ G 1 570 below args s (some (.int r)) σ') 0 0 4 [(0, .ref (G.2.2.1 + 1)), (1, .int p0), (2, .int y2), (3, .int y3)] [] σ := by
  replace h0 := (show _ = _ from h0)
  unfold s_Main_rank_4_b at h0
  refine x_iload_n C d_Main_rank_4 3 rfl ?_
  refine x_aload_n C d_Main_rank_5 0 rfl ?_
  refine x_getA (y := 4) C fg_Main_19 k_1 rfl d_Main_rank_6 ?_
  refine x_getI (y := 0) C fg_Main_238 k_4 rfl d_Main_rank_9 ?_
  refine x_icmp_ge C 71 d_Main_rank_12 (by decide) (fun q1 => ?_) (fun q1 => ?_)
  · replace h0 := xit q1 h0
    refine x_iload_n C d_Main_rank_71 2 rfl ?_
    exact x_iret C hr hk h0 d_Main_rank_72
  · replace h0 := xif q1 h0
    refine x_aload_n C d_Main_rank_15 0 rfl ?_
    refine x_getA (y := 4) C fg_Main_19 k_1 rfl d_Main_rank_16 ?_
    refine x_getR (y := 1) C fg_Main_167 k_4 rfl d_Main_rank_19 ?_
    show XJ _ _ _ _ _ _ _ _ _ _ _ _ _ _ _ _ _ _ _ (.ref (G.2.2.1 + 5) :: _) _
    refine x_iload_n C d_Main_rank_22 3 rfl ?_
    obtain ⟨g2, h0⟩ := xgo h0
    refine x_iald C k_5 (ib_in g2) d_Main_rank_23 ?_
    refine x_aload_n C d_Main_rank_24 0 rfl ?_
    refine x_getA (y := 4) C fg_Main_19 k_1 rfl d_Main_rank_25 ?_
    refine x_getR (y := 1) C fg_Main_167 k_4 rfl d_Main_rank_28 ?_
    show XJ _ _ _ _ _ _ _ _ _ _ _ _ _ _ _ _ _ _ _ (.ref (G.2.2.1 + 5) :: _) _
    refine x_iload_n C d_Main_rank_31 1 rfl ?_
    obtain ⟨g3, h0⟩ := xgo h0
    refine x_iald C k_5 (ib_in g3) d_Main_rank_32 ?_
    refine x_icmp_gt C 62 d_Main_rank_33 (by decide) (fun q4 => ?_) (fun q4 => ?_)
    · replace h0 := xit q4 h0
      exact x_lv C [0, 1, 2, 3] rfl (b_Main_rank_62 C hr hk hd hR hrec4 h0)
    · replace h0 := xif q4 h0
      refine x_aload_n C d_Main_rank_36 0 rfl ?_
      refine x_getA (y := 4) C fg_Main_19 k_1 rfl d_Main_rank_37 ?_
      refine x_getR (y := 1) C fg_Main_167 k_4 rfl d_Main_rank_40 ?_
      show XJ _ _ _ _ _ _ _ _ _ _ _ _ _ _ _ _ _ _ _ (.ref (G.2.2.1 + 5) :: _) _
      refine x_iload_n C d_Main_rank_43 3 rfl ?_
      obtain ⟨g7, h0⟩ := xgo h0
      refine x_iald C k_5 (ib_in g7) d_Main_rank_44 ?_
      refine x_aload_n C d_Main_rank_45 0 rfl ?_
      refine x_getA (y := 4) C fg_Main_19 k_1 rfl d_Main_rank_46 ?_
      refine x_getR (y := 1) C fg_Main_167 k_4 rfl d_Main_rank_49 ?_
      show XJ _ _ _ _ _ _ _ _ _ _ _ _ _ _ _ _ _ _ _ (.ref (G.2.2.1 + 5) :: _) _
      refine x_iload_n C d_Main_rank_52 1 rfl ?_
      obtain ⟨g8, h0⟩ := xgo h0
      refine x_iald C k_5 (ib_in g8) d_Main_rank_53 ?_
      refine x_icmp_ne C 65 d_Main_rank_54 (by decide) (fun q9 => ?_) (fun q9 => ?_)
      · replace h0 := xif q9 h0
        exact x_lv C [0, 1, 2, 3] rfl (b_Main_rank_65 C hr hk hd hR hrec4 h0)
      · replace h0 := xit q9 h0
        refine x_iload_n C d_Main_rank_57 3 rfl ?_
        refine x_iload_n C d_Main_rank_58 1 rfl ?_
        refine x_icmp_ge C 65 d_Main_rank_59 (by decide) (fun q10 => ?_) (fun q10 => ?_)
        · replace h0 := xit q10 h0
          exact x_lv C [0, 1, 2, 3] rfl (b_Main_rank_65 C hr hk hd hR hrec4 h0)
        · replace h0 := xif q10 h0
          exact x_lv C [0, 1, 2, 3] rfl (b_Main_rank_62 C hr hk hd hR hrec4 h0)
theorem b_Main_rank_4 {G : XG} {l : Launch} {p : Program} {e : Env} {R : Room} {s : State} {m : MethodId} {args : Array Value} {below : List Frame} {meth : Method} {c : Code} (C : XC G 1 570 p s m args c prog_1_method_46_code 4 R_Main) (hr : meth.sig.returnType = (some .int)) (hk : meth.locks = false) {d : Nat} (hd : 1 ≤ d + 1) (hR : xroom R (d + 1)) {p0 : Int32} {σ' : LH} {r : Int32} : ∀ (n : Nat) (y2 : Int32) (y3 : Int32) (σ : LH), s_Main_rank_4 p0 n y2 y3 σ = some (r, σ') → XJ G 1 570 p l e R s m args below meth c 4 (XQ G 1 570 below args s (some (.int r)) σ') 0 0 4 [(0, .ref (G.2.2.1 + 1)), (1, .int p0), (2, .int y2), (3, .int y3)] [] σ := by
  intro n
  induction n with
  | zero => intro y2 y3 σ h0; cases h0
  | succ n ih => intro y2 y3 σ h0; exact bb_Main_rank_4 C hr hk hd hR ih h0
def s_Main_rank (p0 : Int32) (σ : LH) : Option (Int32 × LH) :=
  s_Main_rank_4 p0 FUEL 0 0 σ
theorem c_Main_rank {G : XG} {l : Launch} {d : Nat} (hd : 1 ≤ d) {p0 : Int32} {σ σ' : LH} {r : Int32} (h0 : s_Main_rank p0 σ = some (r, σ')) : xM G 1 570 l y_Main_rank prog_1_method_46_code 4 (some .int) d [.ref (G.2.2.1 + 1), .int p0] σ (some (.int r)) σ' := by
  obtain ⟨d, rfl⟩ : ∃ q, d = q + 1 := ⟨d - 1, by omega⟩
  refine x_met R_Main rfl (by decide +kernel) (Nat.le_of_ble_eq_true rfl) fun p e s m below meth c C hr hk hR => ?_
  refine x_lv (lv' := [(0, .ref (G.2.2.1 + 1)), (1, .int p0)]) C [0, 1] rfl ?_
  generalize xrm (d + 1) = R at hR ⊢
  unfold s_Main_rank at h0
  refine x_iconst (v := 0) C d_Main_rank_0 (by decide) ?_
  refine x_istore_n (lv' := [(2, .int 0), (0, .ref (G.2.2.1 + 1)), (1, .int p0)]) C d_Main_rank_1 rfl (by decide) rfl ?_
  refine x_iconst (v := 0) C d_Main_rank_2 (by decide) ?_
  refine x_istore_n (lv' := [(3, .int 0), (2, .int 0), (0, .ref (G.2.2.1 + 1)), (1, .int p0)]) C d_Main_rank_3 rfl (by decide) rfl ?_
  exact x_lv C [2, 3, 1, 0] rfl (b_Main_rank_4 C hr hk hd hR FUEL _ _ _ h0)
-- LostPlaces.ladder(I)I
theorem d_Main_ladder_0 : decode prog_1_method_45_code 0 = .ok (.iload_n 1, 1) := by decide +kernel
theorem d_Main_ladder_1 : decode prog_1_method_45_code 1 = .ok (.ifCond .lt 14, 3) := by decide +kernel
theorem d_Main_ladder_4 : decode prog_1_method_45_code 4 = .ok (.iload_n 1, 1) := by decide +kernel
theorem d_Main_ladder_5 : decode prog_1_method_45_code 5 = .ok (.aload_n 0, 1) := by decide +kernel
theorem d_Main_ladder_6 : decode prog_1_method_45_code 6 = .ok (.getfield 19, 3) := by decide +kernel
theorem d_Main_ladder_9 : decode prog_1_method_45_code 9 = .ok (.getfield 238, 3) := by decide +kernel
theorem d_Main_ladder_12 : decode prog_1_method_45_code 12 = .ok (.if_icmp .lt 5, 3) := by decide +kernel
theorem d_Main_ladder_15 : decode prog_1_method_45_code 15 = .ok (.iconst (-1), 1) := by decide +kernel
theorem d_Main_ladder_16 : decode prog_1_method_45_code 16 = .ok (.ireturn, 1) := by decide +kernel
theorem d_Main_ladder_17 : decode prog_1_method_45_code 17 = .ok (.iconst 0, 1) := by decide +kernel
theorem d_Main_ladder_18 : decode prog_1_method_45_code 18 = .ok (.istore_n 2, 1) := by decide +kernel
theorem d_Main_ladder_19 : decode prog_1_method_45_code 19 = .ok (.iload_n 2, 1) := by decide +kernel
theorem d_Main_ladder_20 : decode prog_1_method_45_code 20 = .ok (.aload_n 0, 1) := by decide +kernel
theorem d_Main_ladder_21 : decode prog_1_method_45_code 21 = .ok (.getfield 19, 3) := by decide +kernel
theorem d_Main_ladder_24 : decode prog_1_method_45_code 24 = .ok (.getfield 238, 3) := by decide +kernel
theorem d_Main_ladder_27 : decode prog_1_method_45_code 27 = .ok (.if_icmp .ge 20, 3) := by decide +kernel
theorem d_Main_ladder_30 : decode prog_1_method_45_code 30 = .ok (.aload_n 0, 1) := by decide +kernel
theorem d_Main_ladder_31 : decode prog_1_method_45_code 31 = .ok (.iload_n 2, 1) := by decide +kernel
theorem d_Main_ladder_32 : decode prog_1_method_45_code 32 = .ok (.invokevirtual 361, 3) := by decide +kernel
theorem d_Main_ladder_35 : decode prog_1_method_45_code 35 = .ok (.iload_n 1, 1) := by decide +kernel
theorem d_Main_ladder_36 : decode prog_1_method_45_code 36 = .ok (.if_icmp .ne 5, 3) := by decide +kernel
theorem d_Main_ladder_39 : decode prog_1_method_45_code 39 = .ok (.iload_n 2, 1) := by decide +kernel
theorem d_Main_ladder_40 : decode prog_1_method_45_code 40 = .ok (.ireturn, 1) := by decide +kernel
theorem d_Main_ladder_41 : decode prog_1_method_45_code 41 = .ok (.iinc 2 1, 3) := by decide +kernel
theorem d_Main_ladder_44 : decode prog_1_method_45_code 44 = .ok (.goto (-25), 3) := by decide +kernel
theorem d_Main_ladder_47 : decode prog_1_method_45_code 47 = .ok (.iconst (-1), 1) := by decide +kernel
theorem d_Main_ladder_48 : decode prog_1_method_45_code 48 = .ok (.ireturn, 1) := by decide +kernel
def s_Main_ladder_15 (p0 : Int32) (σ : LH) : Option (Int32 × LH) :=
  some ((-1), σ)
theorem b_Main_ladder_15 {G : XG} {l : Launch} {p : Program} {e : Env} {R : Room} {s : State} {m : MethodId} {args : Array Value} {below : List Frame} {meth : Method} {c : Code} (C : XC G 1 570 p s m args c prog_1_method_45_code 3 R_Main) (hr : meth.sig.returnType = (some .int)) (hk : meth.locks = false) {d : Nat} (hd : 2 ≤ d + 1) (hR : xroom R (d + 1)) {p0 : Int32} {σ' : LH} {r : Int32} {σ : LH} (h0 : s_Main_ladder_15 p0 σ = some (r, σ')) : XJ G 1 570 p l e R s m args below meth c 3 (XQ G 1 570 below args s (some (.int r)) σ') 0 0 15 [] [] σ := by
  replace h0 := (show _ = _ from h0)
  unfold s_Main_ladder_15 at h0
  refine x_iconst (v := (-1)) C d_Main_ladder_15 (by decide) ?_
  exact x_iret C hr hk h0 d_Main_ladder_16
def s_Main_ladder_19_b (p0 : Int32) (rec19 : Int32 → LH → Option (Int32 × LH)) (y2 : Int32) (σ : LH) : Option (Int32 × LH) :=
  if (σ.1 4 0) ≤ y2 then (
   some ((-1), σ))
  else (
   xb2 (s_Main_rank y2 σ) fun r5 σ6 =>
   if r5 = p0 then (
    some (y2, σ6))
   else (
    xl ((y2 + 1) : Int32) fun x8 =>
    rec19 x8 σ6))
def s_Main_ladder_19 (p0 : Int32) : Nat → Int32 → LH → Option (Int32 × LH)
  | 0, _, _ => none
  | n + 1, y2, σ => s_Main_ladder_19_b p0 (s_Main_ladder_19 p0 n) y2 σ
theorem bb_Main_ladder_19 {G : XG} {l : Launch} {p : Program} {e : Env} {R : Room} {s : State} {m : MethodId} {args : Array Value} {below : List Frame} {meth : Method} {c : Code} (C : XC G 1 570 p s m args c prog_1_method_45_code 3 R_Main) (hr : meth.sig.returnType = (some .int)) (hk : meth.locks = false) {d : Nat} (hd : 2 ≤ d + 1) (hR : xroom R (d + 1)) {p0 : Int32} {rec19 : Int32 → LH → Option (Int32 × LH)} {σ' : LH} {r : Int32} (hrec19 : ∀ (y2 : Int32) (σ : LH), rec19 y2 σ = some (r, σ') → XJ G 1 570 p l e R s m args below meth c 3 (XQ G 1 570 below args s (some (.int r)) σ') 0 0 19 [(0, .ref (G.2.2.1 + 1)), (1, .int p0), (2, .int y2)] [] σ) {y2 : Int32} {σ : LH} (h0 : s_Main_ladder_19_b p0 rec19 y2 σ = some (r, σ')) : XJ G 1 570 p l e R s m args below meth c 3 (XQ G 1 570 below args s (some (.int r)) σ') 0 0 19 [(0, .ref (G.2.2.1 + 1)), (1, .int p0), (2, .int y2)] [] σ := by
  replace h0 := (show _ = _ from h0)
  unfold s_Main_ladder_19_b at h0
  refine x_iload_n C d_Main_ladder_19 2 rfl ?_
  refine x_aload_n C d_Main_ladder_20 0 rfl ?_
  refine x_getA (y := 4) C fg_Main_19 k_1 rfl d_Main_ladder_21 ?_
  refine x_getI (y := 0) C fg_Main_238 k_4 rfl d_Main_ladder_24 ?_
  refine x_icmp_ge C 47 d_Main_ladder_27 (by decide) (fun q3 => ?_) (fun q3 => ?_)
  · replace h0 := xit q3 h0
    refine x_iconst (v := (-1)) C d_Main_ladder_47 (by decide) ?_
    exact x_iret C hr hk h0 d_Main_ladder_48
  · replace h0 := xif q3 h0
    refine x_aload_n C d_Main_ladder_30 0 rfl ?_
    refine x_iload_n C d_Main_ladder_31 2 rfl ?_
    obtain ⟨r5, σ6, k4, h0⟩ := xbind2 h0
    refine x_callVi C hR (c_Main_rank (d := d) (by omega) k4) cw_Main_361 k_1 rfl rfl rfl (Nat.le_of_ble_eq_true rfl) ⟨Nat.zero_le _, Nat.zero_le _⟩ d_Main_ladder_32 ?_
    refine x_iload_n C d_Main_ladder_35 1 rfl ?_
    refine x_icmp_ne C 41 d_Main_ladder_36 (by decide) (fun q7 => ?_) (fun q7 => ?_)
    · replace h0 := xif q7 h0
      obtain ⟨x8, ex8, h0⟩ := xlet h0
      refine x_iinc (lv' := [(2, .int x8), (0, .ref (G.2.2.1 + 1)), (1, .int p0)]) C d_Main_ladder_41 2 rfl ex8 (by decide) rfl ?_
      refine x_goto C 19 d_Main_ladder_44 (by decide) ?_
      exact x_lv C [1, 2, 0] rfl (hrec19 _ _ h0)
    · replace h0 := xit q7 h0
      refine x_iload_n C d_Main_ladder_39 2 rfl ?_
      exact x_iret C hr hk h0 d_Main_ladder_40
theorem b_Main_ladder_19 {G : XG} {l : Launch} {p : Program} {e : Env} {R : Room} {s : State} {m : MethodId} {args : Array Value} {below : List Frame} {meth : Method} {c : Code} (C : XC G 1 570 p s m args c prog_1_method_45_code 3 R_Main) (hr : meth.sig.returnType = (some .int)) (hk : meth.locks = false) {d : Nat} (hd : 2 ≤ d + 1) (hR : xroom R (d + 1)) {p0 : Int32} {σ' : LH} {r : Int32} : ∀ (n : Nat) (y2 : Int32) (σ : LH), s_Main_ladder_19 p0 n y2 σ = some (r, σ') → XJ G 1 570 p l e R s m args below meth c 3 (XQ G 1 570 below args s (some (.int r)) σ') 0 0 19 [(0, .ref (G.2.2.1 + 1)), (1, .int p0), (2, .int y2)] [] σ := by
  intro n
  induction n with
  | zero => intro y2 σ h0; cases h0
  | succ n ih => intro y2 σ h0; exact bb_Main_ladder_19 C hr hk hd hR ih h0
def s_Main_ladder (p0 : Int32) (σ : LH) : Option (Int32 × LH) :=
  if p0 < 0 then (
   s_Main_ladder_15 p0 σ)
  else (
   if p0 < (σ.1 4 0) then (
    s_Main_ladder_19 p0 FUEL 0 σ)
   else (
    s_Main_ladder_15 p0 σ))
theorem c_Main_ladder {G : XG} {l : Launch} {d : Nat} (hd : 2 ≤ d) {p0 : Int32} {σ σ' : LH} {r : Int32} (h0 : s_Main_ladder p0 σ = some (r, σ')) : xM G 1 570 l y_Main_ladder prog_1_method_45_code 3 (some .int) d [.ref (G.2.2.1 + 1), .int p0] σ (some (.int r)) σ' := by
  obtain ⟨d, rfl⟩ : ∃ q, d = q + 1 := ⟨d - 1, by omega⟩
  refine x_met R_Main rfl (by decide +kernel) (Nat.le_of_ble_eq_true rfl) fun p e s m below meth c C hr hk hR => ?_
  refine x_lv (lv' := [(0, .ref (G.2.2.1 + 1)), (1, .int p0)]) C [0, 1] rfl ?_
  generalize xrm (d + 1) = R at hR ⊢
  unfold s_Main_ladder at h0
  refine x_iload_n C d_Main_ladder_0 1 rfl ?_
  refine x_if_lt C 15 d_Main_ladder_1 (by decide) (fun q1 => ?_) (fun q1 => ?_)
  · replace h0 := xit q1 h0
    exact x_lv C [] rfl (b_Main_ladder_15 C hr hk hd hR h0)
  · replace h0 := xif q1 h0
    refine x_iload_n C d_Main_ladder_4 1 rfl ?_
    refine x_aload_n C d_Main_ladder_5 0 rfl ?_
    refine x_getA (y := 4) C fg_Main_19 k_1 rfl d_Main_ladder_6 ?_
    refine x_getI (y := 0) C fg_Main_238 k_4 rfl d_Main_ladder_9 ?_
    refine x_icmp_lt C 17 d_Main_ladder_12 (by decide) (fun q2 => ?_) (fun q2 => ?_)
    · replace h0 := xit q2 h0
      refine x_iconst (v := 0) C d_Main_ladder_17 (by decide) ?_
      refine x_istore_n (lv' := [(2, .int 0), (0, .ref (G.2.2.1 + 1)), (1, .int p0)]) C d_Main_ladder_18 rfl (by decide) rfl ?_
      exact x_lv C [1, 2, 0] rfl (b_Main_ladder_19 C hr hk hd hR FUEL _ _ h0)
    · replace h0 := xif q2 h0
      exact x_lv C [] rfl (b_Main_ladder_15 C hr hk hd hR h0)
