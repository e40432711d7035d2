-- LostPlacesModel.best(II)I
theorem d_Model_best_0 : decode prog_14_method_84_code 0 = .ok (.aload_n 0, 1) := by decide +kernel
theorem d_Model_best_1 : decode prog_14_method_84_code 1 = .ok (.iconst 0, 1) := by decide +kernel
theorem d_Model_best_2 : decode prog_14_method_84_code 2 = .ok (.putfield 114, 3) := by decide +kernel
theorem d_Model_best_5 : decode prog_14_method_84_code 5 = .ok (.aload_n 0, 1) := by decide +kernel
theorem d_Model_best_6 : decode prog_14_method_84_code 6 = .ok (.iload_n 1, 1) := by decide +kernel
theorem d_Model_best_7 : decode prog_14_method_84_code 7 = .ok (.invokevirtual 412, 3) := by decide +kernel
theorem d_Model_best_10 : decode prog_14_method_84_code 10 = .ok (.ifCond .eq 24, 3) := by decide +kernel
theorem d_Model_best_13 : decode prog_14_method_84_code 13 = .ok (.aload_n 0, 1) := by decide +kernel
theorem d_Model_best_14 : decode prog_14_method_84_code 14 = .ok (.getfield 61, 3) := by decide +kernel
theorem d_Model_best_17 : decode prog_14_method_84_code 17 = .ok (.iload_n 1, 1) := by decide +kernel
theorem d_Model_best_18 : decode prog_14_method_84_code 18 = .ok (.invokestatic 361, 3) := by decide +kernel
theorem d_Model_best_21 : decode prog_14_method_84_code 21 = .ok (.ifCond .eq 13, 3) := by decide +kernel
theorem d_Model_best_24 : decode prog_14_method_84_code 24 = .ok (.iload_n 2, 1) := by decide +kernel
theorem d_Model_best_25 : decode prog_14_method_84_code 25 = .ok (.i2l, 1) := by decide +kernel
theorem d_Model_best_26 : decode prog_14_method_84_code 26 = .ok (.lconst 0, 1) := by decide +kernel
theorem d_Model_best_27 : decode prog_14_method_84_code 27 = .ok (.lconst 1, 1) := by decide +kernel
theorem d_Model_best_28 : decode prog_14_method_84_code 28 = .ok (.invokestatic 235, 3) := by decide +kernel
theorem d_Model_best_31 : decode prog_14_method_84_code 31 = .ok (.ifCond .ne 7, 3) := by decide +kernel
theorem d_Model_best_34 : decode prog_14_method_84_code 34 = .ok (.ldc_w 422, 3) := by decide +kernel
theorem d_Model_best_37 : decode prog_14_method_84_code 37 = .ok (.ireturn, 1) := by decide +kernel
theorem d_Model_best_38 : decode prog_14_method_84_code 38 = .ok (.aload_n 0, 1) := by decide +kernel
theorem d_Model_best_39 : decode prog_14_method_84_code 39 = .ok (.getfield 61, 3) := by decide +kernel
theorem d_Model_best_42 : decode prog_14_method_84_code 42 = .ok (.iconst 4, 1) := by decide +kernel
theorem d_Model_best_43 : decode prog_14_method_84_code 43 = .ok (.iload_n 1, 1) := by decide +kernel
theorem d_Model_best_44 : decode prog_14_method_84_code 44 = .ok (.imul, 1) := by decide +kernel
theorem d_Model_best_45 : decode prog_14_method_84_code 45 = .ok (.iaload, 1) := by decide +kernel
theorem d_Model_best_46 : decode prog_14_method_84_code 46 = .ok (.istore_n 3, 1) := by decide +kernel
theorem d_Model_best_47 : decode prog_14_method_84_code 47 = .ok (.aload_n 0, 1) := by decide +kernel
theorem d_Model_best_48 : decode prog_14_method_84_code 48 = .ok (.iload_n 1, 1) := by decide +kernel
theorem d_Model_best_49 : decode prog_14_method_84_code 49 = .ok (.iload_n 3, 1) := by decide +kernel
theorem d_Model_best_50 : decode prog_14_method_84_code 50 = .ok (.invokevirtual 463, 3) := by decide +kernel
theorem d_Model_best_53 : decode prog_14_method_84_code 53 = .ok (.istore 4, 2) := by decide +kernel
theorem d_Model_best_55 : decode prog_14_method_84_code 55 = .ok (.iconst 0, 1) := by decide +kernel
theorem d_Model_best_56 : decode prog_14_method_84_code 56 = .ok (.istore 5, 2) := by decide +kernel
theorem d_Model_best_58 : decode prog_14_method_84_code 58 = .ok (.iload 5, 2) := by decide +kernel
theorem d_Model_best_60 : decode prog_14_method_84_code 60 = .ok (.aload_n 0, 1) := by decide +kernel
theorem d_Model_best_61 : decode prog_14_method_84_code 61 = .ok (.getfield 302, 3) := by decide +kernel
theorem d_Model_best_64 : decode prog_14_method_84_code 64 = .ok (.if_icmp .ge 53, 3) := by decide +kernel
theorem d_Model_best_67 : decode prog_14_method_84_code 67 = .ok (.aload_n 0, 1) := by decide +kernel
theorem d_Model_best_68 : decode prog_14_method_84_code 68 = .ok (.aload_n 0, 1) := by decide +kernel
theorem d_Model_best_69 : decode prog_14_method_84_code 69 = .ok (.getfield 61, 3) := by decide +kernel
theorem d_Model_best_72 : decode prog_14_method_84_code 72 = .ok (.iload 5, 2) := by decide +kernel
theorem d_Model_best_74 : decode prog_14_method_84_code 74 = .ok (.invokevirtual 353, 3) := by decide +kernel
theorem d_Model_best_77 : decode prog_14_method_84_code 77 = .ok (.ifCond .eq 13, 3) := by decide +kernel
theorem d_Model_best_80 : decode prog_14_method_84_code 80 = .ok (.aload_n 0, 1) := by decide +kernel
theorem d_Model_best_81 : decode prog_14_method_84_code 81 = .ok (.iload_n 1, 1) := by decide +kernel
theorem d_Model_best_82 : decode prog_14_method_84_code 82 = .ok (.iload 5, 2) := by decide +kernel
theorem d_Model_best_84 : decode prog_14_method_84_code 84 = .ok (.invokevirtual 463, 3) := by decide +kernel
theorem d_Model_best_87 : decode prog_14_method_84_code 87 = .ok (.goto 5, 3) := by decide +kernel
theorem d_Model_best_90 : decode prog_14_method_84_code 90 = .ok (.iload 4, 2) := by decide +kernel
theorem d_Model_best_92 : decode prog_14_method_84_code 92 = .ok (.istore 6, 2) := by decide +kernel
theorem d_Model_best_94 : decode prog_14_method_84_code 94 = .ok (.iload 6, 2) := by decide +kernel
theorem d_Model_best_96 : decode prog_14_method_84_code 96 = .ok (.iload 4, 2) := by decide +kernel
theorem d_Model_best_98 : decode prog_14_method_84_code 98 = .ok (.if_icmp .gt 6, 3) := by decide +kernel
theorem d_Model_best_101 : decode prog_14_method_84_code 101 = .ok (.goto 10, 3) := by decide +kernel
theorem d_Model_best_104 : decode prog_14_method_84_code 104 = .ok (.iload 5, 2) := by decide +kernel
theorem d_Model_best_106 : decode prog_14_method_84_code 106 = .ok (.istore_n 3, 1) := by decide +kernel
theorem d_Model_best_107 : decode prog_14_method_84_code 107 = .ok (.iload 6, 2) := by decide +kernel
theorem d_Model_best_109 : decode prog_14_method_84_code 109 = .ok (.istore 4, 2) := by decide +kernel
theorem d_Model_best_111 : decode prog_14_method_84_code 111 = .ok (.iinc 5 1, 3) := by decide +kernel
theorem d_Model_best_114 : decode prog_14_method_84_code 114 = .ok (.goto (-56), 3) := by decide +kernel
theorem d_Model_best_117 : decode prog_14_method_84_code 117 = .ok (.iload_n 2, 1) := by decide +kernel
theorem d_Model_best_118 : decode prog_14_method_84_code 118 = .ok (.ifCond .ne 7, 3) := by decide +kernel
theorem d_Model_best_121 : decode prog_14_method_84_code 121 = .ok (.iload_n 3, 1) := by decide +kernel
theorem d_Model_best_122 : decode prog_14_method_84_code 122 = .ok (.goto 5, 3) := by decide +kernel
theorem d_Model_best_125 : decode prog_14_method_84_code 125 = .ok (.iload 4, 2) := by decide +kernel
theorem d_Model_best_127 : decode prog_14_method_84_code 127 = .ok (.ireturn, 1) := by decide +kernel
def s_Model_best_34 (p0 : Int32) (p1 : Int32) (σ : LH) : Option (Int32 × LH) :=
  some ((-1000000), σ)
theorem b_Model_best_34 {G : XG} {l : Launch} {p : Program} {e : Env} {R : Room} {s : State} {m : MethodId} {args : Array Value} {below : List Frame} {meth : Method} {c : Code} (C : XC G 570 598 p s m args c prog_14_method_84_code 7 R_Model) (hr : meth.sig.returnType = (some .int)) (hk : meth.locks = false) {d : Nat} (hd : 126 ≤ d + 1) (hR : xroom R (d + 1)) {p0 : Int32} {p1 : Int32} {σ' : LH} {r : Int32} {σ : LH} (h0 : s_Model_best_34 p0 p1 σ = some (r, σ')) : XJ G 570 598 p l e R s m args below meth c 7 (XQ G 570 598 below args s (some (.int r)) σ') 0 0 34 [] [] σ := by
  replace h0 := (show _ = _ from h0)
  unfold s_Model_best_34 at h0
  refine x_ldcw (v := (-1000000)) C w_1899 d_Model_best_34 ?_
  exact x_iret C hr hk h0 d_Model_best_37
def s_Model_best_127 (p0 : Int32) (p1 : Int32) (z0 : Int32) (σ : LH) : Option (Int32 × LH) :=
  some (z0, σ)
theorem b_Model_best_127 {G : XG} {l : Launch} {p : Program} {e : Env} {R : Room} {s : State} {m : MethodId} {args : Array Value} {below : List Frame} {meth : Method} {c : Code} (C : XC G 570 598 p s m args c prog_14_method_84_code 7 R_Model) (hr : meth.sig.returnType = (some .int)) (hk : meth.locks = false) {d : Nat} (hd : 126 ≤ d + 1) (hR : xroom R (d + 1)) {p0 : Int32} {p1 : Int32} {σ' : LH} {r : Int32} {z0 : Int32} {σ : LH} (h0 : s_Model_best_127 p0 p1 z0 σ = some (r, σ')) : XJ G 570 598 p l e R s m args below meth c 7 (XQ G 570 598 below args s (some (.int r)) σ') 0 0 127 [] [.int z0] σ := by
  replace h0 := (show _ = _ from h0)
  unfold s_Model_best_127 at h0
  exact x_iret C hr hk h0 d_Model_best_127
def s_Model_best_111 (p0 : Int32) (p1 : Int32) (rec58 : Int32 → Int32 → Int32 → LH → Option (Int32 × LH)) (y3 : Int32) (y4 : Int32) (y5 : Int32) (σ : LH) : Option (Int32 × LH) :=
  xl ((y5 + 1) : Int32) fun x26 =>
  rec58 y3 y4 x26 σ
theorem b_Model_best_111 {G : XG} {l : Launch} {p : Program} {e : Env} {R : Room} {s : State} {m : MethodId} {args : Array Value} {below : List Frame} {meth : Method} {c : Code} (C : XC G 570 598 p s m args c prog_14_method_84_code 7 R_Model) (hr : meth.sig.returnType = (some .int)) (hk : meth.locks = false) {d : Nat} (hd : 126 ≤ d + 1) (hR : xroom R (d + 1)) {p0 : Int32} {p1 : Int32} {rec58 : Int32 → Int32 → Int32 → LH → Option (Int32 × LH)} {σ' : LH} {r : Int32} (hrec58 : ∀ (y3 : Int32) (y4 : Int32) (y5 : Int32) (σ : LH), rec58 y3 y4 y5 σ = some (r, σ') → XJ G 570 598 p l e R s m args below meth c 7 (XQ G 570 598 below args s (some (.int r)) σ') 0 0 58 [(0, .ref (G.2.2.1 + 570)), (1, .int p0), (2, .int p1), (3, .int y3), (4, .int y4), (5, .int y5)] [] σ) {y3 : Int32} {y4 : Int32} {y5 : Int32} {σ : LH} (h0 : s_Model_best_111 p0 p1 rec58 y3 y4 y5 σ = some (r, σ')) : XJ G 570 598 p l e R s m args below meth c 7 (XQ G 570 598 below args s (some (.int r)) σ') 0 0 111 [(0, .ref (G.2.2.1 + 570)), (1, .int p0), (2, .int p1), (3, .int y3), (4, .int y4), (5, .int y5)] [] σ := by
  replace h0 := (show _ = _ from h0)
  unfold s_Model_best_111 at h0
  obtain ⟨x26, ex26, h0⟩ := xlet h0
  refine x_iinc (lv' := [(5, .int x26), (0, .ref (G.2.2.1 + 570)), (1, .int p0), (2, .int p1), (3, .int y3), (4, .int y4)]) C d_Model_best_111 5 rfl ex26 (by decide) rfl ?_
  refine x_goto C 58 d_Model_best_114 (by decide) ?_
  exact x_lv C [1, 2, 3, 4, 5, 0] rfl (hrec58 _ _ _ _ h0)
def s_Model_best_92 (p0 : Int32) (p1 : Int32) (rec58 : Int32 → Int32 → Int32 → LH → Option (Int32 × LH)) (y3 : Int32) (y4 : Int32) (y5 : Int32) (z0 : Int32) (σ : LH) : Option (Int32 × LH) :=
  if y4 < z0 then (
   s_Model_best_111 p0 p1 rec58 y5 z0 y5 σ)
  else (
   s_Model_best_111 p0 p1 rec58 y3 y4 y5 σ)
theorem b_Model_best_92 {G : XG} {l : Launch} {p : Program} {e : Env} {R : Room} {s : State} {m : MethodId} {args : Array Value} {below : List Frame} {meth : Method} {c : Code} (C : XC G 570 598 p s m args c prog_14_method_84_code 7 R_Model) (hr : meth.sig.returnType = (some .int)) (hk : meth.locks = false) {d : Nat} (hd : 126 ≤ d + 1) (hR : xroom R (d + 1)) {p0 : Int32} {p1 : Int32} {rec58 : Int32 → Int32 → Int32 → LH → Option (Int32 × LH)} {σ' : LH} {r : Int32} (hrec58 : ∀ (y3 : Int32) (y4 : Int32) (y5 : Int32) (σ : LH), rec58 y3 y4 y5 σ = some (r, σ') → XJ G 570 598 p l e R s m args below meth c 7 (XQ G 570 598 below args s (some (.int r)) σ') 0 0 58 [(0, .ref (G.2.2.1 + 570)), (1, .int p0), (2, .int p1), (3, .int y3), (4, .int y4), (5, .int y5)] [] σ) {y3 : Int32} {y4 : Int32} {y5 : Int32} {z0 : Int32} {σ : LH} (h0 : s_Model_best_92 p0 p1 rec58 y3 y4 y5 z0 σ = some (r, σ')) : XJ G 570 598 p l e R s m args below meth c 7 (XQ G 570 598 below args s (some (.int r)) σ') 0 0 92 [(0, .ref (G.2.2.1 + 570)), (1, .int p0), (2, .int p1), (3, .int y3), (4, .int y4), (5, .int y5)] [.int z0] σ := by
  replace h0 := (show _ = _ from h0)
  unfold s_Model_best_92 at h0
  refine x_istore (lv' := [(6, .int z0), (0, .ref (G.2.2.1 + 570)), (1, .int p0), (2, .int p1), (3, .int y3), (4, .int y4), (5, .int y5)]) C d_Model_best_92 (by decide) rfl ?_
  refine x_iload C d_Model_best_94 0 rfl ?_
  refine x_iload C d_Model_best_96 5 rfl ?_
  refine x_icmp_gt C 104 d_Model_best_98 (by decide) (fun q25 => ?_) (fun q25 => ?_)
  · replace h0 := xit q25 h0
    refine x_iload C d_Model_best_104 6 rfl ?_
    refine x_istore_n (lv' := [(3, .int y5), (6, .int z0), (0, .ref (G.2.2.1 + 570)), (1, .int p0), (2, .int p1), (4, .int y4), (5, .int y5)]) C d_Model_best_106 rfl (by decide) rfl ?_
    refine x_iload C d_Model_best_107 1 rfl ?_
    refine x_istore (lv' := [(4, .int z0), (3, .int y5), (6, .int z0), (0, .ref (G.2.2.1 + 570)), (1, .int p0), (2, .int p1), (5, .int y5)]) C d_Model_best_109 (by decide) rfl ?_
    exact x_lv C [3, 4, 5, 1, 0, 6] rfl (b_Model_best_111 C hr hk hd hR hrec58 h0)
  · replace h0 := xif q25 h0
    refine x_goto C 111 d_Model_best_101 (by decide) ?_
    exact x_lv C [1, 2, 3, 4, 5, 6] rfl (b_Model_best_111 C hr hk hd hR hrec58 h0)
def s_Model_best_58_b (p0 : Int32) (p1 : Int32) (rec58 : Int32 → Int32 → Int32 → LH → Option (Int32 × LH)) (y3 : Int32) (y4 : Int32) (y5 : Int32) (σ : LH) : Option (Int32 × LH) :=
  if (σ.1 570 26) ≤ y5 then (
   if p1 = 0 then (
    s_Model_best_127 p0 p1 y3 σ)
   else (
    s_Model_best_127 p0 p1 y4 σ))
  else (
   xb2 (s_Model_isFree 583 y5 σ) fun r22 σ23 =>
   if r22 = 0 then (
    s_Model_best_92 p0 p1 rec58 y3 y4 y5 y4 σ23)
   else (
    xb2 (s_Model_joyOn p0 y5 σ23) fun r28 σ29 =>
    s_Model_best_92 p0 p1 rec58 y3 y4 y5 r28 σ29))
def s_Model_best_58 (p0 : Int32) (p1 : Int32) : Nat → Int32 → Int32 → Int32 → LH → Option (Int32 × LH)
  | 0, _, _, _, _ => none
  | n + 1, y3, y4, y5, σ => s_Model_best_58_b p0 p1 (s_Model_best_58 p0 p1 n) y3 y4 y5 σ
theorem bb_Model_best_58 {G : XG} {l : Launch} {p : Program} {e : Env} {R : Room} {s : State} {m : MethodId} {args : Array Value} {below : List Frame} {meth : Method} {c : Code} (C : XC G 570 598 p s m args c prog_14_method_84_code 7 R_Model) (hr : meth.sig.returnType = (some .int)) (hk : meth.locks = false) {d : Nat} (hd : 126 ≤ d + 1) (hR : xroom R (d + 1)) {p0 : Int32} {p1 : Int32} {rec58 : Int32 → Int32 → Int32 → LH → Option (Int32 × LH)} {σ' : LH} {r : Int32} (hrec58 : ∀ (y3 : Int32) (y4 : Int32) (y5 : Int32) (σ : LH), rec58 y3 y4 y5 σ = some (r, σ') → XJ G 570 598 p l e R s m args below meth c 7 (XQ G 570 598 below args s (some (.int r)) σ') 0 0 58 [(0, .ref (G.2.2.1 + 570)), (1, .int p0), (2, .int p1), (3, .int y3), (4, .int y4), (5, .int y5)] [] σ) {y3 : Int32} {y4 : Int32} {y5 : Int32} {σ : LH} (h0 : s_Model_best_58_b p0 p1 rec58 y3 y4 y5 σ = some (r, σ')) : XJ G 570 598 p l e R s m args below meth c 7 (XQ G 570 598 below args s (some (.int r)) σ') 0 0 58 [(0, .ref (G.2.2.1 + 570)), (1, .int p0), (2, .int p1), (3, .int y3), (4, .int y4), (5, .int y5)] [] σ := by
  replace h0 := (show _ = _ from h0)
  unfold s_Model_best_58_b at h0
  refine x_iload C d_Model_best_58 5 rfl ?_
  refine x_aload_n C d_Model_best_60 0 rfl ?_
  refine x_getI (y := 0) C fg_Model_302 k_570 rfl d_Model_best_61 ?_
  refine x_icmp_ge C 117 d_Model_best_64 (by decide) (fun q19 => ?_) (fun q19 => ?_)
  · replace h0 := xit q19 h0
    refine x_iload_n C d_Model_best_117 2 rfl ?_
    refine x_if_ne C 125 d_Model_best_118 (by decide) (fun q20 => ?_) (fun q20 => ?_)
    · replace h0 := xif q20 h0
      refine x_iload C d_Model_best_125 4 rfl ?_
      exact x_lv C [] rfl (b_Model_best_127 C hr hk hd hR h0)
    · replace h0 := xit q20 h0
      refine x_iload_n C d_Model_best_121 3 rfl ?_
      refine x_goto C 127 d_Model_best_122 (by decide) ?_
      exact x_lv C [] rfl (b_Model_best_127 C hr hk hd hR h0)
  · replace h0 := xif q19 h0
    refine x_aload_n C d_Model_best_67 0 rfl ?_
    refine x_aload_n C d_Model_best_68 0 rfl ?_
    refine x_getA (y := 583) C fg_Model_61 k_570 rfl d_Model_best_69 ?_
    refine x_iload C d_Model_best_72 5 rfl ?_
    obtain ⟨r22, σ23, k21, h0⟩ := xbind2 h0
    refine x_callVi C hR (c_Model_isFree (d := d) (by omega) k_583 k21) cw_Model_353 k_570 rfl rfl rfl (Nat.le_of_ble_eq_true rfl) ⟨Nat.zero_le _, Nat.zero_le _⟩ d_Model_best_74 ?_
    refine x_if_eq C 90 d_Model_best_77 (by decide) (fun q24 => ?_) (fun q24 => ?_)
    · replace h0 := xit q24 h0
      refine x_iload C d_Model_best_90 4 rfl ?_
      exact x_lv C [0, 1, 2, 3, 4, 5] rfl (b_Model_best_92 C hr hk hd hR hrec58 h0)
    · replace h0 := xif q24 h0
      refine x_aload_n C d_Model_best_80 0 rfl ?_
      refine x_iload_n C d_Model_best_81 1 rfl ?_
      refine x_iload C d_Model_best_82 5 rfl ?_
      obtain ⟨r28, σ29, k27, h0⟩ := xbind2 h0
      refine x_callVi C hR (c_Model_joyOn (d := d) (by omega) k27) cw_Model_463 k_570 rfl rfl rfl (Nat.le_of_ble_eq_true rfl) ⟨Nat.zero_le _, Nat.zero_le _⟩ d_Model_best_84 ?_
      refine x_goto C 92 d_Model_best_87 (by decide) ?_
      exact x_lv C [0, 1, 2, 3, 4, 5] rfl (b_Model_best_92 C hr hk hd hR hrec58 h0)
theorem b_Model_best_58 {G : XG} {l : Launch} {p : Program} {e : Env} {R : Room} {s : State} {m : MethodId} {args : Array Value} {below : List Frame} {meth : Method} {c : Code} (C : XC G 570 598 p s m args c prog_14_method_84_code 7 R_Model) (hr : meth.sig.returnType = (some .int)) (hk : meth.locks = false) {d : Nat} (hd : 126 ≤ d + 1) (hR : xroom R (d + 1)) {p0 : Int32} {p1 : Int32} {σ' : LH} {r : Int32} : ∀ (n : Nat) (y3 : Int32) (y4 : Int32) (y5 : Int32) (σ : LH), s_Model_best_58 p0 p1 n y3 y4 y5 σ = some (r, σ') → XJ G 570 598 p l e R s m args below meth c 7 (XQ G 570 598 below args s (some (.int r)) σ') 0 0 58 [(0, .ref (G.2.2.1 + 570)), (1, .int p0), (2, .int p1), (3, .int y3), (4, .int y4), (5, .int y5)] [] σ := by
  intro n
  induction n with
  | zero => intro y3 y4 y5 σ h0; cases h0
  | succ n ih => intro y3 y4 y5 σ h0; exact bb_Model_best_58 C hr hk hd hR ih h0
def s_Model_best (p0 : Int32) (p1 : Int32) (σ : LH) : Option (Int32 × LH) :=
  xl ((stI σ 570 0 0) : LH) fun σ1 =>
  xb2 (s_Model_isSitter p0 σ1) fun r3 σ4 =>
  if r3 = 0 then (
   s_Model_best_34 p0 p1 σ4)
  else (
   xb2 (s_Model_isHere 583 p0 σ4) fun r7 σ8 =>
   if r7 = 0 then (
    s_Model_best_34 p0 p1 σ8)
   else (
    xb2 (s_Model_isIn (Int32.toInt64 p1) 0 1 σ8) fun r11 σ12 =>
    if r11 = 0 then (
     s_Model_best_34 p0 p1 σ12)
    else (
     if ib (4 * p0) 290 then (
     xl (((σ12.1 583 (Int32.toNatClampNeg (4 * p0)))) : Int32) fun x15 =>
     xb2 (s_Model_joyOn p0 x15 σ12) fun r17 σ18 =>
     s_Model_best_58 p0 p1 FUEL x15 r17 0 σ18) else none)))
theorem c_Model_best {G : XG} {l : Launch} {d : Nat} (hd : 126 ≤ d) {p0 : Int32} {p1 : Int32} {σ σ' : LH} {r : Int32} (h0 : s_Model_best p0 p1 σ = some (r, σ')) : xM G 570 598 l y_Model_best prog_14_method_84_code 7 (some .int) d [.ref (G.2.2.1 + 570), .int p0, .int p1] σ (some (.int r)) σ' := by
  obtain ⟨d, rfl⟩ : ∃ q, d = q + 1 := ⟨d - 1, by omega⟩
  refine x_met R_Model rfl (by decide +kernel) (Nat.le_of_ble_eq_true rfl) fun p e s m below meth c C hr hk hR => ?_
  refine x_lv (lv' := [(0, .ref (G.2.2.1 + 570)), (1, .int p0), (2, .int p1)]) C [0, 1, 2] rfl ?_
  generalize xrm (d + 1) = R at hR ⊢
  unfold s_Model_best at h0
  refine x_aload_n C d_Model_best_0 0 rfl ?_
  refine x_iconst (v := 0) C d_Model_best_1 (by decide) ?_
  refine x_putI (y := 0) C fp_Model_114 k_570 rfl rfl rfl d_Model_best_2 ?_
  obtain ⟨σ1, eσ1, h0⟩ := xlet h0
  refine x_sig C eσ1 ?_
  refine x_aload_n C d_Model_best_5 0 rfl ?_
  refine x_iload_n C d_Model_best_6 1 rfl ?_
  obtain ⟨r3, σ4, k2, h0⟩ := xbind2 h0
  refine x_callVi C hR (c_Model_isSitter (d := d) (by omega) k2) cw_Model_412 k_570 rfl rfl rfl (Nat.le_of_ble_eq_true rfl) ⟨Nat.zero_le _, Nat.zero_le _⟩ d_Model_best_7 ?_
  refine x_if_eq C 34 d_Model_best_10 (by decide) (fun q5 => ?_) (fun q5 => ?_)
  · replace h0 := xit q5 h0
    exact x_lv C [] rfl (b_Model_best_34 C hr hk hd hR h0)
  · replace h0 := xif q5 h0
    refine x_aload_n C d_Model_best_13 0 rfl ?_
    refine x_getA (y := 583) C fg_Model_61 k_570 rfl d_Model_best_14 ?_
    refine x_iload_n C d_Model_best_17 1 rfl ?_
    obtain ⟨r7, σ8, k6, h0⟩ := xbind2 h0
    refine x_callSi C hR (c_Model_isHere (d := d) (by omega) k_583 k6) cw_Model_361 w_1905 rfl rfl (Nat.le_of_ble_eq_true rfl) ⟨Nat.zero_le _, Nat.zero_le _⟩ d_Model_best_18 ?_
    refine x_if_eq C 34 d_Model_best_21 (by decide) (fun q9 => ?_) (fun q9 => ?_)
    · replace h0 := xit q9 h0
      exact x_lv C [] rfl (b_Model_best_34 C hr hk hd hR h0)
    · replace h0 := xif q9 h0
      refine x_iload_n C d_Model_best_24 2 rfl ?_
      refine x_i2l C d_Model_best_25 ?_
      refine x_lconst (v := 0) C d_Model_best_26 (by decide) ?_
      refine x_lconst (v := 1) C d_Model_best_27 (by decide) ?_
      obtain ⟨r11, σ12, k10, h0⟩ := xbind2 h0
      refine x_callSi C hR (c_Model_isIn (d := d) (by omega) k10) cw_Model_235 w_1695 rfl rfl (Nat.le_of_ble_eq_true rfl) ⟨Nat.zero_le _, Nat.zero_le _⟩ d_Model_best_28 ?_
      refine x_if_ne C 38 d_Model_best_31 (by decide) (fun q13 => ?_) (fun q13 => ?_)
      · replace h0 := xif q13 h0
        refine x_aload_n C d_Model_best_38 0 rfl ?_
        refine x_getA (y := 583) C fg_Model_61 k_570 rfl d_Model_best_39 ?_
        refine x_iconst (v := 4) C d_Model_best_42 (by decide) ?_
        refine x_iload_n C d_Model_best_43 1 rfl ?_
        refine x_imul C d_Model_best_44 ?_
        obtain ⟨g14, h0⟩ := xgo h0
        refine x_iald C k_583 (ib_in g14) d_Model_best_45 ?_
        obtain ⟨x15, ex15, h0⟩ := xlet h0
        refine x_name C ex15 ?_
        refine x_istore_n (lv' := [(3, .int x15), (0, .ref (G.2.2.1 + 570)), (1, .int p0), (2, .int p1)]) C d_Model_best_46 rfl (by decide) rfl ?_
        refine x_aload_n C d_Model_best_47 1 rfl ?_
        refine x_iload_n C d_Model_best_48 2 rfl ?_
        refine x_iload_n C d_Model_best_49 0 rfl ?_
        obtain ⟨r17, σ18, k16, h0⟩ := xbind2 h0
        refine x_callVi C hR (c_Model_joyOn (d := d) (by omega) k16) cw_Model_463 k_570 rfl rfl rfl (Nat.le_of_ble_eq_true rfl) ⟨Nat.zero_le _, Nat.zero_le _⟩ d_Model_best_50 ?_
        refine x_istore (lv' := [(4, .int r17), (3, .int x15), (0, .ref (G.2.2.1 + 570)), (1, .int p0), (2, .int p1)]) C d_Model_best_53 (by decide) rfl ?_
        refine x_iconst (v := 0) C d_Model_best_55 (by decide) ?_
        refine x_istore (lv' := [(5, .int 0), (4, .int r17), (3, .int x15), (0, .ref (G.2.2.1 + 570)), (1, .int p0), (2, .int p1)]) C d_Model_best_56 (by decide) rfl ?_
        exact x_lv C [3, 4, 5, 2, 1, 0] rfl (b_Model_best_58 C hr hk hd hR FUEL _ _ _ _ h0)
      · replace h0 := xit q13 h0
        exact x_lv C [] rfl (b_Model_best_34 C hr hk hd hR h0)
-- LostPlacesModel.sure(I)I
theorem d_Model_sure_0 : decode prog_14_method_85_code 0 = .ok (.aload_n 0, 1) := by decide +kernel
theorem d_Model_sure_1 : decode prog_14_method_85_code 1 = .ok (.iconst 0, 1) := by decide +kernel
theorem d_Model_sure_2 : decode prog_14_method_85_code 2 = .ok (.putfield 114, 3) := by decide +kernel
theorem d_Model_sure_5 : decode prog_14_method_85_code 5 = .ok (.aload_n 0, 1) := by decide +kernel
theorem d_Model_sure_6 : decode prog_14_method_85_code 6 = .ok (.iload_n 1, 1) := by decide +kernel
theorem d_Model_sure_7 : decode prog_14_method_85_code 7 = .ok (.invokevirtual 412, 3) := by decide +kernel
theorem d_Model_sure_10 : decode prog_14_method_85_code 10 = .ok (.ifCond .ne 5, 3) := by decide +kernel
theorem d_Model_sure_13 : decode prog_14_method_85_code 13 = .ok (.iconst (-1), 1) := by decide +kernel
theorem d_Model_sure_14 : decode prog_14_method_85_code 14 = .ok (.ireturn, 1) := by decide +kernel
theorem d_Model_sure_15 : decode prog_14_method_85_code 15 = .ok (.iconst 1, 1) := by decide +kernel
theorem d_Model_sure_16 : decode prog_14_method_85_code 16 = .ok (.aload_n 0, 1) := by decide +kernel
theorem d_Model_sure_17 : decode prog_14_method_85_code 17 = .ok (.getfield 302, 3) := by decide +kernel
theorem d_Model_sure_20 : decode prog_14_method_85_code 20 = .ok (.ishl, 1) := by decide +kernel
theorem d_Model_sure_21 : decode prog_14_method_85_code 21 = .ok (.iconst 1, 1) := by decide +kernel
theorem d_Model_sure_22 : decode prog_14_method_85_code 22 = .ok (.isub, 1) := by decide +kernel
theorem d_Model_sure_23 : decode prog_14_method_85_code 23 = .ok (.istore_n 2, 1) := by decide +kernel
theorem d_Model_sure_24 : decode prog_14_method_85_code 24 = .ok (.aload_n 0, 1) := by decide +kernel
theorem d_Model_sure_25 : decode prog_14_method_85_code 25 = .ok (.getfield 61, 3) := by decide +kernel
theorem d_Model_sure_28 : decode prog_14_method_85_code 28 = .ok (.aload_n 0, 1) := by decide +kernel
theorem d_Model_sure_29 : decode prog_14_method_85_code 29 = .ok (.getfield 64, 3) := by decide +kernel
theorem d_Model_sure_32 : decode prog_14_method_85_code 32 = .ok (.invokestatic 447, 3) := by decide +kernel
theorem d_Model_sure_35 : decode prog_14_method_85_code 35 = .ok (.aload_n 0, 1) := by decide +kernel
theorem d_Model_sure_36 : decode prog_14_method_85_code 36 = .ok (.getfield 64, 3) := by decide +kernel
theorem d_Model_sure_39 : decode prog_14_method_85_code 39 = .ok (.bipush 48, 2) := by decide +kernel
theorem d_Model_sure_41 : decode prog_14_method_85_code 41 = .ok (.iaload, 1) := by decide +kernel
theorem d_Model_sure_42 : decode prog_14_method_85_code 42 = .ok (.aload_n 0, 1) := by decide +kernel
theorem d_Model_sure_43 : decode prog_14_method_85_code 43 = .ok (.getfield 55, 3) := by decide +kernel
theorem d_Model_sure_46 : decode prog_14_method_85_code 46 = .ok (.iconst 1, 1) := by decide +kernel
theorem d_Model_sure_47 : decode prog_14_method_85_code 47 = .ok (.iaload, 1) := by decide +kernel
theorem d_Model_sure_48 : decode prog_14_method_85_code 48 = .ok (.if_icmp .ge 68, 3) := by decide +kernel
theorem d_Model_sure_51 : decode prog_14_method_85_code 51 = .ok (.aload_n 0, 1) := by decide +kernel
theorem d_Model_sure_52 : decode prog_14_method_85_code 52 = .ok (.getfield 64, 3) := by decide +kernel
theorem d_Model_sure_55 : decode prog_14_method_85_code 55 = .ok (.bipush 48, 2) := by decide +kernel
theorem d_Model_sure_57 : decode prog_14_method_85_code 57 = .ok (.iaload, 1) := by decide +kernel
theorem d_Model_sure_58 : decode prog_14_method_85_code 58 = .ok (.aload_n 0, 1) := by decide +kernel
theorem d_Model_sure_59 : decode prog_14_method_85_code 59 = .ok (.getfield 55, 3) := by decide +kernel
theorem d_Model_sure_62 : decode prog_14_method_85_code 62 = .ok (.iconst 0, 1) := by decide +kernel
theorem d_Model_sure_63 : decode prog_14_method_85_code 63 = .ok (.iaload, 1) := by decide +kernel
theorem d_Model_sure_64 : decode prog_14_method_85_code 64 = .ok (.if_icmp .lt 7, 3) := by decide +kernel
theorem d_Model_sure_67 : decode prog_14_method_85_code 67 = .ok (.iconst 1, 1) := by decide +kernel
theorem d_Model_sure_68 : decode prog_14_method_85_code 68 = .ok (.goto 4, 3) := by decide +kernel
theorem d_Model_sure_71 : decode prog_14_method_85_code 71 = .ok (.iconst 0, 1) := by decide +kernel
theorem d_Model_sure_72 : decode prog_14_method_85_code 72 = .ok (.istore_n 3, 1) := by decide +kernel
theorem d_Model_sure_73 : decode prog_14_method_85_code 73 = .ok (.aload_n 0, 1) := by decide +kernel
theorem d_Model_sure_74 : decode prog_14_method_85_code 74 = .ok (.aload_n 0, 1) := by decide +kernel
theorem d_Model_sure_75 : decode prog_14_method_85_code 75 = .ok (.getfield 64, 3) := by decide +kernel
theorem d_Model_sure_78 : decode prog_14_method_85_code 78 = .ok (.invokevirtual 404, 3) := by decide +kernel
theorem d_Model_sure_81 : decode prog_14_method_85_code 81 = .ok (.iload_n 3, 1) := by decide +kernel
theorem d_Model_sure_82 : decode prog_14_method_85_code 82 = .ok (.ifCond .eq 31, 3) := by decide +kernel
theorem d_Model_sure_85 : decode prog_14_method_85_code 85 = .ok (.iload_n 2, 1) := by decide +kernel
theorem d_Model_sure_86 : decode prog_14_method_85_code 86 = .ok (.aload_n 0, 1) := by decide +kernel
theorem d_Model_sure_87 : decode prog_14_method_85_code 87 = .ok (.getfield 64, 3) := by decide +kernel
theorem d_Model_sure_90 : decode prog_14_method_85_code 90 = .ok (.iconst 4, 1) := by decide +kernel
theorem d_Model_sure_91 : decode prog_14_method_85_code 91 = .ok (.iload_n 1, 1) := by decide +kernel
theorem d_Model_sure_92 : decode prog_14_method_85_code 92 = .ok (.imul, 1) := by decide +kernel
theorem d_Model_sure_93 : decode prog_14_method_85_code 93 = .ok (.iaload, 1) := by decide +kernel
theorem d_Model_sure_94 : decode prog_14_method_85_code 94 = .ok (.ifCond .ge 7, 3) := by decide +kernel
theorem d_Model_sure_97 : decode prog_14_method_85_code 97 = .ok (.iconst 0, 1) := by decide +kernel
theorem d_Model_sure_98 : decode prog_14_method_85_code 98 = .ok (.goto 13, 3) := by decide +kernel
theorem d_Model_sure_101 : decode prog_14_method_85_code 101 = .ok (.iconst 1, 1) := by decide +kernel
theorem d_Model_sure_102 : decode prog_14_method_85_code 102 = .ok (.aload_n 0, 1) := by decide +kernel
theorem d_Model_sure_103 : decode prog_14_method_85_code 103 = .ok (.getfield 64, 3) := by decide +kernel
theorem d_Model_sure_106 : decode prog_14_method_85_code 106 = .ok (.iconst 4, 1) := by decide +kernel
theorem d_Model_sure_107 : decode prog_14_method_85_code 107 = .ok (.iload_n 1, 1) := by decide +kernel
theorem d_Model_sure_108 : decode prog_14_method_85_code 108 = .ok (.imul, 1) := by decide +kernel
theorem d_Model_sure_109 : decode prog_14_method_85_code 109 = .ok (.iaload, 1) := by decide +kernel
theorem d_Model_sure_110 : decode prog_14_method_85_code 110 = .ok (.ishl, 1) := by decide +kernel
theorem d_Model_sure_111 : decode prog_14_method_85_code 111 = .ok (.iand, 1) := by decide +kernel
theorem d_Model_sure_112 : decode prog_14_method_85_code 112 = .ok (.istore_n 2, 1) := by decide +kernel
theorem d_Model_sure_113 : decode prog_14_method_85_code 113 = .ok (.goto (-78), 3) := by decide +kernel
theorem d_Model_sure_116 : decode prog_14_method_85_code 116 = .ok (.iload_n 2, 1) := by decide +kernel
theorem d_Model_sure_117 : decode prog_14_method_85_code 117 = .ok (.ireturn, 1) := by decide +kernel
def s_Model_sure_113 (p0 : Int32) (rec35 : Int32 → LH → Option (Int32 × LH)) (y2 : Int32) (σ : LH) : Option (Int32 × LH) :=
  rec35 y2 σ
theorem b_Model_sure_113 {G : XG} {l : Launch} {p : Program} {e : Env} {R : Room} {s : State} {m : MethodId} {args : Array Value} {below : List Frame} {meth : Method} {c : Code} (C : XC G 570 598 p s m args c prog_14_method_85_code 4 R_Model) (hr : meth.sig.returnType = (some .int)) (hk : meth.locks = false) {d : Nat} (hd : 124 ≤ d + 1) (hR : xroom R (d + 1)) {p0 : Int32} {rec35 : Int32 → LH → Option (Int32 × LH)} {σ' : LH} {r : Int32} (hrec35 : ∀ (y2 : Int32) (σ : LH), rec35 y2 σ = some (r, σ') → XJ G 570 598 p l e R s m args below meth c 4 (XQ G 570 598 below args s (some (.int r)) σ') 0 0 35 [(0, .ref (G.2.2.1 + 570)), (1, .int p0), (2, .int y2)] [] σ) {y2 : Int32} {σ : LH} (h0 : s_Model_sure_113 p0 rec35 y2 σ = some (r, σ')) : XJ G 570 598 p l e R s m args below meth c 4 (XQ G 570 598 below args s (some (.int r)) σ') 0 0 113 [(0, .ref (G.2.2.1 + 570)), (1, .int p0), (2, .int y2)] [] σ := by
  replace h0 := (show _ = _ from h0)
  unfold s_Model_sure_113 at h0
  refine x_goto C 35 d_Model_sure_113 (by decide) ?_
  exact x_lv C [0, 1, 2] rfl (hrec35 _ _ h0)
def s_Model_sure_111 (p0 : Int32) (rec35 : Int32 → LH → Option (Int32 × LH)) (z0 : Int32) (z1 : Int32) (σ : LH) : Option (Int32 × LH) :=
  xl (((z0 &&& z1)) : Int32) fun x21 =>
  s_Model_sure_113 p0 rec35 x21 σ
theorem b_Model_sure_111 {G : XG} {l : Launch} {p : Program} {e : Env} {R : Room} {s : State} {m : MethodId} {args : Array Value} {below : List Frame} {meth : Method} {c : Code} (C : XC G 570 598 p s m args c prog_14_method_85_code 4 R_Model) (hr : meth.sig.returnType = (some .int)) (hk : meth.locks = false) {d : Nat} (hd : 124 ≤ d + 1) (hR : xroom R (d + 1)) {p0 : Int32} {rec35 : Int32 → LH → Option (Int32 × LH)} {σ' : LH} {r : Int32} (hrec35 : ∀ (y2 : Int32) (σ : LH), rec35 y2 σ = some (r, σ') → XJ G 570 598 p l e R s m args below meth c 4 (XQ G 570 598 below args s (some (.int r)) σ') 0 0 35 [(0, .ref (G.2.2.1 + 570)), (1, .int p0), (2, .int y2)] [] σ) {z0 : Int32} {z1 : Int32} {σ : LH} (h0 : s_Model_sure_111 p0 rec35 z0 z1 σ = some (r, σ')) : XJ G 570 598 p l e R s m args below meth c 4 (XQ G 570 598 below args s (some (.int r)) σ') 0 0 111 [(0, .ref (G.2.2.1 + 570)), (1, .int p0)] [.int z1, .int z0] σ := by
  replace h0 := (show _ = _ from h0)
  unfold s_Model_sure_111 at h0
  refine x_iand C d_Model_sure_111 ?_
  obtain ⟨x21, ex21, h0⟩ := xlet h0
  refine x_name C ex21 ?_
  refine x_istore_n (lv' := [(2, .int x21), (0, .ref (G.2.2.1 + 570)), (1, .int p0)]) C d_Model_sure_112 rfl (by decide) rfl ?_
  exact x_lv C [1, 2, 0] rfl (b_Model_sure_113 C hr hk hd hR hrec35 h0)
def s_Model_sure_72 (p0 : Int32) (rec35 : Int32 → LH → Option (Int32 × LH)) (y2 : Int32) (z0 : Int32) (σ : LH) : Option (Int32 × LH) :=
  xb1 (s_Model_goMinute 584 σ) fun σ16 =>
  if z0 = 0 then (
   s_Model_sure_113 p0 rec35 y2 σ16)
  else (
   if ib (4 * p0) 290 then (
   if 0 ≤ (σ16.1 584 (Int32.toNatClampNeg (4 * p0))) then (
    if ib (4 * p0) 290 then (
    s_Model_sure_111 p0 rec35 y2 (1 <<< ((σ16.1 584 (Int32.toNatClampNeg (4 * p0))) &&& 31)) σ16) else none)
   else (
    s_Model_sure_111 p0 rec35 y2 0 σ16)) else none)
theorem b_Model_sure_72 {G : XG} {l : Launch} {p : Program} {e : Env} {R : Room} {s : State} {m : MethodId} {args : Array Value} {below : List Frame} {meth : Method} {c : Code} (C : XC G 570 598 p s m args c prog_14_method_85_code 4 R_Model) (hr : meth.sig.returnType = (some .int)) (hk : meth.locks = false) {d : Nat} (hd : 124 ≤ d + 1) (hR : xroom R (d + 1)) {p0 : Int32} {rec35 : Int32 → LH → Option (Int32 × LH)} {σ' : LH} {r : Int32} (hrec35 : ∀ (y2 : Int32) (σ : LH), rec35 y2 σ = some (r, σ') → XJ G 570 598 p l e R s m args below meth c 4 (XQ G 570 598 below args s (some (.int r)) σ') 0 0 35 [(0, .ref (G.2.2.1 + 570)), (1, .int p0), (2, .int y2)] [] σ) {y2 : Int32} {z0 : Int32} {σ : LH} (h0 : s_Model_sure_72 p0 rec35 y2 z0 σ = some (r, σ')) : XJ G 570 598 p l e R s m args below meth c 4 (XQ G 570 598 below args s (some (.int r)) σ') 0 0 72 [(0, .ref (G.2.2.1 + 570)), (1, .int p0), (2, .int y2)] [.int z0] σ := by
  replace h0 := (show _ = _ from h0)
  unfold s_Model_sure_72 at h0
  refine x_istore_n (lv' := [(3, .int z0), (0, .ref (G.2.2.1 + 570)), (1, .int p0), (2, .int y2)]) C d_Model_sure_72 rfl (by decide) rfl ?_
  refine x_aload_n C d_Model_sure_73 1 rfl ?_
  refine x_aload_n C d_Model_sure_74 1 rfl ?_
  refine x_getA (y := 584) C fg_Model_64 k_570 rfl d_Model_sure_75 ?_
  obtain ⟨σ16, k15, h0⟩ := xbind1 h0
  refine x_callVv C hR (c_Model_goMinute (d := d) (by omega) k_584 k15) cw_Model_404 k_570 rfl rfl rfl (Nat.le_of_ble_eq_true rfl) ⟨Nat.zero_le _, Nat.zero_le _⟩ d_Model_sure_78 ?_
  refine x_iload_n C d_Model_sure_81 0 rfl ?_
  refine x_if_eq C 113 d_Model_sure_82 (by decide) (fun q17 => ?_) (fun q17 => ?_)
  · replace h0 := xit q17 h0
    exact x_lv C [1, 2, 3] rfl (b_Model_sure_113 C hr hk hd hR hrec35 h0)
  · replace h0 := xif q17 h0
    refine x_iload_n C d_Model_sure_85 3 rfl ?_
    refine x_aload_n C d_Model_sure_86 1 rfl ?_
    refine x_getA (y := 584) C fg_Model_64 k_570 rfl d_Model_sure_87 ?_
    refine x_iconst (v := 4) C d_Model_sure_90 (by decide) ?_
    refine x_iload_n C d_Model_sure_91 2 rfl ?_
    refine x_imul C d_Model_sure_92 ?_
    obtain ⟨g18, h0⟩ := xgo h0
    refine x_iald C k_584 (ib_in g18) d_Model_sure_93 ?_
    refine x_if_ge C 101 d_Model_sure_94 (by decide) (fun q19 => ?_) (fun q19 => ?_)
    · replace h0 := xit q19 h0
      refine x_iconst (v := 1) C d_Model_sure_101 (by decide) ?_
      refine x_aload_n C d_Model_sure_102 1 rfl ?_
      refine x_getA (y := 584) C fg_Model_64 k_570 rfl d_Model_sure_103 ?_
      refine x_iconst (v := 4) C d_Model_sure_106 (by decide) ?_
      refine x_iload_n C d_Model_sure_107 2 rfl ?_
      refine x_imul C d_Model_sure_108 ?_
      obtain ⟨g20, h0⟩ := xgo h0
      refine x_iald C k_584 (ib_in g20) d_Model_sure_109 ?_
      refine x_ishl C d_Model_sure_110 ?_
      exact x_lv C [1, 2] rfl (b_Model_sure_111 C hr hk hd hR hrec35 h0)
    · replace h0 := xif q19 h0
      refine x_iconst (v := 0) C d_Model_sure_97 (by decide) ?_
      refine x_goto C 111 d_Model_sure_98 (by decide) ?_
      exact x_lv C [1, 2] rfl (b_Model_sure_111 C hr hk hd hR hrec35 h0)
def s_Model_sure_35_b (p0 : Int32) (rec35 : Int32 → LH → Option (Int32 × LH)) (y2 : Int32) (σ : LH) : Option (Int32 × LH) :=
  if ib 48 290 then (
  if ib 1 2 then (
  if (σ.1 581 (Int32.toNatClampNeg 1)) ≤ (σ.1 584 (Int32.toNatClampNeg 48)) then (
   some (y2, σ))
  else (
   if ib 48 290 then (
   if ib 0 2 then (
   if (σ.1 584 (Int32.toNatClampNeg 48)) < (σ.1 581 (Int32.toNatClampNeg 0)) then (
    s_Model_sure_72 p0 rec35 y2 0 σ)
   else (
    s_Model_sure_72 p0 rec35 y2 1 σ)) else none) else none)) else none) else none
def s_Model_sure_35 (p0 : Int32) : Nat → Int32 → LH → Option (Int32 × LH)
  | 0, _, _ => none
  | n + 1, y2, σ => s_Model_sure_35_b p0 (s_Model_sure_35 p0 n) y2 σ
theorem bb_Model_sure_35 {G : XG} {l : Launch} {p : Program} {e : Env} {R : Room} {s : State} {m : MethodId} {args : Array Value} {below : List Frame} {meth : Method} {c : Code} (C : XC G 570 598 p s m args c prog_14_method_85_code 4 R_Model) (hr : meth.sig.returnType = (some .int)) (hk : meth.locks = false) {d : Nat} (hd : 124 ≤ d + 1) (hR : xroom R (d + 1)) {p0 : Int32} {rec35 : Int32 → LH → Option (Int32 × LH)} {σ' : LH} {r : Int32} (hrec35 : ∀ (y2 : Int32) (σ : LH), rec35 y2 σ = some (r, σ') → XJ G 570 598 p l e R s m args below meth c 4 (XQ G 570 598 below args s (some (.int r)) σ') 0 0 35 [(0, .ref (G.2.2.1 + 570)), (1, .int p0), (2, .int y2)] [] σ) {y2 : Int32} {σ : LH} (h0 : s_Model_sure_35_b p0 rec35 y2 σ = some (r, σ')) : XJ G 570 598 p l e R s m args below meth c 4 (XQ G 570 598 below args s (some (.int r)) σ') 0 0 35 [(0, .ref (G.2.2.1 + 570)), (1, .int p0), (2, .int y2)] [] σ := by
  replace h0 := (show _ = _ from h0)
  unfold s_Model_sure_35_b at h0
  refine x_aload_n C d_Model_sure_35 0 rfl ?_
  refine x_getA (y := 584) C fg_Model_64 k_570 rfl d_Model_sure_36 ?_
  refine x_bipush (v := 48) C d_Model_sure_39 (by decide) ?_
  obtain ⟨g9, h0⟩ := xgo h0
  refine x_iald C k_584 (ib_in g9) d_Model_sure_41 ?_
  refine x_aload_n C d_Model_sure_42 0 rfl ?_
  refine x_getA (y := 581) C fg_Model_55 k_570 rfl d_Model_sure_43 ?_
  refine x_iconst (v := 1) C d_Model_sure_46 (by decide) ?_
  obtain ⟨g10, h0⟩ := xgo h0
  refine x_iald C k_581 (ib_in g10) d_Model_sure_47 ?_
  refine x_icmp_ge C 116 d_Model_sure_48 (by decide) (fun q11 => ?_) (fun q11 => ?_)
  · replace h0 := xit q11 h0
    refine x_iload_n C d_Model_sure_116 2 rfl ?_
    exact x_iret C hr hk h0 d_Model_sure_117
  · replace h0 := xif q11 h0
    refine x_aload_n C d_Model_sure_51 0 rfl ?_
    refine x_getA (y := 584) C fg_Model_64 k_570 rfl d_Model_sure_52 ?_
    refine x_bipush (v := 48) C d_Model_sure_55 (by decide) ?_
    obtain ⟨g12, h0⟩ := xgo h0
    refine x_iald C k_584 (ib_in g12) d_Model_sure_57 ?_
    refine x_aload_n C d_Model_sure_58 0 rfl ?_
    refine x_getA (y := 581) C fg_Model_55 k_570 rfl d_Model_sure_59 ?_
    refine x_iconst (v := 0) C d_Model_sure_62 (by decide) ?_
    obtain ⟨g13, h0⟩ := xgo h0
    refine x_iald C k_581 (ib_in g13) d_Model_sure_63 ?_
    refine x_icmp_lt C 71 d_Model_sure_64 (by decide) (fun q14 => ?_) (fun q14 => ?_)
    · replace h0 := xit q14 h0
      refine x_iconst (v := 0) C d_Model_sure_71 (by decide) ?_
      exact x_lv C [0, 1, 2] rfl (b_Model_sure_72 C hr hk hd hR hrec35 h0)
    · replace h0 := xif q14 h0
      refine x_iconst (v := 1) C d_Model_sure_67 (by decide) ?_
      refine x_goto C 72 d_Model_sure_68 (by decide) ?_
      exact x_lv C [0, 1, 2] rfl (b_Model_sure_72 C hr hk hd hR hrec35 h0)
theorem b_Model_sure_35 {G : XG} {l : Launch} {p : Program} {e : Env} {R : Room} {s : State} {m : MethodId} {args : Array Value} {below : List Frame} {meth : Method} {c : Code} (C : XC G 570 598 p s m args c prog_14_method_85_code 4 R_Model) (hr : meth.sig.returnType = (some .int)) (hk : meth.locks = false) {d : Nat} (hd : 124 ≤ d + 1) (hR : xroom R (d + 1)) {p0 : Int32} {σ' : LH} {r : Int32} : ∀ (n : Nat) (y2 : Int32) (σ : LH), s_Model_sure_35 p0 n y2 σ = some (r, σ') → XJ G 570 598 p l e R s m args below meth c 4 (XQ G 570 598 below args s (some (.int r)) σ') 0 0 35 [(0, .ref (G.2.2.1 + 570)), (1, .int p0), (2, .int y2)] [] σ := by
  intro n
  induction n with
  | zero => intro y2 σ h0; cases h0
  | succ n ih => intro y2 σ h0; exact bb_Model_sure_35 C hr hk hd hR ih h0
def s_Model_sure (p0 : Int32) (σ : LH) : Option (Int32 × LH) :=
  xl ((stI σ 570 0 0) : LH) fun σ1 =>
  xb2 (s_Model_isSitter p0 σ1) fun r3 σ4 =>
  if r3 = 0 then (
   some ((-1), σ4))
  else (
   xl ((((1 <<< ((σ4.1 570 26) &&& 31)) - 1)) : Int32) fun x6 =>
   xb1 (s_Model_copy 583 584 σ4) fun σ8 =>
   s_Model_sure_35 p0 FUEL x6 σ8)
theorem c_Model_sure {G : XG} {l : Launch} {d : Nat} (hd : 124 ≤ d) {p0 : Int32} {σ σ' : LH} {r : Int32} (h0 : s_Model_sure p0 σ = some (r, σ')) : xM G 570 598 l y_Model_sure prog_14_method_85_code 4 (some .int) d [.ref (G.2.2.1 + 570), .int p0] σ (some (.int r)) σ' := by
  obtain ⟨d, rfl⟩ : ∃ q, d = q + 1 := ⟨d - 1, by omega⟩
  refine x_met R_Model rfl (by decide +kernel) (Nat.le_of_ble_eq_true rfl) fun p e s m below meth c C hr hk hR => ?_
  refine x_lv (lv' := [(0, .ref (G.2.2.1 + 570)), (1, .int p0)]) C [0, 1] rfl ?_
  generalize xrm (d + 1) = R at hR ⊢
  unfold s_Model_sure at h0
  refine x_aload_n C d_Model_sure_0 0 rfl ?_
  refine x_iconst (v := 0) C d_Model_sure_1 (by decide) ?_
  refine x_putI (y := 0) C fp_Model_114 k_570 rfl rfl rfl d_Model_sure_2 ?_
  obtain ⟨σ1, eσ1, h0⟩ := xlet h0
  refine x_sig C eσ1 ?_
  refine x_aload_n C d_Model_sure_5 0 rfl ?_
  refine x_iload_n C d_Model_sure_6 1 rfl ?_
  obtain ⟨r3, σ4, k2, h0⟩ := xbind2 h0
  refine x_callVi C hR (c_Model_isSitter (d := d) (by omega) k2) cw_Model_412 k_570 rfl rfl rfl (Nat.le_of_ble_eq_true rfl) ⟨Nat.zero_le _, Nat.zero_le _⟩ d_Model_sure_7 ?_
  refine x_if_ne C 15 d_Model_sure_10 (by decide) (fun q5 => ?_) (fun q5 => ?_)
  · replace h0 := xif q5 h0
    refine x_iconst (v := 1) C d_Model_sure_15 (by decide) ?_
    refine x_aload_n C d_Model_sure_16 0 rfl ?_
    refine x_getI (y := 0) C fg_Model_302 k_570 rfl d_Model_sure_17 ?_
    refine x_ishl C d_Model_sure_20 ?_
    refine x_iconst (v := 1) C d_Model_sure_21 (by decide) ?_
    refine x_isub C d_Model_sure_22 ?_
    obtain ⟨x6, ex6, h0⟩ := xlet h0
    refine x_name C ex6 ?_
    refine x_istore_n (lv' := [(2, .int x6), (0, .ref (G.2.2.1 + 570)), (1, .int p0)]) C d_Model_sure_23 rfl (by decide) rfl ?_
    refine x_aload_n C d_Model_sure_24 1 rfl ?_
    refine x_getA (y := 583) C fg_Model_61 k_570 rfl d_Model_sure_25 ?_
    refine x_aload_n C d_Model_sure_28 1 rfl ?_
    refine x_getA (y := 584) C fg_Model_64 k_570 rfl d_Model_sure_29 ?_
    obtain ⟨σ8, k7, h0⟩ := xbind1 h0
    refine x_callSv C hR (c_Model_copy (d := d) (by omega) k_583 k_584 k7) cw_Model_447 w_2011 rfl rfl (Nat.le_of_ble_eq_true rfl) ⟨Nat.zero_le _, Nat.zero_le _⟩ d_Model_sure_32 ?_
    exact x_lv C [1, 2, 0] rfl (b_Model_sure_35 C hr hk hd hR FUEL _ _ h0)
  · replace h0 := xit q5 h0
    refine x_iconst (v := (-1)) C d_Model_sure_13 (by decide) ?_
    exact x_iret C hr hk h0 d_Model_sure_14
-- LostPlacesModel.layHere()Z
theorem d_Model_layHere_0 : decode prog_14_method_86_code 0 = .ok (.aload_n 0, 1) := by decide +kernel
theorem d_Model_layHere_1 : decode prog_14_method_86_code 1 = .ok (.iconst 0, 1) := by decide +kernel
theorem d_Model_layHere_2 : decode prog_14_method_86_code 2 = .ok (.putfield 466, 3) := by decide +kernel
theorem d_Model_layHere_5 : decode prog_14_method_86_code 5 = .ok (.iconst 0, 1) := by decide +kernel
theorem d_Model_layHere_6 : decode prog_14_method_86_code 6 = .ok (.istore_n 1, 1) := by decide +kernel
theorem d_Model_layHere_7 : decode prog_14_method_86_code 7 = .ok (.iload_n 1, 1) := by decide +kernel
theorem d_Model_layHere_8 : decode prog_14_method_86_code 8 = .ok (.aload_n 0, 1) := by decide +kernel
theorem d_Model_layHere_9 : decode prog_14_method_86_code 9 = .ok (.getfield 305, 3) := by decide +kernel
theorem d_Model_layHere_12 : decode prog_14_method_86_code 12 = .ok (.if_icmp .ge 43, 3) := by decide +kernel
theorem d_Model_layHere_15 : decode prog_14_method_86_code 15 = .ok (.aload_n 0, 1) := by decide +kernel
theorem d_Model_layHere_16 : decode prog_14_method_86_code 16 = .ok (.getfield 61, 3) := by decide +kernel
theorem d_Model_layHere_19 : decode prog_14_method_86_code 19 = .ok (.iload_n 1, 1) := by decide +kernel
theorem d_Model_layHere_20 : decode prog_14_method_86_code 20 = .ok (.invokestatic 361, 3) := by decide +kernel
theorem d_Model_layHere_23 : decode prog_14_method_86_code 23 = .ok (.ifCond .ne 6, 3) := by decide +kernel
theorem d_Model_layHere_26 : decode prog_14_method_86_code 26 = .ok (.goto 23, 3) := by decide +kernel
theorem d_Model_layHere_29 : decode prog_14_method_86_code 29 = .ok (.aload_n 0, 1) := by decide +kernel
theorem d_Model_layHere_30 : decode prog_14_method_86_code 30 = .ok (.getfield 93, 3) := by decide +kernel
theorem d_Model_layHere_33 : decode prog_14_method_86_code 33 = .ok (.aload_n 0, 1) := by decide +kernel
theorem d_Model_layHere_34 : decode prog_14_method_86_code 34 = .ok (.getfield 466, 3) := by decide +kernel
theorem d_Model_layHere_37 : decode prog_14_method_86_code 37 = .ok (.iload_n 1, 1) := by decide +kernel
theorem d_Model_layHere_38 : decode prog_14_method_86_code 38 = .ok (.iastore, 1) := by decide +kernel
theorem d_Model_layHere_39 : decode prog_14_method_86_code 39 = .ok (.aload_n 0, 1) := by decide +kernel
theorem d_Model_layHere_40 : decode prog_14_method_86_code 40 = .ok (.dup, 1) := by decide +kernel
theorem d_Model_layHere_41 : decode prog_14_method_86_code 41 = .ok (.getfield 466, 3) := by decide +kernel
theorem d_Model_layHere_44 : decode prog_14_method_86_code 44 = .ok (.iconst 1, 1) := by decide +kernel
theorem d_Model_layHere_45 : decode prog_14_method_86_code 45 = .ok (.iadd, 1) := by decide +kernel
theorem d_Model_layHere_46 : decode prog_14_method_86_code 46 = .ok (.putfield 466, 3) := by decide +kernel
theorem d_Model_layHere_49 : decode prog_14_method_86_code 49 = .ok (.iinc 1 1, 3) := by decide +kernel
theorem d_Model_layHere_52 : decode prog_14_method_86_code 52 = .ok (.goto (-45), 3) := by decide +kernel
theorem d_Model_layHere_55 : decode prog_14_method_86_code 55 = .ok (.aload_n 0, 1) := by decide +kernel
theorem d_Model_layHere_56 : decode prog_14_method_86_code 56 = .ok (.invokevirtual 428, 3) := by decide +kernel
theorem d_Model_layHere_59 : decode prog_14_method_86_code 59 = .ok (.ifCond .eq 22, 3) := by decide +kernel
theorem d_Model_layHere_62 : decode prog_14_method_86_code 62 = .ok (.aload_n 0, 1) := by decide +kernel
theorem d_Model_layHere_63 : decode prog_14_method_86_code 63 = .ok (.getfield 466, 3) := by decide +kernel
theorem d_Model_layHere_66 : decode prog_14_method_86_code 66 = .ok (.ifCond .le 15, 3) := by decide +kernel
theorem d_Model_layHere_69 : decode prog_14_method_86_code 69 = .ok (.aload_n 0, 1) := by decide +kernel
theorem d_Model_layHere_70 : decode prog_14_method_86_code 70 = .ok (.getfield 466, 3) := by decide +kernel
theorem d_Model_layHere_73 : decode prog_14_method_86_code 73 = .ok (.iconst 5, 1) := by decide +kernel
theorem d_Model_layHere_74 : decode prog_14_method_86_code 74 = .ok (.if_icmp .ge 7, 3) := by decide +kernel
theorem d_Model_layHere_77 : decode prog_14_method_86_code 77 = .ok (.iconst 1, 1) := by decide +kernel
theorem d_Model_layHere_78 : decode prog_14_method_86_code 78 = .ok (.goto 4, 3) := by decide +kernel
theorem d_Model_layHere_81 : decode prog_14_method_86_code 81 = .ok (.iconst 0, 1) := by decide +kernel
theorem d_Model_layHere_82 : decode prog_14_method_86_code 82 = .ok (.ireturn, 1) := by decide +kernel
def s_Model_layHere_82 (z0 : Int32) (σ : LH) : Option (Int32 × LH) :=
  if zb z0 then (
  some (z0, σ)) else none
theorem b_Model_layHere_82 {G : XG} {l : Launch} {p : Program} {e : Env} {R : Room} {s : State} {m : MethodId} {args : Array Value} {below : List Frame} {meth : Method} {c : Code} (C : XC G 570 598 p s m args c prog_14_method_86_code 2 R_Model) (hr : meth.sig.returnType = (some .boolean)) (hk : meth.locks = false) {d : Nat} (hd : 3 ≤ d + 1) (hR : xroom R (d + 1)) {σ' : LH} {r : Int32} {z0 : Int32} {σ : LH} (h0 : s_Model_layHere_82 z0 σ = some (r, σ')) : XJ G 570 598 p l e R s m args below meth c 2 (XQ G 570 598 below args s (some (.int r)) σ') 0 0 82 [] [.int z0] σ := by
  replace h0 := (show _ = _ from h0)
  unfold s_Model_layHere_82 at h0
  obtain ⟨g7, h0⟩ := xgo h0
  exact x_zret C hr hk g7 h0 d_Model_layHere_82
def s_Model_layHere_81 (σ : LH) : Option (Int32 × LH) :=
  s_Model_layHere_82 0 σ
theorem b_Model_layHere_81 {G : XG} {l : Launch} {p : Program} {e : Env} {R : Room} {s : State} {m : MethodId} {args : Array Value} {below : List Frame} {meth : Method} {c : Code} (C : XC G 570 598 p s m args c prog_14_method_86_code 2 R_Model) (hr : meth.sig.returnType = (some .boolean)) (hk : meth.locks = false) {d : Nat} (hd : 3 ≤ d + 1) (hR : xroom R (d + 1)) {σ' : LH} {r : Int32} {σ : LH} (h0 : s_Model_layHere_81 σ = some (r, σ')) : XJ G 570 598 p l e R s m args below meth c 2 (XQ G 570 598 below args s (some (.int r)) σ') 0 0 81 [] [] σ := by
  replace h0 := (show _ = _ from h0)
  unfold s_Model_layHere_81 at h0
  refine x_iconst (v := 0) C d_Model_layHere_81 (by decide) ?_
  exact x_lv C [] rfl (b_Model_layHere_82 C hr hk hd hR h0)
def s_Model_layHere_49 (rec7 : Int32 → LH → Option (Int32 × LH)) (y1 : Int32) (σ : LH) : Option (Int32 × LH) :=
  xl ((y1 + 1) : Int32) fun x14 =>
  rec7 x14 σ
theorem b_Model_layHere_49 {G : XG} {l : Launch} {p : Program} {e : Env} {R : Room} {s : State} {m : MethodId} {args : Array Value} {below : List Frame} {meth : Method} {c : Code} (C : XC G 570 598 p s m args c prog_14_method_86_code 2 R_Model) (hr : meth.sig.returnType = (some .boolean)) (hk : meth.locks = false) {d : Nat} (hd : 3 ≤ d + 1) (hR : xroom R (d + 1)) {rec7 : Int32 → LH → Option (Int32 × LH)} {σ' : LH} {r : Int32} (hrec7 : ∀ (y1 : Int32) (σ : LH), rec7 y1 σ = some (r, σ') → XJ G 570 598 p l e R s m args below meth c 2 (XQ G 570 598 below args s (some (.int r)) σ') 0 0 7 [(0, .ref (G.2.2.1 + 570)), (1, .int y1)] [] σ) {y1 : Int32} {σ : LH} (h0 : s_Model_layHere_49 rec7 y1 σ = some (r, σ')) : XJ G 570 598 p l e R s m args below meth c 2 (XQ G 570 598 below args s (some (.int r)) σ') 0 0 49 [(0, .ref (G.2.2.1 + 570)), (1, .int y1)] [] σ := by
  replace h0 := (show _ = _ from h0)
  unfold s_Model_layHere_49 at h0
  obtain ⟨x14, ex14, h0⟩ := xlet h0
  refine x_iinc (lv' := [(1, .int x14), (0, .ref (G.2.2.1 + 570))]) C d_Model_layHere_49 1 rfl ex14 (by decide) rfl ?_
  refine x_goto C 7 d_Model_layHere_52 (by decide) ?_
  exact x_lv C [1, 0] rfl (hrec7 _ _ h0)
def s_Model_layHere_7_b (rec7 : Int32 → LH → Option (Int32 × LH)) (y1 : Int32) (σ : LH) : Option (Int32 × LH) :=
  if (σ.1 570 27) ≤ y1 then (
   xb2 (s_Model_isOpen σ) fun r4 σ5 =>
   if r4 = 0 then (
    s_Model_layHere_81 σ5)
   else (
    if (σ5.1 570 51) ≤ 0 then (
     s_Model_layHere_81 σ5)
    else (
     if 5 ≤ (σ5.1 570 51) then (
      s_Model_layHere_81 σ5)
     else (
      s_Model_layHere_82 1 σ5))))
  else (
   xb2 (s_Model_isHere 583 y1 σ) fun r11 σ12 =>
   if r11 = 0 then (
    s_Model_layHere_49 rec7 y1 σ12)
   else (
    if ib (σ12.1 570 51) 8 then (
    xl ((stI σ12 591 (Int32.toNatClampNeg (σ12.1 570 51)) y1) : LH) fun σ16 =>
    xl ((stI σ16 570 51 ((σ16.1 570 51) + 1)) : LH) fun σ17 =>
    s_Model_layHere_49 rec7 y1 σ17) else none))
def s_Model_layHere_7 : Nat → Int32 → LH → Option (Int32 × LH)
  | 0, _, _ => none
  | n + 1, y1, σ => s_Model_layHere_7_b (s_Model_layHere_7 n) y1 σ
theorem bb_Model_layHere_7 {G : XG} {l : Launch} {p : Program} {e : Env} {R : Room} {s : State} {m : MethodId} {args : Array Value} {below : List Frame} {meth : Method} {c : Code} (C : XC G 570 598 p s m args c prog_14_method_86_code 2 R_Model) (hr : meth.sig.returnType = (some .boolean)) (hk : meth.locks = false) {d : Nat} (hd : 3 ≤ d + 1) (hR : xroom R (d + 1)) {rec7 : Int32 → LH → Option (Int32 × LH)} {σ' : LH} {r : Int32} (hrec7 : ∀ (y1 : Int32) (σ : LH), rec7 y1 σ = some (r, σ') → XJ G 570 598 p l e R s m args below meth c 2 (XQ G 570 598 below args s (some (.int r)) σ') 0 0 7 [(0, .ref (G.2.2.1 + 570)), (1, .int y1)] [] σ) {y1 : Int32} {σ : LH} (h0 : s_Model_layHere_7_b rec7 y1 σ = some (r, σ')) : XJ G 570 598 p l e R s m args below meth c 2 (XQ G 570 598 below args s (some (.int r)) σ') 0 0 7 [(0, .ref (G.2.2.1 + 570)), (1, .int y1)] [] σ := by
  replace h0 := (show _ = _ from h0)
  unfold s_Model_layHere_7_b at h0
  refine x_iload_n C d_Model_layHere_7 1 rfl ?_
  refine x_aload_n C d_Model_layHere_8 0 rfl ?_
  refine x_getI (y := 0) C fg_Model_305 k_570 rfl d_Model_layHere_9 ?_
  refine x_icmp_ge C 55 d_Model_layHere_12 (by decide) (fun q2 => ?_) (fun q2 => ?_)
  · replace h0 := xit q2 h0
    refine x_aload_n C d_Model_layHere_55 0 rfl ?_
    obtain ⟨r4, σ5, k3, h0⟩ := xbind2 h0
    refine x_callVi C hR (c_Model_isOpen (d := d) (by omega) k3) cw_Model_428 k_570 rfl rfl rfl (Nat.le_of_ble_eq_true rfl) ⟨Nat.zero_le _, Nat.zero_le _⟩ d_Model_layHere_56 ?_
    refine x_if_eq C 81 d_Model_layHere_59 (by decide) (fun q6 => ?_) (fun q6 => ?_)
    · replace h0 := xit q6 h0
      exact x_lv C [] rfl (b_Model_layHere_81 C hr hk hd hR h0)
    · replace h0 := xif q6 h0
      refine x_aload_n C d_Model_layHere_62 0 rfl ?_
      refine x_getI (y := 0) C fg_Model_466 k_570 rfl d_Model_layHere_63 ?_
      refine x_if_le C 81 d_Model_layHere_66 (by decide) (fun q8 => ?_) (fun q8 => ?_)
      · replace h0 := xit q8 h0
        exact x_lv C [] rfl (b_Model_layHere_81 C hr hk hd hR h0)
      · replace h0 := xif q8 h0
        refine x_aload_n C d_Model_layHere_69 0 rfl ?_
        refine x_getI (y := 0) C fg_Model_466 k_570 rfl d_Model_layHere_70 ?_
        refine x_iconst (v := 5) C d_Model_layHere_73 (by decide) ?_
        refine x_icmp_ge C 81 d_Model_layHere_74 (by decide) (fun q9 => ?_) (fun q9 => ?_)
        · replace h0 := xit q9 h0
          exact x_lv C [] rfl (b_Model_layHere_81 C hr hk hd hR h0)
        · replace h0 := xif q9 h0
          refine x_iconst (v := 1) C d_Model_layHere_77 (by decide) ?_
          refine x_goto C 82 d_Model_layHere_78 (by decide) ?_
          exact x_lv C [] rfl (b_Model_layHere_82 C hr hk hd hR h0)
  · replace h0 := xif q2 h0
    refine x_aload_n C d_Model_layHere_15 0 rfl ?_
    refine x_getA (y := 583) C fg_Model_61 k_570 rfl d_Model_layHere_16 ?_
    refine x_iload_n C d_Model_layHere_19 1 rfl ?_
    obtain ⟨r11, σ12, k10, h0⟩ := xbind2 h0
    refine x_callSi C hR (c_Model_isHere (d := d) (by omega) k_583 k10) cw_Model_361 w_1905 rfl rfl (Nat.le_of_ble_eq_true rfl) ⟨Nat.zero_le _, Nat.zero_le _⟩ d_Model_layHere_20 ?_
    refine x_if_ne C 29 d_Model_layHere_23 (by decide) (fun q13 => ?_) (fun q13 => ?_)
    · replace h0 := xif q13 h0
      refine x_aload_n C d_Model_layHere_29 0 rfl ?_
      refine x_getA (y := 591) C fg_Model_93 k_570 rfl d_Model_layHere_30 ?_
      refine x_aload_n C d_Model_layHere_33 0 rfl ?_
      refine x_getI (y := 0) C fg_Model_466 k_570 rfl d_Model_layHere_34 ?_
      refine x_iload_n C d_Model_layHere_37 1 rfl ?_
      obtain ⟨g15, h0⟩ := xgo h0
      refine x_iast C k_591 (ib_in g15) d_Model_layHere_38 ?_
      obtain ⟨σ16, eσ16, h0⟩ := xlet h0
      refine x_sig C eσ16 ?_
      refine x_aload_n C d_Model_layHere_39 0 rfl ?_
      refine x_dup C d_Model_layHere_40 rfl ?_
      refine x_getI (y := 0) C fg_Model_466 k_570 rfl d_Model_layHere_41 ?_
      refine x_iconst (v := 1) C d_Model_layHere_44 (by decide) ?_
      refine x_iadd C d_Model_layHere_45 ?_
      refine x_putI (y := 0) C fp_Model_466 k_570 rfl rfl rfl d_Model_layHere_46 ?_
      obtain ⟨σ17, eσ17, h0⟩ := xlet h0
      refine x_sig C eσ17 ?_
      exact x_lv C [0, 1] rfl (b_Model_layHere_49 C hr hk hd hR hrec7 h0)
    · replace h0 := xit q13 h0
      refine x_goto C 49 d_Model_layHere_26 (by decide) ?_
      exact x_lv C [0, 1] rfl (b_Model_layHere_49 C hr hk hd hR hrec7 h0)
theorem b_Model_layHere_7 {G : XG} {l : Launch} {p : Program} {e : Env} {R : Room} {s : State} {m : MethodId} {args : Array Value} {below : List Frame} {meth : Method} {c : Code} (C : XC G 570 598 p s m args c prog_14_method_86_code 2 R_Model) (hr : meth.sig.returnType = (some .boolean)) (hk : meth.locks = false) {d : Nat} (hd : 3 ≤ d + 1) (hR : xroom R (d + 1)) {σ' : LH} {r : Int32} : ∀ (n : Nat) (y1 : Int32) (σ : LH), s_Model_layHere_7 n y1 σ = some (r, σ') → XJ G 570 598 p l e R s m args below meth c 2 (XQ G 570 598 below args s (some (.int r)) σ') 0 0 7 [(0, .ref (G.2.2.1 + 570)), (1, .int y1)] [] σ := by
  intro n
  induction n with
  | zero => intro y1 σ h0; cases h0
  | succ n ih => intro y1 σ h0; exact bb_Model_layHere_7 C hr hk hd hR ih h0
def s_Model_layHere (σ : LH) : Option (Int32 × LH) :=
  xl ((stI σ 570 51 0) : LH) fun σ1 =>
  s_Model_layHere_7 FUEL 0 σ1
theorem c_Model_layHere {G : XG} {l : Launch} {d : Nat} (hd : 3 ≤ d) {σ σ' : LH} {r : Int32} (h0 : s_Model_layHere σ = some (r, σ')) : xM G 570 598 l y_Model_layHere prog_14_method_86_code 2 (some .boolean) d [.ref (G.2.2.1 + 570)] σ (some (.int r)) σ' := by
  obtain ⟨d, rfl⟩ : ∃ q, d = q + 1 := ⟨d - 1, by omega⟩
  refine x_met R_Model rfl (by decide +kernel) (Nat.le_of_ble_eq_true rfl) fun p e s m below meth c C hr hk hR => ?_
  refine x_lv (lv' := [(0, .ref (G.2.2.1 + 570))]) C [0] rfl ?_
  generalize xrm (d + 1) = R at hR ⊢
  unfold s_Model_layHere at h0
  refine x_aload_n C d_Model_layHere_0 0 rfl ?_
  refine x_iconst (v := 0) C d_Model_layHere_1 (by decide) ?_
  refine x_putI (y := 0) C fp_Model_466 k_570 rfl rfl rfl d_Model_layHere_2 ?_
  obtain ⟨σ1, eσ1, h0⟩ := xlet h0
  refine x_sig C eσ1 ?_
  refine x_iconst (v := 0) C d_Model_layHere_5 (by decide) ?_
  refine x_istore_n (lv' := [(1, .int 0), (0, .ref (G.2.2.1 + 570))]) C d_Model_layHere_6 rfl (by decide) rfl ?_
  exact x_lv C [1, 0] rfl (b_Model_layHere_7 C hr hk hd hR FUEL _ _ h0)
-- LostPlacesModel.rings()I
theorem d_Model_rings_0 : decode prog_14_method_87_code 0 = .ok (.iconst 4, 1) := by decide +kernel
theorem d_Model_rings_1 : decode prog_14_method_87_code 1 = .ok (.istore_n 1, 1) := by decide +kernel
theorem d_Model_rings_2 : decode prog_14_method_87_code 2 = .ok (.iconst (-1), 1) := by decide +kernel
theorem d_Model_rings_3 : decode prog_14_method_87_code 3 = .ok (.istore_n 2, 1) := by decide +kernel
theorem d_Model_rings_4 : decode prog_14_method_87_code 4 = .ok (.iconst 0, 1) := by decide +kernel
theorem d_Model_rings_5 : decode prog_14_method_87_code 5 = .ok (.istore_n 3, 1) := by decide +kernel
theorem d_Model_rings_6 : decode prog_14_method_87_code 6 = .ok (.iload_n 3, 1) := by decide +kernel
theorem d_Model_rings_7 : decode prog_14_method_87_code 7 = .ok (.aload_n 0, 1) := by decide +kernel
theorem d_Model_rings_8 : decode prog_14_method_87_code 8 = .ok (.getfield 466, 3) := by decide +kernel
theorem d_Model_rings_11 : decode prog_14_method_87_code 11 = .ok (.if_icmp .ge 89, 3) := by decide +kernel
theorem d_Model_rings_14 : decode prog_14_method_87_code 14 = .ok (.aload_n 0, 1) := by decide +kernel
theorem d_Model_rings_15 : decode prog_14_method_87_code 15 = .ok (.getfield 93, 3) := by decide +kernel
theorem d_Model_rings_18 : decode prog_14_method_87_code 18 = .ok (.iload_n 3, 1) := by decide +kernel
theorem d_Model_rings_19 : decode prog_14_method_87_code 19 = .ok (.iaload, 1) := by decide +kernel
theorem d_Model_rings_20 : decode prog_14_method_87_code 20 = .ok (.istore 4, 2) := by decide +kernel
theorem d_Model_rings_22 : decode prog_14_method_87_code 22 = .ok (.aload_n 0, 1) := by decide +kernel
theorem d_Model_rings_23 : decode prog_14_method_87_code 23 = .ok (.getfield 96, 3) := by decide +kernel
theorem d_Model_rings_26 : decode prog_14_method_87_code 26 = .ok (.iload_n 3, 1) := by decide +kernel
theorem d_Model_rings_27 : decode prog_14_method_87_code 27 = .ok (.iaload, 1) := by decide +kernel
theorem d_Model_rings_28 : decode prog_14_method_87_code 28 = .ok (.iload_n 1, 1) := by decide +kernel
theorem d_Model_rings_29 : decode prog_14_method_87_code 29 = .ok (.if_icmp .gt 65, 3) := by decide +kernel
theorem d_Model_rings_32 : decode prog_14_method_87_code 32 = .ok (.aload_n 0, 1) := by decide +kernel
theorem d_Model_rings_33 : decode prog_14_method_87_code 33 = .ok (.getfield 96, 3) := by decide +kernel
theorem d_Model_rings_36 : decode prog_14_method_87_code 36 = .ok (.iload_n 3, 1) := by decide +kernel
theorem d_Model_rings_37 : decode prog_14_method_87_code 37 = .ok (.iaload, 1) := by decide +kernel
theorem d_Model_rings_38 : decode prog_14_method_87_code 38 = .ok (.iconst 4, 1) := by decide +kernel
theorem d_Model_rings_39 : decode prog_14_method_87_code 39 = .ok (.if_icmp .ne 6, 3) := by decide +kernel
theorem d_Model_rings_42 : decode prog_14_method_87_code 42 = .ok (.goto 52, 3) := by decide +kernel
theorem d_Model_rings_45 : decode prog_14_method_87_code 45 = .ok (.aload_n 0, 1) := by decide +kernel
theorem d_Model_rings_46 : decode prog_14_method_87_code 46 = .ok (.getfield 96, 3) := by decide +kernel
theorem d_Model_rings_49 : decode prog_14_method_87_code 49 = .ok (.iload_n 3, 1) := by decide +kernel
theorem d_Model_rings_50 : decode prog_14_method_87_code 50 = .ok (.iaload, 1) := by decide +kernel
theorem d_Model_rings_51 : decode prog_14_method_87_code 51 = .ok (.iload_n 1, 1) := by decide +kernel
theorem d_Model_rings_52 : decode prog_14_method_87_code 52 = .ok (.if_icmp .lt 32, 3) := by decide +kernel
theorem d_Model_rings_55 : decode prog_14_method_87_code 55 = .ok (.iload_n 2, 1) := by decide +kernel
theorem d_Model_rings_56 : decode prog_14_method_87_code 56 = .ok (.iconst (-1), 1) := by decide +kernel
theorem d_Model_rings_57 : decode prog_14_method_87_code 57 = .ok (.if_icmp .eq 27, 3) := by decide +kernel
theorem d_Model_rings_60 : decode prog_14_method_87_code 60 = .ok (.aload_n 0, 1) := by decide +kernel
theorem d_Model_rings_61 : decode prog_14_method_87_code 61 = .ok (.getfield 43, 3) := by decide +kernel
theorem d_Model_rings_64 : decode prog_14_method_87_code 64 = .ok (.iconst 4, 1) := by decide +kernel
theorem d_Model_rings_65 : decode prog_14_method_87_code 65 = .ok (.iload 4, 2) := by decide +kernel
theorem d_Model_rings_67 : decode prog_14_method_87_code 67 = .ok (.imul, 1) := by decide +kernel
theorem d_Model_rings_68 : decode prog_14_method_87_code 68 = .ok (.iconst 1, 1) := by decide +kernel
theorem d_Model_rings_69 : decode prog_14_method_87_code 69 = .ok (.iadd, 1) := by decide +kernel
theorem d_Model_rings_70 : decode prog_14_method_87_code 70 = .ok (.iaload, 1) := by decide +kernel
theorem d_Model_rings_71 : decode prog_14_method_87_code 71 = .ok (.aload_n 0, 1) := by decide +kernel
theorem d_Model_rings_72 : decode prog_14_method_87_code 72 = .ok (.getfield 43, 3) := by decide +kernel
theorem d_Model_rings_75 : decode prog_14_method_87_code 75 = .ok (.iconst 4, 1) := by decide +kernel
theorem d_Model_rings_76 : decode prog_14_method_87_code 76 = .ok (.iload_n 2, 1) := by decide +kernel
theorem d_Model_rings_77 : decode prog_14_method_87_code 77 = .ok (.imul, 1) := by decide +kernel
theorem d_Model_rings_78 : decode prog_14_method_87_code 78 = .ok (.iconst 1, 1) := by decide +kernel
theorem d_Model_rings_79 : decode prog_14_method_87_code 79 = .ok (.iadd, 1) := by decide +kernel
theorem d_Model_rings_80 : decode prog_14_method_87_code 80 = .ok (.iaload, 1) := by decide +kernel
theorem d_Model_rings_81 : decode prog_14_method_87_code 81 = .ok (.if_icmp .le 6, 3) := by decide +kernel
theorem d_Model_rings_84 : decode prog_14_method_87_code 84 = .ok (.iload 4, 2) := by decide +kernel
theorem d_Model_rings_86 : decode prog_14_method_87_code 86 = .ok (.istore_n 2, 1) := by decide +kernel
theorem d_Model_rings_87 : decode prog_14_method_87_code 87 = .ok (.aload_n 0, 1) := by decide +kernel
theorem d_Model_rings_88 : decode prog_14_method_87_code 88 = .ok (.getfield 96, 3) := by decide +kernel
theorem d_Model_rings_91 : decode prog_14_method_87_code 91 = .ok (.iload_n 3, 1) := by decide +kernel
theorem d_Model_rings_92 : decode prog_14_method_87_code 92 = .ok (.iaload, 1) := by decide +kernel
theorem d_Model_rings_93 : decode prog_14_method_87_code 93 = .ok (.istore_n 1, 1) := by decide +kernel
theorem d_Model_rings_94 : decode prog_14_method_87_code 94 = .ok (.iinc 3 1, 3) := by decide +kernel
theorem d_Model_rings_97 : decode prog_14_method_87_code 97 = .ok (.goto (-91), 3) := by decide +kernel
theorem d_Model_rings_100 : decode prog_14_method_87_code 100 = .ok (.aload_n 0, 1) := by decide +kernel
theorem d_Model_rings_101 : decode prog_14_method_87_code 101 = .ok (.getfield 61, 3) := by decide +kernel
theorem d_Model_rings_104 : decode prog_14_method_87_code 104 = .ok (.aload_n 0, 1) := by decide +kernel
theorem d_Model_rings_105 : decode prog_14_method_87_code 105 = .ok (.getfield 64, 3) := by decide +kernel
theorem d_Model_rings_108 : decode prog_14_method_87_code 108 = .ok (.invokestatic 447, 3) := by decide +kernel
theorem d_Model_rings_111 : decode prog_14_method_87_code 111 = .ok (.iload_n 2, 1) := by decide +kernel
theorem d_Model_rings_112 : decode prog_14_method_87_code 112 = .ok (.iconst (-1), 1) := by decide +kernel
theorem d_Model_rings_113 : decode prog_14_method_87_code 113 = .ok (.if_icmp .eq 18, 3) := by decide +kernel
theorem d_Model_rings_116 : decode prog_14_method_87_code 116 = .ok (.aload_n 0, 1) := by decide +kernel
theorem d_Model_rings_117 : decode prog_14_method_87_code 117 = .ok (.iload_n 2, 1) := by decide +kernel
theorem d_Model_rings_118 : decode prog_14_method_87_code 118 = .ok (.aload_n 0, 1) := by decide +kernel
theorem d_Model_rings_119 : decode prog_14_method_87_code 119 = .ok (.getfield 61, 3) := by decide +kernel
theorem d_Model_rings_122 : decode prog_14_method_87_code 122 = .ok (.bipush 48, 2) := by decide +kernel
theorem d_Model_rings_124 : decode prog_14_method_87_code 124 = .ok (.iaload, 1) := by decide +kernel
theorem d_Model_rings_125 : decode prog_14_method_87_code 125 = .ok (.iload_n 1, 1) := by decide +kernel
theorem d_Model_rings_126 : decode prog_14_method_87_code 126 = .ok (.iadd, 1) := by decide +kernel
theorem d_Model_rings_127 : decode prog_14_method_87_code 127 = .ok (.iconst 1, 1) := by decide +kernel
theorem d_Model_rings_128 : decode prog_14_method_87_code 128 = .ok (.invokevirtual 453, 3) := by decide +kernel
theorem d_Model_rings_131 : decode prog_14_method_87_code 131 = .ok (.aload_n 0, 1) := by decide +kernel
theorem d_Model_rings_132 : decode prog_14_method_87_code 132 = .ok (.aload_n 0, 1) := by decide +kernel
theorem d_Model_rings_133 : decode prog_14_method_87_code 133 = .ok (.getfield 64, 3) := by decide +kernel
theorem d_Model_rings_136 : decode prog_14_method_87_code 136 = .ok (.invokevirtual 457, 3) := by decide +kernel
theorem d_Model_rings_139 : decode prog_14_method_87_code 139 = .ok (.aload_n 0, 1) := by decide +kernel
theorem d_Model_rings_140 : decode prog_14_method_87_code 140 = .ok (.iconst 0, 1) := by decide +kernel
theorem d_Model_rings_141 : decode prog_14_method_87_code 141 = .ok (.putfield 391, 3) := by decide +kernel
theorem d_Model_rings_144 : decode prog_14_method_87_code 144 = .ok (.iload_n 1, 1) := by decide +kernel
theorem d_Model_rings_145 : decode prog_14_method_87_code 145 = .ok (.ireturn, 1) := by decide +kernel
def s_Model_rings_131 (y1 : Int32) (σ : LH) : Option (Int32 × LH) :=
  xb1 (s_Model_toEnd 584 σ) fun σ6 =>
  xl ((stI σ6 570 40 0) : LH) fun σ7 =>
  some (y1, σ7)
theorem b_Model_rings_131 {G : XG} {l : Launch} {p : Program} {e : Env} {R : Room} {s : State} {m : MethodId} {args : Array Value} {below : List Frame} {meth : Method} {c : Code} (C : XC G 570 598 p s m args c prog_14_method_87_code 5 R_Model) (hr : meth.sig.returnType = (some .int)) (hk : meth.locks = false) {d : Nat} (hd : 125 ≤ d + 1) (hR : xroom R (d + 1)) {σ' : LH} {r : Int32} {y1 : Int32} {σ : LH} (h0 : s_Model_rings_131 y1 σ = some (r, σ')) : XJ G 570 598 p l e R s m args below meth c 5 (XQ G 570 598 below args s (some (.int r)) σ') 0 0 131 [(0, .ref (G.2.2.1 + 570)), (1, .int y1)] [] σ := by
  replace h0 := (show _ = _ from h0)
  unfold s_Model_rings_131 at h0
  refine x_aload_n C d_Model_rings_131 0 rfl ?_
  refine x_aload_n C d_Model_rings_132 0 rfl ?_
  refine x_getA (y := 584) C fg_Model_64 k_570 rfl d_Model_rings_133 ?_
  obtain ⟨σ6, k5, h0⟩ := xbind1 h0
  refine x_callVv C hR (c_Model_toEnd (d := d) (by omega) k_584 k5) cw_Model_457 k_570 rfl rfl rfl (Nat.le_of_ble_eq_true rfl) ⟨Nat.zero_le _, Nat.zero_le _⟩ d_Model_rings_136 ?_
  refine x_aload_n C d_Model_rings_139 0 rfl ?_
  refine x_iconst (v := 0) C d_Model_rings_140 (by decide) ?_
  refine x_putI (y := 0) C fp_Model_391 k_570 rfl rfl rfl d_Model_rings_141 ?_
  obtain ⟨σ7, eσ7, h0⟩ := xlet h0
  refine x_sig C eσ7 ?_
  refine x_iload_n C d_Model_rings_144 1 rfl ?_
  exact x_iret C hr hk h0 d_Model_rings_145
def s_Model_rings_94 (rec6 : Int32 → Int32 → Int32 → LH → Option (Int32 × LH)) (y1 : Int32) (y2 : Int32) (y3 : Int32) (σ : LH) : Option (Int32 × LH) :=
  xl ((y3 + 1) : Int32) fun x15 =>
  rec6 y1 y2 x15 σ
theorem b_Model_rings_94 {G : XG} {l : Launch} {p : Program} {e : Env} {R : Room} {s : State} {m : MethodId} {args : Array Value} {below : List Frame} {meth : Method} {c : Code} (C : XC G 570 598 p s m args c prog_14_method_87_code 5 R_Model) (hr : meth.sig.returnType = (some .int)) (hk : meth.locks = false) {d : Nat} (hd : 125 ≤ d + 1) (hR : xroom R (d + 1)) {rec6 : Int32 → Int32 → Int32 → LH → Option (Int32 × LH)} {σ' : LH} {r : Int32} (hrec6 : ∀ (y1 : Int32) (y2 : Int32) (y3 : Int32) (σ : LH), rec6 y1 y2 y3 σ = some (r, σ') → XJ G 570 598 p l e R s m args below meth c 5 (XQ G 570 598 below args s (some (.int r)) σ') 0 0 6 [(0, .ref (G.2.2.1 + 570)), (1, .int y1), (2, .int y2), (3, .int y3)] [] σ) {y1 : Int32} {y2 : Int32} {y3 : Int32} {σ : LH} (h0 : s_Model_rings_94 rec6 y1 y2 y3 σ = some (r, σ')) : XJ G 570 598 p l e R s m args below meth c 5 (XQ G 570 598 below args s (some (.int r)) σ') 0 0 94 [(0, .ref (G.2.2.1 + 570)), (1, .int y1), (2, .int y2), (3, .int y3)] [] σ := by
  replace h0 := (show _ = _ from h0)
  unfold s_Model_rings_94 at h0
  obtain ⟨x15, ex15, h0⟩ := xlet h0
  refine x_iinc (lv' := [(3, .int x15), (0, .ref (G.2.2.1 + 570)), (1, .int y1), (2, .int y2)]) C d_Model_rings_94 3 rfl ex15 (by decide) rfl ?_
  refine x_goto C 6 d_Model_rings_97 (by decide) ?_
  exact x_lv C [1, 2, 3, 0] rfl (hrec6 _ _ _ _ h0)
def s_Model_rings_87 (rec6 : Int32 → Int32 → Int32 → LH → Option (Int32 × LH)) (y2 : Int32) (y3 : Int32) (σ : LH) : Option (Int32 × LH) :=
  if ib y3 8 then (
  xl (((σ.1 592 (Int32.toNatClampNeg y3))) : Int32) fun x21 =>
  s_Model_rings_94 rec6 x21 y2 y3 σ) else none
theorem b_Model_rings_87 {G : XG} {l : Launch} {p : Program} {e : Env} {R : Room} {s : State} {m : MethodId} {args : Array Value} {below : List Frame} {meth : Method} {c : Code} (C : XC G 570 598 p s m args c prog_14_method_87_code 5 R_Model) (hr : meth.sig.returnType = (some .int)) (hk : meth.locks = false) {d : Nat} (hd : 125 ≤ d + 1) (hR : xroom R (d + 1)) {rec6 : Int32 → Int32 → Int32 → LH → Option (Int32 × LH)} {σ' : LH} {r : Int32} (hrec6 : ∀ (y1 : Int32) (y2 : Int32) (y3 : Int32) (σ : LH), rec6 y1 y2 y3 σ = some (r, σ') → XJ G 570 598 p l e R s m args below meth c 5 (XQ G 570 598 below args s (some (.int r)) σ') 0 0 6 [(0, .ref (G.2.2.1 + 570)), (1, .int y1), (2, .int y2), (3, .int y3)] [] σ) {y2 : Int32} {y3 : Int32} {σ : LH} (h0 : s_Model_rings_87 rec6 y2 y3 σ = some (r, σ')) : XJ G 570 598 p l e R s m args below meth c 5 (XQ G 570 598 below args s (some (.int r)) σ') 0 0 87 [(0, .ref (G.2.2.1 + 570)), (2, .int y2), (3, .int y3)] [] σ := by
  replace h0 := (show _ = _ from h0)
  unfold s_Model_rings_87 at h0
  refine x_aload_n C d_Model_rings_87 0 rfl ?_
  refine x_getA (y := 592) C fg_Model_96 k_570 rfl d_Model_rings_88 ?_
  refine x_iload_n C d_Model_rings_91 2 rfl ?_
  obtain ⟨g20, h0⟩ := xgo h0
  refine x_iald C k_592 (ib_in g20) d_Model_rings_92 ?_
  obtain ⟨x21, ex21, h0⟩ := xlet h0
  refine x_name C ex21 ?_
  refine x_istore_n (lv' := [(1, .int x21), (0, .ref (G.2.2.1 + 570)), (2, .int y2), (3, .int y3)]) C d_Model_rings_93 rfl (by decide) rfl ?_
  exact x_lv C [1, 0, 2, 3] rfl (b_Model_rings_94 C hr hk hd hR hrec6 h0)
def s_Model_rings_84 (rec6 : Int32 → Int32 → Int32 → LH → Option (Int32 × LH)) (y3 : Int32) (y4 : Int32) (σ : LH) : Option (Int32 × LH) :=
  s_Model_rings_87 rec6 y4 y3 σ
theorem b_Model_rings_84 {G : XG} {l : Launch} {p : Program} {e : Env} {R : Room} {s : State} {m : MethodId} {args : Array Value} {below : List Frame} {meth : Method} {c : Code} (C : XC G 570 598 p s m args c prog_14_method_87_code 5 R_Model) (hr : meth.sig.returnType = (some .int)) (hk : meth.locks = false) {d : Nat} (hd : 125 ≤ d + 1) (hR : xroom R (d + 1)) {rec6 : Int32 → Int32 → Int32 → LH → Option (Int32 × LH)} {σ' : LH} {r : Int32} (hrec6 : ∀ (y1 : Int32) (y2 : Int32) (y3 : Int32) (σ : LH), rec6 y1 y2 y3 σ = some (r, σ') → XJ G 570 598 p l e R s m args below meth c 5 (XQ G 570 598 below args s (some (.int r)) σ') 0 0 6 [(0, .ref (G.2.2.1 + 570)), (1, .int y1), (2, .int y2), (3, .int y3)] [] σ) {y3 : Int32} {y4 : Int32} {σ : LH} (h0 : s_Model_rings_84 rec6 y3 y4 σ = some (r, σ')) : XJ G 570 598 p l e R s m args below meth c 5 (XQ G 570 598 below args s (some (.int r)) σ') 0 0 84 [(0, .ref (G.2.2.1 + 570)), (3, .int y3), (4, .int y4)] [] σ := by
  replace h0 := (show _ = _ from h0)
  unfold s_Model_rings_84 at h0
  refine x_iload C d_Model_rings_84 2 rfl ?_
  refine x_istore_n (lv' := [(2, .int y4), (0, .ref (G.2.2.1 + 570)), (3, .int y3), (4, .int y4)]) C d_Model_rings_86 rfl (by decide) rfl ?_
  exact x_lv C [1, 0, 2] rfl (b_Model_rings_87 C hr hk hd hR hrec6 h0)
def s_Model_rings_6_b (rec6 : Int32 → Int32 → Int32 → LH → Option (Int32 × LH)) (y1 : Int32) (y2 : Int32) (y3 : Int32) (σ : LH) : Option (Int32 × LH) :=
  if (σ.1 570 51) ≤ y3 then (
   xb1 (s_Model_copy 583 584 σ) fun σ3 =>
   if y2 = (-1) then (
    s_Model_rings_131 y1 σ3)
   else (
    if ib 48 290 then (
    xb1 (s_Model_extra y2 ((σ3.1 583 (Int32.toNatClampNeg 48)) + y1) 1 σ3) fun σ10 =>
    s_Model_rings_131 y1 σ10) else none))
  else (
   if ib y3 8 then (
   xl (((σ.1 591 (Int32.toNatClampNeg y3))) : Int32) fun x12 =>
   if ib y3 8 then (
   if y1 < (σ.1 592 (Int32.toNatClampNeg y3)) then (
    s_Model_rings_94 rec6 y1 y2 y3 σ)
   else (
    if ib y3 8 then (
    if (σ.1 592 (Int32.toNatClampNeg y3)) = 4 then (
     s_Model_rings_94 rec6 y1 y2 y3 σ)
    else (
     if ib y3 8 then (
     if (σ.1 592 (Int32.toNatClampNeg y3)) < y1 then (
      s_Model_rings_84 rec6 y3 x12 σ)
     else (
      if y2 = (-1) then (
       s_Model_rings_84 rec6 y3 x12 σ)
      else (
       if ib ((4 * x12) + 1) 32 then (
       if ib ((4 * y2) + 1) 32 then (
       if (σ.1 577 (Int32.toNatClampNeg ((4 * x12) + 1))) ≤ (σ.1 577 (Int32.toNatClampNeg ((4 * y2) + 1))) then (
        s_Model_rings_87 rec6 y2 y3 σ)
       else (
        s_Model_rings_84 rec6 y3 x12 σ)) else none) else none))) else none)) else none)) else none) else none)
def s_Model_rings_6 : Nat → Int32 → Int32 → Int32 → LH → Option (Int32 × LH)
  | 0, _, _, _, _ => none
  | n + 1, y1, y2, y3, σ => s_Model_rings_6_b (s_Model_rings_6 n) y1 y2 y3 σ
theorem bb_Model_rings_6 {G : XG} {l : Launch} {p : Program} {e : Env} {R : Room} {s : State} {m : MethodId} {args : Array Value} {below : List Frame} {meth : Method} {c : Code} (C : XC G 570 598 p s m args c prog_14_method_87_code 5 R_Model) (hr : meth.sig.returnType = (some .int)) (hk : meth.locks = false) {d : Nat} (hd : 125 ≤ d + 1) (hR : xroom R (d + 1)) {rec6 : Int32 → Int32 → Int32 → LH → Option (Int32 × LH)} {σ' : LH} {r : Int32} (hrec6 : ∀ (y1 : Int32) (y2 : Int32) (y3 : Int32) (σ : LH), rec6 y1 y2 y3 σ = some (r, σ') → XJ G 570 598 p l e R s m args below meth c 5 (XQ G 570 598 below args s (some (.int r)) σ') 0 0 6 [(0, .ref (G.2.2.1 + 570)), (1, .int y1), (2, .int y2), (3, .int y3)] [] σ) {y1 : Int32} {y2 : Int32} {y3 : Int32} {σ : LH} (h0 : s_Model_rings_6_b rec6 y1 y2 y3 σ = some (r, σ')) : XJ G 570 598 p l e R s m args below meth c 5 (XQ G 570 598 below args s (some (.int r)) σ') 0 0 6 [(0, .ref (G.2.2.1 + 570)), (1, .int y1), (2, .int y2), (3, .int y3)] [] σ := by
  replace h0 := (show _ = _ from h0)
  unfold s_Model_rings_6_b at h0
  refine x_iload_n C d_Model_rings_6 3 rfl ?_
  refine x_aload_n C d_Model_rings_7 0 rfl ?_
  refine x_getI (y := 0) C fg_Model_466 k_570 rfl d_Model_rings_8 ?_
  refine x_icmp_ge C 100 d_Model_rings_11 (by decide) (fun q1 => ?_) (fun q1 => ?_)
  · replace h0 := xit q1 h0
    refine x_aload_n C d_Model_rings_100 0 rfl ?_
    refine x_getA (y := 583) C fg_Model_61 k_570 rfl d_Model_rings_101 ?_
    refine x_aload_n C d_Model_rings_104 0 rfl ?_
    refine x_getA (y := 584) C fg_Model_64 k_570 rfl d_Model_rings_105 ?_
    obtain ⟨σ3, k2, h0⟩ := xbind1 h0
    refine x_callSv C hR (c_Model_copy (d := d) (by omega) k_583 k_584 k2) cw_Model_447 w_2011 rfl rfl (Nat.le_of_ble_eq_true rfl) ⟨Nat.zero_le _, Nat.zero_le _⟩ d_Model_rings_108 ?_
    refine x_iload_n C d_Model_rings_111 2 rfl ?_
    refine x_iconst (v := (-1)) C d_Model_rings_112 (by decide) ?_
    refine x_icmp_eq C 131 d_Model_rings_113 (by decide) (fun q4 => ?_) (fun q4 => ?_)
    · replace h0 := xit q4 h0
      exact x_lv C [0, 1] rfl (b_Model_rings_131 C hr hk hd hR h0)
    · replace h0 := xif q4 h0
      refine x_aload_n C d_Model_rings_116 0 rfl ?_
      refine x_iload_n C d_Model_rings_117 2 rfl ?_
      refine x_aload_n C d_Model_rings_118 0 rfl ?_
      refine x_getA (y := 583) C fg_Model_61 k_570 rfl d_Model_rings_119 ?_
      refine x_bipush (v := 48) C d_Model_rings_122 (by decide) ?_
      obtain ⟨g8, h0⟩ := xgo h0
      refine x_iald C k_583 (ib_in g8) d_Model_rings_124 ?_
      refine x_iload_n C d_Model_rings_125 1 rfl ?_
      refine x_iadd C d_Model_rings_126 ?_
      refine x_iconst (v := 1) C d_Model_rings_127 (by decide) ?_
      obtain ⟨σ10, k9, h0⟩ := xbind1 h0
      refine x_callVv C hR (c_Model_extra (d := d) (by omega) k9) cw_Model_453 k_570 rfl rfl rfl (Nat.le_of_ble_eq_true rfl) ⟨Nat.zero_le _, Nat.zero_le _⟩ d_Model_rings_128 ?_
      exact x_lv C [0, 1] rfl (b_Model_rings_131 C hr hk hd hR h0)
  · replace h0 := xif q1 h0
    refine x_aload_n C d_Model_rings_14 0 rfl ?_
    refine x_getA (y := 591) C fg_Model_93 k_570 rfl d_Model_rings_15 ?_
    refine x_iload_n C d_Model_rings_18 3 rfl ?_
    obtain ⟨g11, h0⟩ := xgo h0
    refine x_iald C k_591 (ib_in g11) d_Model_rings_19 ?_
    obtain ⟨x12, ex12, h0⟩ := xlet h0
    refine x_name C ex12 ?_
    refine x_istore (lv' := [(4, .int x12), (0, .ref (G.2.2.1 + 570)), (1, .int y1), (2, .int y2), (3, .int y3)]) C d_Model_rings_20 (by decide) rfl ?_
    refine x_aload_n C d_Model_rings_22 1 rfl ?_
    refine x_getA (y := 592) C fg_Model_96 k_570 rfl d_Model_rings_23 ?_
    refine x_iload_n C d_Model_rings_26 4 rfl ?_
    obtain ⟨g13, h0⟩ := xgo h0
    refine x_iald C k_592 (ib_in g13) d_Model_rings_27 ?_
    refine x_iload_n C d_Model_rings_28 2 rfl ?_
    refine x_icmp_gt C 94 d_Model_rings_29 (by decide) (fun q14 => ?_) (fun q14 => ?_)
    · replace h0 := xit q14 h0
      exact x_lv C [1, 2, 3, 4] rfl (b_Model_rings_94 C hr hk hd hR hrec6 h0)
    · replace h0 := xif q14 h0
      refine x_aload_n C d_Model_rings_32 1 rfl ?_
      refine x_getA (y := 592) C fg_Model_96 k_570 rfl d_Model_rings_33 ?_
      refine x_iload_n C d_Model_rings_36 4 rfl ?_
      obtain ⟨g16, h0⟩ := xgo h0
      refine x_iald C k_592 (ib_in g16) d_Model_rings_37 ?_
      refine x_iconst (v := 4) C d_Model_rings_38 (by decide) ?_
      refine x_icmp_ne C 45 d_Model_rings_39 (by decide) (fun q17 => ?_) (fun q17 => ?_)
      · replace h0 := xif q17 h0
        refine x_aload_n C d_Model_rings_45 1 rfl ?_
        refine x_getA (y := 592) C fg_Model_96 k_570 rfl d_Model_rings_46 ?_
        refine x_iload_n C d_Model_rings_49 4 rfl ?_
        obtain ⟨g18, h0⟩ := xgo h0
        refine x_iald C k_592 (ib_in g18) d_Model_rings_50 ?_
        refine x_iload_n C d_Model_rings_51 2 rfl ?_
        refine x_icmp_lt C 84 d_Model_rings_52 (by decide) (fun q19 => ?_) (fun q19 => ?_)
        · replace h0 := xit q19 h0
          exact x_lv C [1, 4, 0] rfl (b_Model_rings_84 C hr hk hd hR hrec6 h0)
        · replace h0 := xif q19 h0
          refine x_iload_n C d_Model_rings_55 3 rfl ?_
          refine x_iconst (v := (-1)) C d_Model_rings_56 (by decide) ?_
          refine x_icmp_eq C 84 d_Model_rings_57 (by decide) (fun q22 => ?_) (fun q22 => ?_)
          · replace h0 := xit q22 h0
            exact x_lv C [1, 4, 0] rfl (b_Model_rings_84 C hr hk hd hR hrec6 h0)
          · replace h0 := xif q22 h0
            refine x_aload_n C d_Model_rings_60 1 rfl ?_
            refine x_getA (y := 577) C fg_Model_43 k_570 rfl d_Model_rings_61 ?_
            refine x_iconst (v := 4) C d_Model_rings_64 (by decide) ?_
            refine x_iload C d_Model_rings_65 0 rfl ?_
            refine x_imul C d_Model_rings_67 ?_
            refine x_iconst (v := 1) C d_Model_rings_68 (by decide) ?_
            refine x_iadd C d_Model_rings_69 ?_
            obtain ⟨g23, h0⟩ := xgo h0
            refine x_iald C k_577 (ib_in g23) d_Model_rings_70 ?_
            refine x_aload_n C d_Model_rings_71 1 rfl ?_
            refine x_getA (y := 577) C fg_Model_43 k_570 rfl d_Model_rings_72 ?_
            refine x_iconst (v := 4) C d_Model_rings_75 (by decide) ?_
            refine x_iload_n C d_Model_rings_76 3 rfl ?_
            refine x_imul C d_Model_rings_77 ?_
            refine x_iconst (v := 1) C d_Model_rings_78 (by decide) ?_
            refine x_iadd C d_Model_rings_79 ?_
            obtain ⟨g24, h0⟩ := xgo h0
            refine x_iald C k_577 (ib_in g24) d_Model_rings_80 ?_
            refine x_icmp_le C 87 d_Model_rings_81 (by decide) (fun q25 => ?_) (fun q25 => ?_)
            · replace h0 := xit q25 h0
              exact x_lv C [1, 3, 4] rfl (b_Model_rings_87 C hr hk hd hR hrec6 h0)
            · replace h0 := xif q25 h0
              exact x_lv C [1, 4, 0] rfl (b_Model_rings_84 C hr hk hd hR hrec6 h0)
      · replace h0 := xit q17 h0
        refine x_goto C 94 d_Model_rings_42 (by decide) ?_
        exact x_lv C [1, 2, 3, 4] rfl (b_Model_rings_94 C hr hk hd hR hrec6 h0)
theorem b_Model_rings_6 {G : XG} {l : Launch} {p : Program} {e : Env} {R : Room} {s : State} {m : MethodId} {args : Array Value} {below : List Frame} {meth : Method} {c : Code} (C : XC G 570 598 p s m args c prog_14_method_87_code 5 R_Model) (hr : meth.sig.returnType = (some .int)) (hk : meth.locks = false) {d : Nat} (hd : 125 ≤ d + 1) (hR : xroom R (d + 1)) {σ' : LH} {r : Int32} : ∀ (n : Nat) (y1 : Int32) (y2 : Int32) (y3 : Int32) (σ : LH), s_Model_rings_6 n y1 y2 y3 σ = some (r, σ') → XJ G 570 598 p l e R s m args below meth c 5 (XQ G 570 598 below args s (some (.int r)) σ') 0 0 6 [(0, .ref (G.2.2.1 + 570)), (1, .int y1), (2, .int y2), (3, .int y3)] [] σ := by
  intro n
  induction n with
  | zero => intro y1 y2 y3 σ h0; cases h0
  | succ n ih => intro y1 y2 y3 σ h0; exact bb_Model_rings_6 C hr hk hd hR ih h0
def s_Model_rings (σ : LH) : Option (Int32 × LH) :=
  s_Model_rings_6 FUEL 4 (-1) 0 σ
theorem c_Model_rings {G : XG} {l : Launch} {d : Nat} (hd : 125 ≤ d) {σ σ' : LH} {r : Int32} (h0 : s_Model_rings σ = some (r, σ')) : xM G 570 598 l y_Model_rings prog_14_method_87_code 5 (some .int) d [.ref (G.2.2.1 + 570)] σ (some (.int r)) σ' := by
  obtain ⟨d, rfl⟩ : ∃ q, d = q + 1 := ⟨d - 1, by omega⟩
  refine x_met R_Model rfl (by decide +kernel) (Nat.le_of_ble_eq_true rfl) fun p e s m below meth c C hr hk hR => ?_
  refine x_lv (lv' := [(0, .ref (G.2.2.1 + 570))]) C [0] rfl ?_
  generalize xrm (d + 1) = R at hR ⊢
  unfold s_Model_rings at h0
  refine x_iconst (v := 4) C d_Model_rings_0 (by decide) ?_
  refine x_istore_n (lv' := [(1, .int 4), (0, .ref (G.2.2.1 + 570))]) C d_Model_rings_1 rfl (by decide) rfl ?_
  refine x_iconst (v := (-1)) C d_Model_rings_2 (by decide) ?_
  refine x_istore_n (lv' := [(2, .int (-1)), (1, .int 4), (0, .ref (G.2.2.1 + 570))]) C d_Model_rings_3 rfl (by decide) rfl ?_
  refine x_iconst (v := 0) C d_Model_rings_4 (by decide) ?_
  refine x_istore_n (lv' := [(3, .int 0), (2, .int (-1)), (1, .int 4), (0, .ref (G.2.2.1 + 570))]) C d_Model_rings_5 rfl (by decide) rfl ?_
  exact x_lv C [3, 2, 1, 0] rfl (b_Model_rings_6 C hr hk hd hR FUEL _ _ _ _ h0)
-- LostPlacesModel.hereOf(I)I
theorem d_Model_hereOf_0 : decode prog_14_method_88_code 0 = .ok (.iconst 0, 1) := by decide +kernel
theorem d_Model_hereOf_1 : decode prog_14_method_88_code 1 = .ok (.istore_n 2, 1) := by decide +kernel
theorem d_Model_hereOf_2 : decode prog_14_method_88_code 2 = .ok (.iload_n 2, 1) := by decide +kernel
theorem d_Model_hereOf_3 : decode prog_14_method_88_code 3 = .ok (.aload_n 0, 1) := by decide +kernel
theorem d_Model_hereOf_4 : decode prog_14_method_88_code 4 = .ok (.getfield 466, 3) := by decide +kernel
theorem d_Model_hereOf_7 : decode prog_14_method_88_code 7 = .ok (.if_icmp .ge 21, 3) := by decide +kernel
theorem d_Model_hereOf_10 : decode prog_14_method_88_code 10 = .ok (.aload_n 0, 1) := by decide +kernel
theorem d_Model_hereOf_11 : decode prog_14_method_88_code 11 = .ok (.getfield 93, 3) := by decide +kernel
theorem d_Model_hereOf_14 : decode prog_14_method_88_code 14 = .ok (.iload_n 2, 1) := by decide +kernel
theorem d_Model_hereOf_15 : decode prog_14_method_88_code 15 = .ok (.iaload, 1) := by decide +kernel
theorem d_Model_hereOf_16 : decode prog_14_method_88_code 16 = .ok (.iload_n 1, 1) := by decide +kernel
theorem d_Model_hereOf_17 : decode prog_14_method_88_code 17 = .ok (.if_icmp .ne 5, 3) := by decide +kernel
theorem d_Model_hereOf_20 : decode prog_14_method_88_code 20 = .ok (.iload_n 2, 1) := by decide +kernel
theorem d_Model_hereOf_21 : decode prog_14_method_88_code 21 = .ok (.ireturn, 1) := by decide +kernel
theorem d_Model_hereOf_22 : decode prog_14_method_88_code 22 = .ok (.iinc 2 1, 3) := by decide +kernel
theorem d_Model_hereOf_25 : decode prog_14_method_88_code 25 = .ok (.goto (-23), 3) := by decide +kernel
theorem d_Model_hereOf_28 : decode prog_14_method_88_code 28 = .ok (.iconst (-1), 1) := by decide +kernel
theorem d_Model_hereOf_29 : decode prog_14_method_88_code 29 = .ok (.ireturn, 1) := by decide +kernel
def s_Model_hereOf_2_b (p0 : Int32) (rec2 : Int32 → LH → Option (Int32 × LH)) (y2 : Int32) (σ : LH) : Option (Int32 × LH) :=
  if (σ.1 570 51) ≤ y2 then (
   some ((-1), σ))
  else (
   if ib y2 8 then (
   if (σ.1 591 (Int32.toNatClampNeg y2)) = p0 then (
    some (y2, σ))
   else (
    xl ((y2 + 1) : Int32) fun x4 =>
    rec2 x4 σ)) else none)
def s_Model_hereOf_2 (p0 : Int32) : Nat → Int32 → LH → Option (Int32 × LH)
  | 0, _, _ => none
  | n + 1, y2, σ => s_Model_hereOf_2_b p0 (s_Model_hereOf_2 p0 n) y2 σ
theorem bb_Model_hereOf_2 {G : XG} {l : Launch} {p : Program} {e : Env} {R : Room} {s : State} {m : MethodId} {args : Array Value} {below : List Frame} {meth : Method} {c : Code} (C : XC G 570 598 p s m args c prog_14_method_88_code 3 R_Model) (hr : meth.sig.returnType = (some .int)) (hk : meth.locks = false) {d : Nat} (hd : 1 ≤ d + 1) (hR : xroom R (d + 1)) {p0 : Int32} {rec2 : Int32 → LH → Option (Int32 × LH)} {σ' : LH} {r : Int32} (hrec2 : ∀ (y2 : Int32) (σ : LH), rec2 y2 σ = some (r, σ') → XJ G 570 598 p l e R s m args below meth c 3 (XQ G 570 598 below args s (some (.int r)) σ') 0 0 2 [(0, .ref (G.2.2.1 + 570)), (1, .int p0), (2, .int y2)] [] σ) {y2 : Int32} {σ : LH} (h0 : s_Model_hereOf_2_b p0 rec2 y2 σ = some (r, σ')) : XJ G 570 598 p l e R s m args below meth c 3 (XQ G 570 598 below args s (some (.int r)) σ') 0 0 2 [(0, .ref (G.2.2.1 + 570)), (1, .int p0), (2, .int y2)] [] σ := by
  replace h0 := (show _ = _ from h0)
  unfold s_Model_hereOf_2_b at h0
  refine x_iload_n C d_Model_hereOf_2 2 rfl ?_
  refine x_aload_n C d_Model_hereOf_3 0 rfl ?_
  refine x_getI (y := 0) C fg_Model_466 k_570 rfl d_Model_hereOf_4 ?_
  refine x_icmp_ge C 28 d_Model_hereOf_7 (by decide) (fun q1 => ?_) (fun q1 => ?_)
  · replace h0 := xit q1 h0
    refine x_iconst (v := (-1)) C d_Model_hereOf_28 (by decide) ?_
    exact x_iret C hr hk h0 d_Model_hereOf_29
  · replace h0 := xif q1 h0
    refine x_aload_n C d_Model_hereOf_10 0 rfl ?_
    refine x_getA (y := 591) C fg_Model_93 k_570 rfl d_Model_hereOf_11 ?_
    refine x_iload_n C d_Model_hereOf_14 2 rfl ?_
    obtain ⟨g2, h0⟩ := xgo h0
    refine x_iald C k_591 (ib_in g2) d_Model_hereOf_15 ?_
    refine x_iload_n C d_Model_hereOf_16 1 rfl ?_
    refine x_icmp_ne C 22 d_Model_hereOf_17 (by decide) (fun q3 => ?_) (fun q3 => ?_)
    · replace h0 := xif q3 h0
      obtain ⟨x4, ex4, h0⟩ := xlet h0
      refine x_iinc (lv' := [(2, .int x4), (0, .ref (G.2.2.1 + 570)), (1, .int p0)]) C d_Model_hereOf_22 2 rfl ex4 (by decide) rfl ?_
      refine x_goto C 2 d_Model_hereOf_25 (by decide) ?_
      exact x_lv C [1, 2, 0] rfl (hrec2 _ _ h0)
    · replace h0 := xit q3 h0
      refine x_iload_n C d_Model_hereOf_20 2 rfl ?_
      exact x_iret C hr hk h0 d_Model_hereOf_21
theorem b_Model_hereOf_2 {G : XG} {l : Launch} {p : Program} {e : Env} {R : Room} {s : State} {m : MethodId} {args : Array Value} {below : List Frame} {meth : Method} {c : Code} (C : XC G 570 598 p s m args c prog_14_method_88_code 3 R_Model) (hr : meth.sig.returnType = (some .int)) (hk : meth.locks = false) {d : Nat} (hd : 1 ≤ d + 1) (hR : xroom R (d + 1)) {p0 : Int32} {σ' : LH} {r : Int32} : ∀ (n : Nat) (y2 : Int32) (σ : LH), s_Model_hereOf_2 p0 n y2 σ = some (r, σ') → XJ G 570 598 p l e R s m args below meth c 3 (XQ G 570 598 below args s (some (.int r)) σ') 0 0 2 [(0, .ref (G.2.2.1 + 570)), (1, .int p0), (2, .int y2)] [] σ := by
  intro n
  induction n with
  | zero => intro y2 σ h0; cases h0
  | succ n ih => intro y2 σ h0; exact bb_Model_hereOf_2 C hr hk hd hR ih h0
def s_Model_hereOf (p0 : Int32) (σ : LH) : Option (Int32 × LH) :=
  s_Model_hereOf_2 p0 FUEL 0 σ
theorem c_Model_hereOf {G : XG} {l : Launch} {d : Nat} (hd : 1 ≤ d) {p0 : Int32} {σ σ' : LH} {r : Int32} (h0 : s_Model_hereOf p0 σ = some (r, σ')) : xM G 570 598 l y_Model_hereOf prog_14_method_88_code 3 (some .int) d [.ref (G.2.2.1 + 570), .int p0] σ (some (.int r)) σ' := by
  obtain ⟨d, rfl⟩ : ∃ q, d = q + 1 := ⟨d - 1, by omega⟩
  refine x_met R_Model rfl (by decide +kernel) (Nat.le_of_ble_eq_true rfl) fun p e s m below meth c C hr hk hR => ?_
  refine x_lv (lv' := [(0, .ref (G.2.2.1 + 570)), (1, .int p0)]) C [0, 1] rfl ?_
  generalize xrm (d + 1) = R at hR ⊢
  unfold s_Model_hereOf at h0
  refine x_iconst (v := 0) C d_Model_hereOf_0 (by decide) ?_
  refine x_istore_n (lv' := [(2, .int 0), (0, .ref (G.2.2.1 + 570)), (1, .int p0)]) C d_Model_hereOf_1 rfl (by decide) rfl ?_
  exact x_lv C [1, 2, 0] rfl (b_Model_hereOf_2 C hr hk hd hR FUEL _ _ h0)
-- LostPlacesModel.call(III)I
theorem d_Model_call_0 : decode prog_14_method_89_code 0 = .ok (.aload_n 0, 1) := by decide +kernel
theorem d_Model_call_1 : decode prog_14_method_89_code 1 = .ok (.iconst 0, 1) := by decide +kernel
theorem d_Model_call_2 : decode prog_14_method_89_code 2 = .ok (.putfield 114, 3) := by decide +kernel
theorem d_Model_call_5 : decode prog_14_method_89_code 5 = .ok (.aload_n 0, 1) := by decide +kernel
theorem d_Model_call_6 : decode prog_14_method_89_code 6 = .ok (.invokevirtual 469, 3) := by decide +kernel
theorem d_Model_call_9 : decode prog_14_method_89_code 9 = .ok (.ifCond .eq 28, 3) := by decide +kernel
theorem d_Model_call_12 : decode prog_14_method_89_code 12 = .ok (.aload_n 0, 1) := by decide +kernel
theorem d_Model_call_13 : decode prog_14_method_89_code 13 = .ok (.iload_n 3, 1) := by decide +kernel
theorem d_Model_call_14 : decode prog_14_method_89_code 14 = .ok (.invokevirtual 472, 3) := by decide +kernel
theorem d_Model_call_17 : decode prog_14_method_89_code 17 = .ok (.iconst (-1), 1) := by decide +kernel
theorem d_Model_call_18 : decode prog_14_method_89_code 18 = .ok (.if_icmp .eq 19, 3) := by decide +kernel
theorem d_Model_call_21 : decode prog_14_method_89_code 21 = .ok (.iload_n 2, 1) := by decide +kernel
theorem d_Model_call_22 : decode prog_14_method_89_code 22 = .ok (.i2l, 1) := by decide +kernel
theorem d_Model_call_23 : decode prog_14_method_89_code 23 = .ok (.lconst 0, 1) := by decide +kernel
theorem d_Model_call_24 : decode prog_14_method_89_code 24 = .ok (.ldc2_w 417, 3) := by decide +kernel
theorem d_Model_call_27 : decode prog_14_method_89_code 27 = .ok (.invokestatic 235, 3) := by decide +kernel
theorem d_Model_call_30 : decode prog_14_method_89_code 30 = .ok (.ifCond .eq 7, 3) := by decide +kernel
theorem d_Model_call_33 : decode prog_14_method_89_code 33 = .ok (.iload_n 1, 1) := by decide +kernel
theorem d_Model_call_34 : decode prog_14_method_89_code 34 = .ok (.ifCond .ge 7, 3) := by decide +kernel
theorem d_Model_call_37 : decode prog_14_method_89_code 37 = .ok (.ldc_w 422, 3) := by decide +kernel
theorem d_Model_call_40 : decode prog_14_method_89_code 40 = .ok (.ireturn, 1) := by decide +kernel
theorem d_Model_call_41 : decode prog_14_method_89_code 41 = .ok (.iload_n 1, 1) := by decide +kernel
theorem d_Model_call_42 : decode prog_14_method_89_code 42 = .ok (.istore 4, 2) := by decide +kernel
theorem d_Model_call_44 : decode prog_14_method_89_code 44 = .ok (.aload_n 0, 1) := by decide +kernel
theorem d_Model_call_45 : decode prog_14_method_89_code 45 = .ok (.getfield 466, 3) := by decide +kernel
theorem d_Model_call_48 : decode prog_14_method_89_code 48 = .ok (.iconst 1, 1) := by decide +kernel
theorem d_Model_call_49 : decode prog_14_method_89_code 49 = .ok (.isub, 1) := by decide +kernel
theorem d_Model_call_50 : decode prog_14_method_89_code 50 = .ok (.istore 5, 2) := by decide +kernel
theorem d_Model_call_52 : decode prog_14_method_89_code 52 = .ok (.iload 5, 2) := by decide +kernel
theorem d_Model_call_54 : decode prog_14_method_89_code 54 = .ok (.ifCond .lt 43, 3) := by decide +kernel
theorem d_Model_call_57 : decode prog_14_method_89_code 57 = .ok (.aload_n 0, 1) := by decide +kernel
theorem d_Model_call_58 : decode prog_14_method_89_code 58 = .ok (.getfield 96, 3) := by decide +kernel
theorem d_Model_call_61 : decode prog_14_method_89_code 61 = .ok (.iload 5, 2) := by decide +kernel
theorem d_Model_call_63 : decode prog_14_method_89_code 63 = .ok (.iload 4, 2) := by decide +kernel
theorem d_Model_call_65 : decode prog_14_method_89_code 65 = .ok (.bipush 10, 2) := by decide +kernel
theorem d_Model_call_67 : decode prog_14_method_89_code 67 = .ok (.irem, 1) := by decide +kernel
theorem d_Model_call_68 : decode prog_14_method_89_code 68 = .ok (.iastore, 1) := by decide +kernel
theorem d_Model_call_69 : decode prog_14_method_89_code 69 = .ok (.iload 4, 2) := by decide +kernel
theorem d_Model_call_71 : decode prog_14_method_89_code 71 = .ok (.bipush 10, 2) := by decide +kernel
theorem d_Model_call_73 : decode prog_14_method_89_code 73 = .ok (.idiv, 1) := by decide +kernel
theorem d_Model_call_74 : decode prog_14_method_89_code 74 = .ok (.istore 4, 2) := by decide +kernel
theorem d_Model_call_76 : decode prog_14_method_89_code 76 = .ok (.aload_n 0, 1) := by decide +kernel
theorem d_Model_call_77 : decode prog_14_method_89_code 77 = .ok (.getfield 96, 3) := by decide +kernel
theorem d_Model_call_80 : decode prog_14_method_89_code 80 = .ok (.iload 5, 2) := by decide +kernel
theorem d_Model_call_82 : decode prog_14_method_89_code 82 = .ok (.iaload, 1) := by decide +kernel
theorem d_Model_call_83 : decode prog_14_method_89_code 83 = .ok (.iconst 4, 1) := by decide +kernel
theorem d_Model_call_84 : decode prog_14_method_89_code 84 = .ok (.if_icmp .le 7, 3) := by decide +kernel
theorem d_Model_call_87 : decode prog_14_method_89_code 87 = .ok (.ldc_w 422, 3) := by decide +kernel
theorem d_Model_call_90 : decode prog_14_method_89_code 90 = .ok (.ireturn, 1) := by decide +kernel
theorem d_Model_call_91 : decode prog_14_method_89_code 91 = .ok (.iinc 5 (-1), 3) := by decide +kernel
theorem d_Model_call_94 : decode prog_14_method_89_code 94 = .ok (.goto (-42), 3) := by decide +kernel
theorem d_Model_call_97 : decode prog_14_method_89_code 97 = .ok (.iload 4, 2) := by decide +kernel
theorem d_Model_call_99 : decode prog_14_method_89_code 99 = .ok (.ifCond .le 7, 3) := by decide +kernel
theorem d_Model_call_102 : decode prog_14_method_89_code 102 = .ok (.ldc_w 422, 3) := by decide +kernel
theorem d_Model_call_105 : decode prog_14_method_89_code 105 = .ok (.ireturn, 1) := by decide +kernel
theorem d_Model_call_106 : decode prog_14_method_89_code 106 = .ok (.aload_n 0, 1) := by decide +kernel
theorem d_Model_call_107 : decode prog_14_method_89_code 107 = .ok (.invokevirtual 475, 3) := by decide +kernel
theorem d_Model_call_110 : decode prog_14_method_89_code 110 = .ok (.istore 5, 2) := by decide +kernel
theorem d_Model_call_112 : decode prog_14_method_89_code 112 = .ok (.aload_n 0, 1) := by decide +kernel
theorem d_Model_call_113 : decode prog_14_method_89_code 113 = .ok (.getfield 64, 3) := by decide +kernel
theorem d_Model_call_116 : decode prog_14_method_89_code 116 = .ok (.iconst 4, 1) := by decide +kernel
theorem d_Model_call_117 : decode prog_14_method_89_code 117 = .ok (.iload_n 3, 1) := by decide +kernel
theorem d_Model_call_118 : decode prog_14_method_89_code 118 = .ok (.imul, 1) := by decide +kernel
theorem d_Model_call_119 : decode prog_14_method_89_code 119 = .ok (.iconst 3, 1) := by decide +kernel
theorem d_Model_call_120 : decode prog_14_method_89_code 120 = .ok (.iadd, 1) := by decide +kernel
theorem d_Model_call_121 : decode prog_14_method_89_code 121 = .ok (.iaload, 1) := by decide +kernel
theorem d_Model_call_122 : decode prog_14_method_89_code 122 = .ok (.iload_n 2, 1) := by decide +kernel
theorem d_Model_call_123 : decode prog_14_method_89_code 123 = .ok (.iload 5, 2) := by decide +kernel
theorem d_Model_call_125 : decode prog_14_method_89_code 125 = .ok (.imul, 1) := by decide +kernel
theorem d_Model_call_126 : decode prog_14_method_89_code 126 = .ok (.isub, 1) := by decide +kernel
theorem d_Model_call_127 : decode prog_14_method_89_code 127 = .ok (.ireturn, 1) := by decide +kernel
def s_Model_call_37 (p0 : Int32) (p1 : Int32) (p2 : Int32) (σ : LH) : Option (Int32 × LH) :=
  some ((-1000000), σ)
theorem b_Model_call_37 {G : XG} {l : Launch} {p : Program} {e : Env} {R : Room} {s : State} {m : MethodId} {args : Array Value} {below : List Frame} {meth : Method} {c : Code} (C : XC G 570 598 p s m args c prog_14_method_89_code 6 R_Model) (hr : meth.sig.returnType = (some .int)) (hk : meth.locks = false) {d : Nat} (hd : 126 ≤ d + 1) (hR : xroom R (d + 1)) {p0 : Int32} {p1 : Int32} {p2 : Int32} {σ' : LH} {r : Int32} {σ : LH} (h0 : s_Model_call_37 p0 p1 p2 σ = some (r, σ')) : XJ G 570 598 p l e R s m args below meth c 6 (XQ G 570 598 below args s (some (.int r)) σ') 0 0 37 [] [] σ := by
  replace h0 := (show _ = _ from h0)
  unfold s_Model_call_37 at h0
  refine x_ldcw (v := (-1000000)) C w_1899 d_Model_call_37 ?_
  exact x_iret C hr hk h0 d_Model_call_40
def s_Model_call_52_b (p0 : Int32) (p1 : Int32) (p2 : Int32) (rec52 : Int32 → Int32 → LH → Option (Int32 × LH)) (y4 : Int32) (y5 : Int32) (σ : LH) : Option (Int32 × LH) :=
  if y5 < 0 then (
   if y4 ≤ 0 then (
    xb2 (s_Model_rings σ) fun r19 σ20 =>
    if ib ((4 * p2) + 3) 290 then (
    some (((σ20.1 584 (Int32.toNatClampNeg ((4 * p2) + 3))) - (p1 * r19)), σ20)) else none)
   else (
    some ((-1000000), σ)))
  else (
   if ib y5 8 then (
   xl ((stI σ 592 (Int32.toNatClampNeg y5) (y4 - y4 / 10 * 10)) : LH) fun σ23 =>
   xl (((y4 / 10)) : Int32) fun x24 =>
   if ib y5 8 then (
   if (σ23.1 592 (Int32.toNatClampNeg y5)) ≤ 4 then (
    xl ((y5 + (-1)) : Int32) fun x27 =>
    rec52 x24 x27 σ23)
   else (
    some ((-1000000), σ23))) else none) else none)
def s_Model_call_52 (p0 : Int32) (p1 : Int32) (p2 : Int32) : Nat → Int32 → Int32 → LH → Option (Int32 × LH)
  | 0, _, _, _ => none
  | n + 1, y4, y5, σ => s_Model_call_52_b p0 p1 p2 (s_Model_call_52 p0 p1 p2 n) y4 y5 σ
theorem bb_Model_call_52 {G : XG} {l : Launch} {p : Program} {e : Env} {R : Room} {s : State} {m : MethodId} {args : Array Value} {below : List Frame} {meth : Method} {c : Code} (C : XC G 570 598 p s m args c prog_14_method_89_code 6 R_Model) (hr : meth.sig.returnType = (some .int)) (hk : meth.locks = false) {d : Nat} (hd : 126 ≤ d + 1) (hR : xroom R (d + 1)) {p0 : Int32} {p1 : Int32} {p2 : Int32} {rec52 : Int32 → Int32 → LH → Option (Int32 × LH)} {σ' : LH} {r : Int32} (hrec52 : ∀ (y4 : Int32) (y5 : Int32) (σ : LH), rec52 y4 y5 σ = some (r, σ') → XJ G 570 598 p l e R s m args below meth c 6 (XQ G 570 598 below args s (some (.int r)) σ') 0 0 52 [(0, .ref (G.2.2.1 + 570)), (2, .int p1), (3, .int p2), (4, .int y4), (5, .int y5)] [] σ) {y4 : Int32} {y5 : Int32} {σ : LH} (h0 : s_Model_call_52_b p0 p1 p2 rec52 y4 y5 σ = some (r, σ')) : XJ G 570 598 p l e R s m args below meth c 6 (XQ G 570 598 below args s (some (.int r)) σ') 0 0 52 [(0, .ref (G.2.2.1 + 570)), (2, .int p1), (3, .int p2), (4, .int y4), (5, .int y5)] [] σ := by
  replace h0 := (show _ = _ from h0)
  unfold s_Model_call_52_b at h0
  refine x_iload C d_Model_call_52 4 rfl ?_
  refine x_if_lt C 97 d_Model_call_54 (by decide) (fun q16 => ?_) (fun q16 => ?_)
  · replace h0 := xit q16 h0
    refine x_iload C d_Model_call_97 3 rfl ?_
    refine x_if_le C 106 d_Model_call_99 (by decide) (fun q17 => ?_) (fun q17 => ?_)
    · replace h0 := xit q17 h0
      refine x_aload_n C d_Model_call_106 0 rfl ?_
      obtain ⟨r19, σ20, k18, h0⟩ := xbind2 h0
      refine x_callVi C hR (c_Model_rings (d := d) (by omega) k18) cw_Model_475 k_570 rfl rfl rfl (Nat.le_of_ble_eq_true rfl) ⟨Nat.zero_le _, Nat.zero_le _⟩ d_Model_call_107 ?_
      refine x_istore (lv' := [(5, .int r19), (0, .ref (G.2.2.1 + 570)), (2, .int p1), (3, .int p2), (4, .int y4)]) C d_Model_call_110 (by decide) rfl ?_
      refine x_aload_n C d_Model_call_112 1 rfl ?_
      refine x_getA (y := 584) C fg_Model_64 k_570 rfl d_Model_call_113 ?_
      refine x_iconst (v := 4) C d_Model_call_116 (by decide) ?_
      refine x_iload_n C d_Model_call_117 3 rfl ?_
      refine x_imul C d_Model_call_118 ?_
      refine x_iconst (v := 3) C d_Model_call_119 (by decide) ?_
      refine x_iadd C d_Model_call_120 ?_
      obtain ⟨g21, h0⟩ := xgo h0
      refine x_iald C k_584 (ib_in g21) d_Model_call_121 ?_
      refine x_iload_n C d_Model_call_122 2 rfl ?_
      refine x_iload C d_Model_call_123 0 rfl ?_
      refine x_imul C d_Model_call_125 ?_
      refine x_isub C d_Model_call_126 ?_
      exact x_iret C hr hk h0 d_Model_call_127
    · replace h0 := xif q17 h0
      refine x_ldcw (v := (-1000000)) C w_1899 d_Model_call_102 ?_
      exact x_iret C hr hk h0 d_Model_call_105
  · replace h0 := xif q16 h0
    refine x_aload_n C d_Model_call_57 0 rfl ?_
    refine x_getA (y := 592) C fg_Model_96 k_570 rfl d_Model_call_58 ?_
    refine x_iload C d_Model_call_61 4 rfl ?_
    refine x_iload C d_Model_call_63 3 rfl ?_
    refine x_bipush (v := 10) C d_Model_call_65 (by decide) ?_
    refine x_irem C d_Model_call_67 (by decide) ?_
    obtain ⟨g22, h0⟩ := xgo h0
    refine x_iast C k_592 (ib_in g22) d_Model_call_68 ?_
    obtain ⟨σ23, eσ23, h0⟩ := xlet h0
    refine x_sig C eσ23 ?_
    refine x_iload C d_Model_call_69 3 rfl ?_
    refine x_bipush (v := 10) C d_Model_call_71 (by decide) ?_
    refine x_idiv C d_Model_call_73 (by decide) ?_
    obtain ⟨x24, ex24, h0⟩ := xlet h0
    refine x_name C ex24 ?_
    refine x_istore (lv' := [(4, .int x24), (0, .ref (G.2.2.1 + 570)), (2, .int p1), (3, .int p2), (5, .int y5)]) C d_Model_call_74 (by decide) rfl ?_
    refine x_aload_n C d_Model_call_76 1 rfl ?_
    refine x_getA (y := 592) C fg_Model_96 k_570 rfl d_Model_call_77 ?_
    refine x_iload C d_Model_call_80 4 rfl ?_
    obtain ⟨g25, h0⟩ := xgo h0
    refine x_iald C k_592 (ib_in g25) d_Model_call_82 ?_
    refine x_iconst (v := 4) C d_Model_call_83 (by decide) ?_
    refine x_icmp_le C 91 d_Model_call_84 (by decide) (fun q26 => ?_) (fun q26 => ?_)
    · replace h0 := xit q26 h0
      obtain ⟨x27, ex27, h0⟩ := xlet h0
      refine x_iinc (lv' := [(5, .int x27), (4, .int x24), (0, .ref (G.2.2.1 + 570)), (2, .int p1), (3, .int p2)]) C d_Model_call_91 4 rfl ex27 (by decide) rfl ?_
      refine x_goto C 52 d_Model_call_94 (by decide) ?_
      exact x_lv C [2, 3, 4, 1, 0] rfl (hrec52 _ _ _ h0)
    · replace h0 := xif q26 h0
      refine x_ldcw (v := (-1000000)) C w_1899 d_Model_call_87 ?_
      exact x_iret C hr hk h0 d_Model_call_90
theorem b_Model_call_52 {G : XG} {l : Launch} {p : Program} {e : Env} {R : Room} {s : State} {m : MethodId} {args : Array Value} {below : List Frame} {meth : Method} {c : Code} (C : XC G 570 598 p s m args c prog_14_method_89_code 6 R_Model) (hr : meth.sig.returnType = (some .int)) (hk : meth.locks = false) {d : Nat} (hd : 126 ≤ d + 1) (hR : xroom R (d + 1)) {p0 : Int32} {p1 : Int32} {p2 : Int32} {σ' : LH} {r : Int32} : ∀ (n : Nat) (y4 : Int32) (y5 : Int32) (σ : LH), s_Model_call_52 p0 p1 p2 n y4 y5 σ = some (r, σ') → XJ G 570 598 p l e R s m args below meth c 6 (XQ G 570 598 below args s (some (.int r)) σ') 0 0 52 [(0, .ref (G.2.2.1 + 570)), (2, .int p1), (3, .int p2), (4, .int y4), (5, .int y5)] [] σ := by
  intro n
  induction n with
  | zero => intro y4 y5 σ h0; cases h0
  | succ n ih => intro y4 y5 σ h0; exact bb_Model_call_52 C hr hk hd hR ih h0
def s_Model_call (p0 : Int32) (p1 : Int32) (p2 : Int32) (σ : LH) : Option (Int32 × LH) :=
  xl ((stI σ 570 0 0) : LH) fun σ1 =>
  xb2 (s_Model_layHere σ1) fun r3 σ4 =>
  if r3 = 0 then (
   s_Model_call_37 p0 p1 p2 σ4)
  else (
   xb2 (s_Model_hereOf p2 σ4) fun r7 σ8 =>
   if r7 = (-1) then (
    s_Model_call_37 p0 p1 p2 σ8)
   else (
    xb2 (s_Model_isIn (Int32.toInt64 p1) 0 99 σ8) fun r11 σ12 =>
    if r11 = 0 then (
     s_Model_call_37 p0 p1 p2 σ12)
    else (
     if 0 ≤ p0 then (
      xl ((((σ12.1 570 51) - 1)) : Int32) fun x15 =>
      s_Model_call_52 p0 p1 p2 FUEL p0 x15 σ12)
     else (
      s_Model_call_37 p0 p1 p2 σ12))))
theorem c_Model_call {G : XG} {l : Launch} {d : Nat} (hd : 126 ≤ d) {p0 : Int32} {p1 : Int32} {p2 : Int32} {σ σ' : LH} {r : Int32} (h0 : s_Model_call p0 p1 p2 σ = some (r, σ')) : xM G 570 598 l y_Model_call prog_14_method_89_code 6 (some .int) d [.ref (G.2.2.1 + 570), .int p0, .int p1, .int p2] σ (some (.int r)) σ' := by
  obtain ⟨d, rfl⟩ : ∃ q, d = q + 1 := ⟨d - 1, by omega⟩
  refine x_met R_Model rfl (by decide +kernel) (Nat.le_of_ble_eq_true rfl) fun p e s m below meth c C hr hk hR => ?_
  refine x_lv (lv' := [(0, .ref (G.2.2.1 + 570)), (1, .int p0), (2, .int p1), (3, .int p2)]) C [0, 1, 2, 3] rfl ?_
  generalize xrm (d + 1) = R at hR ⊢
  unfold s_Model_call at h0
  refine x_aload_n C d_Model_call_0 0 rfl ?_
  refine x_iconst (v := 0) C d_Model_call_1 (by decide) ?_
  refine x_putI (y := 0) C fp_Model_114 k_570 rfl rfl rfl d_Model_call_2 ?_
  obtain ⟨σ1, eσ1, h0⟩ := xlet h0
  refine x_sig C eσ1 ?_
  refine x_aload_n C d_Model_call_5 0 rfl ?_
  obtain ⟨r3, σ4, k2, h0⟩ := xbind2 h0
  refine x_callVi C hR (c_Model_layHere (d := d) (by omega) k2) cw_Model_469 k_570 rfl rfl rfl (Nat.le_of_ble_eq_true rfl) ⟨Nat.zero_le _, Nat.zero_le _⟩ d_Model_call_6 ?_
  refine x_if_eq C 37 d_Model_call_9 (by decide) (fun q5 => ?_) (fun q5 => ?_)
  · replace h0 := xit q5 h0
    exact x_lv C [] rfl (b_Model_call_37 C hr hk hd hR h0)
  · replace h0 := xif q5 h0
    refine x_aload_n C d_Model_call_12 0 rfl ?_
    refine x_iload_n C d_Model_call_13 3 rfl ?_
    obtain ⟨r7, σ8, k6, h0⟩ := xbind2 h0
    refine x_callVi C hR (c_Model_hereOf (d := d) (by omega) k6) cw_Model_472 k_570 rfl rfl rfl (Nat.le_of_ble_eq_true rfl) ⟨Nat.zero_le _, Nat.zero_le _⟩ d_Model_call_14 ?_
    refine x_iconst (v := (-1)) C d_Model_call_17 (by decide) ?_
    refine x_icmp_eq C 37 d_Model_call_18 (by decide) (fun q9 => ?_) (fun q9 => ?_)
    · replace h0 := xit q9 h0
      exact x_lv C [] rfl (b_Model_call_37 C hr hk hd hR h0)
    · replace h0 := xif q9 h0
      refine x_iload_n C d_Model_call_21 2 rfl ?_
      refine x_i2l C d_Model_call_22 ?_
      refine x_lconst (v := 0) C d_Model_call_23 (by decide) ?_
      refine x_ldc2 (v := 99) C w_1877 d_Model_call_24 ?_
      obtain ⟨r11, σ12, k10, h0⟩ := xbind2 h0
      refine x_callSi C hR (c_Model_isIn (d := d) (by omega) k10) cw_Model_235 w_1695 rfl rfl (Nat.le_of_ble_eq_true rfl) ⟨Nat.zero_le _, Nat.zero_le _⟩ d_Model_call_27 ?_
      refine x_if_eq C 37 d_Model_call_30 (by decide) (fun q13 => ?_) (fun q13 => ?_)
      · replace h0 := xit q13 h0
        exact x_lv C [] rfl (b_Model_call_37 C hr hk hd hR h0)
      · replace h0 := xif q13 h0
        refine x_iload_n C d_Model_call_33 1 rfl ?_
        refine x_if_ge C 41 d_Model_call_34 (by decide) (fun q14 => ?_) (fun q14 => ?_)
        · replace h0 := xit q14 h0
          refine x_iload_n C d_Model_call_41 1 rfl ?_
          refine x_istore (lv' := [(4, .int p0), (0, .ref (G.2.2.1 + 570)), (1, .int p0), (2, .int p1), (3, .int p2)]) C d_Model_call_42 (by decide) rfl ?_
          refine x_aload_n C d_Model_call_44 1 rfl ?_
          refine x_getI (y := 0) C fg_Model_466 k_570 rfl d_Model_call_45 ?_
          refine x_iconst (v := 1) C d_Model_call_48 (by decide) ?_
          refine x_isub C d_Model_call_49 ?_
          obtain ⟨x15, ex15, h0⟩ := xlet h0
          refine x_name C ex15 ?_
          refine x_istore (lv' := [(5, .int x15), (4, .int p0), (0, .ref (G.2.2.1 + 570)), (1, .int p0), (2, .int p1), (3, .int p2)]) C d_Model_call_50 (by decide) rfl ?_
          exact x_lv C [2, 4, 5, 1, 0] rfl (b_Model_call_52 C hr hk hd hR FUEL _ _ _ h0)
        · replace h0 := xif q14 h0
          exact x_lv C [] rfl (b_Model_call_37 C hr hk hd hR h0)
-- LostPlacesModel.power(II)I
theorem d_Model_power_0 : decode prog_14_method_90_code 0 = .ok (.iconst 1, 1) := by decide +kernel
theorem d_Model_power_1 : decode prog_14_method_90_code 1 = .ok (.istore_n 2, 1) := by decide +kernel
theorem d_Model_power_2 : decode prog_14_method_90_code 2 = .ok (.iconst 0, 1) := by decide +kernel
theorem d_Model_power_3 : decode prog_14_method_90_code 3 = .ok (.istore_n 3, 1) := by decide +kernel
theorem d_Model_power_4 : decode prog_14_method_90_code 4 = .ok (.iload_n 3, 1) := by decide +kernel
theorem d_Model_power_5 : decode prog_14_method_90_code 5 = .ok (.iload_n 1, 1) := by decide +kernel
theorem d_Model_power_6 : decode prog_14_method_90_code 6 = .ok (.if_icmp .ge 13, 3) := by decide +kernel
theorem d_Model_power_9 : decode prog_14_method_90_code 9 = .ok (.iload_n 2, 1) := by decide +kernel
theorem d_Model_power_10 : decode prog_14_method_90_code 10 = .ok (.iload_n 0, 1) := by decide +kernel
theorem d_Model_power_11 : decode prog_14_method_90_code 11 = .ok (.imul, 1) := by decide +kernel
theorem d_Model_power_12 : decode prog_14_method_90_code 12 = .ok (.istore_n 2, 1) := by decide +kernel
theorem d_Model_power_13 : decode prog_14_method_90_code 13 = .ok (.iinc 3 1, 3) := by decide +kernel
theorem d_Model_power_16 : decode prog_14_method_90_code 16 = .ok (.goto (-12), 3) := by decide +kernel
theorem d_Model_power_19 : decode prog_14_method_90_code 19 = .ok (.iload_n 2, 1) := by decide +kernel
theorem d_Model_power_20 : decode prog_14_method_90_code 20 = .ok (.ireturn, 1) := by decide +kernel
def s_Model_power_4_b (p0 : Int32) (p1 : Int32) (rec4 : Int32 → Int32 → LH → Option (Int32 × LH)) (y2 : Int32) (y3 : Int32) (σ : LH) : Option (Int32 × LH) :=
  if p1 ≤ y3 then (
   some (y2, σ))
  else (
   xl (((y2 * p0)) : Int32) fun x2 =>
   xl ((y3 + 1) : Int32) fun x3 =>
   rec4 x2 x3 σ)
def s_Model_power_4 (p0 : Int32) (p1 : Int32) : Nat → Int32 → Int32 → LH → Option (Int32 × LH)
  | 0, _, _, _ => none
  | n + 1, y2, y3, σ => s_Model_power_4_b p0 p1 (s_Model_power_4 p0 p1 n) y2 y3 σ
theorem bb_Model_power_4 {G : XG} {l : Launch} {p : Program} {e : Env} {R : Room} {s : State} {m : MethodId} {args : Array Value} {below : List Frame} {meth : Method} {c : Code} (C : XC G 570 598 p s m args c prog_14_method_90_code 4 R_Model) (hr : meth.sig.returnType = (some .int)) (hk : meth.locks = false) {d : Nat} (hd : 1 ≤ d + 1) (hR : xroom R (d + 1)) {p0 : Int32} {p1 : Int32} {rec4 : Int32 → Int32 → LH → Option (Int32 × LH)} {σ' : LH} {r : Int32} (hrec4 : ∀ (y2 : Int32) (y3 : Int32) (σ : LH), rec4 y2 y3 σ = some (r, σ') → XJ G 570 598 p l e R s m args below meth c 4 (XQ G 570 598 below args s (some (.int r)) σ') 0 0 4 [(0, .int p0), (1, .int p1), (2, .int y2), (3, .int y3)] [] σ) {y2 : Int32} {y3 : Int32} {σ : LH} (h0 : s_Model_power_4_b p0 p1 rec4 y2 y3 σ = some (r, σ')) : XJ G 570 598 p l e R s m args below meth c 4 (XQ G 570 598 below args s (some (.int r)) σ') 0 0 4 [(0, .int p0), (1, .int p1), (2, .int y2), (3, .int y3)] [] σ := by
  replace h0 := (show _ = _ from h0)
  unfold s_Model_power_4_b at h0
  refine x_iload_n C d_Model_power_4 3 rfl ?_
  refine x_iload_n C d_Model_power_5 1 rfl ?_
  refine x_icmp_ge C 19 d_Model_power_6 (by decide) (fun q1 => ?_) (fun q1 => ?_)
  · replace h0 := xit q1 h0
    refine x_iload_n C d_Model_power_19 2 rfl ?_
    exact x_iret C hr hk h0 d_Model_power_20
  · replace h0 := xif q1 h0
    refine x_iload_n C d_Model_power_9 2 rfl ?_
    refine x_iload_n C d_Model_power_10 0 rfl ?_
    refine x_imul C d_Model_power_11 ?_
    obtain ⟨x2, ex2, h0⟩ := xlet h0
    refine x_name C ex2 ?_
    refine x_istore_n (lv' := [(2, .int x2), (0, .int p0), (1, .int p1), (3, .int y3)]) C d_Model_power_12 rfl (by decide) rfl ?_
    obtain ⟨x3, ex3, h0⟩ := xlet h0
    refine x_iinc (lv' := [(3, .int x3), (2, .int x2), (0, .int p0), (1, .int p1)]) C d_Model_power_13 3 rfl ex3 (by decide) rfl ?_
    refine x_goto C 4 d_Model_power_16 (by decide) ?_
    exact x_lv C [2, 3, 1, 0] rfl (hrec4 _ _ _ h0)
theorem b_Model_power_4 {G : XG} {l : Launch} {p : Program} {e : Env} {R : Room} {s : State} {m : MethodId} {args : Array Value} {below : List Frame} {meth : Method} {c : Code} (C : XC G 570 598 p s m args c prog_14_method_90_code 4 R_Model) (hr : meth.sig.returnType = (some .int)) (hk : meth.locks = false) {d : Nat} (hd : 1 ≤ d + 1) (hR : xroom R (d + 1)) {p0 : Int32} {p1 : Int32} {σ' : LH} {r : Int32} : ∀ (n : Nat) (y2 : Int32) (y3 : Int32) (σ : LH), s_Model_power_4 p0 p1 n y2 y3 σ = some (r, σ') → XJ G 570 598 p l e R s m args below meth c 4 (XQ G 570 598 below args s (some (.int r)) σ') 0 0 4 [(0, .int p0), (1, .int p1), (2, .int y2), (3, .int y3)] [] σ := by
  intro n
  induction n with
  | zero => intro y2 y3 σ h0; cases h0
  | succ n ih => intro y2 y3 σ h0; exact bb_Model_power_4 C hr hk hd hR ih h0
def s_Model_power (p0 : Int32) (p1 : Int32) (σ : LH) : Option (Int32 × LH) :=
  s_Model_power_4 p0 p1 FUEL 1 0 σ
theorem c_Model_power {G : XG} {l : Launch} {d : Nat} (hd : 1 ≤ d) {p0 : Int32} {p1 : Int32} {σ σ' : LH} {r : Int32} (h0 : s_Model_power p0 p1 σ = some (r, σ')) : xM G 570 598 l y_Model_power prog_14_method_90_code 4 (some .int) d [.int p0, .int p1] σ (some (.int r)) σ' := by
  obtain ⟨d, rfl⟩ : ∃ q, d = q + 1 := ⟨d - 1, by omega⟩
  refine x_met R_Model rfl (by decide +kernel) (Nat.le_of_ble_eq_true rfl) fun p e s m below meth c C hr hk hR => ?_
  refine x_lv (lv' := [(0, .int p0), (1, .int p1)]) C [0, 1] rfl ?_
  generalize xrm (d + 1) = R at hR ⊢
  unfold s_Model_power at h0
  refine x_iconst (v := 1) C d_Model_power_0 (by decide) ?_
  refine x_istore_n (lv' := [(2, .int 1), (0, .int p0), (1, .int p1)]) C d_Model_power_1 rfl (by decide) rfl ?_
  refine x_iconst (v := 0) C d_Model_power_2 (by decide) ?_
  refine x_istore_n (lv' := [(3, .int 0), (2, .int 1), (0, .int p0), (1, .int p1)]) C d_Model_power_3 rfl (by decide) rfl ?_
  exact x_lv C [2, 3, 1, 0] rfl (b_Model_power_4 C hr hk hd hR FUEL _ _ _ h0)
-- LostPlacesModel.digitOf(II)I
theorem d_Model_digitOf_0 : decode prog_14_method_91_code 0 = .ok (.iload_n 1, 1) := by decide +kernel
theorem d_Model_digitOf_1 : decode prog_14_method_91_code 1 = .ok (.iconst 5, 1) := by decide +kernel
theorem d_Model_digitOf_2 : decode prog_14_method_91_code 2 = .ok (.aload_n 0, 1) := by decide +kernel
theorem d_Model_digitOf_3 : decode prog_14_method_91_code 3 = .ok (.getfield 466, 3) := by decide +kernel
theorem d_Model_digitOf_6 : decode prog_14_method_91_code 6 = .ok (.iconst 1, 1) := by decide +kernel
theorem d_Model_digitOf_7 : decode prog_14_method_91_code 7 = .ok (.isub, 1) := by decide +kernel
theorem d_Model_digitOf_8 : decode prog_14_method_91_code 8 = .ok (.iload_n 2, 1) := by decide +kernel
theorem d_Model_digitOf_9 : decode prog_14_method_91_code 9 = .ok (.isub, 1) := by decide +kernel
theorem d_Model_digitOf_10 : decode prog_14_method_91_code 10 = .ok (.invokestatic 478, 3) := by decide +kernel
theorem d_Model_digitOf_13 : decode prog_14_method_91_code 13 = .ok (.idiv, 1) := by decide +kernel
theorem d_Model_digitOf_14 : decode prog_14_method_91_code 14 = .ok (.iconst 5, 1) := by decide +kernel
theorem d_Model_digitOf_15 : decode prog_14_method_91_code 15 = .ok (.irem, 1) := by decide +kernel
theorem d_Model_digitOf_16 : decode prog_14_method_91_code 16 = .ok (.ireturn, 1) := by decide +kernel
def s_Model_digitOf (p0 : Int32) (p1 : Int32) (σ : LH) : Option (Int32 × LH) :=
  xb2 (s_Model_power 5 (((σ.1 570 51) - 1) - p1) σ) fun r2 σ3 =>
  if ¬ r2 = 0 then (
  some (((p0 / r2) - (p0 / r2) / 5 * 5), σ3)) else none
theorem c_Model_digitOf {G : XG} {l : Launch} {d : Nat} (hd : 2 ≤ d) {p0 : Int32} {p1 : Int32} {σ σ' : LH} {r : Int32} (h0 : s_Model_digitOf p0 p1 σ = some (r, σ')) : xM G 570 598 l y_Model_digitOf prog_14_method_91_code 3 (some .int) d [.ref (G.2.2.1 + 570), .int p0, .int p1] σ (some (.int r)) σ' := by
  obtain ⟨d, rfl⟩ : ∃ q, d = q + 1 := ⟨d - 1, by omega⟩
  refine x_met R_Model rfl (by decide +kernel) (Nat.le_of_ble_eq_true rfl) fun p e s m below meth c C hr hk hR => ?_
  refine x_lv (lv' := [(0, .ref (G.2.2.1 + 570)), (1, .int p0), (2, .int p1)]) C [0, 1, 2] rfl ?_
  generalize xrm (d + 1) = R at hR ⊢
  unfold s_Model_digitOf at h0
  refine x_iload_n C d_Model_digitOf_0 1 rfl ?_
  refine x_iconst (v := 5) C d_Model_digitOf_1 (by decide) ?_
  refine x_aload_n C d_Model_digitOf_2 0 rfl ?_
  refine x_getI (y := 0) C fg_Model_466 k_570 rfl d_Model_digitOf_3 ?_
  refine x_iconst (v := 1) C d_Model_digitOf_6 (by decide) ?_
  refine x_isub C d_Model_digitOf_7 ?_
  refine x_iload_n C d_Model_digitOf_8 2 rfl ?_
  refine x_isub C d_Model_digitOf_9 ?_
  obtain ⟨r2, σ3, k1, h0⟩ := xbind2 h0
  refine x_callSi C hR (c_Model_power (d := d) (by omega) k1) cw_Model_478 w_2075 rfl rfl (Nat.le_of_ble_eq_true rfl) ⟨Nat.zero_le _, Nat.zero_le _⟩ d_Model_digitOf_10 ?_
  obtain ⟨g4, h0⟩ := xgo h0
  refine x_idiv C d_Model_digitOf_13 g4 ?_
  refine x_iconst (v := 5) C d_Model_digitOf_14 (by decide) ?_
  refine x_irem C d_Model_digitOf_15 (by decide) ?_
  exact x_iret C hr hk h0 d_Model_digitOf_16
-- LostPlacesModel.layCalls(I)V
theorem d_Model_layCalls_0 : decode prog_14_method_92_code 0 = .ok (.iconst 0, 1) := by decide +kernel
theorem d_Model_layCalls_1 : decode prog_14_method_92_code 1 = .ok (.istore_n 2, 1) := by decide +kernel
theorem d_Model_layCalls_2 : decode prog_14_method_92_code 2 = .ok (.iload_n 2, 1) := by decide +kernel
theorem d_Model_layCalls_3 : decode prog_14_method_92_code 3 = .ok (.iconst 5, 1) := by decide +kernel
theorem d_Model_layCalls_4 : decode prog_14_method_92_code 4 = .ok (.aload_n 0, 1) := by decide +kernel
theorem d_Model_layCalls_5 : decode prog_14_method_92_code 5 = .ok (.getfield 466, 3) := by decide +kernel
theorem d_Model_layCalls_8 : decode prog_14_method_92_code 8 = .ok (.invokestatic 478, 3) := by decide +kernel
theorem d_Model_layCalls_11 : decode prog_14_method_92_code 11 = .ok (.if_icmp .ge 91, 3) := by decide +kernel
theorem d_Model_layCalls_14 : decode prog_14_method_92_code 14 = .ok (.iconst 0, 1) := by decide +kernel
theorem d_Model_layCalls_15 : decode prog_14_method_92_code 15 = .ok (.istore_n 3, 1) := by decide +kernel
theorem d_Model_layCalls_16 : decode prog_14_method_92_code 16 = .ok (.iload_n 3, 1) := by decide +kernel
theorem d_Model_layCalls_17 : decode prog_14_method_92_code 17 = .ok (.aload_n 0, 1) := by decide +kernel
theorem d_Model_layCalls_18 : decode prog_14_method_92_code 18 = .ok (.getfield 466, 3) := by decide +kernel
theorem d_Model_layCalls_21 : decode prog_14_method_92_code 21 = .ok (.if_icmp .ge 21, 3) := by decide +kernel
theorem d_Model_layCalls_24 : decode prog_14_method_92_code 24 = .ok (.aload_n 0, 1) := by decide +kernel
theorem d_Model_layCalls_25 : decode prog_14_method_92_code 25 = .ok (.getfield 96, 3) := by decide +kernel
theorem d_Model_layCalls_28 : decode prog_14_method_92_code 28 = .ok (.iload_n 3, 1) := by decide +kernel
theorem d_Model_layCalls_29 : decode prog_14_method_92_code 29 = .ok (.aload_n 0, 1) := by decide +kernel
theorem d_Model_layCalls_30 : decode prog_14_method_92_code 30 = .ok (.iload_n 2, 1) := by decide +kernel
theorem d_Model_layCalls_31 : decode prog_14_method_92_code 31 = .ok (.iload_n 3, 1) := by decide +kernel
theorem d_Model_layCalls_32 : decode prog_14_method_92_code 32 = .ok (.invokevirtual 481, 3) := by decide +kernel
theorem d_Model_layCalls_35 : decode prog_14_method_92_code 35 = .ok (.iastore, 1) := by decide +kernel
theorem d_Model_layCalls_36 : decode prog_14_method_92_code 36 = .ok (.iinc 3 1, 3) := by decide +kernel
theorem d_Model_layCalls_39 : decode prog_14_method_92_code 39 = .ok (.goto (-23), 3) := by decide +kernel
theorem d_Model_layCalls_42 : decode prog_14_method_92_code 42 = .ok (.aload_n 0, 1) := by decide +kernel
theorem d_Model_layCalls_43 : decode prog_14_method_92_code 43 = .ok (.invokevirtual 475, 3) := by decide +kernel
theorem d_Model_layCalls_46 : decode prog_14_method_92_code 46 = .ok (.istore_n 3, 1) := by decide +kernel
theorem d_Model_layCalls_47 : decode prog_14_method_92_code 47 = .ok (.iconst 0, 1) := by decide +kernel
theorem d_Model_layCalls_48 : decode prog_14_method_92_code 48 = .ok (.istore 4, 2) := by decide +kernel
theorem d_Model_layCalls_50 : decode prog_14_method_92_code 50 = .ok (.iload 4, 2) := by decide +kernel
theorem d_Model_layCalls_52 : decode prog_14_method_92_code 52 = .ok (.aload_n 0, 1) := by decide +kernel
theorem d_Model_layCalls_53 : decode prog_14_method_92_code 53 = .ok (.getfield 466, 3) := by decide +kernel
theorem d_Model_layCalls_56 : decode prog_14_method_92_code 56 = .ok (.if_icmp .ge 40, 3) := by decide +kernel
theorem d_Model_layCalls_59 : decode prog_14_method_92_code 59 = .ok (.aload_n 0, 1) := by decide +kernel
theorem d_Model_layCalls_60 : decode prog_14_method_92_code 60 = .ok (.getfield 99, 3) := by decide +kernel
theorem d_Model_layCalls_63 : decode prog_14_method_92_code 63 = .ok (.iconst 4, 1) := by decide +kernel
theorem d_Model_layCalls_64 : decode prog_14_method_92_code 64 = .ok (.iload_n 2, 1) := by decide +kernel
theorem d_Model_layCalls_65 : decode prog_14_method_92_code 65 = .ok (.imul, 1) := by decide +kernel
theorem d_Model_layCalls_66 : decode prog_14_method_92_code 66 = .ok (.iload 4, 2) := by decide +kernel
theorem d_Model_layCalls_68 : decode prog_14_method_92_code 68 = .ok (.iadd, 1) := by decide +kernel
theorem d_Model_layCalls_69 : decode prog_14_method_92_code 69 = .ok (.aload_n 0, 1) := by decide +kernel
theorem d_Model_layCalls_70 : decode prog_14_method_92_code 70 = .ok (.getfield 64, 3) := by decide +kernel
theorem d_Model_layCalls_73 : decode prog_14_method_92_code 73 = .ok (.iconst 4, 1) := by decide +kernel
theorem d_Model_layCalls_74 : decode prog_14_method_92_code 74 = .ok (.aload_n 0, 1) := by decide +kernel
theorem d_Model_layCalls_75 : decode prog_14_method_92_code 75 = .ok (.getfield 93, 3) := by decide +kernel
theorem d_Model_layCalls_78 : decode prog_14_method_92_code 78 = .ok (.iload 4, 2) := by decide +kernel
theorem d_Model_layCalls_80 : decode prog_14_method_92_code 80 = .ok (.iaload, 1) := by decide +kernel
theorem d_Model_layCalls_81 : decode prog_14_method_92_code 81 = .ok (.imul, 1) := by decide +kernel
theorem d_Model_layCalls_82 : decode prog_14_method_92_code 82 = .ok (.iconst 3, 1) := by decide +kernel
theorem d_Model_layCalls_83 : decode prog_14_method_92_code 83 = .ok (.iadd, 1) := by decide +kernel
theorem d_Model_layCalls_84 : decode prog_14_method_92_code 84 = .ok (.iaload, 1) := by decide +kernel
theorem d_Model_layCalls_85 : decode prog_14_method_92_code 85 = .ok (.iload_n 1, 1) := by decide +kernel
theorem d_Model_layCalls_86 : decode prog_14_method_92_code 86 = .ok (.iload_n 3, 1) := by decide +kernel
theorem d_Model_layCalls_87 : decode prog_14_method_92_code 87 = .ok (.imul, 1) := by decide +kernel
theorem d_Model_layCalls_88 : decode prog_14_method_92_code 88 = .ok (.isub, 1) := by decide +kernel
theorem d_Model_layCalls_89 : decode prog_14_method_92_code 89 = .ok (.iastore, 1) := by decide +kernel
theorem d_Model_layCalls_90 : decode prog_14_method_92_code 90 = .ok (.iinc 4 1, 3) := by decide +kernel
theorem d_Model_layCalls_93 : decode prog_14_method_92_code 93 = .ok (.goto (-43), 3) := by decide +kernel
theorem d_Model_layCalls_96 : decode prog_14_method_92_code 96 = .ok (.iinc 2 1, 3) := by decide +kernel
theorem d_Model_layCalls_99 : decode prog_14_method_92_code 99 = .ok (.goto (-97), 3) := by decide +kernel
theorem d_Model_layCalls_102 : decode prog_14_method_92_code 102 = .ok (.return_, 1) := by decide +kernel
def s_Model_layCalls_50_b (p0 : Int32) (rec2 : Int32 → LH → Option (LH)) (rec50 : Int32 → Int32 → Int32 → LH → Option (LH)) (y2 : Int32) (y3 : Int32) (y4 : Int32) (σ : LH) : Option (LH) :=
  if (σ.1 570 51) ≤ y4 then (
   xl ((y2 + 1) : Int32) fun x10 =>
   rec2 x10 σ)
  else (
   if ib y4 8 then (
   if ib ((4 * (σ.1 591 (Int32.toNatClampNeg y4))) + 3) 290 then (
   if ib ((4 * y2) + y4) 2500 then (
   xl ((stI σ 593 (Int32.toNatClampNeg ((4 * y2) + y4)) ((σ.1 584 (Int32.toNatClampNeg ((4 * (σ.1 591 (Int32.toNatClampNeg y4))) + 3))) - (p0 * y3))) : LH) fun σ14 =>
   xl ((y4 + 1) : Int32) fun x15 =>
   rec50 y2 y3 x15 σ14) else none) else none) else none)
def s_Model_layCalls_50 (p0 : Int32) (rec2 : Int32 → LH → Option (LH)) : Nat → Int32 → Int32 → Int32 → LH → Option (LH)
  | 0, _, _, _, _ => none
  | n + 1, y2, y3, y4, σ => s_Model_layCalls_50_b p0 rec2 (s_Model_layCalls_50 p0 rec2 n) y2 y3 y4 σ
theorem bb_Model_layCalls_50 {G : XG} {l : Launch} {p : Program} {e : Env} {R : Room} {s : State} {m : MethodId} {args : Array Value} {below : List Frame} {meth : Method} {c : Code} (C : XC G 570 598 p s m args c prog_14_method_92_code 5 R_Model) (hr : meth.sig.returnType = none) (hk : meth.locks = false) {d : Nat} (hd : 126 ≤ d + 1) (hR : xroom R (d + 1)) {p0 : Int32} {rec2 : Int32 → LH → Option (LH)} {rec50 : Int32 → Int32 → Int32 → LH → Option (LH)} {σ' : LH} (hrec2 : ∀ (y2 : Int32) (σ : LH), rec2 y2 σ = some σ' → XJ G 570 598 p l e R s m args below meth c 5 (XQ G 570 598 below args s none σ') 0 0 2 [(0, .ref (G.2.2.1 + 570)), (1, .int p0), (2, .int y2)] [] σ) (hrec50 : ∀ (y2 : Int32) (y3 : Int32) (y4 : Int32) (σ : LH), rec50 y2 y3 y4 σ = some σ' → XJ G 570 598 p l e R s m args below meth c 5 (XQ G 570 598 below args s none σ') 0 0 50 [(0, .ref (G.2.2.1 + 570)), (1, .int p0), (2, .int y2), (3, .int y3), (4, .int y4)] [] σ) {y2 : Int32} {y3 : Int32} {y4 : Int32} {σ : LH} (h0 : s_Model_layCalls_50_b p0 rec2 rec50 y2 y3 y4 σ = some σ') : XJ G 570 598 p l e R s m args below meth c 5 (XQ G 570 598 below args s none σ') 0 0 50 [(0, .ref (G.2.2.1 + 570)), (1, .int p0), (2, .int y2), (3, .int y3), (4, .int y4)] [] σ := by
  replace h0 := (show _ = _ from h0)
  unfold s_Model_layCalls_50_b at h0
  refine x_iload C d_Model_layCalls_50 4 rfl ?_
  refine x_aload_n C d_Model_layCalls_52 0 rfl ?_
  refine x_getI (y := 0) C fg_Model_466 k_570 rfl d_Model_layCalls_53 ?_
  refine x_icmp_ge C 96 d_Model_layCalls_56 (by decide) (fun q9 => ?_) (fun q9 => ?_)
  · replace h0 := xit q9 h0
    obtain ⟨x10, ex10, h0⟩ := xlet h0
    refine x_iinc (lv' := [(2, .int x10), (0, .ref (G.2.2.1 + 570)), (1, .int p0), (3, .int y3), (4, .int y4)]) C d_Model_layCalls_96 2 rfl ex10 (by decide) rfl ?_
    refine x_goto C 2 d_Model_layCalls_99 (by decide) ?_
    exact x_lv C [1, 2, 0] rfl (hrec2 _ _ h0)
  · replace h0 := xif q9 h0
    refine x_aload_n C d_Model_layCalls_59 0 rfl ?_
    refine x_getA (y := 593) C fg_Model_99 k_570 rfl d_Model_layCalls_60 ?_
    refine x_iconst (v := 4) C d_Model_layCalls_63 (by decide) ?_
    refine x_iload_n C d_Model_layCalls_64 2 rfl ?_
    refine x_imul C d_Model_layCalls_65 ?_
    refine x_iload C d_Model_layCalls_66 4 rfl ?_
    refine x_iadd C d_Model_layCalls_68 ?_
    refine x_aload_n C d_Model_layCalls_69 0 rfl ?_
    refine x_getA (y := 584) C fg_Model_64 k_570 rfl d_Model_layCalls_70 ?_
    refine x_iconst (v := 4) C d_Model_layCalls_73 (by decide) ?_
    refine x_aload_n C d_Model_layCalls_74 0 rfl ?_
    refine x_getA (y := 591) C fg_Model_93 k_570 rfl d_Model_layCalls_75 ?_
    refine x_iload C d_Model_layCalls_78 4 rfl ?_
    obtain ⟨g11, h0⟩ := xgo h0
    refine x_iald C k_591 (ib_in g11) d_Model_layCalls_80 ?_
    refine x_imul C d_Model_layCalls_81 ?_
    refine x_iconst (v := 3) C d_Model_layCalls_82 (by decide) ?_
    refine x_iadd C d_Model_layCalls_83 ?_
    obtain ⟨g12, h0⟩ := xgo h0
    refine x_iald C k_584 (ib_in g12) d_Model_layCalls_84 ?_
    refine x_iload_n C d_Model_layCalls_85 1 rfl ?_
    refine x_iload_n C d_Model_layCalls_86 3 rfl ?_
    refine x_imul C d_Model_layCalls_87 ?_
    refine x_isub C d_Model_layCalls_88 ?_
    obtain ⟨g13, h0⟩ := xgo h0
    refine x_iast C k_593 (ib_in g13) d_Model_layCalls_89 ?_
    obtain ⟨σ14, eσ14, h0⟩ := xlet h0
    refine x_sig C eσ14 ?_
    obtain ⟨x15, ex15, h0⟩ := xlet h0
    refine x_iinc (lv' := [(4, .int x15), (0, .ref (G.2.2.1 + 570)), (1, .int p0), (2, .int y2), (3, .int y3)]) C d_Model_layCalls_90 4 rfl ex15 (by decide) rfl ?_
    refine x_goto C 50 d_Model_layCalls_93 (by decide) ?_
    exact x_lv C [1, 2, 3, 4, 0] rfl (hrec50 _ _ _ _ h0)
theorem b_Model_layCalls_50 {G : XG} {l : Launch} {p : Program} {e : Env} {R : Room} {s : State} {m : MethodId} {args : Array Value} {below : List Frame} {meth : Method} {c : Code} (C : XC G 570 598 p s m args c prog_14_method_92_code 5 R_Model) (hr : meth.sig.returnType = none) (hk : meth.locks = false) {d : Nat} (hd : 126 ≤ d + 1) (hR : xroom R (d + 1)) {p0 : Int32} {rec2 : Int32 → LH → Option (LH)} {σ' : LH} (hrec2 : ∀ (y2 : Int32) (σ : LH), rec2 y2 σ = some σ' → XJ G 570 598 p l e R s m args below meth c 5 (XQ G 570 598 below args s none σ') 0 0 2 [(0, .ref (G.2.2.1 + 570)), (1, .int p0), (2, .int y2)] [] σ) : ∀ (n : Nat) (y2 : Int32) (y3 : Int32) (y4 : Int32) (σ : LH), s_Model_layCalls_50 p0 rec2 n y2 y3 y4 σ = some σ' → XJ G 570 598 p l e R s m args below meth c 5 (XQ G 570 598 below args s none σ') 0 0 50 [(0, .ref (G.2.2.1 + 570)), (1, .int p0), (2, .int y2), (3, .int y3), (4, .int y4)] [] σ := by
  intro n
  induction n with
  | zero => intro y2 y3 y4 σ h0; cases h0
  | succ n ih => intro y2 y3 y4 σ h0; exact bb_Model_layCalls_50 C hr hk hd hR hrec2 ih h0
def s_Model_layCalls_16_b (p0 : Int32) (rec2 : Int32 → LH → Option (LH)) (rec16 : Int32 → Int32 → LH → Option (LH)) (y2 : Int32) (y3 : Int32) (σ : LH) : Option (LH) :=
  if (σ.1 570 51) ≤ y3 then (
   xb2 (s_Model_rings σ) fun r7 σ8 =>
   s_Model_layCalls_50 p0 rec2 FUEL y2 r7 0 σ8)
  else (
   xb2 (s_Model_digitOf y2 y3 σ) fun r17 σ18 =>
   if ib y3 8 then (
   xl ((stI σ18 592 (Int32.toNatClampNeg y3) r17) : LH) fun σ20 =>
   xl ((y3 + 1) : Int32) fun x21 =>
   rec16 y2 x21 σ20) else none)
def s_Model_layCalls_16 (p0 : Int32) (rec2 : Int32 → LH → Option (LH)) : Nat → Int32 → Int32 → LH → Option (LH)
  | 0, _, _, _ => none
  | n + 1, y2, y3, σ => s_Model_layCalls_16_b p0 rec2 (s_Model_layCalls_16 p0 rec2 n) y2 y3 σ
theorem bb_Model_layCalls_16 {G : XG} {l : Launch} {p : Program} {e : Env} {R : Room} {s : State} {m : MethodId} {args : Array Value} {below : List Frame} {meth : Method} {c : Code} (C : XC G 570 598 p s m args c prog_14_method_92_code 5 R_Model) (hr : meth.sig.returnType = none) (hk : meth.locks = false) {d : Nat} (hd : 126 ≤ d + 1) (hR : xroom R (d + 1)) {p0 : Int32} {rec2 : Int32 → LH → Option (LH)} {rec16 : Int32 → Int32 → LH → Option (LH)} {σ' : LH} (hrec2 : ∀ (y2 : Int32) (σ : LH), rec2 y2 σ = some σ' → XJ G 570 598 p l e R s m args below meth c 5 (XQ G 570 598 below args s none σ') 0 0 2 [(0, .ref (G.2.2.1 + 570)), (1, .int p0), (2, .int y2)] [] σ) (hrec16 : ∀ (y2 : Int32) (y3 : Int32) (σ : LH), rec16 y2 y3 σ = some σ' → XJ G 570 598 p l e R s m args below meth c 5 (XQ G 570 598 below args s none σ') 0 0 16 [(0, .ref (G.2.2.1 + 570)), (1, .int p0), (2, .int y2), (3, .int y3)] [] σ) {y2 : Int32} {y3 : Int32} {σ : LH} (h0 : s_Model_layCalls_16_b p0 rec2 rec16 y2 y3 σ = some σ') : XJ G 570 598 p l e R s m args below meth c 5 (XQ G 570 598 below args s none σ') 0 0 16 [(0, .ref (G.2.2.1 + 570)), (1, .int p0), (2, .int y2), (3, .int y3)] [] σ := by
  replace h0 := (show _ = _ from h0)
  unfold s_Model_layCalls_16_b at h0
  refine x_iload_n C d_Model_layCalls_16 3 rfl ?_
  refine x_aload_n C d_Model_layCalls_17 0 rfl ?_
  refine x_getI (y := 0) C fg_Model_466 k_570 rfl d_Model_layCalls_18 ?_
  refine x_icmp_ge C 42 d_Model_layCalls_21 (by decide) (fun q5 => ?_) (fun q5 => ?_)
  · replace h0 := xit q5 h0
    refine x_aload_n C d_Model_layCalls_42 0 rfl ?_
    obtain ⟨r7, σ8, k6, h0⟩ := xbind2 h0
    refine x_callVi C hR (c_Model_rings (d := d) (by omega) k6) cw_Model_475 k_570 rfl rfl rfl (Nat.le_of_ble_eq_true rfl) ⟨Nat.zero_le _, Nat.zero_le _⟩ d_Model_layCalls_43 ?_
    refine x_istore_n (lv' := [(3, .int r7), (0, .ref (G.2.2.1 + 570)), (1, .int p0), (2, .int y2)]) C d_Model_layCalls_46 rfl (by decide) rfl ?_
    refine x_iconst (v := 0) C d_Model_layCalls_47 (by decide) ?_
    refine x_istore (lv' := [(4, .int 0), (3, .int r7), (0, .ref (G.2.2.1 + 570)), (1, .int p0), (2, .int y2)]) C d_Model_layCalls_48 (by decide) rfl ?_
    exact x_lv C [2, 3, 4, 1, 0] rfl (b_Model_layCalls_50 C hr hk hd hR hrec2 FUEL _ _ _ _ h0)
  · replace h0 := xif q5 h0
    refine x_aload_n C d_Model_layCalls_24 0 rfl ?_
    refine x_getA (y := 592) C fg_Model_96 k_570 rfl d_Model_layCalls_25 ?_
    refine x_iload_n C d_Model_layCalls_28 3 rfl ?_
    refine x_aload_n C d_Model_layCalls_29 0 rfl ?_
    refine x_iload_n C d_Model_layCalls_30 2 rfl ?_
    refine x_iload_n C d_Model_layCalls_31 3 rfl ?_
    obtain ⟨r17, σ18, k16, h0⟩ := xbind2 h0
    refine x_callVi C hR (c_Model_digitOf (d := d) (by omega) k16) cw_Model_481 k_570 rfl rfl rfl (Nat.le_of_ble_eq_true rfl) ⟨Nat.zero_le _, Nat.zero_le _⟩ d_Model_layCalls_32 ?_
    obtain ⟨g19, h0⟩ := xgo h0
    refine x_iast C k_592 (ib_in g19) d_Model_layCalls_35 ?_
    obtain ⟨σ20, eσ20, h0⟩ := xlet h0
    refine x_sig C eσ20 ?_
    obtain ⟨x21, ex21, h0⟩ := xlet h0
    refine x_iinc (lv' := [(3, .int x21), (0, .ref (G.2.2.1 + 570)), (1, .int p0), (2, .int y2)]) C d_Model_layCalls_36 3 rfl ex21 (by decide) rfl ?_
    refine x_goto C 16 d_Model_layCalls_39 (by decide) ?_
    exact x_lv C [1, 2, 3, 0] rfl (hrec16 _ _ _ h0)
theorem b_Model_layCalls_16 {G : XG} {l : Launch} {p : Program} {e : Env} {R : Room} {s : State} {m : MethodId} {args : Array Value} {below : List Frame} {meth : Method} {c : Code} (C : XC G 570 598 p s m args c prog_14_method_92_code 5 R_Model) (hr : meth.sig.returnType = none) (hk : meth.locks = false) {d : Nat} (hd : 126 ≤ d + 1) (hR : xroom R (d + 1)) {p0 : Int32} {rec2 : Int32 → LH → Option (LH)} {σ' : LH} (hrec2 : ∀ (y2 : Int32) (σ : LH), rec2 y2 σ = some σ' → XJ G 570 598 p l e R s m args below meth c 5 (XQ G 570 598 below args s none σ') 0 0 2 [(0, .ref (G.2.2.1 + 570)), (1, .int p0), (2, .int y2)] [] σ) : ∀ (n : Nat) (y2 : Int32) (y3 : Int32) (σ : LH), s_Model_layCalls_16 p0 rec2 n y2 y3 σ = some σ' → XJ G 570 598 p l e R s m args below meth c 5 (XQ G 570 598 below args s none σ') 0 0 16 [(0, .ref (G.2.2.1 + 570)), (1, .int p0), (2, .int y2), (3, .int y3)] [] σ := by
  intro n
  induction n with
  | zero => intro y2 y3 σ h0; cases h0
  | succ n ih => intro y2 y3 σ h0; exact bb_Model_layCalls_16 C hr hk hd hR hrec2 ih h0
def s_Model_layCalls_2_b (p0 : Int32) (rec2 : Int32 → LH → Option (LH)) (y2 : Int32) (σ : LH) : Option (LH) :=
  xb2 (s_Model_power 5 (σ.1 570 51) σ) fun r2 σ3 =>
  if r2 ≤ y2 then (
   some σ3)
  else (
   s_Model_layCalls_16 p0 rec2 FUEL y2 0 σ3)
def s_Model_layCalls_2 (p0 : Int32) : Nat → Int32 → LH → Option (LH)
  | 0, _, _ => none
  | n + 1, y2, σ => s_Model_layCalls_2_b p0 (s_Model_layCalls_2 p0 n) y2 σ
theorem bb_Model_layCalls_2 {G : XG} {l : Launch} {p : Program} {e : Env} {R : Room} {s : State} {m : MethodId} {args : Array Value} {below : List Frame} {meth : Method} {c : Code} (C : XC G 570 598 p s m args c prog_14_method_92_code 5 R_Model) (hr : meth.sig.returnType = none) (hk : meth.locks = false) {d : Nat} (hd : 126 ≤ d + 1) (hR : xroom R (d + 1)) {p0 : Int32} {rec2 : Int32 → LH → Option (LH)} {σ' : LH} (hrec2 : ∀ (y2 : Int32) (σ : LH), rec2 y2 σ = some σ' → XJ G 570 598 p l e R s m args below meth c 5 (XQ G 570 598 below args s none σ') 0 0 2 [(0, .ref (G.2.2.1 + 570)), (1, .int p0), (2, .int y2)] [] σ) {y2 : Int32} {σ : LH} (h0 : s_Model_layCalls_2_b p0 rec2 y2 σ = some σ') : XJ G 570 598 p l e R s m args below meth c 5 (XQ G 570 598 below args s none σ') 0 0 2 [(0, .ref (G.2.2.1 + 570)), (1, .int p0), (2, .int y2)] [] σ := by
  replace h0 := (show _ = _ from h0)
  unfold s_Model_layCalls_2_b at h0
  refine x_iload_n C d_Model_layCalls_2 2 rfl ?_
  refine x_iconst (v := 5) C d_Model_layCalls_3 (by decide) ?_
  refine x_aload_n C d_Model_layCalls_4 0 rfl ?_
  refine x_getI (y := 0) C fg_Model_466 k_570 rfl d_Model_layCalls_5 ?_
  obtain ⟨r2, σ3, k1, h0⟩ := xbind2 h0
  refine x_callSi C hR (c_Model_power (d := d) (by omega) k1) cw_Model_478 w_2075 rfl rfl (Nat.le_of_ble_eq_true rfl) ⟨Nat.zero_le _, Nat.zero_le _⟩ d_Model_layCalls_8 ?_
  refine x_icmp_ge C 102 d_Model_layCalls_11 (by decide) (fun q4 => ?_) (fun q4 => ?_)
  · replace h0 := xit q4 h0
    exact x_vret C hr hk h0 d_Model_layCalls_102
  · replace h0 := xif q4 h0
    refine x_iconst (v := 0) C d_Model_layCalls_14 (by decide) ?_
    refine x_istore_n (lv' := [(3, .int 0), (0, .ref (G.2.2.1 + 570)), (1, .int p0), (2, .int y2)]) C d_Model_layCalls_15 rfl (by decide) rfl ?_
    exact x_lv C [1, 2, 3, 0] rfl (b_Model_layCalls_16 C hr hk hd hR hrec2 FUEL _ _ _ h0)
theorem b_Model_layCalls_2 {G : XG} {l : Launch} {p : Program} {e : Env} {R : Room} {s : State} {m : MethodId} {args : Array Value} {below : List Frame} {meth : Method} {c : Code} (C : XC G 570 598 p s m args c prog_14_method_92_code 5 R_Model) (hr : meth.sig.returnType = none) (hk : meth.locks = false) {d : Nat} (hd : 126 ≤ d + 1) (hR : xroom R (d + 1)) {p0 : Int32} {σ' : LH} : ∀ (n : Nat) (y2 : Int32) (σ : LH), s_Model_layCalls_2 p0 n y2 σ = some σ' → XJ G 570 598 p l e R s m args below meth c 5 (XQ G 570 598 below args s none σ') 0 0 2 [(0, .ref (G.2.2.1 + 570)), (1, .int p0), (2, .int y2)] [] σ := by
  intro n
  induction n with
  | zero => intro y2 σ h0; cases h0
  | succ n ih => intro y2 σ h0; exact bb_Model_layCalls_2 C hr hk hd hR ih h0
def s_Model_layCalls (p0 : Int32) (σ : LH) : Option (LH) :=
  s_Model_layCalls_2 p0 FUEL 0 σ
theorem c_Model_layCalls {G : XG} {l : Launch} {d : Nat} (hd : 126 ≤ d) {p0 : Int32} {σ σ' : LH} (h0 : s_Model_layCalls p0 σ = some σ') : xM G 570 598 l y_Model_layCalls prog_14_method_92_code 5 none d [.ref (G.2.2.1 + 570), .int p0] σ none σ' := by
  obtain ⟨d, rfl⟩ : ∃ q, d = q + 1 := ⟨d - 1, by omega⟩
  refine x_met R_Model rfl (by decide +kernel) (Nat.le_of_ble_eq_true rfl) fun p e s m below meth c C hr hk hR => ?_
  refine x_lv (lv' := [(0, .ref (G.2.2.1 + 570)), (1, .int p0)]) C [0, 1] rfl ?_
  generalize xrm (d + 1) = R at hR ⊢
  unfold s_Model_layCalls at h0
  refine x_iconst (v := 0) C d_Model_layCalls_0 (by decide) ?_
  refine x_istore_n (lv' := [(2, .int 0), (0, .ref (G.2.2.1 + 570)), (1, .int p0)]) C d_Model_layCalls_1 rfl (by decide) rfl ?_
  exact x_lv C [1, 2, 0] rfl (b_Model_layCalls_2 C hr hk hd hR FUEL _ _ h0)
-- LostPlacesModel.isRest(I)Z
theorem d_Model_isRest_0 : decode prog_14_method_93_code 0 = .ok (.iconst 0, 1) := by decide +kernel
theorem d_Model_isRest_1 : decode prog_14_method_93_code 1 = .ok (.istore_n 2, 1) := by decide +kernel
theorem d_Model_isRest_2 : decode prog_14_method_93_code 2 = .ok (.iload_n 2, 1) := by decide +kernel
theorem d_Model_isRest_3 : decode prog_14_method_93_code 3 = .ok (.aload_n 0, 1) := by decide +kernel
theorem d_Model_isRest_4 : decode prog_14_method_93_code 4 = .ok (.getfield 466, 3) := by decide +kernel
theorem d_Model_isRest_7 : decode prog_14_method_93_code 7 = .ok (.if_icmp .ge 78, 3) := by decide +kernel
theorem d_Model_isRest_10 : decode prog_14_method_93_code 10 = .ok (.iconst 5, 1) := by decide +kernel
theorem d_Model_isRest_11 : decode prog_14_method_93_code 11 = .ok (.aload_n 0, 1) := by decide +kernel
theorem d_Model_isRest_12 : decode prog_14_method_93_code 12 = .ok (.getfield 466, 3) := by decide +kernel
theorem d_Model_isRest_15 : decode prog_14_method_93_code 15 = .ok (.iconst 1, 1) := by decide +kernel
theorem d_Model_isRest_16 : decode prog_14_method_93_code 16 = .ok (.isub, 1) := by decide +kernel
theorem d_Model_isRest_17 : decode prog_14_method_93_code 17 = .ok (.iload_n 2, 1) := by decide +kernel
theorem d_Model_isRest_18 : decode prog_14_method_93_code 18 = .ok (.isub, 1) := by decide +kernel
theorem d_Model_isRest_19 : decode prog_14_method_93_code 19 = .ok (.invokestatic 478, 3) := by decide +kernel
theorem d_Model_isRest_22 : decode prog_14_method_93_code 22 = .ok (.istore_n 3, 1) := by decide +kernel
theorem d_Model_isRest_23 : decode prog_14_method_93_code 23 = .ok (.aload_n 0, 1) := by decide +kernel
theorem d_Model_isRest_24 : decode prog_14_method_93_code 24 = .ok (.iload_n 1, 1) := by decide +kernel
theorem d_Model_isRest_25 : decode prog_14_method_93_code 25 = .ok (.iload_n 2, 1) := by decide +kernel
theorem d_Model_isRest_26 : decode prog_14_method_93_code 26 = .ok (.invokevirtual 481, 3) := by decide +kernel
theorem d_Model_isRest_29 : decode prog_14_method_93_code 29 = .ok (.istore 4, 2) := by decide +kernel
theorem d_Model_isRest_31 : decode prog_14_method_93_code 31 = .ok (.iconst 0, 1) := by decide +kernel
theorem d_Model_isRest_32 : decode prog_14_method_93_code 32 = .ok (.istore 5, 2) := by decide +kernel
theorem d_Model_isRest_34 : decode prog_14_method_93_code 34 = .ok (.iload 5, 2) := by decide +kernel
theorem d_Model_isRest_36 : decode prog_14_method_93_code 36 = .ok (.iconst 5, 1) := by decide +kernel
theorem d_Model_isRest_37 : decode prog_14_method_93_code 37 = .ok (.if_icmp .ge 42, 3) := by decide +kernel
theorem d_Model_isRest_40 : decode prog_14_method_93_code 40 = .ok (.aload_n 0, 1) := by decide +kernel
theorem d_Model_isRest_41 : decode prog_14_method_93_code 41 = .ok (.getfield 99, 3) := by decide +kernel
theorem d_Model_isRest_44 : decode prog_14_method_93_code 44 = .ok (.iconst 4, 1) := by decide +kernel
theorem d_Model_isRest_45 : decode prog_14_method_93_code 45 = .ok (.iload_n 1, 1) := by decide +kernel
theorem d_Model_isRest_46 : decode prog_14_method_93_code 46 = .ok (.iload 5, 2) := by decide +kernel
theorem d_Model_isRest_48 : decode prog_14_method_93_code 48 = .ok (.iload 4, 2) := by decide +kernel
theorem d_Model_isRest_50 : decode prog_14_method_93_code 50 = .ok (.isub, 1) := by decide +kernel
theorem d_Model_isRest_51 : decode prog_14_method_93_code 51 = .ok (.iload_n 3, 1) := by decide +kernel
theorem d_Model_isRest_52 : decode prog_14_method_93_code 52 = .ok (.imul, 1) := by decide +kernel
theorem d_Model_isRest_53 : decode prog_14_method_93_code 53 = .ok (.iadd, 1) := by decide +kernel
theorem d_Model_isRest_54 : decode prog_14_method_93_code 54 = .ok (.imul, 1) := by decide +kernel
theorem d_Model_isRest_55 : decode prog_14_method_93_code 55 = .ok (.iload_n 2, 1) := by decide +kernel
theorem d_Model_isRest_56 : decode prog_14_method_93_code 56 = .ok (.iadd, 1) := by decide +kernel
theorem d_Model_isRest_57 : decode prog_14_method_93_code 57 = .ok (.iaload, 1) := by decide +kernel
theorem d_Model_isRest_58 : decode prog_14_method_93_code 58 = .ok (.aload_n 0, 1) := by decide +kernel
theorem d_Model_isRest_59 : decode prog_14_method_93_code 59 = .ok (.getfield 99, 3) := by decide +kernel
theorem d_Model_isRest_62 : decode prog_14_method_93_code 62 = .ok (.iconst 4, 1) := by decide +kernel
theorem d_Model_isRest_63 : decode prog_14_method_93_code 63 = .ok (.iload_n 1, 1) := by decide +kernel
theorem d_Model_isRest_64 : decode prog_14_method_93_code 64 = .ok (.imul, 1) := by decide +kernel
theorem d_Model_isRest_65 : decode prog_14_method_93_code 65 = .ok (.iload_n 2, 1) := by decide +kernel
theorem d_Model_isRest_66 : decode prog_14_method_93_code 66 = .ok (.iadd, 1) := by decide +kernel
theorem d_Model_isRest_67 : decode prog_14_method_93_code 67 = .ok (.iaload, 1) := by decide +kernel
theorem d_Model_isRest_68 : decode prog_14_method_93_code 68 = .ok (.if_icmp .le 5, 3) := by decide +kernel
theorem d_Model_isRest_71 : decode prog_14_method_93_code 71 = .ok (.iconst 0, 1) := by decide +kernel
theorem d_Model_isRest_72 : decode prog_14_method_93_code 72 = .ok (.ireturn, 1) := by decide +kernel
theorem d_Model_isRest_73 : decode prog_14_method_93_code 73 = .ok (.iinc 5 1, 3) := by decide +kernel
theorem d_Model_isRest_76 : decode prog_14_method_93_code 76 = .ok (.goto (-42), 3) := by decide +kernel
theorem d_Model_isRest_79 : decode prog_14_method_93_code 79 = .ok (.iinc 2 1, 3) := by decide +kernel
theorem d_Model_isRest_82 : decode prog_14_method_93_code 82 = .ok (.goto (-80), 3) := by decide +kernel
theorem d_Model_isRest_85 : decode prog_14_method_93_code 85 = .ok (.iconst 1, 1) := by decide +kernel
theorem d_Model_isRest_86 : decode prog_14_method_93_code 86 = .ok (.ireturn, 1) := by decide +kernel
def s_Model_isRest_34_b (p0 : Int32) (rec2 : Int32 → LH → Option (Int32 × LH)) (rec34 : Int32 → Int32 → Int32 → Int32 → LH → Option (Int32 × LH)) (y2 : Int32) (y3 : Int32) (y4 : Int32) (y5 : Int32) (σ : LH) : Option (Int32 × LH) :=
  if 5 ≤ y5 then (
   xl ((y2 + 1) : Int32) fun x9 =>
   rec2 x9 σ)
  else (
   if ib ((4 * (p0 + ((y5 - y4) * y3))) + y2) 2500 then (
   if ib ((4 * p0) + y2) 2500 then (
   if (σ.1 593 (Int32.toNatClampNeg ((4 * (p0 + ((y5 - y4) * y3))) + y2))) ≤ (σ.1 593 (Int32.toNatClampNeg ((4 * p0) + y2))) then (
    xl ((y5 + 1) : Int32) fun x13 =>
    rec34 y2 y3 y4 x13 σ)
   else (
    some (0, σ))) else none) else none)
def s_Model_isRest_34 (p0 : Int32) (rec2 : Int32 → LH → Option (Int32 × LH)) : Nat → Int32 → Int32 → Int32 → Int32 → LH → Option (Int32 × LH)
  | 0, _, _, _, _, _ => none
  | n + 1, y2, y3, y4, y5, σ => s_Model_isRest_34_b p0 rec2 (s_Model_isRest_34 p0 rec2 n) y2 y3 y4 y5 σ
theorem bb_Model_isRest_34 {G : XG} {l : Launch} {p : Program} {e : Env} {R : Room} {s : State} {m : MethodId} {args : Array Value} {below : List Frame} {meth : Method} {c : Code} (C : XC G 570 598 p s m args c prog_14_method_93_code 6 R_Model) (hr : meth.sig.returnType = (some .boolean)) (hk : meth.locks = false) {d : Nat} (hd : 3 ≤ d + 1) (hR : xroom R (d + 1)) {p0 : Int32} {rec2 : Int32 → LH → Option (Int32 × LH)} {rec34 : Int32 → Int32 → Int32 → Int32 → LH → Option (Int32 × LH)} {σ' : LH} {r : Int32} (hrec2 : ∀ (y2 : Int32) (σ : LH), rec2 y2 σ = some (r, σ') → XJ G 570 598 p l e R s m args below meth c 6 (XQ G 570 598 below args s (some (.int r)) σ') 0 0 2 [(0, .ref (G.2.2.1 + 570)), (1, .int p0), (2, .int y2)] [] σ) (hrec34 : ∀ (y2 : Int32) (y3 : Int32) (y4 : Int32) (y5 : Int32) (σ : LH), rec34 y2 y3 y4 y5 σ = some (r, σ') → XJ G 570 598 p l e R s m args below meth c 6 (XQ G 570 598 below args s (some (.int r)) σ') 0 0 34 [(0, .ref (G.2.2.1 + 570)), (1, .int p0), (2, .int y2), (3, .int y3), (4, .int y4), (5, .int y5)] [] σ) {y2 : Int32} {y3 : Int32} {y4 : Int32} {y5 : Int32} {σ : LH} (h0 : s_Model_isRest_34_b p0 rec2 rec34 y2 y3 y4 y5 σ = some (r, σ')) : XJ G 570 598 p l e R s m args below meth c 6 (XQ G 570 598 below args s (some (.int r)) σ') 0 0 34 [(0, .ref (G.2.2.1 + 570)), (1, .int p0), (2, .int y2), (3, .int y3), (4, .int y4), (5, .int y5)] [] σ := by
  replace h0 := (show _ = _ from h0)
  unfold s_Model_isRest_34_b at h0
  refine x_iload C d_Model_isRest_34 5 rfl ?_
  refine x_iconst (v := 5) C d_Model_isRest_36 (by decide) ?_
  refine x_icmp_ge C 79 d_Model_isRest_37 (by decide) (fun q8 => ?_) (fun q8 => ?_)
  · replace h0 := xit q8 h0
    obtain ⟨x9, ex9, h0⟩ := xlet h0
    refine x_iinc (lv' := [(2, .int x9), (0, .ref (G.2.2.1 + 570)), (1, .int p0), (3, .int y3), (4, .int y4), (5, .int y5)]) C d_Model_isRest_79 2 rfl ex9 (by decide) rfl ?_
    refine x_goto C 2 d_Model_isRest_82 (by decide) ?_
    exact x_lv C [1, 2, 0] rfl (hrec2 _ _ h0)
  · replace h0 := xif q8 h0
    refine x_aload_n C d_Model_isRest_40 0 rfl ?_
    refine x_getA (y := 593) C fg_Model_99 k_570 rfl d_Model_isRest_41 ?_
    refine x_iconst (v := 4) C d_Model_isRest_44 (by decide) ?_
    refine x_iload_n C d_Model_isRest_45 1 rfl ?_
    refine x_iload C d_Model_isRest_46 5 rfl ?_
    refine x_iload C d_Model_isRest_48 4 rfl ?_
    refine x_isub C d_Model_isRest_50 ?_
    refine x_iload_n C d_Model_isRest_51 3 rfl ?_
    refine x_imul C d_Model_isRest_52 ?_
    refine x_iadd C d_Model_isRest_53 ?_
    refine x_imul C d_Model_isRest_54 ?_
    refine x_iload_n C d_Model_isRest_55 2 rfl ?_
    refine x_iadd C d_Model_isRest_56 ?_
    obtain ⟨g10, h0⟩ := xgo h0
    refine x_iald C k_593 (ib_in g10) d_Model_isRest_57 ?_
    refine x_aload_n C d_Model_isRest_58 0 rfl ?_
    refine x_getA (y := 593) C fg_Model_99 k_570 rfl d_Model_isRest_59 ?_
    refine x_iconst (v := 4) C d_Model_isRest_62 (by decide) ?_
    refine x_iload_n C d_Model_isRest_63 1 rfl ?_
    refine x_imul C d_Model_isRest_64 ?_
    refine x_iload_n C d_Model_isRest_65 2 rfl ?_
    refine x_iadd C d_Model_isRest_66 ?_
    obtain ⟨g11, h0⟩ := xgo h0
    refine x_iald C k_593 (ib_in g11) d_Model_isRest_67 ?_
    refine x_icmp_le C 73 d_Model_isRest_68 (by decide) (fun q12 => ?_) (fun q12 => ?_)
    · replace h0 := xit q12 h0
      obtain ⟨x13, ex13, h0⟩ := xlet h0
      refine x_iinc (lv' := [(5, .int x13), (0, .ref (G.2.2.1 + 570)), (1, .int p0), (2, .int y2), (3, .int y3), (4, .int y4)]) C d_Model_isRest_73 5 rfl ex13 (by decide) rfl ?_
      refine x_goto C 34 d_Model_isRest_76 (by decide) ?_
      exact x_lv C [1, 2, 3, 4, 5, 0] rfl (hrec34 _ _ _ _ _ h0)
    · replace h0 := xif q12 h0
      refine x_iconst (v := 0) C d_Model_isRest_71 (by decide) ?_
      exact x_zret C hr hk (by decide) h0 d_Model_isRest_72
theorem b_Model_isRest_34 {G : XG} {l : Launch} {p : Program} {e : Env} {R : Room} {s : State} {m : MethodId} {args : Array Value} {below : List Frame} {meth : Method} {c : Code} (C : XC G 570 598 p s m args c prog_14_method_93_code 6 R_Model) (hr : meth.sig.returnType = (some .boolean)) (hk : meth.locks = false) {d : Nat} (hd : 3 ≤ d + 1) (hR : xroom R (d + 1)) {p0 : Int32} {rec2 : Int32 → LH → Option (Int32 × LH)} {σ' : LH} {r : Int32} (hrec2 : ∀ (y2 : Int32) (σ : LH), rec2 y2 σ = some (r, σ') → XJ G 570 598 p l e R s m args below meth c 6 (XQ G 570 598 below args s (some (.int r)) σ') 0 0 2 [(0, .ref (G.2.2.1 + 570)), (1, .int p0), (2, .int y2)] [] σ) : ∀ (n : Nat) (y2 : Int32) (y3 : Int32) (y4 : Int32) (y5 : Int32) (σ : LH), s_Model_isRest_34 p0 rec2 n y2 y3 y4 y5 σ = some (r, σ') → XJ G 570 598 p l e R s m args below meth c 6 (XQ G 570 598 below args s (some (.int r)) σ') 0 0 34 [(0, .ref (G.2.2.1 + 570)), (1, .int p0), (2, .int y2), (3, .int y3), (4, .int y4), (5, .int y5)] [] σ := by
  intro n
  induction n with
  | zero => intro y2 y3 y4 y5 σ h0; cases h0
  | succ n ih => intro y2 y3 y4 y5 σ h0; exact bb_Model_isRest_34 C hr hk hd hR hrec2 ih h0
def s_Model_isRest_2_b (p0 : Int32) (rec2 : Int32 → LH → Option (Int32 × LH)) (y2 : Int32) (σ : LH) : Option (Int32 × LH) :=
  if (σ.1 570 51) ≤ y2 then (
   some (1, σ))
  else (
   xb2 (s_Model_power 5 (((σ.1 570 51) - 1) - y2) σ) fun r3 σ4 =>
   xb2 (s_Model_digitOf p0 y2 σ4) fun r6 σ7 =>
   s_Model_isRest_34 p0 rec2 FUEL y2 r3 r6 0 σ7)
def s_Model_isRest_2 (p0 : Int32) : Nat → Int32 → LH → Option (Int32 × LH)
  | 0, _, _ => none
  | n + 1, y2, σ => s_Model_isRest_2_b p0 (s_Model_isRest_2 p0 n) y2 σ
theorem bb_Model_isRest_2 {G : XG} {l : Launch} {p : Program} {e : Env} {R : Room} {s : State} {m : MethodId} {args : Array Value} {below : List Frame} {meth : Method} {c : Code} (C : XC G 570 598 p s m args c prog_14_method_93_code 6 R_Model) (hr : meth.sig.returnType = (some .boolean)) (hk : meth.locks = false) {d : Nat} (hd : 3 ≤ d + 1) (hR : xroom R (d + 1)) {p0 : Int32} {rec2 : Int32 → LH → Option (Int32 × LH)} {σ' : LH} {r : Int32} (hrec2 : ∀ (y2 : Int32) (σ : LH), rec2 y2 σ = some (r, σ') → XJ G 570 598 p l e R s m args below meth c 6 (XQ G 570 598 below args s (some (.int r)) σ') 0 0 2 [(0, .ref (G.2.2.1 + 570)), (1, .int p0), (2, .int y2)] [] σ) {y2 : Int32} {σ : LH} (h0 : s_Model_isRest_2_b p0 rec2 y2 σ = some (r, σ')) : XJ G 570 598 p l e R s m args below meth c 6 (XQ G 570 598 below args s (some (.int r)) σ') 0 0 2 [(0, .ref (G.2.2.1 + 570)), (1, .int p0), (2, .int y2)] [] σ := by
  replace h0 := (show _ = _ from h0)
  unfold s_Model_isRest_2_b at h0
  refine x_iload_n C d_Model_isRest_2 2 rfl ?_
  refine x_aload_n C d_Model_isRest_3 0 rfl ?_
  refine x_getI (y := 0) C fg_Model_466 k_570 rfl d_Model_isRest_4 ?_
  refine x_icmp_ge C 85 d_Model_isRest_7 (by decide) (fun q1 => ?_) (fun q1 => ?_)
  · replace h0 := xit q1 h0
    refine x_iconst (v := 1) C d_Model_isRest_85 (by decide) ?_
    exact x_zret C hr hk (by decide) h0 d_Model_isRest_86
  · replace h0 := xif q1 h0
    refine x_iconst (v := 5) C d_Model_isRest_10 (by decide) ?_
    refine x_aload_n C d_Model_isRest_11 0 rfl ?_
    refine x_getI (y := 0) C fg_Model_466 k_570 rfl d_Model_isRest_12 ?_
    refine x_iconst (v := 1) C d_Model_isRest_15 (by decide) ?_
    refine x_isub C d_Model_isRest_16 ?_
    refine x_iload_n C d_Model_isRest_17 2 rfl ?_
    refine x_isub C d_Model_isRest_18 ?_
    obtain ⟨r3, σ4, k2, h0⟩ := xbind2 h0
    refine x_callSi C hR (c_Model_power (d := d) (by omega) k2) cw_Model_478 w_2075 rfl rfl (Nat.le_of_ble_eq_true rfl) ⟨Nat.zero_le _, Nat.zero_le _⟩ d_Model_isRest_19 ?_
    refine x_istore_n (lv' := [(3, .int r3), (0, .ref (G.2.2.1 + 570)), (1, .int p0), (2, .int y2)]) C d_Model_isRest_22 rfl (by decide) rfl ?_
    refine x_aload_n C d_Model_isRest_23 1 rfl ?_
    refine x_iload_n C d_Model_isRest_24 2 rfl ?_
    refine x_iload_n C d_Model_isRest_25 3 rfl ?_
    obtain ⟨r6, σ7, k5, h0⟩ := xbind2 h0
    refine x_callVi C hR (c_Model_digitOf (d := d) (by omega) k5) cw_Model_481 k_570 rfl rfl rfl (Nat.le_of_ble_eq_true rfl) ⟨Nat.zero_le _, Nat.zero_le _⟩ d_Model_isRest_26 ?_
    refine x_istore (lv' := [(4, .int r6), (3, .int r3), (0, .ref (G.2.2.1 + 570)), (1, .int p0), (2, .int y2)]) C d_Model_isRest_29 (by decide) rfl ?_
    refine x_iconst (v := 0) C d_Model_isRest_31 (by decide) ?_
    refine x_istore (lv' := [(5, .int 0), (4, .int r6), (3, .int r3), (0, .ref (G.2.2.1 + 570)), (1, .int p0), (2, .int y2)]) C d_Model_isRest_32 (by decide) rfl ?_
    exact x_lv C [3, 4, 5, 2, 1, 0] rfl (b_Model_isRest_34 C hr hk hd hR hrec2 FUEL _ _ _ _ _ h0)
theorem b_Model_isRest_2 {G : XG} {l : Launch} {p : Program} {e : Env} {R : Room} {s : State} {m : MethodId} {args : Array Value} {below : List Frame} {meth : Method} {c : Code} (C : XC G 570 598 p s m args c prog_14_method_93_code 6 R_Model) (hr : meth.sig.returnType = (some .boolean)) (hk : meth.locks = false) {d : Nat} (hd : 3 ≤ d + 1) (hR : xroom R (d + 1)) {p0 : Int32} {σ' : LH} {r : Int32} : ∀ (n : Nat) (y2 : Int32) (σ : LH), s_Model_isRest_2 p0 n y2 σ = some (r, σ') → XJ G 570 598 p l e R s m args below meth c 6 (XQ G 570 598 below args s (some (.int r)) σ') 0 0 2 [(0, .ref (G.2.2.1 + 570)), (1, .int p0), (2, .int y2)] [] σ := by
  intro n
  induction n with
  | zero => intro y2 σ h0; cases h0
  | succ n ih => intro y2 σ h0; exact bb_Model_isRest_2 C hr hk hd hR ih h0
def s_Model_isRest (p0 : Int32) (σ : LH) : Option (Int32 × LH) :=
  s_Model_isRest_2 p0 FUEL 0 σ
theorem c_Model_isRest {G : XG} {l : Launch} {d : Nat} (hd : 3 ≤ d) {p0 : Int32} {σ σ' : LH} {r : Int32} (h0 : s_Model_isRest p0 σ = some (r, σ')) : xM G 570 598 l y_Model_isRest prog_14_method_93_code 6 (some .boolean) d [.ref (G.2.2.1 + 570), .int p0] σ (some (.int r)) σ' := by
  obtain ⟨d, rfl⟩ : ∃ q, d = q + 1 := ⟨d - 1, by omega⟩
  refine x_met R_Model rfl (by decide +kernel) (Nat.le_of_ble_eq_true rfl) fun p e s m below meth c C hr hk hR => ?_
  refine x_lv (lv' := [(0, .ref (G.2.2.1 + 570)), (1, .int p0)]) C [0, 1] rfl ?_
  generalize xrm (d + 1) = R at hR ⊢
  unfold s_Model_isRest at h0
  refine x_iconst (v := 0) C d_Model_isRest_0 (by decide) ?_
  refine x_istore_n (lv' := [(2, .int 0), (0, .ref (G.2.2.1 + 570)), (1, .int p0)]) C d_Model_isRest_1 rfl (by decide) rfl ?_
  exact x_lv C [1, 2, 0] rfl (b_Model_isRest_2 C hr hk hd hR FUEL _ _ h0)
-- LostPlacesModel.rests(II)I
theorem d_Model_rests_0 : decode prog_14_method_94_code 0 = .ok (.aload_n 0, 1) := by decide +kernel
theorem d_Model_rests_1 : decode prog_14_method_94_code 1 = .ok (.iconst 0, 1) := by decide +kernel
theorem d_Model_rests_2 : decode prog_14_method_94_code 2 = .ok (.putfield 114, 3) := by decide +kernel
theorem d_Model_rests_5 : decode prog_14_method_94_code 5 = .ok (.aload_n 0, 1) := by decide +kernel
theorem d_Model_rests_6 : decode prog_14_method_94_code 6 = .ok (.invokevirtual 469, 3) := by decide +kernel
theorem d_Model_rests_9 : decode prog_14_method_94_code 9 = .ok (.ifCond .eq 15, 3) := by decide +kernel
theorem d_Model_rests_12 : decode prog_14_method_94_code 12 = .ok (.iload_n 1, 1) := by decide +kernel
theorem d_Model_rests_13 : decode prog_14_method_94_code 13 = .ok (.i2l, 1) := by decide +kernel
theorem d_Model_rests_14 : decode prog_14_method_94_code 14 = .ok (.lconst 0, 1) := by decide +kernel
theorem d_Model_rests_15 : decode prog_14_method_94_code 15 = .ok (.ldc2_w 417, 3) := by decide +kernel
theorem d_Model_rests_18 : decode prog_14_method_94_code 18 = .ok (.invokestatic 235, 3) := by decide +kernel
theorem d_Model_rests_21 : decode prog_14_method_94_code 21 = .ok (.ifCond .ne 7, 3) := by decide +kernel
theorem d_Model_rests_24 : decode prog_14_method_94_code 24 = .ok (.ldc_w 422, 3) := by decide +kernel
theorem d_Model_rests_27 : decode prog_14_method_94_code 27 = .ok (.ireturn, 1) := by decide +kernel
theorem d_Model_rests_28 : decode prog_14_method_94_code 28 = .ok (.iload_n 2, 1) := by decide +kernel
theorem d_Model_rests_29 : decode prog_14_method_94_code 29 = .ok (.iconst (-1), 1) := by decide +kernel
theorem d_Model_rests_30 : decode prog_14_method_94_code 30 = .ok (.if_icmp .ge 5, 3) := by decide +kernel
theorem d_Model_rests_33 : decode prog_14_method_94_code 33 = .ok (.iconst (-1), 1) := by decide +kernel
theorem d_Model_rests_34 : decode prog_14_method_94_code 34 = .ok (.ireturn, 1) := by decide +kernel
theorem d_Model_rests_35 : decode prog_14_method_94_code 35 = .ok (.aload_n 0, 1) := by decide +kernel
theorem d_Model_rests_36 : decode prog_14_method_94_code 36 = .ok (.iload_n 1, 1) := by decide +kernel
theorem d_Model_rests_37 : decode prog_14_method_94_code 37 = .ok (.invokevirtual 484, 3) := by decide +kernel
theorem d_Model_rests_40 : decode prog_14_method_94_code 40 = .ok (.iconst 0, 1) := by decide +kernel
theorem d_Model_rests_41 : decode prog_14_method_94_code 41 = .ok (.istore_n 3, 1) := by decide +kernel
theorem d_Model_rests_42 : decode prog_14_method_94_code 42 = .ok (.iconst 0, 1) := by decide +kernel
theorem d_Model_rests_43 : decode prog_14_method_94_code 43 = .ok (.istore 4, 2) := by decide +kernel
theorem d_Model_rests_45 : decode prog_14_method_94_code 45 = .ok (.iload 4, 2) := by decide +kernel
theorem d_Model_rests_47 : decode prog_14_method_94_code 47 = .ok (.iconst 5, 1) := by decide +kernel
theorem d_Model_rests_48 : decode prog_14_method_94_code 48 = .ok (.aload_n 0, 1) := by decide +kernel
theorem d_Model_rests_49 : decode prog_14_method_94_code 49 = .ok (.getfield 466, 3) := by decide +kernel
theorem d_Model_rests_52 : decode prog_14_method_94_code 52 = .ok (.invokestatic 478, 3) := by decide +kernel
theorem d_Model_rests_55 : decode prog_14_method_94_code 55 = .ok (.if_icmp .ge 69, 3) := by decide +kernel
theorem d_Model_rests_58 : decode prog_14_method_94_code 58 = .ok (.aload_n 0, 1) := by decide +kernel
theorem d_Model_rests_59 : decode prog_14_method_94_code 59 = .ok (.iload 4, 2) := by decide +kernel
theorem d_Model_rests_61 : decode prog_14_method_94_code 61 = .ok (.invokevirtual 487, 3) := by decide +kernel
theorem d_Model_rests_64 : decode prog_14_method_94_code 64 = .ok (.ifCond .ne 6, 3) := by decide +kernel
theorem d_Model_rests_67 : decode prog_14_method_94_code 67 = .ok (.goto 51, 3) := by decide +kernel
theorem d_Model_rests_70 : decode prog_14_method_94_code 70 = .ok (.iload_n 3, 1) := by decide +kernel
theorem d_Model_rests_71 : decode prog_14_method_94_code 71 = .ok (.iload_n 2, 1) := by decide +kernel
theorem d_Model_rests_72 : decode prog_14_method_94_code 72 = .ok (.if_icmp .ne 43, 3) := by decide +kernel
theorem d_Model_rests_75 : decode prog_14_method_94_code 75 = .ok (.iconst 0, 1) := by decide +kernel
theorem d_Model_rests_76 : decode prog_14_method_94_code 76 = .ok (.istore 5, 2) := by decide +kernel
theorem d_Model_rests_78 : decode prog_14_method_94_code 78 = .ok (.iconst 0, 1) := by decide +kernel
theorem d_Model_rests_79 : decode prog_14_method_94_code 79 = .ok (.istore 6, 2) := by decide +kernel
theorem d_Model_rests_81 : decode prog_14_method_94_code 81 = .ok (.iload 6, 2) := by decide +kernel
theorem d_Model_rests_83 : decode prog_14_method_94_code 83 = .ok (.aload_n 0, 1) := by decide +kernel
theorem d_Model_rests_84 : decode prog_14_method_94_code 84 = .ok (.getfield 466, 3) := by decide +kernel
theorem d_Model_rests_87 : decode prog_14_method_94_code 87 = .ok (.if_icmp .ge 25, 3) := by decide +kernel
theorem d_Model_rests_90 : decode prog_14_method_94_code 90 = .ok (.bipush 10, 2) := by decide +kernel
theorem d_Model_rests_92 : decode prog_14_method_94_code 92 = .ok (.iload 5, 2) := by decide +kernel
theorem d_Model_rests_94 : decode prog_14_method_94_code 94 = .ok (.imul, 1) := by decide +kernel
theorem d_Model_rests_95 : decode prog_14_method_94_code 95 = .ok (.aload_n 0, 1) := by decide +kernel
theorem d_Model_rests_96 : decode prog_14_method_94_code 96 = .ok (.iload 4, 2) := by decide +kernel
theorem d_Model_rests_98 : decode prog_14_method_94_code 98 = .ok (.iload 6, 2) := by decide +kernel
theorem d_Model_rests_100 : decode prog_14_method_94_code 100 = .ok (.invokevirtual 481, 3) := by decide +kernel
theorem d_Model_rests_103 : decode prog_14_method_94_code 103 = .ok (.iadd, 1) := by decide +kernel
theorem d_Model_rests_104 : decode prog_14_method_94_code 104 = .ok (.istore 5, 2) := by decide +kernel
theorem d_Model_rests_106 : decode prog_14_method_94_code 106 = .ok (.iinc 6 1, 3) := by decide +kernel
theorem d_Model_rests_109 : decode prog_14_method_94_code 109 = .ok (.goto (-28), 3) := by decide +kernel
theorem d_Model_rests_112 : decode prog_14_method_94_code 112 = .ok (.iload 5, 2) := by decide +kernel
theorem d_Model_rests_114 : decode prog_14_method_94_code 114 = .ok (.ireturn, 1) := by decide +kernel
theorem d_Model_rests_115 : decode prog_14_method_94_code 115 = .ok (.iinc 3 1, 3) := by decide +kernel
theorem d_Model_rests_118 : decode prog_14_method_94_code 118 = .ok (.iinc 4 1, 3) := by decide +kernel
theorem d_Model_rests_121 : decode prog_14_method_94_code 121 = .ok (.goto (-76), 3) := by decide +kernel
theorem d_Model_rests_124 : decode prog_14_method_94_code 124 = .ok (.iload_n 2, 1) := by decide +kernel
theorem d_Model_rests_125 : decode prog_14_method_94_code 125 = .ok (.iconst (-1), 1) := by decide +kernel
theorem d_Model_rests_126 : decode prog_14_method_94_code 126 = .ok (.if_icmp .ne 7, 3) := by decide +kernel
theorem d_Model_rests_129 : decode prog_14_method_94_code 129 = .ok (.iload_n 3, 1) := by decide +kernel
theorem d_Model_rests_130 : decode prog_14_method_94_code 130 = .ok (.goto 4, 3) := by decide +kernel
theorem d_Model_rests_133 : decode prog_14_method_94_code 133 = .ok (.iconst (-1), 1) := by decide +kernel
theorem d_Model_rests_134 : decode prog_14_method_94_code 134 = .ok (.ireturn, 1) := by decide +kernel
def s_Model_rests_24 (p0 : Int32) (p1 : Int32) (σ : LH) : Option (Int32 × LH) :=
  some ((-1000000), σ)
theorem b_Model_rests_24 {G : XG} {l : Launch} {p : Program} {e : Env} {R : Room} {s : State} {m : MethodId} {args : Array Value} {below : List Frame} {meth : Method} {c : Code} (C : XC G 570 598 p s m args c prog_14_method_94_code 7 R_Model) (hr : meth.sig.returnType = (some .int)) (hk : meth.locks = false) {d : Nat} (hd : 127 ≤ d + 1) (hR : xroom R (d + 1)) {p0 : Int32} {p1 : Int32} {σ' : LH} {r : Int32} {σ : LH} (h0 : s_Model_rests_24 p0 p1 σ = some (r, σ')) : XJ G 570 598 p l e R s m args below meth c 7 (XQ G 570 598 below args s (some (.int r)) σ') 0 0 24 [] [] σ := by
  replace h0 := (show _ = _ from h0)
  unfold s_Model_rests_24 at h0
  refine x_ldcw (v := (-1000000)) C w_1899 d_Model_rests_24 ?_
  exact x_iret C hr hk h0 d_Model_rests_27
def s_Model_rests_134 (p0 : Int32) (p1 : Int32) (z0 : Int32) (σ : LH) : Option (Int32 × LH) :=
  some (z0, σ)
theorem b_Model_rests_134 {G : XG} {l : Launch} {p : Program} {e : Env} {R : Room} {s : State} {m : MethodId} {args : Array Value} {below : List Frame} {meth : Method} {c : Code} (C : XC G 570 598 p s m args c prog_14_method_94_code 7 R_Model) (hr : meth.sig.returnType = (some .int)) (hk : meth.locks = false) {d : Nat} (hd : 127 ≤ d + 1) (hR : xroom R (d + 1)) {p0 : Int32} {p1 : Int32} {σ' : LH} {r : Int32} {z0 : Int32} {σ : LH} (h0 : s_Model_rests_134 p0 p1 z0 σ = some (r, σ')) : XJ G 570 598 p l e R s m args below meth c 7 (XQ G 570 598 below args s (some (.int r)) σ') 0 0 134 [] [.int z0] σ := by
  replace h0 := (show _ = _ from h0)
  unfold s_Model_rests_134 at h0
  exact x_iret C hr hk h0 d_Model_rests_134
def s_Model_rests_118 (p0 : Int32) (p1 : Int32) (rec45 : Int32 → Int32 → LH → Option (Int32 × LH)) (y3 : Int32) (y4 : Int32) (σ : LH) : Option (Int32 × LH) :=
  xl ((y4 + 1) : Int32) fun x22 =>
  rec45 y3 x22 σ
theorem b_Model_rests_118 {G : XG} {l : Launch} {p : Program} {e : Env} {R : Room} {s : State} {m : MethodId} {args : Array Value} {below : List Frame} {meth : Method} {c : Code} (C : XC G 570 598 p s m args c prog_14_method_94_code 7 R_Model) (hr : meth.sig.returnType = (some .int)) (hk : meth.locks = false) {d : Nat} (hd : 127 ≤ d + 1) (hR : xroom R (d + 1)) {p0 : Int32} {p1 : Int32} {rec45 : Int32 → Int32 → LH → Option (Int32 × LH)} {σ' : LH} {r : Int32} (hrec45 : ∀ (y3 : Int32) (y4 : Int32) (σ : LH), rec45 y3 y4 σ = some (r, σ') → XJ G 570 598 p l e R s m args below meth c 7 (XQ G 570 598 below args s (some (.int r)) σ') 0 0 45 [(0, .ref (G.2.2.1 + 570)), (2, .int p1), (3, .int y3), (4, .int y4)] [] σ) {y3 : Int32} {y4 : Int32} {σ : LH} (h0 : s_Model_rests_118 p0 p1 rec45 y3 y4 σ = some (r, σ')) : XJ G 570 598 p l e R s m args below meth c 7 (XQ G 570 598 below args s (some (.int r)) σ') 0 0 118 [(0, .ref (G.2.2.1 + 570)), (2, .int p1), (3, .int y3), (4, .int y4)] [] σ := by
  replace h0 := (show _ = _ from h0)
  unfold s_Model_rests_118 at h0
  obtain ⟨x22, ex22, h0⟩ := xlet h0
  refine x_iinc (lv' := [(4, .int x22), (0, .ref (G.2.2.1 + 570)), (2, .int p1), (3, .int y3)]) C d_Model_rests_118 3 rfl ex22 (by decide) rfl ?_
  refine x_goto C 45 d_Model_rests_121 (by decide) ?_
  exact x_lv C [1, 2, 3, 0] rfl (hrec45 _ _ _ h0)
def s_Model_rests_81_b (p0 : Int32) (p1 : Int32) (rec81 : Int32 → Int32 → Int32 → LH → Option (Int32 × LH)) (y4 : Int32) (y5 : Int32) (y6 : Int32) (σ : LH) : Option (Int32 × LH) :=
  if (σ.1 570 51) ≤ y6 then (
   some (y5, σ))
  else (
   xb2 (s_Model_digitOf y4 y6 σ) fun r26 σ27 =>
   xl ((((10 * y5) + r26)) : Int32) fun x28 =>
   xl ((y6 + 1) : Int32) fun x29 =>
   rec81 y4 x28 x29 σ27)
def s_Model_rests_81 (p0 : Int32) (p1 : Int32) : Nat → Int32 → Int32 → Int32 → LH → Option (Int32 × LH)
  | 0, _, _, _, _ => none
  | n + 1, y4, y5, y6, σ => s_Model_rests_81_b p0 p1 (s_Model_rests_81 p0 p1 n) y4 y5 y6 σ
theorem bb_Model_rests_81 {G : XG} {l : Launch} {p : Program} {e : Env} {R : Room} {s : State} {m : MethodId} {args : Array Value} {below : List Frame} {meth : Method} {c : Code} (C : XC G 570 598 p s m args c prog_14_method_94_code 7 R_Model) (hr : meth.sig.returnType = (some .int)) (hk : meth.locks = false) {d : Nat} (hd : 127 ≤ d + 1) (hR : xroom R (d + 1)) {p0 : Int32} {p1 : Int32} {rec81 : Int32 → Int32 → Int32 → LH → Option (Int32 × LH)} {σ' : LH} {r : Int32} (hrec81 : ∀ (y4 : Int32) (y5 : Int32) (y6 : Int32) (σ : LH), rec81 y4 y5 y6 σ = some (r, σ') → XJ G 570 598 p l e R s m args below meth c 7 (XQ G 570 598 below args s (some (.int r)) σ') 0 0 81 [(0, .ref (G.2.2.1 + 570)), (4, .int y4), (5, .int y5), (6, .int y6)] [] σ) {y4 : Int32} {y5 : Int32} {y6 : Int32} {σ : LH} (h0 : s_Model_rests_81_b p0 p1 rec81 y4 y5 y6 σ = some (r, σ')) : XJ G 570 598 p l e R s m args below meth c 7 (XQ G 570 598 below args s (some (.int r)) σ') 0 0 81 [(0, .ref (G.2.2.1 + 570)), (4, .int y4), (5, .int y5), (6, .int y6)] [] σ := by
  replace h0 := (show _ = _ from h0)
  unfold s_Model_rests_81_b at h0
  refine x_iload C d_Model_rests_81 3 rfl ?_
  refine x_aload_n C d_Model_rests_83 0 rfl ?_
  refine x_getI (y := 0) C fg_Model_466 k_570 rfl d_Model_rests_84 ?_
  refine x_icmp_ge C 112 d_Model_rests_87 (by decide) (fun q24 => ?_) (fun q24 => ?_)
  · replace h0 := xit q24 h0
    refine x_iload C d_Model_rests_112 2 rfl ?_
    exact x_iret C hr hk h0 d_Model_rests_114
  · replace h0 := xif q24 h0
    refine x_bipush (v := 10) C d_Model_rests_90 (by decide) ?_
    refine x_iload C d_Model_rests_92 2 rfl ?_
    refine x_imul C d_Model_rests_94 ?_
    refine x_aload_n C d_Model_rests_95 0 rfl ?_
    refine x_iload C d_Model_rests_96 1 rfl ?_
    refine x_iload C d_Model_rests_98 3 rfl ?_
    obtain ⟨r26, σ27, k25, h0⟩ := xbind2 h0
    refine x_callVi C hR (c_Model_digitOf (d := d) (by omega) k25) cw_Model_481 k_570 rfl rfl rfl (Nat.le_of_ble_eq_true rfl) ⟨Nat.zero_le _, Nat.zero_le _⟩ d_Model_rests_100 ?_
    refine x_iadd C d_Model_rests_103 ?_
    obtain ⟨x28, ex28, h0⟩ := xlet h0
    refine x_name C ex28 ?_
    refine x_istore (lv' := [(5, .int x28), (0, .ref (G.2.2.1 + 570)), (4, .int y4), (6, .int y6)]) C d_Model_rests_104 (by decide) rfl ?_
    obtain ⟨x29, ex29, h0⟩ := xlet h0
    refine x_iinc (lv' := [(6, .int x29), (5, .int x28), (0, .ref (G.2.2.1 + 570)), (4, .int y4)]) C d_Model_rests_106 3 rfl ex29 (by decide) rfl ?_
    refine x_goto C 81 d_Model_rests_109 (by decide) ?_
    exact x_lv C [2, 3, 1, 0] rfl (hrec81 _ _ _ _ h0)
theorem b_Model_rests_81 {G : XG} {l : Launch} {p : Program} {e : Env} {R : Room} {s : State} {m : MethodId} {args : Array Value} {below : List Frame} {meth : Method} {c : Code} (C : XC G 570 598 p s m args c prog_14_method_94_code 7 R_Model) (hr : meth.sig.returnType = (some .int)) (hk : meth.locks = false) {d : Nat} (hd : 127 ≤ d + 1) (hR : xroom R (d + 1)) {p0 : Int32} {p1 : Int32} {σ' : LH} {r : Int32} : ∀ (n : Nat) (y4 : Int32) (y5 : Int32) (y6 : Int32) (σ : LH), s_Model_rests_81 p0 p1 n y4 y5 y6 σ = some (r, σ') → XJ G 570 598 p l e R s m args below meth c 7 (XQ G 570 598 below args s (some (.int r)) σ') 0 0 81 [(0, .ref (G.2.2.1 + 570)), (4, .int y4), (5, .int y5), (6, .int y6)] [] σ := by
  intro n
  induction n with
  | zero => intro y4 y5 y6 σ h0; cases h0
  | succ n ih => intro y4 y5 y6 σ h0; exact bb_Model_rests_81 C hr hk hd hR ih h0
def s_Model_rests_45_b (p0 : Int32) (p1 : Int32) (rec45 : Int32 → Int32 → LH → Option (Int32 × LH)) (y3 : Int32) (y4 : Int32) (σ : LH) : Option (Int32 × LH) :=
  xb2 (s_Model_power 5 (σ.1 570 51) σ) fun r14 σ15 =>
  if r14 ≤ y4 then (
   if p1 = (-1) then (
    s_Model_rests_134 p0 p1 y3 σ15)
   else (
    s_Model_rests_134 p0 p1 (-1) σ15))
  else (
   xb2 (s_Model_isRest y4 σ15) fun r19 σ20 =>
   if r19 = 0 then (
    s_Model_rests_118 p0 p1 rec45 y3 y4 σ20)
   else (
    if y3 = p1 then (
     s_Model_rests_81 p0 p1 FUEL y4 0 0 σ20)
    else (
     xl ((y3 + 1) : Int32) fun x30 =>
     s_Model_rests_118 p0 p1 rec45 x30 y4 σ20)))
def s_Model_rests_45 (p0 : Int32) (p1 : Int32) : Nat → Int32 → Int32 → LH → Option (Int32 × LH)
  | 0, _, _, _ => none
  | n + 1, y3, y4, σ => s_Model_rests_45_b p0 p1 (s_Model_rests_45 p0 p1 n) y3 y4 σ
theorem bb_Model_rests_45 {G : XG} {l : Launch} {p : Program} {e : Env} {R : Room} {s : State} {m : MethodId} {args : Array Value} {below : List Frame} {meth : Method} {c : Code} (C : XC G 570 598 p s m args c prog_14_method_94_code 7 R_Model) (hr : meth.sig.returnType = (some .int)) (hk : meth.locks = false) {d : Nat} (hd : 127 ≤ d + 1) (hR : xroom R (d + 1)) {p0 : Int32} {p1 : Int32} {rec45 : Int32 → Int32 → LH → Option (Int32 × LH)} {σ' : LH} {r : Int32} (hrec45 : ∀ (y3 : Int32) (y4 : Int32) (σ : LH), rec45 y3 y4 σ = some (r, σ') → XJ G 570 598 p l e R s m args below meth c 7 (XQ G 570 598 below args s (some (.int r)) σ') 0 0 45 [(0, .ref (G.2.2.1 + 570)), (2, .int p1), (3, .int y3), (4, .int y4)] [] σ) {y3 : Int32} {y4 : Int32} {σ : LH} (h0 : s_Model_rests_45_b p0 p1 rec45 y3 y4 σ = some (r, σ')) : XJ G 570 598 p l e R s m args below meth c 7 (XQ G 570 598 below args s (some (.int r)) σ') 0 0 45 [(0, .ref (G.2.2.1 + 570)), (2, .int p1), (3, .int y3), (4, .int y4)] [] σ := by
  replace h0 := (show _ = _ from h0)
  unfold s_Model_rests_45_b at h0
  refine x_iload C d_Model_rests_45 3 rfl ?_
  refine x_iconst (v := 5) C d_Model_rests_47 (by decide) ?_
  refine x_aload_n C d_Model_rests_48 0 rfl ?_
  refine x_getI (y := 0) C fg_Model_466 k_570 rfl d_Model_rests_49 ?_
  obtain ⟨r14, σ15, k13, h0⟩ := xbind2 h0
  refine x_callSi C hR (c_Model_power (d := d) (by omega) k13) cw_Model_478 w_2075 rfl rfl (Nat.le_of_ble_eq_true rfl) ⟨Nat.zero_le _, Nat.zero_le _⟩ d_Model_rests_52 ?_
  refine x_icmp_ge C 124 d_Model_rests_55 (by decide) (fun q16 => ?_) (fun q16 => ?_)
  · replace h0 := xit q16 h0
    refine x_iload_n C d_Model_rests_124 1 rfl ?_
    refine x_iconst (v := (-1)) C d_Model_rests_125 (by decide) ?_
    refine x_icmp_ne C 133 d_Model_rests_126 (by decide) (fun q17 => ?_) (fun q17 => ?_)
    · replace h0 := xif q17 h0
      refine x_iconst (v := (-1)) C d_Model_rests_133 (by decide) ?_
      exact x_lv C [] rfl (b_Model_rests_134 C hr hk hd hR h0)
    · replace h0 := xit q17 h0
      refine x_iload_n C d_Model_rests_129 2 rfl ?_
      refine x_goto C 134 d_Model_rests_130 (by decide) ?_
      exact x_lv C [] rfl (b_Model_rests_134 C hr hk hd hR h0)
  · replace h0 := xif q16 h0
    refine x_aload_n C d_Model_rests_58 0 rfl ?_
    refine x_iload C d_Model_rests_59 3 rfl ?_
    obtain ⟨r19, σ20, k18, h0⟩ := xbind2 h0
    refine x_callVi C hR (c_Model_isRest (d := d) (by omega) k18) cw_Model_487 k_570 rfl rfl rfl (Nat.le_of_ble_eq_true rfl) ⟨Nat.zero_le _, Nat.zero_le _⟩ d_Model_rests_61 ?_
    refine x_if_ne C 70 d_Model_rests_64 (by decide) (fun q21 => ?_) (fun q21 => ?_)
    · replace h0 := xif q21 h0
      refine x_iload_n C d_Model_rests_70 2 rfl ?_
      refine x_iload_n C d_Model_rests_71 1 rfl ?_
      refine x_icmp_ne C 115 d_Model_rests_72 (by decide) (fun q23 => ?_) (fun q23 => ?_)
      · replace h0 := xif q23 h0
        obtain ⟨x30, ex30, h0⟩ := xlet h0
        refine x_iinc (lv' := [(3, .int x30), (0, .ref (G.2.2.1 + 570)), (2, .int p1), (4, .int y4)]) C d_Model_rests_115 2 rfl ex30 (by decide) rfl ?_
        exact x_lv C [1, 2, 0, 3] rfl (b_Model_rests_118 C hr hk hd hR hrec45 h0)
      · replace h0 := xit q23 h0
        refine x_iconst (v := 0) C d_Model_rests_75 (by decide) ?_
        refine x_istore (lv' := [(5, .int 0), (0, .ref (G.2.2.1 + 570)), (2, .int p1), (3, .int y3), (4, .int y4)]) C d_Model_rests_76 (by decide) rfl ?_
        refine x_iconst (v := 0) C d_Model_rests_78 (by decide) ?_
        refine x_istore (lv' := [(6, .int 0), (5, .int 0), (0, .ref (G.2.2.1 + 570)), (2, .int p1), (3, .int y3), (4, .int y4)]) C d_Model_rests_79 (by decide) rfl ?_
        exact x_lv C [2, 5, 1, 0] rfl (b_Model_rests_81 C hr hk hd hR FUEL _ _ _ _ h0)
    · replace h0 := xit q21 h0
      refine x_goto C 118 d_Model_rests_67 (by decide) ?_
      exact x_lv C [0, 1, 2, 3] rfl (b_Model_rests_118 C hr hk hd hR hrec45 h0)
theorem b_Model_rests_45 {G : XG} {l : Launch} {p : Program} {e : Env} {R : Room} {s : State} {m : MethodId} {args : Array Value} {below : List Frame} {meth : Method} {c : Code} (C : XC G 570 598 p s m args c prog_14_method_94_code 7 R_Model) (hr : meth.sig.returnType = (some .int)) (hk : meth.locks = false) {d : Nat} (hd : 127 ≤ d + 1) (hR : xroom R (d + 1)) {p0 : Int32} {p1 : Int32} {σ' : LH} {r : Int32} : ∀ (n : Nat) (y3 : Int32) (y4 : Int32) (σ : LH), s_Model_rests_45 p0 p1 n y3 y4 σ = some (r, σ') → XJ G 570 598 p l e R s m args below meth c 7 (XQ G 570 598 below args s (some (.int r)) σ') 0 0 45 [(0, .ref (G.2.2.1 + 570)), (2, .int p1), (3, .int y3), (4, .int y4)] [] σ := by
  intro n
  induction n with
  | zero => intro y3 y4 σ h0; cases h0
  | succ n ih => intro y3 y4 σ h0; exact bb_Model_rests_45 C hr hk hd hR ih h0
def s_Model_rests (p0 : Int32) (p1 : Int32) (σ : LH) : Option (Int32 × LH) :=
  xl ((stI σ 570 0 0) : LH) fun σ1 =>
  xb2 (s_Model_layHere σ1) fun r3 σ4 =>
  if r3 = 0 then (
   s_Model_rests_24 p0 p1 σ4)
  else (
   xb2 (s_Model_isIn (Int32.toInt64 p0) 0 99 σ4) fun r7 σ8 =>
   if r7 = 0 then (
    s_Model_rests_24 p0 p1 σ8)
   else (
    if (-1) ≤ p1 then (
     xb1 (s_Model_layCalls p0 σ8) fun σ12 =>
     s_Model_rests_45 p0 p1 FUEL 0 0 σ12)
    else (
     some ((-1), σ8))))
theorem c_Model_rests {G : XG} {l : Launch} {d : Nat} (hd : 127 ≤ d) {p0 : Int32} {p1 : Int32} {σ σ' : LH} {r : Int32} (h0 : s_Model_rests p0 p1 σ = some (r, σ')) : xM G 570 598 l y_Model_rests prog_14_method_94_code 7 (some .int) d [.ref (G.2.2.1 + 570), .int p0, .int p1] σ (some (.int r)) σ' := by
  obtain ⟨d, rfl⟩ : ∃ q, d = q + 1 := ⟨d - 1, by omega⟩
  refine x_met R_Model rfl (by decide +kernel) (Nat.le_of_ble_eq_true rfl) fun p e s m below meth c C hr hk hR => ?_
  refine x_lv (lv' := [(0, .ref (G.2.2.1 + 570)), (1, .int p0), (2, .int p1)]) C [0, 1, 2] rfl ?_
  generalize xrm (d + 1) = R at hR ⊢
  unfold s_Model_rests at h0
  refine x_aload_n C d_Model_rests_0 0 rfl ?_
  refine x_iconst (v := 0) C d_Model_rests_1 (by decide) ?_
  refine x_putI (y := 0) C fp_Model_114 k_570 rfl rfl rfl d_Model_rests_2 ?_
  obtain ⟨σ1, eσ1, h0⟩ := xlet h0
  refine x_sig C eσ1 ?_
  refine x_aload_n C d_Model_rests_5 0 rfl ?_
  obtain ⟨r3, σ4, k2, h0⟩ := xbind2 h0
  refine x_callVi C hR (c_Model_layHere (d := d) (by omega) k2) cw_Model_469 k_570 rfl rfl rfl (Nat.le_of_ble_eq_true rfl) ⟨Nat.zero_le _, Nat.zero_le _⟩ d_Model_rests_6 ?_
  refine x_if_eq C 24 d_Model_rests_9 (by decide) (fun q5 => ?_) (fun q5 => ?_)
  · replace h0 := xit q5 h0
    exact x_lv C [] rfl (b_Model_rests_24 C hr hk hd hR h0)
  · replace h0 := xif q5 h0
    refine x_iload_n C d_Model_rests_12 1 rfl ?_
    refine x_i2l C d_Model_rests_13 ?_
    refine x_lconst (v := 0) C d_Model_rests_14 (by decide) ?_
    refine x_ldc2 (v := 99) C w_1877 d_Model_rests_15 ?_
    obtain ⟨r7, σ8, k6, h0⟩ := xbind2 h0
    refine x_callSi C hR (c_Model_isIn (d := d) (by omega) k6) cw_Model_235 w_1695 rfl rfl (Nat.le_of_ble_eq_true rfl) ⟨Nat.zero_le _, Nat.zero_le _⟩ d_Model_rests_18 ?_
    refine x_if_ne C 28 d_Model_rests_21 (by decide) (fun q9 => ?_) (fun q9 => ?_)
    · replace h0 := xif q9 h0
      refine x_iload_n C d_Model_rests_28 2 rfl ?_
      refine x_iconst (v := (-1)) C d_Model_rests_29 (by decide) ?_
      refine x_icmp_ge C 35 d_Model_rests_30 (by decide) (fun q10 => ?_) (fun q10 => ?_)
      · replace h0 := xit q10 h0
        refine x_aload_n C d_Model_rests_35 0 rfl ?_
        refine x_iload_n C d_Model_rests_36 1 rfl ?_
        obtain ⟨σ12, k11, h0⟩ := xbind1 h0
        refine x_callVv C hR (c_Model_layCalls (d := d) (by omega) k11) cw_Model_484 k_570 rfl rfl rfl (Nat.le_of_ble_eq_true rfl) ⟨Nat.zero_le _, Nat.zero_le _⟩ d_Model_rests_37 ?_
        refine x_iconst (v := 0) C d_Model_rests_40 (by decide) ?_
        refine x_istore_n (lv' := [(3, .int 0), (0, .ref (G.2.2.1 + 570)), (1, .int p0), (2, .int p1)]) C d_Model_rests_41 rfl (by decide) rfl ?_
        refine x_iconst (v := 0) C d_Model_rests_42 (by decide) ?_
        refine x_istore (lv' := [(4, .int 0), (3, .int 0), (0, .ref (G.2.2.1 + 570)), (1, .int p0), (2, .int p1)]) C d_Model_rests_43 (by decide) rfl ?_
        exact x_lv C [2, 4, 1, 0] rfl (b_Model_rests_45 C hr hk hd hR FUEL _ _ _ h0)
      · replace h0 := xif q10 h0
        refine x_iconst (v := (-1)) C d_Model_rests_33 (by decide) ?_
        exact x_iret C hr hk h0 d_Model_rests_34
    · replace h0 := xit q9 h0
      exact x_lv C [] rfl (b_Model_rests_24 C hr hk hd hR h0)
-- LostPlacesModel.broken(I)I
theorem d_Model_broken_0 : decode prog_14_method_95_code 0 = .ok (.aload_n 0, 1) := by decide +kernel
theorem d_Model_broken_1 : decode prog_14_method_95_code 1 = .ok (.iconst 0, 1) := by decide +kernel
theorem d_Model_broken_2 : decode prog_14_method_95_code 2 = .ok (.putfield 114, 3) := by decide +kernel
theorem d_Model_broken_5 : decode prog_14_method_95_code 5 = .ok (.aload_n 0, 1) := by decide +kernel
theorem d_Model_broken_6 : decode prog_14_method_95_code 6 = .ok (.iload_n 1, 1) := by decide +kernel
theorem d_Model_broken_7 : decode prog_14_method_95_code 7 = .ok (.invokevirtual 412, 3) := by decide +kernel
theorem d_Model_broken_10 : decode prog_14_method_95_code 10 = .ok (.ifCond .eq 11, 3) := by decide +kernel
theorem d_Model_broken_13 : decode prog_14_method_95_code 13 = .ok (.aload_n 0, 1) := by decide +kernel
theorem d_Model_broken_14 : decode prog_14_method_95_code 14 = .ok (.invokevirtual 423, 3) := by decide +kernel
theorem d_Model_broken_17 : decode prog_14_method_95_code 17 = .ok (.iconst 2, 1) := by decide +kernel
theorem d_Model_broken_18 : decode prog_14_method_95_code 18 = .ok (.if_icmp .ge 7, 3) := by decide +kernel
theorem d_Model_broken_21 : decode prog_14_method_95_code 21 = .ok (.ldc_w 422, 3) := by decide +kernel
theorem d_Model_broken_24 : decode prog_14_method_95_code 24 = .ok (.ireturn, 1) := by decide +kernel
theorem d_Model_broken_25 : decode prog_14_method_95_code 25 = .ok (.aload_n 0, 1) := by decide +kernel
theorem d_Model_broken_26 : decode prog_14_method_95_code 26 = .ok (.getfield 61, 3) := by decide +kernel
theorem d_Model_broken_29 : decode prog_14_method_95_code 29 = .ok (.aload_n 0, 1) := by decide +kernel
theorem d_Model_broken_30 : decode prog_14_method_95_code 30 = .ok (.getfield 64, 3) := by decide +kernel
theorem d_Model_broken_33 : decode prog_14_method_95_code 33 = .ok (.invokestatic 447, 3) := by decide +kernel
theorem d_Model_broken_36 : decode prog_14_method_95_code 36 = .ok (.iconst 0, 1) := by decide +kernel
theorem d_Model_broken_37 : decode prog_14_method_95_code 37 = .ok (.istore_n 2, 1) := by decide +kernel
theorem d_Model_broken_38 : decode prog_14_method_95_code 38 = .ok (.iload_n 2, 1) := by decide +kernel
theorem d_Model_broken_39 : decode prog_14_method_95_code 39 = .ok (.aload_n 0, 1) := by decide +kernel
theorem d_Model_broken_40 : decode prog_14_method_95_code 40 = .ok (.getfield 305, 3) := by decide +kernel
theorem d_Model_broken_43 : decode prog_14_method_95_code 43 = .ok (.if_icmp .ge 31, 3) := by decide +kernel
theorem d_Model_broken_46 : decode prog_14_method_95_code 46 = .ok (.aload_n 0, 1) := by decide +kernel
theorem d_Model_broken_47 : decode prog_14_method_95_code 47 = .ok (.getfield 64, 3) := by decide +kernel
theorem d_Model_broken_50 : decode prog_14_method_95_code 50 = .ok (.iload_n 2, 1) := by decide +kernel
theorem d_Model_broken_51 : decode prog_14_method_95_code 51 = .ok (.invokestatic 361, 3) := by decide +kernel
theorem d_Model_broken_54 : decode prog_14_method_95_code 54 = .ok (.ifCond .eq 14, 3) := by decide +kernel
theorem d_Model_broken_57 : decode prog_14_method_95_code 57 = .ok (.aload_n 0, 1) := by decide +kernel
theorem d_Model_broken_58 : decode prog_14_method_95_code 58 = .ok (.aload_n 0, 1) := by decide +kernel
theorem d_Model_broken_59 : decode prog_14_method_95_code 59 = .ok (.getfield 64, 3) := by decide +kernel
theorem d_Model_broken_62 : decode prog_14_method_95_code 62 = .ok (.iload_n 2, 1) := by decide +kernel
theorem d_Model_broken_63 : decode prog_14_method_95_code 63 = .ok (.iconst 1, 1) := by decide +kernel
theorem d_Model_broken_64 : decode prog_14_method_95_code 64 = .ok (.iconst 0, 1) := by decide +kernel
theorem d_Model_broken_65 : decode prog_14_method_95_code 65 = .ok (.invokevirtual 387, 3) := by decide +kernel
theorem d_Model_broken_68 : decode prog_14_method_95_code 68 = .ok (.iinc 2 1, 3) := by decide +kernel
theorem d_Model_broken_71 : decode prog_14_method_95_code 71 = .ok (.goto (-33), 3) := by decide +kernel
theorem d_Model_broken_74 : decode prog_14_method_95_code 74 = .ok (.aload_n 0, 1) := by decide +kernel
theorem d_Model_broken_75 : decode prog_14_method_95_code 75 = .ok (.aload_n 0, 1) := by decide +kernel
theorem d_Model_broken_76 : decode prog_14_method_95_code 76 = .ok (.getfield 64, 3) := by decide +kernel
theorem d_Model_broken_79 : decode prog_14_method_95_code 79 = .ok (.invokevirtual 404, 3) := by decide +kernel
theorem d_Model_broken_82 : decode prog_14_method_95_code 82 = .ok (.aload_n 0, 1) := by decide +kernel
theorem d_Model_broken_83 : decode prog_14_method_95_code 83 = .ok (.aload_n 0, 1) := by decide +kernel
theorem d_Model_broken_84 : decode prog_14_method_95_code 84 = .ok (.getfield 64, 3) := by decide +kernel
theorem d_Model_broken_87 : decode prog_14_method_95_code 87 = .ok (.invokevirtual 401, 3) := by decide +kernel
theorem d_Model_broken_90 : decode prog_14_method_95_code 90 = .ok (.aload_n 0, 1) := by decide +kernel
theorem d_Model_broken_91 : decode prog_14_method_95_code 91 = .ok (.getfield 64, 3) := by decide +kernel
theorem d_Model_broken_94 : decode prog_14_method_95_code 94 = .ok (.iconst 4, 1) := by decide +kernel
theorem d_Model_broken_95 : decode prog_14_method_95_code 95 = .ok (.iload_n 1, 1) := by decide +kernel
theorem d_Model_broken_96 : decode prog_14_method_95_code 96 = .ok (.imul, 1) := by decide +kernel
theorem d_Model_broken_97 : decode prog_14_method_95_code 97 = .ok (.iaload, 1) := by decide +kernel
theorem d_Model_broken_98 : decode prog_14_method_95_code 98 = .ok (.ireturn, 1) := by decide +kernel
def s_Model_broken_21 (p0 : Int32) (σ : LH) : Option (Int32 × LH) :=
  some ((-1000000), σ)
theorem b_Model_broken_21 {G : XG} {l : Launch} {p : Program} {e : Env} {R : Room} {s : State} {m : MethodId} {args : Array Value} {below : List Frame} {meth : Method} {c : Code} (C : XC G 570 598 p s m args c prog_14_method_95_code 3 R_Model) (hr : meth.sig.returnType = (some .int)) (hk : meth.locks = false) {d : Nat} (hd : 124 ≤ d + 1) (hR : xroom R (d + 1)) {p0 : Int32} {σ' : LH} {r : Int32} {σ : LH} (h0 : s_Model_broken_21 p0 σ = some (r, σ')) : XJ G 570 598 p l e R s m args below meth c 3 (XQ G 570 598 below args s (some (.int r)) σ') 0 0 21 [] [] σ := by
  replace h0 := (show _ = _ from h0)
  unfold s_Model_broken_21 at h0
  refine x_ldcw (v := (-1000000)) C w_1899 d_Model_broken_21 ?_
  exact x_iret C hr hk h0 d_Model_broken_24
def s_Model_broken_68 (p0 : Int32) (rec38 : Int32 → LH → Option (Int32 × LH)) (y2 : Int32) (σ : LH) : Option (Int32 × LH) :=
  xl ((y2 + 1) : Int32) fun x22 =>
  rec38 x22 σ
theorem b_Model_broken_68 {G : XG} {l : Launch} {p : Program} {e : Env} {R : Room} {s : State} {m : MethodId} {args : Array Value} {below : List Frame} {meth : Method} {c : Code} (C : XC G 570 598 p s m args c prog_14_method_95_code 3 R_Model) (hr : meth.sig.returnType = (some .int)) (hk : meth.locks = false) {d : Nat} (hd : 124 ≤ d + 1) (hR : xroom R (d + 1)) {p0 : Int32} {rec38 : Int32 → LH → Option (Int32 × LH)} {σ' : LH} {r : Int32} (hrec38 : ∀ (y2 : Int32) (σ : LH), rec38 y2 σ = some (r, σ') → XJ G 570 598 p l e R s m args below meth c 3 (XQ G 570 598 below args s (some (.int r)) σ') 0 0 38 [(0, .ref (G.2.2.1 + 570)), (1, .int p0), (2, .int y2)] [] σ) {y2 : Int32} {σ : LH} (h0 : s_Model_broken_68 p0 rec38 y2 σ = some (r, σ')) : XJ G 570 598 p l e R s m args below meth c 3 (XQ G 570 598 below args s (some (.int r)) σ') 0 0 68 [(0, .ref (G.2.2.1 + 570)), (1, .int p0), (2, .int y2)] [] σ := by
  replace h0 := (show _ = _ from h0)
  unfold s_Model_broken_68 at h0
  obtain ⟨x22, ex22, h0⟩ := xlet h0
  refine x_iinc (lv' := [(2, .int x22), (0, .ref (G.2.2.1 + 570)), (1, .int p0)]) C d_Model_broken_68 2 rfl ex22 (by decide) rfl ?_
  refine x_goto C 38 d_Model_broken_71 (by decide) ?_
  exact x_lv C [1, 2, 0] rfl (hrec38 _ _ h0)
def s_Model_broken_38_b (p0 : Int32) (rec38 : Int32 → LH → Option (Int32 × LH)) (y2 : Int32) (σ : LH) : Option (Int32 × LH) :=
  if (σ.1 570 27) ≤ y2 then (
   xb1 (s_Model_goMinute 584 σ) fun σ14 =>
   xb1 (s_Model_halfMinute 584 σ14) fun σ16 =>
   if ib (4 * p0) 290 then (
   some ((σ16.1 584 (Int32.toNatClampNeg (4 * p0))), σ16)) else none)
  else (
   xb2 (s_Model_isHere 584 y2 σ) fun r19 σ20 =>
   if r19 = 0 then (
    s_Model_broken_68 p0 rec38 y2 σ20)
   else (
    xb1 (s_Model_goesUp 584 y2 1 0 σ20) fun σ24 =>
    s_Model_broken_68 p0 rec38 y2 σ24))
def s_Model_broken_38 (p0 : Int32) : Nat → Int32 → LH → Option (Int32 × LH)
  | 0, _, _ => none
  | n + 1, y2, σ => s_Model_broken_38_b p0 (s_Model_broken_38 p0 n) y2 σ
theorem bb_Model_broken_38 {G : XG} {l : Launch} {p : Program} {e : Env} {R : Room} {s : State} {m : MethodId} {args : Array Value} {below : List Frame} {meth : Method} {c : Code} (C : XC G 570 598 p s m args c prog_14_method_95_code 3 R_Model) (hr : meth.sig.returnType = (some .int)) (hk : meth.locks = false) {d : Nat} (hd : 124 ≤ d + 1) (hR : xroom R (d + 1)) {p0 : Int32} {rec38 : Int32 → LH → Option (Int32 × LH)} {σ' : LH} {r : Int32} (hrec38 : ∀ (y2 : Int32) (σ : LH), rec38 y2 σ = some (r, σ') → XJ G 570 598 p l e R s m args below meth c 3 (XQ G 570 598 below args s (some (.int r)) σ') 0 0 38 [(0, .ref (G.2.2.1 + 570)), (1, .int p0), (2, .int y2)] [] σ) {y2 : Int32} {σ : LH} (h0 : s_Model_broken_38_b p0 rec38 y2 σ = some (r, σ')) : XJ G 570 598 p l e R s m args below meth c 3 (XQ G 570 598 below args s (some (.int r)) σ') 0 0 38 [(0, .ref (G.2.2.1 + 570)), (1, .int p0), (2, .int y2)] [] σ := by
  replace h0 := (show _ = _ from h0)
  unfold s_Model_broken_38_b at h0
  refine x_iload_n C d_Model_broken_38 2 rfl ?_
  refine x_aload_n C d_Model_broken_39 0 rfl ?_
  refine x_getI (y := 0) C fg_Model_305 k_570 rfl d_Model_broken_40 ?_
  refine x_icmp_ge C 74 d_Model_broken_43 (by decide) (fun q12 => ?_) (fun q12 => ?_)
  · replace h0 := xit q12 h0
    refine x_aload_n C d_Model_broken_74 0 rfl ?_
    refine x_aload_n C d_Model_broken_75 0 rfl ?_
    refine x_getA (y := 584) C fg_Model_64 k_570 rfl d_Model_broken_76 ?_
    obtain ⟨σ14, k13, h0⟩ := xbind1 h0
    refine x_callVv C hR (c_Model_goMinute (d := d) (by omega) k_584 k13) cw_Model_404 k_570 rfl rfl rfl (Nat.le_of_ble_eq_true rfl) ⟨Nat.zero_le _, Nat.zero_le _⟩ d_Model_broken_79 ?_
    refine x_aload_n C d_Model_broken_82 0 rfl ?_
    refine x_aload_n C d_Model_broken_83 0 rfl ?_
    refine x_getA (y := 584) C fg_Model_64 k_570 rfl d_Model_broken_84 ?_
    obtain ⟨σ16, k15, h0⟩ := xbind1 h0
    refine x_callVv C hR (c_Model_halfMinute (d := d) (by omega) k_584 k15) cw_Model_401 k_570 rfl rfl rfl (Nat.le_of_ble_eq_true rfl) ⟨Nat.zero_le _, Nat.zero_le _⟩ d_Model_broken_87 ?_
    refine x_aload_n C d_Model_broken_90 0 rfl ?_
    refine x_getA (y := 584) C fg_Model_64 k_570 rfl d_Model_broken_91 ?_
    refine x_iconst (v := 4) C d_Model_broken_94 (by decide) ?_
    refine x_iload_n C d_Model_broken_95 1 rfl ?_
    refine x_imul C d_Model_broken_96 ?_
    obtain ⟨g17, h0⟩ := xgo h0
    refine x_iald C k_584 (ib_in g17) d_Model_broken_97 ?_
    exact x_iret C hr hk h0 d_Model_broken_98
  · replace h0 := xif q12 h0
    refine x_aload_n C d_Model_broken_46 0 rfl ?_
    refine x_getA (y := 584) C fg_Model_64 k_570 rfl d_Model_broken_47 ?_
    refine x_iload_n C d_Model_broken_50 2 rfl ?_
    obtain ⟨r19, σ20, k18, h0⟩ := xbind2 h0
    refine x_callSi C hR (c_Model_isHere (d := d) (by omega) k_584 k18) cw_Model_361 w_1905 rfl rfl (Nat.le_of_ble_eq_true rfl) ⟨Nat.zero_le _, Nat.zero_le _⟩ d_Model_broken_51 ?_
    refine x_if_eq C 68 d_Model_broken_54 (by decide) (fun q21 => ?_) (fun q21 => ?_)
    · replace h0 := xit q21 h0
      exact x_lv C [0, 1, 2] rfl (b_Model_broken_68 C hr hk hd hR hrec38 h0)
    · replace h0 := xif q21 h0
      refine x_aload_n C d_Model_broken_57 0 rfl ?_
      refine x_aload_n C d_Model_broken_58 0 rfl ?_
      refine x_getA (y := 584) C fg_Model_64 k_570 rfl d_Model_broken_59 ?_
      refine x_iload_n C d_Model_broken_62 2 rfl ?_
      refine x_iconst (v := 1) C d_Model_broken_63 (by decide) ?_
      refine x_iconst (v := 0) C d_Model_broken_64 (by decide) ?_
      obtain ⟨σ24, k23, h0⟩ := xbind1 h0
      refine x_callVv C hR (c_Model_goesUp (d := d) (by omega) k_584 k23) cw_Model_387 k_570 rfl rfl rfl (Nat.le_of_ble_eq_true rfl) ⟨Nat.zero_le _, Nat.zero_le _⟩ d_Model_broken_65 ?_
      exact x_lv C [0, 1, 2] rfl (b_Model_broken_68 C hr hk hd hR hrec38 h0)
theorem b_Model_broken_38 {G : XG} {l : Launch} {p : Program} {e : Env} {R : Room} {s : State} {m : MethodId} {args : Array Value} {below : List Frame} {meth : Method} {c : Code} (C : XC G 570 598 p s m args c prog_14_method_95_code 3 R_Model) (hr : meth.sig.returnType = (some .int)) (hk : meth.locks = false) {d : Nat} (hd : 124 ≤ d + 1) (hR : xroom R (d + 1)) {p0 : Int32} {σ' : LH} {r : Int32} : ∀ (n : Nat) (y2 : Int32) (σ : LH), s_Model_broken_38 p0 n y2 σ = some (r, σ') → XJ G 570 598 p l e R s m args below meth c 3 (XQ G 570 598 below args s (some (.int r)) σ') 0 0 38 [(0, .ref (G.2.2.1 + 570)), (1, .int p0), (2, .int y2)] [] σ := by
  intro n
  induction n with
  | zero => intro y2 σ h0; cases h0
  | succ n ih => intro y2 σ h0; exact bb_Model_broken_38 C hr hk hd hR ih h0
def s_Model_broken (p0 : Int32) (σ : LH) : Option (Int32 × LH) :=
  xl ((stI σ 570 0 0) : LH) fun σ1 =>
  xb2 (s_Model_isSitter p0 σ1) fun r3 σ4 =>
  if r3 = 0 then (
   s_Model_broken_21 p0 σ4)
  else (
   xb2 (s_Model_left σ4) fun r7 σ8 =>
   if 2 ≤ r7 then (
    xb1 (s_Model_copy 583 584 σ8) fun σ11 =>
    s_Model_broken_38 p0 FUEL 0 σ11)
   else (
    s_Model_broken_21 p0 σ8))
theorem c_Model_broken {G : XG} {l : Launch} {d : Nat} (hd : 124 ≤ d) {p0 : Int32} {σ σ' : LH} {r : Int32} (h0 : s_Model_broken p0 σ = some (r, σ')) : xM G 570 598 l y_Model_broken prog_14_method_95_code 3 (some .int) d [.ref (G.2.2.1 + 570), .int p0] σ (some (.int r)) σ' := by
  obtain ⟨d, rfl⟩ : ∃ q, d = q + 1 := ⟨d - 1, by omega⟩
  refine x_met R_Model rfl (by decide +kernel) (Nat.le_of_ble_eq_true rfl) fun p e s m below meth c C hr hk hR => ?_
  refine x_lv (lv' := [(0, .ref (G.2.2.1 + 570)), (1, .int p0)]) C [0, 1] rfl ?_
  generalize xrm (d + 1) = R at hR ⊢
  unfold s_Model_broken at h0
  refine x_aload_n C d_Model_broken_0 0 rfl ?_
  refine x_iconst (v := 0) C d_Model_broken_1 (by decide) ?_
  refine x_putI (y := 0) C fp_Model_114 k_570 rfl rfl rfl d_Model_broken_2 ?_
  obtain ⟨σ1, eσ1, h0⟩ := xlet h0
  refine x_sig C eσ1 ?_
  refine x_aload_n C d_Model_broken_5 0 rfl ?_
  refine x_iload_n C d_Model_broken_6 1 rfl ?_
  obtain ⟨r3, σ4, k2, h0⟩ := xbind2 h0
  refine x_callVi C hR (c_Model_isSitter (d := d) (by omega) k2) cw_Model_412 k_570 rfl rfl rfl (Nat.le_of_ble_eq_true rfl) ⟨Nat.zero_le _, Nat.zero_le _⟩ d_Model_broken_7 ?_
  refine x_if_eq C 21 d_Model_broken_10 (by decide) (fun q5 => ?_) (fun q5 => ?_)
  · replace h0 := xit q5 h0
    exact x_lv C [] rfl (b_Model_broken_21 C hr hk hd hR h0)
  · replace h0 := xif q5 h0
    refine x_aload_n C d_Model_broken_13 0 rfl ?_
    obtain ⟨r7, σ8, k6, h0⟩ := xbind2 h0
    refine x_callVi C hR (c_Model_left (d := d) (by omega) k6) cw_Model_423 k_570 rfl rfl rfl (Nat.le_of_ble_eq_true rfl) ⟨Nat.zero_le _, Nat.zero_le _⟩ d_Model_broken_14 ?_
    refine x_iconst (v := 2) C d_Model_broken_17 (by decide) ?_
    refine x_icmp_ge C 25 d_Model_broken_18 (by decide) (fun q9 => ?_) (fun q9 => ?_)
    · replace h0 := xit q9 h0
      refine x_aload_n C d_Model_broken_25 0 rfl ?_
      refine x_getA (y := 583) C fg_Model_61 k_570 rfl d_Model_broken_26 ?_
      refine x_aload_n C d_Model_broken_29 0 rfl ?_
      refine x_getA (y := 584) C fg_Model_64 k_570 rfl d_Model_broken_30 ?_
      obtain ⟨σ11, k10, h0⟩ := xbind1 h0
      refine x_callSv C hR (c_Model_copy (d := d) (by omega) k_583 k_584 k10) cw_Model_447 w_2011 rfl rfl (Nat.le_of_ble_eq_true rfl) ⟨Nat.zero_le _, Nat.zero_le _⟩ d_Model_broken_33 ?_
      refine x_iconst (v := 0) C d_Model_broken_36 (by decide) ?_
      refine x_istore_n (lv' := [(2, .int 0), (0, .ref (G.2.2.1 + 570)), (1, .int p0)]) C d_Model_broken_37 rfl (by decide) rfl ?_
      exact x_lv C [1, 2, 0] rfl (b_Model_broken_38 C hr hk hd hR FUEL _ _ h0)
    · replace h0 := xif q9 h0
      exact x_lv C [] rfl (b_Model_broken_21 C hr hk hd hR h0)
-- LostPlacesModel.digitsIn([II)I
theorem d_Model_digitsIn_0 : decode prog_14_method_96_code 0 = .ok (.iconst 0, 1) := by decide +kernel
theorem d_Model_digitsIn_1 : decode prog_14_method_96_code 1 = .ok (.istore_n 2, 1) := by decide +kernel
theorem d_Model_digitsIn_2 : decode prog_14_method_96_code 2 = .ok (.iconst 0, 1) := by decide +kernel
theorem d_Model_digitsIn_3 : decode prog_14_method_96_code 3 = .ok (.istore_n 3, 1) := by decide +kernel
theorem d_Model_digitsIn_4 : decode prog_14_method_96_code 4 = .ok (.iload_n 3, 1) := by decide +kernel
theorem d_Model_digitsIn_5 : decode prog_14_method_96_code 5 = .ok (.iload_n 1, 1) := by decide +kernel
theorem d_Model_digitsIn_6 : decode prog_14_method_96_code 6 = .ok (.if_icmp .ge 18, 3) := by decide +kernel
theorem d_Model_digitsIn_9 : decode prog_14_method_96_code 9 = .ok (.bipush 10, 2) := by decide +kernel
theorem d_Model_digitsIn_11 : decode prog_14_method_96_code 11 = .ok (.iload_n 2, 1) := by decide +kernel
theorem d_Model_digitsIn_12 : decode prog_14_method_96_code 12 = .ok (.imul, 1) := by decide +kernel
theorem d_Model_digitsIn_13 : decode prog_14_method_96_code 13 = .ok (.aload_n 0, 1) := by decide +kernel
theorem d_Model_digitsIn_14 : decode prog_14_method_96_code 14 = .ok (.iload_n 3, 1) := by decide +kernel
theorem d_Model_digitsIn_15 : decode prog_14_method_96_code 15 = .ok (.iaload, 1) := by decide +kernel
theorem d_Model_digitsIn_16 : decode prog_14_method_96_code 16 = .ok (.iadd, 1) := by decide +kernel
theorem d_Model_digitsIn_17 : decode prog_14_method_96_code 17 = .ok (.istore_n 2, 1) := by decide +kernel
theorem d_Model_digitsIn_18 : decode prog_14_method_96_code 18 = .ok (.iinc 3 1, 3) := by decide +kernel
theorem d_Model_digitsIn_21 : decode prog_14_method_96_code 21 = .ok (.goto (-17), 3) := by decide +kernel
theorem d_Model_digitsIn_24 : decode prog_14_method_96_code 24 = .ok (.iload_n 2, 1) := by decide +kernel
theorem d_Model_digitsIn_25 : decode prog_14_method_96_code 25 = .ok (.ireturn, 1) := by decide +kernel
def s_Model_digitsIn_4_b (p0 : Nat) (p1 : Int32) (rec4 : Int32 → Int32 → LH → Option (Int32 × LH)) (y2 : Int32) (y3 : Int32) (σ : LH) : Option (Int32 × LH) :=
  if p1 ≤ y3 then (
   some (y2, σ))
  else (
   if ib y3 8 then (
   xl ((((10 * y2) + (σ.1 p0 (Int32.toNatClampNeg y3)))) : Int32) fun x3 =>
   xl ((y3 + 1) : Int32) fun x4 =>
   rec4 x3 x4 σ) else none)
def s_Model_digitsIn_4 (p0 : Nat) (p1 : Int32) : Nat → Int32 → Int32 → LH → Option (Int32 × LH)
  | 0, _, _, _ => none
  | n + 1, y2, y3, σ => s_Model_digitsIn_4_b p0 p1 (s_Model_digitsIn_4 p0 p1 n) y2 y3 σ
theorem bb_Model_digitsIn_4 {G : XG} {l : Launch} {p : Program} {e : Env} {R : Room} {s : State} {m : MethodId} {args : Array Value} {below : List Frame} {meth : Method} {c : Code} (C : XC G 570 598 p s m args c prog_14_method_96_code 4 R_Model) (hr : meth.sig.returnType = (some .int)) (hk : meth.locks = false) {d : Nat} (hd : 1 ≤ d + 1) (hR : xroom R (d + 1)) {p0 : Nat} {p1 : Int32} (hp0 : xin 570 598 p0 (2, 8, 0)) {rec4 : Int32 → Int32 → LH → Option (Int32 × LH)} {σ' : LH} {r : Int32} (hrec4 : ∀ (y2 : Int32) (y3 : Int32) (σ : LH), rec4 y2 y3 σ = some (r, σ') → XJ G 570 598 p l e R s m args below meth c 4 (XQ G 570 598 below args s (some (.int r)) σ') 0 0 4 [(0, .ref (G.2.2.1 + p0)), (1, .int p1), (2, .int y2), (3, .int y3)] [] σ) {y2 : Int32} {y3 : Int32} {σ : LH} (h0 : s_Model_digitsIn_4_b p0 p1 rec4 y2 y3 σ = some (r, σ')) : XJ G 570 598 p l e R s m args below meth c 4 (XQ G 570 598 below args s (some (.int r)) σ') 0 0 4 [(0, .ref (G.2.2.1 + p0)), (1, .int p1), (2, .int y2), (3, .int y3)] [] σ := by
  replace h0 := (show _ = _ from h0)
  unfold s_Model_digitsIn_4_b at h0
  refine x_iload_n C d_Model_digitsIn_4 3 rfl ?_
  refine x_iload_n C d_Model_digitsIn_5 1 rfl ?_
  refine x_icmp_ge C 24 d_Model_digitsIn_6 (by decide) (fun q1 => ?_) (fun q1 => ?_)
  · replace h0 := xit q1 h0
    refine x_iload_n C d_Model_digitsIn_24 2 rfl ?_
    exact x_iret C hr hk h0 d_Model_digitsIn_25
  · replace h0 := xif q1 h0
    refine x_bipush (v := 10) C d_Model_digitsIn_9 (by decide) ?_
    refine x_iload_n C d_Model_digitsIn_11 2 rfl ?_
    refine x_imul C d_Model_digitsIn_12 ?_
    refine x_aload_n C d_Model_digitsIn_13 0 rfl ?_
    refine x_iload_n C d_Model_digitsIn_14 3 rfl ?_
    obtain ⟨g2, h0⟩ := xgo h0
    refine x_iald C hp0 (ib_in g2) d_Model_digitsIn_15 ?_
    refine x_iadd C d_Model_digitsIn_16 ?_
    obtain ⟨x3, ex3, h0⟩ := xlet h0
    refine x_name C ex3 ?_
    refine x_istore_n (lv' := [(2, .int x3), (0, .ref (G.2.2.1 + p0)), (1, .int p1), (3, .int y3)]) C d_Model_digitsIn_17 rfl (by decide) rfl ?_
    obtain ⟨x4, ex4, h0⟩ := xlet h0
    refine x_iinc (lv' := [(3, .int x4), (2, .int x3), (0, .ref (G.2.2.1 + p0)), (1, .int p1)]) C d_Model_digitsIn_18 3 rfl ex4 (by decide) rfl ?_
    refine x_goto C 4 d_Model_digitsIn_21 (by decide) ?_
    exact x_lv C [2, 3, 1, 0] rfl (hrec4 _ _ _ h0)
theorem b_Model_digitsIn_4 {G : XG} {l : Launch} {p : Program} {e : Env} {R : Room} {s : State} {m : MethodId} {args : Array Value} {below : List Frame} {meth : Method} {c : Code} (C : XC G 570 598 p s m args c prog_14_method_96_code 4 R_Model) (hr : meth.sig.returnType = (some .int)) (hk : meth.locks = false) {d : Nat} (hd : 1 ≤ d + 1) (hR : xroom R (d + 1)) {p0 : Nat} {p1 : Int32} (hp0 : xin 570 598 p0 (2, 8, 0)) {σ' : LH} {r : Int32} : ∀ (n : Nat) (y2 : Int32) (y3 : Int32) (σ : LH), s_Model_digitsIn_4 p0 p1 n y2 y3 σ = some (r, σ') → XJ G 570 598 p l e R s m args below meth c 4 (XQ G 570 598 below args s (some (.int r)) σ') 0 0 4 [(0, .ref (G.2.2.1 + p0)), (1, .int p1), (2, .int y2), (3, .int y3)] [] σ := by
  intro n
  induction n with
  | zero => intro y2 y3 σ h0; cases h0
  | succ n ih => intro y2 y3 σ h0; exact bb_Model_digitsIn_4 C hr hk hd hR hp0 ih h0
def s_Model_digitsIn (p0 : Nat) (p1 : Int32) (σ : LH) : Option (Int32 × LH) :=
  s_Model_digitsIn_4 p0 p1 FUEL 0 0 σ
theorem c_Model_digitsIn {G : XG} {l : Launch} {d : Nat} (hd : 1 ≤ d) {p0 : Nat} {p1 : Int32} (hp0 : xin 570 598 p0 (2, 8, 0)) {σ σ' : LH} {r : Int32} (h0 : s_Model_digitsIn p0 p1 σ = some (r, σ')) : xM G 570 598 l y_Model_digitsIn prog_14_method_96_code 4 (some .int) d [.ref (G.2.2.1 + p0), .int p1] σ (some (.int r)) σ' := by
  obtain ⟨d, rfl⟩ : ∃ q, d = q + 1 := ⟨d - 1, by omega⟩
  refine x_met R_Model rfl (by decide +kernel) (Nat.le_of_ble_eq_true rfl) fun p e s m below meth c C hr hk hR => ?_
  refine x_lv (lv' := [(0, .ref (G.2.2.1 + p0)), (1, .int p1)]) C [0, 1] rfl ?_
  generalize xrm (d + 1) = R at hR ⊢
  unfold s_Model_digitsIn at h0
  refine x_iconst (v := 0) C d_Model_digitsIn_0 (by decide) ?_
  refine x_istore_n (lv' := [(2, .int 0), (0, .ref (G.2.2.1 + p0)), (1, .int p1)]) C d_Model_digitsIn_1 rfl (by decide) rfl ?_
  refine x_iconst (v := 0) C d_Model_digitsIn_2 (by decide) ?_
  refine x_istore_n (lv' := [(3, .int 0), (2, .int 0), (0, .ref (G.2.2.1 + p0)), (1, .int p1)]) C d_Model_digitsIn_3 rfl (by decide) rfl ?_
  exact x_lv C [2, 3, 1, 0] rfl (b_Model_digitsIn_4 C hr hk hd hR hp0 FUEL _ _ _ h0)
-- LostPlacesModel.evenIn([I)I
theorem d_Model_evenIn_0 : decode prog_14_method_97_code 0 = .ok (.aload_n 1, 1) := by decide +kernel
theorem d_Model_evenIn_1 : decode prog_14_method_97_code 1 = .ok (.iconst 3, 1) := by decide +kernel
theorem d_Model_evenIn_2 : decode prog_14_method_97_code 2 = .ok (.iaload, 1) := by decide +kernel
theorem d_Model_evenIn_3 : decode prog_14_method_97_code 3 = .ok (.istore_n 2, 1) := by decide +kernel
theorem d_Model_evenIn_4 : decode prog_14_method_97_code 4 = .ok (.aload_n 1, 1) := by decide +kernel
theorem d_Model_evenIn_5 : decode prog_14_method_97_code 5 = .ok (.iconst 3, 1) := by decide +kernel
theorem d_Model_evenIn_6 : decode prog_14_method_97_code 6 = .ok (.iaload, 1) := by decide +kernel
theorem d_Model_evenIn_7 : decode prog_14_method_97_code 7 = .ok (.istore_n 3, 1) := by decide +kernel
theorem d_Model_evenIn_8 : decode prog_14_method_97_code 8 = .ok (.iconst 1, 1) := by decide +kernel
theorem d_Model_evenIn_9 : decode prog_14_method_97_code 9 = .ok (.istore 4, 2) := by decide +kernel
theorem d_Model_evenIn_11 : decode prog_14_method_97_code 11 = .ok (.iload 4, 2) := by decide +kernel
theorem d_Model_evenIn_13 : decode prog_14_method_97_code 13 = .ok (.aload_n 0, 1) := by decide +kernel
theorem d_Model_evenIn_14 : decode prog_14_method_97_code 14 = .ok (.getfield 305, 3) := by decide +kernel
theorem d_Model_evenIn_17 : decode prog_14_method_97_code 17 = .ok (.if_icmp .ge 35, 3) := by decide +kernel
theorem d_Model_evenIn_20 : decode prog_14_method_97_code 20 = .ok (.iload_n 2, 1) := by decide +kernel
theorem d_Model_evenIn_21 : decode prog_14_method_97_code 21 = .ok (.aload_n 1, 1) := by decide +kernel
theorem d_Model_evenIn_22 : decode prog_14_method_97_code 22 = .ok (.iconst 4, 1) := by decide +kernel
theorem d_Model_evenIn_23 : decode prog_14_method_97_code 23 = .ok (.iload 4, 2) := by decide +kernel
theorem d_Model_evenIn_25 : decode prog_14_method_97_code 25 = .ok (.imul, 1) := by decide +kernel
theorem d_Model_evenIn_26 : decode prog_14_method_97_code 26 = .ok (.iconst 3, 1) := by decide +kernel
theorem d_Model_evenIn_27 : decode prog_14_method_97_code 27 = .ok (.iadd, 1) := by decide +kernel
theorem d_Model_evenIn_28 : decode prog_14_method_97_code 28 = .ok (.iaload, 1) := by decide +kernel
theorem d_Model_evenIn_29 : decode prog_14_method_97_code 29 = .ok (.invokestatic 324, 3) := by decide +kernel
theorem d_Model_evenIn_32 : decode prog_14_method_97_code 32 = .ok (.istore_n 2, 1) := by decide +kernel
theorem d_Model_evenIn_33 : decode prog_14_method_97_code 33 = .ok (.iload_n 3, 1) := by decide +kernel
theorem d_Model_evenIn_34 : decode prog_14_method_97_code 34 = .ok (.aload_n 1, 1) := by decide +kernel
theorem d_Model_evenIn_35 : decode prog_14_method_97_code 35 = .ok (.iconst 4, 1) := by decide +kernel
theorem d_Model_evenIn_36 : decode prog_14_method_97_code 36 = .ok (.iload 4, 2) := by decide +kernel
theorem d_Model_evenIn_38 : decode prog_14_method_97_code 38 = .ok (.imul, 1) := by decide +kernel
theorem d_Model_evenIn_39 : decode prog_14_method_97_code 39 = .ok (.iconst 3, 1) := by decide +kernel
theorem d_Model_evenIn_40 : decode prog_14_method_97_code 40 = .ok (.iadd, 1) := by decide +kernel
theorem d_Model_evenIn_41 : decode prog_14_method_97_code 41 = .ok (.iaload, 1) := by decide +kernel
theorem d_Model_evenIn_42 : decode prog_14_method_97_code 42 = .ok (.invokestatic 326, 3) := by decide +kernel
theorem d_Model_evenIn_45 : decode prog_14_method_97_code 45 = .ok (.istore_n 3, 1) := by decide +kernel
theorem d_Model_evenIn_46 : decode prog_14_method_97_code 46 = .ok (.iinc 4 1, 3) := by decide +kernel
theorem d_Model_evenIn_49 : decode prog_14_method_97_code 49 = .ok (.goto (-38), 3) := by decide +kernel
theorem d_Model_evenIn_52 : decode prog_14_method_97_code 52 = .ok (.iload_n 3, 1) := by decide +kernel
theorem d_Model_evenIn_53 : decode prog_14_method_97_code 53 = .ok (.iload_n 2, 1) := by decide +kernel
theorem d_Model_evenIn_54 : decode prog_14_method_97_code 54 = .ok (.isub, 1) := by decide +kernel
theorem d_Model_evenIn_55 : decode prog_14_method_97_code 55 = .ok (.ireturn, 1) := by decide +kernel
def s_Model_evenIn_11_b (p0 : Nat) (rec11 : Int32 → Int32 → Int32 → LH → Option (Int32 × LH)) (y2 : Int32) (y3 : Int32) (y4 : Int32) (σ : LH) : Option (Int32 × LH) :=
  if (σ.1 570 27) ≤ y4 then (
   some ((y3 - y2), σ))
  else (
   if ib ((4 * y4) + 3) 290 then (
   xl (((if (σ.1 p0 (Int32.toNatClampNeg ((4 * y4) + 3))) < y2 then (σ.1 p0 (Int32.toNatClampNeg ((4 * y4) + 3))) else y2)) : Int32) fun x7 =>
   if ib ((4 * y4) + 3) 290 then (
   xl (((if y3 < (σ.1 p0 (Int32.toNatClampNeg ((4 * y4) + 3))) then (σ.1 p0 (Int32.toNatClampNeg ((4 * y4) + 3))) else y3)) : Int32) fun x9 =>
   xl ((y4 + 1) : Int32) fun x10 =>
   rec11 x7 x9 x10 σ) else none) else none)
def s_Model_evenIn_11 (p0 : Nat) : Nat → Int32 → Int32 → Int32 → LH → Option (Int32 × LH)
  | 0, _, _, _, _ => none
  | n + 1, y2, y3, y4, σ => s_Model_evenIn_11_b p0 (s_Model_evenIn_11 p0 n) y2 y3 y4 σ
theorem bb_Model_evenIn_11 {G : XG} {l : Launch} {p : Program} {e : Env} {R : Room} {s : State} {m : MethodId} {args : Array Value} {below : List Frame} {meth : Method} {c : Code} (C : XC G 570 598 p s m args c prog_14_method_97_code 5 R_Model) (hr : meth.sig.returnType = (some .int)) (hk : meth.locks = false) {d : Nat} (hd : 2 ≤ d + 1) (hR : xroom R (d + 1)) {p0 : Nat} (hp0 : xin 570 598 p0 (2, 290, 0)) {rec11 : Int32 → Int32 → Int32 → LH → Option (Int32 × LH)} {σ' : LH} {r : Int32} (hrec11 : ∀ (y2 : Int32) (y3 : Int32) (y4 : Int32) (σ : LH), rec11 y2 y3 y4 σ = some (r, σ') → XJ G 570 598 p l e R s m args below meth c 5 (XQ G 570 598 below args s (some (.int r)) σ') 0 0 11 [(0, .ref (G.2.2.1 + 570)), (1, .ref (G.2.2.1 + p0)), (2, .int y2), (3, .int y3), (4, .int y4)] [] σ) {y2 : Int32} {y3 : Int32} {y4 : Int32} {σ : LH} (h0 : s_Model_evenIn_11_b p0 rec11 y2 y3 y4 σ = some (r, σ')) : XJ G 570 598 p l e R s m args below meth c 5 (XQ G 570 598 below args s (some (.int r)) σ') 0 0 11 [(0, .ref (G.2.2.1 + 570)), (1, .ref (G.2.2.1 + p0)), (2, .int y2), (3, .int y3), (4, .int y4)] [] σ := by
  replace h0 := (show _ = _ from h0)
  unfold s_Model_evenIn_11_b at h0
  refine x_iload C d_Model_evenIn_11 4 rfl ?_
  refine x_aload_n C d_Model_evenIn_13 0 rfl ?_
  refine x_getI (y := 0) C fg_Model_305 k_570 rfl d_Model_evenIn_14 ?_
  refine x_icmp_ge C 52 d_Model_evenIn_17 (by decide) (fun q5 => ?_) (fun q5 => ?_)
  · replace h0 := xit q5 h0
    refine x_iload_n C d_Model_evenIn_52 3 rfl ?_
    refine x_iload_n C d_Model_evenIn_53 2 rfl ?_
    refine x_isub C d_Model_evenIn_54 ?_
    exact x_iret C hr hk h0 d_Model_evenIn_55
  · replace h0 := xif q5 h0
    refine x_iload_n C d_Model_evenIn_20 2 rfl ?_
    refine x_aload_n C d_Model_evenIn_21 1 rfl ?_
    refine x_iconst (v := 4) C d_Model_evenIn_22 (by decide) ?_
    refine x_iload C d_Model_evenIn_23 4 rfl ?_
    refine x_imul C d_Model_evenIn_25 ?_
    refine x_iconst (v := 3) C d_Model_evenIn_26 (by decide) ?_
    refine x_iadd C d_Model_evenIn_27 ?_
    obtain ⟨g6, h0⟩ := xgo h0
    refine x_iald C hp0 (ib_in g6) d_Model_evenIn_28 ?_
    refine x_mmin C (xroom1 hR) w_1890 w_716 w_123 w_717 (Nat.le_of_ble_eq_true rfl) ⟨Nat.zero_le _, Nat.zero_le _⟩ d_Model_evenIn_29 ?_
    obtain ⟨x7, ex7, h0⟩ := xlet h0
    refine x_name C ex7 ?_
    refine x_istore_n (lv' := [(2, .int x7), (0, .ref (G.2.2.1 + 570)), (1, .ref (G.2.2.1 + p0)), (3, .int y3), (4, .int y4)]) C d_Model_evenIn_32 rfl (by decide) rfl ?_
    refine x_iload_n C d_Model_evenIn_33 3 rfl ?_
    refine x_aload_n C d_Model_evenIn_34 2 rfl ?_
    refine x_iconst (v := 4) C d_Model_evenIn_35 (by decide) ?_
    refine x_iload C d_Model_evenIn_36 4 rfl ?_
    refine x_imul C d_Model_evenIn_38 ?_
    refine x_iconst (v := 3) C d_Model_evenIn_39 (by decide) ?_
    refine x_iadd C d_Model_evenIn_40 ?_
    obtain ⟨g8, h0⟩ := xgo h0
    refine x_iald C hp0 (ib_in g8) d_Model_evenIn_41 ?_
    refine x_mmax C (xroom1 hR) w_1891 w_713 w_123 w_714 (Nat.le_of_ble_eq_true rfl) ⟨Nat.zero_le _, Nat.zero_le _⟩ d_Model_evenIn_42 ?_
    obtain ⟨x9, ex9, h0⟩ := xlet h0
    refine x_name C ex9 ?_
    refine x_istore_n (lv' := [(3, .int x9), (2, .int x7), (0, .ref (G.2.2.1 + 570)), (1, .ref (G.2.2.1 + p0)), (4, .int y4)]) C d_Model_evenIn_45 rfl (by decide) rfl ?_
    obtain ⟨x10, ex10, h0⟩ := xlet h0
    refine x_iinc (lv' := [(4, .int x10), (3, .int x9), (2, .int x7), (0, .ref (G.2.2.1 + 570)), (1, .ref (G.2.2.1 + p0))]) C d_Model_evenIn_46 4 rfl ex10 (by decide) rfl ?_
    refine x_goto C 11 d_Model_evenIn_49 (by decide) ?_
    exact x_lv C [3, 4, 2, 1, 0] rfl (hrec11 _ _ _ _ h0)
theorem b_Model_evenIn_11 {G : XG} {l : Launch} {p : Program} {e : Env} {R : Room} {s : State} {m : MethodId} {args : Array Value} {below : List Frame} {meth : Method} {c : Code} (C : XC G 570 598 p s m args c prog_14_method_97_code 5 R_Model) (hr : meth.sig.returnType = (some .int)) (hk : meth.locks = false) {d : Nat} (hd : 2 ≤ d + 1) (hR : xroom R (d + 1)) {p0 : Nat} (hp0 : xin 570 598 p0 (2, 290, 0)) {σ' : LH} {r : Int32} : ∀ (n : Nat) (y2 : Int32) (y3 : Int32) (y4 : Int32) (σ : LH), s_Model_evenIn_11 p0 n y2 y3 y4 σ = some (r, σ') → XJ G 570 598 p l e R s m args below meth c 5 (XQ G 570 598 below args s (some (.int r)) σ') 0 0 11 [(0, .ref (G.2.2.1 + 570)), (1, .ref (G.2.2.1 + p0)), (2, .int y2), (3, .int y3), (4, .int y4)] [] σ := by
  intro n
  induction n with
  | zero => intro y2 y3 y4 σ h0; cases h0
  | succ n ih => intro y2 y3 y4 σ h0; exact bb_Model_evenIn_11 C hr hk hd hR hp0 ih h0
def s_Model_evenIn (p0 : Nat) (σ : LH) : Option (Int32 × LH) :=
  if ib 3 290 then (
  xl (((σ.1 p0 (Int32.toNatClampNeg 3))) : Int32) fun x2 =>
  if ib 3 290 then (
  xl (((σ.1 p0 (Int32.toNatClampNeg 3))) : Int32) fun x4 =>
  s_Model_evenIn_11 p0 FUEL x2 x4 1 σ) else none) else none
theorem c_Model_evenIn {G : XG} {l : Launch} {d : Nat} (hd : 2 ≤ d) {p0 : Nat} (hp0 : xin 570 598 p0 (2, 290, 0)) {σ σ' : LH} {r : Int32} (h0 : s_Model_evenIn p0 σ = some (r, σ')) : xM G 570 598 l y_Model_evenIn prog_14_method_97_code 5 (some .int) d [.ref (G.2.2.1 + 570), .ref (G.2.2.1 + p0)] σ (some (.int r)) σ' := by
  obtain ⟨d, rfl⟩ : ∃ q, d = q + 1 := ⟨d - 1, by omega⟩
  refine x_met R_Model rfl (by decide +kernel) (Nat.le_of_ble_eq_true rfl) fun p e s m below meth c C hr hk hR => ?_
  refine x_lv (lv' := [(0, .ref (G.2.2.1 + 570)), (1, .ref (G.2.2.1 + p0))]) C [0, 1] rfl ?_
  generalize xrm (d + 1) = R at hR ⊢
  unfold s_Model_evenIn at h0
  refine x_aload_n C d_Model_evenIn_0 1 rfl ?_
  refine x_iconst (v := 3) C d_Model_evenIn_1 (by decide) ?_
  obtain ⟨g1, h0⟩ := xgo h0
  refine x_iald C hp0 (ib_in g1) d_Model_evenIn_2 ?_
  obtain ⟨x2, ex2, h0⟩ := xlet h0
  refine x_name C ex2 ?_
  refine x_istore_n (lv' := [(2, .int x2), (0, .ref (G.2.2.1 + 570)), (1, .ref (G.2.2.1 + p0))]) C d_Model_evenIn_3 rfl (by decide) rfl ?_
  refine x_aload_n C d_Model_evenIn_4 2 rfl ?_
  refine x_iconst (v := 3) C d_Model_evenIn_5 (by decide) ?_
  obtain ⟨g3, h0⟩ := xgo h0
  refine x_iald C hp0 (ib_in g3) d_Model_evenIn_6 ?_
  obtain ⟨x4, ex4, h0⟩ := xlet h0
  refine x_name C ex4 ?_
  refine x_istore_n (lv' := [(3, .int x4), (2, .int x2), (0, .ref (G.2.2.1 + 570)), (1, .ref (G.2.2.1 + p0))]) C d_Model_evenIn_7 rfl (by decide) rfl ?_
  refine x_iconst (v := 1) C d_Model_evenIn_8 (by decide) ?_
  refine x_istore (lv' := [(4, .int 1), (3, .int x4), (2, .int x2), (0, .ref (G.2.2.1 + 570)), (1, .ref (G.2.2.1 + p0))]) C d_Model_evenIn_9 (by decide) rfl ?_
  exact x_lv C [3, 4, 2, 1, 0] rfl (b_Model_evenIn_11 C hr hk hd hR hp0 FUEL _ _ _ _ h0)
-- LostPlacesModel.goFair(III)V
theorem d_Model_goFair_0 : decode prog_14_method_98_code 0 = .ok (.iload_n 2, 1) := by decide +kernel
theorem d_Model_goFair_1 : decode prog_14_method_98_code 1 = .ok (.aload_n 0, 1) := by decide +kernel
theorem d_Model_goFair_2 : decode prog_14_method_98_code 2 = .ok (.getfield 305, 3) := by decide +kernel
theorem d_Model_goFair_5 : decode prog_14_method_98_code 5 = .ok (.if_icmp .ne 117, 3) := by decide +kernel
theorem d_Model_goFair_8 : decode prog_14_method_98_code 8 = .ok (.aload_n 0, 1) := by decide +kernel
theorem d_Model_goFair_9 : decode prog_14_method_98_code 9 = .ok (.getfield 61, 3) := by decide +kernel
theorem d_Model_goFair_12 : decode prog_14_method_98_code 12 = .ok (.aload_n 0, 1) := by decide +kernel
theorem d_Model_goFair_13 : decode prog_14_method_98_code 13 = .ok (.getfield 64, 3) := by decide +kernel
theorem d_Model_goFair_16 : decode prog_14_method_98_code 16 = .ok (.invokestatic 447, 3) := by decide +kernel
theorem d_Model_goFair_19 : decode prog_14_method_98_code 19 = .ok (.iconst 0, 1) := by decide +kernel
theorem d_Model_goFair_20 : decode prog_14_method_98_code 20 = .ok (.istore 4, 2) := by decide +kernel
theorem d_Model_goFair_22 : decode prog_14_method_98_code 22 = .ok (.iload 4, 2) := by decide +kernel
theorem d_Model_goFair_24 : decode prog_14_method_98_code 24 = .ok (.aload_n 0, 1) := by decide +kernel
theorem d_Model_goFair_25 : decode prog_14_method_98_code 25 = .ok (.getfield 305, 3) := by decide +kernel
theorem d_Model_goFair_28 : decode prog_14_method_98_code 28 = .ok (.if_icmp .ge 31, 3) := by decide +kernel
theorem d_Model_goFair_31 : decode prog_14_method_98_code 31 = .ok (.aload_n 0, 1) := by decide +kernel
theorem d_Model_goFair_32 : decode prog_14_method_98_code 32 = .ok (.aload_n 0, 1) := by decide +kernel
theorem d_Model_goFair_33 : decode prog_14_method_98_code 33 = .ok (.getfield 102, 3) := by decide +kernel
theorem d_Model_goFair_36 : decode prog_14_method_98_code 36 = .ok (.iload 4, 2) := by decide +kernel
theorem d_Model_goFair_38 : decode prog_14_method_98_code 38 = .ok (.iaload, 1) := by decide +kernel
theorem d_Model_goFair_39 : decode prog_14_method_98_code 39 = .ok (.aload_n 0, 1) := by decide +kernel
theorem d_Model_goFair_40 : decode prog_14_method_98_code 40 = .ok (.getfield 61, 3) := by decide +kernel
theorem d_Model_goFair_43 : decode prog_14_method_98_code 43 = .ok (.bipush 48, 2) := by decide +kernel
theorem d_Model_goFair_45 : decode prog_14_method_98_code 45 = .ok (.iaload, 1) := by decide +kernel
theorem d_Model_goFair_46 : decode prog_14_method_98_code 46 = .ok (.iload 4, 2) := by decide +kernel
theorem d_Model_goFair_48 : decode prog_14_method_98_code 48 = .ok (.iadd, 1) := by decide +kernel
theorem d_Model_goFair_49 : decode prog_14_method_98_code 49 = .ok (.iload_n 1, 1) := by decide +kernel
theorem d_Model_goFair_50 : decode prog_14_method_98_code 50 = .ok (.invokevirtual 453, 3) := by decide +kernel
theorem d_Model_goFair_53 : decode prog_14_method_98_code 53 = .ok (.iinc 4 1, 3) := by decide +kernel
theorem d_Model_goFair_56 : decode prog_14_method_98_code 56 = .ok (.goto (-34), 3) := by decide +kernel
theorem d_Model_goFair_59 : decode prog_14_method_98_code 59 = .ok (.aload_n 0, 1) := by decide +kernel
theorem d_Model_goFair_60 : decode prog_14_method_98_code 60 = .ok (.aload_n 0, 1) := by decide +kernel
theorem d_Model_goFair_61 : decode prog_14_method_98_code 61 = .ok (.getfield 64, 3) := by decide +kernel
theorem d_Model_goFair_64 : decode prog_14_method_98_code 64 = .ok (.invokevirtual 457, 3) := by decide +kernel
theorem d_Model_goFair_67 : decode prog_14_method_98_code 67 = .ok (.aload_n 0, 1) := by decide +kernel
theorem d_Model_goFair_68 : decode prog_14_method_98_code 68 = .ok (.iconst 0, 1) := by decide +kernel
theorem d_Model_goFair_69 : decode prog_14_method_98_code 69 = .ok (.putfield 391, 3) := by decide +kernel
theorem d_Model_goFair_72 : decode prog_14_method_98_code 72 = .ok (.aload_n 0, 1) := by decide +kernel
theorem d_Model_goFair_73 : decode prog_14_method_98_code 73 = .ok (.aload_n 0, 1) := by decide +kernel
theorem d_Model_goFair_74 : decode prog_14_method_98_code 74 = .ok (.getfield 64, 3) := by decide +kernel
theorem d_Model_goFair_77 : decode prog_14_method_98_code 77 = .ok (.invokevirtual 490, 3) := by decide +kernel
theorem d_Model_goFair_80 : decode prog_14_method_98_code 80 = .ok (.istore 4, 2) := by decide +kernel
theorem d_Model_goFair_82 : decode prog_14_method_98_code 82 = .ok (.aload_n 0, 1) := by decide +kernel
theorem d_Model_goFair_83 : decode prog_14_method_98_code 83 = .ok (.getfield 494, 3) := by decide +kernel
theorem d_Model_goFair_86 : decode prog_14_method_98_code 86 = .ok (.iconst (-1), 1) := by decide +kernel
theorem d_Model_goFair_87 : decode prog_14_method_98_code 87 = .ok (.if_icmp .eq 13, 3) := by decide +kernel
theorem d_Model_goFair_90 : decode prog_14_method_98_code 90 = .ok (.iload 4, 2) := by decide +kernel
theorem d_Model_goFair_92 : decode prog_14_method_98_code 92 = .ok (.aload_n 0, 1) := by decide +kernel
theorem d_Model_goFair_93 : decode prog_14_method_98_code 93 = .ok (.getfield 494, 3) := by decide +kernel
theorem d_Model_goFair_96 : decode prog_14_method_98_code 96 = .ok (.if_icmp .lt 4, 3) := by decide +kernel
theorem d_Model_goFair_99 : decode prog_14_method_98_code 99 = .ok (.return_, 1) := by decide +kernel
theorem d_Model_goFair_100 : decode prog_14_method_98_code 100 = .ok (.aload_n 0, 1) := by decide +kernel
theorem d_Model_goFair_101 : decode prog_14_method_98_code 101 = .ok (.iload 4, 2) := by decide +kernel
theorem d_Model_goFair_103 : decode prog_14_method_98_code 103 = .ok (.putfield 494, 3) := by decide +kernel
theorem d_Model_goFair_106 : decode prog_14_method_98_code 106 = .ok (.aload_n 0, 1) := by decide +kernel
theorem d_Model_goFair_107 : decode prog_14_method_98_code 107 = .ok (.aload_n 0, 1) := by decide +kernel
theorem d_Model_goFair_108 : decode prog_14_method_98_code 108 = .ok (.getfield 102, 3) := by decide +kernel
theorem d_Model_goFair_111 : decode prog_14_method_98_code 111 = .ok (.aload_n 0, 1) := by decide +kernel
theorem d_Model_goFair_112 : decode prog_14_method_98_code 112 = .ok (.getfield 305, 3) := by decide +kernel
theorem d_Model_goFair_115 : decode prog_14_method_98_code 115 = .ok (.invokestatic 497, 3) := by decide +kernel
theorem d_Model_goFair_118 : decode prog_14_method_98_code 118 = .ok (.putfield 500, 3) := by decide +kernel
theorem d_Model_goFair_121 : decode prog_14_method_98_code 121 = .ok (.return_, 1) := by decide +kernel
theorem d_Model_goFair_122 : decode prog_14_method_98_code 122 = .ok (.iconst 0, 1) := by decide +kernel
theorem d_Model_goFair_123 : decode prog_14_method_98_code 123 = .ok (.istore 4, 2) := by decide +kernel
theorem d_Model_goFair_125 : decode prog_14_method_98_code 125 = .ok (.iload 4, 2) := by decide +kernel
theorem d_Model_goFair_127 : decode prog_14_method_98_code 127 = .ok (.aload_n 0, 1) := by decide +kernel
theorem d_Model_goFair_128 : decode prog_14_method_98_code 128 = .ok (.getfield 305, 3) := by decide +kernel
theorem d_Model_goFair_131 : decode prog_14_method_98_code 131 = .ok (.if_icmp .ge 43, 3) := by decide +kernel
theorem d_Model_goFair_134 : decode prog_14_method_98_code 134 = .ok (.iload_n 3, 1) := by decide +kernel
theorem d_Model_goFair_135 : decode prog_14_method_98_code 135 = .ok (.iload 4, 2) := by decide +kernel
theorem d_Model_goFair_137 : decode prog_14_method_98_code 137 = .ok (.invokestatic 247, 3) := by decide +kernel
theorem d_Model_goFair_140 : decode prog_14_method_98_code 140 = .ok (.ifCond .eq 6, 3) := by decide +kernel
theorem d_Model_goFair_143 : decode prog_14_method_98_code 143 = .ok (.goto 25, 3) := by decide +kernel
theorem d_Model_goFair_146 : decode prog_14_method_98_code 146 = .ok (.aload_n 0, 1) := by decide +kernel
theorem d_Model_goFair_147 : decode prog_14_method_98_code 147 = .ok (.getfield 102, 3) := by decide +kernel
theorem d_Model_goFair_150 : decode prog_14_method_98_code 150 = .ok (.iload_n 2, 1) := by decide +kernel
theorem d_Model_goFair_151 : decode prog_14_method_98_code 151 = .ok (.iload 4, 2) := by decide +kernel
theorem d_Model_goFair_153 : decode prog_14_method_98_code 153 = .ok (.iastore, 1) := by decide +kernel
theorem d_Model_goFair_154 : decode prog_14_method_98_code 154 = .ok (.aload_n 0, 1) := by decide +kernel
theorem d_Model_goFair_155 : decode prog_14_method_98_code 155 = .ok (.iload_n 1, 1) := by decide +kernel
theorem d_Model_goFair_156 : decode prog_14_method_98_code 156 = .ok (.iload_n 2, 1) := by decide +kernel
theorem d_Model_goFair_157 : decode prog_14_method_98_code 157 = .ok (.iconst 1, 1) := by decide +kernel
theorem d_Model_goFair_158 : decode prog_14_method_98_code 158 = .ok (.iadd, 1) := by decide +kernel
theorem d_Model_goFair_159 : decode prog_14_method_98_code 159 = .ok (.iload_n 3, 1) := by decide +kernel
theorem d_Model_goFair_160 : decode prog_14_method_98_code 160 = .ok (.iconst 1, 1) := by decide +kernel
theorem d_Model_goFair_161 : decode prog_14_method_98_code 161 = .ok (.iload 4, 2) := by decide +kernel
theorem d_Model_goFair_163 : decode prog_14_method_98_code 163 = .ok (.ishl, 1) := by decide +kernel
theorem d_Model_goFair_164 : decode prog_14_method_98_code 164 = .ok (.ior, 1) := by decide +kernel
theorem d_Model_goFair_165 : decode prog_14_method_98_code 165 = .ok (.invokevirtual 503, 3) := by decide +kernel
theorem d_Model_goFair_168 : decode prog_14_method_98_code 168 = .ok (.iinc 4 1, 3) := by decide +kernel
theorem d_Model_goFair_171 : decode prog_14_method_98_code 171 = .ok (.goto (-46), 3) := by decide +kernel
theorem d_Model_goFair_174 : decode prog_14_method_98_code 174 = .ok (.return_, 1) := by decide +kernel
def s_Model_goFair_100 (rf : Int32 → Int32 → Int32 → LH → Option (LH)) (p0 : Int32) (p1 : Int32) (p2 : Int32) (y4 : Int32) (σ : LH) : Option (LH) :=
  xl ((stI σ 570 53 y4) : LH) fun σ12 =>
  xb2 (s_Model_digitsIn 594 (σ12.1 570 27) σ12) fun r14 σ15 =>
  xl ((stI σ15 570 54 r14) : LH) fun σ16 =>
  some σ16
theorem b_Model_goFair_100 {G : XG} {l : Launch} {p : Program} {e : Env} {R : Room} {s : State} {m : MethodId} {args : Array Value} {below : List Frame} {meth : Method} {c : Code} (C : XC G 570 598 p s m args c prog_14_method_98_code 5 R_Model) (hr : meth.sig.returnType = none) (hk : meth.locks = false) {d dr : Nat} (hd : dr + 1 ≤ d + 1) (hd2 : 125 ≤ d + 1) (hR : xroom R (d + 1)) {rf : Int32 → Int32 → Int32 → LH → Option (LH)} (hrf : ∀ (p0 : Int32) (p1 : Int32) (p2 : Int32) (σ : LH) (σ' : LH), rf p0 p1 p2 σ = some σ' → ∀ d, dr ≤ d → xM G 570 598 l y_Model_goFair prog_14_method_98_code 5 none d [.ref (G.2.2.1 + 570), .int p0, .int p1, .int p2] σ none σ') {p0 : Int32} {p1 : Int32} {p2 : Int32} {σ' : LH} {y4 : Int32} {σ : LH} (h0 : s_Model_goFair_100 rf p0 p1 p2 y4 σ = some σ') : XJ G 570 598 p l e R s m args below meth c 5 (XQ G 570 598 below args s none σ') 0 0 100 [(0, .ref (G.2.2.1 + 570)), (4, .int y4)] [] σ := by
  replace h0 := (show _ = _ from h0)
  unfold s_Model_goFair_100 at h0
  refine x_aload_n C d_Model_goFair_100 0 rfl ?_
  refine x_iload C d_Model_goFair_101 1 rfl ?_
  refine x_putI (y := 0) C fp_Model_494 k_570 rfl rfl rfl d_Model_goFair_103 ?_
  obtain ⟨σ12, eσ12, h0⟩ := xlet h0
  refine x_sig C eσ12 ?_
  refine x_aload_n C d_Model_goFair_106 0 rfl ?_
  refine x_aload_n C d_Model_goFair_107 0 rfl ?_
  refine x_getA (y := 594) C fg_Model_102 k_570 rfl d_Model_goFair_108 ?_
  refine x_aload_n C d_Model_goFair_111 0 rfl ?_
  refine x_getI (y := 0) C fg_Model_305 k_570 rfl d_Model_goFair_112 ?_
  obtain ⟨r14, σ15, k13, h0⟩ := xbind2 h0
  refine x_callSi C hR (c_Model_digitsIn (d := d) (by omega) k_594 k13) cw_Model_497 w_2102 rfl rfl (Nat.le_of_ble_eq_true rfl) ⟨Nat.zero_le _, Nat.zero_le _⟩ d_Model_goFair_115 ?_
  refine x_putI (y := 0) C fp_Model_500 k_570 rfl rfl rfl d_Model_goFair_118 ?_
  obtain ⟨σ16, eσ16, h0⟩ := xlet h0
  refine x_sig C eσ16 ?_
  exact x_vret C hr hk h0 d_Model_goFair_121
def s_Model_goFair_22_b (rf : Int32 → Int32 → Int32 → LH → Option (LH)) (p0 : Int32) (p1 : Int32) (p2 : Int32) (rec22 : Int32 → LH → Option (LH)) (y4 : Int32) (σ : LH) : Option (LH) :=
  if (σ.1 570 27) ≤ y4 then (
   xb1 (s_Model_toEnd 584 σ) fun σ6 =>
   xl ((stI σ6 570 40 0) : LH) fun σ7 =>
   xb2 (s_Model_evenIn 584 σ7) fun r9 σ10 =>
   if (σ10.1 570 53) = (-1) then (
    s_Model_goFair_100 rf p0 p1 p2 r9 σ10)
   else (
    if r9 < (σ10.1 570 53) then (
     s_Model_goFair_100 rf p0 p1 p2 r9 σ10)
    else (
     some σ10)))
  else (
   if ib y4 8 then (
   if ib 48 290 then (
   xb1 (s_Model_extra (σ.1 594 (Int32.toNatClampNeg y4)) ((σ.1 583 (Int32.toNatClampNeg 48)) + y4) p0 σ) fun σ21 =>
   xl ((y4 + 1) : Int32) fun x22 =>
   rec22 x22 σ21) else none) else none)
def s_Model_goFair_22 (rf : Int32 → Int32 → Int32 → LH → Option (LH)) (p0 : Int32) (p1 : Int32) (p2 : Int32) : Nat → Int32 → LH → Option (LH)
  | 0, _, _ => none
  | n + 1, y4, σ => s_Model_goFair_22_b rf p0 p1 p2 (s_Model_goFair_22 rf p0 p1 p2 n) y4 σ
theorem bb_Model_goFair_22 {G : XG} {l : Launch} {p : Program} {e : Env} {R : Room} {s : State} {m : MethodId} {args : Array Value} {below : List Frame} {meth : Method} {c : Code} (C : XC G 570 598 p s m args c prog_14_method_98_code 5 R_Model) (hr : meth.sig.returnType = none) (hk : meth.locks = false) {d dr : Nat} (hd : dr + 1 ≤ d + 1) (hd2 : 125 ≤ d + 1) (hR : xroom R (d + 1)) {rf : Int32 → Int32 → Int32 → LH → Option (LH)} (hrf : ∀ (p0 : Int32) (p1 : Int32) (p2 : Int32) (σ : LH) (σ' : LH), rf p0 p1 p2 σ = some σ' → ∀ d, dr ≤ d → xM G 570 598 l y_Model_goFair prog_14_method_98_code 5 none d [.ref (G.2.2.1 + 570), .int p0, .int p1, .int p2] σ none σ') {p0 : Int32} {p1 : Int32} {p2 : Int32} {rec22 : Int32 → LH → Option (LH)} {σ' : LH} (hrec22 : ∀ (y4 : Int32) (σ : LH), rec22 y4 σ = some σ' → XJ G 570 598 p l e R s m args below meth c 5 (XQ G 570 598 below args s none σ') 0 0 22 [(0, .ref (G.2.2.1 + 570)), (1, .int p0), (4, .int y4)] [] σ) {y4 : Int32} {σ : LH} (h0 : s_Model_goFair_22_b rf p0 p1 p2 rec22 y4 σ = some σ') : XJ G 570 598 p l e R s m args below meth c 5 (XQ G 570 598 below args s none σ') 0 0 22 [(0, .ref (G.2.2.1 + 570)), (1, .int p0), (4, .int y4)] [] σ := by
  replace h0 := (show _ = _ from h0)
  unfold s_Model_goFair_22_b at h0
  refine x_iload C d_Model_goFair_22 2 rfl ?_
  refine x_aload_n C d_Model_goFair_24 0 rfl ?_
  refine x_getI (y := 0) C fg_Model_305 k_570 rfl d_Model_goFair_25 ?_
  refine x_icmp_ge C 59 d_Model_goFair_28 (by decide) (fun q4 => ?_) (fun q4 => ?_)
  · replace h0 := xit q4 h0
    refine x_aload_n C d_Model_goFair_59 0 rfl ?_
    refine x_aload_n C d_Model_goFair_60 0 rfl ?_
    refine x_getA (y := 584) C fg_Model_64 k_570 rfl d_Model_goFair_61 ?_
    obtain ⟨σ6, k5, h0⟩ := xbind1 h0
    refine x_callVv C hR (c_Model_toEnd (d := d) (by omega) k_584 k5) cw_Model_457 k_570 rfl rfl rfl (Nat.le_of_ble_eq_true rfl) ⟨Nat.zero_le _, Nat.zero_le _⟩ d_Model_goFair_64 ?_
    refine x_aload_n C d_Model_goFair_67 0 rfl ?_
    refine x_iconst (v := 0) C d_Model_goFair_68 (by decide) ?_
    refine x_putI (y := 0) C fp_Model_391 k_570 rfl rfl rfl d_Model_goFair_69 ?_
    obtain ⟨σ7, eσ7, h0⟩ := xlet h0
    refine x_sig C eσ7 ?_
    refine x_aload_n C d_Model_goFair_72 0 rfl ?_
    refine x_aload_n C d_Model_goFair_73 0 rfl ?_
    refine x_getA (y := 584) C fg_Model_64 k_570 rfl d_Model_goFair_74 ?_
    obtain ⟨r9, σ10, k8, h0⟩ := xbind2 h0
    refine x_callVi C hR (c_Model_evenIn (d := d) (by omega) k_584 k8) cw_Model_490 k_570 rfl rfl rfl (Nat.le_of_ble_eq_true rfl) ⟨Nat.zero_le _, Nat.zero_le _⟩ d_Model_goFair_77 ?_
    refine x_istore (lv' := [(4, .int r9), (0, .ref (G.2.2.1 + 570)), (1, .int p0)]) C d_Model_goFair_80 (by decide) rfl ?_
    refine x_aload_n C d_Model_goFair_82 1 rfl ?_
    refine x_getI (y := 0) C fg_Model_494 k_570 rfl d_Model_goFair_83 ?_
    refine x_iconst (v := (-1)) C d_Model_goFair_86 (by decide) ?_
    refine x_icmp_eq C 100 d_Model_goFair_87 (by decide) (fun q11 => ?_) (fun q11 => ?_)
    · replace h0 := xit q11 h0
      exact x_lv C [1, 0] rfl (b_Model_goFair_100 C hr hk hd hd2 hR hrf h0)
    · replace h0 := xif q11 h0
      refine x_iload C d_Model_goFair_90 0 rfl ?_
      refine x_aload_n C d_Model_goFair_92 1 rfl ?_
      refine x_getI (y := 0) C fg_Model_494 k_570 rfl d_Model_goFair_93 ?_
      refine x_icmp_lt C 100 d_Model_goFair_96 (by decide) (fun q17 => ?_) (fun q17 => ?_)
      · replace h0 := xit q17 h0
        exact x_lv C [1, 0] rfl (b_Model_goFair_100 C hr hk hd hd2 hR hrf h0)
      · replace h0 := xif q17 h0
        exact x_vret C hr hk h0 d_Model_goFair_99
  · replace h0 := xif q4 h0
    refine x_aload_n C d_Model_goFair_31 0 rfl ?_
    refine x_aload_n C d_Model_goFair_32 0 rfl ?_
    refine x_getA (y := 594) C fg_Model_102 k_570 rfl d_Model_goFair_33 ?_
    refine x_iload C d_Model_goFair_36 2 rfl ?_
    obtain ⟨g18, h0⟩ := xgo h0
    refine x_iald C k_594 (ib_in g18) d_Model_goFair_38 ?_
    refine x_aload_n C d_Model_goFair_39 0 rfl ?_
    refine x_getA (y := 583) C fg_Model_61 k_570 rfl d_Model_goFair_40 ?_
    refine x_bipush (v := 48) C d_Model_goFair_43 (by decide) ?_
    obtain ⟨g19, h0⟩ := xgo h0
    refine x_iald C k_583 (ib_in g19) d_Model_goFair_45 ?_
    refine x_iload C d_Model_goFair_46 2 rfl ?_
    refine x_iadd C d_Model_goFair_48 ?_
    refine x_iload_n C d_Model_goFair_49 1 rfl ?_
    obtain ⟨σ21, k20, h0⟩ := xbind1 h0
    refine x_callVv C hR (c_Model_extra (d := d) (by omega) k20) cw_Model_453 k_570 rfl rfl rfl (Nat.le_of_ble_eq_true rfl) ⟨Nat.zero_le _, Nat.zero_le _⟩ d_Model_goFair_50 ?_
    obtain ⟨x22, ex22, h0⟩ := xlet h0
    refine x_iinc (lv' := [(4, .int x22), (0, .ref (G.2.2.1 + 570)), (1, .int p0)]) C d_Model_goFair_53 2 rfl ex22 (by decide) rfl ?_
    refine x_goto C 22 d_Model_goFair_56 (by decide) ?_
    exact x_lv C [1, 2, 0] rfl (hrec22 _ _ h0)
theorem b_Model_goFair_22 {G : XG} {l : Launch} {p : Program} {e : Env} {R : Room} {s : State} {m : MethodId} {args : Array Value} {below : List Frame} {meth : Method} {c : Code} (C : XC G 570 598 p s m args c prog_14_method_98_code 5 R_Model) (hr : meth.sig.returnType = none) (hk : meth.locks = false) {d dr : Nat} (hd : dr + 1 ≤ d + 1) (hd2 : 125 ≤ d + 1) (hR : xroom R (d + 1)) {rf : Int32 → Int32 → Int32 → LH → Option (LH)} (hrf : ∀ (p0 : Int32) (p1 : Int32) (p2 : Int32) (σ : LH) (σ' : LH), rf p0 p1 p2 σ = some σ' → ∀ d, dr ≤ d → xM G 570 598 l y_Model_goFair prog_14_method_98_code 5 none d [.ref (G.2.2.1 + 570), .int p0, .int p1, .int p2] σ none σ') {p0 : Int32} {p1 : Int32} {p2 : Int32} {σ' : LH} : ∀ (n : Nat) (y4 : Int32) (σ : LH), s_Model_goFair_22 rf p0 p1 p2 n y4 σ = some σ' → XJ G 570 598 p l e R s m args below meth c 5 (XQ G 570 598 below args s none σ') 0 0 22 [(0, .ref (G.2.2.1 + 570)), (1, .int p0), (4, .int y4)] [] σ := by
  intro n
  induction n with
  | zero => intro y4 σ h0; cases h0
  | succ n ih => intro y4 σ h0; exact bb_Model_goFair_22 C hr hk hd hd2 hR hrf ih h0
def s_Model_goFair_168 (rf : Int32 → Int32 → Int32 → LH → Option (LH)) (p0 : Int32) (p1 : Int32) (p2 : Int32) (rec125 : Int32 → LH → Option (LH)) (y4 : Int32) (σ : LH) : Option (LH) :=
  xl ((y4 + 1) : Int32) fun x32 =>
  rec125 x32 σ
theorem b_Model_goFair_168 {G : XG} {l : Launch} {p : Program} {e : Env} {R : Room} {s : State} {m : MethodId} {args : Array Value} {below : List Frame} {meth : Method} {c : Code} (C : XC G 570 598 p s m args c prog_14_method_98_code 5 R_Model) (hr : meth.sig.returnType = none) (hk : meth.locks = false) {d dr : Nat} (hd : dr + 1 ≤ d + 1) (hd2 : 125 ≤ d + 1) (hR : xroom R (d + 1)) {rf : Int32 → Int32 → Int32 → LH → Option (LH)} (hrf : ∀ (p0 : Int32) (p1 : Int32) (p2 : Int32) (σ : LH) (σ' : LH), rf p0 p1 p2 σ = some σ' → ∀ d, dr ≤ d → xM G 570 598 l y_Model_goFair prog_14_method_98_code 5 none d [.ref (G.2.2.1 + 570), .int p0, .int p1, .int p2] σ none σ') {p0 : Int32} {p1 : Int32} {p2 : Int32} {rec125 : Int32 → LH → Option (LH)} {σ' : LH} (hrec125 : ∀ (y4 : Int32) (σ : LH), rec125 y4 σ = some σ' → XJ G 570 598 p l e R s m args below meth c 5 (XQ G 570 598 below args s none σ') 0 0 125 [(0, .ref (G.2.2.1 + 570)), (1, .int p0), (2, .int p1), (3, .int p2), (4, .int y4)] [] σ) {y4 : Int32} {σ : LH} (h0 : s_Model_goFair_168 rf p0 p1 p2 rec125 y4 σ = some σ') : XJ G 570 598 p l e R s m args below meth c 5 (XQ G 570 598 below args s none σ') 0 0 168 [(0, .ref (G.2.2.1 + 570)), (1, .int p0), (2, .int p1), (3, .int p2), (4, .int y4)] [] σ := by
  replace h0 := (show _ = _ from h0)
  unfold s_Model_goFair_168 at h0
  obtain ⟨x32, ex32, h0⟩ := xlet h0
  refine x_iinc (lv' := [(4, .int x32), (0, .ref (G.2.2.1 + 570)), (1, .int p0), (2, .int p1), (3, .int p2)]) C d_Model_goFair_168 4 rfl ex32 (by decide) rfl ?_
  refine x_goto C 125 d_Model_goFair_171 (by decide) ?_
  exact x_lv C [1, 2, 3, 4, 0] rfl (hrec125 _ _ h0)
def s_Model_goFair_125_b (rf : Int32 → Int32 → Int32 → LH → Option (LH)) (p0 : Int32) (p1 : Int32) (p2 : Int32) (rec125 : Int32 → LH → Option (LH)) (y4 : Int32) (σ : LH) : Option (LH) :=
  if (σ.1 570 27) ≤ y4 then (
   some σ)
  else (
   xb2 (s_Model_has p2 y4 σ) fun r25 σ26 =>
   if r25 = 0 then (
    if ib p1 8 then (
    xl ((stI σ26 594 (Int32.toNatClampNeg p1) y4) : LH) fun σ29 =>
    xb1 (rf p0 (p1 + 1) (p2 ||| (1 <<< (y4 &&& 31))) σ29) fun σ31 =>
    s_Model_goFair_168 rf p0 p1 p2 rec125 y4 σ31) else none)
   else (
    s_Model_goFair_168 rf p0 p1 p2 rec125 y4 σ26))
def s_Model_goFair_125 (rf : Int32 → Int32 → Int32 → LH → Option (LH)) (p0 : Int32) (p1 : Int32) (p2 : Int32) : Nat → Int32 → LH → Option (LH)
  | 0, _, _ => none
  | n + 1, y4, σ => s_Model_goFair_125_b rf p0 p1 p2 (s_Model_goFair_125 rf p0 p1 p2 n) y4 σ
theorem bb_Model_goFair_125 {G : XG} {l : Launch} {p : Program} {e : Env} {R : Room} {s : State} {m : MethodId} {args : Array Value} {below : List Frame} {meth : Method} {c : Code} (C : XC G 570 598 p s m args c prog_14_method_98_code 5 R_Model) (hr : meth.sig.returnType = none) (hk : meth.locks = false) {d dr : Nat} (hd : dr + 1 ≤ d + 1) (hd2 : 125 ≤ d + 1) (hR : xroom R (d + 1)) {rf : Int32 → Int32 → Int32 → LH → Option (LH)} (hrf : ∀ (p0 : Int32) (p1 : Int32) (p2 : Int32) (σ : LH) (σ' : LH), rf p0 p1 p2 σ = some σ' → ∀ d, dr ≤ d → xM G 570 598 l y_Model_goFair prog_14_method_98_code 5 none d [.ref (G.2.2.1 + 570), .int p0, .int p1, .int p2] σ none σ') {p0 : Int32} {p1 : Int32} {p2 : Int32} {rec125 : Int32 → LH → Option (LH)} {σ' : LH} (hrec125 : ∀ (y4 : Int32) (σ : LH), rec125 y4 σ = some σ' → XJ G 570 598 p l e R s m args below meth c 5 (XQ G 570 598 below args s none σ') 0 0 125 [(0, .ref (G.2.2.1 + 570)), (1, .int p0), (2, .int p1), (3, .int p2), (4, .int y4)] [] σ) {y4 : Int32} {σ : LH} (h0 : s_Model_goFair_125_b rf p0 p1 p2 rec125 y4 σ = some σ') : XJ G 570 598 p l e R s m args below meth c 5 (XQ G 570 598 below args s none σ') 0 0 125 [(0, .ref (G.2.2.1 + 570)), (1, .int p0), (2, .int p1), (3, .int p2), (4, .int y4)] [] σ := by
  replace h0 := (show _ = _ from h0)
  unfold s_Model_goFair_125_b at h0
  refine x_iload C d_Model_goFair_125 4 rfl ?_
  refine x_aload_n C d_Model_goFair_127 0 rfl ?_
  refine x_getI (y := 0) C fg_Model_305 k_570 rfl d_Model_goFair_128 ?_
  refine x_icmp_ge C 174 d_Model_goFair_131 (by decide) (fun q23 => ?_) (fun q23 => ?_)
  · replace h0 := xit q23 h0
    exact x_vret C hr hk h0 d_Model_goFair_174
  · replace h0 := xif q23 h0
    refine x_iload_n C d_Model_goFair_134 3 rfl ?_
    refine x_iload C d_Model_goFair_135 4 rfl ?_
    obtain ⟨r25, σ26, k24, h0⟩ := xbind2 h0
    refine x_callSi C hR (c_Model_has (d := d) (by omega) k24) cw_Model_247 w_1750 rfl rfl (Nat.le_of_ble_eq_true rfl) ⟨Nat.zero_le _, Nat.zero_le _⟩ d_Model_goFair_137 ?_
    refine x_if_eq C 146 d_Model_goFair_140 (by decide) (fun q27 => ?_) (fun q27 => ?_)
    · replace h0 := xit q27 h0
      refine x_aload_n C d_Model_goFair_146 0 rfl ?_
      refine x_getA (y := 594) C fg_Model_102 k_570 rfl d_Model_goFair_147 ?_
      refine x_iload_n C d_Model_goFair_150 2 rfl ?_
      refine x_iload C d_Model_goFair_151 4 rfl ?_
      obtain ⟨g28, h0⟩ := xgo h0
      refine x_iast C k_594 (ib_in g28) d_Model_goFair_153 ?_
      obtain ⟨σ29, eσ29, h0⟩ := xlet h0
      refine x_sig C eσ29 ?_
      refine x_aload_n C d_Model_goFair_154 0 rfl ?_
      refine x_iload_n C d_Model_goFair_155 1 rfl ?_
      refine x_iload_n C d_Model_goFair_156 2 rfl ?_
      refine x_iconst (v := 1) C d_Model_goFair_157 (by decide) ?_
      refine x_iadd C d_Model_goFair_158 ?_
      refine x_iload_n C d_Model_goFair_159 3 rfl ?_
      refine x_iconst (v := 1) C d_Model_goFair_160 (by decide) ?_
      refine x_iload C d_Model_goFair_161 4 rfl ?_
      refine x_ishl C d_Model_goFair_163 ?_
      refine x_ior C d_Model_goFair_164 ?_
      obtain ⟨σ31, k30, h0⟩ := xbind1 h0
      refine x_callVv C hR (hrf _ _ _ _ _ k30 d (by omega)) cw_Model_503 k_570 rfl rfl rfl (Nat.le_of_ble_eq_true rfl) ⟨Nat.zero_le _, Nat.zero_le _⟩ d_Model_goFair_165 ?_
      exact x_lv C [0, 1, 2, 3, 4] rfl (b_Model_goFair_168 C hr hk hd hd2 hR hrf hrec125 h0)
    · replace h0 := xif q27 h0
      refine x_goto C 168 d_Model_goFair_143 (by decide) ?_
      exact x_lv C [0, 1, 2, 3, 4] rfl (b_Model_goFair_168 C hr hk hd hd2 hR hrf hrec125 h0)
theorem b_Model_goFair_125 {G : XG} {l : Launch} {p : Program} {e : Env} {R : Room} {s : State} {m : MethodId} {args : Array Value} {below : List Frame} {meth : Method} {c : Code} (C : XC G 570 598 p s m args c prog_14_method_98_code 5 R_Model) (hr : meth.sig.returnType = none) (hk : meth.locks = false) {d dr : Nat} (hd : dr + 1 ≤ d + 1) (hd2 : 125 ≤ d + 1) (hR : xroom R (d + 1)) {rf : Int32 → Int32 → Int32 → LH → Option (LH)} (hrf : ∀ (p0 : Int32) (p1 : Int32) (p2 : Int32) (σ : LH) (σ' : LH), rf p0 p1 p2 σ = some σ' → ∀ d, dr ≤ d → xM G 570 598 l y_Model_goFair prog_14_method_98_code 5 none d [.ref (G.2.2.1 + 570), .int p0, .int p1, .int p2] σ none σ') {p0 : Int32} {p1 : Int32} {p2 : Int32} {σ' : LH} : ∀ (n : Nat) (y4 : Int32) (σ : LH), s_Model_goFair_125 rf p0 p1 p2 n y4 σ = some σ' → XJ G 570 598 p l e R s m args below meth c 5 (XQ G 570 598 below args s none σ') 0 0 125 [(0, .ref (G.2.2.1 + 570)), (1, .int p0), (2, .int p1), (3, .int p2), (4, .int y4)] [] σ := by
  intro n
  induction n with
  | zero => intro y4 σ h0; cases h0
  | succ n ih => intro y4 σ h0; exact bb_Model_goFair_125 C hr hk hd hd2 hR hrf ih h0
def s_Model_goFair_b (rf : Int32 → Int32 → Int32 → LH → Option (LH)) (p0 : Int32) (p1 : Int32) (p2 : Int32) (σ : LH) : Option (LH) :=
  if p1 = (σ.1 570 27) then (
   xb1 (s_Model_copy 583 584 σ) fun σ3 =>
   s_Model_goFair_22 rf p0 p1 p2 FUEL 0 σ3)
  else (
   s_Model_goFair_125 rf p0 p1 p2 FUEL 0 σ)
def s_Model_goFair : Nat → Int32 → Int32 → Int32 → LH → Option (LH)
  | 0, _, _, _, _ => none
  | n + 1, p0, p1, p2, σ => s_Model_goFair_b (s_Model_goFair n) p0 p1 p2 σ
theorem c_Model_goFair_b {G : XG} {l : Launch} {d dr : Nat} {rf : Int32 → Int32 → Int32 → LH → Option (LH)} (hrf : ∀ (p0 : Int32) (p1 : Int32) (p2 : Int32) (σ : LH) (σ' : LH), rf p0 p1 p2 σ = some σ' → ∀ d, dr ≤ d → xM G 570 598 l y_Model_goFair prog_14_method_98_code 5 none d [.ref (G.2.2.1 + 570), .int p0, .int p1, .int p2] σ none σ') (hd : dr + 1 ≤ d) (hd2 : 125 ≤ d) {p0 : Int32} {p1 : Int32} {p2 : Int32} {σ σ' : LH} (h0 : s_Model_goFair_b rf p0 p1 p2 σ = some σ') : xM G 570 598 l y_Model_goFair prog_14_method_98_code 5 none d [.ref (G.2.2.1 + 570), .int p0, .int p1, .int p2] σ none σ' := by
  obtain ⟨d, rfl⟩ : ∃ q, d = q + 1 := ⟨d - 1, by omega⟩
  refine x_met R_Model rfl (by decide +kernel) (Nat.le_of_ble_eq_true rfl) fun p e s m below meth c C hr hk hR => ?_
  refine x_lv (lv' := [(0, .ref (G.2.2.1 + 570)), (1, .int p0), (2, .int p1), (3, .int p2)]) C [0, 1, 2, 3] rfl ?_
  generalize xrm (d + 1) = R at hR ⊢
  unfold s_Model_goFair_b at h0
  refine x_iload_n C d_Model_goFair_0 2 rfl ?_
  refine x_aload_n C d_Model_goFair_1 0 rfl ?_
  refine x_getI (y := 0) C fg_Model_305 k_570 rfl d_Model_goFair_2 ?_
  refine x_icmp_ne C 122 d_Model_goFair_5 (by decide) (fun q1 => ?_) (fun q1 => ?_)
  · replace h0 := xif q1 h0
    refine x_iconst (v := 0) C d_Model_goFair_122 (by decide) ?_
    refine x_istore (lv' := [(4, .int 0), (0, .ref (G.2.2.1 + 570)), (1, .int p0), (2, .int p1), (3, .int p2)]) C d_Model_goFair_123 (by decide) rfl ?_
    exact x_lv C [1, 2, 3, 4, 0] rfl (b_Model_goFair_125 C hr hk hd hd2 hR hrf FUEL _ _ h0)
  · replace h0 := xit q1 h0
    refine x_aload_n C d_Model_goFair_8 0 rfl ?_
    refine x_getA (y := 583) C fg_Model_61 k_570 rfl d_Model_goFair_9 ?_
    refine x_aload_n C d_Model_goFair_12 0 rfl ?_
    refine x_getA (y := 584) C fg_Model_64 k_570 rfl d_Model_goFair_13 ?_
    obtain ⟨σ3, k2, h0⟩ := xbind1 h0
    refine x_callSv C hR (c_Model_copy (d := d) (by omega) k_583 k_584 k2) cw_Model_447 w_2011 rfl rfl (Nat.le_of_ble_eq_true rfl) ⟨Nat.zero_le _, Nat.zero_le _⟩ d_Model_goFair_16 ?_
    refine x_iconst (v := 0) C d_Model_goFair_19 (by decide) ?_
    refine x_istore (lv' := [(4, .int 0), (0, .ref (G.2.2.1 + 570)), (1, .int p0), (2, .int p1), (3, .int p2)]) C d_Model_goFair_20 (by decide) rfl ?_
    exact x_lv C [1, 2, 0] rfl (b_Model_goFair_22 C hr hk hd hd2 hR hrf FUEL _ _ h0)
theorem h_Model_goFair_n {G : XG} {l : Launch} : ∀ (n : Nat) (p0 : Int32) (p1 : Int32) (p2 : Int32) (σ : LH) (σ' : LH), s_Model_goFair n p0 p1 p2 σ = some σ' → ∀ d, 1 * n + 125 ≤ d → xM G 570 598 l y_Model_goFair prog_14_method_98_code 5 none d [.ref (G.2.2.1 + 570), .int p0, .int p1, .int p2] σ none σ' := by
  intro n
  induction n with
  | zero => intro p0 p1 p2 σ σ' h0; cases h0
  | succ n ih => intro p0 p1 p2 σ σ' h0 d hd; exact c_Model_goFair_b (dr := 1 * n + 125) ih (by omega) (by omega) h0
theorem h_Model_goFair {G : XG} {l : Launch} : ∀ (p0 : Int32) (p1 : Int32) (p2 : Int32) (σ : LH) (σ' : LH), s_Model_goFair RF p0 p1 p2 σ = some σ' → ∀ d, 141 ≤ d → xM G 570 598 l y_Model_goFair prog_14_method_98_code 5 none d [.ref (G.2.2.1 + 570), .int p0, .int p1, .int p2] σ none σ' := h_Model_goFair_n RF
theorem c_Model_goFair {G : XG} {l : Launch} {d : Nat} (hd : 141 ≤ d) {p0 : Int32} {p1 : Int32} {p2 : Int32} {σ σ' : LH} (h0 : s_Model_goFair RF p0 p1 p2 σ = some σ') : xM G 570 598 l y_Model_goFair prog_14_method_98_code 5 none d [.ref (G.2.2.1 + 570), .int p0, .int p1, .int p2] σ none σ' := h_Model_goFair _ _ _ _ _ h0 d hd
-- LostPlacesModel.fair(II)I
theorem d_Model_fair_0 : decode prog_14_method_99_code 0 = .ok (.aload_n 0, 1) := by decide +kernel
theorem d_Model_fair_1 : decode prog_14_method_99_code 1 = .ok (.iconst 0, 1) := by decide +kernel
theorem d_Model_fair_2 : decode prog_14_method_99_code 2 = .ok (.putfield 114, 3) := by decide +kernel
theorem d_Model_fair_5 : decode prog_14_method_99_code 5 = .ok (.aload_n 0, 1) := by decide +kernel
theorem d_Model_fair_6 : decode prog_14_method_99_code 6 = .ok (.getfield 305, 3) := by decide +kernel
theorem d_Model_fair_9 : decode prog_14_method_99_code 9 = .ok (.ifCond .eq 44, 3) := by decide +kernel
theorem d_Model_fair_12 : decode prog_14_method_99_code 12 = .ok (.aload_n 0, 1) := by decide +kernel
theorem d_Model_fair_13 : decode prog_14_method_99_code 13 = .ok (.getfield 305, 3) := by decide +kernel
theorem d_Model_fair_16 : decode prog_14_method_99_code 16 = .ok (.iconst 5, 1) := by decide +kernel
theorem d_Model_fair_17 : decode prog_14_method_99_code 17 = .ok (.if_icmp .gt 36, 3) := by decide +kernel
theorem d_Model_fair_20 : decode prog_14_method_99_code 20 = .ok (.iload_n 1, 1) := by decide +kernel
theorem d_Model_fair_21 : decode prog_14_method_99_code 21 = .ok (.i2l, 1) := by decide +kernel
theorem d_Model_fair_22 : decode prog_14_method_99_code 22 = .ok (.lconst 1, 1) := by decide +kernel
theorem d_Model_fair_23 : decode prog_14_method_99_code 23 = .ok (.ldc2_w 445, 3) := by decide +kernel
theorem d_Model_fair_26 : decode prog_14_method_99_code 26 = .ok (.invokestatic 235, 3) := by decide +kernel
theorem d_Model_fair_29 : decode prog_14_method_99_code 29 = .ok (.ifCond .eq 24, 3) := by decide +kernel
theorem d_Model_fair_32 : decode prog_14_method_99_code 32 = .ok (.iload_n 2, 1) := by decide +kernel
theorem d_Model_fair_33 : decode prog_14_method_99_code 33 = .ok (.i2l, 1) := by decide +kernel
theorem d_Model_fair_34 : decode prog_14_method_99_code 34 = .ok (.lconst 0, 1) := by decide +kernel
theorem d_Model_fair_35 : decode prog_14_method_99_code 35 = .ok (.lconst 1, 1) := by decide +kernel
theorem d_Model_fair_36 : decode prog_14_method_99_code 36 = .ok (.invokestatic 235, 3) := by decide +kernel
theorem d_Model_fair_39 : decode prog_14_method_99_code 39 = .ok (.ifCond .eq 14, 3) := by decide +kernel
theorem d_Model_fair_42 : decode prog_14_method_99_code 42 = .ok (.aload_n 0, 1) := by decide +kernel
theorem d_Model_fair_43 : decode prog_14_method_99_code 43 = .ok (.invokevirtual 423, 3) := by decide +kernel
theorem d_Model_fair_46 : decode prog_14_method_99_code 46 = .ok (.aload_n 0, 1) := by decide +kernel
theorem d_Model_fair_47 : decode prog_14_method_99_code 47 = .ok (.getfield 305, 3) := by decide +kernel
theorem d_Model_fair_50 : decode prog_14_method_99_code 50 = .ok (.if_icmp .ge 7, 3) := by decide +kernel
theorem d_Model_fair_53 : decode prog_14_method_99_code 53 = .ok (.ldc_w 422, 3) := by decide +kernel
theorem d_Model_fair_56 : decode prog_14_method_99_code 56 = .ok (.ireturn, 1) := by decide +kernel
theorem d_Model_fair_57 : decode prog_14_method_99_code 57 = .ok (.aload_n 0, 1) := by decide +kernel
theorem d_Model_fair_58 : decode prog_14_method_99_code 58 = .ok (.iconst (-1), 1) := by decide +kernel
theorem d_Model_fair_59 : decode prog_14_method_99_code 59 = .ok (.putfield 494, 3) := by decide +kernel
theorem d_Model_fair_62 : decode prog_14_method_99_code 62 = .ok (.aload_n 0, 1) := by decide +kernel
theorem d_Model_fair_63 : decode prog_14_method_99_code 63 = .ok (.iload_n 1, 1) := by decide +kernel
theorem d_Model_fair_64 : decode prog_14_method_99_code 64 = .ok (.iconst 0, 1) := by decide +kernel
theorem d_Model_fair_65 : decode prog_14_method_99_code 65 = .ok (.iconst 0, 1) := by decide +kernel
theorem d_Model_fair_66 : decode prog_14_method_99_code 66 = .ok (.invokevirtual 503, 3) := by decide +kernel
theorem d_Model_fair_69 : decode prog_14_method_99_code 69 = .ok (.iload_n 2, 1) := by decide +kernel
theorem d_Model_fair_70 : decode prog_14_method_99_code 70 = .ok (.ifCond .ne 10, 3) := by decide +kernel
theorem d_Model_fair_73 : decode prog_14_method_99_code 73 = .ok (.aload_n 0, 1) := by decide +kernel
theorem d_Model_fair_74 : decode prog_14_method_99_code 74 = .ok (.getfield 500, 3) := by decide +kernel
theorem d_Model_fair_77 : decode prog_14_method_99_code 77 = .ok (.goto 7, 3) := by decide +kernel
theorem d_Model_fair_80 : decode prog_14_method_99_code 80 = .ok (.aload_n 0, 1) := by decide +kernel
theorem d_Model_fair_81 : decode prog_14_method_99_code 81 = .ok (.getfield 494, 3) := by decide +kernel
theorem d_Model_fair_84 : decode prog_14_method_99_code 84 = .ok (.ireturn, 1) := by decide +kernel
def s_Model_fair_53 (p0 : Int32) (p1 : Int32) (σ : LH) : Option (Int32 × LH) :=
  some ((-1000000), σ)
theorem b_Model_fair_53 {G : XG} {l : Launch} {p : Program} {e : Env} {R : Room} {s : State} {m : MethodId} {args : Array Value} {below : List Frame} {meth : Method} {c : Code} (C : XC G 570 598 p s m args c prog_14_method_99_code 3 R_Model) (hr : meth.sig.returnType = (some .int)) (hk : meth.locks = false) {d : Nat} (hd : 142 ≤ d + 1) (hR : xroom R (d + 1)) {p0 : Int32} {p1 : Int32} {σ' : LH} {r : Int32} {σ : LH} (h0 : s_Model_fair_53 p0 p1 σ = some (r, σ')) : XJ G 570 598 p l e R s m args below meth c 3 (XQ G 570 598 below args s (some (.int r)) σ') 0 0 53 [] [] σ := by
  replace h0 := (show _ = _ from h0)
  unfold s_Model_fair_53 at h0
  refine x_ldcw (v := (-1000000)) C w_1899 d_Model_fair_53 ?_
  exact x_iret C hr hk h0 d_Model_fair_56
def s_Model_fair_84 (p0 : Int32) (p1 : Int32) (z0 : Int32) (σ : LH) : Option (Int32 × LH) :=
  some (z0, σ)
theorem b_Model_fair_84 {G : XG} {l : Launch} {p : Program} {e : Env} {R : Room} {s : State} {m : MethodId} {args : Array Value} {below : List Frame} {meth : Method} {c : Code} (C : XC G 570 598 p s m args c prog_14_method_99_code 3 R_Model) (hr : meth.sig.returnType = (some .int)) (hk : meth.locks = false) {d : Nat} (hd : 142 ≤ d + 1) (hR : xroom R (d + 1)) {p0 : Int32} {p1 : Int32} {σ' : LH} {r : Int32} {z0 : Int32} {σ : LH} (h0 : s_Model_fair_84 p0 p1 z0 σ = some (r, σ')) : XJ G 570 598 p l e R s m args below meth c 3 (XQ G 570 598 below args s (some (.int r)) σ') 0 0 84 [] [.int z0] σ := by
  replace h0 := (show _ = _ from h0)
  unfold s_Model_fair_84 at h0
  exact x_iret C hr hk h0 d_Model_fair_84
def s_Model_fair (p0 : Int32) (p1 : Int32) (σ : LH) : Option (Int32 × LH) :=
  xl ((stI σ 570 0 0) : LH) fun σ1 =>
  if (σ1.1 570 27) = 0 then (
   s_Model_fair_53 p0 p1 σ1)
  else (
   if 5 < (σ1.1 570 27) then (
    s_Model_fair_53 p0 p1 σ1)
   else (
    xb2 (s_Model_isIn (Int32.toInt64 p0) 1 3 σ1) fun r5 σ6 =>
    if r5 = 0 then (
     s_Model_fair_53 p0 p1 σ6)
    else (
     xb2 (s_Model_isIn (Int32.toInt64 p1) 0 1 σ6) fun r9 σ10 =>
     if r9 = 0 then (
      s_Model_fair_53 p0 p1 σ10)
     else (
      xb2 (s_Model_left σ10) fun r13 σ14 =>
      if (σ14.1 570 27) ≤ r13 then (
       xl ((stI σ14 570 53 (-1)) : LH) fun σ16 =>
       xb1 (s_Model_goFair RF p0 0 0 σ16) fun σ18 =>
       if p1 = 0 then (
        s_Model_fair_84 p0 p1 (σ18.1 570 54) σ18)
       else (
        s_Model_fair_84 p0 p1 (σ18.1 570 53) σ18))
      else (
       s_Model_fair_53 p0 p1 σ14)))))
theorem c_Model_fair {G : XG} {l : Launch} {d : Nat} (hd : 142 ≤ d) {p0 : Int32} {p1 : Int32} {σ σ' : LH} {r : Int32} (h0 : s_Model_fair p0 p1 σ = some (r, σ')) : xM G 570 598 l y_Model_fair prog_14_method_99_code 3 (some .int) d [.ref (G.2.2.1 + 570), .int p0, .int p1] σ (some (.int r)) σ' := by
  obtain ⟨d, rfl⟩ : ∃ q, d = q + 1 := ⟨d - 1, by omega⟩
  refine x_met R_Model rfl (by decide +kernel) (Nat.le_of_ble_eq_true rfl) fun p e s m below meth c C hr hk hR => ?_
  refine x_lv (lv' := [(0, .ref (G.2.2.1 + 570)), (1, .int p0), (2, .int p1)]) C [0, 1, 2] rfl ?_
  generalize xrm (d + 1) = R at hR ⊢
  unfold s_Model_fair at h0
  refine x_aload_n C d_Model_fair_0 0 rfl ?_
  refine x_iconst (v := 0) C d_Model_fair_1 (by decide) ?_
  refine x_putI (y := 0) C fp_Model_114 k_570 rfl rfl rfl d_Model_fair_2 ?_
  obtain ⟨σ1, eσ1, h0⟩ := xlet h0
  refine x_sig C eσ1 ?_
  refine x_aload_n C d_Model_fair_5 0 rfl ?_
  refine x_getI (y := 0) C fg_Model_305 k_570 rfl d_Model_fair_6 ?_
  refine x_if_eq C 53 d_Model_fair_9 (by decide) (fun q2 => ?_) (fun q2 => ?_)
  · replace h0 := xit q2 h0
    exact x_lv C [] rfl (b_Model_fair_53 C hr hk hd hR h0)
  · replace h0 := xif q2 h0
    refine x_aload_n C d_Model_fair_12 0 rfl ?_
    refine x_getI (y := 0) C fg_Model_305 k_570 rfl d_Model_fair_13 ?_
    refine x_iconst (v := 5) C d_Model_fair_16 (by decide) ?_
    refine x_icmp_gt C 53 d_Model_fair_17 (by decide) (fun q3 => ?_) (fun q3 => ?_)
    · replace h0 := xit q3 h0
      exact x_lv C [] rfl (b_Model_fair_53 C hr hk hd hR h0)
    · replace h0 := xif q3 h0
      refine x_iload_n C d_Model_fair_20 1 rfl ?_
      refine x_i2l C d_Model_fair_21 ?_
      refine x_lconst (v := 1) C d_Model_fair_22 (by decide) ?_
      refine x_ldc2 (v := 3) C w_2005 d_Model_fair_23 ?_
      obtain ⟨r5, σ6, k4, h0⟩ := xbind2 h0
      refine x_callSi C hR (c_Model_isIn (d := d) (by omega) k4) cw_Model_235 w_1695 rfl rfl (Nat.le_of_ble_eq_true rfl) ⟨Nat.zero_le _, Nat.zero_le _⟩ d_Model_fair_26 ?_
      refine x_if_eq C 53 d_Model_fair_29 (by decide) (fun q7 => ?_) (fun q7 => ?_)
      · replace h0 := xit q7 h0
        exact x_lv C [] rfl (b_Model_fair_53 C hr hk hd hR h0)
      · replace h0 := xif q7 h0
        refine x_iload_n C d_Model_fair_32 2 rfl ?_
        refine x_i2l C d_Model_fair_33 ?_
        refine x_lconst (v := 0) C d_Model_fair_34 (by decide) ?_
        refine x_lconst (v := 1) C d_Model_fair_35 (by decide) ?_
        obtain ⟨r9, σ10, k8, h0⟩ := xbind2 h0
        refine x_callSi C hR (c_Model_isIn (d := d) (by omega) k8) cw_Model_235 w_1695 rfl rfl (Nat.le_of_ble_eq_true rfl) ⟨Nat.zero_le _, Nat.zero_le _⟩ d_Model_fair_36 ?_
        refine x_if_eq C 53 d_Model_fair_39 (by decide) (fun q11 => ?_) (fun q11 => ?_)
        · replace h0 := xit q11 h0
          exact x_lv C [] rfl (b_Model_fair_53 C hr hk hd hR h0)
        · replace h0 := xif q11 h0
          refine x_aload_n C d_Model_fair_42 0 rfl ?_
          obtain ⟨r13, σ14, k12, h0⟩ := xbind2 h0
          refine x_callVi C hR (c_Model_left (d := d) (by omega) k12) cw_Model_423 k_570 rfl rfl rfl (Nat.le_of_ble_eq_true rfl) ⟨Nat.zero_le _, Nat.zero_le _⟩ d_Model_fair_43 ?_
          refine x_aload_n C d_Model_fair_46 0 rfl ?_
          refine x_getI (y := 0) C fg_Model_305 k_570 rfl d_Model_fair_47 ?_
          refine x_icmp_ge C 57 d_Model_fair_50 (by decide) (fun q15 => ?_) (fun q15 => ?_)
          · replace h0 := xit q15 h0
            refine x_aload_n C d_Model_fair_57 0 rfl ?_
            refine x_iconst (v := (-1)) C d_Model_fair_58 (by decide) ?_
            refine x_putI (y := 0) C fp_Model_494 k_570 rfl rfl rfl d_Model_fair_59 ?_
            obtain ⟨σ16, eσ16, h0⟩ := xlet h0
            refine x_sig C eσ16 ?_
            refine x_aload_n C d_Model_fair_62 0 rfl ?_
            refine x_iload_n C d_Model_fair_63 1 rfl ?_
            refine x_iconst (v := 0) C d_Model_fair_64 (by decide) ?_
            refine x_iconst (v := 0) C d_Model_fair_65 (by decide) ?_
            obtain ⟨σ18, k17, h0⟩ := xbind1 h0
            refine x_callVv C hR (c_Model_goFair (d := d) (by omega) k17) cw_Model_503 k_570 rfl rfl rfl (Nat.le_of_ble_eq_true rfl) ⟨Nat.zero_le _, Nat.zero_le _⟩ d_Model_fair_66 ?_
            refine x_iload_n C d_Model_fair_69 2 rfl ?_
            refine x_if_ne C 80 d_Model_fair_70 (by decide) (fun q19 => ?_) (fun q19 => ?_)
            · replace h0 := xif q19 h0
              refine x_aload_n C d_Model_fair_80 0 rfl ?_
              refine x_getI (y := 0) C fg_Model_494 k_570 rfl d_Model_fair_81 ?_
              exact x_lv C [] rfl (b_Model_fair_84 C hr hk hd hR h0)
            · replace h0 := xit q19 h0
              refine x_aload_n C d_Model_fair_73 0 rfl ?_
              refine x_getI (y := 0) C fg_Model_500 k_570 rfl d_Model_fair_74 ?_
              refine x_goto C 84 d_Model_fair_77 (by decide) ?_
              exact x_lv C [] rfl (b_Model_fair_84 C hr hk hd hR h0)
          · replace h0 := xif q15 h0
            exact x_lv C [] rfl (b_Model_fair_53 C hr hk hd hR h0)
-- LostPlacesModel.rule(I)I
theorem d_Model_rule_0 : decode prog_14_method_100_code 0 = .ok (.aload_n 0, 1) := by decide +kernel
theorem d_Model_rule_1 : decode prog_14_method_100_code 1 = .ok (.iconst 0, 1) := by decide +kernel
theorem d_Model_rule_2 : decode prog_14_method_100_code 2 = .ok (.putfield 114, 3) := by decide +kernel
theorem d_Model_rule_5 : decode prog_14_method_100_code 5 = .ok (.aload_n 0, 1) := by decide +kernel
theorem d_Model_rule_6 : decode prog_14_method_100_code 6 = .ok (.getfield 305, 3) := by decide +kernel
theorem d_Model_rule_9 : decode prog_14_method_100_code 9 = .ok (.ifCond .eq 13, 3) := by decide +kernel
theorem d_Model_rule_12 : decode prog_14_method_100_code 12 = .ok (.iload_n 1, 1) := by decide +kernel
theorem d_Model_rule_13 : decode prog_14_method_100_code 13 = .ok (.i2l, 1) := by decide +kernel
theorem d_Model_rule_14 : decode prog_14_method_100_code 14 = .ok (.lconst 0, 1) := by decide +kernel
theorem d_Model_rule_15 : decode prog_14_method_100_code 15 = .ok (.lconst 1, 1) := by decide +kernel
theorem d_Model_rule_16 : decode prog_14_method_100_code 16 = .ok (.invokestatic 235, 3) := by decide +kernel
theorem d_Model_rule_19 : decode prog_14_method_100_code 19 = .ok (.ifCond .ne 5, 3) := by decide +kernel
theorem d_Model_rule_22 : decode prog_14_method_100_code 22 = .ok (.iconst (-1), 1) := by decide +kernel
theorem d_Model_rule_23 : decode prog_14_method_100_code 23 = .ok (.ireturn, 1) := by decide +kernel
theorem d_Model_rule_24 : decode prog_14_method_100_code 24 = .ok (.iconst (-1), 1) := by decide +kernel
theorem d_Model_rule_25 : decode prog_14_method_100_code 25 = .ok (.istore_n 2, 1) := by decide +kernel
theorem d_Model_rule_26 : decode prog_14_method_100_code 26 = .ok (.iconst 0, 1) := by decide +kernel
theorem d_Model_rule_27 : decode prog_14_method_100_code 27 = .ok (.istore_n 3, 1) := by decide +kernel
theorem d_Model_rule_28 : decode prog_14_method_100_code 28 = .ok (.iconst 0, 1) := by decide +kernel
theorem d_Model_rule_29 : decode prog_14_method_100_code 29 = .ok (.istore 4, 2) := by decide +kernel
theorem d_Model_rule_31 : decode prog_14_method_100_code 31 = .ok (.iload 4, 2) := by decide +kernel
theorem d_Model_rule_33 : decode prog_14_method_100_code 33 = .ok (.bipush 10, 2) := by decide +kernel
theorem d_Model_rule_35 : decode prog_14_method_100_code 35 = .ok (.if_icmp .ge 83, 3) := by decide +kernel
theorem d_Model_rule_38 : decode prog_14_method_100_code 38 = .ok (.aload_n 0, 1) := by decide +kernel
theorem d_Model_rule_39 : decode prog_14_method_100_code 39 = .ok (.getfield 61, 3) := by decide +kernel
theorem d_Model_rule_42 : decode prog_14_method_100_code 42 = .ok (.aload_n 0, 1) := by decide +kernel
theorem d_Model_rule_43 : decode prog_14_method_100_code 43 = .ok (.getfield 64, 3) := by decide +kernel
theorem d_Model_rule_46 : decode prog_14_method_100_code 46 = .ok (.invokestatic 447, 3) := by decide +kernel
theorem d_Model_rule_49 : decode prog_14_method_100_code 49 = .ok (.iconst 0, 1) := by decide +kernel
theorem d_Model_rule_50 : decode prog_14_method_100_code 50 = .ok (.istore 5, 2) := by decide +kernel
theorem d_Model_rule_52 : decode prog_14_method_100_code 52 = .ok (.iload 5, 2) := by decide +kernel
theorem d_Model_rule_54 : decode prog_14_method_100_code 54 = .ok (.aload_n 0, 1) := by decide +kernel
theorem d_Model_rule_55 : decode prog_14_method_100_code 55 = .ok (.getfield 305, 3) := by decide +kernel
theorem d_Model_rule_58 : decode prog_14_method_100_code 58 = .ok (.if_icmp .ge 22, 3) := by decide +kernel
theorem d_Model_rule_61 : decode prog_14_method_100_code 61 = .ok (.aload_n 0, 1) := by decide +kernel
theorem d_Model_rule_62 : decode prog_14_method_100_code 62 = .ok (.getfield 64, 3) := by decide +kernel
theorem d_Model_rule_65 : decode prog_14_method_100_code 65 = .ok (.iconst 4, 1) := by decide +kernel
theorem d_Model_rule_66 : decode prog_14_method_100_code 66 = .ok (.iload 5, 2) := by decide +kernel
theorem d_Model_rule_68 : decode prog_14_method_100_code 68 = .ok (.imul, 1) := by decide +kernel
theorem d_Model_rule_69 : decode prog_14_method_100_code 69 = .ok (.iconst 2, 1) := by decide +kernel
theorem d_Model_rule_70 : decode prog_14_method_100_code 70 = .ok (.iadd, 1) := by decide +kernel
theorem d_Model_rule_71 : decode prog_14_method_100_code 71 = .ok (.iload 4, 2) := by decide +kernel
theorem d_Model_rule_73 : decode prog_14_method_100_code 73 = .ok (.iastore, 1) := by decide +kernel
theorem d_Model_rule_74 : decode prog_14_method_100_code 74 = .ok (.iinc 5 1, 3) := by decide +kernel
theorem d_Model_rule_77 : decode prog_14_method_100_code 77 = .ok (.goto (-25), 3) := by decide +kernel
theorem d_Model_rule_80 : decode prog_14_method_100_code 80 = .ok (.aload_n 0, 1) := by decide +kernel
theorem d_Model_rule_81 : decode prog_14_method_100_code 81 = .ok (.aload_n 0, 1) := by decide +kernel
theorem d_Model_rule_82 : decode prog_14_method_100_code 82 = .ok (.getfield 64, 3) := by decide +kernel
theorem d_Model_rule_85 : decode prog_14_method_100_code 85 = .ok (.invokevirtual 457, 3) := by decide +kernel
theorem d_Model_rule_88 : decode prog_14_method_100_code 88 = .ok (.iload_n 2, 1) := by decide +kernel
theorem d_Model_rule_89 : decode prog_14_method_100_code 89 = .ok (.iconst (-1), 1) := by decide +kernel
theorem d_Model_rule_90 : decode prog_14_method_100_code 90 = .ok (.if_icmp .eq 14, 3) := by decide +kernel
theorem d_Model_rule_93 : decode prog_14_method_100_code 93 = .ok (.aload_n 0, 1) := by decide +kernel
theorem d_Model_rule_94 : decode prog_14_method_100_code 94 = .ok (.getfield 374, 3) := by decide +kernel
theorem d_Model_rule_97 : decode prog_14_method_100_code 97 = .ok (.iload_n 3, 1) := by decide +kernel
theorem d_Model_rule_98 : decode prog_14_method_100_code 98 = .ok (.if_icmp .lt 6, 3) := by decide +kernel
theorem d_Model_rule_101 : decode prog_14_method_100_code 101 = .ok (.goto 11, 3) := by decide +kernel
theorem d_Model_rule_104 : decode prog_14_method_100_code 104 = .ok (.iload 4, 2) := by decide +kernel
theorem d_Model_rule_106 : decode prog_14_method_100_code 106 = .ok (.istore_n 2, 1) := by decide +kernel
theorem d_Model_rule_107 : decode prog_14_method_100_code 107 = .ok (.aload_n 0, 1) := by decide +kernel
theorem d_Model_rule_108 : decode prog_14_method_100_code 108 = .ok (.getfield 374, 3) := by decide +kernel
theorem d_Model_rule_111 : decode prog_14_method_100_code 111 = .ok (.istore_n 3, 1) := by decide +kernel
theorem d_Model_rule_112 : decode prog_14_method_100_code 112 = .ok (.iinc 4 1, 3) := by decide +kernel
theorem d_Model_rule_115 : decode prog_14_method_100_code 115 = .ok (.goto (-84), 3) := by decide +kernel
theorem d_Model_rule_118 : decode prog_14_method_100_code 118 = .ok (.iload_n 1, 1) := by decide +kernel
theorem d_Model_rule_119 : decode prog_14_method_100_code 119 = .ok (.ifCond .ne 7, 3) := by decide +kernel
theorem d_Model_rule_122 : decode prog_14_method_100_code 122 = .ok (.iload_n 2, 1) := by decide +kernel
theorem d_Model_rule_123 : decode prog_14_method_100_code 123 = .ok (.goto 4, 3) := by decide +kernel
theorem d_Model_rule_126 : decode prog_14_method_100_code 126 = .ok (.iload_n 3, 1) := by decide +kernel
theorem d_Model_rule_127 : decode prog_14_method_100_code 127 = .ok (.ireturn, 1) := by decide +kernel
def s_Model_rule_22 (p0 : Int32) (σ : LH) : Option (Int32 × LH) :=
  some ((-1), σ)
theorem b_Model_rule_22 {G : XG} {l : Launch} {p : Program} {e : Env} {R : Room} {s : State} {m : MethodId} {args : Array Value} {below : List Frame} {meth : Method} {c : Code} (C : XC G 570 598 p s m args c prog_14_method_100_code 6 R_Model) (hr : meth.sig.returnType = (some .int)) (hk : meth.locks = false) {d : Nat} (hd : 125 ≤ d + 1) (hR : xroom R (d + 1)) {p0 : Int32} {σ' : LH} {r : Int32} {σ : LH} (h0 : s_Model_rule_22 p0 σ = some (r, σ')) : XJ G 570 598 p l e R s m args below meth c 6 (XQ G 570 598 below args s (some (.int r)) σ') 0 0 22 [] [] σ := by
  replace h0 := (show _ = _ from h0)
  unfold s_Model_rule_22 at h0
  refine x_iconst (v := (-1)) C d_Model_rule_22 (by decide) ?_
  exact x_iret C hr hk h0 d_Model_rule_23
def s_Model_rule_127 (p0 : Int32) (z0 : Int32) (σ : LH) : Option (Int32 × LH) :=
  some (z0, σ)
theorem b_Model_rule_127 {G : XG} {l : Launch} {p : Program} {e : Env} {R : Room} {s : State} {m : MethodId} {args : Array Value} {below : List Frame} {meth : Method} {c : Code} (C : XC G 570 598 p s m args c prog_14_method_100_code 6 R_Model) (hr : meth.sig.returnType = (some .int)) (hk : meth.locks = false) {d : Nat} (hd : 125 ≤ d + 1) (hR : xroom R (d + 1)) {p0 : Int32} {σ' : LH} {r : Int32} {z0 : Int32} {σ : LH} (h0 : s_Model_rule_127 p0 z0 σ = some (r, σ')) : XJ G 570 598 p l e R s m args below meth c 6 (XQ G 570 598 below args s (some (.int r)) σ') 0 0 127 [] [.int z0] σ := by
  replace h0 := (show _ = _ from h0)
  unfold s_Model_rule_127 at h0
  exact x_iret C hr hk h0 d_Model_rule_127
def s_Model_rule_112 (p0 : Int32) (rec31 : Int32 → Int32 → Int32 → LH → Option (Int32 × LH)) (y2 : Int32) (y3 : Int32) (y4 : Int32) (σ : LH) : Option (Int32 × LH) :=
  xl ((y4 + 1) : Int32) fun x16 =>
  rec31 y2 y3 x16 σ
theorem b_Model_rule_112 {G : XG} {l : Launch} {p : Program} {e : Env} {R : Room} {s : State} {m : MethodId} {args : Array Value} {below : List Frame} {meth : Method} {c : Code} (C : XC G 570 598 p s m args c prog_14_method_100_code 6 R_Model) (hr : meth.sig.returnType = (some .int)) (hk : meth.locks = false) {d : Nat} (hd : 125 ≤ d + 1) (hR : xroom R (d + 1)) {p0 : Int32} {rec31 : Int32 → Int32 → Int32 → LH → Option (Int32 × LH)} {σ' : LH} {r : Int32} (hrec31 : ∀ (y2 : Int32) (y3 : Int32) (y4 : Int32) (σ : LH), rec31 y2 y3 y4 σ = some (r, σ') → XJ G 570 598 p l e R s m args below meth c 6 (XQ G 570 598 below args s (some (.int r)) σ') 0 0 31 [(0, .ref (G.2.2.1 + 570)), (1, .int p0), (2, .int y2), (3, .int y3), (4, .int y4)] [] σ) {y2 : Int32} {y3 : Int32} {y4 : Int32} {σ : LH} (h0 : s_Model_rule_112 p0 rec31 y2 y3 y4 σ = some (r, σ')) : XJ G 570 598 p l e R s m args below meth c 6 (XQ G 570 598 below args s (some (.int r)) σ') 0 0 112 [(0, .ref (G.2.2.1 + 570)), (1, .int p0), (2, .int y2), (3, .int y3), (4, .int y4)] [] σ := by
  replace h0 := (show _ = _ from h0)
  unfold s_Model_rule_112 at h0
  obtain ⟨x16, ex16, h0⟩ := xlet h0
  refine x_iinc (lv' := [(4, .int x16), (0, .ref (G.2.2.1 + 570)), (1, .int p0), (2, .int y2), (3, .int y3)]) C d_Model_rule_112 4 rfl ex16 (by decide) rfl ?_
  refine x_goto C 31 d_Model_rule_115 (by decide) ?_
  exact x_lv C [1, 2, 3, 4, 0] rfl (hrec31 _ _ _ _ h0)
def s_Model_rule_104 (p0 : Int32) (rec31 : Int32 → Int32 → Int32 → LH → Option (Int32 × LH)) (y4 : Int32) (σ : LH) : Option (Int32 × LH) :=
  xl (((σ.1 570 41)) : Int32) fun x15 =>
  s_Model_rule_112 p0 rec31 y4 x15 y4 σ
theorem b_Model_rule_104 {G : XG} {l : Launch} {p : Program} {e : Env} {R : Room} {s : State} {m : MethodId} {args : Array Value} {below : List Frame} {meth : Method} {c : Code} (C : XC G 570 598 p s m args c prog_14_method_100_code 6 R_Model) (hr : meth.sig.returnType = (some .int)) (hk : meth.locks = false) {d : Nat} (hd : 125 ≤ d + 1) (hR : xroom R (d + 1)) {p0 : Int32} {rec31 : Int32 → Int32 → Int32 → LH → Option (Int32 × LH)} {σ' : LH} {r : Int32} (hrec31 : ∀ (y2 : Int32) (y3 : Int32) (y4 : Int32) (σ : LH), rec31 y2 y3 y4 σ = some (r, σ') → XJ G 570 598 p l e R s m args below meth c 6 (XQ G 570 598 below args s (some (.int r)) σ') 0 0 31 [(0, .ref (G.2.2.1 + 570)), (1, .int p0), (2, .int y2), (3, .int y3), (4, .int y4)] [] σ) {y4 : Int32} {σ : LH} (h0 : s_Model_rule_104 p0 rec31 y4 σ = some (r, σ')) : XJ G 570 598 p l e R s m args below meth c 6 (XQ G 570 598 below args s (some (.int r)) σ') 0 0 104 [(0, .ref (G.2.2.1 + 570)), (1, .int p0), (4, .int y4)] [] σ := by
  replace h0 := (show _ = _ from h0)
  unfold s_Model_rule_104 at h0
  refine x_iload C d_Model_rule_104 2 rfl ?_
  refine x_istore_n (lv' := [(2, .int y4), (0, .ref (G.2.2.1 + 570)), (1, .int p0), (4, .int y4)]) C d_Model_rule_106 rfl (by decide) rfl ?_
  refine x_aload_n C d_Model_rule_107 1 rfl ?_
  refine x_getI (y := 0) C fg_Model_374 k_570 rfl d_Model_rule_108 ?_
  obtain ⟨x15, ex15, h0⟩ := xlet h0
  refine x_name C ex15 ?_
  refine x_istore_n (lv' := [(3, .int x15), (2, .int y4), (0, .ref (G.2.2.1 + 570)), (1, .int p0), (4, .int y4)]) C d_Model_rule_111 rfl (by decide) rfl ?_
  exact x_lv C [2, 3, 1, 0, 4] rfl (b_Model_rule_112 C hr hk hd hR hrec31 h0)
def s_Model_rule_52_b (p0 : Int32) (rec31 : Int32 → Int32 → Int32 → LH → Option (Int32 × LH)) (rec52 : Int32 → Int32 → Int32 → Int32 → LH → Option (Int32 × LH)) (y2 : Int32) (y3 : Int32) (y4 : Int32) (y5 : Int32) (σ : LH) : Option (Int32 × LH) :=
  if (σ.1 570 27) ≤ y5 then (
   xb1 (s_Model_toEnd 584 σ) fun σ13 =>
   if y2 = (-1) then (
    s_Model_rule_104 p0 rec31 y4 σ13)
   else (
    if (σ13.1 570 41) < y3 then (
     s_Model_rule_104 p0 rec31 y4 σ13)
    else (
     s_Model_rule_112 p0 rec31 y2 y3 y4 σ13)))
  else (
   if ib ((4 * y5) + 2) 290 then (
   xl ((stI σ 584 (Int32.toNatClampNeg ((4 * y5) + 2)) y4) : LH) fun σ19 =>
   xl ((y5 + 1) : Int32) fun x20 =>
   rec52 y2 y3 y4 x20 σ19) else none)
def s_Model_rule_52 (p0 : Int32) (rec31 : Int32 → Int32 → Int32 → LH → Option (Int32 × LH)) : Nat → Int32 → Int32 → Int32 → Int32 → LH → Option (Int32 × LH)
  | 0, _, _, _, _, _ => none
  | n + 1, y2, y3, y4, y5, σ => s_Model_rule_52_b p0 rec31 (s_Model_rule_52 p0 rec31 n) y2 y3 y4 y5 σ
theorem bb_Model_rule_52 {G : XG} {l : Launch} {p : Program} {e : Env} {R : Room} {s : State} {m : MethodId} {args : Array Value} {below : List Frame} {meth : Method} {c : Code} (C : XC G 570 598 p s m args c prog_14_method_100_code 6 R_Model) (hr : meth.sig.returnType = (some .int)) (hk : meth.locks = false) {d : Nat} (hd : 125 ≤ d + 1) (hR : xroom R (d + 1)) {p0 : Int32} {rec31 : Int32 → Int32 → Int32 → LH → Option (Int32 × LH)} {rec52 : Int32 → Int32 → Int32 → Int32 → LH → Option (Int32 × LH)} {σ' : LH} {r : Int32} (hrec31 : ∀ (y2 : Int32) (y3 : Int32) (y4 : Int32) (σ : LH), rec31 y2 y3 y4 σ = some (r, σ') → XJ G 570 598 p l e R s m args below meth c 6 (XQ G 570 598 below args s (some (.int r)) σ') 0 0 31 [(0, .ref (G.2.2.1 + 570)), (1, .int p0), (2, .int y2), (3, .int y3), (4, .int y4)] [] σ) (hrec52 : ∀ (y2 : Int32) (y3 : Int32) (y4 : Int32) (y5 : Int32) (σ : LH), rec52 y2 y3 y4 y5 σ = some (r, σ') → XJ G 570 598 p l e R s m args below meth c 6 (XQ G 570 598 below args s (some (.int r)) σ') 0 0 52 [(0, .ref (G.2.2.1 + 570)), (1, .int p0), (2, .int y2), (3, .int y3), (4, .int y4), (5, .int y5)] [] σ) {y2 : Int32} {y3 : Int32} {y4 : Int32} {y5 : Int32} {σ : LH} (h0 : s_Model_rule_52_b p0 rec31 rec52 y2 y3 y4 y5 σ = some (r, σ')) : XJ G 570 598 p l e R s m args below meth c 6 (XQ G 570 598 below args s (some (.int r)) σ') 0 0 52 [(0, .ref (G.2.2.1 + 570)), (1, .int p0), (2, .int y2), (3, .int y3), (4, .int y4), (5, .int y5)] [] σ := by
  replace h0 := (show _ = _ from h0)
  unfold s_Model_rule_52_b at h0
  refine x_iload C d_Model_rule_52 5 rfl ?_
  refine x_aload_n C d_Model_rule_54 0 rfl ?_
  refine x_getI (y := 0) C fg_Model_305 k_570 rfl d_Model_rule_55 ?_
  refine x_icmp_ge C 80 d_Model_rule_58 (by decide) (fun q11 => ?_) (fun q11 => ?_)
  · replace h0 := xit q11 h0
    refine x_aload_n C d_Model_rule_80 0 rfl ?_
    refine x_aload_n C d_Model_rule_81 0 rfl ?_
    refine x_getA (y := 584) C fg_Model_64 k_570 rfl d_Model_rule_82 ?_
    obtain ⟨σ13, k12, h0⟩ := xbind1 h0
    refine x_callVv C hR (c_Model_toEnd (d := d) (by omega) k_584 k12) cw_Model_457 k_570 rfl rfl rfl (Nat.le_of_ble_eq_true rfl) ⟨Nat.zero_le _, Nat.zero_le _⟩ d_Model_rule_85 ?_
    refine x_iload_n C d_Model_rule_88 2 rfl ?_
    refine x_iconst (v := (-1)) C d_Model_rule_89 (by decide) ?_
    refine x_icmp_eq C 104 d_Model_rule_90 (by decide) (fun q14 => ?_) (fun q14 => ?_)
    · replace h0 := xit q14 h0
      exact x_lv C [0, 1, 4] rfl (b_Model_rule_104 C hr hk hd hR hrec31 h0)
    · replace h0 := xif q14 h0
      refine x_aload_n C d_Model_rule_93 0 rfl ?_
      refine x_getI (y := 0) C fg_Model_374 k_570 rfl d_Model_rule_94 ?_
      refine x_iload_n C d_Model_rule_97 3 rfl ?_
      refine x_icmp_lt C 104 d_Model_rule_98 (by decide) (fun q17 => ?_) (fun q17 => ?_)
      · replace h0 := xit q17 h0
        exact x_lv C [0, 1, 4] rfl (b_Model_rule_104 C hr hk hd hR hrec31 h0)
      · replace h0 := xif q17 h0
        refine x_goto C 112 d_Model_rule_101 (by decide) ?_
        exact x_lv C [0, 1, 2, 3, 4] rfl (b_Model_rule_112 C hr hk hd hR hrec31 h0)
  · replace h0 := xif q11 h0
    refine x_aload_n C d_Model_rule_61 0 rfl ?_
    refine x_getA (y := 584) C fg_Model_64 k_570 rfl d_Model_rule_62 ?_
    refine x_iconst (v := 4) C d_Model_rule_65 (by decide) ?_
    refine x_iload C d_Model_rule_66 5 rfl ?_
    refine x_imul C d_Model_rule_68 ?_
    refine x_iconst (v := 2) C d_Model_rule_69 (by decide) ?_
    refine x_iadd C d_Model_rule_70 ?_
    refine x_iload C d_Model_rule_71 4 rfl ?_
    obtain ⟨g18, h0⟩ := xgo h0
    refine x_iast C k_584 (ib_in g18) d_Model_rule_73 ?_
    obtain ⟨σ19, eσ19, h0⟩ := xlet h0
    refine x_sig C eσ19 ?_
    obtain ⟨x20, ex20, h0⟩ := xlet h0
    refine x_iinc (lv' := [(5, .int x20), (0, .ref (G.2.2.1 + 570)), (1, .int p0), (2, .int y2), (3, .int y3), (4, .int y4)]) C d_Model_rule_74 5 rfl ex20 (by decide) rfl ?_
    refine x_goto C 52 d_Model_rule_77 (by decide) ?_
    exact x_lv C [1, 2, 3, 4, 5, 0] rfl (hrec52 _ _ _ _ _ h0)
theorem b_Model_rule_52 {G : XG} {l : Launch} {p : Program} {e : Env} {R : Room} {s : State} {m : MethodId} {args : Array Value} {below : List Frame} {meth : Method} {c : Code} (C : XC G 570 598 p s m args c prog_14_method_100_code 6 R_Model) (hr : meth.sig.returnType = (some .int)) (hk : meth.locks = false) {d : Nat} (hd : 125 ≤ d + 1) (hR : xroom R (d + 1)) {p0 : Int32} {rec31 : Int32 → Int32 → Int32 → LH → Option (Int32 × LH)} {σ' : LH} {r : Int32} (hrec31 : ∀ (y2 : Int32) (y3 : Int32) (y4 : Int32) (σ : LH), rec31 y2 y3 y4 σ = some (r, σ') → XJ G 570 598 p l e R s m args below meth c 6 (XQ G 570 598 below args s (some (.int r)) σ') 0 0 31 [(0, .ref (G.2.2.1 + 570)), (1, .int p0), (2, .int y2), (3, .int y3), (4, .int y4)] [] σ) : ∀ (n : Nat) (y2 : Int32) (y3 : Int32) (y4 : Int32) (y5 : Int32) (σ : LH), s_Model_rule_52 p0 rec31 n y2 y3 y4 y5 σ = some (r, σ') → XJ G 570 598 p l e R s m args below meth c 6 (XQ G 570 598 below args s (some (.int r)) σ') 0 0 52 [(0, .ref (G.2.2.1 + 570)), (1, .int p0), (2, .int y2), (3, .int y3), (4, .int y4), (5, .int y5)] [] σ := by
  intro n
  induction n with
  | zero => intro y2 y3 y4 y5 σ h0; cases h0
  | succ n ih => intro y2 y3 y4 y5 σ h0; exact bb_Model_rule_52 C hr hk hd hR hrec31 ih h0
def s_Model_rule_31_b (p0 : Int32) (rec31 : Int32 → Int32 → Int32 → LH → Option (Int32 × LH)) (y2 : Int32) (y3 : Int32) (y4 : Int32) (σ : LH) : Option (Int32 × LH) :=
  if 10 ≤ y4 then (
   if p0 = 0 then (
    s_Model_rule_127 p0 y2 σ)
   else (
    s_Model_rule_127 p0 y3 σ))
  else (
   xb1 (s_Model_copy 583 584 σ) fun σ10 =>
   s_Model_rule_52 p0 rec31 FUEL y2 y3 y4 0 σ10)
def s_Model_rule_31 (p0 : Int32) : Nat → Int32 → Int32 → Int32 → LH → Option (Int32 × LH)
  | 0, _, _, _, _ => none
  | n + 1, y2, y3, y4, σ => s_Model_rule_31_b p0 (s_Model_rule_31 p0 n) y2 y3 y4 σ
theorem bb_Model_rule_31 {G : XG} {l : Launch} {p : Program} {e : Env} {R : Room} {s : State} {m : MethodId} {args : Array Value} {below : List Frame} {meth : Method} {c : Code} (C : XC G 570 598 p s m args c prog_14_method_100_code 6 R_Model) (hr : meth.sig.returnType = (some .int)) (hk : meth.locks = false) {d : Nat} (hd : 125 ≤ d + 1) (hR : xroom R (d + 1)) {p0 : Int32} {rec31 : Int32 → Int32 → Int32 → LH → Option (Int32 × LH)} {σ' : LH} {r : Int32} (hrec31 : ∀ (y2 : Int32) (y3 : Int32) (y4 : Int32) (σ : LH), rec31 y2 y3 y4 σ = some (r, σ') → XJ G 570 598 p l e R s m args below meth c 6 (XQ G 570 598 below args s (some (.int r)) σ') 0 0 31 [(0, .ref (G.2.2.1 + 570)), (1, .int p0), (2, .int y2), (3, .int y3), (4, .int y4)] [] σ) {y2 : Int32} {y3 : Int32} {y4 : Int32} {σ : LH} (h0 : s_Model_rule_31_b p0 rec31 y2 y3 y4 σ = some (r, σ')) : XJ G 570 598 p l e R s m args below meth c 6 (XQ G 570 598 below args s (some (.int r)) σ') 0 0 31 [(0, .ref (G.2.2.1 + 570)), (1, .int p0), (2, .int y2), (3, .int y3), (4, .int y4)] [] σ := by
  replace h0 := (show _ = _ from h0)
  unfold s_Model_rule_31_b at h0
  refine x_iload C d_Model_rule_31 4 rfl ?_
  refine x_bipush (v := 10) C d_Model_rule_33 (by decide) ?_
  refine x_icmp_ge C 118 d_Model_rule_35 (by decide) (fun q7 => ?_) (fun q7 => ?_)
  · replace h0 := xit q7 h0
    refine x_iload_n C d_Model_rule_118 1 rfl ?_
    refine x_if_ne C 126 d_Model_rule_119 (by decide) (fun q8 => ?_) (fun q8 => ?_)
    · replace h0 := xif q8 h0
      refine x_iload_n C d_Model_rule_126 3 rfl ?_
      exact x_lv C [] rfl (b_Model_rule_127 C hr hk hd hR h0)
    · replace h0 := xit q8 h0
      refine x_iload_n C d_Model_rule_122 2 rfl ?_
      refine x_goto C 127 d_Model_rule_123 (by decide) ?_
      exact x_lv C [] rfl (b_Model_rule_127 C hr hk hd hR h0)
  · replace h0 := xif q7 h0
    refine x_aload_n C d_Model_rule_38 0 rfl ?_
    refine x_getA (y := 583) C fg_Model_61 k_570 rfl d_Model_rule_39 ?_
    refine x_aload_n C d_Model_rule_42 0 rfl ?_
    refine x_getA (y := 584) C fg_Model_64 k_570 rfl d_Model_rule_43 ?_
    obtain ⟨σ10, k9, h0⟩ := xbind1 h0
    refine x_callSv C hR (c_Model_copy (d := d) (by omega) k_583 k_584 k9) cw_Model_447 w_2011 rfl rfl (Nat.le_of_ble_eq_true rfl) ⟨Nat.zero_le _, Nat.zero_le _⟩ d_Model_rule_46 ?_
    refine x_iconst (v := 0) C d_Model_rule_49 (by decide) ?_
    refine x_istore (lv' := [(5, .int 0), (0, .ref (G.2.2.1 + 570)), (1, .int p0), (2, .int y2), (3, .int y3), (4, .int y4)]) C d_Model_rule_50 (by decide) rfl ?_
    exact x_lv C [1, 2, 3, 4, 5, 0] rfl (b_Model_rule_52 C hr hk hd hR hrec31 FUEL _ _ _ _ _ h0)
theorem b_Model_rule_31 {G : XG} {l : Launch} {p : Program} {e : Env} {R : Room} {s : State} {m : MethodId} {args : Array Value} {below : List Frame} {meth : Method} {c : Code} (C : XC G 570 598 p s m args c prog_14_method_100_code 6 R_Model) (hr : meth.sig.returnType = (some .int)) (hk : meth.locks = false) {d : Nat} (hd : 125 ≤ d + 1) (hR : xroom R (d + 1)) {p0 : Int32} {σ' : LH} {r : Int32} : ∀ (n : Nat) (y2 : Int32) (y3 : Int32) (y4 : Int32) (σ : LH), s_Model_rule_31 p0 n y2 y3 y4 σ = some (r, σ') → XJ G 570 598 p l e R s m args below meth c 6 (XQ G 570 598 below args s (some (.int r)) σ') 0 0 31 [(0, .ref (G.2.2.1 + 570)), (1, .int p0), (2, .int y2), (3, .int y3), (4, .int y4)] [] σ := by
  intro n
  induction n with
  | zero => intro y2 y3 y4 σ h0; cases h0
  | succ n ih => intro y2 y3 y4 σ h0; exact bb_Model_rule_31 C hr hk hd hR ih h0
def s_Model_rule (p0 : Int32) (σ : LH) : Option (Int32 × LH) :=
  xl ((stI σ 570 0 0) : LH) fun σ1 =>
  if (σ1.1 570 27) = 0 then (
   s_Model_rule_22 p0 σ1)
  else (
   xb2 (s_Model_isIn (Int32.toInt64 p0) 0 1 σ1) fun r4 σ5 =>
   if r4 = 0 then (
    s_Model_rule_22 p0 σ5)
   else (
    s_Model_rule_31 p0 FUEL (-1) 0 0 σ5))
theorem c_Model_rule {G : XG} {l : Launch} {d : Nat} (hd : 125 ≤ d) {p0 : Int32} {σ σ' : LH} {r : Int32} (h0 : s_Model_rule p0 σ = some (r, σ')) : xM G 570 598 l y_Model_rule prog_14_method_100_code 6 (some .int) d [.ref (G.2.2.1 + 570), .int p0] σ (some (.int r)) σ' := by
  obtain ⟨d, rfl⟩ : ∃ q, d = q + 1 := ⟨d - 1, by omega⟩
  refine x_met R_Model rfl (by decide +kernel) (Nat.le_of_ble_eq_true rfl) fun p e s m below meth c C hr hk hR => ?_
  refine x_lv (lv' := [(0, .ref (G.2.2.1 + 570)), (1, .int p0)]) C [0, 1] rfl ?_
  generalize xrm (d + 1) = R at hR ⊢
  unfold s_Model_rule at h0
  refine x_aload_n C d_Model_rule_0 0 rfl ?_
  refine x_iconst (v := 0) C d_Model_rule_1 (by decide) ?_
  refine x_putI (y := 0) C fp_Model_114 k_570 rfl rfl rfl d_Model_rule_2 ?_
  obtain ⟨σ1, eσ1, h0⟩ := xlet h0
  refine x_sig C eσ1 ?_
  refine x_aload_n C d_Model_rule_5 0 rfl ?_
  refine x_getI (y := 0) C fg_Model_305 k_570 rfl d_Model_rule_6 ?_
  refine x_if_eq C 22 d_Model_rule_9 (by decide) (fun q2 => ?_) (fun q2 => ?_)
  · replace h0 := xit q2 h0
    exact x_lv C [] rfl (b_Model_rule_22 C hr hk hd hR h0)
  · replace h0 := xif q2 h0
    refine x_iload_n C d_Model_rule_12 1 rfl ?_
    refine x_i2l C d_Model_rule_13 ?_
    refine x_lconst (v := 0) C d_Model_rule_14 (by decide) ?_
    refine x_lconst (v := 1) C d_Model_rule_15 (by decide) ?_
    obtain ⟨r4, σ5, k3, h0⟩ := xbind2 h0
    refine x_callSi C hR (c_Model_isIn (d := d) (by omega) k3) cw_Model_235 w_1695 rfl rfl (Nat.le_of_ble_eq_true rfl) ⟨Nat.zero_le _, Nat.zero_le _⟩ d_Model_rule_16 ?_
    refine x_if_ne C 24 d_Model_rule_19 (by decide) (fun q6 => ?_) (fun q6 => ?_)
    · replace h0 := xif q6 h0
      refine x_iconst (v := (-1)) C d_Model_rule_24 (by decide) ?_
      refine x_istore_n (lv' := [(2, .int (-1)), (0, .ref (G.2.2.1 + 570)), (1, .int p0)]) C d_Model_rule_25 rfl (by decide) rfl ?_
      refine x_iconst (v := 0) C d_Model_rule_26 (by decide) ?_
      refine x_istore_n (lv' := [(3, .int 0), (2, .int (-1)), (0, .ref (G.2.2.1 + 570)), (1, .int p0)]) C d_Model_rule_27 rfl (by decide) rfl ?_
      refine x_iconst (v := 0) C d_Model_rule_28 (by decide) ?_
      refine x_istore (lv' := [(4, .int 0), (3, .int 0), (2, .int (-1)), (0, .ref (G.2.2.1 + 570)), (1, .int p0)]) C d_Model_rule_29 (by decide) rfl ?_
      exact x_lv C [3, 4, 2, 1, 0] rfl (b_Model_rule_31 C hr hk hd hR FUEL _ _ _ _ h0)
    · replace h0 := xit q6 h0
      exact x_lv C [] rfl (b_Model_rule_22 C hr hk hd hR h0)
-- LostPlacesModel.tells(II)I
theorem d_Model_tells_0 : decode prog_14_method_101_code 0 = .ok (.aload_n 0, 1) := by decide +kernel
theorem d_Model_tells_1 : decode prog_14_method_101_code 1 = .ok (.iconst 0, 1) := by decide +kernel
theorem d_Model_tells_2 : decode prog_14_method_101_code 2 = .ok (.putfield 114, 3) := by decide +kernel
theorem d_Model_tells_5 : decode prog_14_method_101_code 5 = .ok (.aload_n 0, 1) := by decide +kernel
theorem d_Model_tells_6 : decode prog_14_method_101_code 6 = .ok (.iload_n 1, 1) := by decide +kernel
theorem d_Model_tells_7 : decode prog_14_method_101_code 7 = .ok (.invokevirtual 412, 3) := by decide +kernel
theorem d_Model_tells_10 : decode prog_14_method_101_code 10 = .ok (.ifCond .eq 31, 3) := by decide +kernel
theorem d_Model_tells_13 : decode prog_14_method_101_code 13 = .ok (.iload_n 2, 1) := by decide +kernel
theorem d_Model_tells_14 : decode prog_14_method_101_code 14 = .ok (.iconst (-1), 1) := by decide +kernel
theorem d_Model_tells_15 : decode prog_14_method_101_code 15 = .ok (.if_icmp .eq 17, 3) := by decide +kernel
theorem d_Model_tells_18 : decode prog_14_method_101_code 18 = .ok (.iload_n 2, 1) := by decide +kernel
theorem d_Model_tells_19 : decode prog_14_method_101_code 19 = .ok (.bipush (-2), 2) := by decide +kernel
theorem d_Model_tells_21 : decode prog_14_method_101_code 21 = .ok (.if_icmp .eq 11, 3) := by decide +kernel
theorem d_Model_tells_24 : decode prog_14_method_101_code 24 = .ok (.aload_n 0, 1) := by decide +kernel
theorem d_Model_tells_25 : decode prog_14_method_101_code 25 = .ok (.iload_n 2, 1) := by decide +kernel
theorem d_Model_tells_26 : decode prog_14_method_101_code 26 = .ok (.invokevirtual 407, 3) := by decide +kernel
theorem d_Model_tells_29 : decode prog_14_method_101_code 29 = .ok (.ifCond .eq 12, 3) := by decide +kernel
theorem d_Model_tells_32 : decode prog_14_method_101_code 32 = .ok (.aload_n 0, 1) := by decide +kernel
theorem d_Model_tells_33 : decode prog_14_method_101_code 33 = .ok (.getfield 311, 3) := by decide +kernel
theorem d_Model_tells_36 : decode prog_14_method_101_code 36 = .ok (.bipush 8, 2) := by decide +kernel
theorem d_Model_tells_38 : decode prog_14_method_101_code 38 = .ok (.if_icmp .ne 5, 3) := by decide +kernel
theorem d_Model_tells_41 : decode prog_14_method_101_code 41 = .ok (.iconst (-1), 1) := by decide +kernel
theorem d_Model_tells_42 : decode prog_14_method_101_code 42 = .ok (.ireturn, 1) := by decide +kernel
theorem d_Model_tells_43 : decode prog_14_method_101_code 43 = .ok (.aload_n 0, 1) := by decide +kernel
theorem d_Model_tells_44 : decode prog_14_method_101_code 44 = .ok (.getfield 105, 3) := by decide +kernel
theorem d_Model_tells_47 : decode prog_14_method_101_code 47 = .ok (.aload_n 0, 1) := by decide +kernel
theorem d_Model_tells_48 : decode prog_14_method_101_code 48 = .ok (.getfield 311, 3) := by decide +kernel
theorem d_Model_tells_51 : decode prog_14_method_101_code 51 = .ok (.iload_n 1, 1) := by decide +kernel
theorem d_Model_tells_52 : decode prog_14_method_101_code 52 = .ok (.iastore, 1) := by decide +kernel
theorem d_Model_tells_53 : decode prog_14_method_101_code 53 = .ok (.aload_n 0, 1) := by decide +kernel
theorem d_Model_tells_54 : decode prog_14_method_101_code 54 = .ok (.getfield 108, 3) := by decide +kernel
theorem d_Model_tells_57 : decode prog_14_method_101_code 57 = .ok (.aload_n 0, 1) := by decide +kernel
theorem d_Model_tells_58 : decode prog_14_method_101_code 58 = .ok (.getfield 311, 3) := by decide +kernel
theorem d_Model_tells_61 : decode prog_14_method_101_code 61 = .ok (.iload_n 2, 1) := by decide +kernel
theorem d_Model_tells_62 : decode prog_14_method_101_code 62 = .ok (.iastore, 1) := by decide +kernel
theorem d_Model_tells_63 : decode prog_14_method_101_code 63 = .ok (.aload_n 0, 1) := by decide +kernel
theorem d_Model_tells_64 : decode prog_14_method_101_code 64 = .ok (.dup, 1) := by decide +kernel
theorem d_Model_tells_65 : decode prog_14_method_101_code 65 = .ok (.getfield 311, 3) := by decide +kernel
theorem d_Model_tells_68 : decode prog_14_method_101_code 68 = .ok (.iconst 1, 1) := by decide +kernel
theorem d_Model_tells_69 : decode prog_14_method_101_code 69 = .ok (.iadd, 1) := by decide +kernel
theorem d_Model_tells_70 : decode prog_14_method_101_code 70 = .ok (.putfield 311, 3) := by decide +kernel
theorem d_Model_tells_73 : decode prog_14_method_101_code 73 = .ok (.aload_n 0, 1) := by decide +kernel
theorem d_Model_tells_74 : decode prog_14_method_101_code 74 = .ok (.getfield 311, 3) := by decide +kernel
theorem d_Model_tells_77 : decode prog_14_method_101_code 77 = .ok (.ireturn, 1) := by decide +kernel
def s_Model_tells_41 (p0 : Int32) (p1 : Int32) (σ : LH) : Option (Int32 × LH) :=
  some ((-1), σ)
theorem b_Model_tells_41 {G : XG} {l : Launch} {p : Program} {e : Env} {R : Room} {s : State} {m : MethodId} {args : Array Value} {below : List Frame} {meth : Method} {c : Code} (C : XC G 570 598 p s m args c prog_14_method_101_code 3 R_Model) (hr : meth.sig.returnType = (some .int)) (hk : meth.locks = false) {d : Nat} (hd : 2 ≤ d + 1) (hR : xroom R (d + 1)) {p0 : Int32} {p1 : Int32} {σ' : LH} {r : Int32} {σ : LH} (h0 : s_Model_tells_41 p0 p1 σ = some (r, σ')) : XJ G 570 598 p l e R s m args below meth c 3 (XQ G 570 598 below args s (some (.int r)) σ') 0 0 41 [] [] σ := by
  replace h0 := (show _ = _ from h0)
  unfold s_Model_tells_41 at h0
  refine x_iconst (v := (-1)) C d_Model_tells_41 (by decide) ?_
  exact x_iret C hr hk h0 d_Model_tells_42
def s_Model_tells_32 (p0 : Int32) (p1 : Int32) (σ : LH) : Option (Int32 × LH) :=
  if (σ.1 570 57) = 8 then (
   s_Model_tells_41 p0 p1 σ)
  else (
   if ib (σ.1 570 57) 8 then (
   xl ((stI σ 595 (Int32.toNatClampNeg (σ.1 570 57)) p0) : LH) fun σ9 =>
   if ib (σ9.1 570 57) 8 then (
   xl ((stI σ9 596 (Int32.toNatClampNeg (σ9.1 570 57)) p1) : LH) fun σ11 =>
   xl ((stI σ11 570 57 ((σ11.1 570 57) + 1)) : LH) fun σ12 =>
   some ((σ12.1 570 57), σ12)) else none) else none)
theorem b_Model_tells_32 {G : XG} {l : Launch} {p : Program} {e : Env} {R : Room} {s : State} {m : MethodId} {args : Array Value} {below : List Frame} {meth : Method} {c : Code} (C : XC G 570 598 p s m args c prog_14_method_101_code 3 R_Model) (hr : meth.sig.returnType = (some .int)) (hk : meth.locks = false) {d : Nat} (hd : 2 ≤ d + 1) (hR : xroom R (d + 1)) {p0 : Int32} {p1 : Int32} {σ' : LH} {r : Int32} {σ : LH} (h0 : s_Model_tells_32 p0 p1 σ = some (r, σ')) : XJ G 570 598 p l e R s m args below meth c 3 (XQ G 570 598 below args s (some (.int r)) σ') 0 0 32 [(0, .ref (G.2.2.1 + 570)), (1, .int p0), (2, .int p1)] [] σ := by
  replace h0 := (show _ = _ from h0)
  unfold s_Model_tells_32 at h0
  refine x_aload_n C d_Model_tells_32 0 rfl ?_
  refine x_getI (y := 0) C fg_Model_311 k_570 rfl d_Model_tells_33 ?_
  refine x_bipush (v := 8) C d_Model_tells_36 (by decide) ?_
  refine x_icmp_ne C 43 d_Model_tells_38 (by decide) (fun q7 => ?_) (fun q7 => ?_)
  · replace h0 := xif q7 h0
    refine x_aload_n C d_Model_tells_43 0 rfl ?_
    refine x_getA (y := 595) C fg_Model_105 k_570 rfl d_Model_tells_44 ?_
    refine x_aload_n C d_Model_tells_47 0 rfl ?_
    refine x_getI (y := 0) C fg_Model_311 k_570 rfl d_Model_tells_48 ?_
    refine x_iload_n C d_Model_tells_51 1 rfl ?_
    obtain ⟨g8, h0⟩ := xgo h0
    refine x_iast C k_595 (ib_in g8) d_Model_tells_52 ?_
    obtain ⟨σ9, eσ9, h0⟩ := xlet h0
    refine x_sig C eσ9 ?_
    refine x_aload_n C d_Model_tells_53 0 rfl ?_
    refine x_getA (y := 596) C fg_Model_108 k_570 rfl d_Model_tells_54 ?_
    refine x_aload_n C d_Model_tells_57 0 rfl ?_
    refine x_getI (y := 0) C fg_Model_311 k_570 rfl d_Model_tells_58 ?_
    refine x_iload_n C d_Model_tells_61 2 rfl ?_
    obtain ⟨g10, h0⟩ := xgo h0
    refine x_iast C k_596 (ib_in g10) d_Model_tells_62 ?_
    obtain ⟨σ11, eσ11, h0⟩ := xlet h0
    refine x_sig C eσ11 ?_
    refine x_aload_n C d_Model_tells_63 0 rfl ?_
    refine x_dup C d_Model_tells_64 rfl ?_
    refine x_getI (y := 0) C fg_Model_311 k_570 rfl d_Model_tells_65 ?_
    refine x_iconst (v := 1) C d_Model_tells_68 (by decide) ?_
    refine x_iadd C d_Model_tells_69 ?_
    refine x_putI (y := 0) C fp_Model_311 k_570 rfl rfl rfl d_Model_tells_70 ?_
    obtain ⟨σ12, eσ12, h0⟩ := xlet h0
    refine x_sig C eσ12 ?_
    refine x_aload_n C d_Model_tells_73 0 rfl ?_
    refine x_getI (y := 0) C fg_Model_311 k_570 rfl d_Model_tells_74 ?_
    exact x_iret C hr hk h0 d_Model_tells_77
  · replace h0 := xit q7 h0
    exact x_lv C [] rfl (b_Model_tells_41 C hr hk hd hR h0)
def s_Model_tells (p0 : Int32) (p1 : Int32) (σ : LH) : Option (Int32 × LH) :=
  xl ((stI σ 570 0 0) : LH) fun σ1 =>
  xb2 (s_Model_isSitter p0 σ1) fun r3 σ4 =>
  if r3 = 0 then (
   s_Model_tells_41 p0 p1 σ4)
  else (
   if p1 = (-1) then (
    s_Model_tells_32 p0 p1 σ4)
   else (
    if p1 = (-2) then (
     s_Model_tells_32 p0 p1 σ4)
    else (
     xb2 (s_Model_isSeat p1 σ4) fun r15 σ16 =>
     if r15 = 0 then (
      s_Model_tells_41 p0 p1 σ16)
     else (
      s_Model_tells_32 p0 p1 σ16))))
theorem c_Model_tells {G : XG} {l : Launch} {d : Nat} (hd : 2 ≤ d) {p0 : Int32} {p1 : Int32} {σ σ' : LH} {r : Int32} (h0 : s_Model_tells p0 p1 σ = some (r, σ')) : xM G 570 598 l y_Model_tells prog_14_method_101_code 3 (some .int) d [.ref (G.2.2.1 + 570), .int p0, .int p1] σ (some (.int r)) σ' := by
  obtain ⟨d, rfl⟩ : ∃ q, d = q + 1 := ⟨d - 1, by omega⟩
  refine x_met R_Model rfl (by decide +kernel) (Nat.le_of_ble_eq_true rfl) fun p e s m below meth c C hr hk hR => ?_
  refine x_lv (lv' := [(0, .ref (G.2.2.1 + 570)), (1, .int p0), (2, .int p1)]) C [0, 1, 2] rfl ?_
  generalize xrm (d + 1) = R at hR ⊢
  unfold s_Model_tells at h0
  refine x_aload_n C d_Model_tells_0 0 rfl ?_
  refine x_iconst (v := 0) C d_Model_tells_1 (by decide) ?_
  refine x_putI (y := 0) C fp_Model_114 k_570 rfl rfl rfl d_Model_tells_2 ?_
  obtain ⟨σ1, eσ1, h0⟩ := xlet h0
  refine x_sig C eσ1 ?_
  refine x_aload_n C d_Model_tells_5 0 rfl ?_
  refine x_iload_n C d_Model_tells_6 1 rfl ?_
  obtain ⟨r3, σ4, k2, h0⟩ := xbind2 h0
  refine x_callVi C hR (c_Model_isSitter (d := d) (by omega) k2) cw_Model_412 k_570 rfl rfl rfl (Nat.le_of_ble_eq_true rfl) ⟨Nat.zero_le _, Nat.zero_le _⟩ d_Model_tells_7 ?_
  refine x_if_eq C 41 d_Model_tells_10 (by decide) (fun q5 => ?_) (fun q5 => ?_)
  · replace h0 := xit q5 h0
    exact x_lv C [] rfl (b_Model_tells_41 C hr hk hd hR h0)
  · replace h0 := xif q5 h0
    refine x_iload_n C d_Model_tells_13 2 rfl ?_
    refine x_iconst (v := (-1)) C d_Model_tells_14 (by decide) ?_
    refine x_icmp_eq C 32 d_Model_tells_15 (by decide) (fun q6 => ?_) (fun q6 => ?_)
    · replace h0 := xit q6 h0
      exact x_lv C [0, 1, 2] rfl (b_Model_tells_32 C hr hk hd hR h0)
    · replace h0 := xif q6 h0
      refine x_iload_n C d_Model_tells_18 2 rfl ?_
      refine x_bipush (v := (-2)) C d_Model_tells_19 (by decide) ?_
      refine x_icmp_eq C 32 d_Model_tells_21 (by decide) (fun q13 => ?_) (fun q13 => ?_)
      · replace h0 := xit q13 h0
        exact x_lv C [0, 1, 2] rfl (b_Model_tells_32 C hr hk hd hR h0)
      · replace h0 := xif q13 h0
        refine x_aload_n C d_Model_tells_24 0 rfl ?_
        refine x_iload_n C d_Model_tells_25 2 rfl ?_
        obtain ⟨r15, σ16, k14, h0⟩ := xbind2 h0
        refine x_callVi C hR (c_Model_isSeat (d := d) (by omega) k14) cw_Model_407 k_570 rfl rfl rfl (Nat.le_of_ble_eq_true rfl) ⟨Nat.zero_le _, Nat.zero_le _⟩ d_Model_tells_26 ?_
        refine x_if_eq C 41 d_Model_tells_29 (by decide) (fun q17 => ?_) (fun q17 => ?_)
        · replace h0 := xit q17 h0
          exact x_lv C [] rfl (b_Model_tells_41 C hr hk hd hR h0)
        · replace h0 := xif q17 h0
          exact x_lv C [0, 1, 2] rfl (b_Model_tells_32 C hr hk hd hR h0)
-- LostPlacesModel.isSo(I)Z
theorem d_Model_isSo_0 : decode prog_14_method_102_code 0 = .ok (.aload_n 0, 1) := by decide +kernel
theorem d_Model_isSo_1 : decode prog_14_method_102_code 1 = .ok (.getfield 61, 3) := by decide +kernel
theorem d_Model_isSo_4 : decode prog_14_method_102_code 4 = .ok (.aload_n 0, 1) := by decide +kernel
theorem d_Model_isSo_5 : decode prog_14_method_102_code 5 = .ok (.getfield 64, 3) := by decide +kernel
theorem d_Model_isSo_8 : decode prog_14_method_102_code 8 = .ok (.invokestatic 447, 3) := by decide +kernel
theorem d_Model_isSo_11 : decode prog_14_method_102_code 11 = .ok (.aload_n 0, 1) := by decide +kernel
theorem d_Model_isSo_12 : decode prog_14_method_102_code 12 = .ok (.iload_n 1, 1) := by decide +kernel
theorem d_Model_isSo_13 : decode prog_14_method_102_code 13 = .ok (.putfield 78, 3) := by decide +kernel
theorem d_Model_isSo_16 : decode prog_14_method_102_code 16 = .ok (.aload_n 0, 1) := by decide +kernel
theorem d_Model_isSo_17 : decode prog_14_method_102_code 17 = .ok (.aload_n 0, 1) := by decide +kernel
theorem d_Model_isSo_18 : decode prog_14_method_102_code 18 = .ok (.getfield 64, 3) := by decide +kernel
theorem d_Model_isSo_21 : decode prog_14_method_102_code 21 = .ok (.invokevirtual 457, 3) := by decide +kernel
theorem d_Model_isSo_24 : decode prog_14_method_102_code 24 = .ok (.aload_n 0, 1) := by decide +kernel
theorem d_Model_isSo_25 : decode prog_14_method_102_code 25 = .ok (.iconst (-1), 1) := by decide +kernel
theorem d_Model_isSo_26 : decode prog_14_method_102_code 26 = .ok (.putfield 78, 3) := by decide +kernel
theorem d_Model_isSo_29 : decode prog_14_method_102_code 29 = .ok (.iconst 0, 1) := by decide +kernel
theorem d_Model_isSo_30 : decode prog_14_method_102_code 30 = .ok (.istore_n 2, 1) := by decide +kernel
theorem d_Model_isSo_31 : decode prog_14_method_102_code 31 = .ok (.iload_n 2, 1) := by decide +kernel
theorem d_Model_isSo_32 : decode prog_14_method_102_code 32 = .ok (.aload_n 0, 1) := by decide +kernel
theorem d_Model_isSo_33 : decode prog_14_method_102_code 33 = .ok (.getfield 311, 3) := by decide +kernel
theorem d_Model_isSo_36 : decode prog_14_method_102_code 36 = .ok (.if_icmp .ge 33, 3) := by decide +kernel
theorem d_Model_isSo_39 : decode prog_14_method_102_code 39 = .ok (.aload_n 0, 1) := by decide +kernel
theorem d_Model_isSo_40 : decode prog_14_method_102_code 40 = .ok (.getfield 64, 3) := by decide +kernel
theorem d_Model_isSo_43 : decode prog_14_method_102_code 43 = .ok (.iconst 4, 1) := by decide +kernel
theorem d_Model_isSo_44 : decode prog_14_method_102_code 44 = .ok (.aload_n 0, 1) := by decide +kernel
theorem d_Model_isSo_45 : decode prog_14_method_102_code 45 = .ok (.getfield 105, 3) := by decide +kernel
theorem d_Model_isSo_48 : decode prog_14_method_102_code 48 = .ok (.iload_n 2, 1) := by decide +kernel
theorem d_Model_isSo_49 : decode prog_14_method_102_code 49 = .ok (.iaload, 1) := by decide +kernel
theorem d_Model_isSo_50 : decode prog_14_method_102_code 50 = .ok (.imul, 1) := by decide +kernel
theorem d_Model_isSo_51 : decode prog_14_method_102_code 51 = .ok (.iaload, 1) := by decide +kernel
theorem d_Model_isSo_52 : decode prog_14_method_102_code 52 = .ok (.aload_n 0, 1) := by decide +kernel
theorem d_Model_isSo_53 : decode prog_14_method_102_code 53 = .ok (.getfield 108, 3) := by decide +kernel
theorem d_Model_isSo_56 : decode prog_14_method_102_code 56 = .ok (.iload_n 2, 1) := by decide +kernel
theorem d_Model_isSo_57 : decode prog_14_method_102_code 57 = .ok (.iaload, 1) := by decide +kernel
theorem d_Model_isSo_58 : decode prog_14_method_102_code 58 = .ok (.if_icmp .eq 5, 3) := by decide +kernel
theorem d_Model_isSo_61 : decode prog_14_method_102_code 61 = .ok (.iconst 0, 1) := by decide +kernel
theorem d_Model_isSo_62 : decode prog_14_method_102_code 62 = .ok (.ireturn, 1) := by decide +kernel
theorem d_Model_isSo_63 : decode prog_14_method_102_code 63 = .ok (.iinc 2 1, 3) := by decide +kernel
theorem d_Model_isSo_66 : decode prog_14_method_102_code 66 = .ok (.goto (-35), 3) := by decide +kernel
theorem d_Model_isSo_69 : decode prog_14_method_102_code 69 = .ok (.iconst 1, 1) := by decide +kernel
theorem d_Model_isSo_70 : decode prog_14_method_102_code 70 = .ok (.ireturn, 1) := by decide +kernel
def s_Model_isSo_31_b (p0 : Int32) (rec31 : Int32 → LH → Option (Int32 × LH)) (y2 : Int32) (σ : LH) : Option (Int32 × LH) :=
  if (σ.1 570 57) ≤ y2 then (
   some (1, σ))
  else (
   if ib y2 8 then (
   if ib (4 * (σ.1 595 (Int32.toNatClampNeg y2))) 290 then (
   if ib y2 8 then (
   if (σ.1 584 (Int32.toNatClampNeg (4 * (σ.1 595 (Int32.toNatClampNeg y2))))) = (σ.1 596 (Int32.toNatClampNeg y2)) then (
    xl ((y2 + 1) : Int32) fun x12 =>
    rec31 x12 σ)
   else (
    some (0, σ))) else none) else none) else none)
def s_Model_isSo_31 (p0 : Int32) : Nat → Int32 → LH → Option (Int32 × LH)
  | 0, _, _ => none
  | n + 1, y2, σ => s_Model_isSo_31_b p0 (s_Model_isSo_31 p0 n) y2 σ
theorem bb_Model_isSo_31 {G : XG} {l : Launch} {p : Program} {e : Env} {R : Room} {s : State} {m : MethodId} {args : Array Value} {below : List Frame} {meth : Method} {c : Code} (C : XC G 570 598 p s m args c prog_14_method_102_code 3 R_Model) (hr : meth.sig.returnType = (some .boolean)) (hk : meth.locks = false) {d : Nat} (hd : 125 ≤ d + 1) (hR : xroom R (d + 1)) {p0 : Int32} {rec31 : Int32 → LH → Option (Int32 × LH)} {σ' : LH} {r : Int32} (hrec31 : ∀ (y2 : Int32) (σ : LH), rec31 y2 σ = some (r, σ') → XJ G 570 598 p l e R s m args below meth c 3 (XQ G 570 598 below args s (some (.int r)) σ') 0 0 31 [(0, .ref (G.2.2.1 + 570)), (2, .int y2)] [] σ) {y2 : Int32} {σ : LH} (h0 : s_Model_isSo_31_b p0 rec31 y2 σ = some (r, σ')) : XJ G 570 598 p l e R s m args below meth c 3 (XQ G 570 598 below args s (some (.int r)) σ') 0 0 31 [(0, .ref (G.2.2.1 + 570)), (2, .int y2)] [] σ := by
  replace h0 := (show _ = _ from h0)
  unfold s_Model_isSo_31_b at h0
  refine x_iload_n C d_Model_isSo_31 1 rfl ?_
  refine x_aload_n C d_Model_isSo_32 0 rfl ?_
  refine x_getI (y := 0) C fg_Model_311 k_570 rfl d_Model_isSo_33 ?_
  refine x_icmp_ge C 69 d_Model_isSo_36 (by decide) (fun q7 => ?_) (fun q7 => ?_)
  · replace h0 := xit q7 h0
    refine x_iconst (v := 1) C d_Model_isSo_69 (by decide) ?_
    exact x_zret C hr hk (by decide) h0 d_Model_isSo_70
  · replace h0 := xif q7 h0
    refine x_aload_n C d_Model_isSo_39 0 rfl ?_
    refine x_getA (y := 584) C fg_Model_64 k_570 rfl d_Model_isSo_40 ?_
    refine x_iconst (v := 4) C d_Model_isSo_43 (by decide) ?_
    refine x_aload_n C d_Model_isSo_44 0 rfl ?_
    refine x_getA (y := 595) C fg_Model_105 k_570 rfl d_Model_isSo_45 ?_
    refine x_iload_n C d_Model_isSo_48 1 rfl ?_
    obtain ⟨g8, h0⟩ := xgo h0
    refine x_iald C k_595 (ib_in g8) d_Model_isSo_49 ?_
    refine x_imul C d_Model_isSo_50 ?_
    obtain ⟨g9, h0⟩ := xgo h0
    refine x_iald C k_584 (ib_in g9) d_Model_isSo_51 ?_
    refine x_aload_n C d_Model_isSo_52 0 rfl ?_
    refine x_getA (y := 596) C fg_Model_108 k_570 rfl d_Model_isSo_53 ?_
    refine x_iload_n C d_Model_isSo_56 1 rfl ?_
    obtain ⟨g10, h0⟩ := xgo h0
    refine x_iald C k_596 (ib_in g10) d_Model_isSo_57 ?_
    refine x_icmp_eq C 63 d_Model_isSo_58 (by decide) (fun q11 => ?_) (fun q11 => ?_)
    · replace h0 := xit q11 h0
      obtain ⟨x12, ex12, h0⟩ := xlet h0
      refine x_iinc (lv' := [(2, .int x12), (0, .ref (G.2.2.1 + 570))]) C d_Model_isSo_63 1 rfl ex12 (by decide) rfl ?_
      refine x_goto C 31 d_Model_isSo_66 (by decide) ?_
      exact x_lv C [1, 0] rfl (hrec31 _ _ h0)
    · replace h0 := xif q11 h0
      refine x_iconst (v := 0) C d_Model_isSo_61 (by decide) ?_
      exact x_zret C hr hk (by decide) h0 d_Model_isSo_62
theorem b_Model_isSo_31 {G : XG} {l : Launch} {p : Program} {e : Env} {R : Room} {s : State} {m : MethodId} {args : Array Value} {below : List Frame} {meth : Method} {c : Code} (C : XC G 570 598 p s m args c prog_14_method_102_code 3 R_Model) (hr : meth.sig.returnType = (some .boolean)) (hk : meth.locks = false) {d : Nat} (hd : 125 ≤ d + 1) (hR : xroom R (d + 1)) {p0 : Int32} {σ' : LH} {r : Int32} : ∀ (n : Nat) (y2 : Int32) (σ : LH), s_Model_isSo_31 p0 n y2 σ = some (r, σ') → XJ G 570 598 p l e R s m args below meth c 3 (XQ G 570 598 below args s (some (.int r)) σ') 0 0 31 [(0, .ref (G.2.2.1 + 570)), (2, .int y2)] [] σ := by
  intro n
  induction n with
  | zero => intro y2 σ h0; cases h0
  | succ n ih => intro y2 σ h0; exact bb_Model_isSo_31 C hr hk hd hR ih h0
def s_Model_isSo (p0 : Int32) (σ : LH) : Option (Int32 × LH) :=
  xb1 (s_Model_copy 583 584 σ) fun σ2 =>
  xl ((stI σ2 570 39 p0) : LH) fun σ3 =>
  xb1 (s_Model_toEnd 584 σ3) fun σ5 =>
  xl ((stI σ5 570 39 (-1)) : LH) fun σ6 =>
  s_Model_isSo_31 p0 FUEL 0 σ6
theorem c_Model_isSo {G : XG} {l : Launch} {d : Nat} (hd : 125 ≤ d) {p0 : Int32} {σ σ' : LH} {r : Int32} (h0 : s_Model_isSo p0 σ = some (r, σ')) : xM G 570 598 l y_Model_isSo prog_14_method_102_code 3 (some .boolean) d [.ref (G.2.2.1 + 570), .int p0] σ (some (.int r)) σ' := by
  obtain ⟨d, rfl⟩ : ∃ q, d = q + 1 := ⟨d - 1, by omega⟩
  refine x_met R_Model rfl (by decide +kernel) (Nat.le_of_ble_eq_true rfl) fun p e s m below meth c C hr hk hR => ?_
  refine x_lv (lv' := [(0, .ref (G.2.2.1 + 570)), (1, .int p0)]) C [0, 1] rfl ?_
  generalize xrm (d + 1) = R at hR ⊢
  unfold s_Model_isSo at h0
  refine x_aload_n C d_Model_isSo_0 0 rfl ?_
  refine x_getA (y := 583) C fg_Model_61 k_570 rfl d_Model_isSo_1 ?_
  refine x_aload_n C d_Model_isSo_4 0 rfl ?_
  refine x_getA (y := 584) C fg_Model_64 k_570 rfl d_Model_isSo_5 ?_
  obtain ⟨σ2, k1, h0⟩ := xbind1 h0
  refine x_callSv C hR (c_Model_copy (d := d) (by omega) k_583 k_584 k1) cw_Model_447 w_2011 rfl rfl (Nat.le_of_ble_eq_true rfl) ⟨Nat.zero_le _, Nat.zero_le _⟩ d_Model_isSo_8 ?_
  refine x_aload_n C d_Model_isSo_11 0 rfl ?_
  refine x_iload_n C d_Model_isSo_12 1 rfl ?_
  refine x_putI (y := 0) C fp_Model_78 k_570 rfl rfl rfl d_Model_isSo_13 ?_
  obtain ⟨σ3, eσ3, h0⟩ := xlet h0
  refine x_sig C eσ3 ?_
  refine x_aload_n C d_Model_isSo_16 0 rfl ?_
  refine x_aload_n C d_Model_isSo_17 0 rfl ?_
  refine x_getA (y := 584) C fg_Model_64 k_570 rfl d_Model_isSo_18 ?_
  obtain ⟨σ5, k4, h0⟩ := xbind1 h0
  refine x_callVv C hR (c_Model_toEnd (d := d) (by omega) k_584 k4) cw_Model_457 k_570 rfl rfl rfl (Nat.le_of_ble_eq_true rfl) ⟨Nat.zero_le _, Nat.zero_le _⟩ d_Model_isSo_21 ?_
  refine x_aload_n C d_Model_isSo_24 0 rfl ?_
  refine x_iconst (v := (-1)) C d_Model_isSo_25 (by decide) ?_
  refine x_putI (y := 0) C fp_Model_78 k_570 rfl rfl rfl d_Model_isSo_26 ?_
  obtain ⟨σ6, eσ6, h0⟩ := xlet h0
  refine x_sig C eσ6 ?_
  refine x_iconst (v := 0) C d_Model_isSo_29 (by decide) ?_
  refine x_istore_n (lv' := [(2, .int 0), (0, .ref (G.2.2.1 + 570)), (1, .int p0)]) C d_Model_isSo_30 rfl (by decide) rfl ?_
  exact x_lv C [1, 0] rfl (b_Model_isSo_31 C hr hk hd hR FUEL _ _ h0)
-- LostPlacesModel.been(I)I
theorem d_Model_been_0 : decode prog_14_method_103_code 0 = .ok (.aload_n 0, 1) := by decide +kernel
theorem d_Model_been_1 : decode prog_14_method_103_code 1 = .ok (.iconst 0, 1) := by decide +kernel
theorem d_Model_been_2 : decode prog_14_method_103_code 2 = .ok (.putfield 114, 3) := by decide +kernel
theorem d_Model_been_5 : decode prog_14_method_103_code 5 = .ok (.aload_n 0, 1) := by decide +kernel
theorem d_Model_been_6 : decode prog_14_method_103_code 6 = .ok (.getfield 305, 3) := by decide +kernel
theorem d_Model_been_9 : decode prog_14_method_103_code 9 = .ok (.ifCond .eq 8, 3) := by decide +kernel
theorem d_Model_been_12 : decode prog_14_method_103_code 12 = .ok (.iload_n 1, 1) := by decide +kernel
theorem d_Model_been_13 : decode prog_14_method_103_code 13 = .ok (.iconst (-1), 1) := by decide +kernel
theorem d_Model_been_14 : decode prog_14_method_103_code 14 = .ok (.if_icmp .ge 5, 3) := by decide +kernel
theorem d_Model_been_17 : decode prog_14_method_103_code 17 = .ok (.iconst (-1), 1) := by decide +kernel
theorem d_Model_been_18 : decode prog_14_method_103_code 18 = .ok (.ireturn, 1) := by decide +kernel
theorem d_Model_been_19 : decode prog_14_method_103_code 19 = .ok (.iconst 0, 1) := by decide +kernel
theorem d_Model_been_20 : decode prog_14_method_103_code 20 = .ok (.istore_n 2, 1) := by decide +kernel
theorem d_Model_been_21 : decode prog_14_method_103_code 21 = .ok (.iconst 0, 1) := by decide +kernel
theorem d_Model_been_22 : decode prog_14_method_103_code 22 = .ok (.istore_n 3, 1) := by decide +kernel
theorem d_Model_been_23 : decode prog_14_method_103_code 23 = .ok (.iload_n 3, 1) := by decide +kernel
theorem d_Model_been_24 : decode prog_14_method_103_code 24 = .ok (.aload_n 0, 1) := by decide +kernel
theorem d_Model_been_25 : decode prog_14_method_103_code 25 = .ok (.getfield 308, 3) := by decide +kernel
theorem d_Model_been_28 : decode prog_14_method_103_code 28 = .ok (.if_icmp .ge 39, 3) := by decide +kernel
theorem d_Model_been_31 : decode prog_14_method_103_code 31 = .ok (.iload_n 2, 1) := by decide +kernel
theorem d_Model_been_32 : decode prog_14_method_103_code 32 = .ok (.aload_n 0, 1) := by decide +kernel
theorem d_Model_been_33 : decode prog_14_method_103_code 33 = .ok (.getfield 49, 3) := by decide +kernel
theorem d_Model_been_36 : decode prog_14_method_103_code 36 = .ok (.iconst 3, 1) := by decide +kernel
theorem d_Model_been_37 : decode prog_14_method_103_code 37 = .ok (.iload_n 3, 1) := by decide +kernel
theorem d_Model_been_38 : decode prog_14_method_103_code 38 = .ok (.imul, 1) := by decide +kernel
theorem d_Model_been_39 : decode prog_14_method_103_code 39 = .ok (.iconst 1, 1) := by decide +kernel
theorem d_Model_been_40 : decode prog_14_method_103_code 40 = .ok (.iadd, 1) := by decide +kernel
theorem d_Model_been_41 : decode prog_14_method_103_code 41 = .ok (.iaload, 1) := by decide +kernel
theorem d_Model_been_42 : decode prog_14_method_103_code 42 = .ok (.aload_n 0, 1) := by decide +kernel
theorem d_Model_been_43 : decode prog_14_method_103_code 43 = .ok (.getfield 61, 3) := by decide +kernel
theorem d_Model_been_46 : decode prog_14_method_103_code 46 = .ok (.bipush 48, 2) := by decide +kernel
theorem d_Model_been_48 : decode prog_14_method_103_code 48 = .ok (.iaload, 1) := by decide +kernel
theorem d_Model_been_49 : decode prog_14_method_103_code 49 = .ok (.if_icmp .lt 9, 3) := by decide +kernel
theorem d_Model_been_52 : decode prog_14_method_103_code 52 = .ok (.iconst 1, 1) := by decide +kernel
theorem d_Model_been_53 : decode prog_14_method_103_code 53 = .ok (.iload_n 3, 1) := by decide +kernel
theorem d_Model_been_54 : decode prog_14_method_103_code 54 = .ok (.ishl, 1) := by decide +kernel
theorem d_Model_been_55 : decode prog_14_method_103_code 55 = .ok (.goto 4, 3) := by decide +kernel
theorem d_Model_been_58 : decode prog_14_method_103_code 58 = .ok (.iconst 0, 1) := by decide +kernel
theorem d_Model_been_59 : decode prog_14_method_103_code 59 = .ok (.ior, 1) := by decide +kernel
theorem d_Model_been_60 : decode prog_14_method_103_code 60 = .ok (.istore_n 2, 1) := by decide +kernel
theorem d_Model_been_61 : decode prog_14_method_103_code 61 = .ok (.iinc 3 1, 3) := by decide +kernel
theorem d_Model_been_64 : decode prog_14_method_103_code 64 = .ok (.goto (-41), 3) := by decide +kernel
theorem d_Model_been_67 : decode prog_14_method_103_code 67 = .ok (.iconst 0, 1) := by decide +kernel
theorem d_Model_been_68 : decode prog_14_method_103_code 68 = .ok (.istore_n 3, 1) := by decide +kernel
theorem d_Model_been_69 : decode prog_14_method_103_code 69 = .ok (.iconst 0, 1) := by decide +kernel
theorem d_Model_been_70 : decode prog_14_method_103_code 70 = .ok (.istore 4, 2) := by decide +kernel
theorem d_Model_been_72 : decode prog_14_method_103_code 72 = .ok (.iload 4, 2) := by decide +kernel
theorem d_Model_been_74 : decode prog_14_method_103_code 74 = .ok (.iload_n 2, 1) := by decide +kernel
theorem d_Model_been_75 : decode prog_14_method_103_code 75 = .ok (.if_icmp .gt 41, 3) := by decide +kernel
theorem d_Model_been_78 : decode prog_14_method_103_code 78 = .ok (.iload 4, 2) := by decide +kernel
theorem d_Model_been_80 : decode prog_14_method_103_code 80 = .ok (.iload_n 2, 1) := by decide +kernel
theorem d_Model_been_81 : decode prog_14_method_103_code 81 = .ok (.iconst (-1), 1) := by decide +kernel
theorem d_Model_been_82 : decode prog_14_method_103_code 82 = .ok (.ixor, 1) := by decide +kernel
theorem d_Model_been_83 : decode prog_14_method_103_code 83 = .ok (.iand, 1) := by decide +kernel
theorem d_Model_been_84 : decode prog_14_method_103_code 84 = .ok (.ifCond .ne 26, 3) := by decide +kernel
theorem d_Model_been_87 : decode prog_14_method_103_code 87 = .ok (.aload_n 0, 1) := by decide +kernel
theorem d_Model_been_88 : decode prog_14_method_103_code 88 = .ok (.iload 4, 2) := by decide +kernel
theorem d_Model_been_90 : decode prog_14_method_103_code 90 = .ok (.invokevirtual 506, 3) := by decide +kernel
theorem d_Model_been_93 : decode prog_14_method_103_code 93 = .ok (.ifCond .ne 6, 3) := by decide +kernel
theorem d_Model_been_96 : decode prog_14_method_103_code 96 = .ok (.goto 14, 3) := by decide +kernel
theorem d_Model_been_99 : decode prog_14_method_103_code 99 = .ok (.iload_n 3, 1) := by decide +kernel
theorem d_Model_been_100 : decode prog_14_method_103_code 100 = .ok (.iload_n 1, 1) := by decide +kernel
theorem d_Model_been_101 : decode prog_14_method_103_code 101 = .ok (.if_icmp .ne 6, 3) := by decide +kernel
theorem d_Model_been_104 : decode prog_14_method_103_code 104 = .ok (.iload 4, 2) := by decide +kernel
theorem d_Model_been_106 : decode prog_14_method_103_code 106 = .ok (.ireturn, 1) := by decide +kernel
theorem d_Model_been_107 : decode prog_14_method_103_code 107 = .ok (.iinc 3 1, 3) := by decide +kernel
theorem d_Model_been_110 : decode prog_14_method_103_code 110 = .ok (.iinc 4 1, 3) := by decide +kernel
theorem d_Model_been_113 : decode prog_14_method_103_code 113 = .ok (.goto (-41), 3) := by decide +kernel
theorem d_Model_been_116 : decode prog_14_method_103_code 116 = .ok (.iload_n 1, 1) := by decide +kernel
theorem d_Model_been_117 : decode prog_14_method_103_code 117 = .ok (.iconst (-1), 1) := by decide +kernel
theorem d_Model_been_118 : decode prog_14_method_103_code 118 = .ok (.if_icmp .ne 7, 3) := by decide +kernel
theorem d_Model_been_121 : decode prog_14_method_103_code 121 = .ok (.iload_n 3, 1) := by decide +kernel
theorem d_Model_been_122 : decode prog_14_method_103_code 122 = .ok (.goto 4, 3) := by decide +kernel
theorem d_Model_been_125 : decode prog_14_method_103_code 125 = .ok (.iconst (-1), 1) := by decide +kernel
theorem d_Model_been_126 : decode prog_14_method_103_code 126 = .ok (.ireturn, 1) := by decide +kernel
def s_Model_been_17 (p0 : Int32) (σ : LH) : Option (Int32 × LH) :=
  some ((-1), σ)
theorem b_Model_been_17 {G : XG} {l : Launch} {p : Program} {e : Env} {R : Room} {s : State} {m : MethodId} {args : Array Value} {below : List Frame} {meth : Method} {c : Code} (C : XC G 570 598 p s m args c prog_14_method_103_code 5 R_Model) (hr : meth.sig.returnType = (some .int)) (hk : meth.locks = false) {d : Nat} (hd : 126 ≤ d + 1) (hR : xroom R (d + 1)) {p0 : Int32} {σ' : LH} {r : Int32} {σ : LH} (h0 : s_Model_been_17 p0 σ = some (r, σ')) : XJ G 570 598 p l e R s m args below meth c 5 (XQ G 570 598 below args s (some (.int r)) σ') 0 0 17 [] [] σ := by
  replace h0 := (show _ = _ from h0)
  unfold s_Model_been_17 at h0
  refine x_iconst (v := (-1)) C d_Model_been_17 (by decide) ?_
  exact x_iret C hr hk h0 d_Model_been_18
def s_Model_been_126 (p0 : Int32) (z0 : Int32) (σ : LH) : Option (Int32 × LH) :=
  some (z0, σ)
theorem b_Model_been_126 {G : XG} {l : Launch} {p : Program} {e : Env} {R : Room} {s : State} {m : MethodId} {args : Array Value} {below : List Frame} {meth : Method} {c : Code} (C : XC G 570 598 p s m args c prog_14_method_103_code 5 R_Model) (hr : meth.sig.returnType = (some .int)) (hk : meth.locks = false) {d : Nat} (hd : 126 ≤ d + 1) (hR : xroom R (d + 1)) {p0 : Int32} {σ' : LH} {r : Int32} {z0 : Int32} {σ : LH} (h0 : s_Model_been_126 p0 z0 σ = some (r, σ')) : XJ G 570 598 p l e R s m args below meth c 5 (XQ G 570 598 below args s (some (.int r)) σ') 0 0 126 [] [.int z0] σ := by
  replace h0 := (show _ = _ from h0)
  unfold s_Model_been_126 at h0
  exact x_iret C hr hk h0 d_Model_been_126
def s_Model_been_110 (p0 : Int32) (rec72 : Int32 → Int32 → Int32 → LH → Option (Int32 × LH)) (y2 : Int32) (y3 : Int32) (y4 : Int32) (σ : LH) : Option (Int32 × LH) :=
  xl ((y4 + 1) : Int32) fun x12 =>
  rec72 y2 y3 x12 σ
theorem b_Model_been_110 {G : XG} {l : Launch} {p : Program} {e : Env} {R : Room} {s : State} {m : MethodId} {args : Array Value} {below : List Frame} {meth : Method} {c : Code} (C : XC G 570 598 p s m args c prog_14_method_103_code 5 R_Model) (hr : meth.sig.returnType = (some .int)) (hk : meth.locks = false) {d : Nat} (hd : 126 ≤ d + 1) (hR : xroom R (d + 1)) {p0 : Int32} {rec72 : Int32 → Int32 → Int32 → LH → Option (Int32 × LH)} {σ' : LH} {r : Int32} (hrec72 : ∀ (y2 : Int32) (y3 : Int32) (y4 : Int32) (σ : LH), rec72 y2 y3 y4 σ = some (r, σ') → XJ G 570 598 p l e R s m args below meth c 5 (XQ G 570 598 below args s (some (.int r)) σ') 0 0 72 [(0, .ref (G.2.2.1 + 570)), (1, .int p0), (2, .int y2), (3, .int y3), (4, .int y4)] [] σ) {y2 : Int32} {y3 : Int32} {y4 : Int32} {σ : LH} (h0 : s_Model_been_110 p0 rec72 y2 y3 y4 σ = some (r, σ')) : XJ G 570 598 p l e R s m args below meth c 5 (XQ G 570 598 below args s (some (.int r)) σ') 0 0 110 [(0, .ref (G.2.2.1 + 570)), (1, .int p0), (2, .int y2), (3, .int y3), (4, .int y4)] [] σ := by
  replace h0 := (show _ = _ from h0)
  unfold s_Model_been_110 at h0
  obtain ⟨x12, ex12, h0⟩ := xlet h0
  refine x_iinc (lv' := [(4, .int x12), (0, .ref (G.2.2.1 + 570)), (1, .int p0), (2, .int y2), (3, .int y3)]) C d_Model_been_110 4 rfl ex12 (by decide) rfl ?_
  refine x_goto C 72 d_Model_been_113 (by decide) ?_
  exact x_lv C [1, 2, 3, 4, 0] rfl (hrec72 _ _ _ _ h0)
def s_Model_been_72_b (p0 : Int32) (rec72 : Int32 → Int32 → Int32 → LH → Option (Int32 × LH)) (y2 : Int32) (y3 : Int32) (y4 : Int32) (σ : LH) : Option (Int32 × LH) :=
  if y2 < y4 then (
   if p0 = (-1) then (
    s_Model_been_126 p0 y3 σ)
   else (
    s_Model_been_126 p0 (-1) σ))
  else (
   if (y4 &&& (y2 ^^^ (-1))) = 0 then (
    xb2 (s_Model_isSo y4 σ) fun r9 σ10 =>
    if r9 = 0 then (
     s_Model_been_110 p0 rec72 y2 y3 y4 σ10)
    else (
     if y3 = p0 then (
      some (y4, σ10))
     else (
      xl ((y3 + 1) : Int32) fun x14 =>
      s_Model_been_110 p0 rec72 y2 x14 y4 σ10)))
   else (
    s_Model_been_110 p0 rec72 y2 y3 y4 σ))
def s_Model_been_72 (p0 : Int32) : Nat → Int32 → Int32 → Int32 → LH → Option (Int32 × LH)
  | 0, _, _, _, _ => none
  | n + 1, y2, y3, y4, σ => s_Model_been_72_b p0 (s_Model_been_72 p0 n) y2 y3 y4 σ
theorem bb_Model_been_72 {G : XG} {l : Launch} {p : Program} {e : Env} {R : Room} {s : State} {m : MethodId} {args : Array Value} {below : List Frame} {meth : Method} {c : Code} (C : XC G 570 598 p s m args c prog_14_method_103_code 5 R_Model) (hr : meth.sig.returnType = (some .int)) (hk : meth.locks = false) {d : Nat} (hd : 126 ≤ d + 1) (hR : xroom R (d + 1)) {p0 : Int32} {rec72 : Int32 → Int32 → Int32 → LH → Option (Int32 × LH)} {σ' : LH} {r : Int32} (hrec72 : ∀ (y2 : Int32) (y3 : Int32) (y4 : Int32) (σ : LH), rec72 y2 y3 y4 σ = some (r, σ') → XJ G 570 598 p l e R s m args below meth c 5 (XQ G 570 598 below args s (some (.int r)) σ') 0 0 72 [(0, .ref (G.2.2.1 + 570)), (1, .int p0), (2, .int y2), (3, .int y3), (4, .int y4)] [] σ) {y2 : Int32} {y3 : Int32} {y4 : Int32} {σ : LH} (h0 : s_Model_been_72_b p0 rec72 y2 y3 y4 σ = some (r, σ')) : XJ G 570 598 p l e R s m args below meth c 5 (XQ G 570 598 below args s (some (.int r)) σ') 0 0 72 [(0, .ref (G.2.2.1 + 570)), (1, .int p0), (2, .int y2), (3, .int y3), (4, .int y4)] [] σ := by
  replace h0 := (show _ = _ from h0)
  unfold s_Model_been_72_b at h0
  refine x_iload C d_Model_been_72 4 rfl ?_
  refine x_iload_n C d_Model_been_74 2 rfl ?_
  refine x_icmp_gt C 116 d_Model_been_75 (by decide) (fun q5 => ?_) (fun q5 => ?_)
  · replace h0 := xit q5 h0
    refine x_iload_n C d_Model_been_116 1 rfl ?_
    refine x_iconst (v := (-1)) C d_Model_been_117 (by decide) ?_
    refine x_icmp_ne C 125 d_Model_been_118 (by decide) (fun q6 => ?_) (fun q6 => ?_)
    · replace h0 := xif q6 h0
      refine x_iconst (v := (-1)) C d_Model_been_125 (by decide) ?_
      exact x_lv C [] rfl (b_Model_been_126 C hr hk hd hR h0)
    · replace h0 := xit q6 h0
      refine x_iload_n C d_Model_been_121 3 rfl ?_
      refine x_goto C 126 d_Model_been_122 (by decide) ?_
      exact x_lv C [] rfl (b_Model_been_126 C hr hk hd hR h0)
  · replace h0 := xif q5 h0
    refine x_iload C d_Model_been_78 4 rfl ?_
    refine x_iload_n C d_Model_been_80 2 rfl ?_
    refine x_iconst (v := (-1)) C d_Model_been_81 (by decide) ?_
    refine x_ixor C d_Model_been_82 ?_
    refine x_iand C d_Model_been_83 ?_
    refine x_if_ne C 110 d_Model_been_84 (by decide) (fun q7 => ?_) (fun q7 => ?_)
    · replace h0 := xif q7 h0
      exact x_lv C [0, 1, 2, 3, 4] rfl (b_Model_been_110 C hr hk hd hR hrec72 h0)
    · replace h0 := xit q7 h0
      refine x_aload_n C d_Model_been_87 0 rfl ?_
      refine x_iload C d_Model_been_88 4 rfl ?_
      obtain ⟨r9, σ10, k8, h0⟩ := xbind2 h0
      refine x_callVi C hR (c_Model_isSo (d := d) (by omega) k8) cw_Model_506 k_570 rfl rfl rfl (Nat.le_of_ble_eq_true rfl) ⟨Nat.zero_le _, Nat.zero_le _⟩ d_Model_been_90 ?_
      refine x_if_ne C 99 d_Model_been_93 (by decide) (fun q11 => ?_) (fun q11 => ?_)
      · replace h0 := xif q11 h0
        refine x_iload_n C d_Model_been_99 3 rfl ?_
        refine x_iload_n C d_Model_been_100 1 rfl ?_
        refine x_icmp_ne C 107 d_Model_been_101 (by decide) (fun q13 => ?_) (fun q13 => ?_)
        · replace h0 := xif q13 h0
          obtain ⟨x14, ex14, h0⟩ := xlet h0
          refine x_iinc (lv' := [(3, .int x14), (0, .ref (G.2.2.1 + 570)), (1, .int p0), (2, .int y2), (4, .int y4)]) C d_Model_been_107 3 rfl ex14 (by decide) rfl ?_
          exact x_lv C [1, 2, 3, 0, 4] rfl (b_Model_been_110 C hr hk hd hR hrec72 h0)
        · replace h0 := xit q13 h0
          refine x_iload C d_Model_been_104 4 rfl ?_
          exact x_iret C hr hk h0 d_Model_been_106
      · replace h0 := xit q11 h0
        refine x_goto C 110 d_Model_been_96 (by decide) ?_
        exact x_lv C [0, 1, 2, 3, 4] rfl (b_Model_been_110 C hr hk hd hR hrec72 h0)
theorem b_Model_been_72 {G : XG} {l : Launch} {p : Program} {e : Env} {R : Room} {s : State} {m : MethodId} {args : Array Value} {below : List Frame} {meth : Method} {c : Code} (C : XC G 570 598 p s m args c prog_14_method_103_code 5 R_Model) (hr : meth.sig.returnType = (some .int)) (hk : meth.locks = false) {d : Nat} (hd : 126 ≤ d + 1) (hR : xroom R (d + 1)) {p0 : Int32} {σ' : LH} {r : Int32} : ∀ (n : Nat) (y2 : Int32) (y3 : Int32) (y4 : Int32) (σ : LH), s_Model_been_72 p0 n y2 y3 y4 σ = some (r, σ') → XJ G 570 598 p l e R s m args below meth c 5 (XQ G 570 598 below args s (some (.int r)) σ') 0 0 72 [(0, .ref (G.2.2.1 + 570)), (1, .int p0), (2, .int y2), (3, .int y3), (4, .int y4)] [] σ := by
  intro n
  induction n with
  | zero => intro y2 y3 y4 σ h0; cases h0
  | succ n ih => intro y2 y3 y4 σ h0; exact bb_Model_been_72 C hr hk hd hR ih h0
def s_Model_been_59 (p0 : Int32) (rec23 : Int32 → Int32 → LH → Option (Int32 × LH)) (y3 : Int32) (z0 : Int32) (z1 : Int32) (σ : LH) : Option (Int32 × LH) :=
  xl (((z0 ||| z1)) : Int32) fun x18 =>
  xl ((y3 + 1) : Int32) fun x19 =>
  rec23 x18 x19 σ
theorem b_Model_been_59 {G : XG} {l : Launch} {p : Program} {e : Env} {R : Room} {s : State} {m : MethodId} {args : Array Value} {below : List Frame} {meth : Method} {c : Code} (C : XC G 570 598 p s m args c prog_14_method_103_code 5 R_Model) (hr : meth.sig.returnType = (some .int)) (hk : meth.locks = false) {d : Nat} (hd : 126 ≤ d + 1) (hR : xroom R (d + 1)) {p0 : Int32} {rec23 : Int32 → Int32 → LH → Option (Int32 × LH)} {σ' : LH} {r : Int32} (hrec23 : ∀ (y2 : Int32) (y3 : Int32) (σ : LH), rec23 y2 y3 σ = some (r, σ') → XJ G 570 598 p l e R s m args below meth c 5 (XQ G 570 598 below args s (some (.int r)) σ') 0 0 23 [(0, .ref (G.2.2.1 + 570)), (1, .int p0), (2, .int y2), (3, .int y3)] [] σ) {y3 : Int32} {z0 : Int32} {z1 : Int32} {σ : LH} (h0 : s_Model_been_59 p0 rec23 y3 z0 z1 σ = some (r, σ')) : XJ G 570 598 p l e R s m args below meth c 5 (XQ G 570 598 below args s (some (.int r)) σ') 0 0 59 [(0, .ref (G.2.2.1 + 570)), (1, .int p0), (3, .int y3)] [.int z1, .int z0] σ := by
  replace h0 := (show _ = _ from h0)
  unfold s_Model_been_59 at h0
  refine x_ior C d_Model_been_59 ?_
  obtain ⟨x18, ex18, h0⟩ := xlet h0
  refine x_name C ex18 ?_
  refine x_istore_n (lv' := [(2, .int x18), (0, .ref (G.2.2.1 + 570)), (1, .int p0), (3, .int y3)]) C d_Model_been_60 rfl (by decide) rfl ?_
  obtain ⟨x19, ex19, h0⟩ := xlet h0
  refine x_iinc (lv' := [(3, .int x19), (2, .int x18), (0, .ref (G.2.2.1 + 570)), (1, .int p0)]) C d_Model_been_61 3 rfl ex19 (by decide) rfl ?_
  refine x_goto C 23 d_Model_been_64 (by decide) ?_
  exact x_lv C [2, 3, 1, 0] rfl (hrec23 _ _ _ h0)
def s_Model_been_23_b (p0 : Int32) (rec23 : Int32 → Int32 → LH → Option (Int32 × LH)) (y2 : Int32) (y3 : Int32) (σ : LH) : Option (Int32 × LH) :=
  if (σ.1 570 28) ≤ y3 then (
   s_Model_been_72 p0 FUEL y2 0 0 σ)
  else (
   if ib ((3 * y3) + 1) 30 then (
   if ib 48 290 then (
   if (σ.1 579 (Int32.toNatClampNeg ((3 * y3) + 1))) < (σ.1 583 (Int32.toNatClampNeg 48)) then (
    s_Model_been_59 p0 rec23 y3 y2 0 σ)
   else (
    s_Model_been_59 p0 rec23 y3 y2 (1 <<< (y3 &&& 31)) σ)) else none) else none)
def s_Model_been_23 (p0 : Int32) : Nat → Int32 → Int32 → LH → Option (Int32 × LH)
  | 0, _, _, _ => none
  | n + 1, y2, y3, σ => s_Model_been_23_b p0 (s_Model_been_23 p0 n) y2 y3 σ
theorem bb_Model_been_23 {G : XG} {l : Launch} {p : Program} {e : Env} {R : Room} {s : State} {m : MethodId} {args : Array Value} {below : List Frame} {meth : Method} {c : Code} (C : XC G 570 598 p s m args c prog_14_method_103_code 5 R_Model) (hr : meth.sig.returnType = (some .int)) (hk : meth.locks = false) {d : Nat} (hd : 126 ≤ d + 1) (hR : xroom R (d + 1)) {p0 : Int32} {rec23 : Int32 → Int32 → LH → Option (Int32 × LH)} {σ' : LH} {r : Int32} (hrec23 : ∀ (y2 : Int32) (y3 : Int32) (σ : LH), rec23 y2 y3 σ = some (r, σ') → XJ G 570 598 p l e R s m args below meth c 5 (XQ G 570 598 below args s (some (.int r)) σ') 0 0 23 [(0, .ref (G.2.2.1 + 570)), (1, .int p0), (2, .int y2), (3, .int y3)] [] σ) {y2 : Int32} {y3 : Int32} {σ : LH} (h0 : s_Model_been_23_b p0 rec23 y2 y3 σ = some (r, σ')) : XJ G 570 598 p l e R s m args below meth c 5 (XQ G 570 598 below args s (some (.int r)) σ') 0 0 23 [(0, .ref (G.2.2.1 + 570)), (1, .int p0), (2, .int y2), (3, .int y3)] [] σ := by
  replace h0 := (show _ = _ from h0)
  unfold s_Model_been_23_b at h0
  refine x_iload_n C d_Model_been_23 3 rfl ?_
  refine x_aload_n C d_Model_been_24 0 rfl ?_
  refine x_getI (y := 0) C fg_Model_308 k_570 rfl d_Model_been_25 ?_
  refine x_icmp_ge C 67 d_Model_been_28 (by decide) (fun q4 => ?_) (fun q4 => ?_)
  · replace h0 := xit q4 h0
    refine x_iconst (v := 0) C d_Model_been_67 (by decide) ?_
    refine x_istore_n (lv' := [(3, .int 0), (0, .ref (G.2.2.1 + 570)), (1, .int p0), (2, .int y2)]) C d_Model_been_68 rfl (by decide) rfl ?_
    refine x_iconst (v := 0) C d_Model_been_69 (by decide) ?_
    refine x_istore (lv' := [(4, .int 0), (3, .int 0), (0, .ref (G.2.2.1 + 570)), (1, .int p0), (2, .int y2)]) C d_Model_been_70 (by decide) rfl ?_
    exact x_lv C [2, 3, 4, 1, 0] rfl (b_Model_been_72 C hr hk hd hR FUEL _ _ _ _ h0)
  · replace h0 := xif q4 h0
    refine x_iload_n C d_Model_been_31 2 rfl ?_
    refine x_aload_n C d_Model_been_32 0 rfl ?_
    refine x_getA (y := 579) C fg_Model_49 k_570 rfl d_Model_been_33 ?_
    refine x_iconst (v := 3) C d_Model_been_36 (by decide) ?_
    refine x_iload_n C d_Model_been_37 3 rfl ?_
    refine x_imul C d_Model_been_38 ?_
    refine x_iconst (v := 1) C d_Model_been_39 (by decide) ?_
    refine x_iadd C d_Model_been_40 ?_
    obtain ⟨g15, h0⟩ := xgo h0
    refine x_iald C k_579 (ib_in g15) d_Model_been_41 ?_
    refine x_aload_n C d_Model_been_42 0 rfl ?_
    refine x_getA (y := 583) C fg_Model_61 k_570 rfl d_Model_been_43 ?_
    refine x_bipush (v := 48) C d_Model_been_46 (by decide) ?_
    obtain ⟨g16, h0⟩ := xgo h0
    refine x_iald C k_583 (ib_in g16) d_Model_been_48 ?_
    refine x_icmp_lt C 58 d_Model_been_49 (by decide) (fun q17 => ?_) (fun q17 => ?_)
    · replace h0 := xit q17 h0
      refine x_iconst (v := 0) C d_Model_been_58 (by decide) ?_
      exact x_lv C [0, 1, 3] rfl (b_Model_been_59 C hr hk hd hR hrec23 h0)
    · replace h0 := xif q17 h0
      refine x_iconst (v := 1) C d_Model_been_52 (by decide) ?_
      refine x_iload_n C d_Model_been_53 3 rfl ?_
      refine x_ishl C d_Model_been_54 ?_
      refine x_goto C 59 d_Model_been_55 (by decide) ?_
      exact x_lv C [0, 1, 3] rfl (b_Model_been_59 C hr hk hd hR hrec23 h0)
theorem b_Model_been_23 {G : XG} {l : Launch} {p : Program} {e : Env} {R : Room} {s : State} {m : MethodId} {args : Array Value} {below : List Frame} {meth : Method} {c : Code} (C : XC G 570 598 p s m args c prog_14_method_103_code 5 R_Model) (hr : meth.sig.returnType = (some .int)) (hk : meth.locks = false) {d : Nat} (hd : 126 ≤ d + 1) (hR : xroom R (d + 1)) {p0 : Int32} {σ' : LH} {r : Int32} : ∀ (n : Nat) (y2 : Int32) (y3 : Int32) (σ : LH), s_Model_been_23 p0 n y2 y3 σ = some (r, σ') → XJ G 570 598 p l e R s m args below meth c 5 (XQ G 570 598 below args s (some (.int r)) σ') 0 0 23 [(0, .ref (G.2.2.1 + 570)), (1, .int p0), (2, .int y2), (3, .int y3)] [] σ := by
  intro n
  induction n with
  | zero => intro y2 y3 σ h0; cases h0
  | succ n ih => intro y2 y3 σ h0; exact bb_Model_been_23 C hr hk hd hR ih h0
def s_Model_been (p0 : Int32) (σ : LH) : Option (Int32 × LH) :=
  xl ((stI σ 570 0 0) : LH) fun σ1 =>
  if (σ1.1 570 27) = 0 then (
   s_Model_been_17 p0 σ1)
  else (
   if (-1) ≤ p0 then (
    s_Model_been_23 p0 FUEL 0 0 σ1)
   else (
    s_Model_been_17 p0 σ1))
theorem c_Model_been {G : XG} {l : Launch} {d : Nat} (hd : 126 ≤ d) {p0 : Int32} {σ σ' : LH} {r : Int32} (h0 : s_Model_been p0 σ = some (r, σ')) : xM G 570 598 l y_Model_been prog_14_method_103_code 5 (some .int) d [.ref (G.2.2.1 + 570), .int p0] σ (some (.int r)) σ' := by
  obtain ⟨d, rfl⟩ : ∃ q, d = q + 1 := ⟨d - 1, by omega⟩
  refine x_met R_Model rfl (by decide +kernel) (Nat.le_of_ble_eq_true rfl) fun p e s m below meth c C hr hk hR => ?_
  refine x_lv (lv' := [(0, .ref (G.2.2.1 + 570)), (1, .int p0)]) C [0, 1] rfl ?_
  generalize xrm (d + 1) = R at hR ⊢
  unfold s_Model_been at h0
  refine x_aload_n C d_Model_been_0 0 rfl ?_
  refine x_iconst (v := 0) C d_Model_been_1 (by decide) ?_
  refine x_putI (y := 0) C fp_Model_114 k_570 rfl rfl rfl d_Model_been_2 ?_
  obtain ⟨σ1, eσ1, h0⟩ := xlet h0
  refine x_sig C eσ1 ?_
  refine x_aload_n C d_Model_been_5 0 rfl ?_
  refine x_getI (y := 0) C fg_Model_305 k_570 rfl d_Model_been_6 ?_
  refine x_if_eq C 17 d_Model_been_9 (by decide) (fun q2 => ?_) (fun q2 => ?_)
  · replace h0 := xit q2 h0
    exact x_lv C [] rfl (b_Model_been_17 C hr hk hd hR h0)
  · replace h0 := xif q2 h0
    refine x_iload_n C d_Model_been_12 1 rfl ?_
    refine x_iconst (v := (-1)) C d_Model_been_13 (by decide) ?_
    refine x_icmp_ge C 19 d_Model_been_14 (by decide) (fun q3 => ?_) (fun q3 => ?_)
    · replace h0 := xit q3 h0
      refine x_iconst (v := 0) C d_Model_been_19 (by decide) ?_
      refine x_istore_n (lv' := [(2, .int 0), (0, .ref (G.2.2.1 + 570)), (1, .int p0)]) C d_Model_been_20 rfl (by decide) rfl ?_
      refine x_iconst (v := 0) C d_Model_been_21 (by decide) ?_
      refine x_istore_n (lv' := [(3, .int 0), (2, .int 0), (0, .ref (G.2.2.1 + 570)), (1, .int p0)]) C d_Model_been_22 rfl (by decide) rfl ?_
      exact x_lv C [2, 3, 1, 0] rfl (b_Model_been_23 C hr hk hd hR FUEL _ _ _ h0)
    · replace h0 := xif q3 h0
      exact x_lv C [] rfl (b_Model_been_17 C hr hk hd hR h0)
-- LostPlacesModel.ladder(I)I
theorem d_Model_ladder_0 : decode prog_14_method_104_code 0 = .ok (.aload_n 0, 1) := by decide +kernel
theorem d_Model_ladder_1 : decode prog_14_method_104_code 1 = .ok (.iconst 0, 1) := by decide +kernel
theorem d_Model_ladder_2 : decode prog_14_method_104_code 2 = .ok (.putfield 114, 3) := by decide +kernel
theorem d_Model_ladder_5 : decode prog_14_method_104_code 5 = .ok (.aload_n 0, 1) := by decide +kernel
theorem d_Model_ladder_6 : decode prog_14_method_104_code 6 = .ok (.iload_n 1, 1) := by decide +kernel
theorem d_Model_ladder_7 : decode prog_14_method_104_code 7 = .ok (.invokevirtual 407, 3) := by decide +kernel
theorem d_Model_ladder_10 : decode prog_14_method_104_code 10 = .ok (.ifCond .ne 5, 3) := by decide +kernel
theorem d_Model_ladder_13 : decode prog_14_method_104_code 13 = .ok (.iconst (-1), 1) := by decide +kernel
theorem d_Model_ladder_14 : decode prog_14_method_104_code 14 = .ok (.ireturn, 1) := by decide +kernel
theorem d_Model_ladder_15 : decode prog_14_method_104_code 15 = .ok (.iconst 0, 1) := by decide +kernel
theorem d_Model_ladder_16 : decode prog_14_method_104_code 16 = .ok (.istore_n 2, 1) := by decide +kernel
theorem d_Model_ladder_17 : decode prog_14_method_104_code 17 = .ok (.iload_n 2, 1) := by decide +kernel
theorem d_Model_ladder_18 : decode prog_14_method_104_code 18 = .ok (.aload_n 0, 1) := by decide +kernel
theorem d_Model_ladder_19 : decode prog_14_method_104_code 19 = .ok (.getfield 302, 3) := by decide +kernel
theorem d_Model_ladder_22 : decode prog_14_method_104_code 22 = .ok (.if_icmp .ge 90, 3) := by decide +kernel
theorem d_Model_ladder_25 : decode prog_14_method_104_code 25 = .ok (.iconst 0, 1) := by decide +kernel
theorem d_Model_ladder_26 : decode prog_14_method_104_code 26 = .ok (.istore_n 3, 1) := by decide +kernel
theorem d_Model_ladder_27 : decode prog_14_method_104_code 27 = .ok (.iconst 0, 1) := by decide +kernel
theorem d_Model_ladder_28 : decode prog_14_method_104_code 28 = .ok (.istore 4, 2) := by decide +kernel
theorem d_Model_ladder_30 : decode prog_14_method_104_code 30 = .ok (.iload 4, 2) := by decide +kernel
theorem d_Model_ladder_32 : decode prog_14_method_104_code 32 = .ok (.aload_n 0, 1) := by decide +kernel
theorem d_Model_ladder_33 : decode prog_14_method_104_code 33 = .ok (.getfield 302, 3) := by decide +kernel
theorem d_Model_ladder_36 : decode prog_14_method_104_code 36 = .ok (.if_icmp .ge 63, 3) := by decide +kernel
theorem d_Model_ladder_39 : decode prog_14_method_104_code 39 = .ok (.iload_n 3, 1) := by decide +kernel
theorem d_Model_ladder_40 : decode prog_14_method_104_code 40 = .ok (.aload_n 0, 1) := by decide +kernel
theorem d_Model_ladder_41 : decode prog_14_method_104_code 41 = .ok (.getfield 37, 3) := by decide +kernel
theorem d_Model_ladder_44 : decode prog_14_method_104_code 44 = .ok (.iconst 3, 1) := by decide +kernel
theorem d_Model_ladder_45 : decode prog_14_method_104_code 45 = .ok (.iload 4, 2) := by decide +kernel
theorem d_Model_ladder_47 : decode prog_14_method_104_code 47 = .ok (.imul, 1) := by decide +kernel
theorem d_Model_ladder_48 : decode prog_14_method_104_code 48 = .ok (.iaload, 1) := by decide +kernel
theorem d_Model_ladder_49 : decode prog_14_method_104_code 49 = .ok (.aload_n 0, 1) := by decide +kernel
theorem d_Model_ladder_50 : decode prog_14_method_104_code 50 = .ok (.getfield 37, 3) := by decide +kernel
theorem d_Model_ladder_53 : decode prog_14_method_104_code 53 = .ok (.iconst 3, 1) := by decide +kernel
theorem d_Model_ladder_54 : decode prog_14_method_104_code 54 = .ok (.iload_n 2, 1) := by decide +kernel
theorem d_Model_ladder_55 : decode prog_14_method_104_code 55 = .ok (.imul, 1) := by decide +kernel
theorem d_Model_ladder_56 : decode prog_14_method_104_code 56 = .ok (.iaload, 1) := by decide +kernel
theorem d_Model_ladder_57 : decode prog_14_method_104_code 57 = .ok (.if_icmp .gt 29, 3) := by decide +kernel
theorem d_Model_ladder_60 : decode prog_14_method_104_code 60 = .ok (.aload_n 0, 1) := by decide +kernel
theorem d_Model_ladder_61 : decode prog_14_method_104_code 61 = .ok (.getfield 37, 3) := by decide +kernel
theorem d_Model_ladder_64 : decode prog_14_method_104_code 64 = .ok (.iconst 3, 1) := by decide +kernel
theorem d_Model_ladder_65 : decode prog_14_method_104_code 65 = .ok (.iload 4, 2) := by decide +kernel
theorem d_Model_ladder_67 : decode prog_14_method_104_code 67 = .ok (.imul, 1) := by decide +kernel
theorem d_Model_ladder_68 : decode prog_14_method_104_code 68 = .ok (.iaload, 1) := by decide +kernel
theorem d_Model_ladder_69 : decode prog_14_method_104_code 69 = .ok (.aload_n 0, 1) := by decide +kernel
theorem d_Model_ladder_70 : decode prog_14_method_104_code 70 = .ok (.getfield 37, 3) := by decide +kernel
theorem d_Model_ladder_73 : decode prog_14_method_104_code 73 = .ok (.iconst 3, 1) := by decide +kernel
theorem d_Model_ladder_74 : decode prog_14_method_104_code 74 = .ok (.iload_n 2, 1) := by decide +kernel
theorem d_Model_ladder_75 : decode prog_14_method_104_code 75 = .ok (.imul, 1) := by decide +kernel
theorem d_Model_ladder_76 : decode prog_14_method_104_code 76 = .ok (.iaload, 1) := by decide +kernel
theorem d_Model_ladder_77 : decode prog_14_method_104_code 77 = .ok (.if_icmp .ne 13, 3) := by decide +kernel
theorem d_Model_ladder_80 : decode prog_14_method_104_code 80 = .ok (.iload 4, 2) := by decide +kernel
theorem d_Model_ladder_82 : decode prog_14_method_104_code 82 = .ok (.iload_n 2, 1) := by decide +kernel
theorem d_Model_ladder_83 : decode prog_14_method_104_code 83 = .ok (.if_icmp .ge 7, 3) := by decide +kernel
theorem d_Model_ladder_86 : decode prog_14_method_104_code 86 = .ok (.iconst 1, 1) := by decide +kernel
theorem d_Model_ladder_87 : decode prog_14_method_104_code 87 = .ok (.goto 4, 3) := by decide +kernel
theorem d_Model_ladder_90 : decode prog_14_method_104_code 90 = .ok (.iconst 0, 1) := by decide +kernel
theorem d_Model_ladder_91 : decode prog_14_method_104_code 91 = .ok (.iadd, 1) := by decide +kernel
theorem d_Model_ladder_92 : decode prog_14_method_104_code 92 = .ok (.istore_n 3, 1) := by decide +kernel
theorem d_Model_ladder_93 : decode prog_14_method_104_code 93 = .ok (.iinc 4 1, 3) := by decide +kernel
theorem d_Model_ladder_96 : decode prog_14_method_104_code 96 = .ok (.goto (-66), 3) := by decide +kernel
theorem d_Model_ladder_99 : decode prog_14_method_104_code 99 = .ok (.iload_n 3, 1) := by decide +kernel
theorem d_Model_ladder_100 : decode prog_14_method_104_code 100 = .ok (.iload_n 1, 1) := by decide +kernel
theorem d_Model_ladder_101 : decode prog_14_method_104_code 101 = .ok (.if_icmp .ne 5, 3) := by decide +kernel
theorem d_Model_ladder_104 : decode prog_14_method_104_code 104 = .ok (.iload_n 2, 1) := by decide +kernel
theorem d_Model_ladder_105 : decode prog_14_method_104_code 105 = .ok (.ireturn, 1) := by decide +kernel
theorem d_Model_ladder_106 : decode prog_14_method_104_code 106 = .ok (.iinc 2 1, 3) := by decide +kernel
theorem d_Model_ladder_109 : decode prog_14_method_104_code 109 = .ok (.goto (-92), 3) := by decide +kernel
theorem d_Model_ladder_112 : decode prog_14_method_104_code 112 = .ok (.iconst (-1), 1) := by decide +kernel
theorem d_Model_ladder_113 : decode prog_14_method_104_code 113 = .ok (.ireturn, 1) := by decide +kernel
def s_Model_ladder_91 (p0 : Int32) (rec30 : Int32 → Int32 → Int32 → LH → Option (Int32 × LH)) (y2 : Int32) (y4 : Int32) (z0 : Int32) (z1 : Int32) (σ : LH) : Option (Int32 × LH) :=
  xl (((z0 + z1)) : Int32) fun x13 =>
  xl ((y4 + 1) : Int32) fun x14 =>
  rec30 y2 x13 x14 σ
theorem b_Model_ladder_91 {G : XG} {l : Launch} {p : Program} {e : Env} {R : Room} {s : State} {m : MethodId} {args : Array Value} {below : List Frame} {meth : Method} {c : Code} (C : XC G 570 598 p s m args c prog_14_method_104_code 5 R_Model) (hr : meth.sig.returnType = (some .int)) (hk : meth.locks = false) {d : Nat} (hd : 2 ≤ d + 1) (hR : xroom R (d + 1)) {p0 : Int32} {rec30 : Int32 → Int32 → Int32 → LH → Option (Int32 × LH)} {σ' : LH} {r : Int32} (hrec30 : ∀ (y2 : Int32) (y3 : Int32) (y4 : Int32) (σ : LH), rec30 y2 y3 y4 σ = some (r, σ') → XJ G 570 598 p l e R s m args below meth c 5 (XQ G 570 598 below args s (some (.int r)) σ') 0 0 30 [(0, .ref (G.2.2.1 + 570)), (1, .int p0), (2, .int y2), (3, .int y3), (4, .int y4)] [] σ) {y2 : Int32} {y4 : Int32} {z0 : Int32} {z1 : Int32} {σ : LH} (h0 : s_Model_ladder_91 p0 rec30 y2 y4 z0 z1 σ = some (r, σ')) : XJ G 570 598 p l e R s m args below meth c 5 (XQ G 570 598 below args s (some (.int r)) σ') 0 0 91 [(0, .ref (G.2.2.1 + 570)), (1, .int p0), (2, .int y2), (4, .int y4)] [.int z1, .int z0] σ := by
  replace h0 := (show _ = _ from h0)
  unfold s_Model_ladder_91 at h0
  refine x_iadd C d_Model_ladder_91 ?_
  obtain ⟨x13, ex13, h0⟩ := xlet h0
  refine x_name C ex13 ?_
  refine x_istore_n (lv' := [(3, .int x13), (0, .ref (G.2.2.1 + 570)), (1, .int p0), (2, .int y2), (4, .int y4)]) C d_Model_ladder_92 rfl (by decide) rfl ?_
  obtain ⟨x14, ex14, h0⟩ := xlet h0
  refine x_iinc (lv' := [(4, .int x14), (3, .int x13), (0, .ref (G.2.2.1 + 570)), (1, .int p0), (2, .int y2)]) C d_Model_ladder_93 4 rfl ex14 (by decide) rfl ?_
  refine x_goto C 30 d_Model_ladder_96 (by decide) ?_
  exact x_lv C [2, 3, 4, 1, 0] rfl (hrec30 _ _ _ _ h0)
def s_Model_ladder_86 (p0 : Int32) (rec30 : Int32 → Int32 → Int32 → LH → Option (Int32 × LH)) (y2 : Int32) (y4 : Int32) (z0 : Int32) (σ : LH) : Option (Int32 × LH) :=
  s_Model_ladder_91 p0 rec30 y2 y4 z0 1 σ
theorem b_Model_ladder_86 {G : XG} {l : Launch} {p : Program} {e : Env} {R : Room} {s : State} {m : MethodId} {args : Array Value} {below : List Frame} {meth : Method} {c : Code} (C : XC G 570 598 p s m args c prog_14_method_104_code 5 R_Model) (hr : meth.sig.returnType = (some .int)) (hk : meth.locks = false) {d : Nat} (hd : 2 ≤ d + 1) (hR : xroom R (d + 1)) {p0 : Int32} {rec30 : Int32 → Int32 → Int32 → LH → Option (Int32 × LH)} {σ' : LH} {r : Int32} (hrec30 : ∀ (y2 : Int32) (y3 : Int32) (y4 : Int32) (σ : LH), rec30 y2 y3 y4 σ = some (r, σ') → XJ G 570 598 p l e R s m args below meth c 5 (XQ G 570 598 below args s (some (.int r)) σ') 0 0 30 [(0, .ref (G.2.2.1 + 570)), (1, .int p0), (2, .int y2), (3, .int y3), (4, .int y4)] [] σ) {y2 : Int32} {y4 : Int32} {z0 : Int32} {σ : LH} (h0 : s_Model_ladder_86 p0 rec30 y2 y4 z0 σ = some (r, σ')) : XJ G 570 598 p l e R s m args below meth c 5 (XQ G 570 598 below args s (some (.int r)) σ') 0 0 86 [(0, .ref (G.2.2.1 + 570)), (1, .int p0), (2, .int y2), (4, .int y4)] [.int z0] σ := by
  replace h0 := (show _ = _ from h0)
  unfold s_Model_ladder_86 at h0
  refine x_iconst (v := 1) C d_Model_ladder_86 (by decide) ?_
  refine x_goto C 91 d_Model_ladder_87 (by decide) ?_
  exact x_lv C [0, 1, 2, 3] rfl (b_Model_ladder_91 C hr hk hd hR hrec30 h0)
def s_Model_ladder_90 (p0 : Int32) (rec30 : Int32 → Int32 → Int32 → LH → Option (Int32 × LH)) (y2 : Int32) (y4 : Int32) (z0 : Int32) (σ : LH) : Option (Int32 × LH) :=
  s_Model_ladder_91 p0 rec30 y2 y4 z0 0 σ
theorem b_Model_ladder_90 {G : XG} {l : Launch} {p : Program} {e : Env} {R : Room} {s : State} {m : MethodId} {args : Array Value} {below : List Frame} {meth : Method} {c : Code} (C : XC G 570 598 p s m args c prog_14_method_104_code 5 R_Model) (hr : meth.sig.returnType = (some .int)) (hk : meth.locks = false) {d : Nat} (hd : 2 ≤ d + 1) (hR : xroom R (d + 1)) {p0 : Int32} {rec30 : Int32 → Int32 → Int32 → LH → Option (Int32 × LH)} {σ' : LH} {r : Int32} (hrec30 : ∀ (y2 : Int32) (y3 : Int32) (y4 : Int32) (σ : LH), rec30 y2 y3 y4 σ = some (r, σ') → XJ G 570 598 p l e R s m args below meth c 5 (XQ G 570 598 below args s (some (.int r)) σ') 0 0 30 [(0, .ref (G.2.2.1 + 570)), (1, .int p0), (2, .int y2), (3, .int y3), (4, .int y4)] [] σ) {y2 : Int32} {y4 : Int32} {z0 : Int32} {σ : LH} (h0 : s_Model_ladder_90 p0 rec30 y2 y4 z0 σ = some (r, σ')) : XJ G 570 598 p l e R s m args below meth c 5 (XQ G 570 598 below args s (some (.int r)) σ') 0 0 90 [(0, .ref (G.2.2.1 + 570)), (1, .int p0), (2, .int y2), (4, .int y4)] [.int z0] σ := by
  replace h0 := (show _ = _ from h0)
  unfold s_Model_ladder_90 at h0
  refine x_iconst (v := 0) C d_Model_ladder_90 (by decide) ?_
  exact x_lv C [0, 1, 2, 3] rfl (b_Model_ladder_91 C hr hk hd hR hrec30 h0)
def s_Model_ladder_30_b (p0 : Int32) (rec17 : Int32 → LH → Option (Int32 × LH)) (rec30 : Int32 → Int32 → Int32 → LH → Option (Int32 × LH)) (y2 : Int32) (y3 : Int32) (y4 : Int32) (σ : LH) : Option (Int32 × LH) :=
  if (σ.1 570 26) ≤ y4 then (
   if y3 = p0 then (
    some (y2, σ))
   else (
    xl ((y2 + 1) : Int32) fun x9 =>
    rec17 x9 σ))
  else (
   if ib (3 * y4) 24 then (
   if ib (3 * y2) 24 then (
   if (σ.1 575 (Int32.toNatClampNeg (3 * y2))) < (σ.1 575 (Int32.toNatClampNeg (3 * y4))) then (
    s_Model_ladder_86 p0 rec30 y2 y4 y3 σ)
   else (
    if ib (3 * y4) 24 then (
    if ib (3 * y2) 24 then (
    if (σ.1 575 (Int32.toNatClampNeg (3 * y4))) = (σ.1 575 (Int32.toNatClampNeg (3 * y2))) then (
     if y2 ≤ y4 then (
      s_Model_ladder_90 p0 rec30 y2 y4 y3 σ)
     else (
      s_Model_ladder_86 p0 rec30 y2 y4 y3 σ))
    else (
     s_Model_ladder_90 p0 rec30 y2 y4 y3 σ)) else none) else none)) else none) else none)
def s_Model_ladder_30 (p0 : Int32) (rec17 : Int32 → LH → Option (Int32 × LH)) : Nat → Int32 → Int32 → Int32 → LH → Option (Int32 × LH)
  | 0, _, _, _, _ => none
  | n + 1, y2, y3, y4, σ => s_Model_ladder_30_b p0 rec17 (s_Model_ladder_30 p0 rec17 n) y2 y3 y4 σ
theorem bb_Model_ladder_30 {G : XG} {l : Launch} {p : Program} {e : Env} {R : Room} {s : State} {m : MethodId} {args : Array Value} {below : List Frame} {meth : Method} {c : Code} (C : XC G 570 598 p s m args c prog_14_method_104_code 5 R_Model) (hr : meth.sig.returnType = (some .int)) (hk : meth.locks = false) {d : Nat} (hd : 2 ≤ d + 1) (hR : xroom R (d + 1)) {p0 : Int32} {rec17 : Int32 → LH → Option (Int32 × LH)} {rec30 : Int32 → Int32 → Int32 → LH → Option (Int32 × LH)} {σ' : LH} {r : Int32} (hrec17 : ∀ (y2 : Int32) (σ : LH), rec17 y2 σ = some (r, σ') → XJ G 570 598 p l e R s m args below meth c 5 (XQ G 570 598 below args s (some (.int r)) σ') 0 0 17 [(0, .ref (G.2.2.1 + 570)), (1, .int p0), (2, .int y2)] [] σ) (hrec30 : ∀ (y2 : Int32) (y3 : Int32) (y4 : Int32) (σ : LH), rec30 y2 y3 y4 σ = some (r, σ') → XJ G 570 598 p l e R s m args below meth c 5 (XQ G 570 598 below args s (some (.int r)) σ') 0 0 30 [(0, .ref (G.2.2.1 + 570)), (1, .int p0), (2, .int y2), (3, .int y3), (4, .int y4)] [] σ) {y2 : Int32} {y3 : Int32} {y4 : Int32} {σ : LH} (h0 : s_Model_ladder_30_b p0 rec17 rec30 y2 y3 y4 σ = some (r, σ')) : XJ G 570 598 p l e R s m args below meth c 5 (XQ G 570 598 below args s (some (.int r)) σ') 0 0 30 [(0, .ref (G.2.2.1 + 570)), (1, .int p0), (2, .int y2), (3, .int y3), (4, .int y4)] [] σ := by
  replace h0 := (show _ = _ from h0)
  unfold s_Model_ladder_30_b at h0
  refine x_iload C d_Model_ladder_30 4 rfl ?_
  refine x_aload_n C d_Model_ladder_32 0 rfl ?_
  refine x_getI (y := 0) C fg_Model_302 k_570 rfl d_Model_ladder_33 ?_
  refine x_icmp_ge C 99 d_Model_ladder_36 (by decide) (fun q7 => ?_) (fun q7 => ?_)
  · replace h0 := xit q7 h0
    refine x_iload_n C d_Model_ladder_99 3 rfl ?_
    refine x_iload_n C d_Model_ladder_100 1 rfl ?_
    refine x_icmp_ne C 106 d_Model_ladder_101 (by decide) (fun q8 => ?_) (fun q8 => ?_)
    · replace h0 := xif q8 h0
      obtain ⟨x9, ex9, h0⟩ := xlet h0
      refine x_iinc (lv' := [(2, .int x9), (0, .ref (G.2.2.1 + 570)), (1, .int p0), (3, .int y3), (4, .int y4)]) C d_Model_ladder_106 2 rfl ex9 (by decide) rfl ?_
      refine x_goto C 17 d_Model_ladder_109 (by decide) ?_
      exact x_lv C [1, 2, 0] rfl (hrec17 _ _ h0)
    · replace h0 := xit q8 h0
      refine x_iload_n C d_Model_ladder_104 2 rfl ?_
      exact x_iret C hr hk h0 d_Model_ladder_105
  · replace h0 := xif q7 h0
    refine x_iload_n C d_Model_ladder_39 3 rfl ?_
    refine x_aload_n C d_Model_ladder_40 0 rfl ?_
    refine x_getA (y := 575) C fg_Model_37 k_570 rfl d_Model_ladder_41 ?_
    refine x_iconst (v := 3) C d_Model_ladder_44 (by decide) ?_
    refine x_iload C d_Model_ladder_45 4 rfl ?_
    refine x_imul C d_Model_ladder_47 ?_
    obtain ⟨g10, h0⟩ := xgo h0
    refine x_iald C k_575 (ib_in g10) d_Model_ladder_48 ?_
    refine x_aload_n C d_Model_ladder_49 0 rfl ?_
    refine x_getA (y := 575) C fg_Model_37 k_570 rfl d_Model_ladder_50 ?_
    refine x_iconst (v := 3) C d_Model_ladder_53 (by decide) ?_
    refine x_iload_n C d_Model_ladder_54 2 rfl ?_
    refine x_imul C d_Model_ladder_55 ?_
    obtain ⟨g11, h0⟩ := xgo h0
    refine x_iald C k_575 (ib_in g11) d_Model_ladder_56 ?_
    refine x_icmp_gt C 86 d_Model_ladder_57 (by decide) (fun q12 => ?_) (fun q12 => ?_)
    · replace h0 := xit q12 h0
      exact x_lv C [0, 1, 2, 4] rfl (b_Model_ladder_86 C hr hk hd hR hrec30 h0)
    · replace h0 := xif q12 h0
      refine x_aload_n C d_Model_ladder_60 0 rfl ?_
      refine x_getA (y := 575) C fg_Model_37 k_570 rfl d_Model_ladder_61 ?_
      refine x_iconst (v := 3) C d_Model_ladder_64 (by decide) ?_
      refine x_iload C d_Model_ladder_65 4 rfl ?_
      refine x_imul C d_Model_ladder_67 ?_
      obtain ⟨g15, h0⟩ := xgo h0
      refine x_iald C k_575 (ib_in g15) d_Model_ladder_68 ?_
      refine x_aload_n C d_Model_ladder_69 0 rfl ?_
      refine x_getA (y := 575) C fg_Model_37 k_570 rfl d_Model_ladder_70 ?_
      refine x_iconst (v := 3) C d_Model_ladder_73 (by decide) ?_
      refine x_iload_n C d_Model_ladder_74 2 rfl ?_
      refine x_imul C d_Model_ladder_75 ?_
      obtain ⟨g16, h0⟩ := xgo h0
      refine x_iald C k_575 (ib_in g16) d_Model_ladder_76 ?_
      refine x_icmp_ne C 90 d_Model_ladder_77 (by decide) (fun q17 => ?_) (fun q17 => ?_)
      · replace h0 := xif q17 h0
        exact x_lv C [0, 1, 2, 4] rfl (b_Model_ladder_90 C hr hk hd hR hrec30 h0)
      · replace h0 := xit q17 h0
        refine x_iload C d_Model_ladder_80 4 rfl ?_
        refine x_iload_n C d_Model_ladder_82 2 rfl ?_
        refine x_icmp_ge C 90 d_Model_ladder_83 (by decide) (fun q18 => ?_) (fun q18 => ?_)
        · replace h0 := xit q18 h0
          exact x_lv C [0, 1, 2, 4] rfl (b_Model_ladder_90 C hr hk hd hR hrec30 h0)
        · replace h0 := xif q18 h0
          exact x_lv C [0, 1, 2, 4] rfl (b_Model_ladder_86 C hr hk hd hR hrec30 h0)
theorem b_Model_ladder_30 {G : XG} {l : Launch} {p : Program} {e : Env} {R : Room} {s : State} {m : MethodId} {args : Array Value} {below : List Frame} {meth : Method} {c : Code} (C : XC G 570 598 p s m args c prog_14_method_104_code 5 R_Model) (hr : meth.sig.returnType = (some .int)) (hk : meth.locks = false) {d : Nat} (hd : 2 ≤ d + 1) (hR : xroom R (d + 1)) {p0 : Int32} {rec17 : Int32 → LH → Option (Int32 × LH)} {σ' : LH} {r : Int32} (hrec17 : ∀ (y2 : Int32) (σ : LH), rec17 y2 σ = some (r, σ') → XJ G 570 598 p l e R s m args below meth c 5 (XQ G 570 598 below args s (some (.int r)) σ') 0 0 17 [(0, .ref (G.2.2.1 + 570)), (1, .int p0), (2, .int y2)] [] σ) : ∀ (n : Nat) (y2 : Int32) (y3 : Int32) (y4 : Int32) (σ : LH), s_Model_ladder_30 p0 rec17 n y2 y3 y4 σ = some (r, σ') → XJ G 570 598 p l e R s m args below meth c 5 (XQ G 570 598 below args s (some (.int r)) σ') 0 0 30 [(0, .ref (G.2.2.1 + 570)), (1, .int p0), (2, .int y2), (3, .int y3), (4, .int y4)] [] σ := by
  intro n
  induction n with
  | zero => intro y2 y3 y4 σ h0; cases h0
  | succ n ih => intro y2 y3 y4 σ h0; exact bb_Model_ladder_30 C hr hk hd hR hrec17 ih h0
def s_Model_ladder_17_b (p0 : Int32) (rec17 : Int32 → LH → Option (Int32 × LH)) (y2 : Int32) (σ : LH) : Option (Int32 × LH) :=
  if (σ.1 570 26) ≤ y2 then (
   some ((-1), σ))
  else (
   s_Model_ladder_30 p0 rec17 FUEL y2 0 0 σ)
def s_Model_ladder_17 (p0 : Int32) : Nat → Int32 → LH → Option (Int32 × LH)
  | 0, _, _ => none
  | n + 1, y2, σ => s_Model_ladder_17_b p0 (s_Model_ladder_17 p0 n) y2 σ
theorem bb_Model_ladder_17 {G : XG} {l : Launch} {p : Program} {e : Env} {R : Room} {s : State} {m : MethodId} {args : Array Value} {below : List Frame} {meth : Method} {c : Code} (C : XC G 570 598 p s m args c prog_14_method_104_code 5 R_Model) (hr : meth.sig.returnType = (some .int)) (hk : meth.locks = false) {d : Nat} (hd : 2 ≤ d + 1) (hR : xroom R (d + 1)) {p0 : Int32} {rec17 : Int32 → LH → Option (Int32 × LH)} {σ' : LH} {r : Int32} (hrec17 : ∀ (y2 : Int32) (σ : LH), rec17 y2 σ = some (r, σ') → XJ G 570 598 p l e R s m args below meth c 5 (XQ G 570 598 below args s (some (.int r)) σ') 0 0 17 [(0, .ref (G.2.2.1 + 570)), (1, .int p0), (2, .int y2)] [] σ) {y2 : Int32} {σ : LH} (h0 : s_Model_ladder_17_b p0 rec17 y2 σ = some (r, σ')) : XJ G 570 598 p l e R s m args below meth c 5 (XQ G 570 598 below args s (some (.int r)) σ') 0 0 17 [(0, .ref (G.2.2.1 + 570)), (1, .int p0), (2, .int y2)] [] σ := by
  replace h0 := (show _ = _ from h0)
  unfold s_Model_ladder_17_b at h0
  refine x_iload_n C d_Model_ladder_17 2 rfl ?_
  refine x_aload_n C d_Model_ladder_18 0 rfl ?_
  refine x_getI (y := 0) C fg_Model_302 k_570 rfl d_Model_ladder_19 ?_
  refine x_icmp_ge C 112 d_Model_ladder_22 (by decide) (fun q6 => ?_) (fun q6 => ?_)
  · replace h0 := xit q6 h0
    refine x_iconst (v := (-1)) C d_Model_ladder_112 (by decide) ?_
    exact x_iret C hr hk h0 d_Model_ladder_113
  · replace h0 := xif q6 h0
    refine x_iconst (v := 0) C d_Model_ladder_25 (by decide) ?_
    refine x_istore_n (lv' := [(3, .int 0), (0, .ref (G.2.2.1 + 570)), (1, .int p0), (2, .int y2)]) C d_Model_ladder_26 rfl (by decide) rfl ?_
    refine x_iconst (v := 0) C d_Model_ladder_27 (by decide) ?_
    refine x_istore (lv' := [(4, .int 0), (3, .int 0), (0, .ref (G.2.2.1 + 570)), (1, .int p0), (2, .int y2)]) C d_Model_ladder_28 (by decide) rfl ?_
    exact x_lv C [2, 3, 4, 1, 0] rfl (b_Model_ladder_30 C hr hk hd hR hrec17 FUEL _ _ _ _ h0)
theorem b_Model_ladder_17 {G : XG} {l : Launch} {p : Program} {e : Env} {R : Room} {s : State} {m : MethodId} {args : Array Value} {below : List Frame} {meth : Method} {c : Code} (C : XC G 570 598 p s m args c prog_14_method_104_code 5 R_Model) (hr : meth.sig.returnType = (some .int)) (hk : meth.locks = false) {d : Nat} (hd : 2 ≤ d + 1) (hR : xroom R (d + 1)) {p0 : Int32} {σ' : LH} {r : Int32} : ∀ (n : Nat) (y2 : Int32) (σ : LH), s_Model_ladder_17 p0 n y2 σ = some (r, σ') → XJ G 570 598 p l e R s m args below meth c 5 (XQ G 570 598 below args s (some (.int r)) σ') 0 0 17 [(0, .ref (G.2.2.1 + 570)), (1, .int p0), (2, .int y2)] [] σ := by
  intro n
  induction n with
  | zero => intro y2 σ h0; cases h0
  | succ n ih => intro y2 σ h0; exact bb_Model_ladder_17 C hr hk hd hR ih h0
def s_Model_ladder (p0 : Int32) (σ : LH) : Option (Int32 × LH) :=
  xl ((stI σ 570 0 0) : LH) fun σ1 =>
  xb2 (s_Model_isSeat p0 σ1) fun r3 σ4 =>
  if r3 = 0 then (
   some ((-1), σ4))
  else (
   s_Model_ladder_17 p0 FUEL 0 σ4)
theorem c_Model_ladder {G : XG} {l : Launch} {d : Nat} (hd : 2 ≤ d) {p0 : Int32} {σ σ' : LH} {r : Int32} (h0 : s_Model_ladder p0 σ = some (r, σ')) : xM G 570 598 l y_Model_ladder prog_14_method_104_code 5 (some .int) d [.ref (G.2.2.1 + 570), .int p0] σ (some (.int r)) σ' := by
  obtain ⟨d, rfl⟩ : ∃ q, d = q + 1 := ⟨d - 1, by omega⟩
  refine x_met R_Model rfl (by decide +kernel) (Nat.le_of_ble_eq_true rfl) fun p e s m below meth c C hr hk hR => ?_
  refine x_lv (lv' := [(0, .ref (G.2.2.1 + 570)), (1, .int p0)]) C [0, 1] rfl ?_
  generalize xrm (d + 1) = R at hR ⊢
  unfold s_Model_ladder at h0
  refine x_aload_n C d_Model_ladder_0 0 rfl ?_
  refine x_iconst (v := 0) C d_Model_ladder_1 (by decide) ?_
  refine x_putI (y := 0) C fp_Model_114 k_570 rfl rfl rfl d_Model_ladder_2 ?_
  obtain ⟨σ1, eσ1, h0⟩ := xlet h0
  refine x_sig C eσ1 ?_
  refine x_aload_n C d_Model_ladder_5 0 rfl ?_
  refine x_iload_n C d_Model_ladder_6 1 rfl ?_
  obtain ⟨r3, σ4, k2, h0⟩ := xbind2 h0
  refine x_callVi C hR (c_Model_isSeat (d := d) (by omega) k2) cw_Model_407 k_570 rfl rfl rfl (Nat.le_of_ble_eq_true rfl) ⟨Nat.zero_le _, Nat.zero_le _⟩ d_Model_ladder_7 ?_
  refine x_if_ne C 15 d_Model_ladder_10 (by decide) (fun q5 => ?_) (fun q5 => ?_)
  · replace h0 := xif q5 h0
    refine x_iconst (v := 0) C d_Model_ladder_15 (by decide) ?_
    refine x_istore_n (lv' := [(2, .int 0), (0, .ref (G.2.2.1 + 570)), (1, .int p0)]) C d_Model_ladder_16 rfl (by decide) rfl ?_
    exact x_lv C [1, 2, 0] rfl (b_Model_ladder_17 C hr hk hd hR FUEL _ _ h0)
  · replace h0 := xit q5 h0
    refine x_iconst (v := (-1)) C d_Model_ladder_13 (by decide) ?_
    exact x_iret C hr hk h0 d_Model_ladder_14
-- LostPlacesModel.envy()I
theorem d_Model_envy_0 : decode prog_14_method_105_code 0 = .ok (.aload_n 0, 1) := by decide +kernel
theorem d_Model_envy_1 : decode prog_14_method_105_code 1 = .ok (.iconst 0, 1) := by decide +kernel
theorem d_Model_envy_2 : decode prog_14_method_105_code 2 = .ok (.putfield 114, 3) := by decide +kernel
theorem d_Model_envy_5 : decode prog_14_method_105_code 5 = .ok (.aload_n 0, 1) := by decide +kernel
theorem d_Model_envy_6 : decode prog_14_method_105_code 6 = .ok (.getfield 305, 3) := by decide +kernel
theorem d_Model_envy_9 : decode prog_14_method_105_code 9 = .ok (.ifCond .ne 5, 3) := by decide +kernel
theorem d_Model_envy_12 : decode prog_14_method_105_code 12 = .ok (.iconst (-1), 1) := by decide +kernel
theorem d_Model_envy_13 : decode prog_14_method_105_code 13 = .ok (.ireturn, 1) := by decide +kernel
theorem d_Model_envy_14 : decode prog_14_method_105_code 14 = .ok (.iconst 0, 1) := by decide +kernel
theorem d_Model_envy_15 : decode prog_14_method_105_code 15 = .ok (.istore_n 1, 1) := by decide +kernel
theorem d_Model_envy_16 : decode prog_14_method_105_code 16 = .ok (.iconst 0, 1) := by decide +kernel
theorem d_Model_envy_17 : decode prog_14_method_105_code 17 = .ok (.istore_n 2, 1) := by decide +kernel
theorem d_Model_envy_18 : decode prog_14_method_105_code 18 = .ok (.iload_n 2, 1) := by decide +kernel
theorem d_Model_envy_19 : decode prog_14_method_105_code 19 = .ok (.aload_n 0, 1) := by decide +kernel
theorem d_Model_envy_20 : decode prog_14_method_105_code 20 = .ok (.getfield 305, 3) := by decide +kernel
theorem d_Model_envy_23 : decode prog_14_method_105_code 23 = .ok (.if_icmp .ge 120, 3) := by decide +kernel
theorem d_Model_envy_26 : decode prog_14_method_105_code 26 = .ok (.aload_n 0, 1) := by decide +kernel
theorem d_Model_envy_27 : decode prog_14_method_105_code 27 = .ok (.getfield 61, 3) := by decide +kernel
theorem d_Model_envy_30 : decode prog_14_method_105_code 30 = .ok (.iload_n 2, 1) := by decide +kernel
theorem d_Model_envy_31 : decode prog_14_method_105_code 31 = .ok (.invokestatic 361, 3) := by decide +kernel
theorem d_Model_envy_34 : decode prog_14_method_105_code 34 = .ok (.ifCond .ne 6, 3) := by decide +kernel
theorem d_Model_envy_37 : decode prog_14_method_105_code 37 = .ok (.goto 100, 3) := by decide +kernel
theorem d_Model_envy_40 : decode prog_14_method_105_code 40 = .ok (.aload_n 0, 1) := by decide +kernel
theorem d_Model_envy_41 : decode prog_14_method_105_code 41 = .ok (.aload_n 0, 1) := by decide +kernel
theorem d_Model_envy_42 : decode prog_14_method_105_code 42 = .ok (.getfield 61, 3) := by decide +kernel
theorem d_Model_envy_45 : decode prog_14_method_105_code 45 = .ok (.iload_n 2, 1) := by decide +kernel
theorem d_Model_envy_46 : decode prog_14_method_105_code 46 = .ok (.aload_n 0, 1) := by decide +kernel
theorem d_Model_envy_47 : decode prog_14_method_105_code 47 = .ok (.getfield 61, 3) := by decide +kernel
theorem d_Model_envy_50 : decode prog_14_method_105_code 50 = .ok (.iconst 4, 1) := by decide +kernel
theorem d_Model_envy_51 : decode prog_14_method_105_code 51 = .ok (.iload_n 2, 1) := by decide +kernel
theorem d_Model_envy_52 : decode prog_14_method_105_code 52 = .ok (.imul, 1) := by decide +kernel
theorem d_Model_envy_53 : decode prog_14_method_105_code 53 = .ok (.iaload, 1) := by decide +kernel
theorem d_Model_envy_54 : decode prog_14_method_105_code 54 = .ok (.invokevirtual 357, 3) := by decide +kernel
theorem d_Model_envy_57 : decode prog_14_method_105_code 57 = .ok (.istore_n 3, 1) := by decide +kernel
theorem d_Model_envy_58 : decode prog_14_method_105_code 58 = .ok (.iconst 0, 1) := by decide +kernel
theorem d_Model_envy_59 : decode prog_14_method_105_code 59 = .ok (.istore 4, 2) := by decide +kernel
theorem d_Model_envy_61 : decode prog_14_method_105_code 61 = .ok (.iload 4, 2) := by decide +kernel
theorem d_Model_envy_63 : decode prog_14_method_105_code 63 = .ok (.aload_n 0, 1) := by decide +kernel
theorem d_Model_envy_64 : decode prog_14_method_105_code 64 = .ok (.getfield 305, 3) := by decide +kernel
theorem d_Model_envy_67 : decode prog_14_method_105_code 67 = .ok (.if_icmp .ge 70, 3) := by decide +kernel
theorem d_Model_envy_70 : decode prog_14_method_105_code 70 = .ok (.iload_n 1, 1) := by decide +kernel
theorem d_Model_envy_71 : decode prog_14_method_105_code 71 = .ok (.iload 4, 2) := by decide +kernel
theorem d_Model_envy_73 : decode prog_14_method_105_code 73 = .ok (.iload_n 2, 1) := by decide +kernel
theorem d_Model_envy_74 : decode prog_14_method_105_code 74 = .ok (.if_icmp .eq 54, 3) := by decide +kernel
theorem d_Model_envy_77 : decode prog_14_method_105_code 77 = .ok (.aload_n 0, 1) := by decide +kernel
theorem d_Model_envy_78 : decode prog_14_method_105_code 78 = .ok (.getfield 61, 3) := by decide +kernel
theorem d_Model_envy_81 : decode prog_14_method_105_code 81 = .ok (.iconst 4, 1) := by decide +kernel
theorem d_Model_envy_82 : decode prog_14_method_105_code 82 = .ok (.iload 4, 2) := by decide +kernel
theorem d_Model_envy_84 : decode prog_14_method_105_code 84 = .ok (.imul, 1) := by decide +kernel
theorem d_Model_envy_85 : decode prog_14_method_105_code 85 = .ok (.iaload, 1) := by decide +kernel
theorem d_Model_envy_86 : decode prog_14_method_105_code 86 = .ok (.ifCond .lt 42, 3) := by decide +kernel
theorem d_Model_envy_89 : decode prog_14_method_105_code 89 = .ok (.aload_n 0, 1) := by decide +kernel
theorem d_Model_envy_90 : decode prog_14_method_105_code 90 = .ok (.aload_n 0, 1) := by decide +kernel
theorem d_Model_envy_91 : decode prog_14_method_105_code 91 = .ok (.getfield 61, 3) := by decide +kernel
theorem d_Model_envy_94 : decode prog_14_method_105_code 94 = .ok (.iload_n 2, 1) := by decide +kernel
theorem d_Model_envy_95 : decode prog_14_method_105_code 95 = .ok (.aload_n 0, 1) := by decide +kernel
theorem d_Model_envy_96 : decode prog_14_method_105_code 96 = .ok (.getfield 61, 3) := by decide +kernel
theorem d_Model_envy_99 : decode prog_14_method_105_code 99 = .ok (.iconst 4, 1) := by decide +kernel
theorem d_Model_envy_100 : decode prog_14_method_105_code 100 = .ok (.iload 4, 2) := by decide +kernel
theorem d_Model_envy_102 : decode prog_14_method_105_code 102 = .ok (.imul, 1) := by decide +kernel
theorem d_Model_envy_103 : decode prog_14_method_105_code 103 = .ok (.iaload, 1) := by decide +kernel
theorem d_Model_envy_104 : decode prog_14_method_105_code 104 = .ok (.invokevirtual 357, 3) := by decide +kernel
theorem d_Model_envy_107 : decode prog_14_method_105_code 107 = .ok (.iload_n 3, 1) := by decide +kernel
theorem d_Model_envy_108 : decode prog_14_method_105_code 108 = .ok (.isub, 1) := by decide +kernel
theorem d_Model_envy_109 : decode prog_14_method_105_code 109 = .ok (.aload_n 0, 1) := by decide +kernel
theorem d_Model_envy_110 : decode prog_14_method_105_code 110 = .ok (.getfield 43, 3) := by decide +kernel
theorem d_Model_envy_113 : decode prog_14_method_105_code 113 = .ok (.iconst 4, 1) := by decide +kernel
theorem d_Model_envy_114 : decode prog_14_method_105_code 114 = .ok (.iload_n 2, 1) := by decide +kernel
theorem d_Model_envy_115 : decode prog_14_method_105_code 115 = .ok (.imul, 1) := by decide +kernel
theorem d_Model_envy_116 : decode prog_14_method_105_code 116 = .ok (.iconst 2, 1) := by decide +kernel
theorem d_Model_envy_117 : decode prog_14_method_105_code 117 = .ok (.iadd, 1) := by decide +kernel
theorem d_Model_envy_118 : decode prog_14_method_105_code 118 = .ok (.iaload, 1) := by decide +kernel
theorem d_Model_envy_119 : decode prog_14_method_105_code 119 = .ok (.if_icmp .lt 9, 3) := by decide +kernel
theorem d_Model_envy_122 : decode prog_14_method_105_code 122 = .ok (.iconst 1, 1) := by decide +kernel
theorem d_Model_envy_123 : decode prog_14_method_105_code 123 = .ok (.iload_n 2, 1) := by decide +kernel
theorem d_Model_envy_124 : decode prog_14_method_105_code 124 = .ok (.ishl, 1) := by decide +kernel
theorem d_Model_envy_125 : decode prog_14_method_105_code 125 = .ok (.goto 4, 3) := by decide +kernel
theorem d_Model_envy_128 : decode prog_14_method_105_code 128 = .ok (.iconst 0, 1) := by decide +kernel
theorem d_Model_envy_129 : decode prog_14_method_105_code 129 = .ok (.ior, 1) := by decide +kernel
theorem d_Model_envy_130 : decode prog_14_method_105_code 130 = .ok (.istore_n 1, 1) := by decide +kernel
theorem d_Model_envy_131 : decode prog_14_method_105_code 131 = .ok (.iinc 4 1, 3) := by decide +kernel
theorem d_Model_envy_134 : decode prog_14_method_105_code 134 = .ok (.goto (-73), 3) := by decide +kernel
theorem d_Model_envy_137 : decode prog_14_method_105_code 137 = .ok (.iinc 2 1, 3) := by decide +kernel
theorem d_Model_envy_140 : decode prog_14_method_105_code 140 = .ok (.goto (-122), 3) := by decide +kernel
theorem d_Model_envy_143 : decode prog_14_method_105_code 143 = .ok (.iload_n 1, 1) := by decide +kernel
theorem d_Model_envy_144 : decode prog_14_method_105_code 144 = .ok (.ireturn, 1) := by decide +kernel
def s_Model_envy_137 (rec18 : Int32 → Int32 → LH → Option (Int32 × LH)) (y1 : Int32) (y2 : Int32) (σ : LH) : Option (Int32 × LH) :=
  xl ((y2 + 1) : Int32) fun x8 =>
  rec18 y1 x8 σ
theorem b_Model_envy_137 {G : XG} {l : Launch} {p : Program} {e : Env} {R : Room} {s : State} {m : MethodId} {args : Array Value} {below : List Frame} {meth : Method} {c : Code} (C : XC G 570 598 p s m args c prog_14_method_105_code 5 R_Model) (hr : meth.sig.returnType = (some .int)) (hk : meth.locks = false) {d : Nat} (hd : 119 ≤ d + 1) (hR : xroom R (d + 1)) {rec18 : Int32 → Int32 → LH → Option (Int32 × LH)} {σ' : LH} {r : Int32} (hrec18 : ∀ (y1 : Int32) (y2 : Int32) (σ : LH), rec18 y1 y2 σ = some (r, σ') → XJ G 570 598 p l e R s m args below meth c 5 (XQ G 570 598 below args s (some (.int r)) σ') 0 0 18 [(0, .ref (G.2.2.1 + 570)), (1, .int y1), (2, .int y2)] [] σ) {y1 : Int32} {y2 : Int32} {σ : LH} (h0 : s_Model_envy_137 rec18 y1 y2 σ = some (r, σ')) : XJ G 570 598 p l e R s m args below meth c 5 (XQ G 570 598 below args s (some (.int r)) σ') 0 0 137 [(0, .ref (G.2.2.1 + 570)), (1, .int y1), (2, .int y2)] [] σ := by
  replace h0 := (show _ = _ from h0)
  unfold s_Model_envy_137 at h0
  obtain ⟨x8, ex8, h0⟩ := xlet h0
  refine x_iinc (lv' := [(2, .int x8), (0, .ref (G.2.2.1 + 570)), (1, .int y1)]) C d_Model_envy_137 2 rfl ex8 (by decide) rfl ?_
  refine x_goto C 18 d_Model_envy_140 (by decide) ?_
  exact x_lv C [1, 2, 0] rfl (hrec18 _ _ _ h0)
def s_Model_envy_129 (rec61 : Int32 → Int32 → Int32 → Int32 → LH → Option (Int32 × LH)) (y2 : Int32) (y3 : Int32) (y4 : Int32) (z0 : Int32) (z1 : Int32) (σ : LH) : Option (Int32 × LH) :=
  xl (((z0 ||| z1)) : Int32) fun x15 =>
  xl ((y4 + 1) : Int32) fun x16 =>
  rec61 x15 y2 y3 x16 σ
theorem b_Model_envy_129 {G : XG} {l : Launch} {p : Program} {e : Env} {R : Room} {s : State} {m : MethodId} {args : Array Value} {below : List Frame} {meth : Method} {c : Code} (C : XC G 570 598 p s m args c prog_14_method_105_code 5 R_Model) (hr : meth.sig.returnType = (some .int)) (hk : meth.locks = false) {d : Nat} (hd : 119 ≤ d + 1) (hR : xroom R (d + 1)) {rec61 : Int32 → Int32 → Int32 → Int32 → LH → Option (Int32 × LH)} {σ' : LH} {r : Int32} (hrec61 : ∀ (y1 : Int32) (y2 : Int32) (y3 : Int32) (y4 : Int32) (σ : LH), rec61 y1 y2 y3 y4 σ = some (r, σ') → XJ G 570 598 p l e R s m args below meth c 5 (XQ G 570 598 below args s (some (.int r)) σ') 0 0 61 [(0, .ref (G.2.2.1 + 570)), (1, .int y1), (2, .int y2), (3, .int y3), (4, .int y4)] [] σ) {y2 : Int32} {y3 : Int32} {y4 : Int32} {z0 : Int32} {z1 : Int32} {σ : LH} (h0 : s_Model_envy_129 rec61 y2 y3 y4 z0 z1 σ = some (r, σ')) : XJ G 570 598 p l e R s m args below meth c 5 (XQ G 570 598 below args s (some (.int r)) σ') 0 0 129 [(0, .ref (G.2.2.1 + 570)), (2, .int y2), (3, .int y3), (4, .int y4)] [.int z1, .int z0] σ := by
  replace h0 := (show _ = _ from h0)
  unfold s_Model_envy_129 at h0
  refine x_ior C d_Model_envy_129 ?_
  obtain ⟨x15, ex15, h0⟩ := xlet h0
  refine x_name C ex15 ?_
  refine x_istore_n (lv' := [(1, .int x15), (0, .ref (G.2.2.1 + 570)), (2, .int y2), (3, .int y3), (4, .int y4)]) C d_Model_envy_130 rfl (by decide) rfl ?_
  obtain ⟨x16, ex16, h0⟩ := xlet h0
  refine x_iinc (lv' := [(4, .int x16), (1, .int x15), (0, .ref (G.2.2.1 + 570)), (2, .int y2), (3, .int y3)]) C d_Model_envy_131 4 rfl ex16 (by decide) rfl ?_
  refine x_goto C 61 d_Model_envy_134 (by decide) ?_
  exact x_lv C [2, 1, 3, 4, 0] rfl (hrec61 _ _ _ _ _ h0)
def s_Model_envy_128 (rec61 : Int32 → Int32 → Int32 → Int32 → LH → Option (Int32 × LH)) (y2 : Int32) (y3 : Int32) (y4 : Int32) (z0 : Int32) (σ : LH) : Option (Int32 × LH) :=
  s_Model_envy_129 rec61 y2 y3 y4 z0 0 σ
theorem b_Model_envy_128 {G : XG} {l : Launch} {p : Program} {e : Env} {R : Room} {s : State} {m : MethodId} {args : Array Value} {below : List Frame} {meth : Method} {c : Code} (C : XC G 570 598 p s m args c prog_14_method_105_code 5 R_Model) (hr : meth.sig.returnType = (some .int)) (hk : meth.locks = false) {d : Nat} (hd : 119 ≤ d + 1) (hR : xroom R (d + 1)) {rec61 : Int32 → Int32 → Int32 → Int32 → LH → Option (Int32 × LH)} {σ' : LH} {r : Int32} (hrec61 : ∀ (y1 : Int32) (y2 : Int32) (y3 : Int32) (y4 : Int32) (σ : LH), rec61 y1 y2 y3 y4 σ = some (r, σ') → XJ G 570 598 p l e R s m args below meth c 5 (XQ G 570 598 below args s (some (.int r)) σ') 0 0 61 [(0, .ref (G.2.2.1 + 570)), (1, .int y1), (2, .int y2), (3, .int y3), (4, .int y4)] [] σ) {y2 : Int32} {y3 : Int32} {y4 : Int32} {z0 : Int32} {σ : LH} (h0 : s_Model_envy_128 rec61 y2 y3 y4 z0 σ = some (r, σ')) : XJ G 570 598 p l e R s m args below meth c 5 (XQ G 570 598 below args s (some (.int r)) σ') 0 0 128 [(0, .ref (G.2.2.1 + 570)), (2, .int y2), (3, .int y3), (4, .int y4)] [.int z0] σ := by
  replace h0 := (show _ = _ from h0)
  unfold s_Model_envy_128 at h0
  refine x_iconst (v := 0) C d_Model_envy_128 (by decide) ?_
  exact x_lv C [0, 1, 2, 3] rfl (b_Model_envy_129 C hr hk hd hR hrec61 h0)
def s_Model_envy_61_b (rec18 : Int32 → Int32 → LH → Option (Int32 × LH)) (rec61 : Int32 → Int32 → Int32 → Int32 → LH → Option (Int32 × LH)) (y1 : Int32) (y2 : Int32) (y3 : Int32) (y4 : Int32) (σ : LH) : Option (Int32 × LH) :=
  if (σ.1 570 27) ≤ y4 then (
   s_Model_envy_137 rec18 y1 y2 σ)
  else (
   if y4 = y2 then (
    s_Model_envy_128 rec61 y2 y3 y4 y1 σ)
   else (
    if ib (4 * y4) 290 then (
    if (σ.1 583 (Int32.toNatClampNeg (4 * y4))) < 0 then (
     s_Model_envy_128 rec61 y2 y3 y4 y1 σ)
    else (
     if ib (4 * y4) 290 then (
     xb2 (s_Model_likesIn 583 y2 (σ.1 583 (Int32.toNatClampNeg (4 * y4))) σ) fun r21 σ22 =>
     if ib ((4 * y2) + 2) 32 then (
     if (r21 - y3) < (σ22.1 577 (Int32.toNatClampNeg ((4 * y2) + 2))) then (
      s_Model_envy_128 rec61 y2 y3 y4 y1 σ22)
     else (
      s_Model_envy_129 rec61 y2 y3 y4 y1 (1 <<< (y2 &&& 31)) σ22)) else none) else none)) else none))
def s_Model_envy_61 (rec18 : Int32 → Int32 → LH → Option (Int32 × LH)) : Nat → Int32 → Int32 → Int32 → Int32 → LH → Option (Int32 × LH)
  | 0, _, _, _, _, _ => none
  | n + 1, y1, y2, y3, y4, σ => s_Model_envy_61_b rec18 (s_Model_envy_61 rec18 n) y1 y2 y3 y4 σ
theorem bb_Model_envy_61 {G : XG} {l : Launch} {p : Program} {e : Env} {R : Room} {s : State} {m : MethodId} {args : Array Value} {below : List Frame} {meth : Method} {c : Code} (C : XC G 570 598 p s m args c prog_14_method_105_code 5 R_Model) (hr : meth.sig.returnType = (some .int)) (hk : meth.locks = false) {d : Nat} (hd : 119 ≤ d + 1) (hR : xroom R (d + 1)) {rec18 : Int32 → Int32 → LH → Option (Int32 × LH)} {rec61 : Int32 → Int32 → Int32 → Int32 → LH → Option (Int32 × LH)} {σ' : LH} {r : Int32} (hrec18 : ∀ (y1 : Int32) (y2 : Int32) (σ : LH), rec18 y1 y2 σ = some (r, σ') → XJ G 570 598 p l e R s m args below meth c 5 (XQ G 570 598 below args s (some (.int r)) σ') 0 0 18 [(0, .ref (G.2.2.1 + 570)), (1, .int y1), (2, .int y2)] [] σ) (hrec61 : ∀ (y1 : Int32) (y2 : Int32) (y3 : Int32) (y4 : Int32) (σ : LH), rec61 y1 y2 y3 y4 σ = some (r, σ') → XJ G 570 598 p l e R s m args below meth c 5 (XQ G 570 598 below args s (some (.int r)) σ') 0 0 61 [(0, .ref (G.2.2.1 + 570)), (1, .int y1), (2, .int y2), (3, .int y3), (4, .int y4)] [] σ) {y1 : Int32} {y2 : Int32} {y3 : Int32} {y4 : Int32} {σ : LH} (h0 : s_Model_envy_61_b rec18 rec61 y1 y2 y3 y4 σ = some (r, σ')) : XJ G 570 598 p l e R s m args below meth c 5 (XQ G 570 598 below args s (some (.int r)) σ') 0 0 61 [(0, .ref (G.2.2.1 + 570)), (1, .int y1), (2, .int y2), (3, .int y3), (4, .int y4)] [] σ := by
  replace h0 := (show _ = _ from h0)
  unfold s_Model_envy_61_b at h0
  refine x_iload C d_Model_envy_61 4 rfl ?_
  refine x_aload_n C d_Model_envy_63 0 rfl ?_
  refine x_getI (y := 0) C fg_Model_305 k_570 rfl d_Model_envy_64 ?_
  refine x_icmp_ge C 137 d_Model_envy_67 (by decide) (fun q13 => ?_) (fun q13 => ?_)
  · replace h0 := xit q13 h0
    exact x_lv C [0, 1, 2] rfl (b_Model_envy_137 C hr hk hd hR hrec18 h0)
  · replace h0 := xif q13 h0
    refine x_iload_n C d_Model_envy_70 1 rfl ?_
    refine x_iload C d_Model_envy_71 4 rfl ?_
    refine x_iload_n C d_Model_envy_73 2 rfl ?_
    refine x_icmp_eq C 128 d_Model_envy_74 (by decide) (fun q14 => ?_) (fun q14 => ?_)
    · replace h0 := xit q14 h0
      exact x_lv C [0, 2, 3, 4] rfl (b_Model_envy_128 C hr hk hd hR hrec61 h0)
    · replace h0 := xif q14 h0
      refine x_aload_n C d_Model_envy_77 0 rfl ?_
      refine x_getA (y := 583) C fg_Model_61 k_570 rfl d_Model_envy_78 ?_
      refine x_iconst (v := 4) C d_Model_envy_81 (by decide) ?_
      refine x_iload C d_Model_envy_82 4 rfl ?_
      refine x_imul C d_Model_envy_84 ?_
      obtain ⟨g17, h0⟩ := xgo h0
      refine x_iald C k_583 (ib_in g17) d_Model_envy_85 ?_
      refine x_if_lt C 128 d_Model_envy_86 (by decide) (fun q18 => ?_) (fun q18 => ?_)
      · replace h0 := xit q18 h0
        exact x_lv C [0, 2, 3, 4] rfl (b_Model_envy_128 C hr hk hd hR hrec61 h0)
      · replace h0 := xif q18 h0
        refine x_aload_n C d_Model_envy_89 0 rfl ?_
        refine x_aload_n C d_Model_envy_90 0 rfl ?_
        refine x_getA (y := 583) C fg_Model_61 k_570 rfl d_Model_envy_91 ?_
        refine x_iload_n C d_Model_envy_94 2 rfl ?_
        refine x_aload_n C d_Model_envy_95 0 rfl ?_
        refine x_getA (y := 583) C fg_Model_61 k_570 rfl d_Model_envy_96 ?_
        refine x_iconst (v := 4) C d_Model_envy_99 (by decide) ?_
        refine x_iload C d_Model_envy_100 4 rfl ?_
        refine x_imul C d_Model_envy_102 ?_
        obtain ⟨g19, h0⟩ := xgo h0
        refine x_iald C k_583 (ib_in g19) d_Model_envy_103 ?_
        obtain ⟨r21, σ22, k20, h0⟩ := xbind2 h0
        refine x_callVi C hR (c_Model_likesIn (d := d) (by omega) k_583 k20) cw_Model_357 k_570 rfl rfl rfl (Nat.le_of_ble_eq_true rfl) ⟨Nat.zero_le _, Nat.zero_le _⟩ d_Model_envy_104 ?_
        refine x_iload_n C d_Model_envy_107 3 rfl ?_
        refine x_isub C d_Model_envy_108 ?_
        refine x_aload_n C d_Model_envy_109 0 rfl ?_
        refine x_getA (y := 577) C fg_Model_43 k_570 rfl d_Model_envy_110 ?_
        refine x_iconst (v := 4) C d_Model_envy_113 (by decide) ?_
        refine x_iload_n C d_Model_envy_114 2 rfl ?_
        refine x_imul C d_Model_envy_115 ?_
        refine x_iconst (v := 2) C d_Model_envy_116 (by decide) ?_
        refine x_iadd C d_Model_envy_117 ?_
        obtain ⟨g23, h0⟩ := xgo h0
        refine x_iald C k_577 (ib_in g23) d_Model_envy_118 ?_
        refine x_icmp_lt C 128 d_Model_envy_119 (by decide) (fun q24 => ?_) (fun q24 => ?_)
        · replace h0 := xit q24 h0
          exact x_lv C [0, 2, 3, 4] rfl (b_Model_envy_128 C hr hk hd hR hrec61 h0)
        · replace h0 := xif q24 h0
          refine x_iconst (v := 1) C d_Model_envy_122 (by decide) ?_
          refine x_iload_n C d_Model_envy_123 2 rfl ?_
          refine x_ishl C d_Model_envy_124 ?_
          refine x_goto C 129 d_Model_envy_125 (by decide) ?_
          exact x_lv C [0, 2, 3, 4] rfl (b_Model_envy_129 C hr hk hd hR hrec61 h0)
theorem b_Model_envy_61 {G : XG} {l : Launch} {p : Program} {e : Env} {R : Room} {s : State} {m : MethodId} {args : Array Value} {below : List Frame} {meth : Method} {c : Code} (C : XC G 570 598 p s m args c prog_14_method_105_code 5 R_Model) (hr : meth.sig.returnType = (some .int)) (hk : meth.locks = false) {d : Nat} (hd : 119 ≤ d + 1) (hR : xroom R (d + 1)) {rec18 : Int32 → Int32 → LH → Option (Int32 × LH)} {σ' : LH} {r : Int32} (hrec18 : ∀ (y1 : Int32) (y2 : Int32) (σ : LH), rec18 y1 y2 σ = some (r, σ') → XJ G 570 598 p l e R s m args below meth c 5 (XQ G 570 598 below args s (some (.int r)) σ') 0 0 18 [(0, .ref (G.2.2.1 + 570)), (1, .int y1), (2, .int y2)] [] σ) : ∀ (n : Nat) (y1 : Int32) (y2 : Int32) (y3 : Int32) (y4 : Int32) (σ : LH), s_Model_envy_61 rec18 n y1 y2 y3 y4 σ = some (r, σ') → XJ G 570 598 p l e R s m args below meth c 5 (XQ G 570 598 below args s (some (.int r)) σ') 0 0 61 [(0, .ref (G.2.2.1 + 570)), (1, .int y1), (2, .int y2), (3, .int y3), (4, .int y4)] [] σ := by
  intro n
  induction n with
  | zero => intro y1 y2 y3 y4 σ h0; cases h0
  | succ n ih => intro y1 y2 y3 y4 σ h0; exact bb_Model_envy_61 C hr hk hd hR hrec18 ih h0
def s_Model_envy_18_b (rec18 : Int32 → Int32 → LH → Option (Int32 × LH)) (y1 : Int32) (y2 : Int32) (σ : LH) : Option (Int32 × LH) :=
  if (σ.1 570 27) ≤ y2 then (
   some (y1, σ))
  else (
   xb2 (s_Model_isHere 583 y2 σ) fun r5 σ6 =>
   if r5 = 0 then (
    s_Model_envy_137 rec18 y1 y2 σ6)
   else (
    if ib (4 * y2) 290 then (
    xb2 (s_Model_likesIn 583 y2 (σ6.1 583 (Int32.toNatClampNeg (4 * y2))) σ6) fun r11 σ12 =>
    s_Model_envy_61 rec18 FUEL y1 y2 r11 0 σ12) else none))
def s_Model_envy_18 : Nat → Int32 → Int32 → LH → Option (Int32 × LH)
  | 0, _, _, _ => none
  | n + 1, y1, y2, σ => s_Model_envy_18_b (s_Model_envy_18 n) y1 y2 σ
theorem bb_Model_envy_18 {G : XG} {l : Launch} {p : Program} {e : Env} {R : Room} {s : State} {m : MethodId} {args : Array Value} {below : List Frame} {meth : Method} {c : Code} (C : XC G 570 598 p s m args c prog_14_method_105_code 5 R_Model) (hr : meth.sig.returnType = (some .int)) (hk : meth.locks = false) {d : Nat} (hd : 119 ≤ d + 1) (hR : xroom R (d + 1)) {rec18 : Int32 → Int32 → LH → Option (Int32 × LH)} {σ' : LH} {r : Int32} (hrec18 : ∀ (y1 : Int32) (y2 : Int32) (σ : LH), rec18 y1 y2 σ = some (r, σ') → XJ G 570 598 p l e R s m args below meth c 5 (XQ G 570 598 below args s (some (.int r)) σ') 0 0 18 [(0, .ref (G.2.2.1 + 570)), (1, .int y1), (2, .int y2)] [] σ) {y1 : Int32} {y2 : Int32} {σ : LH} (h0 : s_Model_envy_18_b rec18 y1 y2 σ = some (r, σ')) : XJ G 570 598 p l e R s m args below meth c 5 (XQ G 570 598 below args s (some (.int r)) σ') 0 0 18 [(0, .ref (G.2.2.1 + 570)), (1, .int y1), (2, .int y2)] [] σ := by
  replace h0 := (show _ = _ from h0)
  unfold s_Model_envy_18_b at h0
  refine x_iload_n C d_Model_envy_18 2 rfl ?_
  refine x_aload_n C d_Model_envy_19 0 rfl ?_
  refine x_getI (y := 0) C fg_Model_305 k_570 rfl d_Model_envy_20 ?_
  refine x_icmp_ge C 143 d_Model_envy_23 (by decide) (fun q3 => ?_) (fun q3 => ?_)
  · replace h0 := xit q3 h0
    refine x_iload_n C d_Model_envy_143 1 rfl ?_
    exact x_iret C hr hk h0 d_Model_envy_144
  · replace h0 := xif q3 h0
    refine x_aload_n C d_Model_envy_26 0 rfl ?_
    refine x_getA (y := 583) C fg_Model_61 k_570 rfl d_Model_envy_27 ?_
    refine x_iload_n C d_Model_envy_30 2 rfl ?_
    obtain ⟨r5, σ6, k4, h0⟩ := xbind2 h0
    refine x_callSi C hR (c_Model_isHere (d := d) (by omega) k_583 k4) cw_Model_361 w_1905 rfl rfl (Nat.le_of_ble_eq_true rfl) ⟨Nat.zero_le _, Nat.zero_le _⟩ d_Model_envy_31 ?_
    refine x_if_ne C 40 d_Model_envy_34 (by decide) (fun q7 => ?_) (fun q7 => ?_)
    · replace h0 := xif q7 h0
      refine x_aload_n C d_Model_envy_40 0 rfl ?_
      refine x_aload_n C d_Model_envy_41 0 rfl ?_
      refine x_getA (y := 583) C fg_Model_61 k_570 rfl d_Model_envy_42 ?_
      refine x_iload_n C d_Model_envy_45 2 rfl ?_
      refine x_aload_n C d_Model_envy_46 0 rfl ?_
      refine x_getA (y := 583) C fg_Model_61 k_570 rfl d_Model_envy_47 ?_
      refine x_iconst (v := 4) C d_Model_envy_50 (by decide) ?_
      refine x_iload_n C d_Model_envy_51 2 rfl ?_
      refine x_imul C d_Model_envy_52 ?_
      obtain ⟨g9, h0⟩ := xgo h0
      refine x_iald C k_583 (ib_in g9) d_Model_envy_53 ?_
      obtain ⟨r11, σ12, k10, h0⟩ := xbind2 h0
      refine x_callVi C hR (c_Model_likesIn (d := d) (by omega) k_583 k10) cw_Model_357 k_570 rfl rfl rfl (Nat.le_of_ble_eq_true rfl) ⟨Nat.zero_le _, Nat.zero_le _⟩ d_Model_envy_54 ?_
      refine x_istore_n (lv' := [(3, .int r11), (0, .ref (G.2.2.1 + 570)), (1, .int y1), (2, .int y2)]) C d_Model_envy_57 rfl (by decide) rfl ?_
      refine x_iconst (v := 0) C d_Model_envy_58 (by decide) ?_
      refine x_istore (lv' := [(4, .int 0), (3, .int r11), (0, .ref (G.2.2.1 + 570)), (1, .int y1), (2, .int y2)]) C d_Model_envy_59 (by decide) rfl ?_
      exact x_lv C [2, 3, 4, 1, 0] rfl (b_Model_envy_61 C hr hk hd hR hrec18 FUEL _ _ _ _ _ h0)
    · replace h0 := xit q7 h0
      refine x_goto C 137 d_Model_envy_37 (by decide) ?_
      exact x_lv C [0, 1, 2] rfl (b_Model_envy_137 C hr hk hd hR hrec18 h0)
theorem b_Model_envy_18 {G : XG} {l : Launch} {p : Program} {e : Env} {R : Room} {s : State} {m : MethodId} {args : Array Value} {below : List Frame} {meth : Method} {c : Code} (C : XC G 570 598 p s m args c prog_14_method_105_code 5 R_Model) (hr : meth.sig.returnType = (some .int)) (hk : meth.locks = false) {d : Nat} (hd : 119 ≤ d + 1) (hR : xroom R (d + 1)) {σ' : LH} {r : Int32} : ∀ (n : Nat) (y1 : Int32) (y2 : Int32) (σ : LH), s_Model_envy_18 n y1 y2 σ = some (r, σ') → XJ G 570 598 p l e R s m args below meth c 5 (XQ G 570 598 below args s (some (.int r)) σ') 0 0 18 [(0, .ref (G.2.2.1 + 570)), (1, .int y1), (2, .int y2)] [] σ := by
  intro n
  induction n with
  | zero => intro y1 y2 σ h0; cases h0
  | succ n ih => intro y1 y2 σ h0; exact bb_Model_envy_18 C hr hk hd hR ih h0
def s_Model_envy (σ : LH) : Option (Int32 × LH) :=
  xl ((stI σ 570 0 0) : LH) fun σ1 =>
  if (σ1.1 570 27) = 0 then (
   some ((-1), σ1))
  else (
   s_Model_envy_18 FUEL 0 0 σ1)
theorem c_Model_envy {G : XG} {l : Launch} {d : Nat} (hd : 119 ≤ d) {σ σ' : LH} {r : Int32} (h0 : s_Model_envy σ = some (r, σ')) : xM G 570 598 l y_Model_envy prog_14_method_105_code 5 (some .int) d [.ref (G.2.2.1 + 570)] σ (some (.int r)) σ' := by
  obtain ⟨d, rfl⟩ : ∃ q, d = q + 1 := ⟨d - 1, by omega⟩
  refine x_met R_Model rfl (by decide +kernel) (Nat.le_of_ble_eq_true rfl) fun p e s m below meth c C hr hk hR => ?_
  refine x_lv (lv' := [(0, .ref (G.2.2.1 + 570))]) C [0] rfl ?_
  generalize xrm (d + 1) = R at hR ⊢
  unfold s_Model_envy at h0
  refine x_aload_n C d_Model_envy_0 0 rfl ?_
  refine x_iconst (v := 0) C d_Model_envy_1 (by decide) ?_
  refine x_putI (y := 0) C fp_Model_114 k_570 rfl rfl rfl d_Model_envy_2 ?_
  obtain ⟨σ1, eσ1, h0⟩ := xlet h0
  refine x_sig C eσ1 ?_
  refine x_aload_n C d_Model_envy_5 0 rfl ?_
  refine x_getI (y := 0) C fg_Model_305 k_570 rfl d_Model_envy_6 ?_
  refine x_if_ne C 14 d_Model_envy_9 (by decide) (fun q2 => ?_) (fun q2 => ?_)
  · replace h0 := xif q2 h0
    refine x_iconst (v := 0) C d_Model_envy_14 (by decide) ?_
    refine x_istore_n (lv' := [(1, .int 0), (0, .ref (G.2.2.1 + 570))]) C d_Model_envy_15 rfl (by decide) rfl ?_
    refine x_iconst (v := 0) C d_Model_envy_16 (by decide) ?_
    refine x_istore_n (lv' := [(2, .int 0), (1, .int 0), (0, .ref (G.2.2.1 + 570))]) C d_Model_envy_17 rfl (by decide) rfl ?_
    exact x_lv C [2, 1, 0] rfl (b_Model_envy_18 C hr hk hd hR FUEL _ _ _ h0)
  · replace h0 := xit q2 h0
    refine x_iconst (v := (-1)) C d_Model_envy_12 (by decide) ?_
    exact x_iret C hr hk h0 d_Model_envy_13
