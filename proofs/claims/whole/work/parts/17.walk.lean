-- LostPlaces.envies(I)Z
theorem d_Main_envies_0 : decode prog_1_method_48_code 0 = .ok (.aload_n 0, 1) := by decide +kernel
theorem d_Main_envies_1 : decode prog_1_method_48_code 1 = .ok (.iload_n 1, 1) := by decide +kernel
theorem d_Main_envies_2 : decode prog_1_method_48_code 2 = .ok (.invokevirtual 244, 3) := by decide +kernel
theorem d_Main_envies_5 : decode prog_1_method_48_code 5 = .ok (.ifCond .ne 5, 3) := by decide +kernel
theorem d_Main_envies_8 : decode prog_1_method_48_code 8 = .ok (.iconst 0, 1) := by decide +kernel
theorem d_Main_envies_9 : decode prog_1_method_48_code 9 = .ok (.ireturn, 1) := by decide +kernel
theorem d_Main_envies_10 : decode prog_1_method_48_code 10 = .ok (.aload_n 0, 1) := by decide +kernel
theorem d_Main_envies_11 : decode prog_1_method_48_code 11 = .ok (.getfield 63, 3) := by decide +kernel
theorem d_Main_envies_14 : decode prog_1_method_48_code 14 = .ok (.aload_n 0, 1) := by decide +kernel
theorem d_Main_envies_15 : decode prog_1_method_48_code 15 = .ok (.getfield 79, 3) := by decide +kernel
theorem d_Main_envies_18 : decode prog_1_method_48_code 18 = .ok (.getfield 227, 3) := by decide +kernel
theorem d_Main_envies_21 : decode prog_1_method_48_code 21 = .ok (.invokevirtual 230, 3) := by decide +kernel
theorem d_Main_envies_24 : decode prog_1_method_48_code 24 = .ok (.istore_n 2, 1) := by decide +kernel
theorem d_Main_envies_25 : decode prog_1_method_48_code 25 = .ok (.aload_n 0, 1) := by decide +kernel
theorem d_Main_envies_26 : decode prog_1_method_48_code 26 = .ok (.getfield 63, 3) := by decide +kernel
theorem d_Main_envies_29 : decode prog_1_method_48_code 29 = .ok (.iload_n 2, 1) := by decide +kernel
theorem d_Main_envies_30 : decode prog_1_method_48_code 30 = .ok (.iload_n 1, 1) := by decide +kernel
theorem d_Main_envies_31 : decode prog_1_method_48_code 31 = .ok (.aload_n 0, 1) := by decide +kernel
theorem d_Main_envies_32 : decode prog_1_method_48_code 32 = .ok (.getfield 79, 3) := by decide +kernel
theorem d_Main_envies_35 : decode prog_1_method_48_code 35 = .ok (.getfield 196, 3) := by decide +kernel
theorem d_Main_envies_38 : decode prog_1_method_48_code 38 = .ok (.iload_n 1, 1) := by decide +kernel
theorem d_Main_envies_39 : decode prog_1_method_48_code 39 = .ok (.iaload, 1) := by decide +kernel
theorem d_Main_envies_40 : decode prog_1_method_48_code 40 = .ok (.invokevirtual 234, 3) := by decide +kernel
theorem d_Main_envies_43 : decode prog_1_method_48_code 43 = .ok (.aload_n 0, 1) := by decide +kernel
theorem d_Main_envies_44 : decode prog_1_method_48_code 44 = .ok (.getfield 19, 3) := by decide +kernel
theorem d_Main_envies_47 : decode prog_1_method_48_code 47 = .ok (.getfield 205, 3) := by decide +kernel
theorem d_Main_envies_50 : decode prog_1_method_48_code 50 = .ok (.iload_n 1, 1) := by decide +kernel
theorem d_Main_envies_51 : decode prog_1_method_48_code 51 = .ok (.iaload, 1) := by decide +kernel
theorem d_Main_envies_52 : decode prog_1_method_48_code 52 = .ok (.iadd, 1) := by decide +kernel
theorem d_Main_envies_53 : decode prog_1_method_48_code 53 = .ok (.istore_n 3, 1) := by decide +kernel
theorem d_Main_envies_54 : decode prog_1_method_48_code 54 = .ok (.iconst 0, 1) := by decide +kernel
theorem d_Main_envies_55 : decode prog_1_method_48_code 55 = .ok (.istore 4, 2) := by decide +kernel
theorem d_Main_envies_57 : decode prog_1_method_48_code 57 = .ok (.iload 4, 2) := by decide +kernel
theorem d_Main_envies_59 : decode prog_1_method_48_code 59 = .ok (.aload_n 0, 1) := by decide +kernel
theorem d_Main_envies_60 : decode prog_1_method_48_code 60 = .ok (.getfield 19, 3) := by decide +kernel
theorem d_Main_envies_63 : decode prog_1_method_48_code 63 = .ok (.getfield 238, 3) := by decide +kernel
theorem d_Main_envies_66 : decode prog_1_method_48_code 66 = .ok (.if_icmp .ge 66, 3) := by decide +kernel
theorem d_Main_envies_69 : decode prog_1_method_48_code 69 = .ok (.aload_n 0, 1) := by decide +kernel
theorem d_Main_envies_70 : decode prog_1_method_48_code 70 = .ok (.getfield 79, 3) := by decide +kernel
theorem d_Main_envies_73 : decode prog_1_method_48_code 73 = .ok (.getfield 177, 3) := by decide +kernel
theorem d_Main_envies_76 : decode prog_1_method_48_code 76 = .ok (.iload 4, 2) := by decide +kernel
theorem d_Main_envies_78 : decode prog_1_method_48_code 78 = .ok (.iaload, 1) := by decide +kernel
theorem d_Main_envies_79 : decode prog_1_method_48_code 79 = .ok (.iconst (-1), 1) := by decide +kernel
theorem d_Main_envies_80 : decode prog_1_method_48_code 80 = .ok (.if_icmp .eq 21, 3) := by decide +kernel
theorem d_Main_envies_83 : decode prog_1_method_48_code 83 = .ok (.aload_n 0, 1) := by decide +kernel
theorem d_Main_envies_84 : decode prog_1_method_48_code 84 = .ok (.getfield 79, 3) := by decide +kernel
theorem d_Main_envies_87 : decode prog_1_method_48_code 87 = .ok (.getfield 177, 3) := by decide +kernel
theorem d_Main_envies_90 : decode prog_1_method_48_code 90 = .ok (.iload 4, 2) := by decide +kernel
theorem d_Main_envies_92 : decode prog_1_method_48_code 92 = .ok (.iaload, 1) := by decide +kernel
theorem d_Main_envies_93 : decode prog_1_method_48_code 93 = .ok (.iload_n 1, 1) := by decide +kernel
theorem d_Main_envies_94 : decode prog_1_method_48_code 94 = .ok (.if_icmp .eq 7, 3) := by decide +kernel
theorem d_Main_envies_97 : decode prog_1_method_48_code 97 = .ok (.iconst 1, 1) := by decide +kernel
theorem d_Main_envies_98 : decode prog_1_method_48_code 98 = .ok (.goto 4, 3) := by decide +kernel
theorem d_Main_envies_101 : decode prog_1_method_48_code 101 = .ok (.iconst 0, 1) := by decide +kernel
theorem d_Main_envies_102 : decode prog_1_method_48_code 102 = .ok (.istore 5, 2) := by decide +kernel
theorem d_Main_envies_104 : decode prog_1_method_48_code 104 = .ok (.iload 5, 2) := by decide +kernel
theorem d_Main_envies_106 : decode prog_1_method_48_code 106 = .ok (.ifCond .eq 20, 3) := by decide +kernel
theorem d_Main_envies_109 : decode prog_1_method_48_code 109 = .ok (.aload_n 0, 1) := by decide +kernel
theorem d_Main_envies_110 : decode prog_1_method_48_code 110 = .ok (.getfield 63, 3) := by decide +kernel
theorem d_Main_envies_113 : decode prog_1_method_48_code 113 = .ok (.iload_n 2, 1) := by decide +kernel
theorem d_Main_envies_114 : decode prog_1_method_48_code 114 = .ok (.iload_n 1, 1) := by decide +kernel
theorem d_Main_envies_115 : decode prog_1_method_48_code 115 = .ok (.iload 4, 2) := by decide +kernel
theorem d_Main_envies_117 : decode prog_1_method_48_code 117 = .ok (.invokevirtual 234, 3) := by decide +kernel
theorem d_Main_envies_120 : decode prog_1_method_48_code 120 = .ok (.iload_n 3, 1) := by decide +kernel
theorem d_Main_envies_121 : decode prog_1_method_48_code 121 = .ok (.if_icmp .lt 5, 3) := by decide +kernel
theorem d_Main_envies_124 : decode prog_1_method_48_code 124 = .ok (.iconst 1, 1) := by decide +kernel
theorem d_Main_envies_125 : decode prog_1_method_48_code 125 = .ok (.ireturn, 1) := by decide +kernel
theorem d_Main_envies_126 : decode prog_1_method_48_code 126 = .ok (.iinc 4 1, 3) := by decide +kernel
theorem d_Main_envies_129 : decode prog_1_method_48_code 129 = .ok (.goto (-72), 3) := by decide +kernel
theorem d_Main_envies_132 : decode prog_1_method_48_code 132 = .ok (.iconst 0, 1) := by decide +kernel
theorem d_Main_envies_133 : decode prog_1_method_48_code 133 = .ok (.ireturn, 1) := by decide +kernel
def s_Main_envies_126 (p0 : Int32) (rec57 : Int32 → Int32 → Int32 → LH → Option (Int32 × LH)) (y2 : Int32) (y3 : Int32) (y4 : Int32) (σ : LH) : Option (Int32 × LH) :=
  xl ((y4 + 1) : Int32) fun x18 =>
  rec57 y2 y3 x18 σ
theorem b_Main_envies_126 {G : XG} {l : Launch} {p : Program} {e : Env} {R : Room} {s : State} {m : MethodId} {args : Array Value} {below : List Frame} {meth : Method} {c : Code} (C : XC G 1 570 p s m args c prog_1_method_48_code 6 R_Main) (hr : meth.sig.returnType = (some .boolean)) (hk : meth.locks = false) {d : Nat} (hd : 3 ≤ d + 1) (hR : xroom R (d + 1)) {p0 : Int32} {rec57 : Int32 → Int32 → Int32 → LH → Option (Int32 × LH)} {σ' : LH} {r : Int32} (hrec57 : ∀ (y2 : Int32) (y3 : Int32) (y4 : Int32) (σ : LH), rec57 y2 y3 y4 σ = some (r, σ') → XJ G 1 570 p l e R s m args below meth c 6 (XQ G 1 570 below args s (some (.int r)) σ') 0 0 57 [(0, .ref (G.2.2.1 + 1)), (1, .int p0), (2, .int y2), (3, .int y3), (4, .int y4)] [] σ) {y2 : Int32} {y3 : Int32} {y4 : Int32} {σ : LH} (h0 : s_Main_envies_126 p0 rec57 y2 y3 y4 σ = some (r, σ')) : XJ G 1 570 p l e R s m args below meth c 6 (XQ G 1 570 below args s (some (.int r)) σ') 0 0 126 [(0, .ref (G.2.2.1 + 1)), (1, .int p0), (2, .int y2), (3, .int y3), (4, .int y4)] [] σ := by
  replace h0 := (show _ = _ from h0)
  unfold s_Main_envies_126 at h0
  obtain ⟨x18, ex18, h0⟩ := xlet h0
  refine x_iinc (lv' := [(4, .int x18), (0, .ref (G.2.2.1 + 1)), (1, .int p0), (2, .int y2), (3, .int y3)]) C d_Main_envies_126 4 rfl ex18 (by decide) rfl ?_
  refine x_goto C 57 d_Main_envies_129 (by decide) ?_
  exact x_lv C [1, 2, 3, 4, 0] rfl (hrec57 _ _ _ _ h0)
def s_Main_envies_102 (p0 : Int32) (rec57 : Int32 → Int32 → Int32 → LH → Option (Int32 × LH)) (y2 : Int32) (y3 : Int32) (y4 : Int32) (z0 : Int32) (σ : LH) : Option (Int32 × LH) :=
  if z0 = 0 then (
   s_Main_envies_126 p0 rec57 y2 y3 y4 σ)
  else (
   xb2 (s_Likings_at y2 p0 y4 σ) fun r20 σ21 =>
   if r20 < y3 then (
    s_Main_envies_126 p0 rec57 y2 y3 y4 σ21)
   else (
    some (1, σ21)))
theorem b_Main_envies_102 {G : XG} {l : Launch} {p : Program} {e : Env} {R : Room} {s : State} {m : MethodId} {args : Array Value} {below : List Frame} {meth : Method} {c : Code} (C : XC G 1 570 p s m args c prog_1_method_48_code 6 R_Main) (hr : meth.sig.returnType = (some .boolean)) (hk : meth.locks = false) {d : Nat} (hd : 3 ≤ d + 1) (hR : xroom R (d + 1)) {p0 : Int32} {rec57 : Int32 → Int32 → Int32 → LH → Option (Int32 × LH)} {σ' : LH} {r : Int32} (hrec57 : ∀ (y2 : Int32) (y3 : Int32) (y4 : Int32) (σ : LH), rec57 y2 y3 y4 σ = some (r, σ') → XJ G 1 570 p l e R s m args below meth c 6 (XQ G 1 570 below args s (some (.int r)) σ') 0 0 57 [(0, .ref (G.2.2.1 + 1)), (1, .int p0), (2, .int y2), (3, .int y3), (4, .int y4)] [] σ) {y2 : Int32} {y3 : Int32} {y4 : Int32} {z0 : Int32} {σ : LH} (h0 : s_Main_envies_102 p0 rec57 y2 y3 y4 z0 σ = some (r, σ')) : XJ G 1 570 p l e R s m args below meth c 6 (XQ G 1 570 below args s (some (.int r)) σ') 0 0 102 [(0, .ref (G.2.2.1 + 1)), (1, .int p0), (2, .int y2), (3, .int y3), (4, .int y4)] [.int z0] σ := by
  replace h0 := (show _ = _ from h0)
  unfold s_Main_envies_102 at h0
  refine x_istore (lv' := [(5, .int z0), (0, .ref (G.2.2.1 + 1)), (1, .int p0), (2, .int y2), (3, .int y3), (4, .int y4)]) C d_Main_envies_102 (by decide) rfl ?_
  refine x_iload C d_Main_envies_104 0 rfl ?_
  refine x_if_eq C 126 d_Main_envies_106 (by decide) (fun q17 => ?_) (fun q17 => ?_)
  · replace h0 := xit q17 h0
    exact x_lv C [1, 2, 3, 4, 5] rfl (b_Main_envies_126 C hr hk hd hR hrec57 h0)
  · replace h0 := xif q17 h0
    refine x_aload_n C d_Main_envies_109 1 rfl ?_
    refine x_getA (y := 33) C fg_Main_63 k_1 rfl d_Main_envies_110 ?_
    refine x_iload_n C d_Main_envies_113 3 rfl ?_
    refine x_iload_n C d_Main_envies_114 2 rfl ?_
    refine x_iload C d_Main_envies_115 5 rfl ?_
    obtain ⟨r20, σ21, k19, h0⟩ := xbind2 h0
    refine x_callVi C hR (c_Likings_at (d := d) (by omega) k19) cw_Main_234 k_33 rfl rfl rfl (Nat.le_of_ble_eq_true rfl) ⟨Nat.zero_le _, Nat.zero_le _⟩ d_Main_envies_117 ?_
    refine x_iload_n C d_Main_envies_120 4 rfl ?_
    refine x_icmp_lt C 126 d_Main_envies_121 (by decide) (fun q22 => ?_) (fun q22 => ?_)
    · replace h0 := xit q22 h0
      exact x_lv C [1, 2, 3, 4, 5] rfl (b_Main_envies_126 C hr hk hd hR hrec57 h0)
    · replace h0 := xif q22 h0
      refine x_iconst (v := 1) C d_Main_envies_124 (by decide) ?_
      exact x_zret C hr hk (by decide) h0 d_Main_envies_125
def s_Main_envies_101 (p0 : Int32) (rec57 : Int32 → Int32 → Int32 → LH → Option (Int32 × LH)) (y2 : Int32) (y3 : Int32) (y4 : Int32) (σ : LH) : Option (Int32 × LH) :=
  s_Main_envies_102 p0 rec57 y2 y3 y4 0 σ
theorem b_Main_envies_101 {G : XG} {l : Launch} {p : Program} {e : Env} {R : Room} {s : State} {m : MethodId} {args : Array Value} {below : List Frame} {meth : Method} {c : Code} (C : XC G 1 570 p s m args c prog_1_method_48_code 6 R_Main) (hr : meth.sig.returnType = (some .boolean)) (hk : meth.locks = false) {d : Nat} (hd : 3 ≤ d + 1) (hR : xroom R (d + 1)) {p0 : Int32} {rec57 : Int32 → Int32 → Int32 → LH → Option (Int32 × LH)} {σ' : LH} {r : Int32} (hrec57 : ∀ (y2 : Int32) (y3 : Int32) (y4 : Int32) (σ : LH), rec57 y2 y3 y4 σ = some (r, σ') → XJ G 1 570 p l e R s m args below meth c 6 (XQ G 1 570 below args s (some (.int r)) σ') 0 0 57 [(0, .ref (G.2.2.1 + 1)), (1, .int p0), (2, .int y2), (3, .int y3), (4, .int y4)] [] σ) {y2 : Int32} {y3 : Int32} {y4 : Int32} {σ : LH} (h0 : s_Main_envies_101 p0 rec57 y2 y3 y4 σ = some (r, σ')) : XJ G 1 570 p l e R s m args below meth c 6 (XQ G 1 570 below args s (some (.int r)) σ') 0 0 101 [(0, .ref (G.2.2.1 + 1)), (1, .int p0), (2, .int y2), (3, .int y3), (4, .int y4)] [] σ := by
  replace h0 := (show _ = _ from h0)
  unfold s_Main_envies_101 at h0
  refine x_iconst (v := 0) C d_Main_envies_101 (by decide) ?_
  exact x_lv C [0, 1, 2, 3, 4] rfl (b_Main_envies_102 C hr hk hd hR hrec57 h0)
def s_Main_envies_57_b (p0 : Int32) (rec57 : Int32 → Int32 → Int32 → LH → Option (Int32 × LH)) (y2 : Int32) (y3 : Int32) (y4 : Int32) (σ : LH) : Option (Int32 × LH) :=
  if (σ.1 4 0) ≤ y4 then (
   some (0, σ))
  else (
   if ib y4 8 then (
   if (σ.1 44 (Int32.toNatClampNeg y4)) = (-1) then (
    s_Main_envies_101 p0 rec57 y2 y3 y4 σ)
   else (
    if ib y4 8 then (
    if (σ.1 44 (Int32.toNatClampNeg y4)) = p0 then (
     s_Main_envies_101 p0 rec57 y2 y3 y4 σ)
    else (
     s_Main_envies_102 p0 rec57 y2 y3 y4 1 σ)) else none)) else none)
def s_Main_envies_57 (p0 : Int32) : Nat → Int32 → Int32 → Int32 → LH → Option (Int32 × LH)
  | 0, _, _, _, _ => none
  | n + 1, y2, y3, y4, σ => s_Main_envies_57_b p0 (s_Main_envies_57 p0 n) y2 y3 y4 σ
theorem bb_Main_envies_57 {G : XG} {l : Launch} {p : Program} {e : Env} {R : Room} {s : State} {m : MethodId} {args : Array Value} {below : List Frame} {meth : Method} {c : Code} (C : XC G 1 570 p s m args c prog_1_method_48_code 6 R_Main) (hr : meth.sig.returnType = (some .boolean)) (hk : meth.locks = false) {d : Nat} (hd : 3 ≤ d + 1) (hR : xroom R (d + 1)) {p0 : Int32} {rec57 : Int32 → Int32 → Int32 → LH → Option (Int32 × LH)} {σ' : LH} {r : Int32} (hrec57 : ∀ (y2 : Int32) (y3 : Int32) (y4 : Int32) (σ : LH), rec57 y2 y3 y4 σ = some (r, σ') → XJ G 1 570 p l e R s m args below meth c 6 (XQ G 1 570 below args s (some (.int r)) σ') 0 0 57 [(0, .ref (G.2.2.1 + 1)), (1, .int p0), (2, .int y2), (3, .int y3), (4, .int y4)] [] σ) {y2 : Int32} {y3 : Int32} {y4 : Int32} {σ : LH} (h0 : s_Main_envies_57_b p0 rec57 y2 y3 y4 σ = some (r, σ')) : XJ G 1 570 p l e R s m args below meth c 6 (XQ G 1 570 below args s (some (.int r)) σ') 0 0 57 [(0, .ref (G.2.2.1 + 1)), (1, .int p0), (2, .int y2), (3, .int y3), (4, .int y4)] [] σ := by
  replace h0 := (show _ = _ from h0)
  unfold s_Main_envies_57_b at h0
  refine x_iload C d_Main_envies_57 4 rfl ?_
  refine x_aload_n C d_Main_envies_59 0 rfl ?_
  refine x_getA (y := 4) C fg_Main_19 k_1 rfl d_Main_envies_60 ?_
  refine x_getI (y := 0) C fg_Main_238 k_4 rfl d_Main_envies_63 ?_
  refine x_icmp_ge C 132 d_Main_envies_66 (by decide) (fun q14 => ?_) (fun q14 => ?_)
  · replace h0 := xit q14 h0
    refine x_iconst (v := 0) C d_Main_envies_132 (by decide) ?_
    exact x_zret C hr hk (by decide) h0 d_Main_envies_133
  · replace h0 := xif q14 h0
    refine x_aload_n C d_Main_envies_69 0 rfl ?_
    refine x_getA (y := 39) C fg_Main_79 k_1 rfl d_Main_envies_70 ?_
    refine x_getR (y := 5) C fg_Main_177 k_39 rfl d_Main_envies_73 ?_
    show XJ _ _ _ _ _ _ _ _ _ _ _ _ _ _ _ _ _ _ _ (.ref (G.2.2.1 + 44) :: _) _
    refine x_iload C d_Main_envies_76 4 rfl ?_
    obtain ⟨g15, h0⟩ := xgo h0
    refine x_iald C k_44 (ib_in g15) d_Main_envies_78 ?_
    refine x_iconst (v := (-1)) C d_Main_envies_79 (by decide) ?_
    refine x_icmp_eq C 101 d_Main_envies_80 (by decide) (fun q16 => ?_) (fun q16 => ?_)
    · replace h0 := xit q16 h0
      exact x_lv C [0, 1, 2, 3, 4] rfl (b_Main_envies_101 C hr hk hd hR hrec57 h0)
    · replace h0 := xif q16 h0
      refine x_aload_n C d_Main_envies_83 0 rfl ?_
      refine x_getA (y := 39) C fg_Main_79 k_1 rfl d_Main_envies_84 ?_
      refine x_getR (y := 5) C fg_Main_177 k_39 rfl d_Main_envies_87 ?_
      show XJ _ _ _ _ _ _ _ _ _ _ _ _ _ _ _ _ _ _ _ (.ref (G.2.2.1 + 44) :: _) _
      refine x_iload C d_Main_envies_90 4 rfl ?_
      obtain ⟨g23, h0⟩ := xgo h0
      refine x_iald C k_44 (ib_in g23) d_Main_envies_92 ?_
      refine x_iload_n C d_Main_envies_93 1 rfl ?_
      refine x_icmp_eq C 101 d_Main_envies_94 (by decide) (fun q24 => ?_) (fun q24 => ?_)
      · replace h0 := xit q24 h0
        exact x_lv C [0, 1, 2, 3, 4] rfl (b_Main_envies_101 C hr hk hd hR hrec57 h0)
      · replace h0 := xif q24 h0
        refine x_iconst (v := 1) C d_Main_envies_97 (by decide) ?_
        refine x_goto C 102 d_Main_envies_98 (by decide) ?_
        exact x_lv C [0, 1, 2, 3, 4] rfl (b_Main_envies_102 C hr hk hd hR hrec57 h0)
theorem b_Main_envies_57 {G : XG} {l : Launch} {p : Program} {e : Env} {R : Room} {s : State} {m : MethodId} {args : Array Value} {below : List Frame} {meth : Method} {c : Code} (C : XC G 1 570 p s m args c prog_1_method_48_code 6 R_Main) (hr : meth.sig.returnType = (some .boolean)) (hk : meth.locks = false) {d : Nat} (hd : 3 ≤ d + 1) (hR : xroom R (d + 1)) {p0 : Int32} {σ' : LH} {r : Int32} : ∀ (n : Nat) (y2 : Int32) (y3 : Int32) (y4 : Int32) (σ : LH), s_Main_envies_57 p0 n y2 y3 y4 σ = some (r, σ') → XJ G 1 570 p l e R s m args below meth c 6 (XQ G 1 570 below args s (some (.int r)) σ') 0 0 57 [(0, .ref (G.2.2.1 + 1)), (1, .int p0), (2, .int y2), (3, .int y3), (4, .int y4)] [] σ := by
  intro n
  induction n with
  | zero => intro y2 y3 y4 σ h0; cases h0
  | succ n ih => intro y2 y3 y4 σ h0; exact bb_Main_envies_57 C hr hk hd hR ih h0
def s_Main_envies (p0 : Int32) (σ : LH) : Option (Int32 × LH) :=
  xb2 (s_Main_isHere p0 σ) fun r2 σ3 =>
  if r2 = 0 then (
   some (0, σ3))
  else (
   xb2 (s_Likings_row (σ3.1 39 7) σ3) fun r6 σ7 =>
   if ib p0 8 then (
   xb2 (s_Likings_at r6 p0 (σ7.1 40 (Int32.toNatClampNeg p0)) σ7) fun r10 σ11 =>
   if ib p0 8 then (
   xl (((r10 + (σ11.1 10 (Int32.toNatClampNeg p0)))) : Int32) fun x13 =>
   s_Main_envies_57 p0 FUEL r6 x13 0 σ11) else none) else none)
theorem c_Main_envies {G : XG} {l : Launch} {d : Nat} (hd : 3 ≤ d) {p0 : Int32} {σ σ' : LH} {r : Int32} (h0 : s_Main_envies p0 σ = some (r, σ')) : xM G 1 570 l y_Main_envies prog_1_method_48_code 6 (some .boolean) d [.ref (G.2.2.1 + 1), .int p0] σ (some (.int r)) σ' := by
  obtain ⟨d, rfl⟩ : ∃ q, d = q + 1 := ⟨d - 1, by omega⟩
  refine x_met R_Main rfl (by decide +kernel) (Nat.le_of_ble_eq_true rfl) fun p e s m below meth c C hr hk hR => ?_
  refine x_lv (lv' := [(0, .ref (G.2.2.1 + 1)), (1, .int p0)]) C [0, 1] rfl ?_
  generalize xrm (d + 1) = R at hR ⊢
  unfold s_Main_envies at h0
  refine x_aload_n C d_Main_envies_0 0 rfl ?_
  refine x_iload_n C d_Main_envies_1 1 rfl ?_
  obtain ⟨r2, σ3, k1, h0⟩ := xbind2 h0
  refine x_callVi C hR (c_Main_isHere (d := d) (by omega) k1) cw_Main_244 k_1 rfl rfl rfl (Nat.le_of_ble_eq_true rfl) ⟨Nat.zero_le _, Nat.zero_le _⟩ d_Main_envies_2 ?_
  refine x_if_ne C 10 d_Main_envies_5 (by decide) (fun q4 => ?_) (fun q4 => ?_)
  · replace h0 := xif q4 h0
    refine x_aload_n C d_Main_envies_10 0 rfl ?_
    refine x_getA (y := 33) C fg_Main_63 k_1 rfl d_Main_envies_11 ?_
    refine x_aload_n C d_Main_envies_14 0 rfl ?_
    refine x_getA (y := 39) C fg_Main_79 k_1 rfl d_Main_envies_15 ?_
    refine x_getI (y := 0) C fg_Main_227 k_39 rfl d_Main_envies_18 ?_
    obtain ⟨r6, σ7, k5, h0⟩ := xbind2 h0
    refine x_callVi C hR (c_Likings_row (d := d) (by omega) k5) cw_Main_230 k_33 rfl rfl rfl (Nat.le_of_ble_eq_true rfl) ⟨Nat.zero_le _, Nat.zero_le _⟩ d_Main_envies_21 ?_
    refine x_istore_n (lv' := [(2, .int r6), (0, .ref (G.2.2.1 + 1)), (1, .int p0)]) C d_Main_envies_24 rfl (by decide) rfl ?_
    refine x_aload_n C d_Main_envies_25 1 rfl ?_
    refine x_getA (y := 33) C fg_Main_63 k_1 rfl d_Main_envies_26 ?_
    refine x_iload_n C d_Main_envies_29 0 rfl ?_
    refine x_iload_n C d_Main_envies_30 2 rfl ?_
    refine x_aload_n C d_Main_envies_31 1 rfl ?_
    refine x_getA (y := 39) C fg_Main_79 k_1 rfl d_Main_envies_32 ?_
    refine x_getR (y := 1) C fg_Main_196 k_39 rfl d_Main_envies_35 ?_
    show XJ _ _ _ _ _ _ _ _ _ _ _ _ _ _ _ _ _ _ _ (.ref (G.2.2.1 + 40) :: _) _
    refine x_iload_n C d_Main_envies_38 2 rfl ?_
    obtain ⟨g8, h0⟩ := xgo h0
    refine x_iald C k_40 (ib_in g8) d_Main_envies_39 ?_
    obtain ⟨r10, σ11, k9, h0⟩ := xbind2 h0
    refine x_callVi C hR (c_Likings_at (d := d) (by omega) k9) cw_Main_234 k_33 rfl rfl rfl (Nat.le_of_ble_eq_true rfl) ⟨Nat.zero_le _, Nat.zero_le _⟩ d_Main_envies_40 ?_
    refine x_aload_n C d_Main_envies_43 1 rfl ?_
    refine x_getA (y := 4) C fg_Main_19 k_1 rfl d_Main_envies_44 ?_
    refine x_getR (y := 6) C fg_Main_205 k_4 rfl d_Main_envies_47 ?_
    show XJ _ _ _ _ _ _ _ _ _ _ _ _ _ _ _ _ _ _ _ (.ref (G.2.2.1 + 10) :: _) _
    refine x_iload_n C d_Main_envies_50 2 rfl ?_
    obtain ⟨g12, h0⟩ := xgo h0
    refine x_iald C k_10 (ib_in g12) d_Main_envies_51 ?_
    refine x_iadd C d_Main_envies_52 ?_
    obtain ⟨x13, ex13, h0⟩ := xlet h0
    refine x_name C ex13 ?_
    refine x_istore_n (lv' := [(3, .int x13), (2, .int r6), (0, .ref (G.2.2.1 + 1)), (1, .int p0)]) C d_Main_envies_53 rfl (by decide) rfl ?_
    refine x_iconst (v := 0) C d_Main_envies_54 (by decide) ?_
    refine x_istore (lv' := [(4, .int 0), (3, .int x13), (2, .int r6), (0, .ref (G.2.2.1 + 1)), (1, .int p0)]) C d_Main_envies_55 (by decide) rfl ?_
    exact x_lv C [3, 4, 2, 1, 0] rfl (b_Main_envies_57 C hr hk hd hR FUEL _ _ _ _ h0)
  · replace h0 := xit q4 h0
    refine x_iconst (v := 0) C d_Main_envies_8 (by decide) ?_
    exact x_zret C hr hk (by decide) h0 d_Main_envies_9
-- LostPlaces.envy()I
theorem d_Main_envy_0 : decode prog_1_method_47_code 0 = .ok (.aload_n 0, 1) := by decide +kernel
theorem d_Main_envy_1 : decode prog_1_method_47_code 1 = .ok (.invokevirtual 317, 3) := by decide +kernel
theorem d_Main_envy_4 : decode prog_1_method_47_code 4 = .ok (.ifCond .ne 5, 3) := by decide +kernel
theorem d_Main_envy_7 : decode prog_1_method_47_code 7 = .ok (.iconst (-1), 1) := by decide +kernel
theorem d_Main_envy_8 : decode prog_1_method_47_code 8 = .ok (.ireturn, 1) := by decide +kernel
theorem d_Main_envy_9 : decode prog_1_method_47_code 9 = .ok (.iconst 0, 1) := by decide +kernel
theorem d_Main_envy_10 : decode prog_1_method_47_code 10 = .ok (.istore_n 1, 1) := by decide +kernel
theorem d_Main_envy_11 : decode prog_1_method_47_code 11 = .ok (.iconst 0, 1) := by decide +kernel
theorem d_Main_envy_12 : decode prog_1_method_47_code 12 = .ok (.istore_n 2, 1) := by decide +kernel
theorem d_Main_envy_13 : decode prog_1_method_47_code 13 = .ok (.iload_n 2, 1) := by decide +kernel
theorem d_Main_envy_14 : decode prog_1_method_47_code 14 = .ok (.aload_n 0, 1) := by decide +kernel
theorem d_Main_envy_15 : decode prog_1_method_47_code 15 = .ok (.getfield 19, 3) := by decide +kernel
theorem d_Main_envy_18 : decode prog_1_method_47_code 18 = .ok (.getfield 157, 3) := by decide +kernel
theorem d_Main_envy_21 : decode prog_1_method_47_code 21 = .ok (.if_icmp .ge 23, 3) := by decide +kernel
theorem d_Main_envy_24 : decode prog_1_method_47_code 24 = .ok (.aload_n 0, 1) := by decide +kernel
theorem d_Main_envy_25 : decode prog_1_method_47_code 25 = .ok (.iload_n 2, 1) := by decide +kernel
theorem d_Main_envy_26 : decode prog_1_method_47_code 26 = .ok (.invokevirtual 364, 3) := by decide +kernel
theorem d_Main_envy_29 : decode prog_1_method_47_code 29 = .ok (.ifCond .eq 9, 3) := by decide +kernel
theorem d_Main_envy_32 : decode prog_1_method_47_code 32 = .ok (.iload_n 1, 1) := by decide +kernel
theorem d_Main_envy_33 : decode prog_1_method_47_code 33 = .ok (.iconst 1, 1) := by decide +kernel
theorem d_Main_envy_34 : decode prog_1_method_47_code 34 = .ok (.iload_n 2, 1) := by decide +kernel
theorem d_Main_envy_35 : decode prog_1_method_47_code 35 = .ok (.ishl, 1) := by decide +kernel
theorem d_Main_envy_36 : decode prog_1_method_47_code 36 = .ok (.ior, 1) := by decide +kernel
theorem d_Main_envy_37 : decode prog_1_method_47_code 37 = .ok (.istore_n 1, 1) := by decide +kernel
theorem d_Main_envy_38 : decode prog_1_method_47_code 38 = .ok (.iinc 2 1, 3) := by decide +kernel
theorem d_Main_envy_41 : decode prog_1_method_47_code 41 = .ok (.goto (-28), 3) := by decide +kernel
theorem d_Main_envy_44 : decode prog_1_method_47_code 44 = .ok (.iload_n 1, 1) := by decide +kernel
theorem d_Main_envy_45 : decode prog_1_method_47_code 45 = .ok (.ireturn, 1) := by decide +kernel
def s_Main_envy_38 (rec13 : Int32 → Int32 → LH → Option (Int32 × LH)) (y1 : Int32) (y2 : Int32) (σ : LH) : Option (Int32 × LH) :=
  xl ((y2 + 1) : Int32) fun x10 =>
  rec13 y1 x10 σ
theorem b_Main_envy_38 {G : XG} {l : Launch} {p : Program} {e : Env} {R : Room} {s : State} {m : MethodId} {args : Array Value} {below : List Frame} {meth : Method} {c : Code} (C : XC G 1 570 p s m args c prog_1_method_47_code 3 R_Main) (hr : meth.sig.returnType = (some .int)) (hk : meth.locks = false) {d : Nat} (hd : 4 ≤ d + 1) (hR : xroom R (d + 1)) {rec13 : Int32 → Int32 → LH → Option (Int32 × LH)} {σ' : LH} {r : Int32} (hrec13 : ∀ (y1 : Int32) (y2 : Int32) (σ : LH), rec13 y1 y2 σ = some (r, σ') → XJ G 1 570 p l e R s m args below meth c 3 (XQ G 1 570 below args s (some (.int r)) σ') 0 0 13 [(0, .ref (G.2.2.1 + 1)), (1, .int y1), (2, .int y2)] [] σ) {y1 : Int32} {y2 : Int32} {σ : LH} (h0 : s_Main_envy_38 rec13 y1 y2 σ = some (r, σ')) : XJ G 1 570 p l e R s m args below meth c 3 (XQ G 1 570 below args s (some (.int r)) σ') 0 0 38 [(0, .ref (G.2.2.1 + 1)), (1, .int y1), (2, .int y2)] [] σ := by
  replace h0 := (show _ = _ from h0)
  unfold s_Main_envy_38 at h0
  obtain ⟨x10, ex10, h0⟩ := xlet h0
  refine x_iinc (lv' := [(2, .int x10), (0, .ref (G.2.2.1 + 1)), (1, .int y1)]) C d_Main_envy_38 2 rfl ex10 (by decide) rfl ?_
  refine x_goto C 13 d_Main_envy_41 (by decide) ?_
  exact x_lv C [1, 2, 0] rfl (hrec13 _ _ _ h0)
def s_Main_envy_13_b (rec13 : Int32 → Int32 → LH → Option (Int32 × LH)) (y1 : Int32) (y2 : Int32) (σ : LH) : Option (Int32 × LH) :=
  if (σ.1 4 1) ≤ y2 then (
   some (y1, σ))
  else (
   xb2 (s_Main_envies y2 σ) fun r7 σ8 =>
   if r7 = 0 then (
    s_Main_envy_38 rec13 y1 y2 σ8)
   else (
    xl (((y1 ||| (1 <<< (y2 &&& 31)))) : Int32) fun x11 =>
    s_Main_envy_38 rec13 x11 y2 σ8))
def s_Main_envy_13 : Nat → Int32 → Int32 → LH → Option (Int32 × LH)
  | 0, _, _, _ => none
  | n + 1, y1, y2, σ => s_Main_envy_13_b (s_Main_envy_13 n) y1 y2 σ
theorem bb_Main_envy_13 {G : XG} {l : Launch} {p : Program} {e : Env} {R : Room} {s : State} {m : MethodId} {args : Array Value} {below : List Frame} {meth : Method} {c : Code} (C : XC G 1 570 p s m args c prog_1_method_47_code 3 R_Main) (hr : meth.sig.returnType = (some .int)) (hk : meth.locks = false) {d : Nat} (hd : 4 ≤ d + 1) (hR : xroom R (d + 1)) {rec13 : Int32 → Int32 → LH → Option (Int32 × LH)} {σ' : LH} {r : Int32} (hrec13 : ∀ (y1 : Int32) (y2 : Int32) (σ : LH), rec13 y1 y2 σ = some (r, σ') → XJ G 1 570 p l e R s m args below meth c 3 (XQ G 1 570 below args s (some (.int r)) σ') 0 0 13 [(0, .ref (G.2.2.1 + 1)), (1, .int y1), (2, .int y2)] [] σ) {y1 : Int32} {y2 : Int32} {σ : LH} (h0 : s_Main_envy_13_b rec13 y1 y2 σ = some (r, σ')) : XJ G 1 570 p l e R s m args below meth c 3 (XQ G 1 570 below args s (some (.int r)) σ') 0 0 13 [(0, .ref (G.2.2.1 + 1)), (1, .int y1), (2, .int y2)] [] σ := by
  replace h0 := (show _ = _ from h0)
  unfold s_Main_envy_13_b at h0
  refine x_iload_n C d_Main_envy_13 2 rfl ?_
  refine x_aload_n C d_Main_envy_14 0 rfl ?_
  refine x_getA (y := 4) C fg_Main_19 k_1 rfl d_Main_envy_15 ?_
  refine x_getI (y := 0) C fg_Main_157 k_4 rfl d_Main_envy_18 ?_
  refine x_icmp_ge C 44 d_Main_envy_21 (by decide) (fun q5 => ?_) (fun q5 => ?_)
  · replace h0 := xit q5 h0
    refine x_iload_n C d_Main_envy_44 1 rfl ?_
    exact x_iret C hr hk h0 d_Main_envy_45
  · replace h0 := xif q5 h0
    refine x_aload_n C d_Main_envy_24 0 rfl ?_
    refine x_iload_n C d_Main_envy_25 2 rfl ?_
    obtain ⟨r7, σ8, k6, h0⟩ := xbind2 h0
    refine x_callVi C hR (c_Main_envies (d := d) (by omega) k6) cw_Main_364 k_1 rfl rfl rfl (Nat.le_of_ble_eq_true rfl) ⟨Nat.zero_le _, Nat.zero_le _⟩ d_Main_envy_26 ?_
    refine x_if_eq C 38 d_Main_envy_29 (by decide) (fun q9 => ?_) (fun q9 => ?_)
    · replace h0 := xit q9 h0
      exact x_lv C [0, 1, 2] rfl (b_Main_envy_38 C hr hk hd hR hrec13 h0)
    · replace h0 := xif q9 h0
      refine x_iload_n C d_Main_envy_32 1 rfl ?_
      refine x_iconst (v := 1) C d_Main_envy_33 (by decide) ?_
      refine x_iload_n C d_Main_envy_34 2 rfl ?_
      refine x_ishl C d_Main_envy_35 ?_
      refine x_ior C d_Main_envy_36 ?_
      obtain ⟨x11, ex11, h0⟩ := xlet h0
      refine x_name C ex11 ?_
      refine x_istore_n (lv' := [(1, .int x11), (0, .ref (G.2.2.1 + 1)), (2, .int y2)]) C d_Main_envy_37 rfl (by decide) rfl ?_
      exact x_lv C [1, 0, 2] rfl (b_Main_envy_38 C hr hk hd hR hrec13 h0)
theorem b_Main_envy_13 {G : XG} {l : Launch} {p : Program} {e : Env} {R : Room} {s : State} {m : MethodId} {args : Array Value} {below : List Frame} {meth : Method} {c : Code} (C : XC G 1 570 p s m args c prog_1_method_47_code 3 R_Main) (hr : meth.sig.returnType = (some .int)) (hk : meth.locks = false) {d : Nat} (hd : 4 ≤ d + 1) (hR : xroom R (d + 1)) {σ' : LH} {r : Int32} : ∀ (n : Nat) (y1 : Int32) (y2 : Int32) (σ : LH), s_Main_envy_13 n y1 y2 σ = some (r, σ') → XJ G 1 570 p l e R s m args below meth c 3 (XQ G 1 570 below args s (some (.int r)) σ') 0 0 13 [(0, .ref (G.2.2.1 + 1)), (1, .int y1), (2, .int y2)] [] σ := by
  intro n
  induction n with
  | zero => intro y1 y2 σ h0; cases h0
  | succ n ih => intro y1 y2 σ h0; exact bb_Main_envy_13 C hr hk hd hR ih h0
def s_Main_envy (σ : LH) : Option (Int32 × LH) :=
  xb2 (s_Main_hasRoom σ) fun r2 σ3 =>
  if r2 = 0 then (
   some ((-1), σ3))
  else (
   s_Main_envy_13 FUEL 0 0 σ3)
theorem c_Main_envy {G : XG} {l : Launch} {d : Nat} (hd : 4 ≤ d) {σ σ' : LH} {r : Int32} (h0 : s_Main_envy σ = some (r, σ')) : xM G 1 570 l y_Main_envy prog_1_method_47_code 3 (some .int) d [.ref (G.2.2.1 + 1)] σ (some (.int r)) σ' := by
  obtain ⟨d, rfl⟩ : ∃ q, d = q + 1 := ⟨d - 1, by omega⟩
  refine x_met R_Main rfl (by decide +kernel) (Nat.le_of_ble_eq_true rfl) fun p e s m below meth c C hr hk hR => ?_
  refine x_lv (lv' := [(0, .ref (G.2.2.1 + 1))]) C [0] rfl ?_
  generalize xrm (d + 1) = R at hR ⊢
  unfold s_Main_envy at h0
  refine x_aload_n C d_Main_envy_0 0 rfl ?_
  obtain ⟨r2, σ3, k1, h0⟩ := xbind2 h0
  refine x_callVi C hR (c_Main_hasRoom (d := d) (by omega) k1) cw_Main_317 k_1 rfl rfl rfl (Nat.le_of_ble_eq_true rfl) ⟨Nat.zero_le _, Nat.zero_le _⟩ d_Main_envy_1 ?_
  refine x_if_ne C 9 d_Main_envy_4 (by decide) (fun q4 => ?_) (fun q4 => ?_)
  · replace h0 := xif q4 h0
    refine x_iconst (v := 0) C d_Main_envy_9 (by decide) ?_
    refine x_istore_n (lv' := [(1, .int 0), (0, .ref (G.2.2.1 + 1))]) C d_Main_envy_10 rfl (by decide) rfl ?_
    refine x_iconst (v := 0) C d_Main_envy_11 (by decide) ?_
    refine x_istore_n (lv' := [(2, .int 0), (1, .int 0), (0, .ref (G.2.2.1 + 1))]) C d_Main_envy_12 rfl (by decide) rfl ?_
    exact x_lv C [2, 1, 0] rfl (b_Main_envy_13 C hr hk hd hR FUEL _ _ _ h0)
  · replace h0 := xit q4 h0
    refine x_iconst (v := (-1)) C d_Main_envy_7 (by decide) ?_
    exact x_iret C hr hk h0 d_Main_envy_8
-- LostPlaces.even()I
theorem d_Main_even_0 : decode prog_1_method_49_code 0 = .ok (.aload_n 0, 1) := by decide +kernel
theorem d_Main_even_1 : decode prog_1_method_49_code 1 = .ok (.invokevirtual 317, 3) := by decide +kernel
theorem d_Main_even_4 : decode prog_1_method_49_code 4 = .ok (.ifCond .eq 20, 3) := by decide +kernel
theorem d_Main_even_7 : decode prog_1_method_49_code 7 = .ok (.aload_n 0, 1) := by decide +kernel
theorem d_Main_even_8 : decode prog_1_method_49_code 8 = .ok (.getfield 79, 3) := by decide +kernel
theorem d_Main_even_11 : decode prog_1_method_49_code 11 = .ok (.aload_n 0, 1) := by decide +kernel
theorem d_Main_even_12 : decode prog_1_method_49_code 12 = .ok (.getfield 19, 3) := by decide +kernel
theorem d_Main_even_15 : decode prog_1_method_49_code 15 = .ok (.getfield 157, 3) := by decide +kernel
theorem d_Main_even_18 : decode prog_1_method_49_code 18 = .ok (.invokevirtual 367, 3) := by decide +kernel
theorem d_Main_even_21 : decode prog_1_method_49_code 21 = .ok (.goto 4, 3) := by decide +kernel
theorem d_Main_even_24 : decode prog_1_method_49_code 24 = .ok (.iconst (-1), 1) := by decide +kernel
theorem d_Main_even_25 : decode prog_1_method_49_code 25 = .ok (.ireturn, 1) := by decide +kernel
def s_Main_even_25 (z0 : Int32) (σ : LH) : Option (Int32 × LH) :=
  some (z0, σ)
theorem b_Main_even_25 {G : XG} {l : Launch} {p : Program} {e : Env} {R : Room} {s : State} {m : MethodId} {args : Array Value} {below : List Frame} {meth : Method} {c : Code} (C : XC G 1 570 p s m args c prog_1_method_49_code 1 R_Main) (hr : meth.sig.returnType = (some .int)) (hk : meth.locks = false) {d : Nat} (hd : 2 ≤ d + 1) (hR : xroom R (d + 1)) {σ' : LH} {r : Int32} {z0 : Int32} {σ : LH} (h0 : s_Main_even_25 z0 σ = some (r, σ')) : XJ G 1 570 p l e R s m args below meth c 1 (XQ G 1 570 below args s (some (.int r)) σ') 0 0 25 [] [.int z0] σ := by
  replace h0 := (show _ = _ from h0)
  unfold s_Main_even_25 at h0
  exact x_iret C hr hk h0 d_Main_even_25
def s_Main_even (σ : LH) : Option (Int32 × LH) :=
  xb2 (s_Main_hasRoom σ) fun r2 σ3 =>
  if r2 = 0 then (
   s_Main_even_25 (-1) σ3)
  else (
   xb2 (s_Hall_gap 39 (σ3.1 4 1) σ3) fun r6 σ7 =>
   s_Main_even_25 r6 σ7)
theorem c_Main_even {G : XG} {l : Launch} {d : Nat} (hd : 2 ≤ d) {σ σ' : LH} {r : Int32} (h0 : s_Main_even σ = some (r, σ')) : xM G 1 570 l y_Main_even prog_1_method_49_code 1 (some .int) d [.ref (G.2.2.1 + 1)] σ (some (.int r)) σ' := by
  obtain ⟨d, rfl⟩ : ∃ q, d = q + 1 := ⟨d - 1, by omega⟩
  refine x_met R_Main rfl (by decide +kernel) (Nat.le_of_ble_eq_true rfl) fun p e s m below meth c C hr hk hR => ?_
  refine x_lv (lv' := [(0, .ref (G.2.2.1 + 1))]) C [0] rfl ?_
  generalize xrm (d + 1) = R at hR ⊢
  unfold s_Main_even at h0
  refine x_aload_n C d_Main_even_0 0 rfl ?_
  obtain ⟨r2, σ3, k1, h0⟩ := xbind2 h0
  refine x_callVi C hR (c_Main_hasRoom (d := d) (by omega) k1) cw_Main_317 k_1 rfl rfl rfl (Nat.le_of_ble_eq_true rfl) ⟨Nat.zero_le _, Nat.zero_le _⟩ d_Main_even_1 ?_
  refine x_if_eq C 24 d_Main_even_4 (by decide) (fun q4 => ?_) (fun q4 => ?_)
  · replace h0 := xit q4 h0
    refine x_iconst (v := (-1)) C d_Main_even_24 (by decide) ?_
    exact x_lv C [] rfl (b_Main_even_25 C hr hk hd hR h0)
  · replace h0 := xif q4 h0
    refine x_aload_n C d_Main_even_7 0 rfl ?_
    refine x_getA (y := 39) C fg_Main_79 k_1 rfl d_Main_even_8 ?_
    refine x_aload_n C d_Main_even_11 0 rfl ?_
    refine x_getA (y := 4) C fg_Main_19 k_1 rfl d_Main_even_12 ?_
    refine x_getI (y := 0) C fg_Main_157 k_4 rfl d_Main_even_15 ?_
    obtain ⟨r6, σ7, k5, h0⟩ := xbind2 h0
    refine x_callVi C hR (c_Hall_gap (d := d) (by omega) (show 39 ∈ xHalls by decide) k5) cw_Main_367 k_39 rfl rfl rfl (Nat.le_of_ble_eq_true rfl) ⟨Nat.zero_le _, Nat.zero_le _⟩ d_Main_even_18 ?_
    refine x_goto C 25 d_Main_even_21 (by decide) ?_
    exact x_lv C [] rfl (b_Main_even_25 C hr hk hd hR h0)
-- LostPlaces.image()I
theorem d_Main_image_0 : decode prog_1_method_50_code 0 = .ok (.aload_n 0, 1) := by decide +kernel
theorem d_Main_image_1 : decode prog_1_method_50_code 1 = .ok (.invokevirtual 317, 3) := by decide +kernel
theorem d_Main_image_4 : decode prog_1_method_50_code 4 = .ok (.ifCond .ne 5, 3) := by decide +kernel
theorem d_Main_image_7 : decode prog_1_method_50_code 7 = .ok (.iconst (-1), 1) := by decide +kernel
theorem d_Main_image_8 : decode prog_1_method_50_code 8 = .ok (.ireturn, 1) := by decide +kernel
theorem d_Main_image_9 : decode prog_1_method_50_code 9 = .ok (.aload_n 0, 1) := by decide +kernel
theorem d_Main_image_10 : decode prog_1_method_50_code 10 = .ok (.getfield 93, 3) := by decide +kernel
theorem d_Main_image_13 : decode prog_1_method_50_code 13 = .ok (.aload_n 0, 1) := by decide +kernel
theorem d_Main_image_14 : decode prog_1_method_50_code 14 = .ok (.getfield 79, 3) := by decide +kernel
theorem d_Main_image_17 : decode prog_1_method_50_code 17 = .ok (.invokevirtual 273, 3) := by decide +kernel
theorem d_Main_image_20 : decode prog_1_method_50_code 20 = .ok (.aload_n 0, 1) := by decide +kernel
theorem d_Main_image_21 : decode prog_1_method_50_code 21 = .ok (.iconst 1, 1) := by decide +kernel
theorem d_Main_image_22 : decode prog_1_method_50_code 22 = .ok (.putfield 96, 3) := by decide +kernel
theorem d_Main_image_25 : decode prog_1_method_50_code 25 = .ok (.aload_n 0, 1) := by decide +kernel
theorem d_Main_image_26 : decode prog_1_method_50_code 26 = .ok (.getfield 79, 3) := by decide +kernel
theorem d_Main_image_29 : decode prog_1_method_50_code 29 = .ok (.getfield 227, 3) := by decide +kernel
theorem d_Main_image_32 : decode prog_1_method_50_code 32 = .ok (.ireturn, 1) := by decide +kernel
def s_Main_image (σ : LH) : Option (Int32 × LH) :=
  xb2 (s_Main_hasRoom σ) fun r2 σ3 =>
  if r2 = 0 then (
   some ((-1), σ3))
  else (
   xb1 (s_Hall_copyFrom 49 39 σ3) fun σ6 =>
   xl ((stI σ6 1 16 1) : LH) fun σ7 =>
   some ((σ7.1 39 7), σ7))
theorem c_Main_image {G : XG} {l : Launch} {d : Nat} (hd : 4 ≤ d) {σ σ' : LH} {r : Int32} (h0 : s_Main_image σ = some (r, σ')) : xM G 1 570 l y_Main_image prog_1_method_50_code 1 (some .int) d [.ref (G.2.2.1 + 1)] σ (some (.int r)) σ' := by
  obtain ⟨d, rfl⟩ : ∃ q, d = q + 1 := ⟨d - 1, by omega⟩
  refine x_met R_Main rfl (by decide +kernel) (Nat.le_of_ble_eq_true rfl) fun p e s m below meth c C hr hk hR => ?_
  refine x_lv (lv' := [(0, .ref (G.2.2.1 + 1))]) C [0] rfl ?_
  generalize xrm (d + 1) = R at hR ⊢
  unfold s_Main_image at h0
  refine x_aload_n C d_Main_image_0 0 rfl ?_
  obtain ⟨r2, σ3, k1, h0⟩ := xbind2 h0
  refine x_callVi C hR (c_Main_hasRoom (d := d) (by omega) k1) cw_Main_317 k_1 rfl rfl rfl (Nat.le_of_ble_eq_true rfl) ⟨Nat.zero_le _, Nat.zero_le _⟩ d_Main_image_1 ?_
  refine x_if_ne C 9 d_Main_image_4 (by decide) (fun q4 => ?_) (fun q4 => ?_)
  · replace h0 := xif q4 h0
    refine x_aload_n C d_Main_image_9 0 rfl ?_
    refine x_getA (y := 49) C fg_Main_93 k_1 rfl d_Main_image_10 ?_
    refine x_aload_n C d_Main_image_13 0 rfl ?_
    refine x_getA (y := 39) C fg_Main_79 k_1 rfl d_Main_image_14 ?_
    obtain ⟨σ6, k5, h0⟩ := xbind1 h0
    refine x_callVv C hR (c_Hall_copyFrom (d := d) (by omega) (show 49 ∈ xHalls by decide) (show 39 ∈ xHalls by decide) k5) cw_Main_273 k_49 rfl rfl rfl (Nat.le_of_ble_eq_true rfl) ⟨Nat.zero_le _, Nat.zero_le _⟩ d_Main_image_17 ?_
    refine x_aload_n C d_Main_image_20 0 rfl ?_
    refine x_iconst (v := 1) C d_Main_image_21 (by decide) ?_
    refine x_putI (y := 0) C fp_Main_96 k_1 rfl rfl rfl d_Main_image_22 ?_
    obtain ⟨σ7, eσ7, h0⟩ := xlet h0
    refine x_sig C eσ7 ?_
    refine x_aload_n C d_Main_image_25 0 rfl ?_
    refine x_getA (y := 39) C fg_Main_79 k_1 rfl d_Main_image_26 ?_
    refine x_getI (y := 0) C fg_Main_227 k_39 rfl d_Main_image_29 ?_
    exact x_iret C hr hk h0 d_Main_image_32
  · replace h0 := xit q4 h0
    refine x_iconst (v := (-1)) C d_Main_image_7 (by decide) ?_
    exact x_iret C hr hk h0 d_Main_image_8
-- LostPlaces.back()I
theorem d_Main_back_0 : decode prog_1_method_51_code 0 = .ok (.aload_n 0, 1) := by decide +kernel
theorem d_Main_back_1 : decode prog_1_method_51_code 1 = .ok (.getfield 96, 3) := by decide +kernel
theorem d_Main_back_4 : decode prog_1_method_51_code 4 = .ok (.ifCond .ne 5, 3) := by decide +kernel
theorem d_Main_back_7 : decode prog_1_method_51_code 7 = .ok (.iconst (-1), 1) := by decide +kernel
theorem d_Main_back_8 : decode prog_1_method_51_code 8 = .ok (.ireturn, 1) := by decide +kernel
theorem d_Main_back_9 : decode prog_1_method_51_code 9 = .ok (.aload_n 0, 1) := by decide +kernel
theorem d_Main_back_10 : decode prog_1_method_51_code 10 = .ok (.getfield 79, 3) := by decide +kernel
theorem d_Main_back_13 : decode prog_1_method_51_code 13 = .ok (.aload_n 0, 1) := by decide +kernel
theorem d_Main_back_14 : decode prog_1_method_51_code 14 = .ok (.getfield 93, 3) := by decide +kernel
theorem d_Main_back_17 : decode prog_1_method_51_code 17 = .ok (.invokevirtual 273, 3) := by decide +kernel
theorem d_Main_back_20 : decode prog_1_method_51_code 20 = .ok (.aload_n 0, 1) := by decide +kernel
theorem d_Main_back_21 : decode prog_1_method_51_code 21 = .ok (.iconst 0, 1) := by decide +kernel
theorem d_Main_back_22 : decode prog_1_method_51_code 22 = .ok (.putfield 87, 3) := by decide +kernel
theorem d_Main_back_25 : decode prog_1_method_51_code 25 = .ok (.aload_n 0, 1) := by decide +kernel
theorem d_Main_back_26 : decode prog_1_method_51_code 26 = .ok (.getfield 79, 3) := by decide +kernel
theorem d_Main_back_29 : decode prog_1_method_51_code 29 = .ok (.getfield 227, 3) := by decide +kernel
theorem d_Main_back_32 : decode prog_1_method_51_code 32 = .ok (.ireturn, 1) := by decide +kernel
def s_Main_back (σ : LH) : Option (Int32 × LH) :=
  if (σ.1 1 16) = 0 then (
   some ((-1), σ))
  else (
   xb1 (s_Hall_copyFrom 39 49 σ) fun σ3 =>
   xl ((stI σ3 1 13 0) : LH) fun σ4 =>
   some ((σ4.1 39 7), σ4))
theorem c_Main_back {G : XG} {l : Launch} {d : Nat} (hd : 4 ≤ d) {σ σ' : LH} {r : Int32} (h0 : s_Main_back σ = some (r, σ')) : xM G 1 570 l y_Main_back prog_1_method_51_code 1 (some .int) d [.ref (G.2.2.1 + 1)] σ (some (.int r)) σ' := by
  obtain ⟨d, rfl⟩ : ∃ q, d = q + 1 := ⟨d - 1, by omega⟩
  refine x_met R_Main rfl (by decide +kernel) (Nat.le_of_ble_eq_true rfl) fun p e s m below meth c C hr hk hR => ?_
  refine x_lv (lv' := [(0, .ref (G.2.2.1 + 1))]) C [0] rfl ?_
  generalize xrm (d + 1) = R at hR ⊢
  unfold s_Main_back at h0
  refine x_aload_n C d_Main_back_0 0 rfl ?_
  refine x_getI (y := 0) C fg_Main_96 k_1 rfl d_Main_back_1 ?_
  refine x_if_ne C 9 d_Main_back_4 (by decide) (fun q1 => ?_) (fun q1 => ?_)
  · replace h0 := xif q1 h0
    refine x_aload_n C d_Main_back_9 0 rfl ?_
    refine x_getA (y := 39) C fg_Main_79 k_1 rfl d_Main_back_10 ?_
    refine x_aload_n C d_Main_back_13 0 rfl ?_
    refine x_getA (y := 49) C fg_Main_93 k_1 rfl d_Main_back_14 ?_
    obtain ⟨σ3, k2, h0⟩ := xbind1 h0
    refine x_callVv C hR (c_Hall_copyFrom (d := d) (by omega) (show 39 ∈ xHalls by decide) (show 49 ∈ xHalls by decide) k2) cw_Main_273 k_39 rfl rfl rfl (Nat.le_of_ble_eq_true rfl) ⟨Nat.zero_le _, Nat.zero_le _⟩ d_Main_back_17 ?_
    refine x_aload_n C d_Main_back_20 0 rfl ?_
    refine x_iconst (v := 0) C d_Main_back_21 (by decide) ?_
    refine x_putI (y := 0) C fp_Main_87 k_1 rfl rfl rfl d_Main_back_22 ?_
    obtain ⟨σ4, eσ4, h0⟩ := xlet h0
    refine x_sig C eσ4 ?_
    refine x_aload_n C d_Main_back_25 0 rfl ?_
    refine x_getA (y := 39) C fg_Main_79 k_1 rfl d_Main_back_26 ?_
    refine x_getI (y := 0) C fg_Main_227 k_39 rfl d_Main_back_29 ?_
    exact x_iret C hr hk h0 d_Main_back_32
  · replace h0 := xit q1 h0
    refine x_iconst (v := (-1)) C d_Main_back_7 (by decide) ?_
    exact x_iret C hr hk h0 d_Main_back_8
-- LostPlaces.count(I)I
theorem d_Main_count_0 : decode prog_1_method_52_code 0 = .ok (.iload_n 1, 1) := by decide +kernel
theorem d_Main_count_1 : decode prog_1_method_52_code 1 = .ok (.tableswitch 159 0 12 #[67, 75, 83, 91, 96, 104, 109, 117, 125, 133, 138, 146, 151], 67) := by decide +kernel
theorem d_Main_count_68 : decode prog_1_method_52_code 68 = .ok (.aload_n 0, 1) := by decide +kernel
theorem d_Main_count_69 : decode prog_1_method_52_code 69 = .ok (.getfield 19, 3) := by decide +kernel
theorem d_Main_count_72 : decode prog_1_method_52_code 72 = .ok (.getfield 238, 3) := by decide +kernel
theorem d_Main_count_75 : decode prog_1_method_52_code 75 = .ok (.ireturn, 1) := by decide +kernel
theorem d_Main_count_76 : decode prog_1_method_52_code 76 = .ok (.aload_n 0, 1) := by decide +kernel
theorem d_Main_count_77 : decode prog_1_method_52_code 77 = .ok (.getfield 19, 3) := by decide +kernel
theorem d_Main_count_80 : decode prog_1_method_52_code 80 = .ok (.getfield 157, 3) := by decide +kernel
theorem d_Main_count_83 : decode prog_1_method_52_code 83 = .ok (.ireturn, 1) := by decide +kernel
theorem d_Main_count_84 : decode prog_1_method_52_code 84 = .ok (.aload_n 0, 1) := by decide +kernel
theorem d_Main_count_85 : decode prog_1_method_52_code 85 = .ok (.getfield 19, 3) := by decide +kernel
theorem d_Main_count_88 : decode prog_1_method_52_code 88 = .ok (.getfield 214, 3) := by decide +kernel
theorem d_Main_count_91 : decode prog_1_method_52_code 91 = .ok (.ireturn, 1) := by decide +kernel
theorem d_Main_count_92 : decode prog_1_method_52_code 92 = .ok (.aload_n 0, 1) := by decide +kernel
theorem d_Main_count_93 : decode prog_1_method_52_code 93 = .ok (.getfield 48, 3) := by decide +kernel
theorem d_Main_count_96 : decode prog_1_method_52_code 96 = .ok (.ireturn, 1) := by decide +kernel
theorem d_Main_count_97 : decode prog_1_method_52_code 97 = .ok (.aload_n 0, 1) := by decide +kernel
theorem d_Main_count_98 : decode prog_1_method_52_code 98 = .ok (.getfield 10, 3) := by decide +kernel
theorem d_Main_count_101 : decode prog_1_method_52_code 101 = .ok (.getfield 126, 3) := by decide +kernel
theorem d_Main_count_104 : decode prog_1_method_52_code 104 = .ok (.ireturn, 1) := by decide +kernel
theorem d_Main_count_105 : decode prog_1_method_52_code 105 = .ok (.aload_n 0, 1) := by decide +kernel
theorem d_Main_count_106 : decode prog_1_method_52_code 106 = .ok (.getfield 52, 3) := by decide +kernel
theorem d_Main_count_109 : decode prog_1_method_52_code 109 = .ok (.ireturn, 1) := by decide +kernel
theorem d_Main_count_110 : decode prog_1_method_52_code 110 = .ok (.aload_n 0, 1) := by decide +kernel
theorem d_Main_count_111 : decode prog_1_method_52_code 111 = .ok (.getfield 79, 3) := by decide +kernel
theorem d_Main_count_114 : decode prog_1_method_52_code 114 = .ok (.getfield 227, 3) := by decide +kernel
theorem d_Main_count_117 : decode prog_1_method_52_code 117 = .ok (.ireturn, 1) := by decide +kernel
theorem d_Main_count_118 : decode prog_1_method_52_code 118 = .ok (.aload_n 0, 1) := by decide +kernel
theorem d_Main_count_119 : decode prog_1_method_52_code 119 = .ok (.getfield 19, 3) := by decide +kernel
theorem d_Main_count_122 : decode prog_1_method_52_code 122 = .ok (.getfield 241, 3) := by decide +kernel
theorem d_Main_count_125 : decode prog_1_method_52_code 125 = .ok (.ireturn, 1) := by decide +kernel
theorem d_Main_count_126 : decode prog_1_method_52_code 126 = .ok (.aload_n 0, 1) := by decide +kernel
theorem d_Main_count_127 : decode prog_1_method_52_code 127 = .ok (.getfield 19, 3) := by decide +kernel
theorem d_Main_count_130 : decode prog_1_method_52_code 130 = .ok (.getfield 370, 3) := by decide +kernel
theorem d_Main_count_133 : decode prog_1_method_52_code 133 = .ok (.ireturn, 1) := by decide +kernel
theorem d_Main_count_134 : decode prog_1_method_52_code 134 = .ok (.aload_n 0, 1) := by decide +kernel
theorem d_Main_count_135 : decode prog_1_method_52_code 135 = .ok (.getfield 55, 3) := by decide +kernel
theorem d_Main_count_138 : decode prog_1_method_52_code 138 = .ok (.ireturn, 1) := by decide +kernel
theorem d_Main_count_139 : decode prog_1_method_52_code 139 = .ok (.aload_n 0, 1) := by decide +kernel
theorem d_Main_count_140 : decode prog_1_method_52_code 140 = .ok (.getfield 79, 3) := by decide +kernel
theorem d_Main_count_143 : decode prog_1_method_52_code 143 = .ok (.invokevirtual 276, 3) := by decide +kernel
theorem d_Main_count_146 : decode prog_1_method_52_code 146 = .ok (.ireturn, 1) := by decide +kernel
theorem d_Main_count_147 : decode prog_1_method_52_code 147 = .ok (.aload_n 0, 1) := by decide +kernel
theorem d_Main_count_148 : decode prog_1_method_52_code 148 = .ok (.getfield 87, 3) := by decide +kernel
theorem d_Main_count_151 : decode prog_1_method_52_code 151 = .ok (.ireturn, 1) := by decide +kernel
theorem d_Main_count_152 : decode prog_1_method_52_code 152 = .ok (.aload_n 0, 1) := by decide +kernel
theorem d_Main_count_153 : decode prog_1_method_52_code 153 = .ok (.getfield 121, 3) := by decide +kernel
theorem d_Main_count_156 : decode prog_1_method_52_code 156 = .ok (.getfield 148, 3) := by decide +kernel
theorem d_Main_count_159 : decode prog_1_method_52_code 159 = .ok (.ireturn, 1) := by decide +kernel
theorem d_Main_count_160 : decode prog_1_method_52_code 160 = .ok (.ldc 226, 2) := by decide +kernel
theorem d_Main_count_162 : decode prog_1_method_52_code 162 = .ok (.ireturn, 1) := by decide +kernel
def s_Main_count (p0 : Int32) (σ : LH) : Option (Int32 × LH) :=
  if p0.toInt = 0 then (
   some ((σ.1 4 0), σ))
  else (
  if p0.toInt = 1 then (
   some ((σ.1 4 1), σ))
  else (
  if p0.toInt = 2 then (
   some ((σ.1 4 2), σ))
  else (
  if p0.toInt = 3 then (
   some ((σ.1 1 6), σ))
  else (
  if p0.toInt = 4 then (
   some ((σ.1 2 1), σ))
  else (
  if p0.toInt = 5 then (
   some ((σ.1 1 7), σ))
  else (
  if p0.toInt = 6 then (
   some ((σ.1 39 7), σ))
  else (
  if p0.toInt = 7 then (
   some ((σ.1 4 15), σ))
  else (
  if p0.toInt = 8 then (
   some ((σ.1 4 14), σ))
  else (
  if p0.toInt = 9 then (
   some ((σ.1 1 8), σ))
  else (
  if p0.toInt = 10 then (
   xb2 (s_Hall_logged 39 σ) fun r2 σ3 =>
   some (r2, σ3))
  else (
  if p0.toInt = 11 then (
   some ((σ.1 1 13), σ))
  else (
  if p0.toInt = 12 then (
   some ((σ.1 81 10), σ))
  else (
   some ((-1000000), σ))))))))))))))
theorem c_Main_count {G : XG} {l : Launch} {d : Nat} (hd : 2 ≤ d) {p0 : Int32} {σ σ' : LH} {r : Int32} (h0 : s_Main_count p0 σ = some (r, σ')) : xM G 1 570 l y_Main_count prog_1_method_52_code 2 (some .int) d [.ref (G.2.2.1 + 1), .int p0] σ (some (.int r)) σ' := by
  obtain ⟨d, rfl⟩ : ∃ q, d = q + 1 := ⟨d - 1, by omega⟩
  refine x_met R_Main rfl (by decide +kernel) (Nat.le_of_ble_eq_true rfl) fun p e s m below meth c C hr hk hR => ?_
  refine x_lv (lv' := [(0, .ref (G.2.2.1 + 1)), (1, .int p0)]) C [0, 1] rfl ?_
  generalize xrm (d + 1) = R at hR ⊢
  unfold s_Main_count at h0
  refine x_iload_n C d_Main_count_0 1 rfl ?_
  by_cases q0 : p0.toInt = 0
  · replace h0 := xit q0 h0
    refine x_tableIn C 68 d_Main_count_1 (by omega) (by omega) (by rw [q0]; rfl) (by decide) ?_
    refine x_aload_n C d_Main_count_68 0 rfl ?_
    refine x_getA (y := 4) C fg_Main_19 k_1 rfl d_Main_count_69 ?_
    refine x_getI (y := 0) C fg_Main_238 k_4 rfl d_Main_count_72 ?_
    exact x_iret C hr hk h0 d_Main_count_75
  replace h0 := xif q0 h0
  by_cases q1 : p0.toInt = 1
  · replace h0 := xit q1 h0
    refine x_tableIn C 76 d_Main_count_1 (by omega) (by omega) (by rw [q1]; rfl) (by decide) ?_
    refine x_aload_n C d_Main_count_76 0 rfl ?_
    refine x_getA (y := 4) C fg_Main_19 k_1 rfl d_Main_count_77 ?_
    refine x_getI (y := 0) C fg_Main_157 k_4 rfl d_Main_count_80 ?_
    exact x_iret C hr hk h0 d_Main_count_83
  replace h0 := xif q1 h0
  by_cases q2 : p0.toInt = 2
  · replace h0 := xit q2 h0
    refine x_tableIn C 84 d_Main_count_1 (by omega) (by omega) (by rw [q2]; rfl) (by decide) ?_
    refine x_aload_n C d_Main_count_84 0 rfl ?_
    refine x_getA (y := 4) C fg_Main_19 k_1 rfl d_Main_count_85 ?_
    refine x_getI (y := 0) C fg_Main_214 k_4 rfl d_Main_count_88 ?_
    exact x_iret C hr hk h0 d_Main_count_91
  replace h0 := xif q2 h0
  by_cases q3 : p0.toInt = 3
  · replace h0 := xit q3 h0
    refine x_tableIn C 92 d_Main_count_1 (by omega) (by omega) (by rw [q3]; rfl) (by decide) ?_
    refine x_aload_n C d_Main_count_92 0 rfl ?_
    refine x_getI (y := 0) C fg_Main_48 k_1 rfl d_Main_count_93 ?_
    exact x_iret C hr hk h0 d_Main_count_96
  replace h0 := xif q3 h0
  by_cases q4 : p0.toInt = 4
  · replace h0 := xit q4 h0
    refine x_tableIn C 97 d_Main_count_1 (by omega) (by omega) (by rw [q4]; rfl) (by decide) ?_
    refine x_aload_n C d_Main_count_97 0 rfl ?_
    refine x_getA (y := 2) C fg_Main_10 k_1 rfl d_Main_count_98 ?_
    refine x_getI (y := 0) C fg_Main_126 k_2 rfl d_Main_count_101 ?_
    exact x_iret C hr hk h0 d_Main_count_104
  replace h0 := xif q4 h0
  by_cases q5 : p0.toInt = 5
  · replace h0 := xit q5 h0
    refine x_tableIn C 105 d_Main_count_1 (by omega) (by omega) (by rw [q5]; rfl) (by decide) ?_
    refine x_aload_n C d_Main_count_105 0 rfl ?_
    refine x_getI (y := 0) C fg_Main_52 k_1 rfl d_Main_count_106 ?_
    exact x_iret C hr hk h0 d_Main_count_109
  replace h0 := xif q5 h0
  by_cases q6 : p0.toInt = 6
  · replace h0 := xit q6 h0
    refine x_tableIn C 110 d_Main_count_1 (by omega) (by omega) (by rw [q6]; rfl) (by decide) ?_
    refine x_aload_n C d_Main_count_110 0 rfl ?_
    refine x_getA (y := 39) C fg_Main_79 k_1 rfl d_Main_count_111 ?_
    refine x_getI (y := 0) C fg_Main_227 k_39 rfl d_Main_count_114 ?_
    exact x_iret C hr hk h0 d_Main_count_117
  replace h0 := xif q6 h0
  by_cases q7 : p0.toInt = 7
  · replace h0 := xit q7 h0
    refine x_tableIn C 118 d_Main_count_1 (by omega) (by omega) (by rw [q7]; rfl) (by decide) ?_
    refine x_aload_n C d_Main_count_118 0 rfl ?_
    refine x_getA (y := 4) C fg_Main_19 k_1 rfl d_Main_count_119 ?_
    refine x_getI (y := 0) C fg_Main_241 k_4 rfl d_Main_count_122 ?_
    exact x_iret C hr hk h0 d_Main_count_125
  replace h0 := xif q7 h0
  by_cases q8 : p0.toInt = 8
  · replace h0 := xit q8 h0
    refine x_tableIn C 126 d_Main_count_1 (by omega) (by omega) (by rw [q8]; rfl) (by decide) ?_
    refine x_aload_n C d_Main_count_126 0 rfl ?_
    refine x_getA (y := 4) C fg_Main_19 k_1 rfl d_Main_count_127 ?_
    refine x_getI (y := 0) C fg_Main_370 k_4 rfl d_Main_count_130 ?_
    exact x_iret C hr hk h0 d_Main_count_133
  replace h0 := xif q8 h0
  by_cases q9 : p0.toInt = 9
  · replace h0 := xit q9 h0
    refine x_tableIn C 134 d_Main_count_1 (by omega) (by omega) (by rw [q9]; rfl) (by decide) ?_
    refine x_aload_n C d_Main_count_134 0 rfl ?_
    refine x_getI (y := 0) C fg_Main_55 k_1 rfl d_Main_count_135 ?_
    exact x_iret C hr hk h0 d_Main_count_138
  replace h0 := xif q9 h0
  by_cases q10 : p0.toInt = 10
  · replace h0 := xit q10 h0
    refine x_tableIn C 139 d_Main_count_1 (by omega) (by omega) (by rw [q10]; rfl) (by decide) ?_
    refine x_aload_n C d_Main_count_139 0 rfl ?_
    refine x_getA (y := 39) C fg_Main_79 k_1 rfl d_Main_count_140 ?_
    obtain ⟨r2, σ3, k1, h0⟩ := xbind2 h0
    refine x_callVi C hR (c_Hall_logged (d := d) (by omega) (show 39 ∈ xHalls by decide) k1) cw_Main_276 k_39 rfl rfl rfl (Nat.le_of_ble_eq_true rfl) ⟨Nat.zero_le _, Nat.zero_le _⟩ d_Main_count_143 ?_
    exact x_iret C hr hk h0 d_Main_count_146
  replace h0 := xif q10 h0
  by_cases q11 : p0.toInt = 11
  · replace h0 := xit q11 h0
    refine x_tableIn C 147 d_Main_count_1 (by omega) (by omega) (by rw [q11]; rfl) (by decide) ?_
    refine x_aload_n C d_Main_count_147 0 rfl ?_
    refine x_getI (y := 0) C fg_Main_87 k_1 rfl d_Main_count_148 ?_
    exact x_iret C hr hk h0 d_Main_count_151
  replace h0 := xif q11 h0
  by_cases q12 : p0.toInt = 12
  · replace h0 := xit q12 h0
    refine x_tableIn C 152 d_Main_count_1 (by omega) (by omega) (by rw [q12]; rfl) (by decide) ?_
    refine x_aload_n C d_Main_count_152 0 rfl ?_
    refine x_getA (y := 81) C fg_Main_121 k_1 rfl d_Main_count_153 ?_
    refine x_getI (y := 0) C fg_Main_148 k_81 rfl d_Main_count_156 ?_
    exact x_iret C hr hk h0 d_Main_count_159
  replace h0 := xif q12 h0
  refine x_tableOut C 160 d_Main_count_1 (by omega) (by decide) ?_
  refine x_ldc (v := (-1000000)) C w_982 d_Main_count_160 ?_
  exact x_iret C hr hk h0 d_Main_count_162
-- LostPlacesModel.thrown()I
theorem d_Model_thrown_0 : decode prog_14_method_2_code 0 = .ok (.aload_n 0, 1) := by decide +kernel
theorem d_Model_thrown_1 : decode prog_14_method_2_code 1 = .ok (.getfield 114, 3) := by decide +kernel
theorem d_Model_thrown_4 : decode prog_14_method_2_code 4 = .ok (.ireturn, 1) := by decide +kernel
def s_Model_thrown (σ : LH) : Option (Int32 × LH) :=
  some ((σ.1 570 0), σ)
theorem c_Model_thrown {G : XG} {l : Launch} {d : Nat} (hd : 1 ≤ d) {σ σ' : LH} {r : Int32} (h0 : s_Model_thrown σ = some (r, σ')) : xM G 570 598 l y_Model_thrown prog_14_method_2_code 1 (some .int) d [.ref (G.2.2.1 + 570)] σ (some (.int r)) σ' := by
  obtain ⟨d, rfl⟩ : ∃ q, d = q + 1 := ⟨d - 1, by omega⟩
  refine x_met R_Model rfl (by decide +kernel) (Nat.le_of_ble_eq_true rfl) fun p e s m below meth c C hr hk hR => ?_
  refine x_lv (lv' := [(0, .ref (G.2.2.1 + 570))]) C [0] rfl ?_
  generalize xrm (d + 1) = R at hR ⊢
  unfold s_Model_thrown at h0
  refine x_aload_n C d_Model_thrown_0 0 rfl ?_
  refine x_getI (y := 0) C fg_Model_114 k_570 rfl d_Model_thrown_1 ?_
  exact x_iret C hr hk h0 d_Model_thrown_4
-- LostPlacesModel.isIn(JJJ)Z
theorem d_Model_isIn_0 : decode prog_14_method_3_code 0 = .ok (.lload_n 0, 1) := by decide +kernel
theorem d_Model_isIn_1 : decode prog_14_method_3_code 1 = .ok (.lload_n 2, 1) := by decide +kernel
theorem d_Model_isIn_2 : decode prog_14_method_3_code 2 = .ok (.lcmp, 1) := by decide +kernel
theorem d_Model_isIn_3 : decode prog_14_method_3_code 3 = .ok (.ifCond .lt 14, 3) := by decide +kernel
theorem d_Model_isIn_6 : decode prog_14_method_3_code 6 = .ok (.lload_n 0, 1) := by decide +kernel
theorem d_Model_isIn_7 : decode prog_14_method_3_code 7 = .ok (.lload 4, 2) := by decide +kernel
theorem d_Model_isIn_9 : decode prog_14_method_3_code 9 = .ok (.lcmp, 1) := by decide +kernel
theorem d_Model_isIn_10 : decode prog_14_method_3_code 10 = .ok (.ifCond .gt 7, 3) := by decide +kernel
theorem d_Model_isIn_13 : decode prog_14_method_3_code 13 = .ok (.iconst 1, 1) := by decide +kernel
theorem d_Model_isIn_14 : decode prog_14_method_3_code 14 = .ok (.goto 4, 3) := by decide +kernel
theorem d_Model_isIn_17 : decode prog_14_method_3_code 17 = .ok (.iconst 0, 1) := by decide +kernel
theorem d_Model_isIn_18 : decode prog_14_method_3_code 18 = .ok (.ireturn, 1) := by decide +kernel
def s_Model_isIn_18 (p0 : Int64) (p1 : Int64) (p2 : Int64) (z0 : Int32) (σ : LH) : Option (Int32 × LH) :=
  if zb z0 then (
  some (z0, σ)) else none
theorem b_Model_isIn_18 {G : XG} {l : Launch} {p : Program} {e : Env} {R : Room} {s : State} {m : MethodId} {args : Array Value} {below : List Frame} {meth : Method} {c : Code} (C : XC G 570 598 p s m args c prog_14_method_3_code 6 R_Model) (hr : meth.sig.returnType = (some .boolean)) (hk : meth.locks = false) {d : Nat} (hd : 1 ≤ d + 1) (hR : xroom R (d + 1)) {p0 : Int64} {p1 : Int64} {p2 : Int64} {σ' : LH} {r : Int32} {z0 : Int32} {σ : LH} (h0 : s_Model_isIn_18 p0 p1 p2 z0 σ = some (r, σ')) : XJ G 570 598 p l e R s m args below meth c 6 (XQ G 570 598 below args s (some (.int r)) σ') 0 0 18 [] [.int z0] σ := by
  replace h0 := (show _ = _ from h0)
  unfold s_Model_isIn_18 at h0
  obtain ⟨g2, h0⟩ := xgo h0
  exact x_zret C hr hk g2 h0 d_Model_isIn_18
def s_Model_isIn_17 (p0 : Int64) (p1 : Int64) (p2 : Int64) (σ : LH) : Option (Int32 × LH) :=
  s_Model_isIn_18 p0 p1 p2 0 σ
theorem b_Model_isIn_17 {G : XG} {l : Launch} {p : Program} {e : Env} {R : Room} {s : State} {m : MethodId} {args : Array Value} {below : List Frame} {meth : Method} {c : Code} (C : XC G 570 598 p s m args c prog_14_method_3_code 6 R_Model) (hr : meth.sig.returnType = (some .boolean)) (hk : meth.locks = false) {d : Nat} (hd : 1 ≤ d + 1) (hR : xroom R (d + 1)) {p0 : Int64} {p1 : Int64} {p2 : Int64} {σ' : LH} {r : Int32} {σ : LH} (h0 : s_Model_isIn_17 p0 p1 p2 σ = some (r, σ')) : XJ G 570 598 p l e R s m args below meth c 6 (XQ G 570 598 below args s (some (.int r)) σ') 0 0 17 [] [] σ := by
  replace h0 := (show _ = _ from h0)
  unfold s_Model_isIn_17 at h0
  refine x_iconst (v := 0) C d_Model_isIn_17 (by decide) ?_
  exact x_lv C [] rfl (b_Model_isIn_18 C hr hk hd hR h0)
def s_Model_isIn (p0 : Int64) (p1 : Int64) (p2 : Int64) (σ : LH) : Option (Int32 × LH) :=
  if (lg_cmp p0 p1) < 0 then (
   s_Model_isIn_17 p0 p1 p2 σ)
  else (
   if 0 < (lg_cmp p0 p2) then (
    s_Model_isIn_17 p0 p1 p2 σ)
   else (
    s_Model_isIn_18 p0 p1 p2 1 σ))
theorem c_Model_isIn {G : XG} {l : Launch} {d : Nat} (hd : 1 ≤ d) {p0 : Int64} {p1 : Int64} {p2 : Int64} {σ σ' : LH} {r : Int32} (h0 : s_Model_isIn p0 p1 p2 σ = some (r, σ')) : xM G 570 598 l y_Model_isIn prog_14_method_3_code 6 (some .boolean) d [.long (p0), .long (p1), .long (p2)] σ (some (.int r)) σ' := by
  obtain ⟨d, rfl⟩ : ∃ q, d = q + 1 := ⟨d - 1, by omega⟩
  refine x_met R_Model rfl (by decide +kernel) (Nat.le_of_ble_eq_true rfl) fun p e s m below meth c C hr hk hR => ?_
  refine x_lv (lv' := [(0, .long (p0)), (2, .long (p1)), (4, .long (p2))]) C [0, 1, 2] rfl ?_
  generalize xrm (d + 1) = R at hR ⊢
  unfold s_Model_isIn at h0
  refine x_lload_n C d_Model_isIn_0 0 rfl ?_
  refine x_lload_n C d_Model_isIn_1 1 rfl ?_
  refine x_lcmp C d_Model_isIn_2 ?_
  refine x_if_lt C 17 d_Model_isIn_3 (by decide) (fun q1 => ?_) (fun q1 => ?_)
  · replace h0 := xit q1 h0
    exact x_lv C [] rfl (b_Model_isIn_17 C hr hk hd hR h0)
  · replace h0 := xif q1 h0
    refine x_lload_n C d_Model_isIn_6 0 rfl ?_
    refine x_lload C d_Model_isIn_7 2 rfl ?_
    refine x_lcmp C d_Model_isIn_9 ?_
    refine x_if_gt C 17 d_Model_isIn_10 (by decide) (fun q3 => ?_) (fun q3 => ?_)
    · replace h0 := xit q3 h0
      exact x_lv C [] rfl (b_Model_isIn_17 C hr hk hd hR h0)
    · replace h0 := xif q3 h0
      refine x_iconst (v := 1) C d_Model_isIn_13 (by decide) ?_
      refine x_goto C 18 d_Model_isIn_14 (by decide) ?_
      exact x_lv C [] rfl (b_Model_isIn_18 C hr hk hd hR h0)
-- LostPlacesModel.has(II)Z
theorem d_Model_has_0 : decode prog_14_method_4_code 0 = .ok (.iload_n 0, 1) := by decide +kernel
theorem d_Model_has_1 : decode prog_14_method_4_code 1 = .ok (.iload_n 1, 1) := by decide +kernel
theorem d_Model_has_2 : decode prog_14_method_4_code 2 = .ok (.ishr, 1) := by decide +kernel
theorem d_Model_has_3 : decode prog_14_method_4_code 3 = .ok (.iconst 1, 1) := by decide +kernel
theorem d_Model_has_4 : decode prog_14_method_4_code 4 = .ok (.iand, 1) := by decide +kernel
theorem d_Model_has_5 : decode prog_14_method_4_code 5 = .ok (.iconst 1, 1) := by decide +kernel
theorem d_Model_has_6 : decode prog_14_method_4_code 6 = .ok (.if_icmp .ne 7, 3) := by decide +kernel
theorem d_Model_has_9 : decode prog_14_method_4_code 9 = .ok (.iconst 1, 1) := by decide +kernel
theorem d_Model_has_10 : decode prog_14_method_4_code 10 = .ok (.goto 4, 3) := by decide +kernel
theorem d_Model_has_13 : decode prog_14_method_4_code 13 = .ok (.iconst 0, 1) := by decide +kernel
theorem d_Model_has_14 : decode prog_14_method_4_code 14 = .ok (.ireturn, 1) := by decide +kernel
def s_Model_has_14 (p0 : Int32) (p1 : Int32) (z0 : Int32) (σ : LH) : Option (Int32 × LH) :=
  if zb z0 then (
  some (z0, σ)) else none
theorem b_Model_has_14 {G : XG} {l : Launch} {p : Program} {e : Env} {R : Room} {s : State} {m : MethodId} {args : Array Value} {below : List Frame} {meth : Method} {c : Code} (C : XC G 570 598 p s m args c prog_14_method_4_code 2 R_Model) (hr : meth.sig.returnType = (some .boolean)) (hk : meth.locks = false) {d : Nat} (hd : 1 ≤ d + 1) (hR : xroom R (d + 1)) {p0 : Int32} {p1 : Int32} {σ' : LH} {r : Int32} {z0 : Int32} {σ : LH} (h0 : s_Model_has_14 p0 p1 z0 σ = some (r, σ')) : XJ G 570 598 p l e R s m args below meth c 2 (XQ G 570 598 below args s (some (.int r)) σ') 0 0 14 [] [.int z0] σ := by
  replace h0 := (show _ = _ from h0)
  unfold s_Model_has_14 at h0
  obtain ⟨g2, h0⟩ := xgo h0
  exact x_zret C hr hk g2 h0 d_Model_has_14
def s_Model_has (p0 : Int32) (p1 : Int32) (σ : LH) : Option (Int32 × LH) :=
  if ((p0 >>> (p1 &&& 31)) &&& 1) = 1 then (
   s_Model_has_14 p0 p1 1 σ)
  else (
   s_Model_has_14 p0 p1 0 σ)
theorem c_Model_has {G : XG} {l : Launch} {d : Nat} (hd : 1 ≤ d) {p0 : Int32} {p1 : Int32} {σ σ' : LH} {r : Int32} (h0 : s_Model_has p0 p1 σ = some (r, σ')) : xM G 570 598 l y_Model_has prog_14_method_4_code 2 (some .boolean) d [.int p0, .int p1] σ (some (.int r)) σ' := by
  obtain ⟨d, rfl⟩ : ∃ q, d = q + 1 := ⟨d - 1, by omega⟩
  refine x_met R_Model rfl (by decide +kernel) (Nat.le_of_ble_eq_true rfl) fun p e s m below meth c C hr hk hR => ?_
  refine x_lv (lv' := [(0, .int p0), (1, .int p1)]) C [0, 1] rfl ?_
  generalize xrm (d + 1) = R at hR ⊢
  unfold s_Model_has at h0
  refine x_iload_n C d_Model_has_0 0 rfl ?_
  refine x_iload_n C d_Model_has_1 1 rfl ?_
  refine x_ishr C d_Model_has_2 ?_
  refine x_iconst (v := 1) C d_Model_has_3 (by decide) ?_
  refine x_iand C d_Model_has_4 ?_
  refine x_iconst (v := 1) C d_Model_has_5 (by decide) ?_
  refine x_icmp_ne C 13 d_Model_has_6 (by decide) (fun q1 => ?_) (fun q1 => ?_)
  · replace h0 := xif q1 h0
    refine x_iconst (v := 0) C d_Model_has_13 (by decide) ?_
    exact x_lv C [] rfl (b_Model_has_14 C hr hk hd hR h0)
  · replace h0 := xit q1 h0
    refine x_iconst (v := 1) C d_Model_has_9 (by decide) ?_
    refine x_goto C 14 d_Model_has_10 (by decide) ?_
    exact x_lv C [] rfl (b_Model_has_14 C hr hk hd hR h0)
-- LostPlacesModel.isAmong(Ljava/lang/String;I)Z
theorem d_Model_isAmong_0 : decode prog_14_method_5_code 0 = .ok (.iconst 0, 1) := by decide +kernel
theorem d_Model_isAmong_1 : decode prog_14_method_5_code 1 = .ok (.istore_n 2, 1) := by decide +kernel
theorem d_Model_isAmong_2 : decode prog_14_method_5_code 2 = .ok (.iload_n 2, 1) := by decide +kernel
theorem d_Model_isAmong_3 : decode prog_14_method_5_code 3 = .ok (.aload_n 0, 1) := by decide +kernel
theorem d_Model_isAmong_4 : decode prog_14_method_5_code 4 = .ok (.invokevirtual 117, 3) := by decide +kernel
theorem d_Model_isAmong_7 : decode prog_14_method_5_code 7 = .ok (.if_icmp .ge 20, 3) := by decide +kernel
theorem d_Model_isAmong_10 : decode prog_14_method_5_code 10 = .ok (.aload_n 0, 1) := by decide +kernel
theorem d_Model_isAmong_11 : decode prog_14_method_5_code 11 = .ok (.iload_n 2, 1) := by decide +kernel
theorem d_Model_isAmong_12 : decode prog_14_method_5_code 12 = .ok (.invokevirtual 123, 3) := by decide +kernel
theorem d_Model_isAmong_15 : decode prog_14_method_5_code 15 = .ok (.iload_n 1, 1) := by decide +kernel
theorem d_Model_isAmong_16 : decode prog_14_method_5_code 16 = .ok (.if_icmp .ne 5, 3) := by decide +kernel
theorem d_Model_isAmong_19 : decode prog_14_method_5_code 19 = .ok (.iconst 1, 1) := by decide +kernel
theorem d_Model_isAmong_20 : decode prog_14_method_5_code 20 = .ok (.ireturn, 1) := by decide +kernel
theorem d_Model_isAmong_21 : decode prog_14_method_5_code 21 = .ok (.iinc 2 1, 3) := by decide +kernel
theorem d_Model_isAmong_24 : decode prog_14_method_5_code 24 = .ok (.goto (-22), 3) := by decide +kernel
theorem d_Model_isAmong_27 : decode prog_14_method_5_code 27 = .ok (.iconst 0, 1) := by decide +kernel
theorem d_Model_isAmong_28 : decode prog_14_method_5_code 28 = .ok (.ireturn, 1) := by decide +kernel
def s_Model_isAmong_2_b (p0 : Nat) (p1 : Int32) (rec2 : Int32 → LH → Option (Int32 × LH)) (y2 : Int32) (σ : LH) : Option (Int32 × LH) :=
  if (js_len p0) ≤ y2 then (
   some (0, σ))
  else (
   if ib y2 (xlen.getD p0 0) then (
   if (js_at p0 y2) = p1 then (
    some (1, σ))
   else (
    xl ((y2 + 1) : Int32) fun x4 =>
    rec2 x4 σ)) else none)
def s_Model_isAmong_2 (p0 : Nat) (p1 : Int32) : Nat → Int32 → LH → Option (Int32 × LH)
  | 0, _, _ => none
  | n + 1, y2, σ => s_Model_isAmong_2_b p0 p1 (s_Model_isAmong_2 p0 p1 n) y2 σ
theorem bb_Model_isAmong_2 {G : XG} {l : Launch} {p : Program} {e : Env} {R : Room} {s : State} {m : MethodId} {args : Array Value} {below : List Frame} {meth : Method} {c : Code} (C : XC G 570 598 p s m args c prog_14_method_5_code 3 R_Model) (hr : meth.sig.returnType = (some .boolean)) (hk : meth.locks = false) {d : Nat} (hd : 9 ≤ d + 1) (hR : xroom R (d + 1)) {p0 : Nat} {p1 : Int32} (hp0 : p0 < 10) {rec2 : Int32 → LH → Option (Int32 × LH)} {σ' : LH} {r : Int32} (hrec2 : ∀ (y2 : Int32) (σ : LH), rec2 y2 σ = some (r, σ') → XJ G 570 598 p l e R s m args below meth c 3 (XQ G 570 598 below args s (some (.int r)) σ') 0 0 2 [(0, .ref (G.2.2.2.1 p0)), (1, .int p1), (2, .int y2)] [] σ) {y2 : Int32} {σ : LH} (h0 : s_Model_isAmong_2_b p0 p1 rec2 y2 σ = some (r, σ')) : XJ G 570 598 p l e R s m args below meth c 3 (XQ G 570 598 below args s (some (.int r)) σ') 0 0 2 [(0, .ref (G.2.2.2.1 p0)), (1, .int p1), (2, .int y2)] [] σ := by
  replace h0 := (show _ = _ from h0)
  unfold s_Model_isAmong_2_b at h0
  refine x_iload_n C d_Model_isAmong_2 2 rfl ?_
  refine x_aload_n C d_Model_isAmong_3 0 rfl ?_
  refine x_sLen C (xroomS hR (by omega)) hp0 w_1725 (Nat.le_of_ble_eq_true rfl) ⟨Nat.zero_le _, Nat.zero_le _⟩ d_Model_isAmong_4 ?_
  refine x_icmp_ge C 27 d_Model_isAmong_7 (by decide) (fun q1 => ?_) (fun q1 => ?_)
  · replace h0 := xit q1 h0
    refine x_iconst (v := 0) C d_Model_isAmong_27 (by decide) ?_
    exact x_zret C hr hk (by decide) h0 d_Model_isAmong_28
  · replace h0 := xif q1 h0
    refine x_aload_n C d_Model_isAmong_10 0 rfl ?_
    refine x_iload_n C d_Model_isAmong_11 2 rfl ?_
    obtain ⟨g2, h0⟩ := xgo h0
    refine x_sAt C (xroomS hR (by omega)) hp0 g2 w_1729 (Nat.le_of_ble_eq_true rfl) ⟨Nat.zero_le _, Nat.zero_le _⟩ d_Model_isAmong_12 ?_
    refine x_iload_n C d_Model_isAmong_15 1 rfl ?_
    refine x_icmp_ne C 21 d_Model_isAmong_16 (by decide) (fun q3 => ?_) (fun q3 => ?_)
    · replace h0 := xif q3 h0
      obtain ⟨x4, ex4, h0⟩ := xlet h0
      refine x_iinc (lv' := [(2, .int x4), (0, .ref (G.2.2.2.1 p0)), (1, .int p1)]) C d_Model_isAmong_21 2 rfl ex4 (by decide) rfl ?_
      refine x_goto C 2 d_Model_isAmong_24 (by decide) ?_
      exact x_lv C [1, 2, 0] rfl (hrec2 _ _ h0)
    · replace h0 := xit q3 h0
      refine x_iconst (v := 1) C d_Model_isAmong_19 (by decide) ?_
      exact x_zret C hr hk (by decide) h0 d_Model_isAmong_20
theorem b_Model_isAmong_2 {G : XG} {l : Launch} {p : Program} {e : Env} {R : Room} {s : State} {m : MethodId} {args : Array Value} {below : List Frame} {meth : Method} {c : Code} (C : XC G 570 598 p s m args c prog_14_method_5_code 3 R_Model) (hr : meth.sig.returnType = (some .boolean)) (hk : meth.locks = false) {d : Nat} (hd : 9 ≤ d + 1) (hR : xroom R (d + 1)) {p0 : Nat} {p1 : Int32} (hp0 : p0 < 10) {σ' : LH} {r : Int32} : ∀ (n : Nat) (y2 : Int32) (σ : LH), s_Model_isAmong_2 p0 p1 n y2 σ = some (r, σ') → XJ G 570 598 p l e R s m args below meth c 3 (XQ G 570 598 below args s (some (.int r)) σ') 0 0 2 [(0, .ref (G.2.2.2.1 p0)), (1, .int p1), (2, .int y2)] [] σ := by
  intro n
  induction n with
  | zero => intro y2 σ h0; cases h0
  | succ n ih => intro y2 σ h0; exact bb_Model_isAmong_2 C hr hk hd hR hp0 ih h0
def s_Model_isAmong (p0 : Nat) (p1 : Int32) (σ : LH) : Option (Int32 × LH) :=
  s_Model_isAmong_2 p0 p1 FUEL 0 σ
theorem c_Model_isAmong {G : XG} {l : Launch} {d : Nat} (hd : 9 ≤ d) {p0 : Nat} {p1 : Int32} (hp0 : p0 < 10) {σ σ' : LH} {r : Int32} (h0 : s_Model_isAmong p0 p1 σ = some (r, σ')) : xM G 570 598 l y_Model_isAmong prog_14_method_5_code 3 (some .boolean) d [.ref (G.2.2.2.1 p0), .int p1] σ (some (.int r)) σ' := by
  obtain ⟨d, rfl⟩ : ∃ q, d = q + 1 := ⟨d - 1, by omega⟩
  refine x_met R_Model rfl (by decide +kernel) (Nat.le_of_ble_eq_true rfl) fun p e s m below meth c C hr hk hR => ?_
  refine x_lv (lv' := [(0, .ref (G.2.2.2.1 p0)), (1, .int p1)]) C [0, 1] rfl ?_
  generalize xrm (d + 1) = R at hR ⊢
  unfold s_Model_isAmong at h0
  refine x_iconst (v := 0) C d_Model_isAmong_0 (by decide) ?_
  refine x_istore_n (lv' := [(2, .int 0), (0, .ref (G.2.2.2.1 p0)), (1, .int p1)]) C d_Model_isAmong_1 rfl (by decide) rfl ?_
  exact x_lv C [1, 2, 0] rfl (b_Model_isAmong_2 C hr hk hd hR hp0 FUEL _ _ h0)
-- LostPlacesModel.bytesIn(I)I
theorem d_Model_bytesIn_0 : decode prog_14_method_6_code 0 = .ok (.iconst 0, 1) := by decide +kernel
theorem d_Model_bytesIn_1 : decode prog_14_method_6_code 1 = .ok (.istore_n 1, 1) := by decide +kernel
theorem d_Model_bytesIn_2 : decode prog_14_method_6_code 2 = .ok (.bipush 24, 2) := by decide +kernel
theorem d_Model_bytesIn_4 : decode prog_14_method_6_code 4 = .ok (.istore_n 2, 1) := by decide +kernel
theorem d_Model_bytesIn_5 : decode prog_14_method_6_code 5 = .ok (.iload_n 2, 1) := by decide +kernel
theorem d_Model_bytesIn_6 : decode prog_14_method_6_code 6 = .ok (.ifCond .lt 27, 3) := by decide +kernel
theorem d_Model_bytesIn_9 : decode prog_14_method_6_code 9 = .ok (.iload_n 1, 1) := by decide +kernel
theorem d_Model_bytesIn_10 : decode prog_14_method_6_code 10 = .ok (.iload_n 0, 1) := by decide +kernel
theorem d_Model_bytesIn_11 : decode prog_14_method_6_code 11 = .ok (.iload_n 2, 1) := by decide +kernel
theorem d_Model_bytesIn_12 : decode prog_14_method_6_code 12 = .ok (.ishr, 1) := by decide +kernel
theorem d_Model_bytesIn_13 : decode prog_14_method_6_code 13 = .ok (.sipush 255, 3) := by decide +kernel
theorem d_Model_bytesIn_16 : decode prog_14_method_6_code 16 = .ok (.iand, 1) := by decide +kernel
theorem d_Model_bytesIn_17 : decode prog_14_method_6_code 17 = .ok (.ifCond .eq 7, 3) := by decide +kernel
theorem d_Model_bytesIn_20 : decode prog_14_method_6_code 20 = .ok (.iconst 1, 1) := by decide +kernel
theorem d_Model_bytesIn_21 : decode prog_14_method_6_code 21 = .ok (.goto 4, 3) := by decide +kernel
theorem d_Model_bytesIn_24 : decode prog_14_method_6_code 24 = .ok (.iconst 0, 1) := by decide +kernel
theorem d_Model_bytesIn_25 : decode prog_14_method_6_code 25 = .ok (.iadd, 1) := by decide +kernel
theorem d_Model_bytesIn_26 : decode prog_14_method_6_code 26 = .ok (.istore_n 1, 1) := by decide +kernel
theorem d_Model_bytesIn_27 : decode prog_14_method_6_code 27 = .ok (.iinc 2 (-8), 3) := by decide +kernel
theorem d_Model_bytesIn_30 : decode prog_14_method_6_code 30 = .ok (.goto (-25), 3) := by decide +kernel
theorem d_Model_bytesIn_33 : decode prog_14_method_6_code 33 = .ok (.iload_n 1, 1) := by decide +kernel
theorem d_Model_bytesIn_34 : decode prog_14_method_6_code 34 = .ok (.ireturn, 1) := by decide +kernel
def s_Model_bytesIn_25 (p0 : Int32) (rec5 : Int32 → Int32 → LH → Option (Int32 × LH)) (y2 : Int32) (z0 : Int32) (z1 : Int32) (σ : LH) : Option (Int32 × LH) :=
  xl (((z0 + z1)) : Int32) fun x3 =>
  xl ((y2 + (-8)) : Int32) fun x4 =>
  rec5 x3 x4 σ
theorem b_Model_bytesIn_25 {G : XG} {l : Launch} {p : Program} {e : Env} {R : Room} {s : State} {m : MethodId} {args : Array Value} {below : List Frame} {meth : Method} {c : Code} (C : XC G 570 598 p s m args c prog_14_method_6_code 3 R_Model) (hr : meth.sig.returnType = (some .int)) (hk : meth.locks = false) {d : Nat} (hd : 1 ≤ d + 1) (hR : xroom R (d + 1)) {p0 : Int32} {rec5 : Int32 → Int32 → LH → Option (Int32 × LH)} {σ' : LH} {r : Int32} (hrec5 : ∀ (y1 : Int32) (y2 : Int32) (σ : LH), rec5 y1 y2 σ = some (r, σ') → XJ G 570 598 p l e R s m args below meth c 3 (XQ G 570 598 below args s (some (.int r)) σ') 0 0 5 [(0, .int p0), (1, .int y1), (2, .int y2)] [] σ) {y2 : Int32} {z0 : Int32} {z1 : Int32} {σ : LH} (h0 : s_Model_bytesIn_25 p0 rec5 y2 z0 z1 σ = some (r, σ')) : XJ G 570 598 p l e R s m args below meth c 3 (XQ G 570 598 below args s (some (.int r)) σ') 0 0 25 [(0, .int p0), (2, .int y2)] [.int z1, .int z0] σ := by
  replace h0 := (show _ = _ from h0)
  unfold s_Model_bytesIn_25 at h0
  refine x_iadd C d_Model_bytesIn_25 ?_
  obtain ⟨x3, ex3, h0⟩ := xlet h0
  refine x_name C ex3 ?_
  refine x_istore_n (lv' := [(1, .int x3), (0, .int p0), (2, .int y2)]) C d_Model_bytesIn_26 rfl (by decide) rfl ?_
  obtain ⟨x4, ex4, h0⟩ := xlet h0
  refine x_iinc (lv' := [(2, .int x4), (1, .int x3), (0, .int p0)]) C d_Model_bytesIn_27 2 rfl ex4 (by decide) rfl ?_
  refine x_goto C 5 d_Model_bytesIn_30 (by decide) ?_
  exact x_lv C [2, 1, 0] rfl (hrec5 _ _ _ h0)
def s_Model_bytesIn_5_b (p0 : Int32) (rec5 : Int32 → Int32 → LH → Option (Int32 × LH)) (y1 : Int32) (y2 : Int32) (σ : LH) : Option (Int32 × LH) :=
  if y2 < 0 then (
   some (y1, σ))
  else (
   if ((p0 >>> (y2 &&& 31)) &&& 255) = 0 then (
    s_Model_bytesIn_25 p0 rec5 y2 y1 0 σ)
   else (
    s_Model_bytesIn_25 p0 rec5 y2 y1 1 σ))
def s_Model_bytesIn_5 (p0 : Int32) : Nat → Int32 → Int32 → LH → Option (Int32 × LH)
  | 0, _, _, _ => none
  | n + 1, y1, y2, σ => s_Model_bytesIn_5_b p0 (s_Model_bytesIn_5 p0 n) y1 y2 σ
theorem bb_Model_bytesIn_5 {G : XG} {l : Launch} {p : Program} {e : Env} {R : Room} {s : State} {m : MethodId} {args : Array Value} {below : List Frame} {meth : Method} {c : Code} (C : XC G 570 598 p s m args c prog_14_method_6_code 3 R_Model) (hr : meth.sig.returnType = (some .int)) (hk : meth.locks = false) {d : Nat} (hd : 1 ≤ d + 1) (hR : xroom R (d + 1)) {p0 : Int32} {rec5 : Int32 → Int32 → LH → Option (Int32 × LH)} {σ' : LH} {r : Int32} (hrec5 : ∀ (y1 : Int32) (y2 : Int32) (σ : LH), rec5 y1 y2 σ = some (r, σ') → XJ G 570 598 p l e R s m args below meth c 3 (XQ G 570 598 below args s (some (.int r)) σ') 0 0 5 [(0, .int p0), (1, .int y1), (2, .int y2)] [] σ) {y1 : Int32} {y2 : Int32} {σ : LH} (h0 : s_Model_bytesIn_5_b p0 rec5 y1 y2 σ = some (r, σ')) : XJ G 570 598 p l e R s m args below meth c 3 (XQ G 570 598 below args s (some (.int r)) σ') 0 0 5 [(0, .int p0), (1, .int y1), (2, .int y2)] [] σ := by
  replace h0 := (show _ = _ from h0)
  unfold s_Model_bytesIn_5_b at h0
  refine x_iload_n C d_Model_bytesIn_5 2 rfl ?_
  refine x_if_lt C 33 d_Model_bytesIn_6 (by decide) (fun q1 => ?_) (fun q1 => ?_)
  · replace h0 := xit q1 h0
    refine x_iload_n C d_Model_bytesIn_33 1 rfl ?_
    exact x_iret C hr hk h0 d_Model_bytesIn_34
  · replace h0 := xif q1 h0
    refine x_iload_n C d_Model_bytesIn_9 1 rfl ?_
    refine x_iload_n C d_Model_bytesIn_10 0 rfl ?_
    refine x_iload_n C d_Model_bytesIn_11 2 rfl ?_
    refine x_ishr C d_Model_bytesIn_12 ?_
    refine x_sipush (v := 255) C d_Model_bytesIn_13 (by decide) ?_
    refine x_iand C d_Model_bytesIn_16 ?_
    refine x_if_eq C 24 d_Model_bytesIn_17 (by decide) (fun q2 => ?_) (fun q2 => ?_)
    · replace h0 := xit q2 h0
      refine x_iconst (v := 0) C d_Model_bytesIn_24 (by decide) ?_
      exact x_lv C [0, 2] rfl (b_Model_bytesIn_25 C hr hk hd hR hrec5 h0)
    · replace h0 := xif q2 h0
      refine x_iconst (v := 1) C d_Model_bytesIn_20 (by decide) ?_
      refine x_goto C 25 d_Model_bytesIn_21 (by decide) ?_
      exact x_lv C [0, 2] rfl (b_Model_bytesIn_25 C hr hk hd hR hrec5 h0)
theorem b_Model_bytesIn_5 {G : XG} {l : Launch} {p : Program} {e : Env} {R : Room} {s : State} {m : MethodId} {args : Array Value} {below : List Frame} {meth : Method} {c : Code} (C : XC G 570 598 p s m args c prog_14_method_6_code 3 R_Model) (hr : meth.sig.returnType = (some .int)) (hk : meth.locks = false) {d : Nat} (hd : 1 ≤ d + 1) (hR : xroom R (d + 1)) {p0 : Int32} {σ' : LH} {r : Int32} : ∀ (n : Nat) (y1 : Int32) (y2 : Int32) (σ : LH), s_Model_bytesIn_5 p0 n y1 y2 σ = some (r, σ') → XJ G 570 598 p l e R s m args below meth c 3 (XQ G 570 598 below args s (some (.int r)) σ') 0 0 5 [(0, .int p0), (1, .int y1), (2, .int y2)] [] σ := by
  intro n
  induction n with
  | zero => intro y1 y2 σ h0; cases h0
  | succ n ih => intro y1 y2 σ h0; exact bb_Model_bytesIn_5 C hr hk hd hR ih h0
def s_Model_bytesIn (p0 : Int32) (σ : LH) : Option (Int32 × LH) :=
  s_Model_bytesIn_5 p0 FUEL 0 24 σ
theorem c_Model_bytesIn {G : XG} {l : Launch} {d : Nat} (hd : 1 ≤ d) {p0 : Int32} {σ σ' : LH} {r : Int32} (h0 : s_Model_bytesIn p0 σ = some (r, σ')) : xM G 570 598 l y_Model_bytesIn prog_14_method_6_code 3 (some .int) d [.int p0] σ (some (.int r)) σ' := by
  obtain ⟨d, rfl⟩ : ∃ q, d = q + 1 := ⟨d - 1, by omega⟩
  refine x_met R_Model rfl (by decide +kernel) (Nat.le_of_ble_eq_true rfl) fun p e s m below meth c C hr hk hR => ?_
  refine x_lv (lv' := [(0, .int p0)]) C [0] rfl ?_
  generalize xrm (d + 1) = R at hR ⊢
  unfold s_Model_bytesIn at h0
  refine x_iconst (v := 0) C d_Model_bytesIn_0 (by decide) ?_
  refine x_istore_n (lv' := [(1, .int 0), (0, .int p0)]) C d_Model_bytesIn_1 rfl (by decide) rfl ?_
  refine x_bipush (v := 24) C d_Model_bytesIn_2 (by decide) ?_
  refine x_istore_n (lv' := [(2, .int 24), (1, .int 0), (0, .int p0)]) C d_Model_bytesIn_4 rfl (by decide) rfl ?_
  exact x_lv C [2, 1, 0] rfl (b_Model_bytesIn_5 C hr hk hd hR FUEL _ _ _ h0)
-- LostPlacesModel.put(I)V
theorem d_Model_put_0 : decode prog_14_method_7_code 0 = .ok (.bipush 24, 2) := by decide +kernel
theorem d_Model_put_2 : decode prog_14_method_7_code 2 = .ok (.istore_n 2, 1) := by decide +kernel
theorem d_Model_put_3 : decode prog_14_method_7_code 3 = .ok (.iload_n 2, 1) := by decide +kernel
theorem d_Model_put_4 : decode prog_14_method_7_code 4 = .ok (.ifCond .lt 45, 3) := by decide +kernel
theorem d_Model_put_7 : decode prog_14_method_7_code 7 = .ok (.iload_n 1, 1) := by decide +kernel
theorem d_Model_put_8 : decode prog_14_method_7_code 8 = .ok (.iload_n 2, 1) := by decide +kernel
theorem d_Model_put_9 : decode prog_14_method_7_code 9 = .ok (.ishr, 1) := by decide +kernel
theorem d_Model_put_10 : decode prog_14_method_7_code 10 = .ok (.sipush 255, 3) := by decide +kernel
theorem d_Model_put_13 : decode prog_14_method_7_code 13 = .ok (.iand, 1) := by decide +kernel
theorem d_Model_put_14 : decode prog_14_method_7_code 14 = .ok (.ifCond .ne 6, 3) := by decide +kernel
theorem d_Model_put_17 : decode prog_14_method_7_code 17 = .ok (.goto 26, 3) := by decide +kernel
theorem d_Model_put_20 : decode prog_14_method_7_code 20 = .ok (.aload_n 0, 1) := by decide +kernel
theorem d_Model_put_21 : decode prog_14_method_7_code 21 = .ok (.getfield 9, 3) := by decide +kernel
theorem d_Model_put_24 : decode prog_14_method_7_code 24 = .ok (.aload_n 0, 1) := by decide +kernel
theorem d_Model_put_25 : decode prog_14_method_7_code 25 = .ok (.getfield 127, 3) := by decide +kernel
theorem d_Model_put_28 : decode prog_14_method_7_code 28 = .ok (.iload_n 1, 1) := by decide +kernel
theorem d_Model_put_29 : decode prog_14_method_7_code 29 = .ok (.iload_n 2, 1) := by decide +kernel
theorem d_Model_put_30 : decode prog_14_method_7_code 30 = .ok (.ishr, 1) := by decide +kernel
theorem d_Model_put_31 : decode prog_14_method_7_code 31 = .ok (.i2b, 1) := by decide +kernel
theorem d_Model_put_32 : decode prog_14_method_7_code 32 = .ok (.bastore, 1) := by decide +kernel
theorem d_Model_put_33 : decode prog_14_method_7_code 33 = .ok (.aload_n 0, 1) := by decide +kernel
theorem d_Model_put_34 : decode prog_14_method_7_code 34 = .ok (.dup, 1) := by decide +kernel
theorem d_Model_put_35 : decode prog_14_method_7_code 35 = .ok (.getfield 127, 3) := by decide +kernel
theorem d_Model_put_38 : decode prog_14_method_7_code 38 = .ok (.iconst 1, 1) := by decide +kernel
theorem d_Model_put_39 : decode prog_14_method_7_code 39 = .ok (.iadd, 1) := by decide +kernel
theorem d_Model_put_40 : decode prog_14_method_7_code 40 = .ok (.putfield 127, 3) := by decide +kernel
theorem d_Model_put_43 : decode prog_14_method_7_code 43 = .ok (.iinc 2 (-8), 3) := by decide +kernel
theorem d_Model_put_46 : decode prog_14_method_7_code 46 = .ok (.goto (-43), 3) := by decide +kernel
theorem d_Model_put_49 : decode prog_14_method_7_code 49 = .ok (.return_, 1) := by decide +kernel
def s_Model_put_43 (p0 : Int32) (rec3 : Int32 → LH → Option (LH)) (y2 : Int32) (σ : LH) : Option (LH) :=
  xl ((y2 + (-8)) : Int32) fun x3 =>
  rec3 x3 σ
theorem b_Model_put_43 {G : XG} {l : Launch} {p : Program} {e : Env} {R : Room} {s : State} {m : MethodId} {args : Array Value} {below : List Frame} {meth : Method} {c : Code} (C : XC G 570 598 p s m args c prog_14_method_7_code 3 R_Model) (hr : meth.sig.returnType = none) (hk : meth.locks = false) {d : Nat} (hd : 1 ≤ d + 1) (hR : xroom R (d + 1)) {p0 : Int32} {rec3 : Int32 → LH → Option (LH)} {σ' : LH} (hrec3 : ∀ (y2 : Int32) (σ : LH), rec3 y2 σ = some σ' → XJ G 570 598 p l e R s m args below meth c 3 (XQ G 570 598 below args s none σ') 0 0 3 [(0, .ref (G.2.2.1 + 570)), (1, .int p0), (2, .int y2)] [] σ) {y2 : Int32} {σ : LH} (h0 : s_Model_put_43 p0 rec3 y2 σ = some σ') : XJ G 570 598 p l e R s m args below meth c 3 (XQ G 570 598 below args s none σ') 0 0 43 [(0, .ref (G.2.2.1 + 570)), (1, .int p0), (2, .int y2)] [] σ := by
  replace h0 := (show _ = _ from h0)
  unfold s_Model_put_43 at h0
  obtain ⟨x3, ex3, h0⟩ := xlet h0
  refine x_iinc (lv' := [(2, .int x3), (0, .ref (G.2.2.1 + 570)), (1, .int p0)]) C d_Model_put_43 2 rfl ex3 (by decide) rfl ?_
  refine x_goto C 3 d_Model_put_46 (by decide) ?_
  exact x_lv C [1, 2, 0] rfl (hrec3 _ _ h0)
def s_Model_put_3_b (p0 : Int32) (rec3 : Int32 → LH → Option (LH)) (y2 : Int32) (σ : LH) : Option (LH) :=
  if y2 < 0 then (
   some σ)
  else (
   if ((p0 >>> (y2 &&& 31)) &&& 255) = 0 then (
    s_Model_put_43 p0 rec3 y2 σ)
   else (
    if ib (σ.1 570 6) 240 then (
    xl ((stI σ 571 (Int32.toNatClampNeg (σ.1 570 6)) (vp_nar .byte ((Int32.toInt8 (p0 >>> (y2 &&& 31))).toInt32))) : LH) fun σ5 =>
    xl ((stI σ5 570 6 ((σ5.1 570 6) + 1)) : LH) fun σ6 =>
    s_Model_put_43 p0 rec3 y2 σ6) else none))
def s_Model_put_3 (p0 : Int32) : Nat → Int32 → LH → Option (LH)
  | 0, _, _ => none
  | n + 1, y2, σ => s_Model_put_3_b p0 (s_Model_put_3 p0 n) y2 σ
theorem bb_Model_put_3 {G : XG} {l : Launch} {p : Program} {e : Env} {R : Room} {s : State} {m : MethodId} {args : Array Value} {below : List Frame} {meth : Method} {c : Code} (C : XC G 570 598 p s m args c prog_14_method_7_code 3 R_Model) (hr : meth.sig.returnType = none) (hk : meth.locks = false) {d : Nat} (hd : 1 ≤ d + 1) (hR : xroom R (d + 1)) {p0 : Int32} {rec3 : Int32 → LH → Option (LH)} {σ' : LH} (hrec3 : ∀ (y2 : Int32) (σ : LH), rec3 y2 σ = some σ' → XJ G 570 598 p l e R s m args below meth c 3 (XQ G 570 598 below args s none σ') 0 0 3 [(0, .ref (G.2.2.1 + 570)), (1, .int p0), (2, .int y2)] [] σ) {y2 : Int32} {σ : LH} (h0 : s_Model_put_3_b p0 rec3 y2 σ = some σ') : XJ G 570 598 p l e R s m args below meth c 3 (XQ G 570 598 below args s none σ') 0 0 3 [(0, .ref (G.2.2.1 + 570)), (1, .int p0), (2, .int y2)] [] σ := by
  replace h0 := (show _ = _ from h0)
  unfold s_Model_put_3_b at h0
  refine x_iload_n C d_Model_put_3 2 rfl ?_
  refine x_if_lt C 49 d_Model_put_4 (by decide) (fun q1 => ?_) (fun q1 => ?_)
  · replace h0 := xit q1 h0
    exact x_vret C hr hk h0 d_Model_put_49
  · replace h0 := xif q1 h0
    refine x_iload_n C d_Model_put_7 1 rfl ?_
    refine x_iload_n C d_Model_put_8 2 rfl ?_
    refine x_ishr C d_Model_put_9 ?_
    refine x_sipush (v := 255) C d_Model_put_10 (by decide) ?_
    refine x_iand C d_Model_put_13 ?_
    refine x_if_ne C 20 d_Model_put_14 (by decide) (fun q2 => ?_) (fun q2 => ?_)
    · replace h0 := xif q2 h0
      refine x_aload_n C d_Model_put_20 0 rfl ?_
      refine x_getA (y := 571) C fg_Model_9 k_570 rfl d_Model_put_21 ?_
      refine x_aload_n C d_Model_put_24 0 rfl ?_
      refine x_getI (y := 0) C fg_Model_127 k_570 rfl d_Model_put_25 ?_
      refine x_iload_n C d_Model_put_28 1 rfl ?_
      refine x_iload_n C d_Model_put_29 2 rfl ?_
      refine x_ishr C d_Model_put_30 ?_
      refine x_i2b C d_Model_put_31 ?_
      obtain ⟨g4, h0⟩ := xgo h0
      refine x_bast C k_571 (ib_in g4) d_Model_put_32 ?_
      obtain ⟨σ5, eσ5, h0⟩ := xlet h0
      refine x_sig C eσ5 ?_
      refine x_aload_n C d_Model_put_33 0 rfl ?_
      refine x_dup C d_Model_put_34 rfl ?_
      refine x_getI (y := 0) C fg_Model_127 k_570 rfl d_Model_put_35 ?_
      refine x_iconst (v := 1) C d_Model_put_38 (by decide) ?_
      refine x_iadd C d_Model_put_39 ?_
      refine x_putI (y := 0) C fp_Model_127 k_570 rfl rfl rfl d_Model_put_40 ?_
      obtain ⟨σ6, eσ6, h0⟩ := xlet h0
      refine x_sig C eσ6 ?_
      exact x_lv C [0, 1, 2] rfl (b_Model_put_43 C hr hk hd hR hrec3 h0)
    · replace h0 := xit q2 h0
      refine x_goto C 43 d_Model_put_17 (by decide) ?_
      exact x_lv C [0, 1, 2] rfl (b_Model_put_43 C hr hk hd hR hrec3 h0)
theorem b_Model_put_3 {G : XG} {l : Launch} {p : Program} {e : Env} {R : Room} {s : State} {m : MethodId} {args : Array Value} {below : List Frame} {meth : Method} {c : Code} (C : XC G 570 598 p s m args c prog_14_method_7_code 3 R_Model) (hr : meth.sig.returnType = none) (hk : meth.locks = false) {d : Nat} (hd : 1 ≤ d + 1) (hR : xroom R (d + 1)) {p0 : Int32} {σ' : LH} : ∀ (n : Nat) (y2 : Int32) (σ : LH), s_Model_put_3 p0 n y2 σ = some σ' → XJ G 570 598 p l e R s m args below meth c 3 (XQ G 570 598 below args s none σ') 0 0 3 [(0, .ref (G.2.2.1 + 570)), (1, .int p0), (2, .int y2)] [] σ := by
  intro n
  induction n with
  | zero => intro y2 σ h0; cases h0
  | succ n ih => intro y2 σ h0; exact bb_Model_put_3 C hr hk hd hR ih h0
def s_Model_put (p0 : Int32) (σ : LH) : Option (LH) :=
  s_Model_put_3 p0 FUEL 24 σ
theorem c_Model_put {G : XG} {l : Launch} {d : Nat} (hd : 1 ≤ d) {p0 : Int32} {σ σ' : LH} (h0 : s_Model_put p0 σ = some σ') : xM G 570 598 l y_Model_put prog_14_method_7_code 3 none d [.ref (G.2.2.1 + 570), .int p0] σ none σ' := by
  obtain ⟨d, rfl⟩ : ∃ q, d = q + 1 := ⟨d - 1, by omega⟩
  refine x_met R_Model rfl (by decide +kernel) (Nat.le_of_ble_eq_true rfl) fun p e s m below meth c C hr hk hR => ?_
  refine x_lv (lv' := [(0, .ref (G.2.2.1 + 570)), (1, .int p0)]) C [0, 1] rfl ?_
  generalize xrm (d + 1) = R at hR ⊢
  unfold s_Model_put at h0
  refine x_bipush (v := 24) C d_Model_put_0 (by decide) ?_
  refine x_istore_n (lv' := [(2, .int 24), (0, .ref (G.2.2.1 + 570)), (1, .int p0)]) C d_Model_put_2 rfl (by decide) rfl ?_
  exact x_lv C [1, 2, 0] rfl (b_Model_put_3 C hr hk hd hR FUEL _ _ h0)
-- LostPlacesModel.feed(IIIII)I
theorem d_Model_feed_0 : decode prog_14_method_8_code 0 = .ok (.aload_n 0, 1) := by decide +kernel
theorem d_Model_feed_1 : decode prog_14_method_8_code 1 = .ok (.iconst 0, 1) := by decide +kernel
theorem d_Model_feed_2 : decode prog_14_method_8_code 2 = .ok (.putfield 114, 3) := by decide +kernel
theorem d_Model_feed_5 : decode prog_14_method_8_code 5 = .ok (.aload_n 0, 1) := by decide +kernel
theorem d_Model_feed_6 : decode prog_14_method_8_code 6 = .ok (.getfield 127, 3) := by decide +kernel
theorem d_Model_feed_9 : decode prog_14_method_8_code 9 = .ok (.iload_n 1, 1) := by decide +kernel
theorem d_Model_feed_10 : decode prog_14_method_8_code 10 = .ok (.invokestatic 129, 3) := by decide +kernel
theorem d_Model_feed_13 : decode prog_14_method_8_code 13 = .ok (.iadd, 1) := by decide +kernel
theorem d_Model_feed_14 : decode prog_14_method_8_code 14 = .ok (.iload_n 2, 1) := by decide +kernel
theorem d_Model_feed_15 : decode prog_14_method_8_code 15 = .ok (.invokestatic 129, 3) := by decide +kernel
theorem d_Model_feed_18 : decode prog_14_method_8_code 18 = .ok (.iadd, 1) := by decide +kernel
theorem d_Model_feed_19 : decode prog_14_method_8_code 19 = .ok (.iload_n 3, 1) := by decide +kernel
theorem d_Model_feed_20 : decode prog_14_method_8_code 20 = .ok (.invokestatic 129, 3) := by decide +kernel
theorem d_Model_feed_23 : decode prog_14_method_8_code 23 = .ok (.iadd, 1) := by decide +kernel
theorem d_Model_feed_24 : decode prog_14_method_8_code 24 = .ok (.iload 4, 2) := by decide +kernel
theorem d_Model_feed_26 : decode prog_14_method_8_code 26 = .ok (.invokestatic 129, 3) := by decide +kernel
theorem d_Model_feed_29 : decode prog_14_method_8_code 29 = .ok (.iadd, 1) := by decide +kernel
theorem d_Model_feed_30 : decode prog_14_method_8_code 30 = .ok (.iload 5, 2) := by decide +kernel
theorem d_Model_feed_32 : decode prog_14_method_8_code 32 = .ok (.invokestatic 129, 3) := by decide +kernel
theorem d_Model_feed_35 : decode prog_14_method_8_code 35 = .ok (.iadd, 1) := by decide +kernel
theorem d_Model_feed_36 : decode prog_14_method_8_code 36 = .ok (.sipush 240, 3) := by decide +kernel
theorem d_Model_feed_39 : decode prog_14_method_8_code 39 = .ok (.if_icmp .le 5, 3) := by decide +kernel
theorem d_Model_feed_42 : decode prog_14_method_8_code 42 = .ok (.iconst (-1), 1) := by decide +kernel
theorem d_Model_feed_43 : decode prog_14_method_8_code 43 = .ok (.ireturn, 1) := by decide +kernel
theorem d_Model_feed_44 : decode prog_14_method_8_code 44 = .ok (.aload_n 0, 1) := by decide +kernel
theorem d_Model_feed_45 : decode prog_14_method_8_code 45 = .ok (.iload_n 1, 1) := by decide +kernel
theorem d_Model_feed_46 : decode prog_14_method_8_code 46 = .ok (.invokevirtual 133, 3) := by decide +kernel
theorem d_Model_feed_49 : decode prog_14_method_8_code 49 = .ok (.aload_n 0, 1) := by decide +kernel
theorem d_Model_feed_50 : decode prog_14_method_8_code 50 = .ok (.iload_n 2, 1) := by decide +kernel
theorem d_Model_feed_51 : decode prog_14_method_8_code 51 = .ok (.invokevirtual 133, 3) := by decide +kernel
theorem d_Model_feed_54 : decode prog_14_method_8_code 54 = .ok (.aload_n 0, 1) := by decide +kernel
theorem d_Model_feed_55 : decode prog_14_method_8_code 55 = .ok (.iload_n 3, 1) := by decide +kernel
theorem d_Model_feed_56 : decode prog_14_method_8_code 56 = .ok (.invokevirtual 133, 3) := by decide +kernel
theorem d_Model_feed_59 : decode prog_14_method_8_code 59 = .ok (.aload_n 0, 1) := by decide +kernel
theorem d_Model_feed_60 : decode prog_14_method_8_code 60 = .ok (.iload 4, 2) := by decide +kernel
theorem d_Model_feed_62 : decode prog_14_method_8_code 62 = .ok (.invokevirtual 133, 3) := by decide +kernel
theorem d_Model_feed_65 : decode prog_14_method_8_code 65 = .ok (.aload_n 0, 1) := by decide +kernel
theorem d_Model_feed_66 : decode prog_14_method_8_code 66 = .ok (.iload 5, 2) := by decide +kernel
theorem d_Model_feed_68 : decode prog_14_method_8_code 68 = .ok (.invokevirtual 133, 3) := by decide +kernel
theorem d_Model_feed_71 : decode prog_14_method_8_code 71 = .ok (.aload_n 0, 1) := by decide +kernel
theorem d_Model_feed_72 : decode prog_14_method_8_code 72 = .ok (.getfield 127, 3) := by decide +kernel
theorem d_Model_feed_75 : decode prog_14_method_8_code 75 = .ok (.ireturn, 1) := by decide +kernel
def s_Model_feed (p0 : Int32) (p1 : Int32) (p2 : Int32) (p3 : Int32) (p4 : Int32) (σ : LH) : Option (Int32 × LH) :=
  xl ((stI σ 570 0 0) : LH) fun σ1 =>
  xb2 (s_Model_bytesIn p0 σ1) fun r3 σ4 =>
  xb2 (s_Model_bytesIn p1 σ4) fun r6 σ7 =>
  xb2 (s_Model_bytesIn p2 σ7) fun r9 σ10 =>
  xb2 (s_Model_bytesIn p3 σ10) fun r12 σ13 =>
  xb2 (s_Model_bytesIn p4 σ13) fun r15 σ16 =>
  if ((((((σ1.1 570 6) + r3) + r6) + r9) + r12) + r15) ≤ 240 then (
   xb1 (s_Model_put p0 σ16) fun σ19 =>
   xb1 (s_Model_put p1 σ19) fun σ21 =>
   xb1 (s_Model_put p2 σ21) fun σ23 =>
   xb1 (s_Model_put p3 σ23) fun σ25 =>
   xb1 (s_Model_put p4 σ25) fun σ27 =>
   some ((σ27.1 570 6), σ27))
  else (
   some ((-1), σ16))
theorem c_Model_feed {G : XG} {l : Launch} {d : Nat} (hd : 2 ≤ d) {p0 : Int32} {p1 : Int32} {p2 : Int32} {p3 : Int32} {p4 : Int32} {σ σ' : LH} {r : Int32} (h0 : s_Model_feed p0 p1 p2 p3 p4 σ = some (r, σ')) : xM G 570 598 l y_Model_feed prog_14_method_8_code 6 (some .int) d [.ref (G.2.2.1 + 570), .int p0, .int p1, .int p2, .int p3, .int p4] σ (some (.int r)) σ' := by
  obtain ⟨d, rfl⟩ : ∃ q, d = q + 1 := ⟨d - 1, by omega⟩
  refine x_met R_Model rfl (by decide +kernel) (Nat.le_of_ble_eq_true rfl) fun p e s m below meth c C hr hk hR => ?_
  refine x_lv (lv' := [(0, .ref (G.2.2.1 + 570)), (1, .int p0), (2, .int p1), (3, .int p2), (4, .int p3), (5, .int p4)]) C [0, 1, 2, 3, 4, 5] rfl ?_
  generalize xrm (d + 1) = R at hR ⊢
  unfold s_Model_feed at h0
  refine x_aload_n C d_Model_feed_0 0 rfl ?_
  refine x_iconst (v := 0) C d_Model_feed_1 (by decide) ?_
  refine x_putI (y := 0) C fp_Model_114 k_570 rfl rfl rfl d_Model_feed_2 ?_
  obtain ⟨σ1, eσ1, h0⟩ := xlet h0
  refine x_sig C eσ1 ?_
  refine x_aload_n C d_Model_feed_5 0 rfl ?_
  refine x_getI (y := 0) C fg_Model_127 k_570 rfl d_Model_feed_6 ?_
  refine x_iload_n C d_Model_feed_9 1 rfl ?_
  obtain ⟨r3, σ4, k2, h0⟩ := xbind2 h0
  refine x_callSi C hR (c_Model_bytesIn (d := d) (by omega) k2) cw_Model_129 w_1680 rfl rfl (Nat.le_of_ble_eq_true rfl) ⟨Nat.zero_le _, Nat.zero_le _⟩ d_Model_feed_10 ?_
  refine x_iadd C d_Model_feed_13 ?_
  refine x_iload_n C d_Model_feed_14 2 rfl ?_
  obtain ⟨r6, σ7, k5, h0⟩ := xbind2 h0
  refine x_callSi C hR (c_Model_bytesIn (d := d) (by omega) k5) cw_Model_129 w_1680 rfl rfl (Nat.le_of_ble_eq_true rfl) ⟨Nat.zero_le _, Nat.zero_le _⟩ d_Model_feed_15 ?_
  refine x_iadd C d_Model_feed_18 ?_
  refine x_iload_n C d_Model_feed_19 3 rfl ?_
  obtain ⟨r9, σ10, k8, h0⟩ := xbind2 h0
  refine x_callSi C hR (c_Model_bytesIn (d := d) (by omega) k8) cw_Model_129 w_1680 rfl rfl (Nat.le_of_ble_eq_true rfl) ⟨Nat.zero_le _, Nat.zero_le _⟩ d_Model_feed_20 ?_
  refine x_iadd C d_Model_feed_23 ?_
  refine x_iload C d_Model_feed_24 4 rfl ?_
  obtain ⟨r12, σ13, k11, h0⟩ := xbind2 h0
  refine x_callSi C hR (c_Model_bytesIn (d := d) (by omega) k11) cw_Model_129 w_1680 rfl rfl (Nat.le_of_ble_eq_true rfl) ⟨Nat.zero_le _, Nat.zero_le _⟩ d_Model_feed_26 ?_
  refine x_iadd C d_Model_feed_29 ?_
  refine x_iload C d_Model_feed_30 5 rfl ?_
  obtain ⟨r15, σ16, k14, h0⟩ := xbind2 h0
  refine x_callSi C hR (c_Model_bytesIn (d := d) (by omega) k14) cw_Model_129 w_1680 rfl rfl (Nat.le_of_ble_eq_true rfl) ⟨Nat.zero_le _, Nat.zero_le _⟩ d_Model_feed_32 ?_
  refine x_iadd C d_Model_feed_35 ?_
  refine x_sipush (v := 240) C d_Model_feed_36 (by decide) ?_
  refine x_icmp_le C 44 d_Model_feed_39 (by decide) (fun q17 => ?_) (fun q17 => ?_)
  · replace h0 := xit q17 h0
    refine x_aload_n C d_Model_feed_44 0 rfl ?_
    refine x_iload_n C d_Model_feed_45 1 rfl ?_
    obtain ⟨σ19, k18, h0⟩ := xbind1 h0
    refine x_callVv C hR (c_Model_put (d := d) (by omega) k18) cw_Model_133 k_570 rfl rfl rfl (Nat.le_of_ble_eq_true rfl) ⟨Nat.zero_le _, Nat.zero_le _⟩ d_Model_feed_46 ?_
    refine x_aload_n C d_Model_feed_49 0 rfl ?_
    refine x_iload_n C d_Model_feed_50 2 rfl ?_
    obtain ⟨σ21, k20, h0⟩ := xbind1 h0
    refine x_callVv C hR (c_Model_put (d := d) (by omega) k20) cw_Model_133 k_570 rfl rfl rfl (Nat.le_of_ble_eq_true rfl) ⟨Nat.zero_le _, Nat.zero_le _⟩ d_Model_feed_51 ?_
    refine x_aload_n C d_Model_feed_54 0 rfl ?_
    refine x_iload_n C d_Model_feed_55 3 rfl ?_
    obtain ⟨σ23, k22, h0⟩ := xbind1 h0
    refine x_callVv C hR (c_Model_put (d := d) (by omega) k22) cw_Model_133 k_570 rfl rfl rfl (Nat.le_of_ble_eq_true rfl) ⟨Nat.zero_le _, Nat.zero_le _⟩ d_Model_feed_56 ?_
    refine x_aload_n C d_Model_feed_59 0 rfl ?_
    refine x_iload C d_Model_feed_60 4 rfl ?_
    obtain ⟨σ25, k24, h0⟩ := xbind1 h0
    refine x_callVv C hR (c_Model_put (d := d) (by omega) k24) cw_Model_133 k_570 rfl rfl rfl (Nat.le_of_ble_eq_true rfl) ⟨Nat.zero_le _, Nat.zero_le _⟩ d_Model_feed_62 ?_
    refine x_aload_n C d_Model_feed_65 0 rfl ?_
    refine x_iload C d_Model_feed_66 5 rfl ?_
    obtain ⟨σ27, k26, h0⟩ := xbind1 h0
    refine x_callVv C hR (c_Model_put (d := d) (by omega) k26) cw_Model_133 k_570 rfl rfl rfl (Nat.le_of_ble_eq_true rfl) ⟨Nat.zero_le _, Nat.zero_le _⟩ d_Model_feed_68 ?_
    refine x_aload_n C d_Model_feed_71 0 rfl ?_
    refine x_getI (y := 0) C fg_Model_127 k_570 rfl d_Model_feed_72 ?_
    exact x_iret C hr hk h0 d_Model_feed_75
  · replace h0 := xif q17 h0
    refine x_iconst (v := (-1)) C d_Model_feed_42 (by decide) ?_
    exact x_iret C hr hk h0 d_Model_feed_43
-- LostPlacesModel.end(I)Z
theorem d_Model_end_0 : decode prog_14_method_9_code 0 = .ok (.aload_n 0, 1) := by decide +kernel
theorem d_Model_end_1 : decode prog_14_method_9_code 1 = .ok (.iconst 0, 1) := by decide +kernel
theorem d_Model_end_2 : decode prog_14_method_9_code 2 = .ok (.putfield 114, 3) := by decide +kernel
theorem d_Model_end_5 : decode prog_14_method_9_code 5 = .ok (.iload_n 1, 1) := by decide +kernel
theorem d_Model_end_6 : decode prog_14_method_9_code 6 = .ok (.ifCond .lt 11, 3) := by decide +kernel
theorem d_Model_end_9 : decode prog_14_method_9_code 9 = .ok (.iload_n 1, 1) := by decide +kernel
theorem d_Model_end_10 : decode prog_14_method_9_code 10 = .ok (.aload_n 0, 1) := by decide +kernel
theorem d_Model_end_11 : decode prog_14_method_9_code 11 = .ok (.getfield 127, 3) := by decide +kernel
theorem d_Model_end_14 : decode prog_14_method_9_code 14 = .ok (.if_icmp .le 5, 3) := by decide +kernel
theorem d_Model_end_17 : decode prog_14_method_9_code 17 = .ok (.iconst 0, 1) := by decide +kernel
theorem d_Model_end_18 : decode prog_14_method_9_code 18 = .ok (.ireturn, 1) := by decide +kernel
theorem d_Model_end_19 : decode prog_14_method_9_code 19 = .ok (.aload_n 0, 1) := by decide +kernel
theorem d_Model_end_20 : decode prog_14_method_9_code 20 = .ok (.iload_n 1, 1) := by decide +kernel
theorem d_Model_end_21 : decode prog_14_method_9_code 21 = .ok (.putfield 127, 3) := by decide +kernel
theorem d_Model_end_24 : decode prog_14_method_9_code 24 = .ok (.iconst 1, 1) := by decide +kernel
theorem d_Model_end_25 : decode prog_14_method_9_code 25 = .ok (.ireturn, 1) := by decide +kernel
def s_Model_end_17 (p0 : Int32) (σ : LH) : Option (Int32 × LH) :=
  some (0, σ)
theorem b_Model_end_17 {G : XG} {l : Launch} {p : Program} {e : Env} {R : Room} {s : State} {m : MethodId} {args : Array Value} {below : List Frame} {meth : Method} {c : Code} (C : XC G 570 598 p s m args c prog_14_method_9_code 2 R_Model) (hr : meth.sig.returnType = (some .boolean)) (hk : meth.locks = false) {d : Nat} (hd : 1 ≤ d + 1) (hR : xroom R (d + 1)) {p0 : Int32} {σ' : LH} {r : Int32} {σ : LH} (h0 : s_Model_end_17 p0 σ = some (r, σ')) : XJ G 570 598 p l e R s m args below meth c 2 (XQ G 570 598 below args s (some (.int r)) σ') 0 0 17 [] [] σ := by
  replace h0 := (show _ = _ from h0)
  unfold s_Model_end_17 at h0
  refine x_iconst (v := 0) C d_Model_end_17 (by decide) ?_
  exact x_zret C hr hk (by decide) h0 d_Model_end_18
def s_Model_end (p0 : Int32) (σ : LH) : Option (Int32 × LH) :=
  xl ((stI σ 570 0 0) : LH) fun σ1 =>
  if p0 < 0 then (
   s_Model_end_17 p0 σ1)
  else (
   if p0 ≤ (σ1.1 570 6) then (
    xl ((stI σ1 570 6 p0) : LH) fun σ4 =>
    some (1, σ4))
   else (
    s_Model_end_17 p0 σ1))
theorem c_Model_end {G : XG} {l : Launch} {d : Nat} (hd : 1 ≤ d) {p0 : Int32} {σ σ' : LH} {r : Int32} (h0 : s_Model_end p0 σ = some (r, σ')) : xM G 570 598 l y_Model_end prog_14_method_9_code 2 (some .boolean) d [.ref (G.2.2.1 + 570), .int p0] σ (some (.int r)) σ' := by
  obtain ⟨d, rfl⟩ : ∃ q, d = q + 1 := ⟨d - 1, by omega⟩
  refine x_met R_Model rfl (by decide +kernel) (Nat.le_of_ble_eq_true rfl) fun p e s m below meth c C hr hk hR => ?_
  refine x_lv (lv' := [(0, .ref (G.2.2.1 + 570)), (1, .int p0)]) C [0, 1] rfl ?_
  generalize xrm (d + 1) = R at hR ⊢
  unfold s_Model_end at h0
  refine x_aload_n C d_Model_end_0 0 rfl ?_
  refine x_iconst (v := 0) C d_Model_end_1 (by decide) ?_
  refine x_putI (y := 0) C fp_Model_114 k_570 rfl rfl rfl d_Model_end_2 ?_
  obtain ⟨σ1, eσ1, h0⟩ := xlet h0
  refine x_sig C eσ1 ?_
  refine x_iload_n C d_Model_end_5 1 rfl ?_
  refine x_if_lt C 17 d_Model_end_6 (by decide) (fun q2 => ?_) (fun q2 => ?_)
  · replace h0 := xit q2 h0
    exact x_lv C [] rfl (b_Model_end_17 C hr hk hd hR h0)
  · replace h0 := xif q2 h0
    refine x_iload_n C d_Model_end_9 1 rfl ?_
    refine x_aload_n C d_Model_end_10 0 rfl ?_
    refine x_getI (y := 0) C fg_Model_127 k_570 rfl d_Model_end_11 ?_
    refine x_icmp_le C 19 d_Model_end_14 (by decide) (fun q3 => ?_) (fun q3 => ?_)
    · replace h0 := xit q3 h0
      refine x_aload_n C d_Model_end_19 0 rfl ?_
      refine x_iload_n C d_Model_end_20 1 rfl ?_
      refine x_putI (y := 0) C fp_Model_127 k_570 rfl rfl rfl d_Model_end_21 ?_
      obtain ⟨σ4, eσ4, h0⟩ := xlet h0
      refine x_sig C eσ4 ?_
      refine x_iconst (v := 1) C d_Model_end_24 (by decide) ?_
      exact x_zret C hr hk (by decide) h0 d_Model_end_25
    · replace h0 := xif q3 h0
      exact x_lv C [] rfl (b_Model_end_17 C hr hk hd hR h0)
-- LostPlacesModel.look()I
theorem d_Model_look_0 : decode prog_14_method_10_code 0 = .ok (.aload_n 0, 1) := by decide +kernel
theorem d_Model_look_1 : decode prog_14_method_10_code 1 = .ok (.getfield 137, 3) := by decide +kernel
theorem d_Model_look_4 : decode prog_14_method_10_code 4 = .ok (.aload_n 0, 1) := by decide +kernel
theorem d_Model_look_5 : decode prog_14_method_10_code 5 = .ok (.getfield 140, 3) := by decide +kernel
theorem d_Model_look_8 : decode prog_14_method_10_code 8 = .ok (.if_icmp .ge 35, 3) := by decide +kernel
theorem d_Model_look_11 : decode prog_14_method_10_code 11 = .ok (.aload_n 0, 1) := by decide +kernel
theorem d_Model_look_12 : decode prog_14_method_10_code 12 = .ok (.getfield 23, 3) := by decide +kernel
theorem d_Model_look_15 : decode prog_14_method_10_code 15 = .ok (.aload_n 0, 1) := by decide +kernel
theorem d_Model_look_16 : decode prog_14_method_10_code 16 = .ok (.getfield 143, 3) := by decide +kernel
theorem d_Model_look_19 : decode prog_14_method_10_code 19 = .ok (.aload_n 0, 1) := by decide +kernel
theorem d_Model_look_20 : decode prog_14_method_10_code 20 = .ok (.getfield 137, 3) := by decide +kernel
theorem d_Model_look_23 : decode prog_14_method_10_code 23 = .ok (.iadd, 1) := by decide +kernel
theorem d_Model_look_24 : decode prog_14_method_10_code 24 = .ok (.baload, 1) := by decide +kernel
theorem d_Model_look_25 : decode prog_14_method_10_code 25 = .ok (.bipush 32, 2) := by decide +kernel
theorem d_Model_look_27 : decode prog_14_method_10_code 27 = .ok (.if_icmp .ne 16, 3) := by decide +kernel
theorem d_Model_look_30 : decode prog_14_method_10_code 30 = .ok (.aload_n 0, 1) := by decide +kernel
theorem d_Model_look_31 : decode prog_14_method_10_code 31 = .ok (.dup, 1) := by decide +kernel
theorem d_Model_look_32 : decode prog_14_method_10_code 32 = .ok (.getfield 137, 3) := by decide +kernel
theorem d_Model_look_35 : decode prog_14_method_10_code 35 = .ok (.iconst 1, 1) := by decide +kernel
theorem d_Model_look_36 : decode prog_14_method_10_code 36 = .ok (.iadd, 1) := by decide +kernel
theorem d_Model_look_37 : decode prog_14_method_10_code 37 = .ok (.putfield 137, 3) := by decide +kernel
theorem d_Model_look_40 : decode prog_14_method_10_code 40 = .ok (.goto (-40), 3) := by decide +kernel
theorem d_Model_look_43 : decode prog_14_method_10_code 43 = .ok (.aload_n 0, 1) := by decide +kernel
theorem d_Model_look_44 : decode prog_14_method_10_code 44 = .ok (.getfield 137, 3) := by decide +kernel
theorem d_Model_look_47 : decode prog_14_method_10_code 47 = .ok (.aload_n 0, 1) := by decide +kernel
theorem d_Model_look_48 : decode prog_14_method_10_code 48 = .ok (.getfield 140, 3) := by decide +kernel
theorem d_Model_look_51 : decode prog_14_method_10_code 51 = .ok (.if_icmp .ge 24, 3) := by decide +kernel
theorem d_Model_look_54 : decode prog_14_method_10_code 54 = .ok (.aload_n 0, 1) := by decide +kernel
theorem d_Model_look_55 : decode prog_14_method_10_code 55 = .ok (.getfield 23, 3) := by decide +kernel
theorem d_Model_look_58 : decode prog_14_method_10_code 58 = .ok (.aload_n 0, 1) := by decide +kernel
theorem d_Model_look_59 : decode prog_14_method_10_code 59 = .ok (.getfield 143, 3) := by decide +kernel
theorem d_Model_look_62 : decode prog_14_method_10_code 62 = .ok (.aload_n 0, 1) := by decide +kernel
theorem d_Model_look_63 : decode prog_14_method_10_code 63 = .ok (.getfield 137, 3) := by decide +kernel
theorem d_Model_look_66 : decode prog_14_method_10_code 66 = .ok (.iadd, 1) := by decide +kernel
theorem d_Model_look_67 : decode prog_14_method_10_code 67 = .ok (.baload, 1) := by decide +kernel
theorem d_Model_look_68 : decode prog_14_method_10_code 68 = .ok (.sipush 255, 3) := by decide +kernel
theorem d_Model_look_71 : decode prog_14_method_10_code 71 = .ok (.iand, 1) := by decide +kernel
theorem d_Model_look_72 : decode prog_14_method_10_code 72 = .ok (.goto 4, 3) := by decide +kernel
theorem d_Model_look_75 : decode prog_14_method_10_code 75 = .ok (.iconst (-1), 1) := by decide +kernel
theorem d_Model_look_76 : decode prog_14_method_10_code 76 = .ok (.ireturn, 1) := by decide +kernel
def s_Model_look_76 (z0 : Int32) (σ : LH) : Option (Int32 × LH) :=
  some (z0, σ)
theorem b_Model_look_76 {G : XG} {l : Launch} {p : Program} {e : Env} {R : Room} {s : State} {m : MethodId} {args : Array Value} {below : List Frame} {meth : Method} {c : Code} (C : XC G 570 598 p s m args c prog_14_method_10_code 1 R_Model) (hr : meth.sig.returnType = (some .int)) (hk : meth.locks = false) {d : Nat} (hd : 1 ≤ d + 1) (hR : xroom R (d + 1)) {σ' : LH} {r : Int32} {z0 : Int32} {σ : LH} (h0 : s_Model_look_76 z0 σ = some (r, σ')) : XJ G 570 598 p l e R s m args below meth c 1 (XQ G 570 598 below args s (some (.int r)) σ') 0 0 76 [] [.int z0] σ := by
  replace h0 := (show _ = _ from h0)
  unfold s_Model_look_76 at h0
  exact x_iret C hr hk h0 d_Model_look_76
def s_Model_look_43 (σ : LH) : Option (Int32 × LH) :=
  if (σ.1 570 9) ≤ (σ.1 570 10) then (
   s_Model_look_76 (-1) σ)
  else (
   xl ((σ.2.2.2) : Nat) fun b4 =>
   if ib ((σ.1 570 8) + (σ.1 570 10)) (if b4 = 571 then 240 else 960) then (
   s_Model_look_76 ((σ.1 b4 (Int32.toNatClampNeg ((σ.1 570 8) + (σ.1 570 10)))) &&& 255) σ) else none)
theorem b_Model_look_43 {G : XG} {l : Launch} {p : Program} {e : Env} {R : Room} {s : State} {m : MethodId} {args : Array Value} {below : List Frame} {meth : Method} {c : Code} (C : XC G 570 598 p s m args c prog_14_method_10_code 1 R_Model) (hr : meth.sig.returnType = (some .int)) (hk : meth.locks = false) {d : Nat} (hd : 1 ≤ d + 1) (hR : xroom R (d + 1)) {σ' : LH} {r : Int32} {σ : LH} (h0 : s_Model_look_43 σ = some (r, σ')) : XJ G 570 598 p l e R s m args below meth c 1 (XQ G 570 598 below args s (some (.int r)) σ') 0 0 43 [(0, .ref (G.2.2.1 + 570))] [] σ := by
  replace h0 := (show _ = _ from h0)
  unfold s_Model_look_43 at h0
  refine x_aload_n C d_Model_look_43 0 rfl ?_
  refine x_getI (y := 0) C fg_Model_137 k_570 rfl d_Model_look_44 ?_
  refine x_aload_n C d_Model_look_47 0 rfl ?_
  refine x_getI (y := 0) C fg_Model_140 k_570 rfl d_Model_look_48 ?_
  refine x_icmp_ge C 75 d_Model_look_51 (by decide) (fun q2 => ?_) (fun q2 => ?_)
  · replace h0 := xit q2 h0
    refine x_iconst (v := (-1)) C d_Model_look_75 (by decide) ?_
    exact x_lv C [] rfl (b_Model_look_76 C hr hk hd hR h0)
  · replace h0 := xif q2 h0
    refine x_aload_n C d_Model_look_54 0 rfl ?_
    refine x_getX (y := 0) C fg_Model_23 k_570 rfl d_Model_look_55 (fun o3 => ?_)
    obtain ⟨b4, eb4, h0⟩ := xlet h0
    refine x_nameR C eb4 ?_
    have hb4 : b4 = 571 ∨ b4 = 572 := by rw [eb4]; exact o3.2
    refine x_aload_n C d_Model_look_58 0 rfl ?_
    refine x_getI (y := 0) C fg_Model_143 k_570 rfl d_Model_look_59 ?_
    refine x_aload_n C d_Model_look_62 0 rfl ?_
    refine x_getI (y := 0) C fg_Model_137 k_570 rfl d_Model_look_63 ?_
    refine x_iadd C d_Model_look_66 ?_
    obtain ⟨g5, h0⟩ := xgo h0
    refine x_bald C (tx_in hb4) (ib_in g5) d_Model_look_67 ?_
    refine x_sipush (v := 255) C d_Model_look_68 (by decide) ?_
    refine x_iand C d_Model_look_71 ?_
    refine x_goto C 76 d_Model_look_72 (by decide) ?_
    exact x_lv C [] rfl (b_Model_look_76 C hr hk hd hR h0)
def s_Model_look_0_b (rec0 : LH → Option (Int32 × LH)) (σ : LH) : Option (Int32 × LH) :=
  if (σ.1 570 9) ≤ (σ.1 570 10) then (
   s_Model_look_43 σ)
  else (
   xl ((σ.2.2.2) : Nat) fun b7 =>
   if ib ((σ.1 570 8) + (σ.1 570 10)) (if b7 = 571 then 240 else 960) then (
   if (σ.1 b7 (Int32.toNatClampNeg ((σ.1 570 8) + (σ.1 570 10)))) = 32 then (
    xl ((stI σ 570 10 ((σ.1 570 10) + 1)) : LH) fun σ10 =>
    rec0 σ10)
   else (
    s_Model_look_43 σ)) else none)
def s_Model_look_0 : Nat → LH → Option (Int32 × LH)
  | 0, _ => none
  | n + 1, σ => s_Model_look_0_b (s_Model_look_0 n) σ
theorem bb_Model_look_0 {G : XG} {l : Launch} {p : Program} {e : Env} {R : Room} {s : State} {m : MethodId} {args : Array Value} {below : List Frame} {meth : Method} {c : Code} (C : XC G 570 598 p s m args c prog_14_method_10_code 1 R_Model) (hr : meth.sig.returnType = (some .int)) (hk : meth.locks = false) {d : Nat} (hd : 1 ≤ d + 1) (hR : xroom R (d + 1)) {rec0 : LH → Option (Int32 × LH)} {σ' : LH} {r : Int32} (hrec0 : ∀ (σ : LH), rec0 σ = some (r, σ') → XJ G 570 598 p l e R s m args below meth c 1 (XQ G 570 598 below args s (some (.int r)) σ') 0 0 0 [(0, .ref (G.2.2.1 + 570))] [] σ) {σ : LH} (h0 : s_Model_look_0_b rec0 σ = some (r, σ')) : XJ G 570 598 p l e R s m args below meth c 1 (XQ G 570 598 below args s (some (.int r)) σ') 0 0 0 [(0, .ref (G.2.2.1 + 570))] [] σ := by
  replace h0 := (show _ = _ from h0)
  unfold s_Model_look_0_b at h0
  refine x_aload_n C d_Model_look_0 0 rfl ?_
  refine x_getI (y := 0) C fg_Model_137 k_570 rfl d_Model_look_1 ?_
  refine x_aload_n C d_Model_look_4 0 rfl ?_
  refine x_getI (y := 0) C fg_Model_140 k_570 rfl d_Model_look_5 ?_
  refine x_icmp_ge C 43 d_Model_look_8 (by decide) (fun q1 => ?_) (fun q1 => ?_)
  · replace h0 := xit q1 h0
    exact x_lv C [0] rfl (b_Model_look_43 C hr hk hd hR h0)
  · replace h0 := xif q1 h0
    refine x_aload_n C d_Model_look_11 0 rfl ?_
    refine x_getX (y := 0) C fg_Model_23 k_570 rfl d_Model_look_12 (fun o6 => ?_)
    obtain ⟨b7, eb7, h0⟩ := xlet h0
    refine x_nameR C eb7 ?_
    have hb7 : b7 = 571 ∨ b7 = 572 := by rw [eb7]; exact o6.2
    refine x_aload_n C d_Model_look_15 0 rfl ?_
    refine x_getI (y := 0) C fg_Model_143 k_570 rfl d_Model_look_16 ?_
    refine x_aload_n C d_Model_look_19 0 rfl ?_
    refine x_getI (y := 0) C fg_Model_137 k_570 rfl d_Model_look_20 ?_
    refine x_iadd C d_Model_look_23 ?_
    obtain ⟨g8, h0⟩ := xgo h0
    refine x_bald C (tx_in hb7) (ib_in g8) d_Model_look_24 ?_
    refine x_bipush (v := 32) C d_Model_look_25 (by decide) ?_
    refine x_icmp_ne C 43 d_Model_look_27 (by decide) (fun q9 => ?_) (fun q9 => ?_)
    · replace h0 := xif q9 h0
      exact x_lv C [0] rfl (b_Model_look_43 C hr hk hd hR h0)
    · replace h0 := xit q9 h0
      refine x_aload_n C d_Model_look_30 0 rfl ?_
      refine x_dup C d_Model_look_31 rfl ?_
      refine x_getI (y := 0) C fg_Model_137 k_570 rfl d_Model_look_32 ?_
      refine x_iconst (v := 1) C d_Model_look_35 (by decide) ?_
      refine x_iadd C d_Model_look_36 ?_
      refine x_putI (y := 0) C fp_Model_137 k_570 rfl rfl rfl d_Model_look_37 ?_
      obtain ⟨σ10, eσ10, h0⟩ := xlet h0
      refine x_sig C eσ10 ?_
      refine x_goto C 0 d_Model_look_40 (by decide) ?_
      exact x_lv C [0] rfl (hrec0 _ h0)
theorem b_Model_look_0 {G : XG} {l : Launch} {p : Program} {e : Env} {R : Room} {s : State} {m : MethodId} {args : Array Value} {below : List Frame} {meth : Method} {c : Code} (C : XC G 570 598 p s m args c prog_14_method_10_code 1 R_Model) (hr : meth.sig.returnType = (some .int)) (hk : meth.locks = false) {d : Nat} (hd : 1 ≤ d + 1) (hR : xroom R (d + 1)) {σ' : LH} {r : Int32} : ∀ (n : Nat) (σ : LH), s_Model_look_0 n σ = some (r, σ') → XJ G 570 598 p l e R s m args below meth c 1 (XQ G 570 598 below args s (some (.int r)) σ') 0 0 0 [(0, .ref (G.2.2.1 + 570))] [] σ := by
  intro n
  induction n with
  | zero => intro σ h0; cases h0
  | succ n ih => intro σ h0; exact bb_Model_look_0 C hr hk hd hR ih h0
def s_Model_look (σ : LH) : Option (Int32 × LH) :=
  s_Model_look_0 FUEL σ
theorem c_Model_look {G : XG} {l : Launch} {d : Nat} (hd : 1 ≤ d) {σ σ' : LH} {r : Int32} (h0 : s_Model_look σ = some (r, σ')) : xM G 570 598 l y_Model_look prog_14_method_10_code 1 (some .int) d [.ref (G.2.2.1 + 570)] σ (some (.int r)) σ' := by
  obtain ⟨d, rfl⟩ : ∃ q, d = q + 1 := ⟨d - 1, by omega⟩
  refine x_met R_Model rfl (by decide +kernel) (Nat.le_of_ble_eq_true rfl) fun p e s m below meth c C hr hk hR => ?_
  refine x_lv (lv' := [(0, .ref (G.2.2.1 + 570))]) C [0] rfl ?_
  generalize xrm (d + 1) = R at hR ⊢
  unfold s_Model_look at h0
  exact x_lv C [0] rfl (b_Model_look_0 C hr hk hd hR FUEL _ h0)
-- LostPlacesModel.fails()Z
theorem d_Model_fails_0 : decode prog_14_method_11_code 0 = .ok (.aload_n 0, 1) := by decide +kernel
theorem d_Model_fails_1 : decode prog_14_method_11_code 1 = .ok (.getfield 146, 3) := by decide +kernel
theorem d_Model_fails_4 : decode prog_14_method_11_code 4 = .ok (.iconst (-1), 1) := by decide +kernel
theorem d_Model_fails_5 : decode prog_14_method_11_code 5 = .ok (.if_icmp .ne 11, 3) := by decide +kernel
theorem d_Model_fails_8 : decode prog_14_method_11_code 8 = .ok (.aload_n 0, 1) := by decide +kernel
theorem d_Model_fails_9 : decode prog_14_method_11_code 9 = .ok (.aload_n 0, 1) := by decide +kernel
theorem d_Model_fails_10 : decode prog_14_method_11_code 10 = .ok (.getfield 137, 3) := by decide +kernel
theorem d_Model_fails_13 : decode prog_14_method_11_code 13 = .ok (.putfield 146, 3) := by decide +kernel
theorem d_Model_fails_16 : decode prog_14_method_11_code 16 = .ok (.iconst 0, 1) := by decide +kernel
theorem d_Model_fails_17 : decode prog_14_method_11_code 17 = .ok (.ireturn, 1) := by decide +kernel
def s_Model_fails_16 (σ : LH) : Option (Int32 × LH) :=
  some (0, σ)
theorem b_Model_fails_16 {G : XG} {l : Launch} {p : Program} {e : Env} {R : Room} {s : State} {m : MethodId} {args : Array Value} {below : List Frame} {meth : Method} {c : Code} (C : XC G 570 598 p s m args c prog_14_method_11_code 1 R_Model) (hr : meth.sig.returnType = (some .boolean)) (hk : meth.locks = false) {d : Nat} (hd : 1 ≤ d + 1) (hR : xroom R (d + 1)) {σ' : LH} {r : Int32} {σ : LH} (h0 : s_Model_fails_16 σ = some (r, σ')) : XJ G 570 598 p l e R s m args below meth c 1 (XQ G 570 598 below args s (some (.int r)) σ') 0 0 16 [] [] σ := by
  replace h0 := (show _ = _ from h0)
  unfold s_Model_fails_16 at h0
  refine x_iconst (v := 0) C d_Model_fails_16 (by decide) ?_
  exact x_zret C hr hk (by decide) h0 d_Model_fails_17
def s_Model_fails (σ : LH) : Option (Int32 × LH) :=
  if (σ.1 570 11) = (-1) then (
   xl ((stI σ 570 11 (σ.1 570 10)) : LH) fun σ2 =>
   s_Model_fails_16 σ2)
  else (
   s_Model_fails_16 σ)
theorem c_Model_fails {G : XG} {l : Launch} {d : Nat} (hd : 1 ≤ d) {σ σ' : LH} {r : Int32} (h0 : s_Model_fails σ = some (r, σ')) : xM G 570 598 l y_Model_fails prog_14_method_11_code 1 (some .boolean) d [.ref (G.2.2.1 + 570)] σ (some (.int r)) σ' := by
  obtain ⟨d, rfl⟩ : ∃ q, d = q + 1 := ⟨d - 1, by omega⟩
  refine x_met R_Model rfl (by decide +kernel) (Nat.le_of_ble_eq_true rfl) fun p e s m below meth c C hr hk hR => ?_
  refine x_lv (lv' := [(0, .ref (G.2.2.1 + 570))]) C [0] rfl ?_
  generalize xrm (d + 1) = R at hR ⊢
  unfold s_Model_fails at h0
  refine x_aload_n C d_Model_fails_0 0 rfl ?_
  refine x_getI (y := 0) C fg_Model_146 k_570 rfl d_Model_fails_1 ?_
  refine x_iconst (v := (-1)) C d_Model_fails_4 (by decide) ?_
  refine x_icmp_ne C 16 d_Model_fails_5 (by decide) (fun q1 => ?_) (fun q1 => ?_)
  · replace h0 := xif q1 h0
    exact x_lv C [] rfl (b_Model_fails_16 C hr hk hd hR h0)
  · replace h0 := xit q1 h0
    refine x_aload_n C d_Model_fails_8 0 rfl ?_
    refine x_aload_n C d_Model_fails_9 0 rfl ?_
    refine x_getI (y := 0) C fg_Model_137 k_570 rfl d_Model_fails_10 ?_
    refine x_putI (y := 0) C fp_Model_146 k_570 rfl rfl rfl d_Model_fails_13 ?_
    obtain ⟨σ2, eσ2, h0⟩ := xlet h0
    refine x_sig C eσ2 ?_
    exact x_lv C [] rfl (b_Model_fails_16 C hr hk hd hR h0)
-- LostPlacesModel.goesIn()Z
theorem d_Model_goesIn_0 : decode prog_14_method_12_code 0 = .ok (.aload_n 0, 1) := by decide +kernel
theorem d_Model_goesIn_1 : decode prog_14_method_12_code 1 = .ok (.getfield 149, 3) := by decide +kernel
theorem d_Model_goesIn_4 : decode prog_14_method_12_code 4 = .ok (.bipush 6, 2) := by decide +kernel
theorem d_Model_goesIn_6 : decode prog_14_method_12_code 6 = .ok (.if_icmp .ne 8, 3) := by decide +kernel
theorem d_Model_goesIn_9 : decode prog_14_method_12_code 9 = .ok (.aload_n 0, 1) := by decide +kernel
theorem d_Model_goesIn_10 : decode prog_14_method_12_code 10 = .ok (.invokevirtual 152, 3) := by decide +kernel
theorem d_Model_goesIn_13 : decode prog_14_method_12_code 13 = .ok (.ireturn, 1) := by decide +kernel
theorem d_Model_goesIn_14 : decode prog_14_method_12_code 14 = .ok (.aload_n 0, 1) := by decide +kernel
theorem d_Model_goesIn_15 : decode prog_14_method_12_code 15 = .ok (.dup, 1) := by decide +kernel
theorem d_Model_goesIn_16 : decode prog_14_method_12_code 16 = .ok (.getfield 149, 3) := by decide +kernel
theorem d_Model_goesIn_19 : decode prog_14_method_12_code 19 = .ok (.iconst 1, 1) := by decide +kernel
theorem d_Model_goesIn_20 : decode prog_14_method_12_code 20 = .ok (.iadd, 1) := by decide +kernel
theorem d_Model_goesIn_21 : decode prog_14_method_12_code 21 = .ok (.putfield 149, 3) := by decide +kernel
theorem d_Model_goesIn_24 : decode prog_14_method_12_code 24 = .ok (.aload_n 0, 1) := by decide +kernel
theorem d_Model_goesIn_25 : decode prog_14_method_12_code 25 = .ok (.dup, 1) := by decide +kernel
theorem d_Model_goesIn_26 : decode prog_14_method_12_code 26 = .ok (.getfield 137, 3) := by decide +kernel
theorem d_Model_goesIn_29 : decode prog_14_method_12_code 29 = .ok (.iconst 1, 1) := by decide +kernel
theorem d_Model_goesIn_30 : decode prog_14_method_12_code 30 = .ok (.iadd, 1) := by decide +kernel
theorem d_Model_goesIn_31 : decode prog_14_method_12_code 31 = .ok (.putfield 137, 3) := by decide +kernel
theorem d_Model_goesIn_34 : decode prog_14_method_12_code 34 = .ok (.iconst 1, 1) := by decide +kernel
theorem d_Model_goesIn_35 : decode prog_14_method_12_code 35 = .ok (.ireturn, 1) := by decide +kernel
def s_Model_goesIn (σ : LH) : Option (Int32 × LH) :=
  if (σ.1 570 12) = 6 then (
   xb2 (s_Model_fails σ) fun r3 σ4 =>
   if zb r3 then (
   some (r3, σ4)) else none)
  else (
   xl ((stI σ 570 12 ((σ.1 570 12) + 1)) : LH) fun σ6 =>
   xl ((stI σ6 570 10 ((σ6.1 570 10) + 1)) : LH) fun σ7 =>
   some (1, σ7))
theorem c_Model_goesIn {G : XG} {l : Launch} {d : Nat} (hd : 2 ≤ d) {σ σ' : LH} {r : Int32} (h0 : s_Model_goesIn σ = some (r, σ')) : xM G 570 598 l y_Model_goesIn prog_14_method_12_code 1 (some .boolean) d [.ref (G.2.2.1 + 570)] σ (some (.int r)) σ' := by
  obtain ⟨d, rfl⟩ : ∃ q, d = q + 1 := ⟨d - 1, by omega⟩
  refine x_met R_Model rfl (by decide +kernel) (Nat.le_of_ble_eq_true rfl) fun p e s m below meth c C hr hk hR => ?_
  refine x_lv (lv' := [(0, .ref (G.2.2.1 + 570))]) C [0] rfl ?_
  generalize xrm (d + 1) = R at hR ⊢
  unfold s_Model_goesIn at h0
  refine x_aload_n C d_Model_goesIn_0 0 rfl ?_
  refine x_getI (y := 0) C fg_Model_149 k_570 rfl d_Model_goesIn_1 ?_
  refine x_bipush (v := 6) C d_Model_goesIn_4 (by decide) ?_
  refine x_icmp_ne C 14 d_Model_goesIn_6 (by decide) (fun q1 => ?_) (fun q1 => ?_)
  · replace h0 := xif q1 h0
    refine x_aload_n C d_Model_goesIn_14 0 rfl ?_
    refine x_dup C d_Model_goesIn_15 rfl ?_
    refine x_getI (y := 0) C fg_Model_149 k_570 rfl d_Model_goesIn_16 ?_
    refine x_iconst (v := 1) C d_Model_goesIn_19 (by decide) ?_
    refine x_iadd C d_Model_goesIn_20 ?_
    refine x_putI (y := 0) C fp_Model_149 k_570 rfl rfl rfl d_Model_goesIn_21 ?_
    obtain ⟨σ6, eσ6, h0⟩ := xlet h0
    refine x_sig C eσ6 ?_
    refine x_aload_n C d_Model_goesIn_24 0 rfl ?_
    refine x_dup C d_Model_goesIn_25 rfl ?_
    refine x_getI (y := 0) C fg_Model_137 k_570 rfl d_Model_goesIn_26 ?_
    refine x_iconst (v := 1) C d_Model_goesIn_29 (by decide) ?_
    refine x_iadd C d_Model_goesIn_30 ?_
    refine x_putI (y := 0) C fp_Model_137 k_570 rfl rfl rfl d_Model_goesIn_31 ?_
    obtain ⟨σ7, eσ7, h0⟩ := xlet h0
    refine x_sig C eσ7 ?_
    refine x_iconst (v := 1) C d_Model_goesIn_34 (by decide) ?_
    exact x_zret C hr hk (by decide) h0 d_Model_goesIn_35
  · replace h0 := xit q1 h0
    refine x_aload_n C d_Model_goesIn_9 0 rfl ?_
    obtain ⟨r3, σ4, k2, h0⟩ := xbind2 h0
    refine x_callVi C hR (c_Model_fails (d := d) (by omega) k2) cw_Model_152 k_570 rfl rfl rfl (Nat.le_of_ble_eq_true rfl) ⟨Nat.zero_le _, Nat.zero_le _⟩ d_Model_goesIn_10 ?_
    obtain ⟨g5, h0⟩ := xgo h0
    exact x_zret C hr hk g5 h0 d_Model_goesIn_13
-- LostPlacesModel.takes(I)Z
theorem d_Model_takes_0 : decode prog_14_method_13_code 0 = .ok (.aload_n 0, 1) := by decide +kernel
theorem d_Model_takes_1 : decode prog_14_method_13_code 1 = .ok (.getfield 146, 3) := by decide +kernel
theorem d_Model_takes_4 : decode prog_14_method_13_code 4 = .ok (.iconst (-1), 1) := by decide +kernel
theorem d_Model_takes_5 : decode prog_14_method_13_code 5 = .ok (.if_icmp .ne 11, 3) := by decide +kernel
theorem d_Model_takes_8 : decode prog_14_method_13_code 8 = .ok (.aload_n 0, 1) := by decide +kernel
theorem d_Model_takes_9 : decode prog_14_method_13_code 9 = .ok (.invokevirtual 156, 3) := by decide +kernel
theorem d_Model_takes_12 : decode prog_14_method_13_code 12 = .ok (.iload_n 1, 1) := by decide +kernel
theorem d_Model_takes_13 : decode prog_14_method_13_code 13 = .ok (.if_icmp .eq 8, 3) := by decide +kernel
theorem d_Model_takes_16 : decode prog_14_method_13_code 16 = .ok (.aload_n 0, 1) := by decide +kernel
theorem d_Model_takes_17 : decode prog_14_method_13_code 17 = .ok (.invokevirtual 152, 3) := by decide +kernel
theorem d_Model_takes_20 : decode prog_14_method_13_code 20 = .ok (.ireturn, 1) := by decide +kernel
theorem d_Model_takes_21 : decode prog_14_method_13_code 21 = .ok (.aload_n 0, 1) := by decide +kernel
theorem d_Model_takes_22 : decode prog_14_method_13_code 22 = .ok (.dup, 1) := by decide +kernel
theorem d_Model_takes_23 : decode prog_14_method_13_code 23 = .ok (.getfield 137, 3) := by decide +kernel
theorem d_Model_takes_26 : decode prog_14_method_13_code 26 = .ok (.iconst 1, 1) := by decide +kernel
theorem d_Model_takes_27 : decode prog_14_method_13_code 27 = .ok (.iadd, 1) := by decide +kernel
theorem d_Model_takes_28 : decode prog_14_method_13_code 28 = .ok (.putfield 137, 3) := by decide +kernel
theorem d_Model_takes_31 : decode prog_14_method_13_code 31 = .ok (.iconst 1, 1) := by decide +kernel
theorem d_Model_takes_32 : decode prog_14_method_13_code 32 = .ok (.ireturn, 1) := by decide +kernel
def s_Model_takes_16 (p0 : Int32) (σ : LH) : Option (Int32 × LH) :=
  xb2 (s_Model_fails σ) fun r8 σ9 =>
  if zb r8 then (
  some (r8, σ9)) else none
theorem b_Model_takes_16 {G : XG} {l : Launch} {p : Program} {e : Env} {R : Room} {s : State} {m : MethodId} {args : Array Value} {below : List Frame} {meth : Method} {c : Code} (C : XC G 570 598 p s m args c prog_14_method_13_code 2 R_Model) (hr : meth.sig.returnType = (some .boolean)) (hk : meth.locks = false) {d : Nat} (hd : 2 ≤ d + 1) (hR : xroom R (d + 1)) {p0 : Int32} {σ' : LH} {r : Int32} {σ : LH} (h0 : s_Model_takes_16 p0 σ = some (r, σ')) : XJ G 570 598 p l e R s m args below meth c 2 (XQ G 570 598 below args s (some (.int r)) σ') 0 0 16 [(0, .ref (G.2.2.1 + 570))] [] σ := by
  replace h0 := (show _ = _ from h0)
  unfold s_Model_takes_16 at h0
  refine x_aload_n C d_Model_takes_16 0 rfl ?_
  obtain ⟨r8, σ9, k7, h0⟩ := xbind2 h0
  refine x_callVi C hR (c_Model_fails (d := d) (by omega) k7) cw_Model_152 k_570 rfl rfl rfl (Nat.le_of_ble_eq_true rfl) ⟨Nat.zero_le _, Nat.zero_le _⟩ d_Model_takes_17 ?_
  obtain ⟨g10, h0⟩ := xgo h0
  exact x_zret C hr hk g10 h0 d_Model_takes_20
def s_Model_takes (p0 : Int32) (σ : LH) : Option (Int32 × LH) :=
  if (σ.1 570 11) = (-1) then (
   xb2 (s_Model_look σ) fun r3 σ4 =>
   if r3 = p0 then (
    xl ((stI σ4 570 10 ((σ4.1 570 10) + 1)) : LH) fun σ6 =>
    some (1, σ6))
   else (
    s_Model_takes_16 p0 σ4))
  else (
   s_Model_takes_16 p0 σ)
theorem c_Model_takes {G : XG} {l : Launch} {d : Nat} (hd : 2 ≤ d) {p0 : Int32} {σ σ' : LH} {r : Int32} (h0 : s_Model_takes p0 σ = some (r, σ')) : xM G 570 598 l y_Model_takes prog_14_method_13_code 2 (some .boolean) d [.ref (G.2.2.1 + 570), .int p0] σ (some (.int r)) σ' := by
  obtain ⟨d, rfl⟩ : ∃ q, d = q + 1 := ⟨d - 1, by omega⟩
  refine x_met R_Model rfl (by decide +kernel) (Nat.le_of_ble_eq_true rfl) fun p e s m below meth c C hr hk hR => ?_
  refine x_lv (lv' := [(0, .ref (G.2.2.1 + 570)), (1, .int p0)]) C [0, 1] rfl ?_
  generalize xrm (d + 1) = R at hR ⊢
  unfold s_Model_takes at h0
  refine x_aload_n C d_Model_takes_0 0 rfl ?_
  refine x_getI (y := 0) C fg_Model_146 k_570 rfl d_Model_takes_1 ?_
  refine x_iconst (v := (-1)) C d_Model_takes_4 (by decide) ?_
  refine x_icmp_ne C 16 d_Model_takes_5 (by decide) (fun q1 => ?_) (fun q1 => ?_)
  · replace h0 := xif q1 h0
    exact x_lv C [0] rfl (b_Model_takes_16 C hr hk hd hR h0)
  · replace h0 := xit q1 h0
    refine x_aload_n C d_Model_takes_8 0 rfl ?_
    obtain ⟨r3, σ4, k2, h0⟩ := xbind2 h0
    refine x_callVi C hR (c_Model_look (d := d) (by omega) k2) cw_Model_156 k_570 rfl rfl rfl (Nat.le_of_ble_eq_true rfl) ⟨Nat.zero_le _, Nat.zero_le _⟩ d_Model_takes_9 ?_
    refine x_iload_n C d_Model_takes_12 1 rfl ?_
    refine x_icmp_eq C 21 d_Model_takes_13 (by decide) (fun q5 => ?_) (fun q5 => ?_)
    · replace h0 := xit q5 h0
      refine x_aload_n C d_Model_takes_21 0 rfl ?_
      refine x_dup C d_Model_takes_22 rfl ?_
      refine x_getI (y := 0) C fg_Model_137 k_570 rfl d_Model_takes_23 ?_
      refine x_iconst (v := 1) C d_Model_takes_26 (by decide) ?_
      refine x_iadd C d_Model_takes_27 ?_
      refine x_putI (y := 0) C fp_Model_137 k_570 rfl rfl rfl d_Model_takes_28 ?_
      obtain ⟨σ6, eσ6, h0⟩ := xlet h0
      refine x_sig C eσ6 ?_
      refine x_iconst (v := 1) C d_Model_takes_31 (by decide) ?_
      exact x_zret C hr hk (by decide) h0 d_Model_takes_32
    · replace h0 := xif q5 h0
      exact x_lv C [0] rfl (b_Model_takes_16 C hr hk hd hR h0)
-- LostPlacesModel.isDigit()Z
theorem d_Model_isDigit_0 : decode prog_14_method_14_code 0 = .ok (.aload_n 0, 1) := by decide +kernel
theorem d_Model_isDigit_1 : decode prog_14_method_14_code 1 = .ok (.getfield 137, 3) := by decide +kernel
theorem d_Model_isDigit_4 : decode prog_14_method_14_code 4 = .ok (.aload_n 0, 1) := by decide +kernel
theorem d_Model_isDigit_5 : decode prog_14_method_14_code 5 = .ok (.getfield 140, 3) := by decide +kernel
theorem d_Model_isDigit_8 : decode prog_14_method_14_code 8 = .ok (.if_icmp .ge 45, 3) := by decide +kernel
theorem d_Model_isDigit_11 : decode prog_14_method_14_code 11 = .ok (.aload_n 0, 1) := by decide +kernel
theorem d_Model_isDigit_12 : decode prog_14_method_14_code 12 = .ok (.getfield 23, 3) := by decide +kernel
theorem d_Model_isDigit_15 : decode prog_14_method_14_code 15 = .ok (.aload_n 0, 1) := by decide +kernel
theorem d_Model_isDigit_16 : decode prog_14_method_14_code 16 = .ok (.getfield 143, 3) := by decide +kernel
theorem d_Model_isDigit_19 : decode prog_14_method_14_code 19 = .ok (.aload_n 0, 1) := by decide +kernel
theorem d_Model_isDigit_20 : decode prog_14_method_14_code 20 = .ok (.getfield 137, 3) := by decide +kernel
theorem d_Model_isDigit_23 : decode prog_14_method_14_code 23 = .ok (.iadd, 1) := by decide +kernel
theorem d_Model_isDigit_24 : decode prog_14_method_14_code 24 = .ok (.baload, 1) := by decide +kernel
theorem d_Model_isDigit_25 : decode prog_14_method_14_code 25 = .ok (.bipush 48, 2) := by decide +kernel
theorem d_Model_isDigit_27 : decode prog_14_method_14_code 27 = .ok (.if_icmp .lt 26, 3) := by decide +kernel
theorem d_Model_isDigit_30 : decode prog_14_method_14_code 30 = .ok (.aload_n 0, 1) := by decide +kernel
theorem d_Model_isDigit_31 : decode prog_14_method_14_code 31 = .ok (.getfield 23, 3) := by decide +kernel
theorem d_Model_isDigit_34 : decode prog_14_method_14_code 34 = .ok (.aload_n 0, 1) := by decide +kernel
theorem d_Model_isDigit_35 : decode prog_14_method_14_code 35 = .ok (.getfield 143, 3) := by decide +kernel
theorem d_Model_isDigit_38 : decode prog_14_method_14_code 38 = .ok (.aload_n 0, 1) := by decide +kernel
theorem d_Model_isDigit_39 : decode prog_14_method_14_code 39 = .ok (.getfield 137, 3) := by decide +kernel
theorem d_Model_isDigit_42 : decode prog_14_method_14_code 42 = .ok (.iadd, 1) := by decide +kernel
theorem d_Model_isDigit_43 : decode prog_14_method_14_code 43 = .ok (.baload, 1) := by decide +kernel
theorem d_Model_isDigit_44 : decode prog_14_method_14_code 44 = .ok (.bipush 57, 2) := by decide +kernel
theorem d_Model_isDigit_46 : decode prog_14_method_14_code 46 = .ok (.if_icmp .gt 7, 3) := by decide +kernel
theorem d_Model_isDigit_49 : decode prog_14_method_14_code 49 = .ok (.iconst 1, 1) := by decide +kernel
theorem d_Model_isDigit_50 : decode prog_14_method_14_code 50 = .ok (.goto 4, 3) := by decide +kernel
theorem d_Model_isDigit_53 : decode prog_14_method_14_code 53 = .ok (.iconst 0, 1) := by decide +kernel
theorem d_Model_isDigit_54 : decode prog_14_method_14_code 54 = .ok (.ireturn, 1) := by decide +kernel
def s_Model_isDigit_54 (z0 : Int32) (σ : LH) : Option (Int32 × LH) :=
  if zb z0 then (
  some (z0, σ)) else none
theorem b_Model_isDigit_54 {G : XG} {l : Launch} {p : Program} {e : Env} {R : Room} {s : State} {m : MethodId} {args : Array Value} {below : List Frame} {meth : Method} {c : Code} (C : XC G 570 598 p s m args c prog_14_method_14_code 1 R_Model) (hr : meth.sig.returnType = (some .boolean)) (hk : meth.locks = false) {d : Nat} (hd : 1 ≤ d + 1) (hR : xroom R (d + 1)) {σ' : LH} {r : Int32} {z0 : Int32} {σ : LH} (h0 : s_Model_isDigit_54 z0 σ = some (r, σ')) : XJ G 570 598 p l e R s m args below meth c 1 (XQ G 570 598 below args s (some (.int r)) σ') 0 0 54 [] [.int z0] σ := by
  replace h0 := (show _ = _ from h0)
  unfold s_Model_isDigit_54 at h0
  obtain ⟨g2, h0⟩ := xgo h0
  exact x_zret C hr hk g2 h0 d_Model_isDigit_54
def s_Model_isDigit_53 (σ : LH) : Option (Int32 × LH) :=
  s_Model_isDigit_54 0 σ
theorem b_Model_isDigit_53 {G : XG} {l : Launch} {p : Program} {e : Env} {R : Room} {s : State} {m : MethodId} {args : Array Value} {below : List Frame} {meth : Method} {c : Code} (C : XC G 570 598 p s m args c prog_14_method_14_code 1 R_Model) (hr : meth.sig.returnType = (some .boolean)) (hk : meth.locks = false) {d : Nat} (hd : 1 ≤ d + 1) (hR : xroom R (d + 1)) {σ' : LH} {r : Int32} {σ : LH} (h0 : s_Model_isDigit_53 σ = some (r, σ')) : XJ G 570 598 p l e R s m args below meth c 1 (XQ G 570 598 below args s (some (.int r)) σ') 0 0 53 [] [] σ := by
  replace h0 := (show _ = _ from h0)
  unfold s_Model_isDigit_53 at h0
  refine x_iconst (v := 0) C d_Model_isDigit_53 (by decide) ?_
  exact x_lv C [] rfl (b_Model_isDigit_54 C hr hk hd hR h0)
def s_Model_isDigit (σ : LH) : Option (Int32 × LH) :=
  if (σ.1 570 9) ≤ (σ.1 570 10) then (
   s_Model_isDigit_53 σ)
  else (
   xl ((σ.2.2.2) : Nat) fun b4 =>
   if ib ((σ.1 570 8) + (σ.1 570 10)) (if b4 = 571 then 240 else 960) then (
   if (σ.1 b4 (Int32.toNatClampNeg ((σ.1 570 8) + (σ.1 570 10)))) < 48 then (
    s_Model_isDigit_53 σ)
   else (
    xl ((σ.2.2.2) : Nat) fun b8 =>
    if ib ((σ.1 570 8) + (σ.1 570 10)) (if b8 = 571 then 240 else 960) then (
    if 57 < (σ.1 b8 (Int32.toNatClampNeg ((σ.1 570 8) + (σ.1 570 10)))) then (
     s_Model_isDigit_53 σ)
    else (
     s_Model_isDigit_54 1 σ)) else none)) else none)
theorem c_Model_isDigit {G : XG} {l : Launch} {d : Nat} (hd : 1 ≤ d) {σ σ' : LH} {r : Int32} (h0 : s_Model_isDigit σ = some (r, σ')) : xM G 570 598 l y_Model_isDigit prog_14_method_14_code 1 (some .boolean) d [.ref (G.2.2.1 + 570)] σ (some (.int r)) σ' := by
  obtain ⟨d, rfl⟩ : ∃ q, d = q + 1 := ⟨d - 1, by omega⟩
  refine x_met R_Model rfl (by decide +kernel) (Nat.le_of_ble_eq_true rfl) fun p e s m below meth c C hr hk hR => ?_
  refine x_lv (lv' := [(0, .ref (G.2.2.1 + 570))]) C [0] rfl ?_
  generalize xrm (d + 1) = R at hR ⊢
  unfold s_Model_isDigit at h0
  refine x_aload_n C d_Model_isDigit_0 0 rfl ?_
  refine x_getI (y := 0) C fg_Model_137 k_570 rfl d_Model_isDigit_1 ?_
  refine x_aload_n C d_Model_isDigit_4 0 rfl ?_
  refine x_getI (y := 0) C fg_Model_140 k_570 rfl d_Model_isDigit_5 ?_
  refine x_icmp_ge C 53 d_Model_isDigit_8 (by decide) (fun q1 => ?_) (fun q1 => ?_)
  · replace h0 := xit q1 h0
    exact x_lv C [] rfl (b_Model_isDigit_53 C hr hk hd hR h0)
  · replace h0 := xif q1 h0
    refine x_aload_n C d_Model_isDigit_11 0 rfl ?_
    refine x_getX (y := 0) C fg_Model_23 k_570 rfl d_Model_isDigit_12 (fun o3 => ?_)
    obtain ⟨b4, eb4, h0⟩ := xlet h0
    refine x_nameR C eb4 ?_
    have hb4 : b4 = 571 ∨ b4 = 572 := by rw [eb4]; exact o3.2
    refine x_aload_n C d_Model_isDigit_15 0 rfl ?_
    refine x_getI (y := 0) C fg_Model_143 k_570 rfl d_Model_isDigit_16 ?_
    refine x_aload_n C d_Model_isDigit_19 0 rfl ?_
    refine x_getI (y := 0) C fg_Model_137 k_570 rfl d_Model_isDigit_20 ?_
    refine x_iadd C d_Model_isDigit_23 ?_
    obtain ⟨g5, h0⟩ := xgo h0
    refine x_bald C (tx_in hb4) (ib_in g5) d_Model_isDigit_24 ?_
    refine x_bipush (v := 48) C d_Model_isDigit_25 (by decide) ?_
    refine x_icmp_lt C 53 d_Model_isDigit_27 (by decide) (fun q6 => ?_) (fun q6 => ?_)
    · replace h0 := xit q6 h0
      exact x_lv C [] rfl (b_Model_isDigit_53 C hr hk hd hR h0)
    · replace h0 := xif q6 h0
      refine x_aload_n C d_Model_isDigit_30 0 rfl ?_
      refine x_getX (y := 0) C fg_Model_23 k_570 rfl d_Model_isDigit_31 (fun o7 => ?_)
      obtain ⟨b8, eb8, h0⟩ := xlet h0
      refine x_nameR C eb8 ?_
      have hb8 : b8 = 571 ∨ b8 = 572 := by rw [eb8]; exact o7.2
      refine x_aload_n C d_Model_isDigit_34 0 rfl ?_
      refine x_getI (y := 0) C fg_Model_143 k_570 rfl d_Model_isDigit_35 ?_
      refine x_aload_n C d_Model_isDigit_38 0 rfl ?_
      refine x_getI (y := 0) C fg_Model_137 k_570 rfl d_Model_isDigit_39 ?_
      refine x_iadd C d_Model_isDigit_42 ?_
      obtain ⟨g9, h0⟩ := xgo h0
      refine x_bald C (tx_in hb8) (ib_in g9) d_Model_isDigit_43 ?_
      refine x_bipush (v := 57) C d_Model_isDigit_44 (by decide) ?_
      refine x_icmp_gt C 53 d_Model_isDigit_46 (by decide) (fun q10 => ?_) (fun q10 => ?_)
      · replace h0 := xit q10 h0
        exact x_lv C [] rfl (b_Model_isDigit_53 C hr hk hd hR h0)
      · replace h0 := xif q10 h0
        refine x_iconst (v := 1) C d_Model_isDigit_49 (by decide) ?_
        refine x_goto C 54 d_Model_isDigit_50 (by decide) ?_
        exact x_lv C [] rfl (b_Model_isDigit_54 C hr hk hd hR h0)
-- LostPlacesModel.within(J)I
theorem d_Model_within_0 : decode prog_14_method_15_code 0 = .ok (.ldc2_w 159, 3) := by decide +kernel
theorem d_Model_within_3 : decode prog_14_method_15_code 3 = .ok (.ldc2_w 161, 3) := by decide +kernel
theorem d_Model_within_6 : decode prog_14_method_15_code 6 = .ok (.lload_n 0, 1) := by decide +kernel
theorem d_Model_within_7 : decode prog_14_method_15_code 7 = .ok (.invokestatic 163, 3) := by decide +kernel
theorem d_Model_within_10 : decode prog_14_method_15_code 10 = .ok (.invokestatic 169, 3) := by decide +kernel
theorem d_Model_within_13 : decode prog_14_method_15_code 13 = .ok (.l2i, 1) := by decide +kernel
theorem d_Model_within_14 : decode prog_14_method_15_code 14 = .ok (.ireturn, 1) := by decide +kernel
def s_Model_within (p0 : Int64) (σ : LH) : Option (Int32 × LH) :=
  some ((Int64.toInt32 (if (if p0 < 1000000 then p0 else 1000000) < (-1000000) then (-1000000) else (if p0 < 1000000 then p0 else 1000000))), σ)
theorem c_Model_within {G : XG} {l : Launch} {d : Nat} (hd : 2 ≤ d) {p0 : Int64} {σ σ' : LH} {r : Int32} (h0 : s_Model_within p0 σ = some (r, σ')) : xM G 570 598 l y_Model_within prog_14_method_15_code 2 (some .int) d [.long (p0)] σ (some (.int r)) σ' := by
  obtain ⟨d, rfl⟩ : ∃ q, d = q + 1 := ⟨d - 1, by omega⟩
  refine x_met R_Model rfl (by decide +kernel) (Nat.le_of_ble_eq_true rfl) fun p e s m below meth c C hr hk hR => ?_
  refine x_lv (lv' := [(0, .long (p0))]) C [0] rfl ?_
  generalize xrm (d + 1) = R at hR ⊢
  unfold s_Model_within at h0
  refine x_ldc2 (v := (-1000000)) C w_1823 d_Model_within_0 ?_
  refine x_ldc2 (v := 1000000) C w_1824 d_Model_within_3 ?_
  refine x_lload_n C d_Model_within_6 0 rfl ?_
  refine x_mmin_long C (xroom1 hR) w_1825 w_1826 w_123 w_1827 (Nat.le_of_ble_eq_true rfl) ⟨Nat.zero_le _, Nat.zero_le _⟩ d_Model_within_7 ?_
  refine x_mmax_long C (xroom1 hR) w_1828 w_1829 w_123 w_1830 (Nat.le_of_ble_eq_true rfl) ⟨Nat.zero_le _, Nat.zero_le _⟩ d_Model_within_10 ?_
  refine x_l2i C d_Model_within_13 ?_
  exact x_iret C hr hk h0 d_Model_within_14
-- LostPlacesModel.atom()I
theorem d_Model_atom_0 : decode prog_14_method_16_code 0 = .ok (.aload_n 0, 1) := by decide +kernel
theorem d_Model_atom_1 : decode prog_14_method_16_code 1 = .ok (.invokevirtual 156, 3) := by decide +kernel
theorem d_Model_atom_4 : decode prog_14_method_16_code 4 = .ok (.istore_n 1, 1) := by decide +kernel
theorem d_Model_atom_5 : decode prog_14_method_16_code 5 = .ok (.ldc 32, 2) := by decide +kernel
theorem d_Model_atom_7 : decode prog_14_method_16_code 7 = .ok (.iload_n 1, 1) := by decide +kernel
theorem d_Model_atom_8 : decode prog_14_method_16_code 8 = .ok (.invokestatic 172, 3) := by decide +kernel
theorem d_Model_atom_11 : decode prog_14_method_16_code 11 = .ok (.ifCond .eq 20, 3) := by decide +kernel
theorem d_Model_atom_14 : decode prog_14_method_16_code 14 = .ok (.aload_n 0, 1) := by decide +kernel
theorem d_Model_atom_15 : decode prog_14_method_16_code 15 = .ok (.dup, 1) := by decide +kernel
theorem d_Model_atom_16 : decode prog_14_method_16_code 16 = .ok (.getfield 137, 3) := by decide +kernel
theorem d_Model_atom_19 : decode prog_14_method_16_code 19 = .ok (.iconst 1, 1) := by decide +kernel
theorem d_Model_atom_20 : decode prog_14_method_16_code 20 = .ok (.iadd, 1) := by decide +kernel
theorem d_Model_atom_21 : decode prog_14_method_16_code 21 = .ok (.putfield 137, 3) := by decide +kernel
theorem d_Model_atom_24 : decode prog_14_method_16_code 24 = .ok (.aload_n 0, 1) := by decide +kernel
theorem d_Model_atom_25 : decode prog_14_method_16_code 25 = .ok (.getfield 20, 3) := by decide +kernel
theorem d_Model_atom_28 : decode prog_14_method_16_code 28 = .ok (.iload_n 1, 1) := by decide +kernel
theorem d_Model_atom_29 : decode prog_14_method_16_code 29 = .ok (.iaload, 1) := by decide +kernel
theorem d_Model_atom_30 : decode prog_14_method_16_code 30 = .ok (.ireturn, 1) := by decide +kernel
theorem d_Model_atom_31 : decode prog_14_method_16_code 31 = .ok (.iload_n 1, 1) := by decide +kernel
theorem d_Model_atom_32 : decode prog_14_method_16_code 32 = .ok (.bipush 91, 2) := by decide +kernel
theorem d_Model_atom_34 : decode prog_14_method_16_code 34 = .ok (.if_icmp .ne 40, 3) := by decide +kernel
theorem d_Model_atom_37 : decode prog_14_method_16_code 37 = .ok (.aload_n 0, 1) := by decide +kernel
theorem d_Model_atom_38 : decode prog_14_method_16_code 38 = .ok (.invokevirtual 176, 3) := by decide +kernel
theorem d_Model_atom_41 : decode prog_14_method_16_code 41 = .ok (.ifCond .ne 5, 3) := by decide +kernel
theorem d_Model_atom_44 : decode prog_14_method_16_code 44 = .ok (.iconst 0, 1) := by decide +kernel
theorem d_Model_atom_45 : decode prog_14_method_16_code 45 = .ok (.ireturn, 1) := by decide +kernel
theorem d_Model_atom_46 : decode prog_14_method_16_code 46 = .ok (.aload_n 0, 1) := by decide +kernel
theorem d_Model_atom_47 : decode prog_14_method_16_code 47 = .ok (.invokevirtual 179, 3) := by decide +kernel
theorem d_Model_atom_50 : decode prog_14_method_16_code 50 = .ok (.istore_n 2, 1) := by decide +kernel
theorem d_Model_atom_51 : decode prog_14_method_16_code 51 = .ok (.aload_n 0, 1) := by decide +kernel
theorem d_Model_atom_52 : decode prog_14_method_16_code 52 = .ok (.bipush 93, 2) := by decide +kernel
theorem d_Model_atom_54 : decode prog_14_method_16_code 54 = .ok (.invokevirtual 182, 3) := by decide +kernel
theorem d_Model_atom_57 : decode prog_14_method_16_code 57 = .ok (.ifCond .ne 5, 3) := by decide +kernel
theorem d_Model_atom_60 : decode prog_14_method_16_code 60 = .ok (.iconst 0, 1) := by decide +kernel
theorem d_Model_atom_61 : decode prog_14_method_16_code 61 = .ok (.ireturn, 1) := by decide +kernel
theorem d_Model_atom_62 : decode prog_14_method_16_code 62 = .ok (.aload_n 0, 1) := by decide +kernel
theorem d_Model_atom_63 : decode prog_14_method_16_code 63 = .ok (.dup, 1) := by decide +kernel
theorem d_Model_atom_64 : decode prog_14_method_16_code 64 = .ok (.getfield 149, 3) := by decide +kernel
theorem d_Model_atom_67 : decode prog_14_method_16_code 67 = .ok (.iconst 1, 1) := by decide +kernel
theorem d_Model_atom_68 : decode prog_14_method_16_code 68 = .ok (.isub, 1) := by decide +kernel
theorem d_Model_atom_69 : decode prog_14_method_16_code 69 = .ok (.putfield 149, 3) := by decide +kernel
theorem d_Model_atom_72 : decode prog_14_method_16_code 72 = .ok (.iload_n 2, 1) := by decide +kernel
theorem d_Model_atom_73 : decode prog_14_method_16_code 73 = .ok (.ireturn, 1) := by decide +kernel
theorem d_Model_atom_74 : decode prog_14_method_16_code 74 = .ok (.aload_n 0, 1) := by decide +kernel
theorem d_Model_atom_75 : decode prog_14_method_16_code 75 = .ok (.invokevirtual 186, 3) := by decide +kernel
theorem d_Model_atom_78 : decode prog_14_method_16_code 78 = .ok (.ifCond .ne 8, 3) := by decide +kernel
theorem d_Model_atom_81 : decode prog_14_method_16_code 81 = .ok (.aload_n 0, 1) := by decide +kernel
theorem d_Model_atom_82 : decode prog_14_method_16_code 82 = .ok (.invokevirtual 152, 3) := by decide +kernel
theorem d_Model_atom_85 : decode prog_14_method_16_code 85 = .ok (.pop, 1) := by decide +kernel
theorem d_Model_atom_86 : decode prog_14_method_16_code 86 = .ok (.iconst 0, 1) := by decide +kernel
theorem d_Model_atom_87 : decode prog_14_method_16_code 87 = .ok (.istore_n 2, 1) := by decide +kernel
theorem d_Model_atom_88 : decode prog_14_method_16_code 88 = .ok (.iconst 0, 1) := by decide +kernel
theorem d_Model_atom_89 : decode prog_14_method_16_code 89 = .ok (.istore_n 3, 1) := by decide +kernel
theorem d_Model_atom_90 : decode prog_14_method_16_code 90 = .ok (.aload_n 0, 1) := by decide +kernel
theorem d_Model_atom_91 : decode prog_14_method_16_code 91 = .ok (.invokevirtual 186, 3) := by decide +kernel
theorem d_Model_atom_94 : decode prog_14_method_16_code 94 = .ok (.ifCond .eq 62, 3) := by decide +kernel
theorem d_Model_atom_97 : decode prog_14_method_16_code 97 = .ok (.aload_n 0, 1) := by decide +kernel
theorem d_Model_atom_98 : decode prog_14_method_16_code 98 = .ok (.getfield 146, 3) := by decide +kernel
theorem d_Model_atom_101 : decode prog_14_method_16_code 101 = .ok (.iconst (-1), 1) := by decide +kernel
theorem d_Model_atom_102 : decode prog_14_method_16_code 102 = .ok (.if_icmp .ne 54, 3) := by decide +kernel
theorem d_Model_atom_105 : decode prog_14_method_16_code 105 = .ok (.iload_n 3, 1) := by decide +kernel
theorem d_Model_atom_106 : decode prog_14_method_16_code 106 = .ok (.iconst 4, 1) := by decide +kernel
theorem d_Model_atom_107 : decode prog_14_method_16_code 107 = .ok (.if_icmp .ne 10, 3) := by decide +kernel
theorem d_Model_atom_110 : decode prog_14_method_16_code 110 = .ok (.aload_n 0, 1) := by decide +kernel
theorem d_Model_atom_111 : decode prog_14_method_16_code 111 = .ok (.invokevirtual 152, 3) := by decide +kernel
theorem d_Model_atom_114 : decode prog_14_method_16_code 114 = .ok (.pop, 1) := by decide +kernel
theorem d_Model_atom_115 : decode prog_14_method_16_code 115 = .ok (.iconst 0, 1) := by decide +kernel
theorem d_Model_atom_116 : decode prog_14_method_16_code 116 = .ok (.ireturn, 1) := by decide +kernel
theorem d_Model_atom_117 : decode prog_14_method_16_code 117 = .ok (.bipush 10, 2) := by decide +kernel
theorem d_Model_atom_119 : decode prog_14_method_16_code 119 = .ok (.iload_n 2, 1) := by decide +kernel
theorem d_Model_atom_120 : decode prog_14_method_16_code 120 = .ok (.imul, 1) := by decide +kernel
theorem d_Model_atom_121 : decode prog_14_method_16_code 121 = .ok (.aload_n 0, 1) := by decide +kernel
theorem d_Model_atom_122 : decode prog_14_method_16_code 122 = .ok (.getfield 23, 3) := by decide +kernel
theorem d_Model_atom_125 : decode prog_14_method_16_code 125 = .ok (.aload_n 0, 1) := by decide +kernel
theorem d_Model_atom_126 : decode prog_14_method_16_code 126 = .ok (.getfield 143, 3) := by decide +kernel
theorem d_Model_atom_129 : decode prog_14_method_16_code 129 = .ok (.aload_n 0, 1) := by decide +kernel
theorem d_Model_atom_130 : decode prog_14_method_16_code 130 = .ok (.getfield 137, 3) := by decide +kernel
theorem d_Model_atom_133 : decode prog_14_method_16_code 133 = .ok (.iadd, 1) := by decide +kernel
theorem d_Model_atom_134 : decode prog_14_method_16_code 134 = .ok (.baload, 1) := by decide +kernel
theorem d_Model_atom_135 : decode prog_14_method_16_code 135 = .ok (.iadd, 1) := by decide +kernel
theorem d_Model_atom_136 : decode prog_14_method_16_code 136 = .ok (.bipush 48, 2) := by decide +kernel
theorem d_Model_atom_138 : decode prog_14_method_16_code 138 = .ok (.isub, 1) := by decide +kernel
theorem d_Model_atom_139 : decode prog_14_method_16_code 139 = .ok (.istore_n 2, 1) := by decide +kernel
theorem d_Model_atom_140 : decode prog_14_method_16_code 140 = .ok (.aload_n 0, 1) := by decide +kernel
theorem d_Model_atom_141 : decode prog_14_method_16_code 141 = .ok (.dup, 1) := by decide +kernel
theorem d_Model_atom_142 : decode prog_14_method_16_code 142 = .ok (.getfield 137, 3) := by decide +kernel
theorem d_Model_atom_145 : decode prog_14_method_16_code 145 = .ok (.iconst 1, 1) := by decide +kernel
theorem d_Model_atom_146 : decode prog_14_method_16_code 146 = .ok (.iadd, 1) := by decide +kernel
theorem d_Model_atom_147 : decode prog_14_method_16_code 147 = .ok (.putfield 137, 3) := by decide +kernel
theorem d_Model_atom_150 : decode prog_14_method_16_code 150 = .ok (.iinc 3 1, 3) := by decide +kernel
theorem d_Model_atom_153 : decode prog_14_method_16_code 153 = .ok (.goto (-63), 3) := by decide +kernel
theorem d_Model_atom_156 : decode prog_14_method_16_code 156 = .ok (.iload_n 2, 1) := by decide +kernel
theorem d_Model_atom_157 : decode prog_14_method_16_code 157 = .ok (.ireturn, 1) := by decide +kernel
def s_Model_atom_156 (rf : LH → Option (Int32 × LH)) (y2 : Int32) (σ : LH) : Option (Int32 × LH) :=
  some (y2, σ)
theorem b_Model_atom_156 {G : XG} {l : Launch} {p : Program} {e : Env} {R : Room} {s : State} {m : MethodId} {args : Array Value} {below : List Frame} {meth : Method} {c : Code} (C : XC G 570 598 p s m args c prog_14_method_16_code 4 R_Model) (hr : meth.sig.returnType = (some .int)) (hk : meth.locks = false) {d dr : Nat} (hd : dr + 1 ≤ d + 1) (hd2 : 10 ≤ d + 1) (hR : xroom R (d + 1)) {rf : LH → Option (Int32 × LH)} (hrf : ∀ (σ : LH) (r : Int32) (σ' : LH), rf σ = some (r, σ') → ∀ d, dr ≤ d → xM G 570 598 l y_Model_sum prog_14_method_18_code 5 (some .int) d [.ref (G.2.2.1 + 570)] σ (some (.int r)) σ') {σ' : LH} {r : Int32} {y2 : Int32} {σ : LH} (h0 : s_Model_atom_156 rf y2 σ = some (r, σ')) : XJ G 570 598 p l e R s m args below meth c 4 (XQ G 570 598 below args s (some (.int r)) σ') 0 0 156 [(2, .int y2)] [] σ := by
  replace h0 := (show _ = _ from h0)
  unfold s_Model_atom_156 at h0
  refine x_iload_n C d_Model_atom_156 0 rfl ?_
  exact x_iret C hr hk h0 d_Model_atom_157
def s_Model_atom_90_b (rf : LH → Option (Int32 × LH)) (rec90 : Int32 → Int32 → LH → Option (Int32 × LH)) (y2 : Int32) (y3 : Int32) (σ : LH) : Option (Int32 × LH) :=
  xb2 (s_Model_isDigit σ) fun r29 σ30 =>
  if r29 = 0 then (
   s_Model_atom_156 rf y2 σ30)
  else (
   if (σ30.1 570 11) = (-1) then (
    if y3 = 4 then (
     xb2 (s_Model_fails σ30) fun r35 σ36 =>
     some (0, σ36))
    else (
     xl ((σ30.2.2.2) : Nat) fun b38 =>
     if ib ((σ30.1 570 8) + (σ30.1 570 10)) (if b38 = 571 then 240 else 960) then (
     xl (((((10 * y2) + (σ30.1 b38 (Int32.toNatClampNeg ((σ30.1 570 8) + (σ30.1 570 10))))) - 48)) : Int32) fun x40 =>
     xl ((stI σ30 570 10 ((σ30.1 570 10) + 1)) : LH) fun σ41 =>
     xl ((y3 + 1) : Int32) fun x42 =>
     rec90 x40 x42 σ41) else none))
   else (
    s_Model_atom_156 rf y2 σ30))
def s_Model_atom_90 (rf : LH → Option (Int32 × LH)) : Nat → Int32 → Int32 → LH → Option (Int32 × LH)
  | 0, _, _, _ => none
  | n + 1, y2, y3, σ => s_Model_atom_90_b rf (s_Model_atom_90 rf n) y2 y3 σ
theorem bb_Model_atom_90 {G : XG} {l : Launch} {p : Program} {e : Env} {R : Room} {s : State} {m : MethodId} {args : Array Value} {below : List Frame} {meth : Method} {c : Code} (C : XC G 570 598 p s m args c prog_14_method_16_code 4 R_Model) (hr : meth.sig.returnType = (some .int)) (hk : meth.locks = false) {d dr : Nat} (hd : dr + 1 ≤ d + 1) (hd2 : 10 ≤ d + 1) (hR : xroom R (d + 1)) {rf : LH → Option (Int32 × LH)} (hrf : ∀ (σ : LH) (r : Int32) (σ' : LH), rf σ = some (r, σ') → ∀ d, dr ≤ d → xM G 570 598 l y_Model_sum prog_14_method_18_code 5 (some .int) d [.ref (G.2.2.1 + 570)] σ (some (.int r)) σ') {rec90 : Int32 → Int32 → LH → Option (Int32 × LH)} {σ' : LH} {r : Int32} (hrec90 : ∀ (y2 : Int32) (y3 : Int32) (σ : LH), rec90 y2 y3 σ = some (r, σ') → XJ G 570 598 p l e R s m args below meth c 4 (XQ G 570 598 below args s (some (.int r)) σ') 0 0 90 [(0, .ref (G.2.2.1 + 570)), (2, .int y2), (3, .int y3)] [] σ) {y2 : Int32} {y3 : Int32} {σ : LH} (h0 : s_Model_atom_90_b rf rec90 y2 y3 σ = some (r, σ')) : XJ G 570 598 p l e R s m args below meth c 4 (XQ G 570 598 below args s (some (.int r)) σ') 0 0 90 [(0, .ref (G.2.2.1 + 570)), (2, .int y2), (3, .int y3)] [] σ := by
  replace h0 := (show _ = _ from h0)
  unfold s_Model_atom_90_b at h0
  refine x_aload_n C d_Model_atom_90 0 rfl ?_
  obtain ⟨r29, σ30, k28, h0⟩ := xbind2 h0
  refine x_callVi C hR (c_Model_isDigit (d := d) (by omega) k28) cw_Model_186 k_570 rfl rfl rfl (Nat.le_of_ble_eq_true rfl) ⟨Nat.zero_le _, Nat.zero_le _⟩ d_Model_atom_91 ?_
  refine x_if_eq C 156 d_Model_atom_94 (by decide) (fun q31 => ?_) (fun q31 => ?_)
  · replace h0 := xit q31 h0
    exact x_lv C [1] rfl (b_Model_atom_156 C hr hk hd hd2 hR hrf h0)
  · replace h0 := xif q31 h0
    refine x_aload_n C d_Model_atom_97 0 rfl ?_
    refine x_getI (y := 0) C fg_Model_146 k_570 rfl d_Model_atom_98 ?_
    refine x_iconst (v := (-1)) C d_Model_atom_101 (by decide) ?_
    refine x_icmp_ne C 156 d_Model_atom_102 (by decide) (fun q32 => ?_) (fun q32 => ?_)
    · replace h0 := xif q32 h0
      exact x_lv C [1] rfl (b_Model_atom_156 C hr hk hd hd2 hR hrf h0)
    · replace h0 := xit q32 h0
      refine x_iload_n C d_Model_atom_105 2 rfl ?_
      refine x_iconst (v := 4) C d_Model_atom_106 (by decide) ?_
      refine x_icmp_ne C 117 d_Model_atom_107 (by decide) (fun q33 => ?_) (fun q33 => ?_)
      · replace h0 := xif q33 h0
        refine x_bipush (v := 10) C d_Model_atom_117 (by decide) ?_
        refine x_iload_n C d_Model_atom_119 1 rfl ?_
        refine x_imul C d_Model_atom_120 ?_
        refine x_aload_n C d_Model_atom_121 0 rfl ?_
        refine x_getX (y := 0) C fg_Model_23 k_570 rfl d_Model_atom_122 (fun o37 => ?_)
        obtain ⟨b38, eb38, h0⟩ := xlet h0
        refine x_nameR C eb38 ?_
        have hb38 : b38 = 571 ∨ b38 = 572 := by rw [eb38]; exact o37.2
        refine x_aload_n C d_Model_atom_125 0 rfl ?_
        refine x_getI (y := 0) C fg_Model_143 k_570 rfl d_Model_atom_126 ?_
        refine x_aload_n C d_Model_atom_129 0 rfl ?_
        refine x_getI (y := 0) C fg_Model_137 k_570 rfl d_Model_atom_130 ?_
        refine x_iadd C d_Model_atom_133 ?_
        obtain ⟨g39, h0⟩ := xgo h0
        refine x_bald C (tx_in hb38) (ib_in g39) d_Model_atom_134 ?_
        refine x_iadd C d_Model_atom_135 ?_
        refine x_bipush (v := 48) C d_Model_atom_136 (by decide) ?_
        refine x_isub C d_Model_atom_138 ?_
        obtain ⟨x40, ex40, h0⟩ := xlet h0
        refine x_name C ex40 ?_
        refine x_istore_n (lv' := [(2, .int x40), (0, .ref (G.2.2.1 + 570)), (3, .int y3)]) C d_Model_atom_139 rfl (by decide) rfl ?_
        refine x_aload_n C d_Model_atom_140 1 rfl ?_
        refine x_dup C d_Model_atom_141 rfl ?_
        refine x_getI (y := 0) C fg_Model_137 k_570 rfl d_Model_atom_142 ?_
        refine x_iconst (v := 1) C d_Model_atom_145 (by decide) ?_
        refine x_iadd C d_Model_atom_146 ?_
        refine x_putI (y := 0) C fp_Model_137 k_570 rfl rfl rfl d_Model_atom_147 ?_
        obtain ⟨σ41, eσ41, h0⟩ := xlet h0
        refine x_sig C eσ41 ?_
        obtain ⟨x42, ex42, h0⟩ := xlet h0
        refine x_iinc (lv' := [(3, .int x42), (2, .int x40), (0, .ref (G.2.2.1 + 570))]) C d_Model_atom_150 2 rfl ex42 (by decide) rfl ?_
        refine x_goto C 90 d_Model_atom_153 (by decide) ?_
        exact x_lv C [2, 1, 0] rfl (hrec90 _ _ _ h0)
      · replace h0 := xit q33 h0
        refine x_aload_n C d_Model_atom_110 0 rfl ?_
        obtain ⟨r35, σ36, k34, h0⟩ := xbind2 h0
        refine x_callVi C hR (c_Model_fails (d := d) (by omega) k34) cw_Model_152 k_570 rfl rfl rfl (Nat.le_of_ble_eq_true rfl) ⟨Nat.zero_le _, Nat.zero_le _⟩ d_Model_atom_111 ?_
        refine x_pop C d_Model_atom_114 rfl ?_
        refine x_iconst (v := 0) C d_Model_atom_115 (by decide) ?_
        exact x_iret C hr hk h0 d_Model_atom_116
theorem b_Model_atom_90 {G : XG} {l : Launch} {p : Program} {e : Env} {R : Room} {s : State} {m : MethodId} {args : Array Value} {below : List Frame} {meth : Method} {c : Code} (C : XC G 570 598 p s m args c prog_14_method_16_code 4 R_Model) (hr : meth.sig.returnType = (some .int)) (hk : meth.locks = false) {d dr : Nat} (hd : dr + 1 ≤ d + 1) (hd2 : 10 ≤ d + 1) (hR : xroom R (d + 1)) {rf : LH → Option (Int32 × LH)} (hrf : ∀ (σ : LH) (r : Int32) (σ' : LH), rf σ = some (r, σ') → ∀ d, dr ≤ d → xM G 570 598 l y_Model_sum prog_14_method_18_code 5 (some .int) d [.ref (G.2.2.1 + 570)] σ (some (.int r)) σ') {σ' : LH} {r : Int32} : ∀ (n : Nat) (y2 : Int32) (y3 : Int32) (σ : LH), s_Model_atom_90 rf n y2 y3 σ = some (r, σ') → XJ G 570 598 p l e R s m args below meth c 4 (XQ G 570 598 below args s (some (.int r)) σ') 0 0 90 [(0, .ref (G.2.2.1 + 570)), (2, .int y2), (3, .int y3)] [] σ := by
  intro n
  induction n with
  | zero => intro y2 y3 σ h0; cases h0
  | succ n ih => intro y2 y3 σ h0; exact bb_Model_atom_90 C hr hk hd hd2 hR hrf ih h0
def s_Model_atom_86 (rf : LH → Option (Int32 × LH)) (σ : LH) : Option (Int32 × LH) :=
  s_Model_atom_90 rf FUEL 0 0 σ
theorem b_Model_atom_86 {G : XG} {l : Launch} {p : Program} {e : Env} {R : Room} {s : State} {m : MethodId} {args : Array Value} {below : List Frame} {meth : Method} {c : Code} (C : XC G 570 598 p s m args c prog_14_method_16_code 4 R_Model) (hr : meth.sig.returnType = (some .int)) (hk : meth.locks = false) {d dr : Nat} (hd : dr + 1 ≤ d + 1) (hd2 : 10 ≤ d + 1) (hR : xroom R (d + 1)) {rf : LH → Option (Int32 × LH)} (hrf : ∀ (σ : LH) (r : Int32) (σ' : LH), rf σ = some (r, σ') → ∀ d, dr ≤ d → xM G 570 598 l y_Model_sum prog_14_method_18_code 5 (some .int) d [.ref (G.2.2.1 + 570)] σ (some (.int r)) σ') {σ' : LH} {r : Int32} {σ : LH} (h0 : s_Model_atom_86 rf σ = some (r, σ')) : XJ G 570 598 p l e R s m args below meth c 4 (XQ G 570 598 below args s (some (.int r)) σ') 0 0 86 [(0, .ref (G.2.2.1 + 570))] [] σ := by
  replace h0 := (show _ = _ from h0)
  unfold s_Model_atom_86 at h0
  refine x_iconst (v := 0) C d_Model_atom_86 (by decide) ?_
  refine x_istore_n (lv' := [(2, .int 0), (0, .ref (G.2.2.1 + 570))]) C d_Model_atom_87 rfl (by decide) rfl ?_
  refine x_iconst (v := 0) C d_Model_atom_88 (by decide) ?_
  refine x_istore_n (lv' := [(3, .int 0), (2, .int 0), (0, .ref (G.2.2.1 + 570))]) C d_Model_atom_89 rfl (by decide) rfl ?_
  exact x_lv C [2, 1, 0] rfl (b_Model_atom_90 C hr hk hd hd2 hR hrf FUEL _ _ _ h0)
def s_Model_atom (rf : LH → Option (Int32 × LH)) (σ : LH) : Option (Int32 × LH) :=
  xb2 (s_Model_look σ) fun r2 σ3 =>
  xb2 (s_Model_isAmong 0 r2 σ3) fun r5 σ6 =>
  if r5 = 0 then (
   if r2 = 91 then (
    xb2 (s_Model_goesIn σ6) fun r10 σ11 =>
    if r10 = 0 then (
     some (0, σ11))
    else (
     xb2 (rf σ11) fun r14 σ15 =>
     xb2 (s_Model_takes 93 σ15) fun r17 σ18 =>
     if r17 = 0 then (
      some (0, σ18))
     else (
      xl ((stI σ18 570 12 ((σ18.1 570 12) - 1)) : LH) fun σ20 =>
      some (r14, σ20))))
   else (
    xb2 (s_Model_isDigit σ6) fun r22 σ23 =>
    if r22 = 0 then (
     xb2 (s_Model_fails σ23) fun r26 σ27 =>
     s_Model_atom_86 rf σ27)
    else (
     s_Model_atom_86 rf σ23)))
  else (
   xl ((stI σ6 570 10 ((σ6.1 570 10) + 1)) : LH) fun σ43 =>
   if ib r2 128 then (
   some ((σ43.1 574 (Int32.toNatClampNeg r2)), σ43)) else none)
theorem c_Model_atom {G : XG} {l : Launch} {d dr : Nat} {rf : LH → Option (Int32 × LH)} (hrf : ∀ (σ : LH) (r : Int32) (σ' : LH), rf σ = some (r, σ') → ∀ d, dr ≤ d → xM G 570 598 l y_Model_sum prog_14_method_18_code 5 (some .int) d [.ref (G.2.2.1 + 570)] σ (some (.int r)) σ') (hd : dr + 1 ≤ d) (hd2 : 10 ≤ d) {σ σ' : LH} {r : Int32} (h0 : s_Model_atom rf σ = some (r, σ')) : xM G 570 598 l y_Model_atom prog_14_method_16_code 4 (some .int) d [.ref (G.2.2.1 + 570)] σ (some (.int r)) σ' := by
  obtain ⟨d, rfl⟩ : ∃ q, d = q + 1 := ⟨d - 1, by omega⟩
  refine x_met R_Model rfl (by decide +kernel) (Nat.le_of_ble_eq_true rfl) fun p e s m below meth c C hr hk hR => ?_
  refine x_lv (lv' := [(0, .ref (G.2.2.1 + 570))]) C [0] rfl ?_
  generalize xrm (d + 1) = R at hR ⊢
  unfold s_Model_atom at h0
  refine x_aload_n C d_Model_atom_0 0 rfl ?_
  obtain ⟨r2, σ3, k1, h0⟩ := xbind2 h0
  refine x_callVi C hR (c_Model_look (d := d) (by omega) k1) cw_Model_156 k_570 rfl rfl rfl (Nat.le_of_ble_eq_true rfl) ⟨Nat.zero_le _, Nat.zero_le _⟩ d_Model_atom_1 ?_
  refine x_istore_n (lv' := [(1, .int r2), (0, .ref (G.2.2.1 + 570))]) C d_Model_atom_4 rfl (by decide) rfl ?_
  refine x_ldcS (index := 32) (i := 0) C (by decide +kernel) d_Model_atom_5 ?_
  refine x_iload_n C d_Model_atom_7 0 rfl ?_
  obtain ⟨r5, σ6, k4, h0⟩ := xbind2 h0
  refine x_callSi C hR (c_Model_isAmong (d := d) (by omega) (by decide) k4) cw_Model_172 w_1786 rfl rfl (Nat.le_of_ble_eq_true rfl) ⟨Nat.zero_le _, Nat.zero_le _⟩ d_Model_atom_8 ?_
  refine x_if_eq C 31 d_Model_atom_11 (by decide) (fun q7 => ?_) (fun q7 => ?_)
  · replace h0 := xit q7 h0
    refine x_iload_n C d_Model_atom_31 0 rfl ?_
    refine x_bipush (v := 91) C d_Model_atom_32 (by decide) ?_
    refine x_icmp_ne C 74 d_Model_atom_34 (by decide) (fun q8 => ?_) (fun q8 => ?_)
    · replace h0 := xif q8 h0
      refine x_aload_n C d_Model_atom_74 1 rfl ?_
      obtain ⟨r22, σ23, k21, h0⟩ := xbind2 h0
      refine x_callVi C hR (c_Model_isDigit (d := d) (by omega) k21) cw_Model_186 k_570 rfl rfl rfl (Nat.le_of_ble_eq_true rfl) ⟨Nat.zero_le _, Nat.zero_le _⟩ d_Model_atom_75 ?_
      refine x_if_ne C 86 d_Model_atom_78 (by decide) (fun q24 => ?_) (fun q24 => ?_)
      · replace h0 := xif q24 h0
        exact x_lv C [1] rfl (b_Model_atom_86 C hr hk hd hd2 hR hrf h0)
      · replace h0 := xit q24 h0
        refine x_aload_n C d_Model_atom_81 1 rfl ?_
        obtain ⟨r26, σ27, k25, h0⟩ := xbind2 h0
        refine x_callVi C hR (c_Model_fails (d := d) (by omega) k25) cw_Model_152 k_570 rfl rfl rfl (Nat.le_of_ble_eq_true rfl) ⟨Nat.zero_le _, Nat.zero_le _⟩ d_Model_atom_82 ?_
        refine x_pop C d_Model_atom_85 rfl ?_
        exact x_lv C [1] rfl (b_Model_atom_86 C hr hk hd hd2 hR hrf h0)
    · replace h0 := xit q8 h0
      refine x_aload_n C d_Model_atom_37 1 rfl ?_
      obtain ⟨r10, σ11, k9, h0⟩ := xbind2 h0
      refine x_callVi C hR (c_Model_goesIn (d := d) (by omega) k9) cw_Model_176 k_570 rfl rfl rfl (Nat.le_of_ble_eq_true rfl) ⟨Nat.zero_le _, Nat.zero_le _⟩ d_Model_atom_38 ?_
      refine x_if_ne C 46 d_Model_atom_41 (by decide) (fun q12 => ?_) (fun q12 => ?_)
      · replace h0 := xif q12 h0
        refine x_aload_n C d_Model_atom_46 1 rfl ?_
        obtain ⟨r14, σ15, k13, h0⟩ := xbind2 h0
        refine x_callVi C hR (hrf  _ _ _ k13 d (by omega)) cw_Model_179 k_570 rfl rfl rfl (Nat.le_of_ble_eq_true rfl) ⟨Nat.zero_le _, Nat.zero_le _⟩ d_Model_atom_47 ?_
        refine x_istore_n (lv' := [(2, .int r14), (1, .int r2), (0, .ref (G.2.2.1 + 570))]) C d_Model_atom_50 rfl (by decide) rfl ?_
        refine x_aload_n C d_Model_atom_51 2 rfl ?_
        refine x_bipush (v := 93) C d_Model_atom_52 (by decide) ?_
        obtain ⟨r17, σ18, k16, h0⟩ := xbind2 h0
        refine x_callVi C hR (c_Model_takes (d := d) (by omega) k16) cw_Model_182 k_570 rfl rfl rfl (Nat.le_of_ble_eq_true rfl) ⟨Nat.zero_le _, Nat.zero_le _⟩ d_Model_atom_54 ?_
        refine x_if_ne C 62 d_Model_atom_57 (by decide) (fun q19 => ?_) (fun q19 => ?_)
        · replace h0 := xif q19 h0
          refine x_aload_n C d_Model_atom_62 2 rfl ?_
          refine x_dup C d_Model_atom_63 rfl ?_
          refine x_getI (y := 0) C fg_Model_149 k_570 rfl d_Model_atom_64 ?_
          refine x_iconst (v := 1) C d_Model_atom_67 (by decide) ?_
          refine x_isub C d_Model_atom_68 ?_
          refine x_putI (y := 0) C fp_Model_149 k_570 rfl rfl rfl d_Model_atom_69 ?_
          obtain ⟨σ20, eσ20, h0⟩ := xlet h0
          refine x_sig C eσ20 ?_
          refine x_iload_n C d_Model_atom_72 0 rfl ?_
          exact x_iret C hr hk h0 d_Model_atom_73
        · replace h0 := xit q19 h0
          refine x_iconst (v := 0) C d_Model_atom_60 (by decide) ?_
          exact x_iret C hr hk h0 d_Model_atom_61
      · replace h0 := xit q12 h0
        refine x_iconst (v := 0) C d_Model_atom_44 (by decide) ?_
        exact x_iret C hr hk h0 d_Model_atom_45
  · replace h0 := xif q7 h0
    refine x_aload_n C d_Model_atom_14 1 rfl ?_
    refine x_dup C d_Model_atom_15 rfl ?_
    refine x_getI (y := 0) C fg_Model_137 k_570 rfl d_Model_atom_16 ?_
    refine x_iconst (v := 1) C d_Model_atom_19 (by decide) ?_
    refine x_iadd C d_Model_atom_20 ?_
    refine x_putI (y := 0) C fp_Model_137 k_570 rfl rfl rfl d_Model_atom_21 ?_
    obtain ⟨σ43, eσ43, h0⟩ := xlet h0
    refine x_sig C eσ43 ?_
    refine x_aload_n C d_Model_atom_24 1 rfl ?_
    refine x_getA (y := 574) C fg_Model_20 k_570 rfl d_Model_atom_25 ?_
    refine x_iload_n C d_Model_atom_28 0 rfl ?_
    obtain ⟨g44, h0⟩ := xgo h0
    refine x_iald C k_574 (ib_in g44) d_Model_atom_29 ?_
    exact x_iret C hr hk h0 d_Model_atom_30
-- LostPlacesModel.term()I
theorem d_Model_term_0 : decode prog_14_method_17_code 0 = .ok (.aload_n 0, 1) := by decide +kernel
theorem d_Model_term_1 : decode prog_14_method_17_code 1 = .ok (.invokevirtual 189, 3) := by decide +kernel
theorem d_Model_term_4 : decode prog_14_method_17_code 4 = .ok (.istore_n 1, 1) := by decide +kernel
theorem d_Model_term_5 : decode prog_14_method_17_code 5 = .ok (.aload_n 0, 1) := by decide +kernel
theorem d_Model_term_6 : decode prog_14_method_17_code 6 = .ok (.getfield 146, 3) := by decide +kernel
theorem d_Model_term_9 : decode prog_14_method_17_code 9 = .ok (.iconst (-1), 1) := by decide +kernel
theorem d_Model_term_10 : decode prog_14_method_17_code 10 = .ok (.if_icmp .ne 84, 3) := by decide +kernel
theorem d_Model_term_13 : decode prog_14_method_17_code 13 = .ok (.aload_n 0, 1) := by decide +kernel
theorem d_Model_term_14 : decode prog_14_method_17_code 14 = .ok (.invokevirtual 156, 3) := by decide +kernel
theorem d_Model_term_17 : decode prog_14_method_17_code 17 = .ok (.bipush 42, 2) := by decide +kernel
theorem d_Model_term_19 : decode prog_14_method_17_code 19 = .ok (.if_icmp .eq 12, 3) := by decide +kernel
theorem d_Model_term_22 : decode prog_14_method_17_code 22 = .ok (.aload_n 0, 1) := by decide +kernel
theorem d_Model_term_23 : decode prog_14_method_17_code 23 = .ok (.invokevirtual 156, 3) := by decide +kernel
theorem d_Model_term_26 : decode prog_14_method_17_code 26 = .ok (.bipush 47, 2) := by decide +kernel
theorem d_Model_term_28 : decode prog_14_method_17_code 28 = .ok (.if_icmp .ne 66, 3) := by decide +kernel
theorem d_Model_term_31 : decode prog_14_method_17_code 31 = .ok (.aload_n 0, 1) := by decide +kernel
theorem d_Model_term_32 : decode prog_14_method_17_code 32 = .ok (.invokevirtual 156, 3) := by decide +kernel
theorem d_Model_term_35 : decode prog_14_method_17_code 35 = .ok (.bipush 42, 2) := by decide +kernel
theorem d_Model_term_37 : decode prog_14_method_17_code 37 = .ok (.if_icmp .ne 7, 3) := by decide +kernel
theorem d_Model_term_40 : decode prog_14_method_17_code 40 = .ok (.iconst 1, 1) := by decide +kernel
theorem d_Model_term_41 : decode prog_14_method_17_code 41 = .ok (.goto 4, 3) := by decide +kernel
theorem d_Model_term_44 : decode prog_14_method_17_code 44 = .ok (.iconst 0, 1) := by decide +kernel
theorem d_Model_term_45 : decode prog_14_method_17_code 45 = .ok (.istore_n 2, 1) := by decide +kernel
theorem d_Model_term_46 : decode prog_14_method_17_code 46 = .ok (.aload_n 0, 1) := by decide +kernel
theorem d_Model_term_47 : decode prog_14_method_17_code 47 = .ok (.dup, 1) := by decide +kernel
theorem d_Model_term_48 : decode prog_14_method_17_code 48 = .ok (.getfield 137, 3) := by decide +kernel
theorem d_Model_term_51 : decode prog_14_method_17_code 51 = .ok (.iconst 1, 1) := by decide +kernel
theorem d_Model_term_52 : decode prog_14_method_17_code 52 = .ok (.iadd, 1) := by decide +kernel
theorem d_Model_term_53 : decode prog_14_method_17_code 53 = .ok (.putfield 137, 3) := by decide +kernel
theorem d_Model_term_56 : decode prog_14_method_17_code 56 = .ok (.aload_n 0, 1) := by decide +kernel
theorem d_Model_term_57 : decode prog_14_method_17_code 57 = .ok (.invokevirtual 189, 3) := by decide +kernel
theorem d_Model_term_60 : decode prog_14_method_17_code 60 = .ok (.i2l, 1) := by decide +kernel
theorem d_Model_term_61 : decode prog_14_method_17_code 61 = .ok (.lstore_n 3, 1) := by decide +kernel
theorem d_Model_term_62 : decode prog_14_method_17_code 62 = .ok (.iload_n 2, 1) := by decide +kernel
theorem d_Model_term_63 : decode prog_14_method_17_code 63 = .ok (.ifCond .eq 10, 3) := by decide +kernel
theorem d_Model_term_66 : decode prog_14_method_17_code 66 = .ok (.iload_n 1, 1) := by decide +kernel
theorem d_Model_term_67 : decode prog_14_method_17_code 67 = .ok (.i2l, 1) := by decide +kernel
theorem d_Model_term_68 : decode prog_14_method_17_code 68 = .ok (.lload_n 3, 1) := by decide +kernel
theorem d_Model_term_69 : decode prog_14_method_17_code 69 = .ok (.lmul, 1) := by decide +kernel
theorem d_Model_term_70 : decode prog_14_method_17_code 70 = .ok (.goto 17, 3) := by decide +kernel
theorem d_Model_term_73 : decode prog_14_method_17_code 73 = .ok (.lload_n 3, 1) := by decide +kernel
theorem d_Model_term_74 : decode prog_14_method_17_code 74 = .ok (.lconst 0, 1) := by decide +kernel
theorem d_Model_term_75 : decode prog_14_method_17_code 75 = .ok (.lcmp, 1) := by decide +kernel
theorem d_Model_term_76 : decode prog_14_method_17_code 76 = .ok (.ifCond .ne 7, 3) := by decide +kernel
theorem d_Model_term_79 : decode prog_14_method_17_code 79 = .ok (.lconst 0, 1) := by decide +kernel
theorem d_Model_term_80 : decode prog_14_method_17_code 80 = .ok (.goto 7, 3) := by decide +kernel
theorem d_Model_term_83 : decode prog_14_method_17_code 83 = .ok (.iload_n 1, 1) := by decide +kernel
theorem d_Model_term_84 : decode prog_14_method_17_code 84 = .ok (.i2l, 1) := by decide +kernel
theorem d_Model_term_85 : decode prog_14_method_17_code 85 = .ok (.lload_n 3, 1) := by decide +kernel
theorem d_Model_term_86 : decode prog_14_method_17_code 86 = .ok (.ldiv, 1) := by decide +kernel
theorem d_Model_term_87 : decode prog_14_method_17_code 87 = .ok (.invokestatic 192, 3) := by decide +kernel
theorem d_Model_term_90 : decode prog_14_method_17_code 90 = .ok (.istore_n 1, 1) := by decide +kernel
theorem d_Model_term_91 : decode prog_14_method_17_code 91 = .ok (.goto (-86), 3) := by decide +kernel
theorem d_Model_term_94 : decode prog_14_method_17_code 94 = .ok (.iload_n 1, 1) := by decide +kernel
theorem d_Model_term_95 : decode prog_14_method_17_code 95 = .ok (.ireturn, 1) := by decide +kernel
def s_Model_term_87 (rf : LH → Option (Int32 × LH)) (rec5 : Int32 → LH → Option (Int32 × LH)) (z0 : Int64) (σ : LH) : Option (Int32 × LH) :=
  xb2 (s_Model_within z0 σ) fun r21 σ22 =>
  rec5 r21 σ22
theorem b_Model_term_87 {G : XG} {l : Launch} {p : Program} {e : Env} {R : Room} {s : State} {m : MethodId} {args : Array Value} {below : List Frame} {meth : Method} {c : Code} (C : XC G 570 598 p s m args c prog_14_method_17_code 5 R_Model) (hr : meth.sig.returnType = (some .int)) (hk : meth.locks = false) {d dr : Nat} (hd : dr + 2 ≤ d + 1) (hd2 : 11 ≤ d + 1) (hR : xroom R (d + 1)) {rf : LH → Option (Int32 × LH)} (hrf : ∀ (σ : LH) (r : Int32) (σ' : LH), rf σ = some (r, σ') → ∀ d, dr ≤ d → xM G 570 598 l y_Model_sum prog_14_method_18_code 5 (some .int) d [.ref (G.2.2.1 + 570)] σ (some (.int r)) σ') {rec5 : Int32 → LH → Option (Int32 × LH)} {σ' : LH} {r : Int32} (hrec5 : ∀ (y1 : Int32) (σ : LH), rec5 y1 σ = some (r, σ') → XJ G 570 598 p l e R s m args below meth c 5 (XQ G 570 598 below args s (some (.int r)) σ') 0 0 5 [(0, .ref (G.2.2.1 + 570)), (1, .int y1)] [] σ) {z0 : Int64} {σ : LH} (h0 : s_Model_term_87 rf rec5 z0 σ = some (r, σ')) : XJ G 570 598 p l e R s m args below meth c 5 (XQ G 570 598 below args s (some (.int r)) σ') 0 0 87 [(0, .ref (G.2.2.1 + 570))] [.long (z0)] σ := by
  replace h0 := (show _ = _ from h0)
  unfold s_Model_term_87 at h0
  obtain ⟨r21, σ22, k20, h0⟩ := xbind2 h0
  refine x_callSi C hR (c_Model_within (d := d) (by omega) k20) cw_Model_192 w_1821 rfl rfl (Nat.le_of_ble_eq_true rfl) ⟨Nat.zero_le _, Nat.zero_le _⟩ d_Model_term_87 ?_
  refine x_istore_n (lv' := [(1, .int r21), (0, .ref (G.2.2.1 + 570))]) C d_Model_term_90 rfl (by decide) rfl ?_
  refine x_goto C 5 d_Model_term_91 (by decide) ?_
  exact x_lv C [1, 0] rfl (hrec5 _ _ h0)
def s_Model_term_45 (rf : LH → Option (Int32 × LH)) (rec5 : Int32 → LH → Option (Int32 × LH)) (y1 : Int32) (z0 : Int32) (σ : LH) : Option (Int32 × LH) :=
  xl ((stI σ 570 10 ((σ.1 570 10) + 1)) : LH) fun σ13 =>
  xb2 (s_Model_atom rf σ13) fun r15 σ16 =>
  xl (((Int32.toInt64 r15)) : Int64) fun j17 =>
  if z0 = 0 then (
   if (lg_cmp j17 0) = 0 then (
    s_Model_term_87 rf rec5 0 σ16)
   else (
    if ¬ j17 = 0 then (
    s_Model_term_87 rf rec5 ((Int32.toInt64 y1) / j17) σ16) else none))
  else (
   s_Model_term_87 rf rec5 ((Int32.toInt64 y1) * j17) σ16)
theorem b_Model_term_45 {G : XG} {l : Launch} {p : Program} {e : Env} {R : Room} {s : State} {m : MethodId} {args : Array Value} {below : List Frame} {meth : Method} {c : Code} (C : XC G 570 598 p s m args c prog_14_method_17_code 5 R_Model) (hr : meth.sig.returnType = (some .int)) (hk : meth.locks = false) {d dr : Nat} (hd : dr + 2 ≤ d + 1) (hd2 : 11 ≤ d + 1) (hR : xroom R (d + 1)) {rf : LH → Option (Int32 × LH)} (hrf : ∀ (σ : LH) (r : Int32) (σ' : LH), rf σ = some (r, σ') → ∀ d, dr ≤ d → xM G 570 598 l y_Model_sum prog_14_method_18_code 5 (some .int) d [.ref (G.2.2.1 + 570)] σ (some (.int r)) σ') {rec5 : Int32 → LH → Option (Int32 × LH)} {σ' : LH} {r : Int32} (hrec5 : ∀ (y1 : Int32) (σ : LH), rec5 y1 σ = some (r, σ') → XJ G 570 598 p l e R s m args below meth c 5 (XQ G 570 598 below args s (some (.int r)) σ') 0 0 5 [(0, .ref (G.2.2.1 + 570)), (1, .int y1)] [] σ) {y1 : Int32} {z0 : Int32} {σ : LH} (h0 : s_Model_term_45 rf rec5 y1 z0 σ = some (r, σ')) : XJ G 570 598 p l e R s m args below meth c 5 (XQ G 570 598 below args s (some (.int r)) σ') 0 0 45 [(0, .ref (G.2.2.1 + 570)), (1, .int y1)] [.int z0] σ := by
  replace h0 := (show _ = _ from h0)
  unfold s_Model_term_45 at h0
  refine x_istore_n (lv' := [(2, .int z0), (0, .ref (G.2.2.1 + 570)), (1, .int y1)]) C d_Model_term_45 rfl (by decide) rfl ?_
  refine x_aload_n C d_Model_term_46 1 rfl ?_
  refine x_dup C d_Model_term_47 rfl ?_
  refine x_getI (y := 0) C fg_Model_137 k_570 rfl d_Model_term_48 ?_
  refine x_iconst (v := 1) C d_Model_term_51 (by decide) ?_
  refine x_iadd C d_Model_term_52 ?_
  refine x_putI (y := 0) C fp_Model_137 k_570 rfl rfl rfl d_Model_term_53 ?_
  obtain ⟨σ13, eσ13, h0⟩ := xlet h0
  refine x_sig C eσ13 ?_
  refine x_aload_n C d_Model_term_56 1 rfl ?_
  obtain ⟨r15, σ16, k14, h0⟩ := xbind2 h0
  refine x_callVi C hR (c_Model_atom hrf (d := d) (by omega) (by omega) k14) cw_Model_189 k_570 rfl rfl rfl (Nat.le_of_ble_eq_true rfl) ⟨Nat.zero_le _, Nat.zero_le _⟩ d_Model_term_57 ?_
  refine x_i2l C d_Model_term_60 ?_
  obtain ⟨j17, ej17, h0⟩ := xlet h0
  refine x_nameL C ej17 ?_
  refine x_lstore_n (lv' := [(3, .long (j17)), (2, .int z0), (0, .ref (G.2.2.1 + 570)), (1, .int y1)]) C d_Model_term_61 rfl (by decide) rfl ?_
  refine x_iload_n C d_Model_term_62 1 rfl ?_
  refine x_if_eq C 73 d_Model_term_63 (by decide) (fun q18 => ?_) (fun q18 => ?_)
  · replace h0 := xit q18 h0
    refine x_lload_n C d_Model_term_73 0 rfl ?_
    refine x_lconst (v := 0) C d_Model_term_74 (by decide) ?_
    refine x_lcmp C d_Model_term_75 ?_
    refine x_if_ne C 83 d_Model_term_76 (by decide) (fun q19 => ?_) (fun q19 => ?_)
    · replace h0 := xif q19 h0
      refine x_iload_n C d_Model_term_83 3 rfl ?_
      refine x_i2l C d_Model_term_84 ?_
      refine x_lload_n C d_Model_term_85 0 rfl ?_
      obtain ⟨g23, h0⟩ := xgo h0
      refine x_ldiv C d_Model_term_86 g23 ?_
      exact x_lv C [2] rfl (b_Model_term_87 C hr hk hd hd2 hR hrf hrec5 h0)
    · replace h0 := xit q19 h0
      refine x_lconst (v := 0) C d_Model_term_79 (by decide) ?_
      refine x_goto C 87 d_Model_term_80 (by decide) ?_
      exact x_lv C [2] rfl (b_Model_term_87 C hr hk hd hd2 hR hrf hrec5 h0)
  · replace h0 := xif q18 h0
    refine x_iload_n C d_Model_term_66 3 rfl ?_
    refine x_i2l C d_Model_term_67 ?_
    refine x_lload_n C d_Model_term_68 0 rfl ?_
    refine x_lmul C d_Model_term_69 ?_
    refine x_goto C 87 d_Model_term_70 (by decide) ?_
    exact x_lv C [2] rfl (b_Model_term_87 C hr hk hd hd2 hR hrf hrec5 h0)
def s_Model_term_31 (rf : LH → Option (Int32 × LH)) (rec5 : Int32 → LH → Option (Int32 × LH)) (y1 : Int32) (σ : LH) : Option (Int32 × LH) :=
  xb2 (s_Model_look σ) fun r10 σ11 =>
  if r10 = 42 then (
   s_Model_term_45 rf rec5 y1 1 σ11)
  else (
   s_Model_term_45 rf rec5 y1 0 σ11)
theorem b_Model_term_31 {G : XG} {l : Launch} {p : Program} {e : Env} {R : Room} {s : State} {m : MethodId} {args : Array Value} {below : List Frame} {meth : Method} {c : Code} (C : XC G 570 598 p s m args c prog_14_method_17_code 5 R_Model) (hr : meth.sig.returnType = (some .int)) (hk : meth.locks = false) {d dr : Nat} (hd : dr + 2 ≤ d + 1) (hd2 : 11 ≤ d + 1) (hR : xroom R (d + 1)) {rf : LH → Option (Int32 × LH)} (hrf : ∀ (σ : LH) (r : Int32) (σ' : LH), rf σ = some (r, σ') → ∀ d, dr ≤ d → xM G 570 598 l y_Model_sum prog_14_method_18_code 5 (some .int) d [.ref (G.2.2.1 + 570)] σ (some (.int r)) σ') {rec5 : Int32 → LH → Option (Int32 × LH)} {σ' : LH} {r : Int32} (hrec5 : ∀ (y1 : Int32) (σ : LH), rec5 y1 σ = some (r, σ') → XJ G 570 598 p l e R s m args below meth c 5 (XQ G 570 598 below args s (some (.int r)) σ') 0 0 5 [(0, .ref (G.2.2.1 + 570)), (1, .int y1)] [] σ) {y1 : Int32} {σ : LH} (h0 : s_Model_term_31 rf rec5 y1 σ = some (r, σ')) : XJ G 570 598 p l e R s m args below meth c 5 (XQ G 570 598 below args s (some (.int r)) σ') 0 0 31 [(0, .ref (G.2.2.1 + 570)), (1, .int y1)] [] σ := by
  replace h0 := (show _ = _ from h0)
  unfold s_Model_term_31 at h0
  refine x_aload_n C d_Model_term_31 0 rfl ?_
  obtain ⟨r10, σ11, k9, h0⟩ := xbind2 h0
  refine x_callVi C hR (c_Model_look (d := d) (by omega) k9) cw_Model_156 k_570 rfl rfl rfl (Nat.le_of_ble_eq_true rfl) ⟨Nat.zero_le _, Nat.zero_le _⟩ d_Model_term_32 ?_
  refine x_bipush (v := 42) C d_Model_term_35 (by decide) ?_
  refine x_icmp_ne C 44 d_Model_term_37 (by decide) (fun q12 => ?_) (fun q12 => ?_)
  · replace h0 := xif q12 h0
    refine x_iconst (v := 0) C d_Model_term_44 (by decide) ?_
    exact x_lv C [0, 1] rfl (b_Model_term_45 C hr hk hd hd2 hR hrf hrec5 h0)
  · replace h0 := xit q12 h0
    refine x_iconst (v := 1) C d_Model_term_40 (by decide) ?_
    refine x_goto C 45 d_Model_term_41 (by decide) ?_
    exact x_lv C [0, 1] rfl (b_Model_term_45 C hr hk hd hd2 hR hrf hrec5 h0)
def s_Model_term_94 (rf : LH → Option (Int32 × LH)) (y1 : Int32) (σ : LH) : Option (Int32 × LH) :=
  some (y1, σ)
theorem b_Model_term_94 {G : XG} {l : Launch} {p : Program} {e : Env} {R : Room} {s : State} {m : MethodId} {args : Array Value} {below : List Frame} {meth : Method} {c : Code} (C : XC G 570 598 p s m args c prog_14_method_17_code 5 R_Model) (hr : meth.sig.returnType = (some .int)) (hk : meth.locks = false) {d dr : Nat} (hd : dr + 2 ≤ d + 1) (hd2 : 11 ≤ d + 1) (hR : xroom R (d + 1)) {rf : LH → Option (Int32 × LH)} (hrf : ∀ (σ : LH) (r : Int32) (σ' : LH), rf σ = some (r, σ') → ∀ d, dr ≤ d → xM G 570 598 l y_Model_sum prog_14_method_18_code 5 (some .int) d [.ref (G.2.2.1 + 570)] σ (some (.int r)) σ') {σ' : LH} {r : Int32} {y1 : Int32} {σ : LH} (h0 : s_Model_term_94 rf y1 σ = some (r, σ')) : XJ G 570 598 p l e R s m args below meth c 5 (XQ G 570 598 below args s (some (.int r)) σ') 0 0 94 [(1, .int y1)] [] σ := by
  replace h0 := (show _ = _ from h0)
  unfold s_Model_term_94 at h0
  refine x_iload_n C d_Model_term_94 0 rfl ?_
  exact x_iret C hr hk h0 d_Model_term_95
def s_Model_term_5_b (rf : LH → Option (Int32 × LH)) (rec5 : Int32 → LH → Option (Int32 × LH)) (y1 : Int32) (σ : LH) : Option (Int32 × LH) :=
  if (σ.1 570 11) = (-1) then (
   xb2 (s_Model_look σ) fun r6 σ7 =>
   if r6 = 42 then (
    s_Model_term_31 rf rec5 y1 σ7)
   else (
    xb2 (s_Model_look σ7) fun r25 σ26 =>
    if r25 = 47 then (
     s_Model_term_31 rf rec5 y1 σ26)
    else (
     s_Model_term_94 rf y1 σ26)))
  else (
   s_Model_term_94 rf y1 σ)
def s_Model_term_5 (rf : LH → Option (Int32 × LH)) : Nat → Int32 → LH → Option (Int32 × LH)
  | 0, _, _ => none
  | n + 1, y1, σ => s_Model_term_5_b rf (s_Model_term_5 rf n) y1 σ
theorem bb_Model_term_5 {G : XG} {l : Launch} {p : Program} {e : Env} {R : Room} {s : State} {m : MethodId} {args : Array Value} {below : List Frame} {meth : Method} {c : Code} (C : XC G 570 598 p s m args c prog_14_method_17_code 5 R_Model) (hr : meth.sig.returnType = (some .int)) (hk : meth.locks = false) {d dr : Nat} (hd : dr + 2 ≤ d + 1) (hd2 : 11 ≤ d + 1) (hR : xroom R (d + 1)) {rf : LH → Option (Int32 × LH)} (hrf : ∀ (σ : LH) (r : Int32) (σ' : LH), rf σ = some (r, σ') → ∀ d, dr ≤ d → xM G 570 598 l y_Model_sum prog_14_method_18_code 5 (some .int) d [.ref (G.2.2.1 + 570)] σ (some (.int r)) σ') {rec5 : Int32 → LH → Option (Int32 × LH)} {σ' : LH} {r : Int32} (hrec5 : ∀ (y1 : Int32) (σ : LH), rec5 y1 σ = some (r, σ') → XJ G 570 598 p l e R s m args below meth c 5 (XQ G 570 598 below args s (some (.int r)) σ') 0 0 5 [(0, .ref (G.2.2.1 + 570)), (1, .int y1)] [] σ) {y1 : Int32} {σ : LH} (h0 : s_Model_term_5_b rf rec5 y1 σ = some (r, σ')) : XJ G 570 598 p l e R s m args below meth c 5 (XQ G 570 598 below args s (some (.int r)) σ') 0 0 5 [(0, .ref (G.2.2.1 + 570)), (1, .int y1)] [] σ := by
  replace h0 := (show _ = _ from h0)
  unfold s_Model_term_5_b at h0
  refine x_aload_n C d_Model_term_5 0 rfl ?_
  refine x_getI (y := 0) C fg_Model_146 k_570 rfl d_Model_term_6 ?_
  refine x_iconst (v := (-1)) C d_Model_term_9 (by decide) ?_
  refine x_icmp_ne C 94 d_Model_term_10 (by decide) (fun q4 => ?_) (fun q4 => ?_)
  · replace h0 := xif q4 h0
    exact x_lv C [1] rfl (b_Model_term_94 C hr hk hd hd2 hR hrf h0)
  · replace h0 := xit q4 h0
    refine x_aload_n C d_Model_term_13 0 rfl ?_
    obtain ⟨r6, σ7, k5, h0⟩ := xbind2 h0
    refine x_callVi C hR (c_Model_look (d := d) (by omega) k5) cw_Model_156 k_570 rfl rfl rfl (Nat.le_of_ble_eq_true rfl) ⟨Nat.zero_le _, Nat.zero_le _⟩ d_Model_term_14 ?_
    refine x_bipush (v := 42) C d_Model_term_17 (by decide) ?_
    refine x_icmp_eq C 31 d_Model_term_19 (by decide) (fun q8 => ?_) (fun q8 => ?_)
    · replace h0 := xit q8 h0
      exact x_lv C [0, 1] rfl (b_Model_term_31 C hr hk hd hd2 hR hrf hrec5 h0)
    · replace h0 := xif q8 h0
      refine x_aload_n C d_Model_term_22 0 rfl ?_
      obtain ⟨r25, σ26, k24, h0⟩ := xbind2 h0
      refine x_callVi C hR (c_Model_look (d := d) (by omega) k24) cw_Model_156 k_570 rfl rfl rfl (Nat.le_of_ble_eq_true rfl) ⟨Nat.zero_le _, Nat.zero_le _⟩ d_Model_term_23 ?_
      refine x_bipush (v := 47) C d_Model_term_26 (by decide) ?_
      refine x_icmp_ne C 94 d_Model_term_28 (by decide) (fun q27 => ?_) (fun q27 => ?_)
      · replace h0 := xif q27 h0
        exact x_lv C [1] rfl (b_Model_term_94 C hr hk hd hd2 hR hrf h0)
      · replace h0 := xit q27 h0
        exact x_lv C [0, 1] rfl (b_Model_term_31 C hr hk hd hd2 hR hrf hrec5 h0)
theorem b_Model_term_5 {G : XG} {l : Launch} {p : Program} {e : Env} {R : Room} {s : State} {m : MethodId} {args : Array Value} {below : List Frame} {meth : Method} {c : Code} (C : XC G 570 598 p s m args c prog_14_method_17_code 5 R_Model) (hr : meth.sig.returnType = (some .int)) (hk : meth.locks = false) {d dr : Nat} (hd : dr + 2 ≤ d + 1) (hd2 : 11 ≤ d + 1) (hR : xroom R (d + 1)) {rf : LH → Option (Int32 × LH)} (hrf : ∀ (σ : LH) (r : Int32) (σ' : LH), rf σ = some (r, σ') → ∀ d, dr ≤ d → xM G 570 598 l y_Model_sum prog_14_method_18_code 5 (some .int) d [.ref (G.2.2.1 + 570)] σ (some (.int r)) σ') {σ' : LH} {r : Int32} : ∀ (n : Nat) (y1 : Int32) (σ : LH), s_Model_term_5 rf n y1 σ = some (r, σ') → XJ G 570 598 p l e R s m args below meth c 5 (XQ G 570 598 below args s (some (.int r)) σ') 0 0 5 [(0, .ref (G.2.2.1 + 570)), (1, .int y1)] [] σ := by
  intro n
  induction n with
  | zero => intro y1 σ h0; cases h0
  | succ n ih => intro y1 σ h0; exact bb_Model_term_5 C hr hk hd hd2 hR hrf ih h0
def s_Model_term (rf : LH → Option (Int32 × LH)) (σ : LH) : Option (Int32 × LH) :=
  xb2 (s_Model_atom rf σ) fun r2 σ3 =>
  s_Model_term_5 rf FUEL r2 σ3
theorem c_Model_term {G : XG} {l : Launch} {d dr : Nat} {rf : LH → Option (Int32 × LH)} (hrf : ∀ (σ : LH) (r : Int32) (σ' : LH), rf σ = some (r, σ') → ∀ d, dr ≤ d → xM G 570 598 l y_Model_sum prog_14_method_18_code 5 (some .int) d [.ref (G.2.2.1 + 570)] σ (some (.int r)) σ') (hd : dr + 2 ≤ d) (hd2 : 11 ≤ d) {σ σ' : LH} {r : Int32} (h0 : s_Model_term rf σ = some (r, σ')) : xM G 570 598 l y_Model_term prog_14_method_17_code 5 (some .int) d [.ref (G.2.2.1 + 570)] σ (some (.int r)) σ' := by
  obtain ⟨d, rfl⟩ : ∃ q, d = q + 1 := ⟨d - 1, by omega⟩
  refine x_met R_Model rfl (by decide +kernel) (Nat.le_of_ble_eq_true rfl) fun p e s m below meth c C hr hk hR => ?_
  refine x_lv (lv' := [(0, .ref (G.2.2.1 + 570))]) C [0] rfl ?_
  generalize xrm (d + 1) = R at hR ⊢
  unfold s_Model_term at h0
  refine x_aload_n C d_Model_term_0 0 rfl ?_
  obtain ⟨r2, σ3, k1, h0⟩ := xbind2 h0
  refine x_callVi C hR (c_Model_atom hrf (d := d) (by omega) (by omega) k1) cw_Model_189 k_570 rfl rfl rfl (Nat.le_of_ble_eq_true rfl) ⟨Nat.zero_le _, Nat.zero_le _⟩ d_Model_term_1 ?_
  refine x_istore_n (lv' := [(1, .int r2), (0, .ref (G.2.2.1 + 570))]) C d_Model_term_4 rfl (by decide) rfl ?_
  exact x_lv C [1, 0] rfl (b_Model_term_5 C hr hk hd hd2 hR hrf FUEL _ _ h0)
