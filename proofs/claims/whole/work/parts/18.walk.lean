-- LostPlacesModel.sum()I
theorem d_Model_sum_0 : decode prog_14_method_18_code 0 = .ok (.aload_n 0, 1) := by decide +kernel
theorem d_Model_sum_1 : decode prog_14_method_18_code 1 = .ok (.invokevirtual 196, 3) := by decide +kernel
theorem d_Model_sum_4 : decode prog_14_method_18_code 4 = .ok (.istore_n 1, 1) := by decide +kernel
theorem d_Model_sum_5 : decode prog_14_method_18_code 5 = .ok (.aload_n 0, 1) := by decide +kernel
theorem d_Model_sum_6 : decode prog_14_method_18_code 6 = .ok (.getfield 146, 3) := by decide +kernel
theorem d_Model_sum_9 : decode prog_14_method_18_code 9 = .ok (.iconst (-1), 1) := by decide +kernel
theorem d_Model_sum_10 : decode prog_14_method_18_code 10 = .ok (.if_icmp .ne 74, 3) := by decide +kernel
theorem d_Model_sum_13 : decode prog_14_method_18_code 13 = .ok (.aload_n 0, 1) := by decide +kernel
theorem d_Model_sum_14 : decode prog_14_method_18_code 14 = .ok (.invokevirtual 156, 3) := by decide +kernel
theorem d_Model_sum_17 : decode prog_14_method_18_code 17 = .ok (.bipush 43, 2) := by decide +kernel
theorem d_Model_sum_19 : decode prog_14_method_18_code 19 = .ok (.if_icmp .eq 12, 3) := by decide +kernel
theorem d_Model_sum_22 : decode prog_14_method_18_code 22 = .ok (.aload_n 0, 1) := by decide +kernel
theorem d_Model_sum_23 : decode prog_14_method_18_code 23 = .ok (.invokevirtual 156, 3) := by decide +kernel
theorem d_Model_sum_26 : decode prog_14_method_18_code 26 = .ok (.bipush 45, 2) := by decide +kernel
theorem d_Model_sum_28 : decode prog_14_method_18_code 28 = .ok (.if_icmp .ne 56, 3) := by decide +kernel
theorem d_Model_sum_31 : decode prog_14_method_18_code 31 = .ok (.aload_n 0, 1) := by decide +kernel
theorem d_Model_sum_32 : decode prog_14_method_18_code 32 = .ok (.invokevirtual 156, 3) := by decide +kernel
theorem d_Model_sum_35 : decode prog_14_method_18_code 35 = .ok (.bipush 43, 2) := by decide +kernel
theorem d_Model_sum_37 : decode prog_14_method_18_code 37 = .ok (.if_icmp .ne 7, 3) := by decide +kernel
theorem d_Model_sum_40 : decode prog_14_method_18_code 40 = .ok (.iconst 1, 1) := by decide +kernel
theorem d_Model_sum_41 : decode prog_14_method_18_code 41 = .ok (.goto 4, 3) := by decide +kernel
theorem d_Model_sum_44 : decode prog_14_method_18_code 44 = .ok (.iconst 0, 1) := by decide +kernel
theorem d_Model_sum_45 : decode prog_14_method_18_code 45 = .ok (.istore_n 2, 1) := by decide +kernel
theorem d_Model_sum_46 : decode prog_14_method_18_code 46 = .ok (.aload_n 0, 1) := by decide +kernel
theorem d_Model_sum_47 : decode prog_14_method_18_code 47 = .ok (.dup, 1) := by decide +kernel
theorem d_Model_sum_48 : decode prog_14_method_18_code 48 = .ok (.getfield 137, 3) := by decide +kernel
theorem d_Model_sum_51 : decode prog_14_method_18_code 51 = .ok (.iconst 1, 1) := by decide +kernel
theorem d_Model_sum_52 : decode prog_14_method_18_code 52 = .ok (.iadd, 1) := by decide +kernel
theorem d_Model_sum_53 : decode prog_14_method_18_code 53 = .ok (.putfield 137, 3) := by decide +kernel
theorem d_Model_sum_56 : decode prog_14_method_18_code 56 = .ok (.aload_n 0, 1) := by decide +kernel
theorem d_Model_sum_57 : decode prog_14_method_18_code 57 = .ok (.invokevirtual 196, 3) := by decide +kernel
theorem d_Model_sum_60 : decode prog_14_method_18_code 60 = .ok (.i2l, 1) := by decide +kernel
theorem d_Model_sum_61 : decode prog_14_method_18_code 61 = .ok (.lstore_n 3, 1) := by decide +kernel
theorem d_Model_sum_62 : decode prog_14_method_18_code 62 = .ok (.iload_n 2, 1) := by decide +kernel
theorem d_Model_sum_63 : decode prog_14_method_18_code 63 = .ok (.ifCond .eq 10, 3) := by decide +kernel
theorem d_Model_sum_66 : decode prog_14_method_18_code 66 = .ok (.iload_n 1, 1) := by decide +kernel
theorem d_Model_sum_67 : decode prog_14_method_18_code 67 = .ok (.i2l, 1) := by decide +kernel
theorem d_Model_sum_68 : decode prog_14_method_18_code 68 = .ok (.lload_n 3, 1) := by decide +kernel
theorem d_Model_sum_69 : decode prog_14_method_18_code 69 = .ok (.ladd, 1) := by decide +kernel
theorem d_Model_sum_70 : decode prog_14_method_18_code 70 = .ok (.goto 7, 3) := by decide +kernel
theorem d_Model_sum_73 : decode prog_14_method_18_code 73 = .ok (.iload_n 1, 1) := by decide +kernel
theorem d_Model_sum_74 : decode prog_14_method_18_code 74 = .ok (.i2l, 1) := by decide +kernel
theorem d_Model_sum_75 : decode prog_14_method_18_code 75 = .ok (.lload_n 3, 1) := by decide +kernel
theorem d_Model_sum_76 : decode prog_14_method_18_code 76 = .ok (.lsub, 1) := by decide +kernel
theorem d_Model_sum_77 : decode prog_14_method_18_code 77 = .ok (.invokestatic 192, 3) := by decide +kernel
theorem d_Model_sum_80 : decode prog_14_method_18_code 80 = .ok (.istore_n 1, 1) := by decide +kernel
theorem d_Model_sum_81 : decode prog_14_method_18_code 81 = .ok (.goto (-76), 3) := by decide +kernel
theorem d_Model_sum_84 : decode prog_14_method_18_code 84 = .ok (.iload_n 1, 1) := by decide +kernel
theorem d_Model_sum_85 : decode prog_14_method_18_code 85 = .ok (.ireturn, 1) := by decide +kernel
def s_Model_sum_77 (rf : LH → Option (Int32 × LH)) (rec5 : Int32 → LH → Option (Int32 × LH)) (z0 : Int64) (σ : LH) : Option (Int32 × LH) :=
  xb2 (s_Model_within z0 σ) fun r20 σ21 =>
  rec5 r20 σ21
theorem b_Model_sum_77 {G : XG} {l : Launch} {p : Program} {e : Env} {R : Room} {s : State} {m : MethodId} {args : Array Value} {below : List Frame} {meth : Method} {c : Code} (C : XC G 570 598 p s m args c prog_14_method_18_code 5 R_Model) (hr : meth.sig.returnType = (some .int)) (hk : meth.locks = false) {d dr : Nat} (hd : dr + 3 ≤ d + 1) (hd2 : 12 ≤ d + 1) (hR : xroom R (d + 1)) {rf : LH → Option (Int32 × LH)} (hrf : ∀ (σ : LH) (r : Int32) (σ' : LH), rf σ = some (r, σ') → ∀ d, dr ≤ d → xM G 570 598 l y_Model_sum prog_14_method_18_code 5 (some .int) d [.ref (G.2.2.1 + 570)] σ (some (.int r)) σ') {rec5 : Int32 → LH → Option (Int32 × LH)} {σ' : LH} {r : Int32} (hrec5 : ∀ (y1 : Int32) (σ : LH), rec5 y1 σ = some (r, σ') → XJ G 570 598 p l e R s m args below meth c 5 (XQ G 570 598 below args s (some (.int r)) σ') 0 0 5 [(0, .ref (G.2.2.1 + 570)), (1, .int y1)] [] σ) {z0 : Int64} {σ : LH} (h0 : s_Model_sum_77 rf rec5 z0 σ = some (r, σ')) : XJ G 570 598 p l e R s m args below meth c 5 (XQ G 570 598 below args s (some (.int r)) σ') 0 0 77 [(0, .ref (G.2.2.1 + 570))] [.long (z0)] σ := by
  replace h0 := (show _ = _ from h0)
  unfold s_Model_sum_77 at h0
  obtain ⟨r20, σ21, k19, h0⟩ := xbind2 h0
  refine x_callSi C hR (c_Model_within (d := d) (by omega) k19) cw_Model_192 w_1821 rfl rfl (Nat.le_of_ble_eq_true rfl) ⟨Nat.zero_le _, Nat.zero_le _⟩ d_Model_sum_77 ?_
  refine x_istore_n (lv' := [(1, .int r20), (0, .ref (G.2.2.1 + 570))]) C d_Model_sum_80 rfl (by decide) rfl ?_
  refine x_goto C 5 d_Model_sum_81 (by decide) ?_
  exact x_lv C [1, 0] rfl (hrec5 _ _ h0)
def s_Model_sum_45 (rf : LH → Option (Int32 × LH)) (rec5 : Int32 → LH → Option (Int32 × LH)) (y1 : Int32) (z0 : Int32) (σ : LH) : Option (Int32 × LH) :=
  xl ((stI σ 570 10 ((σ.1 570 10) + 1)) : LH) fun σ13 =>
  xb2 (s_Model_term rf σ13) fun r15 σ16 =>
  xl (((Int32.toInt64 r15)) : Int64) fun j17 =>
  if z0 = 0 then (
   s_Model_sum_77 rf rec5 ((Int32.toInt64 y1) - j17) σ16)
  else (
   s_Model_sum_77 rf rec5 ((Int32.toInt64 y1) + j17) σ16)
theorem b_Model_sum_45 {G : XG} {l : Launch} {p : Program} {e : Env} {R : Room} {s : State} {m : MethodId} {args : Array Value} {below : List Frame} {meth : Method} {c : Code} (C : XC G 570 598 p s m args c prog_14_method_18_code 5 R_Model) (hr : meth.sig.returnType = (some .int)) (hk : meth.locks = false) {d dr : Nat} (hd : dr + 3 ≤ d + 1) (hd2 : 12 ≤ d + 1) (hR : xroom R (d + 1)) {rf : LH → Option (Int32 × LH)} (hrf : ∀ (σ : LH) (r : Int32) (σ' : LH), rf σ = some (r, σ') → ∀ d, dr ≤ d → xM G 570 598 l y_Model_sum prog_14_method_18_code 5 (some .int) d [.ref (G.2.2.1 + 570)] σ (some (.int r)) σ') {rec5 : Int32 → LH → Option (Int32 × LH)} {σ' : LH} {r : Int32} (hrec5 : ∀ (y1 : Int32) (σ : LH), rec5 y1 σ = some (r, σ') → XJ G 570 598 p l e R s m args below meth c 5 (XQ G 570 598 below args s (some (.int r)) σ') 0 0 5 [(0, .ref (G.2.2.1 + 570)), (1, .int y1)] [] σ) {y1 : Int32} {z0 : Int32} {σ : LH} (h0 : s_Model_sum_45 rf rec5 y1 z0 σ = some (r, σ')) : XJ G 570 598 p l e R s m args below meth c 5 (XQ G 570 598 below args s (some (.int r)) σ') 0 0 45 [(0, .ref (G.2.2.1 + 570)), (1, .int y1)] [.int z0] σ := by
  replace h0 := (show _ = _ from h0)
  unfold s_Model_sum_45 at h0
  refine x_istore_n (lv' := [(2, .int z0), (0, .ref (G.2.2.1 + 570)), (1, .int y1)]) C d_Model_sum_45 rfl (by decide) rfl ?_
  refine x_aload_n C d_Model_sum_46 1 rfl ?_
  refine x_dup C d_Model_sum_47 rfl ?_
  refine x_getI (y := 0) C fg_Model_137 k_570 rfl d_Model_sum_48 ?_
  refine x_iconst (v := 1) C d_Model_sum_51 (by decide) ?_
  refine x_iadd C d_Model_sum_52 ?_
  refine x_putI (y := 0) C fp_Model_137 k_570 rfl rfl rfl d_Model_sum_53 ?_
  obtain ⟨σ13, eσ13, h0⟩ := xlet h0
  refine x_sig C eσ13 ?_
  refine x_aload_n C d_Model_sum_56 1 rfl ?_
  obtain ⟨r15, σ16, k14, h0⟩ := xbind2 h0
  refine x_callVi C hR (c_Model_term hrf (d := d) (by omega) (by omega) k14) cw_Model_196 k_570 rfl rfl rfl (Nat.le_of_ble_eq_true rfl) ⟨Nat.zero_le _, Nat.zero_le _⟩ d_Model_sum_57 ?_
  refine x_i2l C d_Model_sum_60 ?_
  obtain ⟨j17, ej17, h0⟩ := xlet h0
  refine x_nameL C ej17 ?_
  refine x_lstore_n (lv' := [(3, .long (j17)), (2, .int z0), (0, .ref (G.2.2.1 + 570)), (1, .int y1)]) C d_Model_sum_61 rfl (by decide) rfl ?_
  refine x_iload_n C d_Model_sum_62 1 rfl ?_
  refine x_if_eq C 73 d_Model_sum_63 (by decide) (fun q18 => ?_) (fun q18 => ?_)
  · replace h0 := xit q18 h0
    refine x_iload_n C d_Model_sum_73 3 rfl ?_
    refine x_i2l C d_Model_sum_74 ?_
    refine x_lload_n C d_Model_sum_75 0 rfl ?_
    refine x_lsub C d_Model_sum_76 ?_
    exact x_lv C [2] rfl (b_Model_sum_77 C hr hk hd hd2 hR hrf hrec5 h0)
  · replace h0 := xif q18 h0
    refine x_iload_n C d_Model_sum_66 3 rfl ?_
    refine x_i2l C d_Model_sum_67 ?_
    refine x_lload_n C d_Model_sum_68 0 rfl ?_
    refine x_ladd C d_Model_sum_69 ?_
    refine x_goto C 77 d_Model_sum_70 (by decide) ?_
    exact x_lv C [2] rfl (b_Model_sum_77 C hr hk hd hd2 hR hrf hrec5 h0)
def s_Model_sum_31 (rf : LH → Option (Int32 × LH)) (rec5 : Int32 → LH → Option (Int32 × LH)) (y1 : Int32) (σ : LH) : Option (Int32 × LH) :=
  xb2 (s_Model_look σ) fun r10 σ11 =>
  if r10 = 43 then (
   s_Model_sum_45 rf rec5 y1 1 σ11)
  else (
   s_Model_sum_45 rf rec5 y1 0 σ11)
theorem b_Model_sum_31 {G : XG} {l : Launch} {p : Program} {e : Env} {R : Room} {s : State} {m : MethodId} {args : Array Value} {below : List Frame} {meth : Method} {c : Code} (C : XC G 570 598 p s m args c prog_14_method_18_code 5 R_Model) (hr : meth.sig.returnType = (some .int)) (hk : meth.locks = false) {d dr : Nat} (hd : dr + 3 ≤ d + 1) (hd2 : 12 ≤ d + 1) (hR : xroom R (d + 1)) {rf : LH → Option (Int32 × LH)} (hrf : ∀ (σ : LH) (r : Int32) (σ' : LH), rf σ = some (r, σ') → ∀ d, dr ≤ d → xM G 570 598 l y_Model_sum prog_14_method_18_code 5 (some .int) d [.ref (G.2.2.1 + 570)] σ (some (.int r)) σ') {rec5 : Int32 → LH → Option (Int32 × LH)} {σ' : LH} {r : Int32} (hrec5 : ∀ (y1 : Int32) (σ : LH), rec5 y1 σ = some (r, σ') → XJ G 570 598 p l e R s m args below meth c 5 (XQ G 570 598 below args s (some (.int r)) σ') 0 0 5 [(0, .ref (G.2.2.1 + 570)), (1, .int y1)] [] σ) {y1 : Int32} {σ : LH} (h0 : s_Model_sum_31 rf rec5 y1 σ = some (r, σ')) : XJ G 570 598 p l e R s m args below meth c 5 (XQ G 570 598 below args s (some (.int r)) σ') 0 0 31 [(0, .ref (G.2.2.1 + 570)), (1, .int y1)] [] σ := by
  replace h0 := (show _ = _ from h0)
  unfold s_Model_sum_31 at h0
  refine x_aload_n C d_Model_sum_31 0 rfl ?_
  obtain ⟨r10, σ11, k9, h0⟩ := xbind2 h0
  refine x_callVi C hR (c_Model_look (d := d) (by omega) k9) cw_Model_156 k_570 rfl rfl rfl (Nat.le_of_ble_eq_true rfl) ⟨Nat.zero_le _, Nat.zero_le _⟩ d_Model_sum_32 ?_
  refine x_bipush (v := 43) C d_Model_sum_35 (by decide) ?_
  refine x_icmp_ne C 44 d_Model_sum_37 (by decide) (fun q12 => ?_) (fun q12 => ?_)
  · replace h0 := xif q12 h0
    refine x_iconst (v := 0) C d_Model_sum_44 (by decide) ?_
    exact x_lv C [0, 1] rfl (b_Model_sum_45 C hr hk hd hd2 hR hrf hrec5 h0)
  · replace h0 := xit q12 h0
    refine x_iconst (v := 1) C d_Model_sum_40 (by decide) ?_
    refine x_goto C 45 d_Model_sum_41 (by decide) ?_
    exact x_lv C [0, 1] rfl (b_Model_sum_45 C hr hk hd hd2 hR hrf hrec5 h0)
def s_Model_sum_84 (rf : LH → Option (Int32 × LH)) (y1 : Int32) (σ : LH) : Option (Int32 × LH) :=
  some (y1, σ)
theorem b_Model_sum_84 {G : XG} {l : Launch} {p : Program} {e : Env} {R : Room} {s : State} {m : MethodId} {args : Array Value} {below : List Frame} {meth : Method} {c : Code} (C : XC G 570 598 p s m args c prog_14_method_18_code 5 R_Model) (hr : meth.sig.returnType = (some .int)) (hk : meth.locks = false) {d dr : Nat} (hd : dr + 3 ≤ d + 1) (hd2 : 12 ≤ d + 1) (hR : xroom R (d + 1)) {rf : LH → Option (Int32 × LH)} (hrf : ∀ (σ : LH) (r : Int32) (σ' : LH), rf σ = some (r, σ') → ∀ d, dr ≤ d → xM G 570 598 l y_Model_sum prog_14_method_18_code 5 (some .int) d [.ref (G.2.2.1 + 570)] σ (some (.int r)) σ') {σ' : LH} {r : Int32} {y1 : Int32} {σ : LH} (h0 : s_Model_sum_84 rf y1 σ = some (r, σ')) : XJ G 570 598 p l e R s m args below meth c 5 (XQ G 570 598 below args s (some (.int r)) σ') 0 0 84 [(1, .int y1)] [] σ := by
  replace h0 := (show _ = _ from h0)
  unfold s_Model_sum_84 at h0
  refine x_iload_n C d_Model_sum_84 0 rfl ?_
  exact x_iret C hr hk h0 d_Model_sum_85
def s_Model_sum_5_b (rf : LH → Option (Int32 × LH)) (rec5 : Int32 → LH → Option (Int32 × LH)) (y1 : Int32) (σ : LH) : Option (Int32 × LH) :=
  if (σ.1 570 11) = (-1) then (
   xb2 (s_Model_look σ) fun r6 σ7 =>
   if r6 = 43 then (
    s_Model_sum_31 rf rec5 y1 σ7)
   else (
    xb2 (s_Model_look σ7) fun r23 σ24 =>
    if r23 = 45 then (
     s_Model_sum_31 rf rec5 y1 σ24)
    else (
     s_Model_sum_84 rf y1 σ24)))
  else (
   s_Model_sum_84 rf y1 σ)
def s_Model_sum_5 (rf : LH → Option (Int32 × LH)) : Nat → Int32 → LH → Option (Int32 × LH)
  | 0, _, _ => none
  | n + 1, y1, σ => s_Model_sum_5_b rf (s_Model_sum_5 rf n) y1 σ
theorem bb_Model_sum_5 {G : XG} {l : Launch} {p : Program} {e : Env} {R : Room} {s : State} {m : MethodId} {args : Array Value} {below : List Frame} {meth : Method} {c : Code} (C : XC G 570 598 p s m args c prog_14_method_18_code 5 R_Model) (hr : meth.sig.returnType = (some .int)) (hk : meth.locks = false) {d dr : Nat} (hd : dr + 3 ≤ d + 1) (hd2 : 12 ≤ d + 1) (hR : xroom R (d + 1)) {rf : LH → Option (Int32 × LH)} (hrf : ∀ (σ : LH) (r : Int32) (σ' : LH), rf σ = some (r, σ') → ∀ d, dr ≤ d → xM G 570 598 l y_Model_sum prog_14_method_18_code 5 (some .int) d [.ref (G.2.2.1 + 570)] σ (some (.int r)) σ') {rec5 : Int32 → LH → Option (Int32 × LH)} {σ' : LH} {r : Int32} (hrec5 : ∀ (y1 : Int32) (σ : LH), rec5 y1 σ = some (r, σ') → XJ G 570 598 p l e R s m args below meth c 5 (XQ G 570 598 below args s (some (.int r)) σ') 0 0 5 [(0, .ref (G.2.2.1 + 570)), (1, .int y1)] [] σ) {y1 : Int32} {σ : LH} (h0 : s_Model_sum_5_b rf rec5 y1 σ = some (r, σ')) : XJ G 570 598 p l e R s m args below meth c 5 (XQ G 570 598 below args s (some (.int r)) σ') 0 0 5 [(0, .ref (G.2.2.1 + 570)), (1, .int y1)] [] σ := by
  replace h0 := (show _ = _ from h0)
  unfold s_Model_sum_5_b at h0
  refine x_aload_n C d_Model_sum_5 0 rfl ?_
  refine x_getI (y := 0) C fg_Model_146 k_570 rfl d_Model_sum_6 ?_
  refine x_iconst (v := (-1)) C d_Model_sum_9 (by decide) ?_
  refine x_icmp_ne C 84 d_Model_sum_10 (by decide) (fun q4 => ?_) (fun q4 => ?_)
  · replace h0 := xif q4 h0
    exact x_lv C [1] rfl (b_Model_sum_84 C hr hk hd hd2 hR hrf h0)
  · replace h0 := xit q4 h0
    refine x_aload_n C d_Model_sum_13 0 rfl ?_
    obtain ⟨r6, σ7, k5, h0⟩ := xbind2 h0
    refine x_callVi C hR (c_Model_look (d := d) (by omega) k5) cw_Model_156 k_570 rfl rfl rfl (Nat.le_of_ble_eq_true rfl) ⟨Nat.zero_le _, Nat.zero_le _⟩ d_Model_sum_14 ?_
    refine x_bipush (v := 43) C d_Model_sum_17 (by decide) ?_
    refine x_icmp_eq C 31 d_Model_sum_19 (by decide) (fun q8 => ?_) (fun q8 => ?_)
    · replace h0 := xit q8 h0
      exact x_lv C [0, 1] rfl (b_Model_sum_31 C hr hk hd hd2 hR hrf hrec5 h0)
    · replace h0 := xif q8 h0
      refine x_aload_n C d_Model_sum_22 0 rfl ?_
      obtain ⟨r23, σ24, k22, h0⟩ := xbind2 h0
      refine x_callVi C hR (c_Model_look (d := d) (by omega) k22) cw_Model_156 k_570 rfl rfl rfl (Nat.le_of_ble_eq_true rfl) ⟨Nat.zero_le _, Nat.zero_le _⟩ d_Model_sum_23 ?_
      refine x_bipush (v := 45) C d_Model_sum_26 (by decide) ?_
      refine x_icmp_ne C 84 d_Model_sum_28 (by decide) (fun q25 => ?_) (fun q25 => ?_)
      · replace h0 := xif q25 h0
        exact x_lv C [1] rfl (b_Model_sum_84 C hr hk hd hd2 hR hrf h0)
      · replace h0 := xit q25 h0
        exact x_lv C [0, 1] rfl (b_Model_sum_31 C hr hk hd hd2 hR hrf hrec5 h0)
theorem b_Model_sum_5 {G : XG} {l : Launch} {p : Program} {e : Env} {R : Room} {s : State} {m : MethodId} {args : Array Value} {below : List Frame} {meth : Method} {c : Code} (C : XC G 570 598 p s m args c prog_14_method_18_code 5 R_Model) (hr : meth.sig.returnType = (some .int)) (hk : meth.locks = false) {d dr : Nat} (hd : dr + 3 ≤ d + 1) (hd2 : 12 ≤ d + 1) (hR : xroom R (d + 1)) {rf : LH → Option (Int32 × LH)} (hrf : ∀ (σ : LH) (r : Int32) (σ' : LH), rf σ = some (r, σ') → ∀ d, dr ≤ d → xM G 570 598 l y_Model_sum prog_14_method_18_code 5 (some .int) d [.ref (G.2.2.1 + 570)] σ (some (.int r)) σ') {σ' : LH} {r : Int32} : ∀ (n : Nat) (y1 : Int32) (σ : LH), s_Model_sum_5 rf n y1 σ = some (r, σ') → XJ G 570 598 p l e R s m args below meth c 5 (XQ G 570 598 below args s (some (.int r)) σ') 0 0 5 [(0, .ref (G.2.2.1 + 570)), (1, .int y1)] [] σ := by
  intro n
  induction n with
  | zero => intro y1 σ h0; cases h0
  | succ n ih => intro y1 σ h0; exact bb_Model_sum_5 C hr hk hd hd2 hR hrf ih h0
def s_Model_sum_b (rf : LH → Option (Int32 × LH)) (σ : LH) : Option (Int32 × LH) :=
  xb2 (s_Model_term rf σ) fun r2 σ3 =>
  s_Model_sum_5 rf FUEL r2 σ3
def s_Model_sum : Nat → LH → Option (Int32 × LH)
  | 0, _ => none
  | n + 1, σ => s_Model_sum_b (s_Model_sum n) σ
theorem c_Model_sum_b {G : XG} {l : Launch} {d dr : Nat} {rf : LH → Option (Int32 × LH)} (hrf : ∀ (σ : LH) (r : Int32) (σ' : LH), rf σ = some (r, σ') → ∀ d, dr ≤ d → xM G 570 598 l y_Model_sum prog_14_method_18_code 5 (some .int) d [.ref (G.2.2.1 + 570)] σ (some (.int r)) σ') (hd : dr + 3 ≤ d) (hd2 : 12 ≤ d) {σ σ' : LH} {r : Int32} (h0 : s_Model_sum_b rf σ = some (r, σ')) : xM G 570 598 l y_Model_sum prog_14_method_18_code 5 (some .int) d [.ref (G.2.2.1 + 570)] σ (some (.int r)) σ' := by
  obtain ⟨d, rfl⟩ : ∃ q, d = q + 1 := ⟨d - 1, by omega⟩
  refine x_met R_Model rfl (by decide +kernel) (Nat.le_of_ble_eq_true rfl) fun p e s m below meth c C hr hk hR => ?_
  refine x_lv (lv' := [(0, .ref (G.2.2.1 + 570))]) C [0] rfl ?_
  generalize xrm (d + 1) = R at hR ⊢
  unfold s_Model_sum_b at h0
  refine x_aload_n C d_Model_sum_0 0 rfl ?_
  obtain ⟨r2, σ3, k1, h0⟩ := xbind2 h0
  refine x_callVi C hR (c_Model_term hrf (d := d) (by omega) (by omega) k1) cw_Model_196 k_570 rfl rfl rfl (Nat.le_of_ble_eq_true rfl) ⟨Nat.zero_le _, Nat.zero_le _⟩ d_Model_sum_1 ?_
  refine x_istore_n (lv' := [(1, .int r2), (0, .ref (G.2.2.1 + 570))]) C d_Model_sum_4 rfl (by decide) rfl ?_
  exact x_lv C [1, 0] rfl (b_Model_sum_5 C hr hk hd hd2 hR hrf FUEL _ _ h0)
theorem h_Model_sum_n {G : XG} {l : Launch} : ∀ (n : Nat) (σ : LH) (r : Int32) (σ' : LH), s_Model_sum n σ = some (r, σ') → ∀ d, 3 * n + 12 ≤ d → xM G 570 598 l y_Model_sum prog_14_method_18_code 5 (some .int) d [.ref (G.2.2.1 + 570)] σ (some (.int r)) σ' := by
  intro n
  induction n with
  | zero => intro σ r σ' h0; cases h0
  | succ n ih => intro σ r σ' h0 d hd; exact c_Model_sum_b (dr := 3 * n + 12) ih (by omega) (by omega) h0
theorem h_Model_sum {G : XG} {l : Launch} : ∀ (σ : LH) (r : Int32) (σ' : LH), s_Model_sum RF σ = some (r, σ') → ∀ d, 60 ≤ d → xM G 570 598 l y_Model_sum prog_14_method_18_code 5 (some .int) d [.ref (G.2.2.1 + 570)] σ (some (.int r)) σ' := h_Model_sum_n RF
theorem c_Model_sum {G : XG} {l : Launch} {d : Nat} (hd : 60 ≤ d) {σ σ' : LH} {r : Int32} (h0 : s_Model_sum RF σ = some (r, σ')) : xM G 570 598 l y_Model_sum prog_14_method_18_code 5 (some .int) d [.ref (G.2.2.1 + 570)] σ (some (.int r)) σ' := h_Model_sum _ _ _ h0 d hd
-- LostPlacesModel.isSign(I)Z
theorem d_Model_isSign_0 : decode prog_14_method_19_code 0 = .ok (.iload_n 0, 1) := by decide +kernel
theorem d_Model_isSign_1 : decode prog_14_method_19_code 1 = .ok (.bipush 61, 2) := by decide +kernel
theorem d_Model_isSign_3 : decode prog_14_method_19_code 3 = .ok (.if_icmp .eq 15, 3) := by decide +kernel
theorem d_Model_isSign_6 : decode prog_14_method_19_code 6 = .ok (.iload_n 0, 1) := by decide +kernel
theorem d_Model_isSign_7 : decode prog_14_method_19_code 7 = .ok (.bipush 60, 2) := by decide +kernel
theorem d_Model_isSign_9 : decode prog_14_method_19_code 9 = .ok (.if_icmp .eq 9, 3) := by decide +kernel
theorem d_Model_isSign_12 : decode prog_14_method_19_code 12 = .ok (.iload_n 0, 1) := by decide +kernel
theorem d_Model_isSign_13 : decode prog_14_method_19_code 13 = .ok (.bipush 62, 2) := by decide +kernel
theorem d_Model_isSign_15 : decode prog_14_method_19_code 15 = .ok (.if_icmp .ne 7, 3) := by decide +kernel
theorem d_Model_isSign_18 : decode prog_14_method_19_code 18 = .ok (.iconst 1, 1) := by decide +kernel
theorem d_Model_isSign_19 : decode prog_14_method_19_code 19 = .ok (.goto 4, 3) := by decide +kernel
theorem d_Model_isSign_22 : decode prog_14_method_19_code 22 = .ok (.iconst 0, 1) := by decide +kernel
theorem d_Model_isSign_23 : decode prog_14_method_19_code 23 = .ok (.ireturn, 1) := by decide +kernel
def s_Model_isSign_23 (p0 : Int32) (z0 : Int32) (σ : LH) : Option (Int32 × LH) :=
  if zb z0 then (
  some (z0, σ)) else none
theorem b_Model_isSign_23 {G : XG} {l : Launch} {p : Program} {e : Env} {R : Room} {s : State} {m : MethodId} {args : Array Value} {below : List Frame} {meth : Method} {c : Code} (C : XC G 570 598 p s m args c prog_14_method_19_code 1 R_Model) (hr : meth.sig.returnType = (some .boolean)) (hk : meth.locks = false) {d : Nat} (hd : 1 ≤ d + 1) (hR : xroom R (d + 1)) {p0 : Int32} {σ' : LH} {r : Int32} {z0 : Int32} {σ : LH} (h0 : s_Model_isSign_23 p0 z0 σ = some (r, σ')) : XJ G 570 598 p l e R s m args below meth c 1 (XQ G 570 598 below args s (some (.int r)) σ') 0 0 23 [] [.int z0] σ := by
  replace h0 := (show _ = _ from h0)
  unfold s_Model_isSign_23 at h0
  obtain ⟨g2, h0⟩ := xgo h0
  exact x_zret C hr hk g2 h0 d_Model_isSign_23
def s_Model_isSign_18 (p0 : Int32) (σ : LH) : Option (Int32 × LH) :=
  s_Model_isSign_23 p0 1 σ
theorem b_Model_isSign_18 {G : XG} {l : Launch} {p : Program} {e : Env} {R : Room} {s : State} {m : MethodId} {args : Array Value} {below : List Frame} {meth : Method} {c : Code} (C : XC G 570 598 p s m args c prog_14_method_19_code 1 R_Model) (hr : meth.sig.returnType = (some .boolean)) (hk : meth.locks = false) {d : Nat} (hd : 1 ≤ d + 1) (hR : xroom R (d + 1)) {p0 : Int32} {σ' : LH} {r : Int32} {σ : LH} (h0 : s_Model_isSign_18 p0 σ = some (r, σ')) : XJ G 570 598 p l e R s m args below meth c 1 (XQ G 570 598 below args s (some (.int r)) σ') 0 0 18 [] [] σ := by
  replace h0 := (show _ = _ from h0)
  unfold s_Model_isSign_18 at h0
  refine x_iconst (v := 1) C d_Model_isSign_18 (by decide) ?_
  refine x_goto C 23 d_Model_isSign_19 (by decide) ?_
  exact x_lv C [] rfl (b_Model_isSign_23 C hr hk hd hR h0)
def s_Model_isSign (p0 : Int32) (σ : LH) : Option (Int32 × LH) :=
  if p0 = 61 then (
   s_Model_isSign_18 p0 σ)
  else (
   if p0 = 60 then (
    s_Model_isSign_18 p0 σ)
   else (
    if p0 = 62 then (
     s_Model_isSign_18 p0 σ)
    else (
     s_Model_isSign_23 p0 0 σ)))
theorem c_Model_isSign {G : XG} {l : Launch} {d : Nat} (hd : 1 ≤ d) {p0 : Int32} {σ σ' : LH} {r : Int32} (h0 : s_Model_isSign p0 σ = some (r, σ')) : xM G 570 598 l y_Model_isSign prog_14_method_19_code 1 (some .boolean) d [.int p0] σ (some (.int r)) σ' := by
  obtain ⟨d, rfl⟩ : ∃ q, d = q + 1 := ⟨d - 1, by omega⟩
  refine x_met R_Model rfl (by decide +kernel) (Nat.le_of_ble_eq_true rfl) fun p e s m below meth c C hr hk hR => ?_
  refine x_lv (lv' := [(0, .int p0)]) C [0] rfl ?_
  generalize xrm (d + 1) = R at hR ⊢
  unfold s_Model_isSign at h0
  refine x_iload_n C d_Model_isSign_0 0 rfl ?_
  refine x_bipush (v := 61) C d_Model_isSign_1 (by decide) ?_
  refine x_icmp_eq C 18 d_Model_isSign_3 (by decide) (fun q1 => ?_) (fun q1 => ?_)
  · replace h0 := xit q1 h0
    exact x_lv C [] rfl (b_Model_isSign_18 C hr hk hd hR h0)
  · replace h0 := xif q1 h0
    refine x_iload_n C d_Model_isSign_6 0 rfl ?_
    refine x_bipush (v := 60) C d_Model_isSign_7 (by decide) ?_
    refine x_icmp_eq C 18 d_Model_isSign_9 (by decide) (fun q3 => ?_) (fun q3 => ?_)
    · replace h0 := xit q3 h0
      exact x_lv C [] rfl (b_Model_isSign_18 C hr hk hd hR h0)
    · replace h0 := xif q3 h0
      refine x_iload_n C d_Model_isSign_12 0 rfl ?_
      refine x_bipush (v := 62) C d_Model_isSign_13 (by decide) ?_
      refine x_icmp_ne C 22 d_Model_isSign_15 (by decide) (fun q4 => ?_) (fun q4 => ?_)
      · replace h0 := xif q4 h0
        refine x_iconst (v := 0) C d_Model_isSign_22 (by decide) ?_
        exact x_lv C [] rfl (b_Model_isSign_23 C hr hk hd hR h0)
      · replace h0 := xit q4 h0
        exact x_lv C [] rfl (b_Model_isSign_18 C hr hk hd hR h0)
-- LostPlacesModel.compares(ZI)Z
theorem d_Model_compares_0 : decode prog_14_method_20_code 0 = .ok (.iload_n 1, 1) := by decide +kernel
theorem d_Model_compares_1 : decode prog_14_method_20_code 1 = .ok (.ifCond .eq 7, 3) := by decide +kernel
theorem d_Model_compares_4 : decode prog_14_method_20_code 4 = .ok (.iload_n 2, 1) := by decide +kernel
theorem d_Model_compares_5 : decode prog_14_method_20_code 5 = .ok (.goto 7, 3) := by decide +kernel
theorem d_Model_compares_8 : decode prog_14_method_20_code 8 = .ok (.aload_n 0, 1) := by decide +kernel
theorem d_Model_compares_9 : decode prog_14_method_20_code 9 = .ok (.invokevirtual 179, 3) := by decide +kernel
theorem d_Model_compares_12 : decode prog_14_method_20_code 12 = .ok (.istore_n 3, 1) := by decide +kernel
theorem d_Model_compares_13 : decode prog_14_method_20_code 13 = .ok (.aload_n 0, 1) := by decide +kernel
theorem d_Model_compares_14 : decode prog_14_method_20_code 14 = .ok (.getfield 146, 3) := by decide +kernel
theorem d_Model_compares_17 : decode prog_14_method_20_code 17 = .ok (.iconst (-1), 1) := by decide +kernel
theorem d_Model_compares_18 : decode prog_14_method_20_code 18 = .ok (.if_icmp .eq 5, 3) := by decide +kernel
theorem d_Model_compares_21 : decode prog_14_method_20_code 21 = .ok (.iconst 0, 1) := by decide +kernel
theorem d_Model_compares_22 : decode prog_14_method_20_code 22 = .ok (.ireturn, 1) := by decide +kernel
theorem d_Model_compares_23 : decode prog_14_method_20_code 23 = .ok (.aload_n 0, 1) := by decide +kernel
theorem d_Model_compares_24 : decode prog_14_method_20_code 24 = .ok (.invokevirtual 156, 3) := by decide +kernel
theorem d_Model_compares_27 : decode prog_14_method_20_code 27 = .ok (.istore 4, 2) := by decide +kernel
theorem d_Model_compares_29 : decode prog_14_method_20_code 29 = .ok (.iload 4, 2) := by decide +kernel
theorem d_Model_compares_31 : decode prog_14_method_20_code 31 = .ok (.invokestatic 199, 3) := by decide +kernel
theorem d_Model_compares_34 : decode prog_14_method_20_code 34 = .ok (.ifCond .ne 8, 3) := by decide +kernel
theorem d_Model_compares_37 : decode prog_14_method_20_code 37 = .ok (.aload_n 0, 1) := by decide +kernel
theorem d_Model_compares_38 : decode prog_14_method_20_code 38 = .ok (.invokevirtual 152, 3) := by decide +kernel
theorem d_Model_compares_41 : decode prog_14_method_20_code 41 = .ok (.ireturn, 1) := by decide +kernel
theorem d_Model_compares_42 : decode prog_14_method_20_code 42 = .ok (.aload_n 0, 1) := by decide +kernel
theorem d_Model_compares_43 : decode prog_14_method_20_code 43 = .ok (.dup, 1) := by decide +kernel
theorem d_Model_compares_44 : decode prog_14_method_20_code 44 = .ok (.getfield 137, 3) := by decide +kernel
theorem d_Model_compares_47 : decode prog_14_method_20_code 47 = .ok (.iconst 1, 1) := by decide +kernel
theorem d_Model_compares_48 : decode prog_14_method_20_code 48 = .ok (.iadd, 1) := by decide +kernel
theorem d_Model_compares_49 : decode prog_14_method_20_code 49 = .ok (.putfield 137, 3) := by decide +kernel
theorem d_Model_compares_52 : decode prog_14_method_20_code 52 = .ok (.aload_n 0, 1) := by decide +kernel
theorem d_Model_compares_53 : decode prog_14_method_20_code 53 = .ok (.invokevirtual 179, 3) := by decide +kernel
theorem d_Model_compares_56 : decode prog_14_method_20_code 56 = .ok (.istore 5, 2) := by decide +kernel
theorem d_Model_compares_58 : decode prog_14_method_20_code 58 = .ok (.iload 4, 2) := by decide +kernel
theorem d_Model_compares_60 : decode prog_14_method_20_code 60 = .ok (.bipush 61, 2) := by decide +kernel
theorem d_Model_compares_62 : decode prog_14_method_20_code 62 = .ok (.if_icmp .ne 17, 3) := by decide +kernel
theorem d_Model_compares_65 : decode prog_14_method_20_code 65 = .ok (.iload_n 3, 1) := by decide +kernel
theorem d_Model_compares_66 : decode prog_14_method_20_code 66 = .ok (.iload 5, 2) := by decide +kernel
theorem d_Model_compares_68 : decode prog_14_method_20_code 68 = .ok (.if_icmp .ne 7, 3) := by decide +kernel
theorem d_Model_compares_71 : decode prog_14_method_20_code 71 = .ok (.iconst 1, 1) := by decide +kernel
theorem d_Model_compares_72 : decode prog_14_method_20_code 72 = .ok (.goto 39, 3) := by decide +kernel
theorem d_Model_compares_75 : decode prog_14_method_20_code 75 = .ok (.iconst 0, 1) := by decide +kernel
theorem d_Model_compares_76 : decode prog_14_method_20_code 76 = .ok (.goto 35, 3) := by decide +kernel
theorem d_Model_compares_79 : decode prog_14_method_20_code 79 = .ok (.iload 4, 2) := by decide +kernel
theorem d_Model_compares_81 : decode prog_14_method_20_code 81 = .ok (.bipush 60, 2) := by decide +kernel
theorem d_Model_compares_83 : decode prog_14_method_20_code 83 = .ok (.if_icmp .ne 17, 3) := by decide +kernel
theorem d_Model_compares_86 : decode prog_14_method_20_code 86 = .ok (.iload_n 3, 1) := by decide +kernel
theorem d_Model_compares_87 : decode prog_14_method_20_code 87 = .ok (.iload 5, 2) := by decide +kernel
theorem d_Model_compares_89 : decode prog_14_method_20_code 89 = .ok (.if_icmp .ge 7, 3) := by decide +kernel
theorem d_Model_compares_92 : decode prog_14_method_20_code 92 = .ok (.iconst 1, 1) := by decide +kernel
theorem d_Model_compares_93 : decode prog_14_method_20_code 93 = .ok (.goto 18, 3) := by decide +kernel
theorem d_Model_compares_96 : decode prog_14_method_20_code 96 = .ok (.iconst 0, 1) := by decide +kernel
theorem d_Model_compares_97 : decode prog_14_method_20_code 97 = .ok (.goto 14, 3) := by decide +kernel
theorem d_Model_compares_100 : decode prog_14_method_20_code 100 = .ok (.iload_n 3, 1) := by decide +kernel
theorem d_Model_compares_101 : decode prog_14_method_20_code 101 = .ok (.iload 5, 2) := by decide +kernel
theorem d_Model_compares_103 : decode prog_14_method_20_code 103 = .ok (.if_icmp .le 7, 3) := by decide +kernel
theorem d_Model_compares_106 : decode prog_14_method_20_code 106 = .ok (.iconst 1, 1) := by decide +kernel
theorem d_Model_compares_107 : decode prog_14_method_20_code 107 = .ok (.goto 4, 3) := by decide +kernel
theorem d_Model_compares_110 : decode prog_14_method_20_code 110 = .ok (.iconst 0, 1) := by decide +kernel
theorem d_Model_compares_111 : decode prog_14_method_20_code 111 = .ok (.ireturn, 1) := by decide +kernel
def s_Model_compares_111 (p0 : Int32) (p1 : Int32) (z0 : Int32) (σ : LH) : Option (Int32 × LH) :=
  if zb z0 then (
  some (z0, σ)) else none
theorem b_Model_compares_111 {G : XG} {l : Launch} {p : Program} {e : Env} {R : Room} {s : State} {m : MethodId} {args : Array Value} {below : List Frame} {meth : Method} {c : Code} (C : XC G 570 598 p s m args c prog_14_method_20_code 6 R_Model) (hr : meth.sig.returnType = (some .boolean)) (hk : meth.locks = false) {d : Nat} (hd : 61 ≤ d + 1) (hR : xroom R (d + 1)) {p0 : Int32} {p1 : Int32} {σ' : LH} {r : Int32} {z0 : Int32} {σ : LH} (h0 : s_Model_compares_111 p0 p1 z0 σ = some (r, σ')) : XJ G 570 598 p l e R s m args below meth c 6 (XQ G 570 598 below args s (some (.int r)) σ') 0 0 111 [] [.int z0] σ := by
  replace h0 := (show _ = _ from h0)
  unfold s_Model_compares_111 at h0
  obtain ⟨g23, h0⟩ := xgo h0
  exact x_zret C hr hk g23 h0 d_Model_compares_111
def s_Model_compares_12 (p0 : Int32) (p1 : Int32) (z0 : Int32) (σ : LH) : Option (Int32 × LH) :=
  if (σ.1 570 11) = (-1) then (
   xb2 (s_Model_look σ) fun r7 σ8 =>
   xb2 (s_Model_isSign r7 σ8) fun r10 σ11 =>
   if r10 = 0 then (
    xb2 (s_Model_fails σ11) fun r14 σ15 =>
    if zb r14 then (
    some (r14, σ15)) else none)
   else (
    xl ((stI σ11 570 10 ((σ11.1 570 10) + 1)) : LH) fun σ17 =>
    xb2 (s_Model_sum RF σ17) fun r19 σ20 =>
    if r7 = 61 then (
     if z0 = r19 then (
      s_Model_compares_111 p0 p1 1 σ20)
     else (
      s_Model_compares_111 p0 p1 0 σ20))
    else (
     if r7 = 60 then (
      if r19 ≤ z0 then (
       s_Model_compares_111 p0 p1 0 σ20)
      else (
       s_Model_compares_111 p0 p1 1 σ20))
     else (
      if z0 ≤ r19 then (
       s_Model_compares_111 p0 p1 0 σ20)
      else (
       s_Model_compares_111 p0 p1 1 σ20)))))
  else (
   some (0, σ))
theorem b_Model_compares_12 {G : XG} {l : Launch} {p : Program} {e : Env} {R : Room} {s : State} {m : MethodId} {args : Array Value} {below : List Frame} {meth : Method} {c : Code} (C : XC G 570 598 p s m args c prog_14_method_20_code 6 R_Model) (hr : meth.sig.returnType = (some .boolean)) (hk : meth.locks = false) {d : Nat} (hd : 61 ≤ d + 1) (hR : xroom R (d + 1)) {p0 : Int32} {p1 : Int32} {σ' : LH} {r : Int32} {z0 : Int32} {σ : LH} (h0 : s_Model_compares_12 p0 p1 z0 σ = some (r, σ')) : XJ G 570 598 p l e R s m args below meth c 6 (XQ G 570 598 below args s (some (.int r)) σ') 0 0 12 [(0, .ref (G.2.2.1 + 570))] [.int z0] σ := by
  replace h0 := (show _ = _ from h0)
  unfold s_Model_compares_12 at h0
  refine x_istore_n (lv' := [(3, .int z0), (0, .ref (G.2.2.1 + 570))]) C d_Model_compares_12 rfl (by decide) rfl ?_
  refine x_aload_n C d_Model_compares_13 1 rfl ?_
  refine x_getI (y := 0) C fg_Model_146 k_570 rfl d_Model_compares_14 ?_
  refine x_iconst (v := (-1)) C d_Model_compares_17 (by decide) ?_
  refine x_icmp_eq C 23 d_Model_compares_18 (by decide) (fun q5 => ?_) (fun q5 => ?_)
  · replace h0 := xit q5 h0
    refine x_aload_n C d_Model_compares_23 1 rfl ?_
    obtain ⟨r7, σ8, k6, h0⟩ := xbind2 h0
    refine x_callVi C hR (c_Model_look (d := d) (by omega) k6) cw_Model_156 k_570 rfl rfl rfl (Nat.le_of_ble_eq_true rfl) ⟨Nat.zero_le _, Nat.zero_le _⟩ d_Model_compares_24 ?_
    refine x_istore (lv' := [(4, .int r7), (3, .int z0), (0, .ref (G.2.2.1 + 570))]) C d_Model_compares_27 (by decide) rfl ?_
    refine x_iload C d_Model_compares_29 0 rfl ?_
    obtain ⟨r10, σ11, k9, h0⟩ := xbind2 h0
    refine x_callSi C hR (c_Model_isSign (d := d) (by omega) k9) cw_Model_199 w_1832 rfl rfl (Nat.le_of_ble_eq_true rfl) ⟨Nat.zero_le _, Nat.zero_le _⟩ d_Model_compares_31 ?_
    refine x_if_ne C 42 d_Model_compares_34 (by decide) (fun q12 => ?_) (fun q12 => ?_)
    · replace h0 := xif q12 h0
      refine x_aload_n C d_Model_compares_42 2 rfl ?_
      refine x_dup C d_Model_compares_43 rfl ?_
      refine x_getI (y := 0) C fg_Model_137 k_570 rfl d_Model_compares_44 ?_
      refine x_iconst (v := 1) C d_Model_compares_47 (by decide) ?_
      refine x_iadd C d_Model_compares_48 ?_
      refine x_putI (y := 0) C fp_Model_137 k_570 rfl rfl rfl d_Model_compares_49 ?_
      obtain ⟨σ17, eσ17, h0⟩ := xlet h0
      refine x_sig C eσ17 ?_
      refine x_aload_n C d_Model_compares_52 2 rfl ?_
      obtain ⟨r19, σ20, k18, h0⟩ := xbind2 h0
      refine x_callVi C hR (c_Model_sum (d := d) (by omega) k18) cw_Model_179 k_570 rfl rfl rfl (Nat.le_of_ble_eq_true rfl) ⟨Nat.zero_le _, Nat.zero_le _⟩ d_Model_compares_53 ?_
      refine x_istore (lv' := [(5, .int r19), (4, .int r7), (3, .int z0), (0, .ref (G.2.2.1 + 570))]) C d_Model_compares_56 (by decide) rfl ?_
      refine x_iload C d_Model_compares_58 1 rfl ?_
      refine x_bipush (v := 61) C d_Model_compares_60 (by decide) ?_
      refine x_icmp_ne C 79 d_Model_compares_62 (by decide) (fun q21 => ?_) (fun q21 => ?_)
      · replace h0 := xif q21 h0
        refine x_iload C d_Model_compares_79 1 rfl ?_
        refine x_bipush (v := 60) C d_Model_compares_81 (by decide) ?_
        refine x_icmp_ne C 100 d_Model_compares_83 (by decide) (fun q24 => ?_) (fun q24 => ?_)
        · replace h0 := xif q24 h0
          refine x_iload_n C d_Model_compares_100 2 rfl ?_
          refine x_iload C d_Model_compares_101 0 rfl ?_
          refine x_icmp_le C 110 d_Model_compares_103 (by decide) (fun q26 => ?_) (fun q26 => ?_)
          · replace h0 := xit q26 h0
            refine x_iconst (v := 0) C d_Model_compares_110 (by decide) ?_
            exact x_lv C [] rfl (b_Model_compares_111 C hr hk hd hR h0)
          · replace h0 := xif q26 h0
            refine x_iconst (v := 1) C d_Model_compares_106 (by decide) ?_
            refine x_goto C 111 d_Model_compares_107 (by decide) ?_
            exact x_lv C [] rfl (b_Model_compares_111 C hr hk hd hR h0)
        · replace h0 := xit q24 h0
          refine x_iload_n C d_Model_compares_86 2 rfl ?_
          refine x_iload C d_Model_compares_87 0 rfl ?_
          refine x_icmp_ge C 96 d_Model_compares_89 (by decide) (fun q25 => ?_) (fun q25 => ?_)
          · replace h0 := xit q25 h0
            refine x_iconst (v := 0) C d_Model_compares_96 (by decide) ?_
            refine x_goto C 111 d_Model_compares_97 (by decide) ?_
            exact x_lv C [] rfl (b_Model_compares_111 C hr hk hd hR h0)
          · replace h0 := xif q25 h0
            refine x_iconst (v := 1) C d_Model_compares_92 (by decide) ?_
            refine x_goto C 111 d_Model_compares_93 (by decide) ?_
            exact x_lv C [] rfl (b_Model_compares_111 C hr hk hd hR h0)
      · replace h0 := xit q21 h0
        refine x_iload_n C d_Model_compares_65 2 rfl ?_
        refine x_iload C d_Model_compares_66 0 rfl ?_
        refine x_icmp_ne C 75 d_Model_compares_68 (by decide) (fun q22 => ?_) (fun q22 => ?_)
        · replace h0 := xif q22 h0
          refine x_iconst (v := 0) C d_Model_compares_75 (by decide) ?_
          refine x_goto C 111 d_Model_compares_76 (by decide) ?_
          exact x_lv C [] rfl (b_Model_compares_111 C hr hk hd hR h0)
        · replace h0 := xit q22 h0
          refine x_iconst (v := 1) C d_Model_compares_71 (by decide) ?_
          refine x_goto C 111 d_Model_compares_72 (by decide) ?_
          exact x_lv C [] rfl (b_Model_compares_111 C hr hk hd hR h0)
    · replace h0 := xit q12 h0
      refine x_aload_n C d_Model_compares_37 2 rfl ?_
      obtain ⟨r14, σ15, k13, h0⟩ := xbind2 h0
      refine x_callVi C hR (c_Model_fails (d := d) (by omega) k13) cw_Model_152 k_570 rfl rfl rfl (Nat.le_of_ble_eq_true rfl) ⟨Nat.zero_le _, Nat.zero_le _⟩ d_Model_compares_38 ?_
      obtain ⟨g16, h0⟩ := xgo h0
      exact x_zret C hr hk g16 h0 d_Model_compares_41
  · replace h0 := xif q5 h0
    refine x_iconst (v := 0) C d_Model_compares_21 (by decide) ?_
    exact x_zret C hr hk (by decide) h0 d_Model_compares_22
def s_Model_compares (p0 : Int32) (p1 : Int32) (σ : LH) : Option (Int32 × LH) :=
  if p0 = 0 then (
   xb2 (s_Model_sum RF σ) fun r3 σ4 =>
   s_Model_compares_12 p0 p1 r3 σ4)
  else (
   s_Model_compares_12 p0 p1 p1 σ)
theorem c_Model_compares {G : XG} {l : Launch} {d : Nat} (hd : 61 ≤ d) {p0 : Int32} {p1 : Int32} {σ σ' : LH} {r : Int32} (h0 : s_Model_compares p0 p1 σ = some (r, σ')) : xM G 570 598 l y_Model_compares prog_14_method_20_code 6 (some .boolean) d [.ref (G.2.2.1 + 570), .int p0, .int p1] σ (some (.int r)) σ' := by
  obtain ⟨d, rfl⟩ : ∃ q, d = q + 1 := ⟨d - 1, by omega⟩
  refine x_met R_Model rfl (by decide +kernel) (Nat.le_of_ble_eq_true rfl) fun p e s m below meth c C hr hk hR => ?_
  refine x_lv (lv' := [(0, .ref (G.2.2.1 + 570)), (1, .int p0), (2, .int p1)]) C [0, 1, 2] rfl ?_
  generalize xrm (d + 1) = R at hR ⊢
  unfold s_Model_compares at h0
  refine x_iload_n C d_Model_compares_0 1 rfl ?_
  refine x_if_eq C 8 d_Model_compares_1 (by decide) (fun q1 => ?_) (fun q1 => ?_)
  · replace h0 := xit q1 h0
    refine x_aload_n C d_Model_compares_8 0 rfl ?_
    obtain ⟨r3, σ4, k2, h0⟩ := xbind2 h0
    refine x_callVi C hR (c_Model_sum (d := d) (by omega) k2) cw_Model_179 k_570 rfl rfl rfl (Nat.le_of_ble_eq_true rfl) ⟨Nat.zero_le _, Nat.zero_le _⟩ d_Model_compares_9 ?_
    exact x_lv C [0] rfl (b_Model_compares_12 C hr hk hd hR h0)
  · replace h0 := xif q1 h0
    refine x_iload_n C d_Model_compares_4 2 rfl ?_
    refine x_goto C 12 d_Model_compares_5 (by decide) ?_
    exact x_lv C [0] rfl (b_Model_compares_12 C hr hk hd hR h0)
-- LostPlacesModel.part(ZI)Z
theorem d_Model_part_0 : decode prog_14_method_22_code 0 = .ok (.iload_n 1, 1) := by decide +kernel
theorem d_Model_part_1 : decode prog_14_method_22_code 1 = .ok (.ifCond .eq 12, 3) := by decide +kernel
theorem d_Model_part_4 : decode prog_14_method_22_code 4 = .ok (.aload_n 0, 1) := by decide +kernel
theorem d_Model_part_5 : decode prog_14_method_22_code 5 = .ok (.iconst 1, 1) := by decide +kernel
theorem d_Model_part_6 : decode prog_14_method_22_code 6 = .ok (.iload_n 2, 1) := by decide +kernel
theorem d_Model_part_7 : decode prog_14_method_22_code 7 = .ok (.invokevirtual 209, 3) := by decide +kernel
theorem d_Model_part_10 : decode prog_14_method_22_code 10 = .ok (.goto 7, 3) := by decide +kernel
theorem d_Model_part_13 : decode prog_14_method_22_code 13 = .ok (.aload_n 0, 1) := by decide +kernel
theorem d_Model_part_14 : decode prog_14_method_22_code 14 = .ok (.invokevirtual 202, 3) := by decide +kernel
theorem d_Model_part_17 : decode prog_14_method_22_code 17 = .ok (.istore_n 3, 1) := by decide +kernel
theorem d_Model_part_18 : decode prog_14_method_22_code 18 = .ok (.aload_n 0, 1) := by decide +kernel
theorem d_Model_part_19 : decode prog_14_method_22_code 19 = .ok (.getfield 146, 3) := by decide +kernel
theorem d_Model_part_22 : decode prog_14_method_22_code 22 = .ok (.iconst (-1), 1) := by decide +kernel
theorem d_Model_part_23 : decode prog_14_method_22_code 23 = .ok (.if_icmp .ne 46, 3) := by decide +kernel
theorem d_Model_part_26 : decode prog_14_method_22_code 26 = .ok (.aload_n 0, 1) := by decide +kernel
theorem d_Model_part_27 : decode prog_14_method_22_code 27 = .ok (.invokevirtual 156, 3) := by decide +kernel
theorem d_Model_part_30 : decode prog_14_method_22_code 30 = .ok (.bipush 38, 2) := by decide +kernel
theorem d_Model_part_32 : decode prog_14_method_22_code 32 = .ok (.if_icmp .ne 37, 3) := by decide +kernel
theorem d_Model_part_35 : decode prog_14_method_22_code 35 = .ok (.aload_n 0, 1) := by decide +kernel
theorem d_Model_part_36 : decode prog_14_method_22_code 36 = .ok (.dup, 1) := by decide +kernel
theorem d_Model_part_37 : decode prog_14_method_22_code 37 = .ok (.getfield 137, 3) := by decide +kernel
theorem d_Model_part_40 : decode prog_14_method_22_code 40 = .ok (.iconst 1, 1) := by decide +kernel
theorem d_Model_part_41 : decode prog_14_method_22_code 41 = .ok (.iadd, 1) := by decide +kernel
theorem d_Model_part_42 : decode prog_14_method_22_code 42 = .ok (.putfield 137, 3) := by decide +kernel
theorem d_Model_part_45 : decode prog_14_method_22_code 45 = .ok (.aload_n 0, 1) := by decide +kernel
theorem d_Model_part_46 : decode prog_14_method_22_code 46 = .ok (.invokevirtual 202, 3) := by decide +kernel
theorem d_Model_part_49 : decode prog_14_method_22_code 49 = .ok (.istore 4, 2) := by decide +kernel
theorem d_Model_part_51 : decode prog_14_method_22_code 51 = .ok (.iload_n 3, 1) := by decide +kernel
theorem d_Model_part_52 : decode prog_14_method_22_code 52 = .ok (.ifCond .eq 12, 3) := by decide +kernel
theorem d_Model_part_55 : decode prog_14_method_22_code 55 = .ok (.iload 4, 2) := by decide +kernel
theorem d_Model_part_57 : decode prog_14_method_22_code 57 = .ok (.ifCond .eq 7, 3) := by decide +kernel
theorem d_Model_part_60 : decode prog_14_method_22_code 60 = .ok (.iconst 1, 1) := by decide +kernel
theorem d_Model_part_61 : decode prog_14_method_22_code 61 = .ok (.goto 4, 3) := by decide +kernel
theorem d_Model_part_64 : decode prog_14_method_22_code 64 = .ok (.iconst 0, 1) := by decide +kernel
theorem d_Model_part_65 : decode prog_14_method_22_code 65 = .ok (.istore_n 3, 1) := by decide +kernel
theorem d_Model_part_66 : decode prog_14_method_22_code 66 = .ok (.goto (-48), 3) := by decide +kernel
theorem d_Model_part_69 : decode prog_14_method_22_code 69 = .ok (.iload_n 3, 1) := by decide +kernel
theorem d_Model_part_70 : decode prog_14_method_22_code 70 = .ok (.ireturn, 1) := by decide +kernel
def s_Model_part_65 (rf : LH → Option (Int32 × LH)) (p0 : Int32) (p1 : Int32) (rec18 : Int32 → LH → Option (Int32 × LH)) (z0 : Int32) (σ : LH) : Option (Int32 × LH) :=
  rec18 z0 σ
theorem b_Model_part_65 {G : XG} {l : Launch} {p : Program} {e : Env} {R : Room} {s : State} {m : MethodId} {args : Array Value} {below : List Frame} {meth : Method} {c : Code} (C : XC G 570 598 p s m args c prog_14_method_22_code 5 R_Model) (hr : meth.sig.returnType = (some .boolean)) (hk : meth.locks = false) {d dr : Nat} (hd : dr + 1 ≤ d + 1) (hd2 : 62 ≤ d + 1) (hR : xroom R (d + 1)) {rf : LH → Option (Int32 × LH)} (hrf : ∀ (σ : LH) (r : Int32) (σ' : LH), rf σ = some (r, σ') → ∀ d, dr ≤ d → xM G 570 598 l y_Model_unit prog_14_method_21_code 3 (some .boolean) d [.ref (G.2.2.1 + 570)] σ (some (.int r)) σ') {p0 : Int32} {p1 : Int32} {rec18 : Int32 → LH → Option (Int32 × LH)} {σ' : LH} {r : Int32} (hrec18 : ∀ (y3 : Int32) (σ : LH), rec18 y3 σ = some (r, σ') → XJ G 570 598 p l e R s m args below meth c 5 (XQ G 570 598 below args s (some (.int r)) σ') 0 0 18 [(0, .ref (G.2.2.1 + 570)), (3, .int y3)] [] σ) {z0 : Int32} {σ : LH} (h0 : s_Model_part_65 rf p0 p1 rec18 z0 σ = some (r, σ')) : XJ G 570 598 p l e R s m args below meth c 5 (XQ G 570 598 below args s (some (.int r)) σ') 0 0 65 [(0, .ref (G.2.2.1 + 570))] [.int z0] σ := by
  replace h0 := (show _ = _ from h0)
  unfold s_Model_part_65 at h0
  refine x_istore_n (lv' := [(3, .int z0), (0, .ref (G.2.2.1 + 570))]) C d_Model_part_65 rfl (by decide) rfl ?_
  refine x_goto C 18 d_Model_part_66 (by decide) ?_
  exact x_lv C [1, 0] rfl (hrec18 _ _ h0)
def s_Model_part_64 (rf : LH → Option (Int32 × LH)) (p0 : Int32) (p1 : Int32) (rec18 : Int32 → LH → Option (Int32 × LH)) (σ : LH) : Option (Int32 × LH) :=
  s_Model_part_65 rf p0 p1 rec18 0 σ
theorem b_Model_part_64 {G : XG} {l : Launch} {p : Program} {e : Env} {R : Room} {s : State} {m : MethodId} {args : Array Value} {below : List Frame} {meth : Method} {c : Code} (C : XC G 570 598 p s m args c prog_14_method_22_code 5 R_Model) (hr : meth.sig.returnType = (some .boolean)) (hk : meth.locks = false) {d dr : Nat} (hd : dr + 1 ≤ d + 1) (hd2 : 62 ≤ d + 1) (hR : xroom R (d + 1)) {rf : LH → Option (Int32 × LH)} (hrf : ∀ (σ : LH) (r : Int32) (σ' : LH), rf σ = some (r, σ') → ∀ d, dr ≤ d → xM G 570 598 l y_Model_unit prog_14_method_21_code 3 (some .boolean) d [.ref (G.2.2.1 + 570)] σ (some (.int r)) σ') {p0 : Int32} {p1 : Int32} {rec18 : Int32 → LH → Option (Int32 × LH)} {σ' : LH} {r : Int32} (hrec18 : ∀ (y3 : Int32) (σ : LH), rec18 y3 σ = some (r, σ') → XJ G 570 598 p l e R s m args below meth c 5 (XQ G 570 598 below args s (some (.int r)) σ') 0 0 18 [(0, .ref (G.2.2.1 + 570)), (3, .int y3)] [] σ) {σ : LH} (h0 : s_Model_part_64 rf p0 p1 rec18 σ = some (r, σ')) : XJ G 570 598 p l e R s m args below meth c 5 (XQ G 570 598 below args s (some (.int r)) σ') 0 0 64 [(0, .ref (G.2.2.1 + 570))] [] σ := by
  replace h0 := (show _ = _ from h0)
  unfold s_Model_part_64 at h0
  refine x_iconst (v := 0) C d_Model_part_64 (by decide) ?_
  exact x_lv C [0] rfl (b_Model_part_65 C hr hk hd hd2 hR hrf hrec18 h0)
def s_Model_part_69 (rf : LH → Option (Int32 × LH)) (p0 : Int32) (p1 : Int32) (y3 : Int32) (σ : LH) : Option (Int32 × LH) :=
  if zb y3 then (
  some (y3, σ)) else none
theorem b_Model_part_69 {G : XG} {l : Launch} {p : Program} {e : Env} {R : Room} {s : State} {m : MethodId} {args : Array Value} {below : List Frame} {meth : Method} {c : Code} (C : XC G 570 598 p s m args c prog_14_method_22_code 5 R_Model) (hr : meth.sig.returnType = (some .boolean)) (hk : meth.locks = false) {d dr : Nat} (hd : dr + 1 ≤ d + 1) (hd2 : 62 ≤ d + 1) (hR : xroom R (d + 1)) {rf : LH → Option (Int32 × LH)} (hrf : ∀ (σ : LH) (r : Int32) (σ' : LH), rf σ = some (r, σ') → ∀ d, dr ≤ d → xM G 570 598 l y_Model_unit prog_14_method_21_code 3 (some .boolean) d [.ref (G.2.2.1 + 570)] σ (some (.int r)) σ') {p0 : Int32} {p1 : Int32} {σ' : LH} {r : Int32} {y3 : Int32} {σ : LH} (h0 : s_Model_part_69 rf p0 p1 y3 σ = some (r, σ')) : XJ G 570 598 p l e R s m args below meth c 5 (XQ G 570 598 below args s (some (.int r)) σ') 0 0 69 [(3, .int y3)] [] σ := by
  replace h0 := (show _ = _ from h0)
  unfold s_Model_part_69 at h0
  refine x_iload_n C d_Model_part_69 0 rfl ?_
  obtain ⟨g16, h0⟩ := xgo h0
  exact x_zret C hr hk g16 h0 d_Model_part_70
def s_Model_part_18_b (rf : LH → Option (Int32 × LH)) (p0 : Int32) (p1 : Int32) (rec18 : Int32 → LH → Option (Int32 × LH)) (y3 : Int32) (σ : LH) : Option (Int32 × LH) :=
  if (σ.1 570 11) = (-1) then (
   xb2 (s_Model_look σ) fun r7 σ8 =>
   if r7 = 38 then (
    xl ((stI σ8 570 10 ((σ8.1 570 10) + 1)) : LH) fun σ10 =>
    xb2 (rf σ10) fun r12 σ13 =>
    if y3 = 0 then (
     s_Model_part_64 rf p0 p1 rec18 σ13)
    else (
     if r12 = 0 then (
      s_Model_part_64 rf p0 p1 rec18 σ13)
     else (
      s_Model_part_65 rf p0 p1 rec18 1 σ13)))
   else (
    s_Model_part_69 rf p0 p1 y3 σ8))
  else (
   s_Model_part_69 rf p0 p1 y3 σ)
def s_Model_part_18 (rf : LH → Option (Int32 × LH)) (p0 : Int32) (p1 : Int32) : Nat → Int32 → LH → Option (Int32 × LH)
  | 0, _, _ => none
  | n + 1, y3, σ => s_Model_part_18_b rf p0 p1 (s_Model_part_18 rf p0 p1 n) y3 σ
theorem bb_Model_part_18 {G : XG} {l : Launch} {p : Program} {e : Env} {R : Room} {s : State} {m : MethodId} {args : Array Value} {below : List Frame} {meth : Method} {c : Code} (C : XC G 570 598 p s m args c prog_14_method_22_code 5 R_Model) (hr : meth.sig.returnType = (some .boolean)) (hk : meth.locks = false) {d dr : Nat} (hd : dr + 1 ≤ d + 1) (hd2 : 62 ≤ d + 1) (hR : xroom R (d + 1)) {rf : LH → Option (Int32 × LH)} (hrf : ∀ (σ : LH) (r : Int32) (σ' : LH), rf σ = some (r, σ') → ∀ d, dr ≤ d → xM G 570 598 l y_Model_unit prog_14_method_21_code 3 (some .boolean) d [.ref (G.2.2.1 + 570)] σ (some (.int r)) σ') {p0 : Int32} {p1 : Int32} {rec18 : Int32 → LH → Option (Int32 × LH)} {σ' : LH} {r : Int32} (hrec18 : ∀ (y3 : Int32) (σ : LH), rec18 y3 σ = some (r, σ') → XJ G 570 598 p l e R s m args below meth c 5 (XQ G 570 598 below args s (some (.int r)) σ') 0 0 18 [(0, .ref (G.2.2.1 + 570)), (3, .int y3)] [] σ) {y3 : Int32} {σ : LH} (h0 : s_Model_part_18_b rf p0 p1 rec18 y3 σ = some (r, σ')) : XJ G 570 598 p l e R s m args below meth c 5 (XQ G 570 598 below args s (some (.int r)) σ') 0 0 18 [(0, .ref (G.2.2.1 + 570)), (3, .int y3)] [] σ := by
  replace h0 := (show _ = _ from h0)
  unfold s_Model_part_18_b at h0
  refine x_aload_n C d_Model_part_18 0 rfl ?_
  refine x_getI (y := 0) C fg_Model_146 k_570 rfl d_Model_part_19 ?_
  refine x_iconst (v := (-1)) C d_Model_part_22 (by decide) ?_
  refine x_icmp_ne C 69 d_Model_part_23 (by decide) (fun q5 => ?_) (fun q5 => ?_)
  · replace h0 := xif q5 h0
    exact x_lv C [1] rfl (b_Model_part_69 C hr hk hd hd2 hR hrf h0)
  · replace h0 := xit q5 h0
    refine x_aload_n C d_Model_part_26 0 rfl ?_
    obtain ⟨r7, σ8, k6, h0⟩ := xbind2 h0
    refine x_callVi C hR (c_Model_look (d := d) (by omega) k6) cw_Model_156 k_570 rfl rfl rfl (Nat.le_of_ble_eq_true rfl) ⟨Nat.zero_le _, Nat.zero_le _⟩ d_Model_part_27 ?_
    refine x_bipush (v := 38) C d_Model_part_30 (by decide) ?_
    refine x_icmp_ne C 69 d_Model_part_32 (by decide) (fun q9 => ?_) (fun q9 => ?_)
    · replace h0 := xif q9 h0
      exact x_lv C [1] rfl (b_Model_part_69 C hr hk hd hd2 hR hrf h0)
    · replace h0 := xit q9 h0
      refine x_aload_n C d_Model_part_35 0 rfl ?_
      refine x_dup C d_Model_part_36 rfl ?_
      refine x_getI (y := 0) C fg_Model_137 k_570 rfl d_Model_part_37 ?_
      refine x_iconst (v := 1) C d_Model_part_40 (by decide) ?_
      refine x_iadd C d_Model_part_41 ?_
      refine x_putI (y := 0) C fp_Model_137 k_570 rfl rfl rfl d_Model_part_42 ?_
      obtain ⟨σ10, eσ10, h0⟩ := xlet h0
      refine x_sig C eσ10 ?_
      refine x_aload_n C d_Model_part_45 0 rfl ?_
      obtain ⟨r12, σ13, k11, h0⟩ := xbind2 h0
      refine x_callVi C hR (hrf  _ _ _ k11 d (by omega)) cw_Model_202 k_570 rfl rfl rfl (Nat.le_of_ble_eq_true rfl) ⟨Nat.zero_le _, Nat.zero_le _⟩ d_Model_part_46 ?_
      refine x_istore (lv' := [(4, .int r12), (0, .ref (G.2.2.1 + 570)), (3, .int y3)]) C d_Model_part_49 (by decide) rfl ?_
      refine x_iload_n C d_Model_part_51 2 rfl ?_
      refine x_if_eq C 64 d_Model_part_52 (by decide) (fun q14 => ?_) (fun q14 => ?_)
      · replace h0 := xit q14 h0
        exact x_lv C [1] rfl (b_Model_part_64 C hr hk hd hd2 hR hrf hrec18 h0)
      · replace h0 := xif q14 h0
        refine x_iload C d_Model_part_55 0 rfl ?_
        refine x_if_eq C 64 d_Model_part_57 (by decide) (fun q15 => ?_) (fun q15 => ?_)
        · replace h0 := xit q15 h0
          exact x_lv C [1] rfl (b_Model_part_64 C hr hk hd hd2 hR hrf hrec18 h0)
        · replace h0 := xif q15 h0
          refine x_iconst (v := 1) C d_Model_part_60 (by decide) ?_
          refine x_goto C 65 d_Model_part_61 (by decide) ?_
          exact x_lv C [1] rfl (b_Model_part_65 C hr hk hd hd2 hR hrf hrec18 h0)
theorem b_Model_part_18 {G : XG} {l : Launch} {p : Program} {e : Env} {R : Room} {s : State} {m : MethodId} {args : Array Value} {below : List Frame} {meth : Method} {c : Code} (C : XC G 570 598 p s m args c prog_14_method_22_code 5 R_Model) (hr : meth.sig.returnType = (some .boolean)) (hk : meth.locks = false) {d dr : Nat} (hd : dr + 1 ≤ d + 1) (hd2 : 62 ≤ d + 1) (hR : xroom R (d + 1)) {rf : LH → Option (Int32 × LH)} (hrf : ∀ (σ : LH) (r : Int32) (σ' : LH), rf σ = some (r, σ') → ∀ d, dr ≤ d → xM G 570 598 l y_Model_unit prog_14_method_21_code 3 (some .boolean) d [.ref (G.2.2.1 + 570)] σ (some (.int r)) σ') {p0 : Int32} {p1 : Int32} {σ' : LH} {r : Int32} : ∀ (n : Nat) (y3 : Int32) (σ : LH), s_Model_part_18 rf p0 p1 n y3 σ = some (r, σ') → XJ G 570 598 p l e R s m args below meth c 5 (XQ G 570 598 below args s (some (.int r)) σ') 0 0 18 [(0, .ref (G.2.2.1 + 570)), (3, .int y3)] [] σ := by
  intro n
  induction n with
  | zero => intro y3 σ h0; cases h0
  | succ n ih => intro y3 σ h0; exact bb_Model_part_18 C hr hk hd hd2 hR hrf ih h0
def s_Model_part_17 (rf : LH → Option (Int32 × LH)) (p0 : Int32) (p1 : Int32) (z0 : Int32) (σ : LH) : Option (Int32 × LH) :=
  s_Model_part_18 rf p0 p1 FUEL z0 σ
theorem b_Model_part_17 {G : XG} {l : Launch} {p : Program} {e : Env} {R : Room} {s : State} {m : MethodId} {args : Array Value} {below : List Frame} {meth : Method} {c : Code} (C : XC G 570 598 p s m args c prog_14_method_22_code 5 R_Model) (hr : meth.sig.returnType = (some .boolean)) (hk : meth.locks = false) {d dr : Nat} (hd : dr + 1 ≤ d + 1) (hd2 : 62 ≤ d + 1) (hR : xroom R (d + 1)) {rf : LH → Option (Int32 × LH)} (hrf : ∀ (σ : LH) (r : Int32) (σ' : LH), rf σ = some (r, σ') → ∀ d, dr ≤ d → xM G 570 598 l y_Model_unit prog_14_method_21_code 3 (some .boolean) d [.ref (G.2.2.1 + 570)] σ (some (.int r)) σ') {p0 : Int32} {p1 : Int32} {σ' : LH} {r : Int32} {z0 : Int32} {σ : LH} (h0 : s_Model_part_17 rf p0 p1 z0 σ = some (r, σ')) : XJ G 570 598 p l e R s m args below meth c 5 (XQ G 570 598 below args s (some (.int r)) σ') 0 0 17 [(0, .ref (G.2.2.1 + 570))] [.int z0] σ := by
  replace h0 := (show _ = _ from h0)
  unfold s_Model_part_17 at h0
  refine x_istore_n (lv' := [(3, .int z0), (0, .ref (G.2.2.1 + 570))]) C d_Model_part_17 rfl (by decide) rfl ?_
  exact x_lv C [1, 0] rfl (b_Model_part_18 C hr hk hd hd2 hR hrf FUEL _ _ h0)
def s_Model_part (rf : LH → Option (Int32 × LH)) (p0 : Int32) (p1 : Int32) (σ : LH) : Option (Int32 × LH) :=
  if p0 = 0 then (
   xb2 (rf σ) fun r3 σ4 =>
   s_Model_part_17 rf p0 p1 r3 σ4)
  else (
   xb2 (s_Model_compares 1 p1 σ) fun r18 σ19 =>
   s_Model_part_17 rf p0 p1 r18 σ19)
theorem c_Model_part {G : XG} {l : Launch} {d dr : Nat} {rf : LH → Option (Int32 × LH)} (hrf : ∀ (σ : LH) (r : Int32) (σ' : LH), rf σ = some (r, σ') → ∀ d, dr ≤ d → xM G 570 598 l y_Model_unit prog_14_method_21_code 3 (some .boolean) d [.ref (G.2.2.1 + 570)] σ (some (.int r)) σ') (hd : dr + 1 ≤ d) (hd2 : 62 ≤ d) {p0 : Int32} {p1 : Int32} {σ σ' : LH} {r : Int32} (h0 : s_Model_part rf p0 p1 σ = some (r, σ')) : xM G 570 598 l y_Model_part prog_14_method_22_code 5 (some .boolean) d [.ref (G.2.2.1 + 570), .int p0, .int p1] σ (some (.int r)) σ' := by
  obtain ⟨d, rfl⟩ : ∃ q, d = q + 1 := ⟨d - 1, by omega⟩
  refine x_met R_Model rfl (by decide +kernel) (Nat.le_of_ble_eq_true rfl) fun p e s m below meth c C hr hk hR => ?_
  refine x_lv (lv' := [(0, .ref (G.2.2.1 + 570)), (1, .int p0), (2, .int p1)]) C [0, 1, 2] rfl ?_
  generalize xrm (d + 1) = R at hR ⊢
  unfold s_Model_part at h0
  refine x_iload_n C d_Model_part_0 1 rfl ?_
  refine x_if_eq C 13 d_Model_part_1 (by decide) (fun q1 => ?_) (fun q1 => ?_)
  · replace h0 := xit q1 h0
    refine x_aload_n C d_Model_part_13 0 rfl ?_
    obtain ⟨r3, σ4, k2, h0⟩ := xbind2 h0
    refine x_callVi C hR (hrf  _ _ _ k2 d (by omega)) cw_Model_202 k_570 rfl rfl rfl (Nat.le_of_ble_eq_true rfl) ⟨Nat.zero_le _, Nat.zero_le _⟩ d_Model_part_14 ?_
    exact x_lv C [0] rfl (b_Model_part_17 C hr hk hd hd2 hR hrf h0)
  · replace h0 := xif q1 h0
    refine x_aload_n C d_Model_part_4 0 rfl ?_
    refine x_iconst (v := 1) C d_Model_part_5 (by decide) ?_
    refine x_iload_n C d_Model_part_6 2 rfl ?_
    obtain ⟨r18, σ19, k17, h0⟩ := xbind2 h0
    refine x_callVi C hR (c_Model_compares (d := d) (by omega) k17) cw_Model_209 k_570 rfl rfl rfl (Nat.le_of_ble_eq_true rfl) ⟨Nat.zero_le _, Nat.zero_le _⟩ d_Model_part_7 ?_
    refine x_goto C 17 d_Model_part_10 (by decide) ?_
    exact x_lv C [0] rfl (b_Model_part_17 C hr hk hd hd2 hR hrf h0)
-- LostPlacesModel.condition(ZI)Z
theorem d_Model_condition_0 : decode prog_14_method_23_code 0 = .ok (.aload_n 0, 1) := by decide +kernel
theorem d_Model_condition_1 : decode prog_14_method_23_code 1 = .ok (.iload_n 1, 1) := by decide +kernel
theorem d_Model_condition_2 : decode prog_14_method_23_code 2 = .ok (.iload_n 2, 1) := by decide +kernel
theorem d_Model_condition_3 : decode prog_14_method_23_code 3 = .ok (.invokevirtual 212, 3) := by decide +kernel
theorem d_Model_condition_6 : decode prog_14_method_23_code 6 = .ok (.istore_n 3, 1) := by decide +kernel
theorem d_Model_condition_7 : decode prog_14_method_23_code 7 = .ok (.aload_n 0, 1) := by decide +kernel
theorem d_Model_condition_8 : decode prog_14_method_23_code 8 = .ok (.getfield 146, 3) := by decide +kernel
theorem d_Model_condition_11 : decode prog_14_method_23_code 11 = .ok (.iconst (-1), 1) := by decide +kernel
theorem d_Model_condition_12 : decode prog_14_method_23_code 12 = .ok (.if_icmp .ne 48, 3) := by decide +kernel
theorem d_Model_condition_15 : decode prog_14_method_23_code 15 = .ok (.aload_n 0, 1) := by decide +kernel
theorem d_Model_condition_16 : decode prog_14_method_23_code 16 = .ok (.invokevirtual 156, 3) := by decide +kernel
theorem d_Model_condition_19 : decode prog_14_method_23_code 19 = .ok (.bipush 124, 2) := by decide +kernel
theorem d_Model_condition_21 : decode prog_14_method_23_code 21 = .ok (.if_icmp .ne 39, 3) := by decide +kernel
theorem d_Model_condition_24 : decode prog_14_method_23_code 24 = .ok (.aload_n 0, 1) := by decide +kernel
theorem d_Model_condition_25 : decode prog_14_method_23_code 25 = .ok (.dup, 1) := by decide +kernel
theorem d_Model_condition_26 : decode prog_14_method_23_code 26 = .ok (.getfield 137, 3) := by decide +kernel
theorem d_Model_condition_29 : decode prog_14_method_23_code 29 = .ok (.iconst 1, 1) := by decide +kernel
theorem d_Model_condition_30 : decode prog_14_method_23_code 30 = .ok (.iadd, 1) := by decide +kernel
theorem d_Model_condition_31 : decode prog_14_method_23_code 31 = .ok (.putfield 137, 3) := by decide +kernel
theorem d_Model_condition_34 : decode prog_14_method_23_code 34 = .ok (.aload_n 0, 1) := by decide +kernel
theorem d_Model_condition_35 : decode prog_14_method_23_code 35 = .ok (.iconst 0, 1) := by decide +kernel
theorem d_Model_condition_36 : decode prog_14_method_23_code 36 = .ok (.iconst 0, 1) := by decide +kernel
theorem d_Model_condition_37 : decode prog_14_method_23_code 37 = .ok (.invokevirtual 212, 3) := by decide +kernel
theorem d_Model_condition_40 : decode prog_14_method_23_code 40 = .ok (.istore 4, 2) := by decide +kernel
theorem d_Model_condition_42 : decode prog_14_method_23_code 42 = .ok (.iload_n 3, 1) := by decide +kernel
theorem d_Model_condition_43 : decode prog_14_method_23_code 43 = .ok (.ifCond .ne 8, 3) := by decide +kernel
theorem d_Model_condition_46 : decode prog_14_method_23_code 46 = .ok (.iload 4, 2) := by decide +kernel
theorem d_Model_condition_48 : decode prog_14_method_23_code 48 = .ok (.ifCond .eq 7, 3) := by decide +kernel
theorem d_Model_condition_51 : decode prog_14_method_23_code 51 = .ok (.iconst 1, 1) := by decide +kernel
theorem d_Model_condition_52 : decode prog_14_method_23_code 52 = .ok (.goto 4, 3) := by decide +kernel
theorem d_Model_condition_55 : decode prog_14_method_23_code 55 = .ok (.iconst 0, 1) := by decide +kernel
theorem d_Model_condition_56 : decode prog_14_method_23_code 56 = .ok (.istore_n 3, 1) := by decide +kernel
theorem d_Model_condition_57 : decode prog_14_method_23_code 57 = .ok (.goto (-50), 3) := by decide +kernel
theorem d_Model_condition_60 : decode prog_14_method_23_code 60 = .ok (.iload_n 3, 1) := by decide +kernel
theorem d_Model_condition_61 : decode prog_14_method_23_code 61 = .ok (.ireturn, 1) := by decide +kernel
def s_Model_condition_56 (rf : LH → Option (Int32 × LH)) (p0 : Int32) (p1 : Int32) (rec7 : Int32 → LH → Option (Int32 × LH)) (z0 : Int32) (σ : LH) : Option (Int32 × LH) :=
  rec7 z0 σ
theorem b_Model_condition_56 {G : XG} {l : Launch} {p : Program} {e : Env} {R : Room} {s : State} {m : MethodId} {args : Array Value} {below : List Frame} {meth : Method} {c : Code} (C : XC G 570 598 p s m args c prog_14_method_23_code 5 R_Model) (hr : meth.sig.returnType = (some .boolean)) (hk : meth.locks = false) {d dr : Nat} (hd : dr + 2 ≤ d + 1) (hd2 : 63 ≤ d + 1) (hR : xroom R (d + 1)) {rf : LH → Option (Int32 × LH)} (hrf : ∀ (σ : LH) (r : Int32) (σ' : LH), rf σ = some (r, σ') → ∀ d, dr ≤ d → xM G 570 598 l y_Model_unit prog_14_method_21_code 3 (some .boolean) d [.ref (G.2.2.1 + 570)] σ (some (.int r)) σ') {p0 : Int32} {p1 : Int32} {rec7 : Int32 → LH → Option (Int32 × LH)} {σ' : LH} {r : Int32} (hrec7 : ∀ (y3 : Int32) (σ : LH), rec7 y3 σ = some (r, σ') → XJ G 570 598 p l e R s m args below meth c 5 (XQ G 570 598 below args s (some (.int r)) σ') 0 0 7 [(0, .ref (G.2.2.1 + 570)), (3, .int y3)] [] σ) {z0 : Int32} {σ : LH} (h0 : s_Model_condition_56 rf p0 p1 rec7 z0 σ = some (r, σ')) : XJ G 570 598 p l e R s m args below meth c 5 (XQ G 570 598 below args s (some (.int r)) σ') 0 0 56 [(0, .ref (G.2.2.1 + 570))] [.int z0] σ := by
  replace h0 := (show _ = _ from h0)
  unfold s_Model_condition_56 at h0
  refine x_istore_n (lv' := [(3, .int z0), (0, .ref (G.2.2.1 + 570))]) C d_Model_condition_56 rfl (by decide) rfl ?_
  refine x_goto C 7 d_Model_condition_57 (by decide) ?_
  exact x_lv C [1, 0] rfl (hrec7 _ _ h0)
def s_Model_condition_51 (rf : LH → Option (Int32 × LH)) (p0 : Int32) (p1 : Int32) (rec7 : Int32 → LH → Option (Int32 × LH)) (σ : LH) : Option (Int32 × LH) :=
  s_Model_condition_56 rf p0 p1 rec7 1 σ
theorem b_Model_condition_51 {G : XG} {l : Launch} {p : Program} {e : Env} {R : Room} {s : State} {m : MethodId} {args : Array Value} {below : List Frame} {meth : Method} {c : Code} (C : XC G 570 598 p s m args c prog_14_method_23_code 5 R_Model) (hr : meth.sig.returnType = (some .boolean)) (hk : meth.locks = false) {d dr : Nat} (hd : dr + 2 ≤ d + 1) (hd2 : 63 ≤ d + 1) (hR : xroom R (d + 1)) {rf : LH → Option (Int32 × LH)} (hrf : ∀ (σ : LH) (r : Int32) (σ' : LH), rf σ = some (r, σ') → ∀ d, dr ≤ d → xM G 570 598 l y_Model_unit prog_14_method_21_code 3 (some .boolean) d [.ref (G.2.2.1 + 570)] σ (some (.int r)) σ') {p0 : Int32} {p1 : Int32} {rec7 : Int32 → LH → Option (Int32 × LH)} {σ' : LH} {r : Int32} (hrec7 : ∀ (y3 : Int32) (σ : LH), rec7 y3 σ = some (r, σ') → XJ G 570 598 p l e R s m args below meth c 5 (XQ G 570 598 below args s (some (.int r)) σ') 0 0 7 [(0, .ref (G.2.2.1 + 570)), (3, .int y3)] [] σ) {σ : LH} (h0 : s_Model_condition_51 rf p0 p1 rec7 σ = some (r, σ')) : XJ G 570 598 p l e R s m args below meth c 5 (XQ G 570 598 below args s (some (.int r)) σ') 0 0 51 [(0, .ref (G.2.2.1 + 570))] [] σ := by
  replace h0 := (show _ = _ from h0)
  unfold s_Model_condition_51 at h0
  refine x_iconst (v := 1) C d_Model_condition_51 (by decide) ?_
  refine x_goto C 56 d_Model_condition_52 (by decide) ?_
  exact x_lv C [0] rfl (b_Model_condition_56 C hr hk hd hd2 hR hrf hrec7 h0)
def s_Model_condition_60 (rf : LH → Option (Int32 × LH)) (p0 : Int32) (p1 : Int32) (y3 : Int32) (σ : LH) : Option (Int32 × LH) :=
  if zb y3 then (
  some (y3, σ)) else none
theorem b_Model_condition_60 {G : XG} {l : Launch} {p : Program} {e : Env} {R : Room} {s : State} {m : MethodId} {args : Array Value} {below : List Frame} {meth : Method} {c : Code} (C : XC G 570 598 p s m args c prog_14_method_23_code 5 R_Model) (hr : meth.sig.returnType = (some .boolean)) (hk : meth.locks = false) {d dr : Nat} (hd : dr + 2 ≤ d + 1) (hd2 : 63 ≤ d + 1) (hR : xroom R (d + 1)) {rf : LH → Option (Int32 × LH)} (hrf : ∀ (σ : LH) (r : Int32) (σ' : LH), rf σ = some (r, σ') → ∀ d, dr ≤ d → xM G 570 598 l y_Model_unit prog_14_method_21_code 3 (some .boolean) d [.ref (G.2.2.1 + 570)] σ (some (.int r)) σ') {p0 : Int32} {p1 : Int32} {σ' : LH} {r : Int32} {y3 : Int32} {σ : LH} (h0 : s_Model_condition_60 rf p0 p1 y3 σ = some (r, σ')) : XJ G 570 598 p l e R s m args below meth c 5 (XQ G 570 598 below args s (some (.int r)) σ') 0 0 60 [(3, .int y3)] [] σ := by
  replace h0 := (show _ = _ from h0)
  unfold s_Model_condition_60 at h0
  refine x_iload_n C d_Model_condition_60 0 rfl ?_
  obtain ⟨g15, h0⟩ := xgo h0
  exact x_zret C hr hk g15 h0 d_Model_condition_61
def s_Model_condition_7_b (rf : LH → Option (Int32 × LH)) (p0 : Int32) (p1 : Int32) (rec7 : Int32 → LH → Option (Int32 × LH)) (y3 : Int32) (σ : LH) : Option (Int32 × LH) :=
  if (σ.1 570 11) = (-1) then (
   xb2 (s_Model_look σ) fun r6 σ7 =>
   if r6 = 124 then (
    xl ((stI σ7 570 10 ((σ7.1 570 10) + 1)) : LH) fun σ9 =>
    xb2 (s_Model_part rf 0 0 σ9) fun r11 σ12 =>
    if y3 = 0 then (
     if r11 = 0 then (
      s_Model_condition_56 rf p0 p1 rec7 0 σ12)
     else (
      s_Model_condition_51 rf p0 p1 rec7 σ12))
    else (
     s_Model_condition_51 rf p0 p1 rec7 σ12))
   else (
    s_Model_condition_60 rf p0 p1 y3 σ7))
  else (
   s_Model_condition_60 rf p0 p1 y3 σ)
def s_Model_condition_7 (rf : LH → Option (Int32 × LH)) (p0 : Int32) (p1 : Int32) : Nat → Int32 → LH → Option (Int32 × LH)
  | 0, _, _ => none
  | n + 1, y3, σ => s_Model_condition_7_b rf p0 p1 (s_Model_condition_7 rf p0 p1 n) y3 σ
theorem bb_Model_condition_7 {G : XG} {l : Launch} {p : Program} {e : Env} {R : Room} {s : State} {m : MethodId} {args : Array Value} {below : List Frame} {meth : Method} {c : Code} (C : XC G 570 598 p s m args c prog_14_method_23_code 5 R_Model) (hr : meth.sig.returnType = (some .boolean)) (hk : meth.locks = false) {d dr : Nat} (hd : dr + 2 ≤ d + 1) (hd2 : 63 ≤ d + 1) (hR : xroom R (d + 1)) {rf : LH → Option (Int32 × LH)} (hrf : ∀ (σ : LH) (r : Int32) (σ' : LH), rf σ = some (r, σ') → ∀ d, dr ≤ d → xM G 570 598 l y_Model_unit prog_14_method_21_code 3 (some .boolean) d [.ref (G.2.2.1 + 570)] σ (some (.int r)) σ') {p0 : Int32} {p1 : Int32} {rec7 : Int32 → LH → Option (Int32 × LH)} {σ' : LH} {r : Int32} (hrec7 : ∀ (y3 : Int32) (σ : LH), rec7 y3 σ = some (r, σ') → XJ G 570 598 p l e R s m args below meth c 5 (XQ G 570 598 below args s (some (.int r)) σ') 0 0 7 [(0, .ref (G.2.2.1 + 570)), (3, .int y3)] [] σ) {y3 : Int32} {σ : LH} (h0 : s_Model_condition_7_b rf p0 p1 rec7 y3 σ = some (r, σ')) : XJ G 570 598 p l e R s m args below meth c 5 (XQ G 570 598 below args s (some (.int r)) σ') 0 0 7 [(0, .ref (G.2.2.1 + 570)), (3, .int y3)] [] σ := by
  replace h0 := (show _ = _ from h0)
  unfold s_Model_condition_7_b at h0
  refine x_aload_n C d_Model_condition_7 0 rfl ?_
  refine x_getI (y := 0) C fg_Model_146 k_570 rfl d_Model_condition_8 ?_
  refine x_iconst (v := (-1)) C d_Model_condition_11 (by decide) ?_
  refine x_icmp_ne C 60 d_Model_condition_12 (by decide) (fun q4 => ?_) (fun q4 => ?_)
  · replace h0 := xif q4 h0
    exact x_lv C [1] rfl (b_Model_condition_60 C hr hk hd hd2 hR hrf h0)
  · replace h0 := xit q4 h0
    refine x_aload_n C d_Model_condition_15 0 rfl ?_
    obtain ⟨r6, σ7, k5, h0⟩ := xbind2 h0
    refine x_callVi C hR (c_Model_look (d := d) (by omega) k5) cw_Model_156 k_570 rfl rfl rfl (Nat.le_of_ble_eq_true rfl) ⟨Nat.zero_le _, Nat.zero_le _⟩ d_Model_condition_16 ?_
    refine x_bipush (v := 124) C d_Model_condition_19 (by decide) ?_
    refine x_icmp_ne C 60 d_Model_condition_21 (by decide) (fun q8 => ?_) (fun q8 => ?_)
    · replace h0 := xif q8 h0
      exact x_lv C [1] rfl (b_Model_condition_60 C hr hk hd hd2 hR hrf h0)
    · replace h0 := xit q8 h0
      refine x_aload_n C d_Model_condition_24 0 rfl ?_
      refine x_dup C d_Model_condition_25 rfl ?_
      refine x_getI (y := 0) C fg_Model_137 k_570 rfl d_Model_condition_26 ?_
      refine x_iconst (v := 1) C d_Model_condition_29 (by decide) ?_
      refine x_iadd C d_Model_condition_30 ?_
      refine x_putI (y := 0) C fp_Model_137 k_570 rfl rfl rfl d_Model_condition_31 ?_
      obtain ⟨σ9, eσ9, h0⟩ := xlet h0
      refine x_sig C eσ9 ?_
      refine x_aload_n C d_Model_condition_34 0 rfl ?_
      refine x_iconst (v := 0) C d_Model_condition_35 (by decide) ?_
      refine x_iconst (v := 0) C d_Model_condition_36 (by decide) ?_
      obtain ⟨r11, σ12, k10, h0⟩ := xbind2 h0
      refine x_callVi C hR (c_Model_part hrf (d := d) (by omega) (by omega) k10) cw_Model_212 k_570 rfl rfl rfl (Nat.le_of_ble_eq_true rfl) ⟨Nat.zero_le _, Nat.zero_le _⟩ d_Model_condition_37 ?_
      refine x_istore (lv' := [(4, .int r11), (0, .ref (G.2.2.1 + 570)), (3, .int y3)]) C d_Model_condition_40 (by decide) rfl ?_
      refine x_iload_n C d_Model_condition_42 2 rfl ?_
      refine x_if_ne C 51 d_Model_condition_43 (by decide) (fun q13 => ?_) (fun q13 => ?_)
      · replace h0 := xif q13 h0
        exact x_lv C [1] rfl (b_Model_condition_51 C hr hk hd hd2 hR hrf hrec7 h0)
      · replace h0 := xit q13 h0
        refine x_iload C d_Model_condition_46 0 rfl ?_
        refine x_if_eq C 55 d_Model_condition_48 (by decide) (fun q14 => ?_) (fun q14 => ?_)
        · replace h0 := xit q14 h0
          refine x_iconst (v := 0) C d_Model_condition_55 (by decide) ?_
          exact x_lv C [1] rfl (b_Model_condition_56 C hr hk hd hd2 hR hrf hrec7 h0)
        · replace h0 := xif q14 h0
          exact x_lv C [1] rfl (b_Model_condition_51 C hr hk hd hd2 hR hrf hrec7 h0)
theorem b_Model_condition_7 {G : XG} {l : Launch} {p : Program} {e : Env} {R : Room} {s : State} {m : MethodId} {args : Array Value} {below : List Frame} {meth : Method} {c : Code} (C : XC G 570 598 p s m args c prog_14_method_23_code 5 R_Model) (hr : meth.sig.returnType = (some .boolean)) (hk : meth.locks = false) {d dr : Nat} (hd : dr + 2 ≤ d + 1) (hd2 : 63 ≤ d + 1) (hR : xroom R (d + 1)) {rf : LH → Option (Int32 × LH)} (hrf : ∀ (σ : LH) (r : Int32) (σ' : LH), rf σ = some (r, σ') → ∀ d, dr ≤ d → xM G 570 598 l y_Model_unit prog_14_method_21_code 3 (some .boolean) d [.ref (G.2.2.1 + 570)] σ (some (.int r)) σ') {p0 : Int32} {p1 : Int32} {σ' : LH} {r : Int32} : ∀ (n : Nat) (y3 : Int32) (σ : LH), s_Model_condition_7 rf p0 p1 n y3 σ = some (r, σ') → XJ G 570 598 p l e R s m args below meth c 5 (XQ G 570 598 below args s (some (.int r)) σ') 0 0 7 [(0, .ref (G.2.2.1 + 570)), (3, .int y3)] [] σ := by
  intro n
  induction n with
  | zero => intro y3 σ h0; cases h0
  | succ n ih => intro y3 σ h0; exact bb_Model_condition_7 C hr hk hd hd2 hR hrf ih h0
def s_Model_condition (rf : LH → Option (Int32 × LH)) (p0 : Int32) (p1 : Int32) (σ : LH) : Option (Int32 × LH) :=
  xb2 (s_Model_part rf p0 p1 σ) fun r2 σ3 =>
  s_Model_condition_7 rf p0 p1 FUEL r2 σ3
theorem c_Model_condition {G : XG} {l : Launch} {d dr : Nat} {rf : LH → Option (Int32 × LH)} (hrf : ∀ (σ : LH) (r : Int32) (σ' : LH), rf σ = some (r, σ') → ∀ d, dr ≤ d → xM G 570 598 l y_Model_unit prog_14_method_21_code 3 (some .boolean) d [.ref (G.2.2.1 + 570)] σ (some (.int r)) σ') (hd : dr + 2 ≤ d) (hd2 : 63 ≤ d) {p0 : Int32} {p1 : Int32} {σ σ' : LH} {r : Int32} (h0 : s_Model_condition rf p0 p1 σ = some (r, σ')) : xM G 570 598 l y_Model_condition prog_14_method_23_code 5 (some .boolean) d [.ref (G.2.2.1 + 570), .int p0, .int p1] σ (some (.int r)) σ' := by
  obtain ⟨d, rfl⟩ : ∃ q, d = q + 1 := ⟨d - 1, by omega⟩
  refine x_met R_Model rfl (by decide +kernel) (Nat.le_of_ble_eq_true rfl) fun p e s m below meth c C hr hk hR => ?_
  refine x_lv (lv' := [(0, .ref (G.2.2.1 + 570)), (1, .int p0), (2, .int p1)]) C [0, 1, 2] rfl ?_
  generalize xrm (d + 1) = R at hR ⊢
  unfold s_Model_condition at h0
  refine x_aload_n C d_Model_condition_0 0 rfl ?_
  refine x_iload_n C d_Model_condition_1 1 rfl ?_
  refine x_iload_n C d_Model_condition_2 2 rfl ?_
  obtain ⟨r2, σ3, k1, h0⟩ := xbind2 h0
  refine x_callVi C hR (c_Model_part hrf (d := d) (by omega) (by omega) k1) cw_Model_212 k_570 rfl rfl rfl (Nat.le_of_ble_eq_true rfl) ⟨Nat.zero_le _, Nat.zero_le _⟩ d_Model_condition_3 ?_
  refine x_istore_n (lv' := [(3, .int r2), (0, .ref (G.2.2.1 + 570)), (1, .int p0), (2, .int p1)]) C d_Model_condition_6 rfl (by decide) rfl ?_
  exact x_lv C [1, 0] rfl (b_Model_condition_7 C hr hk hd hd2 hR hrf FUEL _ _ h0)
-- LostPlacesModel.unit()Z
theorem d_Model_unit_0 : decode prog_14_method_21_code 0 = .ok (.aload_n 0, 1) := by decide +kernel
theorem d_Model_unit_1 : decode prog_14_method_21_code 1 = .ok (.invokevirtual 156, 3) := by decide +kernel
theorem d_Model_unit_4 : decode prog_14_method_21_code 4 = .ok (.istore_n 1, 1) := by decide +kernel
theorem d_Model_unit_5 : decode prog_14_method_21_code 5 = .ok (.iload_n 1, 1) := by decide +kernel
theorem d_Model_unit_6 : decode prog_14_method_21_code 6 = .ok (.bipush 33, 2) := by decide +kernel
theorem d_Model_unit_8 : decode prog_14_method_21_code 8 = .ok (.if_icmp .ne 37, 3) := by decide +kernel
theorem d_Model_unit_11 : decode prog_14_method_21_code 11 = .ok (.aload_n 0, 1) := by decide +kernel
theorem d_Model_unit_12 : decode prog_14_method_21_code 12 = .ok (.invokevirtual 176, 3) := by decide +kernel
theorem d_Model_unit_15 : decode prog_14_method_21_code 15 = .ok (.ifCond .ne 5, 3) := by decide +kernel
theorem d_Model_unit_18 : decode prog_14_method_21_code 18 = .ok (.iconst 0, 1) := by decide +kernel
theorem d_Model_unit_19 : decode prog_14_method_21_code 19 = .ok (.ireturn, 1) := by decide +kernel
theorem d_Model_unit_20 : decode prog_14_method_21_code 20 = .ok (.aload_n 0, 1) := by decide +kernel
theorem d_Model_unit_21 : decode prog_14_method_21_code 21 = .ok (.invokevirtual 202, 3) := by decide +kernel
theorem d_Model_unit_24 : decode prog_14_method_21_code 24 = .ok (.istore_n 2, 1) := by decide +kernel
theorem d_Model_unit_25 : decode prog_14_method_21_code 25 = .ok (.aload_n 0, 1) := by decide +kernel
theorem d_Model_unit_26 : decode prog_14_method_21_code 26 = .ok (.dup, 1) := by decide +kernel
theorem d_Model_unit_27 : decode prog_14_method_21_code 27 = .ok (.getfield 149, 3) := by decide +kernel
theorem d_Model_unit_30 : decode prog_14_method_21_code 30 = .ok (.iconst 1, 1) := by decide +kernel
theorem d_Model_unit_31 : decode prog_14_method_21_code 31 = .ok (.isub, 1) := by decide +kernel
theorem d_Model_unit_32 : decode prog_14_method_21_code 32 = .ok (.putfield 149, 3) := by decide +kernel
theorem d_Model_unit_35 : decode prog_14_method_21_code 35 = .ok (.iload_n 2, 1) := by decide +kernel
theorem d_Model_unit_36 : decode prog_14_method_21_code 36 = .ok (.ifCond .ne 7, 3) := by decide +kernel
theorem d_Model_unit_39 : decode prog_14_method_21_code 39 = .ok (.iconst 1, 1) := by decide +kernel
theorem d_Model_unit_40 : decode prog_14_method_21_code 40 = .ok (.goto 4, 3) := by decide +kernel
theorem d_Model_unit_43 : decode prog_14_method_21_code 43 = .ok (.iconst 0, 1) := by decide +kernel
theorem d_Model_unit_44 : decode prog_14_method_21_code 44 = .ok (.ireturn, 1) := by decide +kernel
theorem d_Model_unit_45 : decode prog_14_method_21_code 45 = .ok (.iload_n 1, 1) := by decide +kernel
theorem d_Model_unit_46 : decode prog_14_method_21_code 46 = .ok (.bipush 40, 2) := by decide +kernel
theorem d_Model_unit_48 : decode prog_14_method_21_code 48 = .ok (.if_icmp .ne 42, 3) := by decide +kernel
theorem d_Model_unit_51 : decode prog_14_method_21_code 51 = .ok (.aload_n 0, 1) := by decide +kernel
theorem d_Model_unit_52 : decode prog_14_method_21_code 52 = .ok (.invokevirtual 176, 3) := by decide +kernel
theorem d_Model_unit_55 : decode prog_14_method_21_code 55 = .ok (.ifCond .ne 5, 3) := by decide +kernel
theorem d_Model_unit_58 : decode prog_14_method_21_code 58 = .ok (.iconst 0, 1) := by decide +kernel
theorem d_Model_unit_59 : decode prog_14_method_21_code 59 = .ok (.ireturn, 1) := by decide +kernel
theorem d_Model_unit_60 : decode prog_14_method_21_code 60 = .ok (.aload_n 0, 1) := by decide +kernel
theorem d_Model_unit_61 : decode prog_14_method_21_code 61 = .ok (.iconst 0, 1) := by decide +kernel
theorem d_Model_unit_62 : decode prog_14_method_21_code 62 = .ok (.iconst 0, 1) := by decide +kernel
theorem d_Model_unit_63 : decode prog_14_method_21_code 63 = .ok (.invokevirtual 205, 3) := by decide +kernel
theorem d_Model_unit_66 : decode prog_14_method_21_code 66 = .ok (.istore_n 2, 1) := by decide +kernel
theorem d_Model_unit_67 : decode prog_14_method_21_code 67 = .ok (.aload_n 0, 1) := by decide +kernel
theorem d_Model_unit_68 : decode prog_14_method_21_code 68 = .ok (.bipush 41, 2) := by decide +kernel
theorem d_Model_unit_70 : decode prog_14_method_21_code 70 = .ok (.invokevirtual 182, 3) := by decide +kernel
theorem d_Model_unit_73 : decode prog_14_method_21_code 73 = .ok (.ifCond .ne 5, 3) := by decide +kernel
theorem d_Model_unit_76 : decode prog_14_method_21_code 76 = .ok (.iconst 0, 1) := by decide +kernel
theorem d_Model_unit_77 : decode prog_14_method_21_code 77 = .ok (.ireturn, 1) := by decide +kernel
theorem d_Model_unit_78 : decode prog_14_method_21_code 78 = .ok (.aload_n 0, 1) := by decide +kernel
theorem d_Model_unit_79 : decode prog_14_method_21_code 79 = .ok (.dup, 1) := by decide +kernel
theorem d_Model_unit_80 : decode prog_14_method_21_code 80 = .ok (.getfield 149, 3) := by decide +kernel
theorem d_Model_unit_83 : decode prog_14_method_21_code 83 = .ok (.iconst 1, 1) := by decide +kernel
theorem d_Model_unit_84 : decode prog_14_method_21_code 84 = .ok (.isub, 1) := by decide +kernel
theorem d_Model_unit_85 : decode prog_14_method_21_code 85 = .ok (.putfield 149, 3) := by decide +kernel
theorem d_Model_unit_88 : decode prog_14_method_21_code 88 = .ok (.iload_n 2, 1) := by decide +kernel
theorem d_Model_unit_89 : decode prog_14_method_21_code 89 = .ok (.ireturn, 1) := by decide +kernel
theorem d_Model_unit_90 : decode prog_14_method_21_code 90 = .ok (.aload_n 0, 1) := by decide +kernel
theorem d_Model_unit_91 : decode prog_14_method_21_code 91 = .ok (.iconst 0, 1) := by decide +kernel
theorem d_Model_unit_92 : decode prog_14_method_21_code 92 = .ok (.iconst 0, 1) := by decide +kernel
theorem d_Model_unit_93 : decode prog_14_method_21_code 93 = .ok (.invokevirtual 209, 3) := by decide +kernel
theorem d_Model_unit_96 : decode prog_14_method_21_code 96 = .ok (.ireturn, 1) := by decide +kernel
def s_Model_unit_44 (rf : LH → Option (Int32 × LH)) (z0 : Int32) (σ : LH) : Option (Int32 × LH) :=
  if zb z0 then (
  some (z0, σ)) else none
theorem b_Model_unit_44 {G : XG} {l : Launch} {p : Program} {e : Env} {R : Room} {s : State} {m : MethodId} {args : Array Value} {below : List Frame} {meth : Method} {c : Code} (C : XC G 570 598 p s m args c prog_14_method_21_code 3 R_Model) (hr : meth.sig.returnType = (some .boolean)) (hk : meth.locks = false) {d dr : Nat} (hd : dr + 3 ≤ d + 1) (hd2 : 64 ≤ d + 1) (hR : xroom R (d + 1)) {rf : LH → Option (Int32 × LH)} (hrf : ∀ (σ : LH) (r : Int32) (σ' : LH), rf σ = some (r, σ') → ∀ d, dr ≤ d → xM G 570 598 l y_Model_unit prog_14_method_21_code 3 (some .boolean) d [.ref (G.2.2.1 + 570)] σ (some (.int r)) σ') {σ' : LH} {r : Int32} {z0 : Int32} {σ : LH} (h0 : s_Model_unit_44 rf z0 σ = some (r, σ')) : XJ G 570 598 p l e R s m args below meth c 3 (XQ G 570 598 below args s (some (.int r)) σ') 0 0 44 [] [.int z0] σ := by
  replace h0 := (show _ = _ from h0)
  unfold s_Model_unit_44 at h0
  obtain ⟨g14, h0⟩ := xgo h0
  exact x_zret C hr hk g14 h0 d_Model_unit_44
def s_Model_unit_b (rf : LH → Option (Int32 × LH)) (σ : LH) : Option (Int32 × LH) :=
  xb2 (s_Model_look σ) fun r2 σ3 =>
  if r2 = 33 then (
   xb2 (s_Model_goesIn σ3) fun r6 σ7 =>
   if r6 = 0 then (
    some (0, σ7))
   else (
    xb2 (rf σ7) fun r10 σ11 =>
    xl ((stI σ11 570 12 ((σ11.1 570 12) - 1)) : LH) fun σ12 =>
    if r10 = 0 then (
     s_Model_unit_44 rf 1 σ12)
    else (
     s_Model_unit_44 rf 0 σ12)))
  else (
   if r2 = 40 then (
    xb2 (s_Model_goesIn σ3) fun r17 σ18 =>
    if r17 = 0 then (
     some (0, σ18))
    else (
     xb2 (s_Model_condition rf 0 0 σ18) fun r21 σ22 =>
     xb2 (s_Model_takes 41 σ22) fun r24 σ25 =>
     if r24 = 0 then (
      some (0, σ25))
     else (
      xl ((stI σ25 570 12 ((σ25.1 570 12) - 1)) : LH) fun σ27 =>
      if zb r21 then (
      some (r21, σ27)) else none)))
   else (
    xb2 (s_Model_compares 0 0 σ3) fun r30 σ31 =>
    if zb r30 then (
    some (r30, σ31)) else none))
def s_Model_unit : Nat → LH → Option (Int32 × LH)
  | 0, _ => none
  | n + 1, σ => s_Model_unit_b (s_Model_unit n) σ
theorem c_Model_unit_b {G : XG} {l : Launch} {d dr : Nat} {rf : LH → Option (Int32 × LH)} (hrf : ∀ (σ : LH) (r : Int32) (σ' : LH), rf σ = some (r, σ') → ∀ d, dr ≤ d → xM G 570 598 l y_Model_unit prog_14_method_21_code 3 (some .boolean) d [.ref (G.2.2.1 + 570)] σ (some (.int r)) σ') (hd : dr + 3 ≤ d) (hd2 : 64 ≤ d) {σ σ' : LH} {r : Int32} (h0 : s_Model_unit_b rf σ = some (r, σ')) : xM G 570 598 l y_Model_unit prog_14_method_21_code 3 (some .boolean) d [.ref (G.2.2.1 + 570)] σ (some (.int r)) σ' := by
  obtain ⟨d, rfl⟩ : ∃ q, d = q + 1 := ⟨d - 1, by omega⟩
  refine x_met R_Model rfl (by decide +kernel) (Nat.le_of_ble_eq_true rfl) fun p e s m below meth c C hr hk hR => ?_
  refine x_lv (lv' := [(0, .ref (G.2.2.1 + 570))]) C [0] rfl ?_
  generalize xrm (d + 1) = R at hR ⊢
  unfold s_Model_unit_b at h0
  refine x_aload_n C d_Model_unit_0 0 rfl ?_
  obtain ⟨r2, σ3, k1, h0⟩ := xbind2 h0
  refine x_callVi C hR (c_Model_look (d := d) (by omega) k1) cw_Model_156 k_570 rfl rfl rfl (Nat.le_of_ble_eq_true rfl) ⟨Nat.zero_le _, Nat.zero_le _⟩ d_Model_unit_1 ?_
  refine x_istore_n (lv' := [(1, .int r2), (0, .ref (G.2.2.1 + 570))]) C d_Model_unit_4 rfl (by decide) rfl ?_
  refine x_iload_n C d_Model_unit_5 0 rfl ?_
  refine x_bipush (v := 33) C d_Model_unit_6 (by decide) ?_
  refine x_icmp_ne C 45 d_Model_unit_8 (by decide) (fun q4 => ?_) (fun q4 => ?_)
  · replace h0 := xif q4 h0
    refine x_iload_n C d_Model_unit_45 0 rfl ?_
    refine x_bipush (v := 40) C d_Model_unit_46 (by decide) ?_
    refine x_icmp_ne C 90 d_Model_unit_48 (by decide) (fun q15 => ?_) (fun q15 => ?_)
    · replace h0 := xif q15 h0
      refine x_aload_n C d_Model_unit_90 1 rfl ?_
      refine x_iconst (v := 0) C d_Model_unit_91 (by decide) ?_
      refine x_iconst (v := 0) C d_Model_unit_92 (by decide) ?_
      obtain ⟨r30, σ31, k29, h0⟩ := xbind2 h0
      refine x_callVi C hR (c_Model_compares (d := d) (by omega) k29) cw_Model_209 k_570 rfl rfl rfl (Nat.le_of_ble_eq_true rfl) ⟨Nat.zero_le _, Nat.zero_le _⟩ d_Model_unit_93 ?_
      obtain ⟨g32, h0⟩ := xgo h0
      exact x_zret C hr hk g32 h0 d_Model_unit_96
    · replace h0 := xit q15 h0
      refine x_aload_n C d_Model_unit_51 1 rfl ?_
      obtain ⟨r17, σ18, k16, h0⟩ := xbind2 h0
      refine x_callVi C hR (c_Model_goesIn (d := d) (by omega) k16) cw_Model_176 k_570 rfl rfl rfl (Nat.le_of_ble_eq_true rfl) ⟨Nat.zero_le _, Nat.zero_le _⟩ d_Model_unit_52 ?_
      refine x_if_ne C 60 d_Model_unit_55 (by decide) (fun q19 => ?_) (fun q19 => ?_)
      · replace h0 := xif q19 h0
        refine x_aload_n C d_Model_unit_60 1 rfl ?_
        refine x_iconst (v := 0) C d_Model_unit_61 (by decide) ?_
        refine x_iconst (v := 0) C d_Model_unit_62 (by decide) ?_
        obtain ⟨r21, σ22, k20, h0⟩ := xbind2 h0
        refine x_callVi C hR (c_Model_condition hrf (d := d) (by omega) (by omega) k20) cw_Model_205 k_570 rfl rfl rfl (Nat.le_of_ble_eq_true rfl) ⟨Nat.zero_le _, Nat.zero_le _⟩ d_Model_unit_63 ?_
        refine x_istore_n (lv' := [(2, .int r21), (1, .int r2), (0, .ref (G.2.2.1 + 570))]) C d_Model_unit_66 rfl (by decide) rfl ?_
        refine x_aload_n C d_Model_unit_67 2 rfl ?_
        refine x_bipush (v := 41) C d_Model_unit_68 (by decide) ?_
        obtain ⟨r24, σ25, k23, h0⟩ := xbind2 h0
        refine x_callVi C hR (c_Model_takes (d := d) (by omega) k23) cw_Model_182 k_570 rfl rfl rfl (Nat.le_of_ble_eq_true rfl) ⟨Nat.zero_le _, Nat.zero_le _⟩ d_Model_unit_70 ?_
        refine x_if_ne C 78 d_Model_unit_73 (by decide) (fun q26 => ?_) (fun q26 => ?_)
        · replace h0 := xif q26 h0
          refine x_aload_n C d_Model_unit_78 2 rfl ?_
          refine x_dup C d_Model_unit_79 rfl ?_
          refine x_getI (y := 0) C fg_Model_149 k_570 rfl d_Model_unit_80 ?_
          refine x_iconst (v := 1) C d_Model_unit_83 (by decide) ?_
          refine x_isub C d_Model_unit_84 ?_
          refine x_putI (y := 0) C fp_Model_149 k_570 rfl rfl rfl d_Model_unit_85 ?_
          obtain ⟨σ27, eσ27, h0⟩ := xlet h0
          refine x_sig C eσ27 ?_
          refine x_iload_n C d_Model_unit_88 0 rfl ?_
          obtain ⟨g28, h0⟩ := xgo h0
          exact x_zret C hr hk g28 h0 d_Model_unit_89
        · replace h0 := xit q26 h0
          refine x_iconst (v := 0) C d_Model_unit_76 (by decide) ?_
          exact x_zret C hr hk (by decide) h0 d_Model_unit_77
      · replace h0 := xit q19 h0
        refine x_iconst (v := 0) C d_Model_unit_58 (by decide) ?_
        exact x_zret C hr hk (by decide) h0 d_Model_unit_59
  · replace h0 := xit q4 h0
    refine x_aload_n C d_Model_unit_11 1 rfl ?_
    obtain ⟨r6, σ7, k5, h0⟩ := xbind2 h0
    refine x_callVi C hR (c_Model_goesIn (d := d) (by omega) k5) cw_Model_176 k_570 rfl rfl rfl (Nat.le_of_ble_eq_true rfl) ⟨Nat.zero_le _, Nat.zero_le _⟩ d_Model_unit_12 ?_
    refine x_if_ne C 20 d_Model_unit_15 (by decide) (fun q8 => ?_) (fun q8 => ?_)
    · replace h0 := xif q8 h0
      refine x_aload_n C d_Model_unit_20 1 rfl ?_
      obtain ⟨r10, σ11, k9, h0⟩ := xbind2 h0
      refine x_callVi C hR (hrf  _ _ _ k9 d (by omega)) cw_Model_202 k_570 rfl rfl rfl (Nat.le_of_ble_eq_true rfl) ⟨Nat.zero_le _, Nat.zero_le _⟩ d_Model_unit_21 ?_
      refine x_istore_n (lv' := [(2, .int r10), (1, .int r2), (0, .ref (G.2.2.1 + 570))]) C d_Model_unit_24 rfl (by decide) rfl ?_
      refine x_aload_n C d_Model_unit_25 2 rfl ?_
      refine x_dup C d_Model_unit_26 rfl ?_
      refine x_getI (y := 0) C fg_Model_149 k_570 rfl d_Model_unit_27 ?_
      refine x_iconst (v := 1) C d_Model_unit_30 (by decide) ?_
      refine x_isub C d_Model_unit_31 ?_
      refine x_putI (y := 0) C fp_Model_149 k_570 rfl rfl rfl d_Model_unit_32 ?_
      obtain ⟨σ12, eσ12, h0⟩ := xlet h0
      refine x_sig C eσ12 ?_
      refine x_iload_n C d_Model_unit_35 0 rfl ?_
      refine x_if_ne C 43 d_Model_unit_36 (by decide) (fun q13 => ?_) (fun q13 => ?_)
      · replace h0 := xif q13 h0
        refine x_iconst (v := 0) C d_Model_unit_43 (by decide) ?_
        exact x_lv C [] rfl (b_Model_unit_44 C hr hk hd hd2 hR hrf h0)
      · replace h0 := xit q13 h0
        refine x_iconst (v := 1) C d_Model_unit_39 (by decide) ?_
        refine x_goto C 44 d_Model_unit_40 (by decide) ?_
        exact x_lv C [] rfl (b_Model_unit_44 C hr hk hd hd2 hR hrf h0)
    · replace h0 := xit q8 h0
      refine x_iconst (v := 0) C d_Model_unit_18 (by decide) ?_
      exact x_zret C hr hk (by decide) h0 d_Model_unit_19
theorem h_Model_unit_n {G : XG} {l : Launch} : ∀ (n : Nat) (σ : LH) (r : Int32) (σ' : LH), s_Model_unit n σ = some (r, σ') → ∀ d, 3 * n + 64 ≤ d → xM G 570 598 l y_Model_unit prog_14_method_21_code 3 (some .boolean) d [.ref (G.2.2.1 + 570)] σ (some (.int r)) σ' := by
  intro n
  induction n with
  | zero => intro σ r σ' h0; cases h0
  | succ n ih => intro σ r σ' h0 d hd; exact c_Model_unit_b (dr := 3 * n + 64) ih (by omega) (by omega) h0
theorem h_Model_unit {G : XG} {l : Launch} : ∀ (σ : LH) (r : Int32) (σ' : LH), s_Model_unit RF σ = some (r, σ') → ∀ d, 112 ≤ d → xM G 570 598 l y_Model_unit prog_14_method_21_code 3 (some .boolean) d [.ref (G.2.2.1 + 570)] σ (some (.int r)) σ' := h_Model_unit_n RF
theorem c_Model_unit {G : XG} {l : Launch} {d : Nat} (hd : 112 ≤ d) {σ σ' : LH} {r : Int32} (h0 : s_Model_unit RF σ = some (r, σ')) : xM G 570 598 l y_Model_unit prog_14_method_21_code 3 (some .boolean) d [.ref (G.2.2.1 + 570)] σ (some (.int r)) σ' := h_Model_unit _ _ _ h0 d hd
-- LostPlacesModel.clause()V
theorem d_Model_clause_0 : decode prog_14_method_24_code 0 = .ok (.aload_n 0, 1) := by decide +kernel
theorem d_Model_clause_1 : decode prog_14_method_24_code 1 = .ok (.invokevirtual 156, 3) := by decide +kernel
theorem d_Model_clause_4 : decode prog_14_method_24_code 4 = .ok (.istore_n 1, 1) := by decide +kernel
theorem d_Model_clause_5 : decode prog_14_method_24_code 5 = .ok (.ldc 26, 2) := by decide +kernel
theorem d_Model_clause_7 : decode prog_14_method_24_code 7 = .ok (.iload_n 1, 1) := by decide +kernel
theorem d_Model_clause_8 : decode prog_14_method_24_code 8 = .ok (.invokestatic 172, 3) := by decide +kernel
theorem d_Model_clause_11 : decode prog_14_method_24_code 11 = .ok (.ifCond .ne 9, 3) := by decide +kernel
theorem d_Model_clause_14 : decode prog_14_method_24_code 14 = .ok (.aload_n 0, 1) := by decide +kernel
theorem d_Model_clause_15 : decode prog_14_method_24_code 15 = .ok (.invokevirtual 152, 3) := by decide +kernel
theorem d_Model_clause_18 : decode prog_14_method_24_code 18 = .ok (.pop, 1) := by decide +kernel
theorem d_Model_clause_19 : decode prog_14_method_24_code 19 = .ok (.return_, 1) := by decide +kernel
theorem d_Model_clause_20 : decode prog_14_method_24_code 20 = .ok (.aload_n 0, 1) := by decide +kernel
theorem d_Model_clause_21 : decode prog_14_method_24_code 21 = .ok (.dup, 1) := by decide +kernel
theorem d_Model_clause_22 : decode prog_14_method_24_code 22 = .ok (.getfield 137, 3) := by decide +kernel
theorem d_Model_clause_25 : decode prog_14_method_24_code 25 = .ok (.iconst 1, 1) := by decide +kernel
theorem d_Model_clause_26 : decode prog_14_method_24_code 26 = .ok (.iadd, 1) := by decide +kernel
theorem d_Model_clause_27 : decode prog_14_method_24_code 27 = .ok (.putfield 137, 3) := by decide +kernel
theorem d_Model_clause_30 : decode prog_14_method_24_code 30 = .ok (.aload_n 0, 1) := by decide +kernel
theorem d_Model_clause_31 : decode prog_14_method_24_code 31 = .ok (.bipush 58, 2) := by decide +kernel
theorem d_Model_clause_33 : decode prog_14_method_24_code 33 = .ok (.invokevirtual 182, 3) := by decide +kernel
theorem d_Model_clause_36 : decode prog_14_method_24_code 36 = .ok (.ifCond .ne 4, 3) := by decide +kernel
theorem d_Model_clause_39 : decode prog_14_method_24_code 39 = .ok (.return_, 1) := by decide +kernel
theorem d_Model_clause_40 : decode prog_14_method_24_code 40 = .ok (.iconst 1, 1) := by decide +kernel
theorem d_Model_clause_41 : decode prog_14_method_24_code 41 = .ok (.istore_n 2, 1) := by decide +kernel
theorem d_Model_clause_42 : decode prog_14_method_24_code 42 = .ok (.iconst 0, 1) := by decide +kernel
theorem d_Model_clause_43 : decode prog_14_method_24_code 43 = .ok (.istore_n 3, 1) := by decide +kernel
theorem d_Model_clause_44 : decode prog_14_method_24_code 44 = .ok (.aload_n 0, 1) := by decide +kernel
theorem d_Model_clause_45 : decode prog_14_method_24_code 45 = .ok (.invokevirtual 156, 3) := by decide +kernel
theorem d_Model_clause_48 : decode prog_14_method_24_code 48 = .ok (.istore 4, 2) := by decide +kernel
theorem d_Model_clause_50 : decode prog_14_method_24_code 50 = .ok (.iload 4, 2) := by decide +kernel
theorem d_Model_clause_52 : decode prog_14_method_24_code 52 = .ok (.bipush 33, 2) := by decide +kernel
theorem d_Model_clause_54 : decode prog_14_method_24_code 54 = .ok (.if_icmp .eq 10, 3) := by decide +kernel
theorem d_Model_clause_57 : decode prog_14_method_24_code 57 = .ok (.iload 4, 2) := by decide +kernel
theorem d_Model_clause_59 : decode prog_14_method_24_code 59 = .ok (.bipush 40, 2) := by decide +kernel
theorem d_Model_clause_61 : decode prog_14_method_24_code 61 = .ok (.if_icmp .ne 28, 3) := by decide +kernel
theorem d_Model_clause_64 : decode prog_14_method_24_code 64 = .ok (.aload_n 0, 1) := by decide +kernel
theorem d_Model_clause_65 : decode prog_14_method_24_code 65 = .ok (.iconst 0, 1) := by decide +kernel
theorem d_Model_clause_66 : decode prog_14_method_24_code 66 = .ok (.iconst 0, 1) := by decide +kernel
theorem d_Model_clause_67 : decode prog_14_method_24_code 67 = .ok (.invokevirtual 205, 3) := by decide +kernel
theorem d_Model_clause_70 : decode prog_14_method_24_code 70 = .ok (.istore_n 2, 1) := by decide +kernel
theorem d_Model_clause_71 : decode prog_14_method_24_code 71 = .ok (.aload_n 0, 1) := by decide +kernel
theorem d_Model_clause_72 : decode prog_14_method_24_code 72 = .ok (.bipush 63, 2) := by decide +kernel
theorem d_Model_clause_74 : decode prog_14_method_24_code 74 = .ok (.invokevirtual 182, 3) := by decide +kernel
theorem d_Model_clause_77 : decode prog_14_method_24_code 77 = .ok (.ifCond .ne 4, 3) := by decide +kernel
theorem d_Model_clause_80 : decode prog_14_method_24_code 80 = .ok (.return_, 1) := by decide +kernel
theorem d_Model_clause_81 : decode prog_14_method_24_code 81 = .ok (.aload_n 0, 1) := by decide +kernel
theorem d_Model_clause_82 : decode prog_14_method_24_code 82 = .ok (.invokevirtual 179, 3) := by decide +kernel
theorem d_Model_clause_85 : decode prog_14_method_24_code 85 = .ok (.istore_n 3, 1) := by decide +kernel
theorem d_Model_clause_86 : decode prog_14_method_24_code 86 = .ok (.goto 48, 3) := by decide +kernel
theorem d_Model_clause_89 : decode prog_14_method_24_code 89 = .ok (.aload_n 0, 1) := by decide +kernel
theorem d_Model_clause_90 : decode prog_14_method_24_code 90 = .ok (.invokevirtual 179, 3) := by decide +kernel
theorem d_Model_clause_93 : decode prog_14_method_24_code 93 = .ok (.istore_n 3, 1) := by decide +kernel
theorem d_Model_clause_94 : decode prog_14_method_24_code 94 = .ok (.aload_n 0, 1) := by decide +kernel
theorem d_Model_clause_95 : decode prog_14_method_24_code 95 = .ok (.getfield 146, 3) := by decide +kernel
theorem d_Model_clause_98 : decode prog_14_method_24_code 98 = .ok (.iconst (-1), 1) := by decide +kernel
theorem d_Model_clause_99 : decode prog_14_method_24_code 99 = .ok (.if_icmp .ne 35, 3) := by decide +kernel
theorem d_Model_clause_102 : decode prog_14_method_24_code 102 = .ok (.aload_n 0, 1) := by decide +kernel
theorem d_Model_clause_103 : decode prog_14_method_24_code 103 = .ok (.invokevirtual 156, 3) := by decide +kernel
theorem d_Model_clause_106 : decode prog_14_method_24_code 106 = .ok (.invokestatic 199, 3) := by decide +kernel
theorem d_Model_clause_109 : decode prog_14_method_24_code 109 = .ok (.ifCond .eq 25, 3) := by decide +kernel
theorem d_Model_clause_112 : decode prog_14_method_24_code 112 = .ok (.aload_n 0, 1) := by decide +kernel
theorem d_Model_clause_113 : decode prog_14_method_24_code 113 = .ok (.iconst 1, 1) := by decide +kernel
theorem d_Model_clause_114 : decode prog_14_method_24_code 114 = .ok (.iload_n 3, 1) := by decide +kernel
theorem d_Model_clause_115 : decode prog_14_method_24_code 115 = .ok (.invokevirtual 205, 3) := by decide +kernel
theorem d_Model_clause_118 : decode prog_14_method_24_code 118 = .ok (.istore_n 2, 1) := by decide +kernel
theorem d_Model_clause_119 : decode prog_14_method_24_code 119 = .ok (.aload_n 0, 1) := by decide +kernel
theorem d_Model_clause_120 : decode prog_14_method_24_code 120 = .ok (.bipush 63, 2) := by decide +kernel
theorem d_Model_clause_122 : decode prog_14_method_24_code 122 = .ok (.invokevirtual 182, 3) := by decide +kernel
theorem d_Model_clause_125 : decode prog_14_method_24_code 125 = .ok (.ifCond .ne 4, 3) := by decide +kernel
theorem d_Model_clause_128 : decode prog_14_method_24_code 128 = .ok (.return_, 1) := by decide +kernel
theorem d_Model_clause_129 : decode prog_14_method_24_code 129 = .ok (.aload_n 0, 1) := by decide +kernel
theorem d_Model_clause_130 : decode prog_14_method_24_code 130 = .ok (.invokevirtual 179, 3) := by decide +kernel
theorem d_Model_clause_133 : decode prog_14_method_24_code 133 = .ok (.istore_n 3, 1) := by decide +kernel
theorem d_Model_clause_134 : decode prog_14_method_24_code 134 = .ok (.aload_n 0, 1) := by decide +kernel
theorem d_Model_clause_135 : decode prog_14_method_24_code 135 = .ok (.getfield 146, 3) := by decide +kernel
theorem d_Model_clause_138 : decode prog_14_method_24_code 138 = .ok (.iconst (-1), 1) := by decide +kernel
theorem d_Model_clause_139 : decode prog_14_method_24_code 139 = .ok (.if_icmp .ne 22, 3) := by decide +kernel
theorem d_Model_clause_142 : decode prog_14_method_24_code 142 = .ok (.aload_n 0, 1) := by decide +kernel
theorem d_Model_clause_143 : decode prog_14_method_24_code 143 = .ok (.getfield 215, 3) := by decide +kernel
theorem d_Model_clause_146 : decode prog_14_method_24_code 146 = .ok (.ifCond .ne 15, 3) := by decide +kernel
theorem d_Model_clause_149 : decode prog_14_method_24_code 149 = .ok (.iload_n 1, 1) := by decide +kernel
theorem d_Model_clause_150 : decode prog_14_method_24_code 150 = .ok (.aload_n 0, 1) := by decide +kernel
theorem d_Model_clause_151 : decode prog_14_method_24_code 151 = .ok (.getfield 219, 3) := by decide +kernel
theorem d_Model_clause_154 : decode prog_14_method_24_code 154 = .ok (.if_icmp .ne 7, 3) := by decide +kernel
theorem d_Model_clause_157 : decode prog_14_method_24_code 157 = .ok (.iload_n 2, 1) := by decide +kernel
theorem d_Model_clause_158 : decode prog_14_method_24_code 158 = .ok (.ifCond .ne 4, 3) := by decide +kernel
theorem d_Model_clause_161 : decode prog_14_method_24_code 161 = .ok (.return_, 1) := by decide +kernel
theorem d_Model_clause_162 : decode prog_14_method_24_code 162 = .ok (.aload_n 0, 1) := by decide +kernel
theorem d_Model_clause_163 : decode prog_14_method_24_code 163 = .ok (.iconst 1, 1) := by decide +kernel
theorem d_Model_clause_164 : decode prog_14_method_24_code 164 = .ok (.putfield 215, 3) := by decide +kernel
theorem d_Model_clause_167 : decode prog_14_method_24_code 167 = .ok (.aload_n 0, 1) := by decide +kernel
theorem d_Model_clause_168 : decode prog_14_method_24_code 168 = .ok (.iload_n 3, 1) := by decide +kernel
theorem d_Model_clause_169 : decode prog_14_method_24_code 169 = .ok (.putfield 222, 3) := by decide +kernel
theorem d_Model_clause_172 : decode prog_14_method_24_code 172 = .ok (.return_, 1) := by decide +kernel
def s_Model_clause_161 (σ : LH) : Option (LH) :=
  some σ
theorem b_Model_clause_161 {G : XG} {l : Launch} {p : Program} {e : Env} {R : Room} {s : State} {m : MethodId} {args : Array Value} {below : List Frame} {meth : Method} {c : Code} (C : XC G 570 598 p s m args c prog_14_method_24_code 5 R_Model) (hr : meth.sig.returnType = none) (hk : meth.locks = false) {d : Nat} (hd : 115 ≤ d + 1) (hR : xroom R (d + 1)) {σ' : LH} {σ : LH} (h0 : s_Model_clause_161 σ = some σ') : XJ G 570 598 p l e R s m args below meth c 5 (XQ G 570 598 below args s none σ') 0 0 161 [] [] σ := by
  replace h0 := (show _ = _ from h0)
  unfold s_Model_clause_161 at h0
  exact x_vret C hr hk h0 d_Model_clause_161
def s_Model_clause_134 (y1 : Int32) (y2 : Int32) (y3 : Int32) (σ : LH) : Option (LH) :=
  if (σ.1 570 11) = (-1) then (
   if (σ.1 570 17) = 0 then (
    if y1 = (σ.1 570 13) then (
     if y2 = 0 then (
      s_Model_clause_161 σ)
     else (
      xl ((stI σ 570 17 1) : LH) fun σ34 =>
      xl ((stI σ34 570 14 y3) : LH) fun σ35 =>
      some σ35))
    else (
     s_Model_clause_161 σ))
   else (
    s_Model_clause_161 σ))
  else (
   s_Model_clause_161 σ)
theorem b_Model_clause_134 {G : XG} {l : Launch} {p : Program} {e : Env} {R : Room} {s : State} {m : MethodId} {args : Array Value} {below : List Frame} {meth : Method} {c : Code} (C : XC G 570 598 p s m args c prog_14_method_24_code 5 R_Model) (hr : meth.sig.returnType = none) (hk : meth.locks = false) {d : Nat} (hd : 115 ≤ d + 1) (hR : xroom R (d + 1)) {σ' : LH} {y1 : Int32} {y2 : Int32} {y3 : Int32} {σ : LH} (h0 : s_Model_clause_134 y1 y2 y3 σ = some σ') : XJ G 570 598 p l e R s m args below meth c 5 (XQ G 570 598 below args s none σ') 0 0 134 [(0, .ref (G.2.2.1 + 570)), (1, .int y1), (2, .int y2), (3, .int y3)] [] σ := by
  replace h0 := (show _ = _ from h0)
  unfold s_Model_clause_134 at h0
  refine x_aload_n C d_Model_clause_134 0 rfl ?_
  refine x_getI (y := 0) C fg_Model_146 k_570 rfl d_Model_clause_135 ?_
  refine x_iconst (v := (-1)) C d_Model_clause_138 (by decide) ?_
  refine x_icmp_ne C 161 d_Model_clause_139 (by decide) (fun q30 => ?_) (fun q30 => ?_)
  · replace h0 := xif q30 h0
    exact x_lv C [] rfl (b_Model_clause_161 C hr hk hd hR h0)
  · replace h0 := xit q30 h0
    refine x_aload_n C d_Model_clause_142 0 rfl ?_
    refine x_getI (y := 0) C fg_Model_215 k_570 rfl d_Model_clause_143 ?_
    refine x_if_ne C 161 d_Model_clause_146 (by decide) (fun q31 => ?_) (fun q31 => ?_)
    · replace h0 := xif q31 h0
      exact x_lv C [] rfl (b_Model_clause_161 C hr hk hd hR h0)
    · replace h0 := xit q31 h0
      refine x_iload_n C d_Model_clause_149 1 rfl ?_
      refine x_aload_n C d_Model_clause_150 0 rfl ?_
      refine x_getI (y := 0) C fg_Model_219 k_570 rfl d_Model_clause_151 ?_
      refine x_icmp_ne C 161 d_Model_clause_154 (by decide) (fun q32 => ?_) (fun q32 => ?_)
      · replace h0 := xif q32 h0
        exact x_lv C [] rfl (b_Model_clause_161 C hr hk hd hR h0)
      · replace h0 := xit q32 h0
        refine x_iload_n C d_Model_clause_157 2 rfl ?_
        refine x_if_ne C 162 d_Model_clause_158 (by decide) (fun q33 => ?_) (fun q33 => ?_)
        · replace h0 := xif q33 h0
          refine x_aload_n C d_Model_clause_162 0 rfl ?_
          refine x_iconst (v := 1) C d_Model_clause_163 (by decide) ?_
          refine x_putI (y := 0) C fp_Model_215 k_570 rfl rfl rfl d_Model_clause_164 ?_
          obtain ⟨σ34, eσ34, h0⟩ := xlet h0
          refine x_sig C eσ34 ?_
          refine x_aload_n C d_Model_clause_167 0 rfl ?_
          refine x_iload_n C d_Model_clause_168 3 rfl ?_
          refine x_putI (y := 0) C fp_Model_222 k_570 rfl rfl rfl d_Model_clause_169 ?_
          obtain ⟨σ35, eσ35, h0⟩ := xlet h0
          refine x_sig C eσ35 ?_
          exact x_vret C hr hk h0 d_Model_clause_172
        · replace h0 := xit q33 h0
          exact x_lv C [] rfl (b_Model_clause_161 C hr hk hd hR h0)
def s_Model_clause_64 (y1 : Int32) (σ : LH) : Option (LH) :=
  xb2 (s_Model_condition (s_Model_unit RF) 0 0 σ) fun r21 σ22 =>
  xb2 (s_Model_takes 63 σ22) fun r24 σ25 =>
  if r24 = 0 then (
   some σ25)
  else (
   xb2 (s_Model_sum RF σ25) fun r28 σ29 =>
   s_Model_clause_134 y1 r21 r28 σ29)
theorem b_Model_clause_64 {G : XG} {l : Launch} {p : Program} {e : Env} {R : Room} {s : State} {m : MethodId} {args : Array Value} {below : List Frame} {meth : Method} {c : Code} (C : XC G 570 598 p s m args c prog_14_method_24_code 5 R_Model) (hr : meth.sig.returnType = none) (hk : meth.locks = false) {d : Nat} (hd : 115 ≤ d + 1) (hR : xroom R (d + 1)) {σ' : LH} {y1 : Int32} {σ : LH} (h0 : s_Model_clause_64 y1 σ = some σ') : XJ G 570 598 p l e R s m args below meth c 5 (XQ G 570 598 below args s none σ') 0 0 64 [(0, .ref (G.2.2.1 + 570)), (1, .int y1)] [] σ := by
  replace h0 := (show _ = _ from h0)
  unfold s_Model_clause_64 at h0
  refine x_aload_n C d_Model_clause_64 0 rfl ?_
  refine x_iconst (v := 0) C d_Model_clause_65 (by decide) ?_
  refine x_iconst (v := 0) C d_Model_clause_66 (by decide) ?_
  obtain ⟨r21, σ22, k20, h0⟩ := xbind2 h0
  refine x_callVi C hR (c_Model_condition (h_Model_unit) (d := d) (by omega) (by omega) k20) cw_Model_205 k_570 rfl rfl rfl (Nat.le_of_ble_eq_true rfl) ⟨Nat.zero_le _, Nat.zero_le _⟩ d_Model_clause_67 ?_
  refine x_istore_n (lv' := [(2, .int r21), (0, .ref (G.2.2.1 + 570)), (1, .int y1)]) C d_Model_clause_70 rfl (by decide) rfl ?_
  refine x_aload_n C d_Model_clause_71 1 rfl ?_
  refine x_bipush (v := 63) C d_Model_clause_72 (by decide) ?_
  obtain ⟨r24, σ25, k23, h0⟩ := xbind2 h0
  refine x_callVi C hR (c_Model_takes (d := d) (by omega) k23) cw_Model_182 k_570 rfl rfl rfl (Nat.le_of_ble_eq_true rfl) ⟨Nat.zero_le _, Nat.zero_le _⟩ d_Model_clause_74 ?_
  refine x_if_ne C 81 d_Model_clause_77 (by decide) (fun q26 => ?_) (fun q26 => ?_)
  · replace h0 := xif q26 h0
    refine x_aload_n C d_Model_clause_81 1 rfl ?_
    obtain ⟨r28, σ29, k27, h0⟩ := xbind2 h0
    refine x_callVi C hR (c_Model_sum (d := d) (by omega) k27) cw_Model_179 k_570 rfl rfl rfl (Nat.le_of_ble_eq_true rfl) ⟨Nat.zero_le _, Nat.zero_le _⟩ d_Model_clause_82 ?_
    refine x_istore_n (lv' := [(3, .int r28), (2, .int r21), (0, .ref (G.2.2.1 + 570)), (1, .int y1)]) C d_Model_clause_85 rfl (by decide) rfl ?_
    refine x_goto C 134 d_Model_clause_86 (by decide) ?_
    exact x_lv C [2, 3, 1, 0] rfl (b_Model_clause_134 C hr hk hd hR h0)
  · replace h0 := xit q26 h0
    exact x_vret C hr hk h0 d_Model_clause_80
def s_Model_clause (σ : LH) : Option (LH) :=
  xb2 (s_Model_look σ) fun r2 σ3 =>
  xb2 (s_Model_isAmong 9 r2 σ3) fun r5 σ6 =>
  if r5 = 0 then (
   xb2 (s_Model_fails σ6) fun r9 σ10 =>
   some σ10)
  else (
   xl ((stI σ6 570 10 ((σ6.1 570 10) + 1)) : LH) fun σ11 =>
   xb2 (s_Model_takes 58 σ11) fun r13 σ14 =>
   if r13 = 0 then (
    some σ14)
   else (
    xb2 (s_Model_look σ14) fun r17 σ18 =>
    if r17 = 33 then (
     s_Model_clause_64 r2 σ18)
    else (
     if r17 = 40 then (
      s_Model_clause_64 r2 σ18)
     else (
      xb2 (s_Model_sum RF σ18) fun r38 σ39 =>
      if (σ39.1 570 11) = (-1) then (
       xb2 (s_Model_look σ39) fun r42 σ43 =>
       xb2 (s_Model_isSign r42 σ43) fun r45 σ46 =>
       if r45 = 0 then (
        s_Model_clause_134 r2 1 r38 σ46)
       else (
        xb2 (s_Model_condition (s_Model_unit RF) 1 r38 σ46) fun r49 σ50 =>
        xb2 (s_Model_takes 63 σ50) fun r52 σ53 =>
        if r52 = 0 then (
         some σ53)
        else (
         xb2 (s_Model_sum RF σ53) fun r56 σ57 =>
         s_Model_clause_134 r2 r49 r56 σ57)))
      else (
       s_Model_clause_134 r2 1 r38 σ39)))))
theorem c_Model_clause {G : XG} {l : Launch} {d : Nat} (hd : 115 ≤ d) {σ σ' : LH} (h0 : s_Model_clause σ = some σ') : xM G 570 598 l y_Model_clause prog_14_method_24_code 5 none d [.ref (G.2.2.1 + 570)] σ none σ' := by
  obtain ⟨d, rfl⟩ : ∃ q, d = q + 1 := ⟨d - 1, by omega⟩
  refine x_met R_Model rfl (by decide +kernel) (Nat.le_of_ble_eq_true rfl) fun p e s m below meth c C hr hk hR => ?_
  refine x_lv (lv' := [(0, .ref (G.2.2.1 + 570))]) C [0] rfl ?_
  generalize xrm (d + 1) = R at hR ⊢
  unfold s_Model_clause at h0
  refine x_aload_n C d_Model_clause_0 0 rfl ?_
  obtain ⟨r2, σ3, k1, h0⟩ := xbind2 h0
  refine x_callVi C hR (c_Model_look (d := d) (by omega) k1) cw_Model_156 k_570 rfl rfl rfl (Nat.le_of_ble_eq_true rfl) ⟨Nat.zero_le _, Nat.zero_le _⟩ d_Model_clause_1 ?_
  refine x_istore_n (lv' := [(1, .int r2), (0, .ref (G.2.2.1 + 570))]) C d_Model_clause_4 rfl (by decide) rfl ?_
  refine x_ldcS (index := 26) (i := 9) C (by decide +kernel) d_Model_clause_5 ?_
  refine x_iload_n C d_Model_clause_7 0 rfl ?_
  obtain ⟨r5, σ6, k4, h0⟩ := xbind2 h0
  refine x_callSi C hR (c_Model_isAmong (d := d) (by omega) (by decide) k4) cw_Model_172 w_1786 rfl rfl (Nat.le_of_ble_eq_true rfl) ⟨Nat.zero_le _, Nat.zero_le _⟩ d_Model_clause_8 ?_
  refine x_if_ne C 20 d_Model_clause_11 (by decide) (fun q7 => ?_) (fun q7 => ?_)
  · replace h0 := xif q7 h0
    refine x_aload_n C d_Model_clause_20 1 rfl ?_
    refine x_dup C d_Model_clause_21 rfl ?_
    refine x_getI (y := 0) C fg_Model_137 k_570 rfl d_Model_clause_22 ?_
    refine x_iconst (v := 1) C d_Model_clause_25 (by decide) ?_
    refine x_iadd C d_Model_clause_26 ?_
    refine x_putI (y := 0) C fp_Model_137 k_570 rfl rfl rfl d_Model_clause_27 ?_
    obtain ⟨σ11, eσ11, h0⟩ := xlet h0
    refine x_sig C eσ11 ?_
    refine x_aload_n C d_Model_clause_30 1 rfl ?_
    refine x_bipush (v := 58) C d_Model_clause_31 (by decide) ?_
    obtain ⟨r13, σ14, k12, h0⟩ := xbind2 h0
    refine x_callVi C hR (c_Model_takes (d := d) (by omega) k12) cw_Model_182 k_570 rfl rfl rfl (Nat.le_of_ble_eq_true rfl) ⟨Nat.zero_le _, Nat.zero_le _⟩ d_Model_clause_33 ?_
    refine x_if_ne C 40 d_Model_clause_36 (by decide) (fun q15 => ?_) (fun q15 => ?_)
    · replace h0 := xif q15 h0
      refine x_iconst (v := 1) C d_Model_clause_40 (by decide) ?_
      refine x_istore_n (lv' := [(2, .int 1), (1, .int r2), (0, .ref (G.2.2.1 + 570))]) C d_Model_clause_41 rfl (by decide) rfl ?_
      refine x_iconst (v := 0) C d_Model_clause_42 (by decide) ?_
      refine x_istore_n (lv' := [(3, .int 0), (2, .int 1), (1, .int r2), (0, .ref (G.2.2.1 + 570))]) C d_Model_clause_43 rfl (by decide) rfl ?_
      refine x_aload_n C d_Model_clause_44 3 rfl ?_
      obtain ⟨r17, σ18, k16, h0⟩ := xbind2 h0
      refine x_callVi C hR (c_Model_look (d := d) (by omega) k16) cw_Model_156 k_570 rfl rfl rfl (Nat.le_of_ble_eq_true rfl) ⟨Nat.zero_le _, Nat.zero_le _⟩ d_Model_clause_45 ?_
      refine x_istore (lv' := [(4, .int r17), (3, .int 0), (2, .int 1), (1, .int r2), (0, .ref (G.2.2.1 + 570))]) C d_Model_clause_48 (by decide) rfl ?_
      refine x_iload C d_Model_clause_50 0 rfl ?_
      refine x_bipush (v := 33) C d_Model_clause_52 (by decide) ?_
      refine x_icmp_eq C 64 d_Model_clause_54 (by decide) (fun q19 => ?_) (fun q19 => ?_)
      · replace h0 := xit q19 h0
        exact x_lv C [4, 3] rfl (b_Model_clause_64 C hr hk hd hR h0)
      · replace h0 := xif q19 h0
        refine x_iload C d_Model_clause_57 0 rfl ?_
        refine x_bipush (v := 40) C d_Model_clause_59 (by decide) ?_
        refine x_icmp_ne C 89 d_Model_clause_61 (by decide) (fun q36 => ?_) (fun q36 => ?_)
        · replace h0 := xif q36 h0
          refine x_aload_n C d_Model_clause_89 4 rfl ?_
          obtain ⟨r38, σ39, k37, h0⟩ := xbind2 h0
          refine x_callVi C hR (c_Model_sum (d := d) (by omega) k37) cw_Model_179 k_570 rfl rfl rfl (Nat.le_of_ble_eq_true rfl) ⟨Nat.zero_le _, Nat.zero_le _⟩ d_Model_clause_90 ?_
          refine x_istore_n (lv' := [(3, .int r38), (4, .int r17), (2, .int 1), (1, .int r2), (0, .ref (G.2.2.1 + 570))]) C d_Model_clause_93 rfl (by decide) rfl ?_
          refine x_aload_n C d_Model_clause_94 4 rfl ?_
          refine x_getI (y := 0) C fg_Model_146 k_570 rfl d_Model_clause_95 ?_
          refine x_iconst (v := (-1)) C d_Model_clause_98 (by decide) ?_
          refine x_icmp_ne C 134 d_Model_clause_99 (by decide) (fun q40 => ?_) (fun q40 => ?_)
          · replace h0 := xif q40 h0
            exact x_lv C [4, 3, 2, 0] rfl (b_Model_clause_134 C hr hk hd hR h0)
          · replace h0 := xit q40 h0
            refine x_aload_n C d_Model_clause_102 4 rfl ?_
            obtain ⟨r42, σ43, k41, h0⟩ := xbind2 h0
            refine x_callVi C hR (c_Model_look (d := d) (by omega) k41) cw_Model_156 k_570 rfl rfl rfl (Nat.le_of_ble_eq_true rfl) ⟨Nat.zero_le _, Nat.zero_le _⟩ d_Model_clause_103 ?_
            obtain ⟨r45, σ46, k44, h0⟩ := xbind2 h0
            refine x_callSi C hR (c_Model_isSign (d := d) (by omega) k44) cw_Model_199 w_1832 rfl rfl (Nat.le_of_ble_eq_true rfl) ⟨Nat.zero_le _, Nat.zero_le _⟩ d_Model_clause_106 ?_
            refine x_if_eq C 134 d_Model_clause_109 (by decide) (fun q47 => ?_) (fun q47 => ?_)
            · replace h0 := xit q47 h0
              exact x_lv C [4, 3, 2, 0] rfl (b_Model_clause_134 C hr hk hd hR h0)
            · replace h0 := xif q47 h0
              refine x_aload_n C d_Model_clause_112 4 rfl ?_
              refine x_iconst (v := 1) C d_Model_clause_113 (by decide) ?_
              refine x_iload_n C d_Model_clause_114 0 rfl ?_
              obtain ⟨r49, σ50, k48, h0⟩ := xbind2 h0
              refine x_callVi C hR (c_Model_condition (h_Model_unit) (d := d) (by omega) (by omega) k48) cw_Model_205 k_570 rfl rfl rfl (Nat.le_of_ble_eq_true rfl) ⟨Nat.zero_le _, Nat.zero_le _⟩ d_Model_clause_115 ?_
              refine x_istore_n (lv' := [(2, .int r49), (3, .int r38), (4, .int r17), (1, .int r2), (0, .ref (G.2.2.1 + 570))]) C d_Model_clause_118 rfl (by decide) rfl ?_
              refine x_aload_n C d_Model_clause_119 4 rfl ?_
              refine x_bipush (v := 63) C d_Model_clause_120 (by decide) ?_
              obtain ⟨r52, σ53, k51, h0⟩ := xbind2 h0
              refine x_callVi C hR (c_Model_takes (d := d) (by omega) k51) cw_Model_182 k_570 rfl rfl rfl (Nat.le_of_ble_eq_true rfl) ⟨Nat.zero_le _, Nat.zero_le _⟩ d_Model_clause_122 ?_
              refine x_if_ne C 129 d_Model_clause_125 (by decide) (fun q54 => ?_) (fun q54 => ?_)
              · replace h0 := xif q54 h0
                refine x_aload_n C d_Model_clause_129 4 rfl ?_
                obtain ⟨r56, σ57, k55, h0⟩ := xbind2 h0
                refine x_callVi C hR (c_Model_sum (d := d) (by omega) k55) cw_Model_179 k_570 rfl rfl rfl (Nat.le_of_ble_eq_true rfl) ⟨Nat.zero_le _, Nat.zero_le _⟩ d_Model_clause_130 ?_
                refine x_istore_n (lv' := [(3, .int r56), (2, .int r49), (4, .int r17), (1, .int r2), (0, .ref (G.2.2.1 + 570))]) C d_Model_clause_133 rfl (by decide) rfl ?_
                exact x_lv C [4, 3, 1, 0] rfl (b_Model_clause_134 C hr hk hd hR h0)
              · replace h0 := xit q54 h0
                exact x_vret C hr hk h0 d_Model_clause_128
        · replace h0 := xit q36 h0
          exact x_lv C [4, 3] rfl (b_Model_clause_64 C hr hk hd hR h0)
    · replace h0 := xit q15 h0
      exact x_vret C hr hk h0 d_Model_clause_39
  · replace h0 := xit q7 h0
    refine x_aload_n C d_Model_clause_14 1 rfl ?_
    obtain ⟨r9, σ10, k8, h0⟩ := xbind2 h0
    refine x_callVi C hR (c_Model_fails (d := d) (by omega) k8) cw_Model_152 k_570 rfl rfl rfl (Nat.le_of_ble_eq_true rfl) ⟨Nat.zero_le _, Nat.zero_le _⟩ d_Model_clause_15 ?_
    refine x_pop C d_Model_clause_18 rfl ?_
    exact x_vret C hr hk h0 d_Model_clause_19
-- LostPlacesModel.starts([BII)V
theorem d_Model_starts_0 : decode prog_14_method_25_code 0 = .ok (.aload_n 0, 1) := by decide +kernel
theorem d_Model_starts_1 : decode prog_14_method_25_code 1 = .ok (.aload_n 1, 1) := by decide +kernel
theorem d_Model_starts_2 : decode prog_14_method_25_code 2 = .ok (.putfield 23, 3) := by decide +kernel
theorem d_Model_starts_5 : decode prog_14_method_25_code 5 = .ok (.aload_n 0, 1) := by decide +kernel
theorem d_Model_starts_6 : decode prog_14_method_25_code 6 = .ok (.iload_n 2, 1) := by decide +kernel
theorem d_Model_starts_7 : decode prog_14_method_25_code 7 = .ok (.putfield 143, 3) := by decide +kernel
theorem d_Model_starts_10 : decode prog_14_method_25_code 10 = .ok (.aload_n 0, 1) := by decide +kernel
theorem d_Model_starts_11 : decode prog_14_method_25_code 11 = .ok (.iload_n 3, 1) := by decide +kernel
theorem d_Model_starts_12 : decode prog_14_method_25_code 12 = .ok (.putfield 140, 3) := by decide +kernel
theorem d_Model_starts_15 : decode prog_14_method_25_code 15 = .ok (.aload_n 0, 1) := by decide +kernel
theorem d_Model_starts_16 : decode prog_14_method_25_code 16 = .ok (.iconst 0, 1) := by decide +kernel
theorem d_Model_starts_17 : decode prog_14_method_25_code 17 = .ok (.putfield 137, 3) := by decide +kernel
theorem d_Model_starts_20 : decode prog_14_method_25_code 20 = .ok (.aload_n 0, 1) := by decide +kernel
theorem d_Model_starts_21 : decode prog_14_method_25_code 21 = .ok (.iconst (-1), 1) := by decide +kernel
theorem d_Model_starts_22 : decode prog_14_method_25_code 22 = .ok (.putfield 146, 3) := by decide +kernel
theorem d_Model_starts_25 : decode prog_14_method_25_code 25 = .ok (.return_, 1) := by decide +kernel
def s_Model_starts (p0 : Nat) (p1 : Int32) (p2 : Int32) (σ : LH) : Option (LH) :=
  xl ((stX σ p0) : LH) fun σ1 =>
  xl ((stI σ1 570 8 p1) : LH) fun σ2 =>
  xl ((stI σ2 570 9 p2) : LH) fun σ3 =>
  xl ((stI σ3 570 10 0) : LH) fun σ4 =>
  xl ((stI σ4 570 11 (-1)) : LH) fun σ5 =>
  some σ5
theorem c_Model_starts {G : XG} {l : Launch} {d : Nat} (hd : 1 ≤ d) {p0 : Nat} {p1 : Int32} {p2 : Int32} (hp0 : p0 = 571 ∨ p0 = 572) {σ σ' : LH} (h0 : s_Model_starts p0 p1 p2 σ = some σ') : xM G 570 598 l y_Model_starts prog_14_method_25_code 4 none d [.ref (G.2.2.1 + 570), .ref (G.2.2.1 + p0), .int p1, .int p2] σ none σ' := by
  obtain ⟨d, rfl⟩ : ∃ q, d = q + 1 := ⟨d - 1, by omega⟩
  refine x_met R_Model rfl (by decide +kernel) (Nat.le_of_ble_eq_true rfl) fun p e s m below meth c C hr hk hR => ?_
  refine x_lv (lv' := [(0, .ref (G.2.2.1 + 570)), (1, .ref (G.2.2.1 + p0)), (2, .int p1), (3, .int p2)]) C [0, 1, 2, 3] rfl ?_
  generalize xrm (d + 1) = R at hR ⊢
  unfold s_Model_starts at h0
  refine x_aload_n C d_Model_starts_0 0 rfl ?_
  refine x_aload_n C d_Model_starts_1 1 rfl ?_
  refine x_putX C fp_Model_23 hp0 d_Model_starts_2 ?_
  obtain ⟨σ1, eσ1, h0⟩ := xlet h0
  refine x_sig C eσ1 ?_
  refine x_aload_n C d_Model_starts_5 0 rfl ?_
  refine x_iload_n C d_Model_starts_6 2 rfl ?_
  refine x_putI (y := 0) C fp_Model_143 k_570 rfl rfl rfl d_Model_starts_7 ?_
  obtain ⟨σ2, eσ2, h0⟩ := xlet h0
  refine x_sig C eσ2 ?_
  refine x_aload_n C d_Model_starts_10 0 rfl ?_
  refine x_iload_n C d_Model_starts_11 3 rfl ?_
  refine x_putI (y := 0) C fp_Model_140 k_570 rfl rfl rfl d_Model_starts_12 ?_
  obtain ⟨σ3, eσ3, h0⟩ := xlet h0
  refine x_sig C eσ3 ?_
  refine x_aload_n C d_Model_starts_15 0 rfl ?_
  refine x_iconst (v := 0) C d_Model_starts_16 (by decide) ?_
  refine x_putI (y := 0) C fp_Model_137 k_570 rfl rfl rfl d_Model_starts_17 ?_
  obtain ⟨σ4, eσ4, h0⟩ := xlet h0
  refine x_sig C eσ4 ?_
  refine x_aload_n C d_Model_starts_20 0 rfl ?_
  refine x_iconst (v := (-1)) C d_Model_starts_21 (by decide) ?_
  refine x_putI (y := 0) C fp_Model_146 k_570 rfl rfl rfl d_Model_starts_22 ?_
  obtain ⟨σ5, eσ5, h0⟩ := xlet h0
  refine x_sig C eσ5 ?_
  exact x_vret C hr hk h0 d_Model_starts_25
-- LostPlacesModel.goThrough([BII)V
theorem d_Model_goThrough_0 : decode prog_14_method_26_code 0 = .ok (.aload_n 0, 1) := by decide +kernel
theorem d_Model_goThrough_1 : decode prog_14_method_26_code 1 = .ok (.aload_n 1, 1) := by decide +kernel
theorem d_Model_goThrough_2 : decode prog_14_method_26_code 2 = .ok (.iload_n 2, 1) := by decide +kernel
theorem d_Model_goThrough_3 : decode prog_14_method_26_code 3 = .ok (.iload_n 3, 1) := by decide +kernel
theorem d_Model_goThrough_4 : decode prog_14_method_26_code 4 = .ok (.invokevirtual 225, 3) := by decide +kernel
theorem d_Model_goThrough_7 : decode prog_14_method_26_code 7 = .ok (.aload_n 0, 1) := by decide +kernel
theorem d_Model_goThrough_8 : decode prog_14_method_26_code 8 = .ok (.bipush 121, 2) := by decide +kernel
theorem d_Model_goThrough_10 : decode prog_14_method_26_code 10 = .ok (.putfield 219, 3) := by decide +kernel
theorem d_Model_goThrough_13 : decode prog_14_method_26_code 13 = .ok (.aload_n 0, 1) := by decide +kernel
theorem d_Model_goThrough_14 : decode prog_14_method_26_code 14 = .ok (.iconst 0, 1) := by decide +kernel
theorem d_Model_goThrough_15 : decode prog_14_method_26_code 15 = .ok (.putfield 149, 3) := by decide +kernel
theorem d_Model_goThrough_18 : decode prog_14_method_26_code 18 = .ok (.aload_n 0, 1) := by decide +kernel
theorem d_Model_goThrough_19 : decode prog_14_method_26_code 19 = .ok (.iconst 0, 1) := by decide +kernel
theorem d_Model_goThrough_20 : decode prog_14_method_26_code 20 = .ok (.putfield 215, 3) := by decide +kernel
theorem d_Model_goThrough_23 : decode prog_14_method_26_code 23 = .ok (.aload_n 0, 1) := by decide +kernel
theorem d_Model_goThrough_24 : decode prog_14_method_26_code 24 = .ok (.iconst 0, 1) := by decide +kernel
theorem d_Model_goThrough_25 : decode prog_14_method_26_code 25 = .ok (.putfield 222, 3) := by decide +kernel
theorem d_Model_goThrough_28 : decode prog_14_method_26_code 28 = .ok (.aload_n 0, 1) := by decide +kernel
theorem d_Model_goThrough_29 : decode prog_14_method_26_code 29 = .ok (.invokevirtual 229, 3) := by decide +kernel
theorem d_Model_goThrough_32 : decode prog_14_method_26_code 32 = .ok (.aload_n 0, 1) := by decide +kernel
theorem d_Model_goThrough_33 : decode prog_14_method_26_code 33 = .ok (.getfield 146, 3) := by decide +kernel
theorem d_Model_goThrough_36 : decode prog_14_method_26_code 36 = .ok (.iconst (-1), 1) := by decide +kernel
theorem d_Model_goThrough_37 : decode prog_14_method_26_code 37 = .ok (.if_icmp .ne 29, 3) := by decide +kernel
theorem d_Model_goThrough_40 : decode prog_14_method_26_code 40 = .ok (.aload_n 0, 1) := by decide +kernel
theorem d_Model_goThrough_41 : decode prog_14_method_26_code 41 = .ok (.invokevirtual 156, 3) := by decide +kernel
theorem d_Model_goThrough_44 : decode prog_14_method_26_code 44 = .ok (.bipush 59, 2) := by decide +kernel
theorem d_Model_goThrough_46 : decode prog_14_method_26_code 46 = .ok (.if_icmp .ne 20, 3) := by decide +kernel
theorem d_Model_goThrough_49 : decode prog_14_method_26_code 49 = .ok (.aload_n 0, 1) := by decide +kernel
theorem d_Model_goThrough_50 : decode prog_14_method_26_code 50 = .ok (.dup, 1) := by decide +kernel
theorem d_Model_goThrough_51 : decode prog_14_method_26_code 51 = .ok (.getfield 137, 3) := by decide +kernel
theorem d_Model_goThrough_54 : decode prog_14_method_26_code 54 = .ok (.iconst 1, 1) := by decide +kernel
theorem d_Model_goThrough_55 : decode prog_14_method_26_code 55 = .ok (.iadd, 1) := by decide +kernel
theorem d_Model_goThrough_56 : decode prog_14_method_26_code 56 = .ok (.putfield 137, 3) := by decide +kernel
theorem d_Model_goThrough_59 : decode prog_14_method_26_code 59 = .ok (.aload_n 0, 1) := by decide +kernel
theorem d_Model_goThrough_60 : decode prog_14_method_26_code 60 = .ok (.invokevirtual 229, 3) := by decide +kernel
theorem d_Model_goThrough_63 : decode prog_14_method_26_code 63 = .ok (.goto (-31), 3) := by decide +kernel
theorem d_Model_goThrough_66 : decode prog_14_method_26_code 66 = .ok (.aload_n 0, 1) := by decide +kernel
theorem d_Model_goThrough_67 : decode prog_14_method_26_code 67 = .ok (.getfield 146, 3) := by decide +kernel
theorem d_Model_goThrough_70 : decode prog_14_method_26_code 70 = .ok (.iconst (-1), 1) := by decide +kernel
theorem d_Model_goThrough_71 : decode prog_14_method_26_code 71 = .ok (.if_icmp .ne 16, 3) := by decide +kernel
theorem d_Model_goThrough_74 : decode prog_14_method_26_code 74 = .ok (.aload_n 0, 1) := by decide +kernel
theorem d_Model_goThrough_75 : decode prog_14_method_26_code 75 = .ok (.invokevirtual 156, 3) := by decide +kernel
theorem d_Model_goThrough_78 : decode prog_14_method_26_code 78 = .ok (.iconst (-1), 1) := by decide +kernel
theorem d_Model_goThrough_79 : decode prog_14_method_26_code 79 = .ok (.if_icmp .eq 8, 3) := by decide +kernel
theorem d_Model_goThrough_82 : decode prog_14_method_26_code 82 = .ok (.aload_n 0, 1) := by decide +kernel
theorem d_Model_goThrough_83 : decode prog_14_method_26_code 83 = .ok (.invokevirtual 152, 3) := by decide +kernel
theorem d_Model_goThrough_86 : decode prog_14_method_26_code 86 = .ok (.pop, 1) := by decide +kernel
theorem d_Model_goThrough_87 : decode prog_14_method_26_code 87 = .ok (.return_, 1) := by decide +kernel
def s_Model_goThrough_87 (p0 : Nat) (p1 : Int32) (p2 : Int32) (σ : LH) : Option (LH) :=
  some σ
theorem b_Model_goThrough_87 {G : XG} {l : Launch} {p : Program} {e : Env} {R : Room} {s : State} {m : MethodId} {args : Array Value} {below : List Frame} {meth : Method} {c : Code} (C : XC G 570 598 p s m args c prog_14_method_26_code 4 R_Model) (hr : meth.sig.returnType = none) (hk : meth.locks = false) {d : Nat} (hd : 116 ≤ d + 1) (hR : xroom R (d + 1)) {p0 : Nat} {p1 : Int32} {p2 : Int32} (hp0 : p0 = 571 ∨ p0 = 572) {σ' : LH} {σ : LH} (h0 : s_Model_goThrough_87 p0 p1 p2 σ = some σ') : XJ G 570 598 p l e R s m args below meth c 4 (XQ G 570 598 below args s none σ') 0 0 87 [] [] σ := by
  replace h0 := (show _ = _ from h0)
  unfold s_Model_goThrough_87 at h0
  exact x_vret C hr hk h0 d_Model_goThrough_87
def s_Model_goThrough_66 (p0 : Nat) (p1 : Int32) (p2 : Int32) (σ : LH) : Option (LH) :=
  if (σ.1 570 11) = (-1) then (
   xb2 (s_Model_look σ) fun r19 σ20 =>
   if r19 = (-1) then (
    s_Model_goThrough_87 p0 p1 p2 σ20)
   else (
    xb2 (s_Model_fails σ20) fun r23 σ24 =>
    s_Model_goThrough_87 p0 p1 p2 σ24))
  else (
   s_Model_goThrough_87 p0 p1 p2 σ)
theorem b_Model_goThrough_66 {G : XG} {l : Launch} {p : Program} {e : Env} {R : Room} {s : State} {m : MethodId} {args : Array Value} {below : List Frame} {meth : Method} {c : Code} (C : XC G 570 598 p s m args c prog_14_method_26_code 4 R_Model) (hr : meth.sig.returnType = none) (hk : meth.locks = false) {d : Nat} (hd : 116 ≤ d + 1) (hR : xroom R (d + 1)) {p0 : Nat} {p1 : Int32} {p2 : Int32} (hp0 : p0 = 571 ∨ p0 = 572) {σ' : LH} {σ : LH} (h0 : s_Model_goThrough_66 p0 p1 p2 σ = some σ') : XJ G 570 598 p l e R s m args below meth c 4 (XQ G 570 598 below args s none σ') 0 0 66 [(0, .ref (G.2.2.1 + 570))] [] σ := by
  replace h0 := (show _ = _ from h0)
  unfold s_Model_goThrough_66 at h0
  refine x_aload_n C d_Model_goThrough_66 0 rfl ?_
  refine x_getI (y := 0) C fg_Model_146 k_570 rfl d_Model_goThrough_67 ?_
  refine x_iconst (v := (-1)) C d_Model_goThrough_70 (by decide) ?_
  refine x_icmp_ne C 87 d_Model_goThrough_71 (by decide) (fun q17 => ?_) (fun q17 => ?_)
  · replace h0 := xif q17 h0
    exact x_lv C [] rfl (b_Model_goThrough_87 C hr hk hd hR hp0 h0)
  · replace h0 := xit q17 h0
    refine x_aload_n C d_Model_goThrough_74 0 rfl ?_
    obtain ⟨r19, σ20, k18, h0⟩ := xbind2 h0
    refine x_callVi C hR (c_Model_look (d := d) (by omega) k18) cw_Model_156 k_570 rfl rfl rfl (Nat.le_of_ble_eq_true rfl) ⟨Nat.zero_le _, Nat.zero_le _⟩ d_Model_goThrough_75 ?_
    refine x_iconst (v := (-1)) C d_Model_goThrough_78 (by decide) ?_
    refine x_icmp_eq C 87 d_Model_goThrough_79 (by decide) (fun q21 => ?_) (fun q21 => ?_)
    · replace h0 := xit q21 h0
      exact x_lv C [] rfl (b_Model_goThrough_87 C hr hk hd hR hp0 h0)
    · replace h0 := xif q21 h0
      refine x_aload_n C d_Model_goThrough_82 0 rfl ?_
      obtain ⟨r23, σ24, k22, h0⟩ := xbind2 h0
      refine x_callVi C hR (c_Model_fails (d := d) (by omega) k22) cw_Model_152 k_570 rfl rfl rfl (Nat.le_of_ble_eq_true rfl) ⟨Nat.zero_le _, Nat.zero_le _⟩ d_Model_goThrough_83 ?_
      refine x_pop C d_Model_goThrough_86 rfl ?_
      exact x_lv C [] rfl (b_Model_goThrough_87 C hr hk hd hR hp0 h0)
def s_Model_goThrough_32_b (p0 : Nat) (p1 : Int32) (p2 : Int32) (rec32 : LH → Option (LH)) (σ : LH) : Option (LH) :=
  if (σ.1 570 11) = (-1) then (
   xb2 (s_Model_look σ) fun r11 σ12 =>
   if r11 = 59 then (
    xl ((stI σ12 570 10 ((σ12.1 570 10) + 1)) : LH) fun σ14 =>
    xb1 (s_Model_clause σ14) fun σ16 =>
    rec32 σ16)
   else (
    s_Model_goThrough_66 p0 p1 p2 σ12))
  else (
   s_Model_goThrough_66 p0 p1 p2 σ)
def s_Model_goThrough_32 (p0 : Nat) (p1 : Int32) (p2 : Int32) : Nat → LH → Option (LH)
  | 0, _ => none
  | n + 1, σ => s_Model_goThrough_32_b p0 p1 p2 (s_Model_goThrough_32 p0 p1 p2 n) σ
theorem bb_Model_goThrough_32 {G : XG} {l : Launch} {p : Program} {e : Env} {R : Room} {s : State} {m : MethodId} {args : Array Value} {below : List Frame} {meth : Method} {c : Code} (C : XC G 570 598 p s m args c prog_14_method_26_code 4 R_Model) (hr : meth.sig.returnType = none) (hk : meth.locks = false) {d : Nat} (hd : 116 ≤ d + 1) (hR : xroom R (d + 1)) {p0 : Nat} {p1 : Int32} {p2 : Int32} (hp0 : p0 = 571 ∨ p0 = 572) {rec32 : LH → Option (LH)} {σ' : LH} (hrec32 : ∀ (σ : LH), rec32 σ = some σ' → XJ G 570 598 p l e R s m args below meth c 4 (XQ G 570 598 below args s none σ') 0 0 32 [(0, .ref (G.2.2.1 + 570))] [] σ) {σ : LH} (h0 : s_Model_goThrough_32_b p0 p1 p2 rec32 σ = some σ') : XJ G 570 598 p l e R s m args below meth c 4 (XQ G 570 598 below args s none σ') 0 0 32 [(0, .ref (G.2.2.1 + 570))] [] σ := by
  replace h0 := (show _ = _ from h0)
  unfold s_Model_goThrough_32_b at h0
  refine x_aload_n C d_Model_goThrough_32 0 rfl ?_
  refine x_getI (y := 0) C fg_Model_146 k_570 rfl d_Model_goThrough_33 ?_
  refine x_iconst (v := (-1)) C d_Model_goThrough_36 (by decide) ?_
  refine x_icmp_ne C 66 d_Model_goThrough_37 (by decide) (fun q9 => ?_) (fun q9 => ?_)
  · replace h0 := xif q9 h0
    exact x_lv C [0] rfl (b_Model_goThrough_66 C hr hk hd hR hp0 h0)
  · replace h0 := xit q9 h0
    refine x_aload_n C d_Model_goThrough_40 0 rfl ?_
    obtain ⟨r11, σ12, k10, h0⟩ := xbind2 h0
    refine x_callVi C hR (c_Model_look (d := d) (by omega) k10) cw_Model_156 k_570 rfl rfl rfl (Nat.le_of_ble_eq_true rfl) ⟨Nat.zero_le _, Nat.zero_le _⟩ d_Model_goThrough_41 ?_
    refine x_bipush (v := 59) C d_Model_goThrough_44 (by decide) ?_
    refine x_icmp_ne C 66 d_Model_goThrough_46 (by decide) (fun q13 => ?_) (fun q13 => ?_)
    · replace h0 := xif q13 h0
      exact x_lv C [0] rfl (b_Model_goThrough_66 C hr hk hd hR hp0 h0)
    · replace h0 := xit q13 h0
      refine x_aload_n C d_Model_goThrough_49 0 rfl ?_
      refine x_dup C d_Model_goThrough_50 rfl ?_
      refine x_getI (y := 0) C fg_Model_137 k_570 rfl d_Model_goThrough_51 ?_
      refine x_iconst (v := 1) C d_Model_goThrough_54 (by decide) ?_
      refine x_iadd C d_Model_goThrough_55 ?_
      refine x_putI (y := 0) C fp_Model_137 k_570 rfl rfl rfl d_Model_goThrough_56 ?_
      obtain ⟨σ14, eσ14, h0⟩ := xlet h0
      refine x_sig C eσ14 ?_
      refine x_aload_n C d_Model_goThrough_59 0 rfl ?_
      obtain ⟨σ16, k15, h0⟩ := xbind1 h0
      refine x_callVv C hR (c_Model_clause (d := d) (by omega) k15) cw_Model_229 k_570 rfl rfl rfl (Nat.le_of_ble_eq_true rfl) ⟨Nat.zero_le _, Nat.zero_le _⟩ d_Model_goThrough_60 ?_
      refine x_goto C 32 d_Model_goThrough_63 (by decide) ?_
      exact x_lv C [0] rfl (hrec32 _ h0)
theorem b_Model_goThrough_32 {G : XG} {l : Launch} {p : Program} {e : Env} {R : Room} {s : State} {m : MethodId} {args : Array Value} {below : List Frame} {meth : Method} {c : Code} (C : XC G 570 598 p s m args c prog_14_method_26_code 4 R_Model) (hr : meth.sig.returnType = none) (hk : meth.locks = false) {d : Nat} (hd : 116 ≤ d + 1) (hR : xroom R (d + 1)) {p0 : Nat} {p1 : Int32} {p2 : Int32} (hp0 : p0 = 571 ∨ p0 = 572) {σ' : LH} : ∀ (n : Nat) (σ : LH), s_Model_goThrough_32 p0 p1 p2 n σ = some σ' → XJ G 570 598 p l e R s m args below meth c 4 (XQ G 570 598 below args s none σ') 0 0 32 [(0, .ref (G.2.2.1 + 570))] [] σ := by
  intro n
  induction n with
  | zero => intro σ h0; cases h0
  | succ n ih => intro σ h0; exact bb_Model_goThrough_32 C hr hk hd hR hp0 ih h0
def s_Model_goThrough (p0 : Nat) (p1 : Int32) (p2 : Int32) (σ : LH) : Option (LH) :=
  xb1 (s_Model_starts p0 p1 p2 σ) fun σ2 =>
  xl ((stI σ2 570 13 121) : LH) fun σ3 =>
  xl ((stI σ3 570 12 0) : LH) fun σ4 =>
  xl ((stI σ4 570 17 0) : LH) fun σ5 =>
  xl ((stI σ5 570 14 0) : LH) fun σ6 =>
  xb1 (s_Model_clause σ6) fun σ8 =>
  s_Model_goThrough_32 p0 p1 p2 FUEL σ8
theorem c_Model_goThrough {G : XG} {l : Launch} {d : Nat} (hd : 116 ≤ d) {p0 : Nat} {p1 : Int32} {p2 : Int32} (hp0 : p0 = 571 ∨ p0 = 572) {σ σ' : LH} (h0 : s_Model_goThrough p0 p1 p2 σ = some σ') : xM G 570 598 l y_Model_goThrough prog_14_method_26_code 4 none d [.ref (G.2.2.1 + 570), .ref (G.2.2.1 + p0), .int p1, .int p2] σ none σ' := by
  obtain ⟨d, rfl⟩ : ∃ q, d = q + 1 := ⟨d - 1, by omega⟩
  refine x_met R_Model rfl (by decide +kernel) (Nat.le_of_ble_eq_true rfl) fun p e s m below meth c C hr hk hR => ?_
  refine x_lv (lv' := [(0, .ref (G.2.2.1 + 570)), (1, .ref (G.2.2.1 + p0)), (2, .int p1), (3, .int p2)]) C [0, 1, 2, 3] rfl ?_
  generalize xrm (d + 1) = R at hR ⊢
  unfold s_Model_goThrough at h0
  refine x_aload_n C d_Model_goThrough_0 0 rfl ?_
  refine x_aload_n C d_Model_goThrough_1 1 rfl ?_
  refine x_iload_n C d_Model_goThrough_2 2 rfl ?_
  refine x_iload_n C d_Model_goThrough_3 3 rfl ?_
  obtain ⟨σ2, k1, h0⟩ := xbind1 h0
  refine x_callVv C hR (c_Model_starts (d := d) (by omega) hp0 k1) cw_Model_225 k_570 rfl rfl rfl (Nat.le_of_ble_eq_true rfl) ⟨Nat.zero_le _, Nat.zero_le _⟩ d_Model_goThrough_4 ?_
  refine x_aload_n C d_Model_goThrough_7 0 rfl ?_
  refine x_bipush (v := 121) C d_Model_goThrough_8 (by decide) ?_
  refine x_putI (y := 0) C fp_Model_219 k_570 rfl rfl rfl d_Model_goThrough_10 ?_
  obtain ⟨σ3, eσ3, h0⟩ := xlet h0
  refine x_sig C eσ3 ?_
  refine x_aload_n C d_Model_goThrough_13 0 rfl ?_
  refine x_iconst (v := 0) C d_Model_goThrough_14 (by decide) ?_
  refine x_putI (y := 0) C fp_Model_149 k_570 rfl rfl rfl d_Model_goThrough_15 ?_
  obtain ⟨σ4, eσ4, h0⟩ := xlet h0
  refine x_sig C eσ4 ?_
  refine x_aload_n C d_Model_goThrough_18 0 rfl ?_
  refine x_iconst (v := 0) C d_Model_goThrough_19 (by decide) ?_
  refine x_putI (y := 0) C fp_Model_215 k_570 rfl rfl rfl d_Model_goThrough_20 ?_
  obtain ⟨σ5, eσ5, h0⟩ := xlet h0
  refine x_sig C eσ5 ?_
  refine x_aload_n C d_Model_goThrough_23 0 rfl ?_
  refine x_iconst (v := 0) C d_Model_goThrough_24 (by decide) ?_
  refine x_putI (y := 0) C fp_Model_222 k_570 rfl rfl rfl d_Model_goThrough_25 ?_
  obtain ⟨σ6, eσ6, h0⟩ := xlet h0
  refine x_sig C eσ6 ?_
  refine x_aload_n C d_Model_goThrough_28 0 rfl ?_
  obtain ⟨σ8, k7, h0⟩ := xbind1 h0
  refine x_callVv C hR (c_Model_clause (d := d) (by omega) k7) cw_Model_229 k_570 rfl rfl rfl (Nat.le_of_ble_eq_true rfl) ⟨Nat.zero_le _, Nat.zero_le _⟩ d_Model_goThrough_29 ?_
  exact x_lv C [0] rfl (b_Model_goThrough_32 C hr hk hd hR hp0 FUEL _ h0)
-- LostPlacesModel.here()I
theorem d_Model_here_0 : decode prog_14_method_27_code 0 = .ok (.aload_n 0, 1) := by decide +kernel
theorem d_Model_here_1 : decode prog_14_method_27_code 1 = .ok (.getfield 137, 3) := by decide +kernel
theorem d_Model_here_4 : decode prog_14_method_27_code 4 = .ok (.aload_n 0, 1) := by decide +kernel
theorem d_Model_here_5 : decode prog_14_method_27_code 5 = .ok (.getfield 140, 3) := by decide +kernel
theorem d_Model_here_8 : decode prog_14_method_27_code 8 = .ok (.if_icmp .ge 24, 3) := by decide +kernel
theorem d_Model_here_11 : decode prog_14_method_27_code 11 = .ok (.aload_n 0, 1) := by decide +kernel
theorem d_Model_here_12 : decode prog_14_method_27_code 12 = .ok (.getfield 23, 3) := by decide +kernel
theorem d_Model_here_15 : decode prog_14_method_27_code 15 = .ok (.aload_n 0, 1) := by decide +kernel
theorem d_Model_here_16 : decode prog_14_method_27_code 16 = .ok (.getfield 143, 3) := by decide +kernel
theorem d_Model_here_19 : decode prog_14_method_27_code 19 = .ok (.aload_n 0, 1) := by decide +kernel
theorem d_Model_here_20 : decode prog_14_method_27_code 20 = .ok (.getfield 137, 3) := by decide +kernel
theorem d_Model_here_23 : decode prog_14_method_27_code 23 = .ok (.iadd, 1) := by decide +kernel
theorem d_Model_here_24 : decode prog_14_method_27_code 24 = .ok (.baload, 1) := by decide +kernel
theorem d_Model_here_25 : decode prog_14_method_27_code 25 = .ok (.sipush 255, 3) := by decide +kernel
theorem d_Model_here_28 : decode prog_14_method_27_code 28 = .ok (.iand, 1) := by decide +kernel
theorem d_Model_here_29 : decode prog_14_method_27_code 29 = .ok (.goto 4, 3) := by decide +kernel
theorem d_Model_here_32 : decode prog_14_method_27_code 32 = .ok (.iconst (-1), 1) := by decide +kernel
theorem d_Model_here_33 : decode prog_14_method_27_code 33 = .ok (.ireturn, 1) := by decide +kernel
def s_Model_here_33 (z0 : Int32) (σ : LH) : Option (Int32 × LH) :=
  some (z0, σ)
theorem b_Model_here_33 {G : XG} {l : Launch} {p : Program} {e : Env} {R : Room} {s : State} {m : MethodId} {args : Array Value} {below : List Frame} {meth : Method} {c : Code} (C : XC G 570 598 p s m args c prog_14_method_27_code 1 R_Model) (hr : meth.sig.returnType = (some .int)) (hk : meth.locks = false) {d : Nat} (hd : 1 ≤ d + 1) (hR : xroom R (d + 1)) {σ' : LH} {r : Int32} {z0 : Int32} {σ : LH} (h0 : s_Model_here_33 z0 σ = some (r, σ')) : XJ G 570 598 p l e R s m args below meth c 1 (XQ G 570 598 below args s (some (.int r)) σ') 0 0 33 [] [.int z0] σ := by
  replace h0 := (show _ = _ from h0)
  unfold s_Model_here_33 at h0
  exact x_iret C hr hk h0 d_Model_here_33
def s_Model_here (σ : LH) : Option (Int32 × LH) :=
  if (σ.1 570 9) ≤ (σ.1 570 10) then (
   s_Model_here_33 (-1) σ)
  else (
   xl ((σ.2.2.2) : Nat) fun b3 =>
   if ib ((σ.1 570 8) + (σ.1 570 10)) (if b3 = 571 then 240 else 960) then (
   s_Model_here_33 ((σ.1 b3 (Int32.toNatClampNeg ((σ.1 570 8) + (σ.1 570 10)))) &&& 255) σ) else none)
theorem c_Model_here {G : XG} {l : Launch} {d : Nat} (hd : 1 ≤ d) {σ σ' : LH} {r : Int32} (h0 : s_Model_here σ = some (r, σ')) : xM G 570 598 l y_Model_here prog_14_method_27_code 1 (some .int) d [.ref (G.2.2.1 + 570)] σ (some (.int r)) σ' := by
  obtain ⟨d, rfl⟩ : ∃ q, d = q + 1 := ⟨d - 1, by omega⟩
  refine x_met R_Model rfl (by decide +kernel) (Nat.le_of_ble_eq_true rfl) fun p e s m below meth c C hr hk hR => ?_
  refine x_lv (lv' := [(0, .ref (G.2.2.1 + 570))]) C [0] rfl ?_
  generalize xrm (d + 1) = R at hR ⊢
  unfold s_Model_here at h0
  refine x_aload_n C d_Model_here_0 0 rfl ?_
  refine x_getI (y := 0) C fg_Model_137 k_570 rfl d_Model_here_1 ?_
  refine x_aload_n C d_Model_here_4 0 rfl ?_
  refine x_getI (y := 0) C fg_Model_140 k_570 rfl d_Model_here_5 ?_
  refine x_icmp_ge C 32 d_Model_here_8 (by decide) (fun q1 => ?_) (fun q1 => ?_)
  · replace h0 := xit q1 h0
    refine x_iconst (v := (-1)) C d_Model_here_32 (by decide) ?_
    exact x_lv C [] rfl (b_Model_here_33 C hr hk hd hR h0)
  · replace h0 := xif q1 h0
    refine x_aload_n C d_Model_here_11 0 rfl ?_
    refine x_getX (y := 0) C fg_Model_23 k_570 rfl d_Model_here_12 (fun o2 => ?_)
    obtain ⟨b3, eb3, h0⟩ := xlet h0
    refine x_nameR C eb3 ?_
    have hb3 : b3 = 571 ∨ b3 = 572 := by rw [eb3]; exact o2.2
    refine x_aload_n C d_Model_here_15 0 rfl ?_
    refine x_getI (y := 0) C fg_Model_143 k_570 rfl d_Model_here_16 ?_
    refine x_aload_n C d_Model_here_19 0 rfl ?_
    refine x_getI (y := 0) C fg_Model_137 k_570 rfl d_Model_here_20 ?_
    refine x_iadd C d_Model_here_23 ?_
    obtain ⟨g4, h0⟩ := xgo h0
    refine x_bald C (tx_in hb3) (ib_in g4) d_Model_here_24 ?_
    refine x_sipush (v := 255) C d_Model_here_25 (by decide) ?_
    refine x_iand C d_Model_here_28 ?_
    refine x_goto C 33 d_Model_here_29 (by decide) ?_
    exact x_lv C [] rfl (b_Model_here_33 C hr hk hd hR h0)
-- LostPlacesModel.spotOf(Ljava/lang/String;I)I
theorem d_Model_spotOf_0 : decode prog_14_method_28_code 0 = .ok (.iconst 0, 1) := by decide +kernel
theorem d_Model_spotOf_1 : decode prog_14_method_28_code 1 = .ok (.istore_n 2, 1) := by decide +kernel
theorem d_Model_spotOf_2 : decode prog_14_method_28_code 2 = .ok (.iload_n 2, 1) := by decide +kernel
theorem d_Model_spotOf_3 : decode prog_14_method_28_code 3 = .ok (.aload_n 0, 1) := by decide +kernel
theorem d_Model_spotOf_4 : decode prog_14_method_28_code 4 = .ok (.invokevirtual 117, 3) := by decide +kernel
theorem d_Model_spotOf_7 : decode prog_14_method_28_code 7 = .ok (.if_icmp .ge 20, 3) := by decide +kernel
theorem d_Model_spotOf_10 : decode prog_14_method_28_code 10 = .ok (.aload_n 0, 1) := by decide +kernel
theorem d_Model_spotOf_11 : decode prog_14_method_28_code 11 = .ok (.iload_n 2, 1) := by decide +kernel
theorem d_Model_spotOf_12 : decode prog_14_method_28_code 12 = .ok (.invokevirtual 123, 3) := by decide +kernel
theorem d_Model_spotOf_15 : decode prog_14_method_28_code 15 = .ok (.iload_n 1, 1) := by decide +kernel
theorem d_Model_spotOf_16 : decode prog_14_method_28_code 16 = .ok (.if_icmp .ne 5, 3) := by decide +kernel
theorem d_Model_spotOf_19 : decode prog_14_method_28_code 19 = .ok (.iload_n 2, 1) := by decide +kernel
theorem d_Model_spotOf_20 : decode prog_14_method_28_code 20 = .ok (.ireturn, 1) := by decide +kernel
theorem d_Model_spotOf_21 : decode prog_14_method_28_code 21 = .ok (.iinc 2 1, 3) := by decide +kernel
theorem d_Model_spotOf_24 : decode prog_14_method_28_code 24 = .ok (.goto (-22), 3) := by decide +kernel
theorem d_Model_spotOf_27 : decode prog_14_method_28_code 27 = .ok (.iconst (-1), 1) := by decide +kernel
theorem d_Model_spotOf_28 : decode prog_14_method_28_code 28 = .ok (.ireturn, 1) := by decide +kernel
def s_Model_spotOf_2_b (p0 : Nat) (p1 : Int32) (rec2 : Int32 → LH → Option (Int32 × LH)) (y2 : Int32) (σ : LH) : Option (Int32 × LH) :=
  if (js_len p0) ≤ y2 then (
   some ((-1), σ))
  else (
   if ib y2 (xlen.getD p0 0) then (
   if (js_at p0 y2) = p1 then (
    some (y2, σ))
   else (
    xl ((y2 + 1) : Int32) fun x4 =>
    rec2 x4 σ)) else none)
def s_Model_spotOf_2 (p0 : Nat) (p1 : Int32) : Nat → Int32 → LH → Option (Int32 × LH)
  | 0, _, _ => none
  | n + 1, y2, σ => s_Model_spotOf_2_b p0 p1 (s_Model_spotOf_2 p0 p1 n) y2 σ
theorem bb_Model_spotOf_2 {G : XG} {l : Launch} {p : Program} {e : Env} {R : Room} {s : State} {m : MethodId} {args : Array Value} {below : List Frame} {meth : Method} {c : Code} (C : XC G 570 598 p s m args c prog_14_method_28_code 3 R_Model) (hr : meth.sig.returnType = (some .int)) (hk : meth.locks = false) {d : Nat} (hd : 9 ≤ d + 1) (hR : xroom R (d + 1)) {p0 : Nat} {p1 : Int32} (hp0 : p0 < 10) {rec2 : Int32 → LH → Option (Int32 × LH)} {σ' : LH} {r : Int32} (hrec2 : ∀ (y2 : Int32) (σ : LH), rec2 y2 σ = some (r, σ') → XJ G 570 598 p l e R s m args below meth c 3 (XQ G 570 598 below args s (some (.int r)) σ') 0 0 2 [(0, .ref (G.2.2.2.1 p0)), (1, .int p1), (2, .int y2)] [] σ) {y2 : Int32} {σ : LH} (h0 : s_Model_spotOf_2_b p0 p1 rec2 y2 σ = some (r, σ')) : XJ G 570 598 p l e R s m args below meth c 3 (XQ G 570 598 below args s (some (.int r)) σ') 0 0 2 [(0, .ref (G.2.2.2.1 p0)), (1, .int p1), (2, .int y2)] [] σ := by
  replace h0 := (show _ = _ from h0)
  unfold s_Model_spotOf_2_b at h0
  refine x_iload_n C d_Model_spotOf_2 2 rfl ?_
  refine x_aload_n C d_Model_spotOf_3 0 rfl ?_
  refine x_sLen C (xroomS hR (by omega)) hp0 w_1725 (Nat.le_of_ble_eq_true rfl) ⟨Nat.zero_le _, Nat.zero_le _⟩ d_Model_spotOf_4 ?_
  refine x_icmp_ge C 27 d_Model_spotOf_7 (by decide) (fun q1 => ?_) (fun q1 => ?_)
  · replace h0 := xit q1 h0
    refine x_iconst (v := (-1)) C d_Model_spotOf_27 (by decide) ?_
    exact x_iret C hr hk h0 d_Model_spotOf_28
  · replace h0 := xif q1 h0
    refine x_aload_n C d_Model_spotOf_10 0 rfl ?_
    refine x_iload_n C d_Model_spotOf_11 2 rfl ?_
    obtain ⟨g2, h0⟩ := xgo h0
    refine x_sAt C (xroomS hR (by omega)) hp0 g2 w_1729 (Nat.le_of_ble_eq_true rfl) ⟨Nat.zero_le _, Nat.zero_le _⟩ d_Model_spotOf_12 ?_
    refine x_iload_n C d_Model_spotOf_15 1 rfl ?_
    refine x_icmp_ne C 21 d_Model_spotOf_16 (by decide) (fun q3 => ?_) (fun q3 => ?_)
    · replace h0 := xif q3 h0
      obtain ⟨x4, ex4, h0⟩ := xlet h0
      refine x_iinc (lv' := [(2, .int x4), (0, .ref (G.2.2.2.1 p0)), (1, .int p1)]) C d_Model_spotOf_21 2 rfl ex4 (by decide) rfl ?_
      refine x_goto C 2 d_Model_spotOf_24 (by decide) ?_
      exact x_lv C [1, 2, 0] rfl (hrec2 _ _ h0)
    · replace h0 := xit q3 h0
      refine x_iload_n C d_Model_spotOf_19 2 rfl ?_
      exact x_iret C hr hk h0 d_Model_spotOf_20
theorem b_Model_spotOf_2 {G : XG} {l : Launch} {p : Program} {e : Env} {R : Room} {s : State} {m : MethodId} {args : Array Value} {below : List Frame} {meth : Method} {c : Code} (C : XC G 570 598 p s m args c prog_14_method_28_code 3 R_Model) (hr : meth.sig.returnType = (some .int)) (hk : meth.locks = false) {d : Nat} (hd : 9 ≤ d + 1) (hR : xroom R (d + 1)) {p0 : Nat} {p1 : Int32} (hp0 : p0 < 10) {σ' : LH} {r : Int32} : ∀ (n : Nat) (y2 : Int32) (σ : LH), s_Model_spotOf_2 p0 p1 n y2 σ = some (r, σ') → XJ G 570 598 p l e R s m args below meth c 3 (XQ G 570 598 below args s (some (.int r)) σ') 0 0 2 [(0, .ref (G.2.2.2.1 p0)), (1, .int p1), (2, .int y2)] [] σ := by
  intro n
  induction n with
  | zero => intro y2 σ h0; cases h0
  | succ n ih => intro y2 σ h0; exact bb_Model_spotOf_2 C hr hk hd hR hp0 ih h0
def s_Model_spotOf (p0 : Nat) (p1 : Int32) (σ : LH) : Option (Int32 × LH) :=
  s_Model_spotOf_2 p0 p1 FUEL 0 σ
theorem c_Model_spotOf {G : XG} {l : Launch} {d : Nat} (hd : 9 ≤ d) {p0 : Nat} {p1 : Int32} (hp0 : p0 < 10) {σ σ' : LH} {r : Int32} (h0 : s_Model_spotOf p0 p1 σ = some (r, σ')) : xM G 570 598 l y_Model_spotOf prog_14_method_28_code 3 (some .int) d [.ref (G.2.2.2.1 p0), .int p1] σ (some (.int r)) σ' := by
  obtain ⟨d, rfl⟩ : ∃ q, d = q + 1 := ⟨d - 1, by omega⟩
  refine x_met R_Model rfl (by decide +kernel) (Nat.le_of_ble_eq_true rfl) fun p e s m below meth c C hr hk hR => ?_
  refine x_lv (lv' := [(0, .ref (G.2.2.2.1 p0)), (1, .int p1)]) C [0, 1] rfl ?_
  generalize xrm (d + 1) = R at hR ⊢
  unfold s_Model_spotOf at h0
  refine x_iconst (v := 0) C d_Model_spotOf_0 (by decide) ?_
  refine x_istore_n (lv' := [(2, .int 0), (0, .ref (G.2.2.2.1 p0)), (1, .int p1)]) C d_Model_spotOf_1 rfl (by decide) rfl ?_
  exact x_lv C [1, 2, 0] rfl (b_Model_spotOf_2 C hr hk hd hR hp0 FUEL _ _ h0)
-- LostPlacesModel.readItem([IIII)V
theorem d_Model_readItem_0 : decode prog_14_method_29_code 0 = .ok (.aload_n 0, 1) := by decide +kernel
theorem d_Model_readItem_1 : decode prog_14_method_29_code 1 = .ok (.dup, 1) := by decide +kernel
theorem d_Model_readItem_2 : decode prog_14_method_29_code 2 = .ok (.getfield 137, 3) := by decide +kernel
theorem d_Model_readItem_5 : decode prog_14_method_29_code 5 = .ok (.iconst 1, 1) := by decide +kernel
theorem d_Model_readItem_6 : decode prog_14_method_29_code 6 = .ok (.iadd, 1) := by decide +kernel
theorem d_Model_readItem_7 : decode prog_14_method_29_code 7 = .ok (.putfield 137, 3) := by decide +kernel
theorem d_Model_readItem_10 : decode prog_14_method_29_code 10 = .ok (.aload_n 0, 1) := by decide +kernel
theorem d_Model_readItem_11 : decode prog_14_method_29_code 11 = .ok (.invokevirtual 156, 3) := by decide +kernel
theorem d_Model_readItem_14 : decode prog_14_method_29_code 14 = .ok (.istore 5, 2) := by decide +kernel
theorem d_Model_readItem_16 : decode prog_14_method_29_code 16 = .ok (.aload_n 0, 1) := by decide +kernel
theorem d_Model_readItem_17 : decode prog_14_method_29_code 17 = .ok (.invokevirtual 186, 3) := by decide +kernel
theorem d_Model_readItem_20 : decode prog_14_method_29_code 20 = .ok (.ifCond .ne 9, 3) := by decide +kernel
theorem d_Model_readItem_23 : decode prog_14_method_29_code 23 = .ok (.aload_n 0, 1) := by decide +kernel
theorem d_Model_readItem_24 : decode prog_14_method_29_code 24 = .ok (.invokevirtual 152, 3) := by decide +kernel
theorem d_Model_readItem_27 : decode prog_14_method_29_code 27 = .ok (.pop, 1) := by decide +kernel
theorem d_Model_readItem_28 : decode prog_14_method_29_code 28 = .ok (.return_, 1) := by decide +kernel
theorem d_Model_readItem_29 : decode prog_14_method_29_code 29 = .ok (.iload 5, 2) := by decide +kernel
theorem d_Model_readItem_31 : decode prog_14_method_29_code 31 = .ok (.bipush 48, 2) := by decide +kernel
theorem d_Model_readItem_33 : decode prog_14_method_29_code 33 = .ok (.isub, 1) := by decide +kernel
theorem d_Model_readItem_34 : decode prog_14_method_29_code 34 = .ok (.istore 6, 2) := by decide +kernel
theorem d_Model_readItem_36 : decode prog_14_method_29_code 36 = .ok (.aload_n 0, 1) := by decide +kernel
theorem d_Model_readItem_37 : decode prog_14_method_29_code 37 = .ok (.dup, 1) := by decide +kernel
theorem d_Model_readItem_38 : decode prog_14_method_29_code 38 = .ok (.getfield 137, 3) := by decide +kernel
theorem d_Model_readItem_41 : decode prog_14_method_29_code 41 = .ok (.iconst 1, 1) := by decide +kernel
theorem d_Model_readItem_42 : decode prog_14_method_29_code 42 = .ok (.iadd, 1) := by decide +kernel
theorem d_Model_readItem_43 : decode prog_14_method_29_code 43 = .ok (.putfield 137, 3) := by decide +kernel
theorem d_Model_readItem_46 : decode prog_14_method_29_code 46 = .ok (.aload_n 0, 1) := by decide +kernel
theorem d_Model_readItem_47 : decode prog_14_method_29_code 47 = .ok (.invokevirtual 186, 3) := by decide +kernel
theorem d_Model_readItem_50 : decode prog_14_method_29_code 50 = .ok (.ifCond .eq 28, 3) := by decide +kernel
theorem d_Model_readItem_53 : decode prog_14_method_29_code 53 = .ok (.bipush 10, 2) := by decide +kernel
theorem d_Model_readItem_55 : decode prog_14_method_29_code 55 = .ok (.iload 6, 2) := by decide +kernel
theorem d_Model_readItem_57 : decode prog_14_method_29_code 57 = .ok (.imul, 1) := by decide +kernel
theorem d_Model_readItem_58 : decode prog_14_method_29_code 58 = .ok (.aload_n 0, 1) := by decide +kernel
theorem d_Model_readItem_59 : decode prog_14_method_29_code 59 = .ok (.invokevirtual 232, 3) := by decide +kernel
theorem d_Model_readItem_62 : decode prog_14_method_29_code 62 = .ok (.iadd, 1) := by decide +kernel
theorem d_Model_readItem_63 : decode prog_14_method_29_code 63 = .ok (.bipush 48, 2) := by decide +kernel
theorem d_Model_readItem_65 : decode prog_14_method_29_code 65 = .ok (.isub, 1) := by decide +kernel
theorem d_Model_readItem_66 : decode prog_14_method_29_code 66 = .ok (.istore 6, 2) := by decide +kernel
theorem d_Model_readItem_68 : decode prog_14_method_29_code 68 = .ok (.aload_n 0, 1) := by decide +kernel
theorem d_Model_readItem_69 : decode prog_14_method_29_code 69 = .ok (.dup, 1) := by decide +kernel
theorem d_Model_readItem_70 : decode prog_14_method_29_code 70 = .ok (.getfield 137, 3) := by decide +kernel
theorem d_Model_readItem_73 : decode prog_14_method_29_code 73 = .ok (.iconst 1, 1) := by decide +kernel
theorem d_Model_readItem_74 : decode prog_14_method_29_code 74 = .ok (.iadd, 1) := by decide +kernel
theorem d_Model_readItem_75 : decode prog_14_method_29_code 75 = .ok (.putfield 137, 3) := by decide +kernel
theorem d_Model_readItem_78 : decode prog_14_method_29_code 78 = .ok (.aload_n 0, 1) := by decide +kernel
theorem d_Model_readItem_79 : decode prog_14_method_29_code 79 = .ok (.invokevirtual 186, 3) := by decide +kernel
theorem d_Model_readItem_82 : decode prog_14_method_29_code 82 = .ok (.ifCond .eq 9, 3) := by decide +kernel
theorem d_Model_readItem_85 : decode prog_14_method_29_code 85 = .ok (.aload_n 0, 1) := by decide +kernel
theorem d_Model_readItem_86 : decode prog_14_method_29_code 86 = .ok (.invokevirtual 152, 3) := by decide +kernel
theorem d_Model_readItem_89 : decode prog_14_method_29_code 89 = .ok (.pop, 1) := by decide +kernel
theorem d_Model_readItem_90 : decode prog_14_method_29_code 90 = .ok (.return_, 1) := by decide +kernel
theorem d_Model_readItem_91 : decode prog_14_method_29_code 91 = .ok (.iload 6, 2) := by decide +kernel
theorem d_Model_readItem_93 : decode prog_14_method_29_code 93 = .ok (.i2l, 1) := by decide +kernel
theorem d_Model_readItem_94 : decode prog_14_method_29_code 94 = .ok (.iload_n 3, 1) := by decide +kernel
theorem d_Model_readItem_95 : decode prog_14_method_29_code 95 = .ok (.i2l, 1) := by decide +kernel
theorem d_Model_readItem_96 : decode prog_14_method_29_code 96 = .ok (.iload 4, 2) := by decide +kernel
theorem d_Model_readItem_98 : decode prog_14_method_29_code 98 = .ok (.i2l, 1) := by decide +kernel
theorem d_Model_readItem_99 : decode prog_14_method_29_code 99 = .ok (.invokestatic 235, 3) := by decide +kernel
theorem d_Model_readItem_102 : decode prog_14_method_29_code 102 = .ok (.ifCond .ne 19, 3) := by decide +kernel
theorem d_Model_readItem_105 : decode prog_14_method_29_code 105 = .ok (.aload_n 0, 1) := by decide +kernel
theorem d_Model_readItem_106 : decode prog_14_method_29_code 106 = .ok (.dup, 1) := by decide +kernel
theorem d_Model_readItem_107 : decode prog_14_method_29_code 107 = .ok (.getfield 137, 3) := by decide +kernel
theorem d_Model_readItem_110 : decode prog_14_method_29_code 110 = .ok (.iconst 1, 1) := by decide +kernel
theorem d_Model_readItem_111 : decode prog_14_method_29_code 111 = .ok (.isub, 1) := by decide +kernel
theorem d_Model_readItem_112 : decode prog_14_method_29_code 112 = .ok (.putfield 137, 3) := by decide +kernel
theorem d_Model_readItem_115 : decode prog_14_method_29_code 115 = .ok (.aload_n 0, 1) := by decide +kernel
theorem d_Model_readItem_116 : decode prog_14_method_29_code 116 = .ok (.invokevirtual 152, 3) := by decide +kernel
theorem d_Model_readItem_119 : decode prog_14_method_29_code 119 = .ok (.pop, 1) := by decide +kernel
theorem d_Model_readItem_120 : decode prog_14_method_29_code 120 = .ok (.return_, 1) := by decide +kernel
theorem d_Model_readItem_121 : decode prog_14_method_29_code 121 = .ok (.aload_n 1, 1) := by decide +kernel
theorem d_Model_readItem_122 : decode prog_14_method_29_code 122 = .ok (.iload_n 2, 1) := by decide +kernel
theorem d_Model_readItem_123 : decode prog_14_method_29_code 123 = .ok (.iload 6, 2) := by decide +kernel
theorem d_Model_readItem_125 : decode prog_14_method_29_code 125 = .ok (.iastore, 1) := by decide +kernel
theorem d_Model_readItem_126 : decode prog_14_method_29_code 126 = .ok (.return_, 1) := by decide +kernel
def s_Model_readItem_78 (p0 : Nat) (p0n : Nat) (p1 : Int32) (p2 : Int32) (p3 : Int32) (y6 : Int32) (σ : LH) : Option (LH) :=
  xb2 (s_Model_isDigit σ) fun r19 σ20 =>
  if r19 = 0 then (
   xb2 (s_Model_isIn (Int32.toInt64 y6) (Int32.toInt64 p2) (Int32.toInt64 p3) σ20) fun r23 σ24 =>
   if r23 = 0 then (
    xl ((stI σ24 570 10 ((σ24.1 570 10) - 1)) : LH) fun σ26 =>
    xb2 (s_Model_fails σ26) fun r28 σ29 =>
    some σ29)
   else (
    if ib p1 p0n then (
    xl ((stI σ24 p0 (Int32.toNatClampNeg p1) y6) : LH) fun σ31 =>
    some σ31) else none))
  else (
   xb2 (s_Model_fails σ20) fun r33 σ34 =>
   some σ34)
theorem b_Model_readItem_78 {G : XG} {l : Launch} {p : Program} {e : Env} {R : Room} {s : State} {m : MethodId} {args : Array Value} {below : List Frame} {meth : Method} {c : Code} (C : XC G 570 598 p s m args c prog_14_method_29_code 7 R_Model) (hr : meth.sig.returnType = none) (hk : meth.locks = false) {d : Nat} (hd : 2 ≤ d + 1) (hR : xroom R (d + 1)) {p0 : Nat} {p0n : Nat} {p1 : Int32} {p2 : Int32} {p3 : Int32} (hp0 : xin 570 598 p0 (2, p0n, 0)) {σ' : LH} {y6 : Int32} {σ : LH} (h0 : s_Model_readItem_78 p0 p0n p1 p2 p3 y6 σ = some σ') : XJ G 570 598 p l e R s m args below meth c 7 (XQ G 570 598 below args s none σ') 0 0 78 [(0, .ref (G.2.2.1 + 570)), (1, .ref (G.2.2.1 + p0)), (2, .int p1), (3, .int p2), (4, .int p3), (6, .int y6)] [] σ := by
  replace h0 := (show _ = _ from h0)
  unfold s_Model_readItem_78 at h0
  refine x_aload_n C d_Model_readItem_78 0 rfl ?_
  obtain ⟨r19, σ20, k18, h0⟩ := xbind2 h0
  refine x_callVi C hR (c_Model_isDigit (d := d) (by omega) k18) cw_Model_186 k_570 rfl rfl rfl (Nat.le_of_ble_eq_true rfl) ⟨Nat.zero_le _, Nat.zero_le _⟩ d_Model_readItem_79 ?_
  refine x_if_eq C 91 d_Model_readItem_82 (by decide) (fun q21 => ?_) (fun q21 => ?_)
  · replace h0 := xit q21 h0
    refine x_iload C d_Model_readItem_91 5 rfl ?_
    refine x_i2l C d_Model_readItem_93 ?_
    refine x_iload_n C d_Model_readItem_94 3 rfl ?_
    refine x_i2l C d_Model_readItem_95 ?_
    refine x_iload C d_Model_readItem_96 4 rfl ?_
    refine x_i2l C d_Model_readItem_98 ?_
    obtain ⟨r23, σ24, k22, h0⟩ := xbind2 h0
    refine x_callSi C hR (c_Model_isIn (d := d) (by omega) k22) cw_Model_235 w_1695 rfl rfl (Nat.le_of_ble_eq_true rfl) ⟨Nat.zero_le _, Nat.zero_le _⟩ d_Model_readItem_99 ?_
    refine x_if_ne C 121 d_Model_readItem_102 (by decide) (fun q25 => ?_) (fun q25 => ?_)
    · replace h0 := xif q25 h0
      refine x_aload_n C d_Model_readItem_121 1 rfl ?_
      refine x_iload_n C d_Model_readItem_122 2 rfl ?_
      refine x_iload C d_Model_readItem_123 5 rfl ?_
      obtain ⟨g30, h0⟩ := xgo h0
      refine x_iast C hp0 (ib_in g30) d_Model_readItem_125 ?_
      obtain ⟨σ31, eσ31, h0⟩ := xlet h0
      refine x_sig C eσ31 ?_
      exact x_vret C hr hk h0 d_Model_readItem_126
    · replace h0 := xit q25 h0
      refine x_aload_n C d_Model_readItem_105 0 rfl ?_
      refine x_dup C d_Model_readItem_106 rfl ?_
      refine x_getI (y := 0) C fg_Model_137 k_570 rfl d_Model_readItem_107 ?_
      refine x_iconst (v := 1) C d_Model_readItem_110 (by decide) ?_
      refine x_isub C d_Model_readItem_111 ?_
      refine x_putI (y := 0) C fp_Model_137 k_570 rfl rfl rfl d_Model_readItem_112 ?_
      obtain ⟨σ26, eσ26, h0⟩ := xlet h0
      refine x_sig C eσ26 ?_
      refine x_aload_n C d_Model_readItem_115 0 rfl ?_
      obtain ⟨r28, σ29, k27, h0⟩ := xbind2 h0
      refine x_callVi C hR (c_Model_fails (d := d) (by omega) k27) cw_Model_152 k_570 rfl rfl rfl (Nat.le_of_ble_eq_true rfl) ⟨Nat.zero_le _, Nat.zero_le _⟩ d_Model_readItem_116 ?_
      refine x_pop C d_Model_readItem_119 rfl ?_
      exact x_vret C hr hk h0 d_Model_readItem_120
  · replace h0 := xif q21 h0
    refine x_aload_n C d_Model_readItem_85 0 rfl ?_
    obtain ⟨r33, σ34, k32, h0⟩ := xbind2 h0
    refine x_callVi C hR (c_Model_fails (d := d) (by omega) k32) cw_Model_152 k_570 rfl rfl rfl (Nat.le_of_ble_eq_true rfl) ⟨Nat.zero_le _, Nat.zero_le _⟩ d_Model_readItem_86 ?_
    refine x_pop C d_Model_readItem_89 rfl ?_
    exact x_vret C hr hk h0 d_Model_readItem_90
def s_Model_readItem (p0 : Nat) (p0n : Nat) (p1 : Int32) (p2 : Int32) (p3 : Int32) (σ : LH) : Option (LH) :=
  xl ((stI σ 570 10 ((σ.1 570 10) + 1)) : LH) fun σ1 =>
  xb2 (s_Model_look σ1) fun r3 σ4 =>
  xb2 (s_Model_isDigit σ4) fun r6 σ7 =>
  if r6 = 0 then (
   xb2 (s_Model_fails σ7) fun r10 σ11 =>
   some σ11)
  else (
   xl (((r3 - 48)) : Int32) fun x12 =>
   xl ((stI σ7 570 10 ((σ7.1 570 10) + 1)) : LH) fun σ13 =>
   xb2 (s_Model_isDigit σ13) fun r15 σ16 =>
   if r15 = 0 then (
    s_Model_readItem_78 p0 p0n p1 p2 p3 x12 σ16)
   else (
    xb2 (s_Model_here σ16) fun r36 σ37 =>
    xl (((((10 * x12) + r36) - 48)) : Int32) fun x38 =>
    xl ((stI σ37 570 10 ((σ37.1 570 10) + 1)) : LH) fun σ39 =>
    s_Model_readItem_78 p0 p0n p1 p2 p3 x38 σ39))
theorem c_Model_readItem {G : XG} {l : Launch} {d : Nat} (hd : 2 ≤ d) {p0 : Nat} {p0n : Nat} {p1 : Int32} {p2 : Int32} {p3 : Int32} (hp0 : xin 570 598 p0 (2, p0n, 0)) {σ σ' : LH} (h0 : s_Model_readItem p0 p0n p1 p2 p3 σ = some σ') : xM G 570 598 l y_Model_readItem prog_14_method_29_code 7 none d [.ref (G.2.2.1 + 570), .ref (G.2.2.1 + p0), .int p1, .int p2, .int p3] σ none σ' := by
  obtain ⟨d, rfl⟩ : ∃ q, d = q + 1 := ⟨d - 1, by omega⟩
  refine x_met R_Model rfl (by decide +kernel) (Nat.le_of_ble_eq_true rfl) fun p e s m below meth c C hr hk hR => ?_
  refine x_lv (lv' := [(0, .ref (G.2.2.1 + 570)), (1, .ref (G.2.2.1 + p0)), (2, .int p1), (3, .int p2), (4, .int p3)]) C [0, 1, 2, 3, 4] rfl ?_
  generalize xrm (d + 1) = R at hR ⊢
  unfold s_Model_readItem at h0
  refine x_aload_n C d_Model_readItem_0 0 rfl ?_
  refine x_dup C d_Model_readItem_1 rfl ?_
  refine x_getI (y := 0) C fg_Model_137 k_570 rfl d_Model_readItem_2 ?_
  refine x_iconst (v := 1) C d_Model_readItem_5 (by decide) ?_
  refine x_iadd C d_Model_readItem_6 ?_
  refine x_putI (y := 0) C fp_Model_137 k_570 rfl rfl rfl d_Model_readItem_7 ?_
  obtain ⟨σ1, eσ1, h0⟩ := xlet h0
  refine x_sig C eσ1 ?_
  refine x_aload_n C d_Model_readItem_10 0 rfl ?_
  obtain ⟨r3, σ4, k2, h0⟩ := xbind2 h0
  refine x_callVi C hR (c_Model_look (d := d) (by omega) k2) cw_Model_156 k_570 rfl rfl rfl (Nat.le_of_ble_eq_true rfl) ⟨Nat.zero_le _, Nat.zero_le _⟩ d_Model_readItem_11 ?_
  refine x_istore (lv' := [(5, .int r3), (0, .ref (G.2.2.1 + 570)), (1, .ref (G.2.2.1 + p0)), (2, .int p1), (3, .int p2), (4, .int p3)]) C d_Model_readItem_14 (by decide) rfl ?_
  refine x_aload_n C d_Model_readItem_16 1 rfl ?_
  obtain ⟨r6, σ7, k5, h0⟩ := xbind2 h0
  refine x_callVi C hR (c_Model_isDigit (d := d) (by omega) k5) cw_Model_186 k_570 rfl rfl rfl (Nat.le_of_ble_eq_true rfl) ⟨Nat.zero_le _, Nat.zero_le _⟩ d_Model_readItem_17 ?_
  refine x_if_ne C 29 d_Model_readItem_20 (by decide) (fun q8 => ?_) (fun q8 => ?_)
  · replace h0 := xif q8 h0
    refine x_iload C d_Model_readItem_29 0 rfl ?_
    refine x_bipush (v := 48) C d_Model_readItem_31 (by decide) ?_
    refine x_isub C d_Model_readItem_33 ?_
    obtain ⟨x12, ex12, h0⟩ := xlet h0
    refine x_name C ex12 ?_
    refine x_istore (lv' := [(6, .int x12), (5, .int r3), (0, .ref (G.2.2.1 + 570)), (1, .ref (G.2.2.1 + p0)), (2, .int p1), (3, .int p2), (4, .int p3)]) C d_Model_readItem_34 (by decide) rfl ?_
    refine x_aload_n C d_Model_readItem_36 2 rfl ?_
    refine x_dup C d_Model_readItem_37 rfl ?_
    refine x_getI (y := 0) C fg_Model_137 k_570 rfl d_Model_readItem_38 ?_
    refine x_iconst (v := 1) C d_Model_readItem_41 (by decide) ?_
    refine x_iadd C d_Model_readItem_42 ?_
    refine x_putI (y := 0) C fp_Model_137 k_570 rfl rfl rfl d_Model_readItem_43 ?_
    obtain ⟨σ13, eσ13, h0⟩ := xlet h0
    refine x_sig C eσ13 ?_
    refine x_aload_n C d_Model_readItem_46 2 rfl ?_
    obtain ⟨r15, σ16, k14, h0⟩ := xbind2 h0
    refine x_callVi C hR (c_Model_isDigit (d := d) (by omega) k14) cw_Model_186 k_570 rfl rfl rfl (Nat.le_of_ble_eq_true rfl) ⟨Nat.zero_le _, Nat.zero_le _⟩ d_Model_readItem_47 ?_
    refine x_if_eq C 78 d_Model_readItem_50 (by decide) (fun q17 => ?_) (fun q17 => ?_)
    · replace h0 := xit q17 h0
      exact x_lv C [2, 3, 4, 5, 6, 0] rfl (b_Model_readItem_78 C hr hk hd hR hp0 h0)
    · replace h0 := xif q17 h0
      refine x_bipush (v := 10) C d_Model_readItem_53 (by decide) ?_
      refine x_iload C d_Model_readItem_55 0 rfl ?_
      refine x_imul C d_Model_readItem_57 ?_
      refine x_aload_n C d_Model_readItem_58 2 rfl ?_
      obtain ⟨r36, σ37, k35, h0⟩ := xbind2 h0
      refine x_callVi C hR (c_Model_here (d := d) (by omega) k35) cw_Model_232 k_570 rfl rfl rfl (Nat.le_of_ble_eq_true rfl) ⟨Nat.zero_le _, Nat.zero_le _⟩ d_Model_readItem_59 ?_
      refine x_iadd C d_Model_readItem_62 ?_
      refine x_bipush (v := 48) C d_Model_readItem_63 (by decide) ?_
      refine x_isub C d_Model_readItem_65 ?_
      obtain ⟨x38, ex38, h0⟩ := xlet h0
      refine x_name C ex38 ?_
      refine x_istore (lv' := [(6, .int x38), (5, .int r3), (0, .ref (G.2.2.1 + 570)), (1, .ref (G.2.2.1 + p0)), (2, .int p1), (3, .int p2), (4, .int p3)]) C d_Model_readItem_66 (by decide) rfl ?_
      refine x_aload_n C d_Model_readItem_68 2 rfl ?_
      refine x_dup C d_Model_readItem_69 rfl ?_
      refine x_getI (y := 0) C fg_Model_137 k_570 rfl d_Model_readItem_70 ?_
      refine x_iconst (v := 1) C d_Model_readItem_73 (by decide) ?_
      refine x_iadd C d_Model_readItem_74 ?_
      refine x_putI (y := 0) C fp_Model_137 k_570 rfl rfl rfl d_Model_readItem_75 ?_
      obtain ⟨σ39, eσ39, h0⟩ := xlet h0
      refine x_sig C eσ39 ?_
      exact x_lv C [2, 3, 4, 5, 6, 0] rfl (b_Model_readItem_78 C hr hk hd hR hp0 h0)
  · replace h0 := xit q8 h0
    refine x_aload_n C d_Model_readItem_23 1 rfl ?_
    obtain ⟨r10, σ11, k9, h0⟩ := xbind2 h0
    refine x_callVi C hR (c_Model_fails (d := d) (by omega) k9) cw_Model_152 k_570 rfl rfl rfl (Nat.le_of_ble_eq_true rfl) ⟨Nat.zero_le _, Nat.zero_le _⟩ d_Model_readItem_24 ?_
    refine x_pop C d_Model_readItem_27 rfl ?_
    exact x_vret C hr hk h0 d_Model_readItem_28
-- LostPlacesModel.mostOf(II)I
theorem d_Model_mostOf_0 : decode prog_14_method_30_code 0 = .ok (.iload_n 0, 1) := by decide +kernel
theorem d_Model_mostOf_1 : decode prog_14_method_30_code 1 = .ok (.bipush 115, 2) := by decide +kernel
theorem d_Model_mostOf_3 : decode prog_14_method_30_code 3 = .ok (.if_icmp .ne 16, 3) := by decide +kernel
theorem d_Model_mostOf_6 : decode prog_14_method_30_code 6 = .ok (.iload_n 1, 1) := by decide +kernel
theorem d_Model_mostOf_7 : decode prog_14_method_30_code 7 = .ok (.iconst 2, 1) := by decide +kernel
theorem d_Model_mostOf_8 : decode prog_14_method_30_code 8 = .ok (.if_icmp .ne 8, 3) := by decide +kernel
theorem d_Model_mostOf_11 : decode prog_14_method_30_code 11 = .ok (.bipush 19, 2) := by decide +kernel
theorem d_Model_mostOf_13 : decode prog_14_method_30_code 13 = .ok (.goto 5, 3) := by decide +kernel
theorem d_Model_mostOf_16 : decode prog_14_method_30_code 16 = .ok (.bipush 99, 2) := by decide +kernel
theorem d_Model_mostOf_18 : decode prog_14_method_30_code 18 = .ok (.ireturn, 1) := by decide +kernel
theorem d_Model_mostOf_19 : decode prog_14_method_30_code 19 = .ok (.iload_n 0, 1) := by decide +kernel
theorem d_Model_mostOf_20 : decode prog_14_method_30_code 20 = .ok (.bipush 112, 2) := by decide +kernel
theorem d_Model_mostOf_22 : decode prog_14_method_30_code 22 = .ok (.if_icmp .ne 25, 3) := by decide +kernel
theorem d_Model_mostOf_25 : decode prog_14_method_30_code 25 = .ok (.iload_n 1, 1) := by decide +kernel
theorem d_Model_mostOf_26 : decode prog_14_method_30_code 26 = .ok (.ifCond .ne 8, 3) := by decide +kernel
theorem d_Model_mostOf_29 : decode prog_14_method_30_code 29 = .ok (.bipush 8, 2) := by decide +kernel
theorem d_Model_mostOf_31 : decode prog_14_method_30_code 31 = .ok (.goto 15, 3) := by decide +kernel
theorem d_Model_mostOf_34 : decode prog_14_method_30_code 34 = .ok (.iload_n 1, 1) := by decide +kernel
theorem d_Model_mostOf_35 : decode prog_14_method_30_code 35 = .ok (.iconst 2, 1) := by decide +kernel
theorem d_Model_mostOf_36 : decode prog_14_method_30_code 36 = .ok (.if_icmp .ne 8, 3) := by decide +kernel
theorem d_Model_mostOf_39 : decode prog_14_method_30_code 39 = .ok (.bipush 99, 2) := by decide +kernel
theorem d_Model_mostOf_41 : decode prog_14_method_30_code 41 = .ok (.goto 5, 3) := by decide +kernel
theorem d_Model_mostOf_44 : decode prog_14_method_30_code 44 = .ok (.bipush 9, 2) := by decide +kernel
theorem d_Model_mostOf_46 : decode prog_14_method_30_code 46 = .ok (.ireturn, 1) := by decide +kernel
theorem d_Model_mostOf_47 : decode prog_14_method_30_code 47 = .ok (.iload_n 0, 1) := by decide +kernel
theorem d_Model_mostOf_48 : decode prog_14_method_30_code 48 = .ok (.bipush 103, 2) := by decide +kernel
theorem d_Model_mostOf_50 : decode prog_14_method_30_code 50 = .ok (.if_icmp .ne 25, 3) := by decide +kernel
theorem d_Model_mostOf_53 : decode prog_14_method_30_code 53 = .ok (.iload_n 1, 1) := by decide +kernel
theorem d_Model_mostOf_54 : decode prog_14_method_30_code 54 = .ok (.ifCond .ne 8, 3) := by decide +kernel
theorem d_Model_mostOf_57 : decode prog_14_method_30_code 57 = .ok (.bipush 7, 2) := by decide +kernel
theorem d_Model_mostOf_59 : decode prog_14_method_30_code 59 = .ok (.goto 15, 3) := by decide +kernel
theorem d_Model_mostOf_62 : decode prog_14_method_30_code 62 = .ok (.iload_n 1, 1) := by decide +kernel
theorem d_Model_mostOf_63 : decode prog_14_method_30_code 63 = .ok (.iconst 1, 1) := by decide +kernel
theorem d_Model_mostOf_64 : decode prog_14_method_30_code 64 = .ok (.if_icmp .ne 8, 3) := by decide +kernel
theorem d_Model_mostOf_67 : decode prog_14_method_30_code 67 = .ok (.bipush 99, 2) := by decide +kernel
theorem d_Model_mostOf_69 : decode prog_14_method_30_code 69 = .ok (.goto 5, 3) := by decide +kernel
theorem d_Model_mostOf_72 : decode prog_14_method_30_code 72 = .ok (.bipush 9, 2) := by decide +kernel
theorem d_Model_mostOf_74 : decode prog_14_method_30_code 74 = .ok (.ireturn, 1) := by decide +kernel
theorem d_Model_mostOf_75 : decode prog_14_method_30_code 75 = .ok (.bipush 99, 2) := by decide +kernel
theorem d_Model_mostOf_77 : decode prog_14_method_30_code 77 = .ok (.ireturn, 1) := by decide +kernel
def s_Model_mostOf_18 (p0 : Int32) (p1 : Int32) (z0 : Int32) (σ : LH) : Option (Int32 × LH) :=
  some (z0, σ)
theorem b_Model_mostOf_18 {G : XG} {l : Launch} {p : Program} {e : Env} {R : Room} {s : State} {m : MethodId} {args : Array Value} {below : List Frame} {meth : Method} {c : Code} (C : XC G 570 598 p s m args c prog_14_method_30_code 2 R_Model) (hr : meth.sig.returnType = (some .int)) (hk : meth.locks = false) {d : Nat} (hd : 1 ≤ d + 1) (hR : xroom R (d + 1)) {p0 : Int32} {p1 : Int32} {σ' : LH} {r : Int32} {z0 : Int32} {σ : LH} (h0 : s_Model_mostOf_18 p0 p1 z0 σ = some (r, σ')) : XJ G 570 598 p l e R s m args below meth c 2 (XQ G 570 598 below args s (some (.int r)) σ') 0 0 18 [] [.int z0] σ := by
  replace h0 := (show _ = _ from h0)
  unfold s_Model_mostOf_18 at h0
  exact x_iret C hr hk h0 d_Model_mostOf_18
def s_Model_mostOf_46 (p0 : Int32) (p1 : Int32) (z0 : Int32) (σ : LH) : Option (Int32 × LH) :=
  some (z0, σ)
theorem b_Model_mostOf_46 {G : XG} {l : Launch} {p : Program} {e : Env} {R : Room} {s : State} {m : MethodId} {args : Array Value} {below : List Frame} {meth : Method} {c : Code} (C : XC G 570 598 p s m args c prog_14_method_30_code 2 R_Model) (hr : meth.sig.returnType = (some .int)) (hk : meth.locks = false) {d : Nat} (hd : 1 ≤ d + 1) (hR : xroom R (d + 1)) {p0 : Int32} {p1 : Int32} {σ' : LH} {r : Int32} {z0 : Int32} {σ : LH} (h0 : s_Model_mostOf_46 p0 p1 z0 σ = some (r, σ')) : XJ G 570 598 p l e R s m args below meth c 2 (XQ G 570 598 below args s (some (.int r)) σ') 0 0 46 [] [.int z0] σ := by
  replace h0 := (show _ = _ from h0)
  unfold s_Model_mostOf_46 at h0
  exact x_iret C hr hk h0 d_Model_mostOf_46
def s_Model_mostOf_74 (p0 : Int32) (p1 : Int32) (z0 : Int32) (σ : LH) : Option (Int32 × LH) :=
  some (z0, σ)
theorem b_Model_mostOf_74 {G : XG} {l : Launch} {p : Program} {e : Env} {R : Room} {s : State} {m : MethodId} {args : Array Value} {below : List Frame} {meth : Method} {c : Code} (C : XC G 570 598 p s m args c prog_14_method_30_code 2 R_Model) (hr : meth.sig.returnType = (some .int)) (hk : meth.locks = false) {d : Nat} (hd : 1 ≤ d + 1) (hR : xroom R (d + 1)) {p0 : Int32} {p1 : Int32} {σ' : LH} {r : Int32} {z0 : Int32} {σ : LH} (h0 : s_Model_mostOf_74 p0 p1 z0 σ = some (r, σ')) : XJ G 570 598 p l e R s m args below meth c 2 (XQ G 570 598 below args s (some (.int r)) σ') 0 0 74 [] [.int z0] σ := by
  replace h0 := (show _ = _ from h0)
  unfold s_Model_mostOf_74 at h0
  exact x_iret C hr hk h0 d_Model_mostOf_74
def s_Model_mostOf (p0 : Int32) (p1 : Int32) (σ : LH) : Option (Int32 × LH) :=
  if p0 = 115 then (
   if p1 = 2 then (
    s_Model_mostOf_18 p0 p1 19 σ)
   else (
    s_Model_mostOf_18 p0 p1 99 σ))
  else (
   if p0 = 112 then (
    if p1 = 0 then (
     s_Model_mostOf_46 p0 p1 8 σ)
    else (
     if p1 = 2 then (
      s_Model_mostOf_46 p0 p1 99 σ)
     else (
      s_Model_mostOf_46 p0 p1 9 σ)))
   else (
    if p0 = 103 then (
     if p1 = 0 then (
      s_Model_mostOf_74 p0 p1 7 σ)
     else (
      if p1 = 1 then (
       s_Model_mostOf_74 p0 p1 99 σ)
      else (
       s_Model_mostOf_74 p0 p1 9 σ)))
    else (
     some (99, σ))))
theorem c_Model_mostOf {G : XG} {l : Launch} {d : Nat} (hd : 1 ≤ d) {p0 : Int32} {p1 : Int32} {σ σ' : LH} {r : Int32} (h0 : s_Model_mostOf p0 p1 σ = some (r, σ')) : xM G 570 598 l y_Model_mostOf prog_14_method_30_code 2 (some .int) d [.int p0, .int p1] σ (some (.int r)) σ' := by
  obtain ⟨d, rfl⟩ : ∃ q, d = q + 1 := ⟨d - 1, by omega⟩
  refine x_met R_Model rfl (by decide +kernel) (Nat.le_of_ble_eq_true rfl) fun p e s m below meth c C hr hk hR => ?_
  refine x_lv (lv' := [(0, .int p0), (1, .int p1)]) C [0, 1] rfl ?_
  generalize xrm (d + 1) = R at hR ⊢
  unfold s_Model_mostOf at h0
  refine x_iload_n C d_Model_mostOf_0 0 rfl ?_
  refine x_bipush (v := 115) C d_Model_mostOf_1 (by decide) ?_
  refine x_icmp_ne C 19 d_Model_mostOf_3 (by decide) (fun q1 => ?_) (fun q1 => ?_)
  · replace h0 := xif q1 h0
    refine x_iload_n C d_Model_mostOf_19 0 rfl ?_
    refine x_bipush (v := 112) C d_Model_mostOf_20 (by decide) ?_
    refine x_icmp_ne C 47 d_Model_mostOf_22 (by decide) (fun q3 => ?_) (fun q3 => ?_)
    · replace h0 := xif q3 h0
      refine x_iload_n C d_Model_mostOf_47 0 rfl ?_
      refine x_bipush (v := 103) C d_Model_mostOf_48 (by decide) ?_
      refine x_icmp_ne C 75 d_Model_mostOf_50 (by decide) (fun q6 => ?_) (fun q6 => ?_)
      · replace h0 := xif q6 h0
        refine x_bipush (v := 99) C d_Model_mostOf_75 (by decide) ?_
        exact x_iret C hr hk h0 d_Model_mostOf_77
      · replace h0 := xit q6 h0
        refine x_iload_n C d_Model_mostOf_53 1 rfl ?_
        refine x_if_ne C 62 d_Model_mostOf_54 (by decide) (fun q7 => ?_) (fun q7 => ?_)
        · replace h0 := xif q7 h0
          refine x_iload_n C d_Model_mostOf_62 1 rfl ?_
          refine x_iconst (v := 1) C d_Model_mostOf_63 (by decide) ?_
          refine x_icmp_ne C 72 d_Model_mostOf_64 (by decide) (fun q8 => ?_) (fun q8 => ?_)
          · replace h0 := xif q8 h0
            refine x_bipush (v := 9) C d_Model_mostOf_72 (by decide) ?_
            exact x_lv C [] rfl (b_Model_mostOf_74 C hr hk hd hR h0)
          · replace h0 := xit q8 h0
            refine x_bipush (v := 99) C d_Model_mostOf_67 (by decide) ?_
            refine x_goto C 74 d_Model_mostOf_69 (by decide) ?_
            exact x_lv C [] rfl (b_Model_mostOf_74 C hr hk hd hR h0)
        · replace h0 := xit q7 h0
          refine x_bipush (v := 7) C d_Model_mostOf_57 (by decide) ?_
          refine x_goto C 74 d_Model_mostOf_59 (by decide) ?_
          exact x_lv C [] rfl (b_Model_mostOf_74 C hr hk hd hR h0)
    · replace h0 := xit q3 h0
      refine x_iload_n C d_Model_mostOf_25 1 rfl ?_
      refine x_if_ne C 34 d_Model_mostOf_26 (by decide) (fun q4 => ?_) (fun q4 => ?_)
      · replace h0 := xif q4 h0
        refine x_iload_n C d_Model_mostOf_34 1 rfl ?_
        refine x_iconst (v := 2) C d_Model_mostOf_35 (by decide) ?_
        refine x_icmp_ne C 44 d_Model_mostOf_36 (by decide) (fun q5 => ?_) (fun q5 => ?_)
        · replace h0 := xif q5 h0
          refine x_bipush (v := 9) C d_Model_mostOf_44 (by decide) ?_
          exact x_lv C [] rfl (b_Model_mostOf_46 C hr hk hd hR h0)
        · replace h0 := xit q5 h0
          refine x_bipush (v := 99) C d_Model_mostOf_39 (by decide) ?_
          refine x_goto C 46 d_Model_mostOf_41 (by decide) ?_
          exact x_lv C [] rfl (b_Model_mostOf_46 C hr hk hd hR h0)
      · replace h0 := xit q4 h0
        refine x_bipush (v := 8) C d_Model_mostOf_29 (by decide) ?_
        refine x_goto C 46 d_Model_mostOf_31 (by decide) ?_
        exact x_lv C [] rfl (b_Model_mostOf_46 C hr hk hd hR h0)
  · replace h0 := xit q1 h0
    refine x_iload_n C d_Model_mostOf_6 1 rfl ?_
    refine x_iconst (v := 2) C d_Model_mostOf_7 (by decide) ?_
    refine x_icmp_ne C 16 d_Model_mostOf_8 (by decide) (fun q2 => ?_) (fun q2 => ?_)
    · replace h0 := xif q2 h0
      refine x_bipush (v := 99) C d_Model_mostOf_16 (by decide) ?_
      exact x_lv C [] rfl (b_Model_mostOf_18 C hr hk hd hR h0)
    · replace h0 := xit q2 h0
      refine x_bipush (v := 19) C d_Model_mostOf_11 (by decide) ?_
      refine x_goto C 18 d_Model_mostOf_13 (by decide) ?_
      exact x_lv C [] rfl (b_Model_mostOf_18 C hr hk hd hR h0)
-- LostPlacesModel.leastOf(II)I
theorem d_Model_leastOf_0 : decode prog_14_method_31_code 0 = .ok (.iload_n 0, 1) := by decide +kernel
theorem d_Model_leastOf_1 : decode prog_14_method_31_code 1 = .ok (.bipush 112, 2) := by decide +kernel
theorem d_Model_leastOf_3 : decode prog_14_method_31_code 3 = .ok (.if_icmp .ne 8, 3) := by decide +kernel
theorem d_Model_leastOf_6 : decode prog_14_method_31_code 6 = .ok (.iload_n 1, 1) := by decide +kernel
theorem d_Model_leastOf_7 : decode prog_14_method_31_code 7 = .ok (.iconst 2, 1) := by decide +kernel
theorem d_Model_leastOf_8 : decode prog_14_method_31_code 8 = .ok (.if_icmp .eq 25, 3) := by decide +kernel
theorem d_Model_leastOf_11 : decode prog_14_method_31_code 11 = .ok (.iload_n 0, 1) := by decide +kernel
theorem d_Model_leastOf_12 : decode prog_14_method_31_code 12 = .ok (.bipush 103, 2) := by decide +kernel
theorem d_Model_leastOf_14 : decode prog_14_method_31_code 14 = .ok (.if_icmp .ne 8, 3) := by decide +kernel
theorem d_Model_leastOf_17 : decode prog_14_method_31_code 17 = .ok (.iload_n 1, 1) := by decide +kernel
theorem d_Model_leastOf_18 : decode prog_14_method_31_code 18 = .ok (.iconst 2, 1) := by decide +kernel
theorem d_Model_leastOf_19 : decode prog_14_method_31_code 19 = .ok (.if_icmp .eq 14, 3) := by decide +kernel
theorem d_Model_leastOf_22 : decode prog_14_method_31_code 22 = .ok (.iload_n 0, 1) := by decide +kernel
theorem d_Model_leastOf_23 : decode prog_14_method_31_code 23 = .ok (.bipush 101, 2) := by decide +kernel
theorem d_Model_leastOf_25 : decode prog_14_method_31_code 25 = .ok (.if_icmp .ne 12, 3) := by decide +kernel
theorem d_Model_leastOf_28 : decode prog_14_method_31_code 28 = .ok (.iload_n 1, 1) := by decide +kernel
theorem d_Model_leastOf_29 : decode prog_14_method_31_code 29 = .ok (.iconst 1, 1) := by decide +kernel
theorem d_Model_leastOf_30 : decode prog_14_method_31_code 30 = .ok (.if_icmp .ne 7, 3) := by decide +kernel
theorem d_Model_leastOf_33 : decode prog_14_method_31_code 33 = .ok (.iconst 1, 1) := by decide +kernel
theorem d_Model_leastOf_34 : decode prog_14_method_31_code 34 = .ok (.goto 4, 3) := by decide +kernel
theorem d_Model_leastOf_37 : decode prog_14_method_31_code 37 = .ok (.iconst 0, 1) := by decide +kernel
theorem d_Model_leastOf_38 : decode prog_14_method_31_code 38 = .ok (.ireturn, 1) := by decide +kernel
def s_Model_leastOf_38 (p0 : Int32) (p1 : Int32) (z0 : Int32) (σ : LH) : Option (Int32 × LH) :=
  some (z0, σ)
theorem b_Model_leastOf_38 {G : XG} {l : Launch} {p : Program} {e : Env} {R : Room} {s : State} {m : MethodId} {args : Array Value} {below : List Frame} {meth : Method} {c : Code} (C : XC G 570 598 p s m args c prog_14_method_31_code 2 R_Model) (hr : meth.sig.returnType = (some .int)) (hk : meth.locks = false) {d : Nat} (hd : 1 ≤ d + 1) (hR : xroom R (d + 1)) {p0 : Int32} {p1 : Int32} {σ' : LH} {r : Int32} {z0 : Int32} {σ : LH} (h0 : s_Model_leastOf_38 p0 p1 z0 σ = some (r, σ')) : XJ G 570 598 p l e R s m args below meth c 2 (XQ G 570 598 below args s (some (.int r)) σ') 0 0 38 [] [.int z0] σ := by
  replace h0 := (show _ = _ from h0)
  unfold s_Model_leastOf_38 at h0
  exact x_iret C hr hk h0 d_Model_leastOf_38
def s_Model_leastOf_33 (p0 : Int32) (p1 : Int32) (σ : LH) : Option (Int32 × LH) :=
  s_Model_leastOf_38 p0 p1 1 σ
theorem b_Model_leastOf_33 {G : XG} {l : Launch} {p : Program} {e : Env} {R : Room} {s : State} {m : MethodId} {args : Array Value} {below : List Frame} {meth : Method} {c : Code} (C : XC G 570 598 p s m args c prog_14_method_31_code 2 R_Model) (hr : meth.sig.returnType = (some .int)) (hk : meth.locks = false) {d : Nat} (hd : 1 ≤ d + 1) (hR : xroom R (d + 1)) {p0 : Int32} {p1 : Int32} {σ' : LH} {r : Int32} {σ : LH} (h0 : s_Model_leastOf_33 p0 p1 σ = some (r, σ')) : XJ G 570 598 p l e R s m args below meth c 2 (XQ G 570 598 below args s (some (.int r)) σ') 0 0 33 [] [] σ := by
  replace h0 := (show _ = _ from h0)
  unfold s_Model_leastOf_33 at h0
  refine x_iconst (v := 1) C d_Model_leastOf_33 (by decide) ?_
  refine x_goto C 38 d_Model_leastOf_34 (by decide) ?_
  exact x_lv C [] rfl (b_Model_leastOf_38 C hr hk hd hR h0)
def s_Model_leastOf_37 (p0 : Int32) (p1 : Int32) (σ : LH) : Option (Int32 × LH) :=
  s_Model_leastOf_38 p0 p1 0 σ
theorem b_Model_leastOf_37 {G : XG} {l : Launch} {p : Program} {e : Env} {R : Room} {s : State} {m : MethodId} {args : Array Value} {below : List Frame} {meth : Method} {c : Code} (C : XC G 570 598 p s m args c prog_14_method_31_code 2 R_Model) (hr : meth.sig.returnType = (some .int)) (hk : meth.locks = false) {d : Nat} (hd : 1 ≤ d + 1) (hR : xroom R (d + 1)) {p0 : Int32} {p1 : Int32} {σ' : LH} {r : Int32} {σ : LH} (h0 : s_Model_leastOf_37 p0 p1 σ = some (r, σ')) : XJ G 570 598 p l e R s m args below meth c 2 (XQ G 570 598 below args s (some (.int r)) σ') 0 0 37 [] [] σ := by
  replace h0 := (show _ = _ from h0)
  unfold s_Model_leastOf_37 at h0
  refine x_iconst (v := 0) C d_Model_leastOf_37 (by decide) ?_
  exact x_lv C [] rfl (b_Model_leastOf_38 C hr hk hd hR h0)
def s_Model_leastOf_22 (p0 : Int32) (p1 : Int32) (σ : LH) : Option (Int32 × LH) :=
  if p0 = 101 then (
   if p1 = 1 then (
    s_Model_leastOf_33 p0 p1 σ)
   else (
    s_Model_leastOf_37 p0 p1 σ))
  else (
   s_Model_leastOf_37 p0 p1 σ)
theorem b_Model_leastOf_22 {G : XG} {l : Launch} {p : Program} {e : Env} {R : Room} {s : State} {m : MethodId} {args : Array Value} {below : List Frame} {meth : Method} {c : Code} (C : XC G 570 598 p s m args c prog_14_method_31_code 2 R_Model) (hr : meth.sig.returnType = (some .int)) (hk : meth.locks = false) {d : Nat} (hd : 1 ≤ d + 1) (hR : xroom R (d + 1)) {p0 : Int32} {p1 : Int32} {σ' : LH} {r : Int32} {σ : LH} (h0 : s_Model_leastOf_22 p0 p1 σ = some (r, σ')) : XJ G 570 598 p l e R s m args below meth c 2 (XQ G 570 598 below args s (some (.int r)) σ') 0 0 22 [(0, .int p0), (1, .int p1)] [] σ := by
  replace h0 := (show _ = _ from h0)
  unfold s_Model_leastOf_22 at h0
  refine x_iload_n C d_Model_leastOf_22 0 rfl ?_
  refine x_bipush (v := 101) C d_Model_leastOf_23 (by decide) ?_
  refine x_icmp_ne C 37 d_Model_leastOf_25 (by decide) (fun q5 => ?_) (fun q5 => ?_)
  · replace h0 := xif q5 h0
    exact x_lv C [] rfl (b_Model_leastOf_37 C hr hk hd hR h0)
  · replace h0 := xit q5 h0
    refine x_iload_n C d_Model_leastOf_28 1 rfl ?_
    refine x_iconst (v := 1) C d_Model_leastOf_29 (by decide) ?_
    refine x_icmp_ne C 37 d_Model_leastOf_30 (by decide) (fun q6 => ?_) (fun q6 => ?_)
    · replace h0 := xif q6 h0
      exact x_lv C [] rfl (b_Model_leastOf_37 C hr hk hd hR h0)
    · replace h0 := xit q6 h0
      exact x_lv C [] rfl (b_Model_leastOf_33 C hr hk hd hR h0)
def s_Model_leastOf_11 (p0 : Int32) (p1 : Int32) (σ : LH) : Option (Int32 × LH) :=
  if p0 = 103 then (
   if p1 = 2 then (
    s_Model_leastOf_33 p0 p1 σ)
   else (
    s_Model_leastOf_22 p0 p1 σ))
  else (
   s_Model_leastOf_22 p0 p1 σ)
theorem b_Model_leastOf_11 {G : XG} {l : Launch} {p : Program} {e : Env} {R : Room} {s : State} {m : MethodId} {args : Array Value} {below : List Frame} {meth : Method} {c : Code} (C : XC G 570 598 p s m args c prog_14_method_31_code 2 R_Model) (hr : meth.sig.returnType = (some .int)) (hk : meth.locks = false) {d : Nat} (hd : 1 ≤ d + 1) (hR : xroom R (d + 1)) {p0 : Int32} {p1 : Int32} {σ' : LH} {r : Int32} {σ : LH} (h0 : s_Model_leastOf_11 p0 p1 σ = some (r, σ')) : XJ G 570 598 p l e R s m args below meth c 2 (XQ G 570 598 below args s (some (.int r)) σ') 0 0 11 [(0, .int p0), (1, .int p1)] [] σ := by
  replace h0 := (show _ = _ from h0)
  unfold s_Model_leastOf_11 at h0
  refine x_iload_n C d_Model_leastOf_11 0 rfl ?_
  refine x_bipush (v := 103) C d_Model_leastOf_12 (by decide) ?_
  refine x_icmp_ne C 22 d_Model_leastOf_14 (by decide) (fun q3 => ?_) (fun q3 => ?_)
  · replace h0 := xif q3 h0
    exact x_lv C [0, 1] rfl (b_Model_leastOf_22 C hr hk hd hR h0)
  · replace h0 := xit q3 h0
    refine x_iload_n C d_Model_leastOf_17 1 rfl ?_
    refine x_iconst (v := 2) C d_Model_leastOf_18 (by decide) ?_
    refine x_icmp_eq C 33 d_Model_leastOf_19 (by decide) (fun q4 => ?_) (fun q4 => ?_)
    · replace h0 := xit q4 h0
      exact x_lv C [] rfl (b_Model_leastOf_33 C hr hk hd hR h0)
    · replace h0 := xif q4 h0
      exact x_lv C [0, 1] rfl (b_Model_leastOf_22 C hr hk hd hR h0)
def s_Model_leastOf (p0 : Int32) (p1 : Int32) (σ : LH) : Option (Int32 × LH) :=
  if p0 = 112 then (
   if p1 = 2 then (
    s_Model_leastOf_33 p0 p1 σ)
   else (
    s_Model_leastOf_11 p0 p1 σ))
  else (
   s_Model_leastOf_11 p0 p1 σ)
theorem c_Model_leastOf {G : XG} {l : Launch} {d : Nat} (hd : 1 ≤ d) {p0 : Int32} {p1 : Int32} {σ σ' : LH} {r : Int32} (h0 : s_Model_leastOf p0 p1 σ = some (r, σ')) : xM G 570 598 l y_Model_leastOf prog_14_method_31_code 2 (some .int) d [.int p0, .int p1] σ (some (.int r)) σ' := by
  obtain ⟨d, rfl⟩ : ∃ q, d = q + 1 := ⟨d - 1, by omega⟩
  refine x_met R_Model rfl (by decide +kernel) (Nat.le_of_ble_eq_true rfl) fun p e s m below meth c C hr hk hR => ?_
  refine x_lv (lv' := [(0, .int p0), (1, .int p1)]) C [0, 1] rfl ?_
  generalize xrm (d + 1) = R at hR ⊢
  unfold s_Model_leastOf at h0
  refine x_iload_n C d_Model_leastOf_0 0 rfl ?_
  refine x_bipush (v := 112) C d_Model_leastOf_1 (by decide) ?_
  refine x_icmp_ne C 11 d_Model_leastOf_3 (by decide) (fun q1 => ?_) (fun q1 => ?_)
  · replace h0 := xif q1 h0
    exact x_lv C [0, 1] rfl (b_Model_leastOf_11 C hr hk hd hR h0)
  · replace h0 := xit q1 h0
    refine x_iload_n C d_Model_leastOf_6 1 rfl ?_
    refine x_iconst (v := 2) C d_Model_leastOf_7 (by decide) ?_
    refine x_icmp_eq C 33 d_Model_leastOf_8 (by decide) (fun q2 => ?_) (fun q2 => ?_)
    · replace h0 := xit q2 h0
      exact x_lv C [] rfl (b_Model_leastOf_33 C hr hk hd hR h0)
    · replace h0 := xif q2 h0
      exact x_lv C [0, 1] rfl (b_Model_leastOf_11 C hr hk hd hR h0)
-- LostPlacesModel.usual(II)I
theorem d_Model_usual_0 : decode prog_14_method_32_code 0 = .ok (.iload_n 0, 1) := by decide +kernel
theorem d_Model_usual_1 : decode prog_14_method_32_code 1 = .ok (.bipush 115, 2) := by decide +kernel
theorem d_Model_usual_3 : decode prog_14_method_32_code 3 = .ok (.if_icmp .ne 14, 3) := by decide +kernel
theorem d_Model_usual_6 : decode prog_14_method_32_code 6 = .ok (.iload_n 1, 1) := by decide +kernel
theorem d_Model_usual_7 : decode prog_14_method_32_code 7 = .ok (.ifCond .ne 8, 3) := by decide +kernel
theorem d_Model_usual_10 : decode prog_14_method_32_code 10 = .ok (.bipush 10, 2) := by decide +kernel
theorem d_Model_usual_12 : decode prog_14_method_32_code 12 = .ok (.goto 4, 3) := by decide +kernel
theorem d_Model_usual_15 : decode prog_14_method_32_code 15 = .ok (.iconst 0, 1) := by decide +kernel
theorem d_Model_usual_16 : decode prog_14_method_32_code 16 = .ok (.ireturn, 1) := by decide +kernel
theorem d_Model_usual_17 : decode prog_14_method_32_code 17 = .ok (.iload_n 0, 1) := by decide +kernel
theorem d_Model_usual_18 : decode prog_14_method_32_code 18 = .ok (.bipush 112, 2) := by decide +kernel
theorem d_Model_usual_20 : decode prog_14_method_32_code 20 = .ok (.if_icmp .ne 32, 3) := by decide +kernel
theorem d_Model_usual_23 : decode prog_14_method_32_code 23 = .ok (.iload_n 1, 1) := by decide +kernel
theorem d_Model_usual_24 : decode prog_14_method_32_code 24 = .ok (.ifCond .ne 8, 3) := by decide +kernel
theorem d_Model_usual_27 : decode prog_14_method_32_code 27 = .ok (.bipush 8, 2) := by decide +kernel
theorem d_Model_usual_29 : decode prog_14_method_32_code 29 = .ok (.goto 22, 3) := by decide +kernel
theorem d_Model_usual_32 : decode prog_14_method_32_code 32 = .ok (.iload_n 1, 1) := by decide +kernel
theorem d_Model_usual_33 : decode prog_14_method_32_code 33 = .ok (.iconst 1, 1) := by decide +kernel
theorem d_Model_usual_34 : decode prog_14_method_32_code 34 = .ok (.if_icmp .ne 7, 3) := by decide +kernel
theorem d_Model_usual_37 : decode prog_14_method_32_code 37 = .ok (.iconst 5, 1) := by decide +kernel
theorem d_Model_usual_38 : decode prog_14_method_32_code 38 = .ok (.goto 13, 3) := by decide +kernel
theorem d_Model_usual_41 : decode prog_14_method_32_code 41 = .ok (.iload_n 1, 1) := by decide +kernel
theorem d_Model_usual_42 : decode prog_14_method_32_code 42 = .ok (.iconst 2, 1) := by decide +kernel
theorem d_Model_usual_43 : decode prog_14_method_32_code 43 = .ok (.if_icmp .ne 7, 3) := by decide +kernel
theorem d_Model_usual_46 : decode prog_14_method_32_code 46 = .ok (.iconst 1, 1) := by decide +kernel
theorem d_Model_usual_47 : decode prog_14_method_32_code 47 = .ok (.goto 4, 3) := by decide +kernel
theorem d_Model_usual_50 : decode prog_14_method_32_code 50 = .ok (.iconst 0, 1) := by decide +kernel
theorem d_Model_usual_51 : decode prog_14_method_32_code 51 = .ok (.ireturn, 1) := by decide +kernel
theorem d_Model_usual_52 : decode prog_14_method_32_code 52 = .ok (.iload_n 0, 1) := by decide +kernel
theorem d_Model_usual_53 : decode prog_14_method_32_code 53 = .ok (.bipush 103, 2) := by decide +kernel
theorem d_Model_usual_55 : decode prog_14_method_32_code 55 = .ok (.if_icmp .ne 5, 3) := by decide +kernel
theorem d_Model_usual_58 : decode prog_14_method_32_code 58 = .ok (.iload_n 1, 1) := by decide +kernel
theorem d_Model_usual_59 : decode prog_14_method_32_code 59 = .ok (.ireturn, 1) := by decide +kernel
theorem d_Model_usual_60 : decode prog_14_method_32_code 60 = .ok (.iload_n 1, 1) := by decide +kernel
theorem d_Model_usual_61 : decode prog_14_method_32_code 61 = .ok (.ifCond .ne 8, 3) := by decide +kernel
theorem d_Model_usual_64 : decode prog_14_method_32_code 64 = .ok (.bipush 20, 2) := by decide +kernel
theorem d_Model_usual_66 : decode prog_14_method_32_code 66 = .ok (.goto 5, 3) := by decide +kernel
theorem d_Model_usual_69 : decode prog_14_method_32_code 69 = .ok (.bipush 60, 2) := by decide +kernel
theorem d_Model_usual_71 : decode prog_14_method_32_code 71 = .ok (.ireturn, 1) := by decide +kernel
def s_Model_usual_16 (p0 : Int32) (p1 : Int32) (z0 : Int32) (σ : LH) : Option (Int32 × LH) :=
  some (z0, σ)
theorem b_Model_usual_16 {G : XG} {l : Launch} {p : Program} {e : Env} {R : Room} {s : State} {m : MethodId} {args : Array Value} {below : List Frame} {meth : Method} {c : Code} (C : XC G 570 598 p s m args c prog_14_method_32_code 2 R_Model) (hr : meth.sig.returnType = (some .int)) (hk : meth.locks = false) {d : Nat} (hd : 1 ≤ d + 1) (hR : xroom R (d + 1)) {p0 : Int32} {p1 : Int32} {σ' : LH} {r : Int32} {z0 : Int32} {σ : LH} (h0 : s_Model_usual_16 p0 p1 z0 σ = some (r, σ')) : XJ G 570 598 p l e R s m args below meth c 2 (XQ G 570 598 below args s (some (.int r)) σ') 0 0 16 [] [.int z0] σ := by
  replace h0 := (show _ = _ from h0)
  unfold s_Model_usual_16 at h0
  exact x_iret C hr hk h0 d_Model_usual_16
def s_Model_usual_51 (p0 : Int32) (p1 : Int32) (z0 : Int32) (σ : LH) : Option (Int32 × LH) :=
  some (z0, σ)
theorem b_Model_usual_51 {G : XG} {l : Launch} {p : Program} {e : Env} {R : Room} {s : State} {m : MethodId} {args : Array Value} {below : List Frame} {meth : Method} {c : Code} (C : XC G 570 598 p s m args c prog_14_method_32_code 2 R_Model) (hr : meth.sig.returnType = (some .int)) (hk : meth.locks = false) {d : Nat} (hd : 1 ≤ d + 1) (hR : xroom R (d + 1)) {p0 : Int32} {p1 : Int32} {σ' : LH} {r : Int32} {z0 : Int32} {σ : LH} (h0 : s_Model_usual_51 p0 p1 z0 σ = some (r, σ')) : XJ G 570 598 p l e R s m args below meth c 2 (XQ G 570 598 below args s (some (.int r)) σ') 0 0 51 [] [.int z0] σ := by
  replace h0 := (show _ = _ from h0)
  unfold s_Model_usual_51 at h0
  exact x_iret C hr hk h0 d_Model_usual_51
def s_Model_usual_71 (p0 : Int32) (p1 : Int32) (z0 : Int32) (σ : LH) : Option (Int32 × LH) :=
  some (z0, σ)
theorem b_Model_usual_71 {G : XG} {l : Launch} {p : Program} {e : Env} {R : Room} {s : State} {m : MethodId} {args : Array Value} {below : List Frame} {meth : Method} {c : Code} (C : XC G 570 598 p s m args c prog_14_method_32_code 2 R_Model) (hr : meth.sig.returnType = (some .int)) (hk : meth.locks = false) {d : Nat} (hd : 1 ≤ d + 1) (hR : xroom R (d + 1)) {p0 : Int32} {p1 : Int32} {σ' : LH} {r : Int32} {z0 : Int32} {σ : LH} (h0 : s_Model_usual_71 p0 p1 z0 σ = some (r, σ')) : XJ G 570 598 p l e R s m args below meth c 2 (XQ G 570 598 below args s (some (.int r)) σ') 0 0 71 [] [.int z0] σ := by
  replace h0 := (show _ = _ from h0)
  unfold s_Model_usual_71 at h0
  exact x_iret C hr hk h0 d_Model_usual_71
def s_Model_usual (p0 : Int32) (p1 : Int32) (σ : LH) : Option (Int32 × LH) :=
  if p0 = 115 then (
   if p1 = 0 then (
    s_Model_usual_16 p0 p1 10 σ)
   else (
    s_Model_usual_16 p0 p1 0 σ))
  else (
   if p0 = 112 then (
    if p1 = 0 then (
     s_Model_usual_51 p0 p1 8 σ)
    else (
     if p1 = 1 then (
      s_Model_usual_51 p0 p1 5 σ)
     else (
      if p1 = 2 then (
       s_Model_usual_51 p0 p1 1 σ)
      else (
       s_Model_usual_51 p0 p1 0 σ))))
   else (
    if p0 = 103 then (
     some (p1, σ))
    else (
     if p1 = 0 then (
      s_Model_usual_71 p0 p1 20 σ)
     else (
      s_Model_usual_71 p0 p1 60 σ))))
theorem c_Model_usual {G : XG} {l : Launch} {d : Nat} (hd : 1 ≤ d) {p0 : Int32} {p1 : Int32} {σ σ' : LH} {r : Int32} (h0 : s_Model_usual p0 p1 σ = some (r, σ')) : xM G 570 598 l y_Model_usual prog_14_method_32_code 2 (some .int) d [.int p0, .int p1] σ (some (.int r)) σ' := by
  obtain ⟨d, rfl⟩ : ∃ q, d = q + 1 := ⟨d - 1, by omega⟩
  refine x_met R_Model rfl (by decide +kernel) (Nat.le_of_ble_eq_true rfl) fun p e s m below meth c C hr hk hR => ?_
  refine x_lv (lv' := [(0, .int p0), (1, .int p1)]) C [0, 1] rfl ?_
  generalize xrm (d + 1) = R at hR ⊢
  unfold s_Model_usual at h0
  refine x_iload_n C d_Model_usual_0 0 rfl ?_
  refine x_bipush (v := 115) C d_Model_usual_1 (by decide) ?_
  refine x_icmp_ne C 17 d_Model_usual_3 (by decide) (fun q1 => ?_) (fun q1 => ?_)
  · replace h0 := xif q1 h0
    refine x_iload_n C d_Model_usual_17 0 rfl ?_
    refine x_bipush (v := 112) C d_Model_usual_18 (by decide) ?_
    refine x_icmp_ne C 52 d_Model_usual_20 (by decide) (fun q3 => ?_) (fun q3 => ?_)
    · replace h0 := xif q3 h0
      refine x_iload_n C d_Model_usual_52 0 rfl ?_
      refine x_bipush (v := 103) C d_Model_usual_53 (by decide) ?_
      refine x_icmp_ne C 60 d_Model_usual_55 (by decide) (fun q7 => ?_) (fun q7 => ?_)
      · replace h0 := xif q7 h0
        refine x_iload_n C d_Model_usual_60 1 rfl ?_
        refine x_if_ne C 69 d_Model_usual_61 (by decide) (fun q8 => ?_) (fun q8 => ?_)
        · replace h0 := xif q8 h0
          refine x_bipush (v := 60) C d_Model_usual_69 (by decide) ?_
          exact x_lv C [] rfl (b_Model_usual_71 C hr hk hd hR h0)
        · replace h0 := xit q8 h0
          refine x_bipush (v := 20) C d_Model_usual_64 (by decide) ?_
          refine x_goto C 71 d_Model_usual_66 (by decide) ?_
          exact x_lv C [] rfl (b_Model_usual_71 C hr hk hd hR h0)
      · replace h0 := xit q7 h0
        refine x_iload_n C d_Model_usual_58 1 rfl ?_
        exact x_iret C hr hk h0 d_Model_usual_59
    · replace h0 := xit q3 h0
      refine x_iload_n C d_Model_usual_23 1 rfl ?_
      refine x_if_ne C 32 d_Model_usual_24 (by decide) (fun q4 => ?_) (fun q4 => ?_)
      · replace h0 := xif q4 h0
        refine x_iload_n C d_Model_usual_32 1 rfl ?_
        refine x_iconst (v := 1) C d_Model_usual_33 (by decide) ?_
        refine x_icmp_ne C 41 d_Model_usual_34 (by decide) (fun q5 => ?_) (fun q5 => ?_)
        · replace h0 := xif q5 h0
          refine x_iload_n C d_Model_usual_41 1 rfl ?_
          refine x_iconst (v := 2) C d_Model_usual_42 (by decide) ?_
          refine x_icmp_ne C 50 d_Model_usual_43 (by decide) (fun q6 => ?_) (fun q6 => ?_)
          · replace h0 := xif q6 h0
            refine x_iconst (v := 0) C d_Model_usual_50 (by decide) ?_
            exact x_lv C [] rfl (b_Model_usual_51 C hr hk hd hR h0)
          · replace h0 := xit q6 h0
            refine x_iconst (v := 1) C d_Model_usual_46 (by decide) ?_
            refine x_goto C 51 d_Model_usual_47 (by decide) ?_
            exact x_lv C [] rfl (b_Model_usual_51 C hr hk hd hR h0)
        · replace h0 := xit q5 h0
          refine x_iconst (v := 5) C d_Model_usual_37 (by decide) ?_
          refine x_goto C 51 d_Model_usual_38 (by decide) ?_
          exact x_lv C [] rfl (b_Model_usual_51 C hr hk hd hR h0)
      · replace h0 := xit q4 h0
        refine x_bipush (v := 8) C d_Model_usual_27 (by decide) ?_
        refine x_goto C 51 d_Model_usual_29 (by decide) ?_
        exact x_lv C [] rfl (b_Model_usual_51 C hr hk hd hR h0)
  · replace h0 := xit q1 h0
    refine x_iload_n C d_Model_usual_6 1 rfl ?_
    refine x_if_ne C 15 d_Model_usual_7 (by decide) (fun q2 => ?_) (fun q2 => ?_)
    · replace h0 := xif q2 h0
      refine x_iconst (v := 0) C d_Model_usual_15 (by decide) ?_
      exact x_lv C [] rfl (b_Model_usual_16 C hr hk hd hR h0)
    · replace h0 := xit q2 h0
      refine x_bipush (v := 10) C d_Model_usual_10 (by decide) ?_
      refine x_goto C 16 d_Model_usual_12 (by decide) ?_
      exact x_lv C [] rfl (b_Model_usual_16 C hr hk hd hR h0)
-- LostPlacesModel.readItems(I[IILjava/lang/String;)V
theorem d_Model_readItems_0 : decode prog_14_method_33_code 0 = .ok (.iconst 0, 1) := by decide +kernel
theorem d_Model_readItems_1 : decode prog_14_method_33_code 1 = .ok (.istore 5, 2) := by decide +kernel
theorem d_Model_readItems_3 : decode prog_14_method_33_code 3 = .ok (.iload 5, 2) := by decide +kernel
theorem d_Model_readItems_5 : decode prog_14_method_33_code 5 = .ok (.aload 4, 2) := by decide +kernel
theorem d_Model_readItems_7 : decode prog_14_method_33_code 7 = .ok (.invokevirtual 117, 3) := by decide +kernel
theorem d_Model_readItems_10 : decode prog_14_method_33_code 10 = .ok (.if_icmp .ge 21, 3) := by decide +kernel
theorem d_Model_readItems_13 : decode prog_14_method_33_code 13 = .ok (.aload_n 2, 1) := by decide +kernel
theorem d_Model_readItems_14 : decode prog_14_method_33_code 14 = .ok (.iload_n 3, 1) := by decide +kernel
theorem d_Model_readItems_15 : decode prog_14_method_33_code 15 = .ok (.iload 5, 2) := by decide +kernel
theorem d_Model_readItems_17 : decode prog_14_method_33_code 17 = .ok (.iadd, 1) := by decide +kernel
theorem d_Model_readItems_18 : decode prog_14_method_33_code 18 = .ok (.iload_n 1, 1) := by decide +kernel
theorem d_Model_readItems_19 : decode prog_14_method_33_code 19 = .ok (.iload 5, 2) := by decide +kernel
theorem d_Model_readItems_21 : decode prog_14_method_33_code 21 = .ok (.invokestatic 239, 3) := by decide +kernel
theorem d_Model_readItems_24 : decode prog_14_method_33_code 24 = .ok (.iastore, 1) := by decide +kernel
theorem d_Model_readItems_25 : decode prog_14_method_33_code 25 = .ok (.iinc 5 1, 3) := by decide +kernel
theorem d_Model_readItems_28 : decode prog_14_method_33_code 28 = .ok (.goto (-25), 3) := by decide +kernel
theorem d_Model_readItems_31 : decode prog_14_method_33_code 31 = .ok (.iconst 0, 1) := by decide +kernel
theorem d_Model_readItems_32 : decode prog_14_method_33_code 32 = .ok (.istore 5, 2) := by decide +kernel
theorem d_Model_readItems_34 : decode prog_14_method_33_code 34 = .ok (.aload 4, 2) := by decide +kernel
theorem d_Model_readItems_36 : decode prog_14_method_33_code 36 = .ok (.aload_n 0, 1) := by decide +kernel
theorem d_Model_readItems_37 : decode prog_14_method_33_code 37 = .ok (.invokevirtual 156, 3) := by decide +kernel
theorem d_Model_readItems_40 : decode prog_14_method_33_code 40 = .ok (.invokestatic 243, 3) := by decide +kernel
theorem d_Model_readItems_43 : decode prog_14_method_33_code 43 = .ok (.istore 6, 2) := by decide +kernel
theorem d_Model_readItems_45 : decode prog_14_method_33_code 45 = .ok (.iload 6, 2) := by decide +kernel
theorem d_Model_readItems_47 : decode prog_14_method_33_code 47 = .ok (.iconst (-1), 1) := by decide +kernel
theorem d_Model_readItems_48 : decode prog_14_method_33_code 48 = .ok (.if_icmp .eq 79, 3) := by decide +kernel
theorem d_Model_readItems_51 : decode prog_14_method_33_code 51 = .ok (.aload_n 0, 1) := by decide +kernel
theorem d_Model_readItems_52 : decode prog_14_method_33_code 52 = .ok (.getfield 146, 3) := by decide +kernel
theorem d_Model_readItems_55 : decode prog_14_method_33_code 55 = .ok (.iconst (-1), 1) := by decide +kernel
theorem d_Model_readItems_56 : decode prog_14_method_33_code 56 = .ok (.if_icmp .ne 71, 3) := by decide +kernel
theorem d_Model_readItems_59 : decode prog_14_method_33_code 59 = .ok (.iload 5, 2) := by decide +kernel
theorem d_Model_readItems_61 : decode prog_14_method_33_code 61 = .ok (.iload 6, 2) := by decide +kernel
theorem d_Model_readItems_63 : decode prog_14_method_33_code 63 = .ok (.invokestatic 247, 3) := by decide +kernel
theorem d_Model_readItems_66 : decode prog_14_method_33_code 66 = .ok (.ifCond .eq 9, 3) := by decide +kernel
theorem d_Model_readItems_69 : decode prog_14_method_33_code 69 = .ok (.aload_n 0, 1) := by decide +kernel
theorem d_Model_readItems_70 : decode prog_14_method_33_code 70 = .ok (.invokevirtual 152, 3) := by decide +kernel
theorem d_Model_readItems_73 : decode prog_14_method_33_code 73 = .ok (.pop, 1) := by decide +kernel
theorem d_Model_readItems_74 : decode prog_14_method_33_code 74 = .ok (.return_, 1) := by decide +kernel
theorem d_Model_readItems_75 : decode prog_14_method_33_code 75 = .ok (.iload 5, 2) := by decide +kernel
theorem d_Model_readItems_77 : decode prog_14_method_33_code 77 = .ok (.iconst 1, 1) := by decide +kernel
theorem d_Model_readItems_78 : decode prog_14_method_33_code 78 = .ok (.iload 6, 2) := by decide +kernel
theorem d_Model_readItems_80 : decode prog_14_method_33_code 80 = .ok (.ishl, 1) := by decide +kernel
theorem d_Model_readItems_81 : decode prog_14_method_33_code 81 = .ok (.ior, 1) := by decide +kernel
theorem d_Model_readItems_82 : decode prog_14_method_33_code 82 = .ok (.istore 5, 2) := by decide +kernel
theorem d_Model_readItems_84 : decode prog_14_method_33_code 84 = .ok (.aload_n 0, 1) := by decide +kernel
theorem d_Model_readItems_85 : decode prog_14_method_33_code 85 = .ok (.aload_n 2, 1) := by decide +kernel
theorem d_Model_readItems_86 : decode prog_14_method_33_code 86 = .ok (.iload_n 3, 1) := by decide +kernel
theorem d_Model_readItems_87 : decode prog_14_method_33_code 87 = .ok (.iload 6, 2) := by decide +kernel
theorem d_Model_readItems_89 : decode prog_14_method_33_code 89 = .ok (.iadd, 1) := by decide +kernel
theorem d_Model_readItems_90 : decode prog_14_method_33_code 90 = .ok (.iload_n 1, 1) := by decide +kernel
theorem d_Model_readItems_91 : decode prog_14_method_33_code 91 = .ok (.iload 6, 2) := by decide +kernel
theorem d_Model_readItems_93 : decode prog_14_method_33_code 93 = .ok (.invokestatic 251, 3) := by decide +kernel
theorem d_Model_readItems_96 : decode prog_14_method_33_code 96 = .ok (.iload_n 1, 1) := by decide +kernel
theorem d_Model_readItems_97 : decode prog_14_method_33_code 97 = .ok (.iload 6, 2) := by decide +kernel
theorem d_Model_readItems_99 : decode prog_14_method_33_code 99 = .ok (.invokestatic 254, 3) := by decide +kernel
theorem d_Model_readItems_102 : decode prog_14_method_33_code 102 = .ok (.invokevirtual 257, 3) := by decide +kernel
theorem d_Model_readItems_105 : decode prog_14_method_33_code 105 = .ok (.aload_n 0, 1) := by decide +kernel
theorem d_Model_readItems_106 : decode prog_14_method_33_code 106 = .ok (.getfield 146, 3) := by decide +kernel
theorem d_Model_readItems_109 : decode prog_14_method_33_code 109 = .ok (.iconst (-1), 1) := by decide +kernel
theorem d_Model_readItems_110 : decode prog_14_method_33_code 110 = .ok (.if_icmp .ne (-65), 3) := by decide +kernel
theorem d_Model_readItems_113 : decode prog_14_method_33_code 113 = .ok (.aload 4, 2) := by decide +kernel
theorem d_Model_readItems_115 : decode prog_14_method_33_code 115 = .ok (.aload_n 0, 1) := by decide +kernel
theorem d_Model_readItems_116 : decode prog_14_method_33_code 116 = .ok (.invokevirtual 156, 3) := by decide +kernel
theorem d_Model_readItems_119 : decode prog_14_method_33_code 119 = .ok (.invokestatic 243, 3) := by decide +kernel
theorem d_Model_readItems_122 : decode prog_14_method_33_code 122 = .ok (.istore 6, 2) := by decide +kernel
theorem d_Model_readItems_124 : decode prog_14_method_33_code 124 = .ok (.goto (-79), 3) := by decide +kernel
theorem d_Model_readItems_127 : decode prog_14_method_33_code 127 = .ok (.return_, 1) := by decide +kernel
def s_Model_readItems_127 (p0 : Int32) (p1 : Nat) (p1n : Nat) (p2 : Int32) (p3 : Nat) (σ : LH) : Option (LH) :=
  some σ
theorem b_Model_readItems_127 {G : XG} {l : Launch} {p : Program} {e : Env} {R : Room} {s : State} {m : MethodId} {args : Array Value} {below : List Frame} {meth : Method} {c : Code} (C : XC G 570 598 p s m args c prog_14_method_33_code 7 R_Model) (hr : meth.sig.returnType = none) (hk : meth.locks = false) {d : Nat} (hd : 10 ≤ d + 1) (hR : xroom R (d + 1)) {p0 : Int32} {p1 : Nat} {p1n : Nat} {p2 : Int32} {p3 : Nat} (hp1 : xin 570 598 p1 (2, p1n, 0)) (hp3 : p3 < 10) {σ' : LH} {σ : LH} (h0 : s_Model_readItems_127 p0 p1 p1n p2 p3 σ = some σ') : XJ G 570 598 p l e R s m args below meth c 7 (XQ G 570 598 below args s none σ') 0 0 127 [] [] σ := by
  replace h0 := (show _ = _ from h0)
  unfold s_Model_readItems_127 at h0
  exact x_vret C hr hk h0 d_Model_readItems_127
def s_Model_readItems_45_b (p0 : Int32) (p1 : Nat) (p1n : Nat) (p2 : Int32) (p3 : Nat) (rec45 : Int32 → Int32 → LH → Option (LH)) (y5 : Int32) (y6 : Int32) (σ : LH) : Option (LH) :=
  if y6 = (-1) then (
   s_Model_readItems_127 p0 p1 p1n p2 p3 σ)
  else (
   if (σ.1 570 11) = (-1) then (
    xb2 (s_Model_has y5 y6 σ) fun r11 σ12 =>
    if r11 = 0 then (
     xl (((y5 ||| (1 <<< (y6 &&& 31)))) : Int32) fun x14 =>
     xb2 (s_Model_leastOf p0 y6 σ12) fun r16 σ17 =>
     xb2 (s_Model_mostOf p0 y6 σ17) fun r19 σ20 =>
     xb1 (s_Model_readItem p1 p1n (p2 + y6) r16 r19 σ20) fun σ22 =>
     if (σ22.1 570 11) = (-1) then (
      xb2 (s_Model_look σ22) fun r25 σ26 =>
      xb2 (s_Model_spotOf p3 r25 σ26) fun r28 σ29 =>
      rec45 x14 r28 σ29)
     else (
      rec45 x14 y6 σ22))
    else (
     xb2 (s_Model_fails σ12) fun r31 σ32 =>
     some σ32))
   else (
    s_Model_readItems_127 p0 p1 p1n p2 p3 σ))
def s_Model_readItems_45 (p0 : Int32) (p1 : Nat) (p1n : Nat) (p2 : Int32) (p3 : Nat) : Nat → Int32 → Int32 → LH → Option (LH)
  | 0, _, _, _ => none
  | n + 1, y5, y6, σ => s_Model_readItems_45_b p0 p1 p1n p2 p3 (s_Model_readItems_45 p0 p1 p1n p2 p3 n) y5 y6 σ
theorem bb_Model_readItems_45 {G : XG} {l : Launch} {p : Program} {e : Env} {R : Room} {s : State} {m : MethodId} {args : Array Value} {below : List Frame} {meth : Method} {c : Code} (C : XC G 570 598 p s m args c prog_14_method_33_code 7 R_Model) (hr : meth.sig.returnType = none) (hk : meth.locks = false) {d : Nat} (hd : 10 ≤ d + 1) (hR : xroom R (d + 1)) {p0 : Int32} {p1 : Nat} {p1n : Nat} {p2 : Int32} {p3 : Nat} (hp1 : xin 570 598 p1 (2, p1n, 0)) (hp3 : p3 < 10) {rec45 : Int32 → Int32 → LH → Option (LH)} {σ' : LH} (hrec45 : ∀ (y5 : Int32) (y6 : Int32) (σ : LH), rec45 y5 y6 σ = some σ' → XJ G 570 598 p l e R s m args below meth c 7 (XQ G 570 598 below args s none σ') 0 0 45 [(0, .ref (G.2.2.1 + 570)), (1, .int p0), (2, .ref (G.2.2.1 + p1)), (3, .int p2), (4, .ref (G.2.2.2.1 p3)), (5, .int y5), (6, .int y6)] [] σ) {y5 : Int32} {y6 : Int32} {σ : LH} (h0 : s_Model_readItems_45_b p0 p1 p1n p2 p3 rec45 y5 y6 σ = some σ') : XJ G 570 598 p l e R s m args below meth c 7 (XQ G 570 598 below args s none σ') 0 0 45 [(0, .ref (G.2.2.1 + 570)), (1, .int p0), (2, .ref (G.2.2.1 + p1)), (3, .int p2), (4, .ref (G.2.2.2.1 p3)), (5, .int y5), (6, .int y6)] [] σ := by
  replace h0 := (show _ = _ from h0)
  unfold s_Model_readItems_45_b at h0
  refine x_iload C d_Model_readItems_45 6 rfl ?_
  refine x_iconst (v := (-1)) C d_Model_readItems_47 (by decide) ?_
  refine x_icmp_eq C 127 d_Model_readItems_48 (by decide) (fun q8 => ?_) (fun q8 => ?_)
  · replace h0 := xit q8 h0
    exact x_lv C [] rfl (b_Model_readItems_127 C hr hk hd hR hp1 hp3 h0)
  · replace h0 := xif q8 h0
    refine x_aload_n C d_Model_readItems_51 0 rfl ?_
    refine x_getI (y := 0) C fg_Model_146 k_570 rfl d_Model_readItems_52 ?_
    refine x_iconst (v := (-1)) C d_Model_readItems_55 (by decide) ?_
    refine x_icmp_ne C 127 d_Model_readItems_56 (by decide) (fun q9 => ?_) (fun q9 => ?_)
    · replace h0 := xif q9 h0
      exact x_lv C [] rfl (b_Model_readItems_127 C hr hk hd hR hp1 hp3 h0)
    · replace h0 := xit q9 h0
      refine x_iload C d_Model_readItems_59 5 rfl ?_
      refine x_iload C d_Model_readItems_61 6 rfl ?_
      obtain ⟨r11, σ12, k10, h0⟩ := xbind2 h0
      refine x_callSi C hR (c_Model_has (d := d) (by omega) k10) cw_Model_247 w_1750 rfl rfl (Nat.le_of_ble_eq_true rfl) ⟨Nat.zero_le _, Nat.zero_le _⟩ d_Model_readItems_63 ?_
      refine x_if_eq C 75 d_Model_readItems_66 (by decide) (fun q13 => ?_) (fun q13 => ?_)
      · replace h0 := xit q13 h0
        refine x_iload C d_Model_readItems_75 5 rfl ?_
        refine x_iconst (v := 1) C d_Model_readItems_77 (by decide) ?_
        refine x_iload C d_Model_readItems_78 6 rfl ?_
        refine x_ishl C d_Model_readItems_80 ?_
        refine x_ior C d_Model_readItems_81 ?_
        obtain ⟨x14, ex14, h0⟩ := xlet h0
        refine x_name C ex14 ?_
        refine x_istore (lv' := [(5, .int x14), (0, .ref (G.2.2.1 + 570)), (1, .int p0), (2, .ref (G.2.2.1 + p1)), (3, .int p2), (4, .ref (G.2.2.2.1 p3)), (6, .int y6)]) C d_Model_readItems_82 (by decide) rfl ?_
        refine x_aload_n C d_Model_readItems_84 1 rfl ?_
        refine x_aload_n C d_Model_readItems_85 3 rfl ?_
        refine x_iload_n C d_Model_readItems_86 4 rfl ?_
        refine x_iload C d_Model_readItems_87 6 rfl ?_
        refine x_iadd C d_Model_readItems_89 ?_
        refine x_iload_n C d_Model_readItems_90 2 rfl ?_
        refine x_iload C d_Model_readItems_91 6 rfl ?_
        obtain ⟨r16, σ17, k15, h0⟩ := xbind2 h0
        refine x_callSi C hR (c_Model_leastOf (d := d) (by omega) k15) cw_Model_251 w_1753 rfl rfl (Nat.le_of_ble_eq_true rfl) ⟨Nat.zero_le _, Nat.zero_le _⟩ d_Model_readItems_93 ?_
        refine x_iload_n C d_Model_readItems_96 2 rfl ?_
        refine x_iload C d_Model_readItems_97 6 rfl ?_
        obtain ⟨r19, σ20, k18, h0⟩ := xbind2 h0
        refine x_callSi C hR (c_Model_mostOf (d := d) (by omega) k18) cw_Model_254 w_1756 rfl rfl (Nat.le_of_ble_eq_true rfl) ⟨Nat.zero_le _, Nat.zero_le _⟩ d_Model_readItems_99 ?_
        obtain ⟨σ22, k21, h0⟩ := xbind1 h0
        refine x_callVv C hR (c_Model_readItem (d := d) (by omega) hp1 k21) cw_Model_257 k_570 rfl rfl rfl (Nat.le_of_ble_eq_true rfl) ⟨Nat.zero_le _, Nat.zero_le _⟩ d_Model_readItems_102 ?_
        refine x_aload_n C d_Model_readItems_105 1 rfl ?_
        refine x_getI (y := 0) C fg_Model_146 k_570 rfl d_Model_readItems_106 ?_
        refine x_iconst (v := (-1)) C d_Model_readItems_109 (by decide) ?_
        refine x_icmp_ne C 45 d_Model_readItems_110 (by decide) (fun q23 => ?_) (fun q23 => ?_)
        · replace h0 := xif q23 h0
          exact x_lv C [1, 2, 3, 4, 5, 0, 6] rfl (hrec45 _ _ _ h0)
        · replace h0 := xit q23 h0
          refine x_aload C d_Model_readItems_113 5 rfl ?_
          refine x_aload_n C d_Model_readItems_115 1 rfl ?_
          obtain ⟨r25, σ26, k24, h0⟩ := xbind2 h0
          refine x_callVi C hR (c_Model_look (d := d) (by omega) k24) cw_Model_156 k_570 rfl rfl rfl (Nat.le_of_ble_eq_true rfl) ⟨Nat.zero_le _, Nat.zero_le _⟩ d_Model_readItems_116 ?_
          obtain ⟨r28, σ29, k27, h0⟩ := xbind2 h0
          refine x_callSi C hR (c_Model_spotOf (d := d) (by omega) hp3 k27) cw_Model_243 w_1727 rfl rfl (Nat.le_of_ble_eq_true rfl) ⟨Nat.zero_le _, Nat.zero_le _⟩ d_Model_readItems_119 ?_
          refine x_istore (lv' := [(6, .int r28), (5, .int x14), (0, .ref (G.2.2.1 + 570)), (1, .int p0), (2, .ref (G.2.2.1 + p1)), (3, .int p2), (4, .ref (G.2.2.2.1 p3))]) C d_Model_readItems_122 (by decide) rfl ?_
          refine x_goto C 45 d_Model_readItems_124 (by decide) ?_
          exact x_lv C [2, 3, 4, 5, 6, 1, 0] rfl (hrec45 _ _ _ h0)
      · replace h0 := xif q13 h0
        refine x_aload_n C d_Model_readItems_69 0 rfl ?_
        obtain ⟨r31, σ32, k30, h0⟩ := xbind2 h0
        refine x_callVi C hR (c_Model_fails (d := d) (by omega) k30) cw_Model_152 k_570 rfl rfl rfl (Nat.le_of_ble_eq_true rfl) ⟨Nat.zero_le _, Nat.zero_le _⟩ d_Model_readItems_70 ?_
        refine x_pop C d_Model_readItems_73 rfl ?_
        exact x_vret C hr hk h0 d_Model_readItems_74
theorem b_Model_readItems_45 {G : XG} {l : Launch} {p : Program} {e : Env} {R : Room} {s : State} {m : MethodId} {args : Array Value} {below : List Frame} {meth : Method} {c : Code} (C : XC G 570 598 p s m args c prog_14_method_33_code 7 R_Model) (hr : meth.sig.returnType = none) (hk : meth.locks = false) {d : Nat} (hd : 10 ≤ d + 1) (hR : xroom R (d + 1)) {p0 : Int32} {p1 : Nat} {p1n : Nat} {p2 : Int32} {p3 : Nat} (hp1 : xin 570 598 p1 (2, p1n, 0)) (hp3 : p3 < 10) {σ' : LH} : ∀ (n : Nat) (y5 : Int32) (y6 : Int32) (σ : LH), s_Model_readItems_45 p0 p1 p1n p2 p3 n y5 y6 σ = some σ' → XJ G 570 598 p l e R s m args below meth c 7 (XQ G 570 598 below args s none σ') 0 0 45 [(0, .ref (G.2.2.1 + 570)), (1, .int p0), (2, .ref (G.2.2.1 + p1)), (3, .int p2), (4, .ref (G.2.2.2.1 p3)), (5, .int y5), (6, .int y6)] [] σ := by
  intro n
  induction n with
  | zero => intro y5 y6 σ h0; cases h0
  | succ n ih => intro y5 y6 σ h0; exact bb_Model_readItems_45 C hr hk hd hR hp1 hp3 ih h0
def s_Model_readItems_3_b (p0 : Int32) (p1 : Nat) (p1n : Nat) (p2 : Int32) (p3 : Nat) (rec3 : Int32 → LH → Option (LH)) (y5 : Int32) (σ : LH) : Option (LH) :=
  if (js_len p3) ≤ y5 then (
   xb2 (s_Model_look σ) fun r3 σ4 =>
   xb2 (s_Model_spotOf p3 r3 σ4) fun r6 σ7 =>
   s_Model_readItems_45 p0 p1 p1n p2 p3 FUEL 0 r6 σ7)
  else (
   xb2 (s_Model_usual p0 y5 σ) fun r34 σ35 =>
   if ib (p2 + y5) p1n then (
   xl ((stI σ35 p1 (Int32.toNatClampNeg (p2 + y5)) r34) : LH) fun σ37 =>
   xl ((y5 + 1) : Int32) fun x38 =>
   rec3 x38 σ37) else none)
def s_Model_readItems_3 (p0 : Int32) (p1 : Nat) (p1n : Nat) (p2 : Int32) (p3 : Nat) : Nat → Int32 → LH → Option (LH)
  | 0, _, _ => none
  | n + 1, y5, σ => s_Model_readItems_3_b p0 p1 p1n p2 p3 (s_Model_readItems_3 p0 p1 p1n p2 p3 n) y5 σ
theorem bb_Model_readItems_3 {G : XG} {l : Launch} {p : Program} {e : Env} {R : Room} {s : State} {m : MethodId} {args : Array Value} {below : List Frame} {meth : Method} {c : Code} (C : XC G 570 598 p s m args c prog_14_method_33_code 7 R_Model) (hr : meth.sig.returnType = none) (hk : meth.locks = false) {d : Nat} (hd : 10 ≤ d + 1) (hR : xroom R (d + 1)) {p0 : Int32} {p1 : Nat} {p1n : Nat} {p2 : Int32} {p3 : Nat} (hp1 : xin 570 598 p1 (2, p1n, 0)) (hp3 : p3 < 10) {rec3 : Int32 → LH → Option (LH)} {σ' : LH} (hrec3 : ∀ (y5 : Int32) (σ : LH), rec3 y5 σ = some σ' → XJ G 570 598 p l e R s m args below meth c 7 (XQ G 570 598 below args s none σ') 0 0 3 [(0, .ref (G.2.2.1 + 570)), (1, .int p0), (2, .ref (G.2.2.1 + p1)), (3, .int p2), (4, .ref (G.2.2.2.1 p3)), (5, .int y5)] [] σ) {y5 : Int32} {σ : LH} (h0 : s_Model_readItems_3_b p0 p1 p1n p2 p3 rec3 y5 σ = some σ') : XJ G 570 598 p l e R s m args below meth c 7 (XQ G 570 598 below args s none σ') 0 0 3 [(0, .ref (G.2.2.1 + 570)), (1, .int p0), (2, .ref (G.2.2.1 + p1)), (3, .int p2), (4, .ref (G.2.2.2.1 p3)), (5, .int y5)] [] σ := by
  replace h0 := (show _ = _ from h0)
  unfold s_Model_readItems_3_b at h0
  refine x_iload C d_Model_readItems_3 5 rfl ?_
  refine x_aload C d_Model_readItems_5 4 rfl ?_
  refine x_sLen C (xroomS hR (by omega)) hp3 w_1725 (Nat.le_of_ble_eq_true rfl) ⟨Nat.zero_le _, Nat.zero_le _⟩ d_Model_readItems_7 ?_
  refine x_icmp_ge C 31 d_Model_readItems_10 (by decide) (fun q1 => ?_) (fun q1 => ?_)
  · replace h0 := xit q1 h0
    refine x_iconst (v := 0) C d_Model_readItems_31 (by decide) ?_
    refine x_istore (lv' := [(5, .int 0), (0, .ref (G.2.2.1 + 570)), (1, .int p0), (2, .ref (G.2.2.1 + p1)), (3, .int p2), (4, .ref (G.2.2.2.1 p3))]) C d_Model_readItems_32 (by decide) rfl ?_
    refine x_aload C d_Model_readItems_34 5 rfl ?_
    refine x_aload_n C d_Model_readItems_36 1 rfl ?_
    obtain ⟨r3, σ4, k2, h0⟩ := xbind2 h0
    refine x_callVi C hR (c_Model_look (d := d) (by omega) k2) cw_Model_156 k_570 rfl rfl rfl (Nat.le_of_ble_eq_true rfl) ⟨Nat.zero_le _, Nat.zero_le _⟩ d_Model_readItems_37 ?_
    obtain ⟨r6, σ7, k5, h0⟩ := xbind2 h0
    refine x_callSi C hR (c_Model_spotOf (d := d) (by omega) hp3 k5) cw_Model_243 w_1727 rfl rfl (Nat.le_of_ble_eq_true rfl) ⟨Nat.zero_le _, Nat.zero_le _⟩ d_Model_readItems_40 ?_
    refine x_istore (lv' := [(6, .int r6), (5, .int 0), (0, .ref (G.2.2.1 + 570)), (1, .int p0), (2, .ref (G.2.2.1 + p1)), (3, .int p2), (4, .ref (G.2.2.2.1 p3))]) C d_Model_readItems_43 (by decide) rfl ?_
    exact x_lv C [2, 3, 4, 5, 6, 1, 0] rfl (b_Model_readItems_45 C hr hk hd hR hp1 hp3 FUEL _ _ _ h0)
  · replace h0 := xif q1 h0
    refine x_aload_n C d_Model_readItems_13 2 rfl ?_
    refine x_iload_n C d_Model_readItems_14 3 rfl ?_
    refine x_iload C d_Model_readItems_15 5 rfl ?_
    refine x_iadd C d_Model_readItems_17 ?_
    refine x_iload_n C d_Model_readItems_18 1 rfl ?_
    refine x_iload C d_Model_readItems_19 5 rfl ?_
    obtain ⟨r34, σ35, k33, h0⟩ := xbind2 h0
    refine x_callSi C hR (c_Model_usual (d := d) (by omega) k33) cw_Model_239 w_1706 rfl rfl (Nat.le_of_ble_eq_true rfl) ⟨Nat.zero_le _, Nat.zero_le _⟩ d_Model_readItems_21 ?_
    obtain ⟨g36, h0⟩ := xgo h0
    refine x_iast C hp1 (ib_in g36) d_Model_readItems_24 ?_
    obtain ⟨σ37, eσ37, h0⟩ := xlet h0
    refine x_sig C eσ37 ?_
    obtain ⟨x38, ex38, h0⟩ := xlet h0
    refine x_iinc (lv' := [(5, .int x38), (0, .ref (G.2.2.1 + 570)), (1, .int p0), (2, .ref (G.2.2.1 + p1)), (3, .int p2), (4, .ref (G.2.2.2.1 p3))]) C d_Model_readItems_25 5 rfl ex38 (by decide) rfl ?_
    refine x_goto C 3 d_Model_readItems_28 (by decide) ?_
    exact x_lv C [1, 2, 3, 4, 5, 0] rfl (hrec3 _ _ h0)
theorem b_Model_readItems_3 {G : XG} {l : Launch} {p : Program} {e : Env} {R : Room} {s : State} {m : MethodId} {args : Array Value} {below : List Frame} {meth : Method} {c : Code} (C : XC G 570 598 p s m args c prog_14_method_33_code 7 R_Model) (hr : meth.sig.returnType = none) (hk : meth.locks = false) {d : Nat} (hd : 10 ≤ d + 1) (hR : xroom R (d + 1)) {p0 : Int32} {p1 : Nat} {p1n : Nat} {p2 : Int32} {p3 : Nat} (hp1 : xin 570 598 p1 (2, p1n, 0)) (hp3 : p3 < 10) {σ' : LH} : ∀ (n : Nat) (y5 : Int32) (σ : LH), s_Model_readItems_3 p0 p1 p1n p2 p3 n y5 σ = some σ' → XJ G 570 598 p l e R s m args below meth c 7 (XQ G 570 598 below args s none σ') 0 0 3 [(0, .ref (G.2.2.1 + 570)), (1, .int p0), (2, .ref (G.2.2.1 + p1)), (3, .int p2), (4, .ref (G.2.2.2.1 p3)), (5, .int y5)] [] σ := by
  intro n
  induction n with
  | zero => intro y5 σ h0; cases h0
  | succ n ih => intro y5 σ h0; exact bb_Model_readItems_3 C hr hk hd hR hp1 hp3 ih h0
def s_Model_readItems (p0 : Int32) (p1 : Nat) (p1n : Nat) (p2 : Int32) (p3 : Nat) (σ : LH) : Option (LH) :=
  s_Model_readItems_3 p0 p1 p1n p2 p3 FUEL 0 σ
theorem c_Model_readItems {G : XG} {l : Launch} {d : Nat} (hd : 10 ≤ d) {p0 : Int32} {p1 : Nat} {p1n : Nat} {p2 : Int32} {p3 : Nat} (hp1 : xin 570 598 p1 (2, p1n, 0)) (hp3 : p3 < 10) {σ σ' : LH} (h0 : s_Model_readItems p0 p1 p1n p2 p3 σ = some σ') : xM G 570 598 l y_Model_readItems prog_14_method_33_code 7 none d [.ref (G.2.2.1 + 570), .int p0, .ref (G.2.2.1 + p1), .int p2, .ref (G.2.2.2.1 p3)] σ none σ' := by
  obtain ⟨d, rfl⟩ : ∃ q, d = q + 1 := ⟨d - 1, by omega⟩
  refine x_met R_Model rfl (by decide +kernel) (Nat.le_of_ble_eq_true rfl) fun p e s m below meth c C hr hk hR => ?_
  refine x_lv (lv' := [(0, .ref (G.2.2.1 + 570)), (1, .int p0), (2, .ref (G.2.2.1 + p1)), (3, .int p2), (4, .ref (G.2.2.2.1 p3))]) C [0, 1, 2, 3, 4] rfl ?_
  generalize xrm (d + 1) = R at hR ⊢
  unfold s_Model_readItems at h0
  refine x_iconst (v := 0) C d_Model_readItems_0 (by decide) ?_
  refine x_istore (lv' := [(5, .int 0), (0, .ref (G.2.2.1 + 570)), (1, .int p0), (2, .ref (G.2.2.1 + p1)), (3, .int p2), (4, .ref (G.2.2.2.1 p3))]) C d_Model_readItems_1 (by decide) rfl ?_
  exact x_lv C [1, 2, 3, 4, 5, 0] rfl (b_Model_readItems_3 C hr hk hd hR hp1 hp3 FUEL _ _ h0)
-- LostPlacesModel.readClause()V
theorem d_Model_readClause_0 : decode prog_14_method_34_code 0 = .ok (.aload_n 0, 1) := by decide +kernel
theorem d_Model_readClause_1 : decode prog_14_method_34_code 1 = .ok (.invokevirtual 156, 3) := by decide +kernel
theorem d_Model_readClause_4 : decode prog_14_method_34_code 4 = .ok (.istore_n 1, 1) := by decide +kernel
theorem d_Model_readClause_5 : decode prog_14_method_34_code 5 = .ok (.iload_n 1, 1) := by decide +kernel
theorem d_Model_readClause_6 : decode prog_14_method_34_code 6 = .ok (.bipush 115, 2) := by decide +kernel
theorem d_Model_readClause_8 : decode prog_14_method_34_code 8 = .ok (.if_icmp .ne 12, 3) := by decide +kernel
theorem d_Model_readClause_11 : decode prog_14_method_34_code 11 = .ok (.aload_n 0, 1) := by decide +kernel
theorem d_Model_readClause_12 : decode prog_14_method_34_code 12 = .ok (.getfield 261, 3) := by decide +kernel
theorem d_Model_readClause_15 : decode prog_14_method_34_code 15 = .ok (.bipush 8, 2) := by decide +kernel
theorem d_Model_readClause_17 : decode prog_14_method_34_code 17 = .ok (.if_icmp .lt 46, 3) := by decide +kernel
theorem d_Model_readClause_20 : decode prog_14_method_34_code 20 = .ok (.iload_n 1, 1) := by decide +kernel
theorem d_Model_readClause_21 : decode prog_14_method_34_code 21 = .ok (.bipush 112, 2) := by decide +kernel
theorem d_Model_readClause_23 : decode prog_14_method_34_code 23 = .ok (.if_icmp .ne 12, 3) := by decide +kernel
theorem d_Model_readClause_26 : decode prog_14_method_34_code 26 = .ok (.aload_n 0, 1) := by decide +kernel
theorem d_Model_readClause_27 : decode prog_14_method_34_code 27 = .ok (.getfield 264, 3) := by decide +kernel
theorem d_Model_readClause_30 : decode prog_14_method_34_code 30 = .ok (.bipush 8, 2) := by decide +kernel
theorem d_Model_readClause_32 : decode prog_14_method_34_code 32 = .ok (.if_icmp .lt 31, 3) := by decide +kernel
theorem d_Model_readClause_35 : decode prog_14_method_34_code 35 = .ok (.iload_n 1, 1) := by decide +kernel
theorem d_Model_readClause_36 : decode prog_14_method_34_code 36 = .ok (.bipush 103, 2) := by decide +kernel
theorem d_Model_readClause_38 : decode prog_14_method_34_code 38 = .ok (.if_icmp .ne 12, 3) := by decide +kernel
theorem d_Model_readClause_41 : decode prog_14_method_34_code 41 = .ok (.aload_n 0, 1) := by decide +kernel
theorem d_Model_readClause_42 : decode prog_14_method_34_code 42 = .ok (.getfield 267, 3) := by decide +kernel
theorem d_Model_readClause_45 : decode prog_14_method_34_code 45 = .ok (.bipush 10, 2) := by decide +kernel
theorem d_Model_readClause_47 : decode prog_14_method_34_code 47 = .ok (.if_icmp .lt 16, 3) := by decide +kernel
theorem d_Model_readClause_50 : decode prog_14_method_34_code 50 = .ok (.iload_n 1, 1) := by decide +kernel
theorem d_Model_readClause_51 : decode prog_14_method_34_code 51 = .ok (.bipush 101, 2) := by decide +kernel
theorem d_Model_readClause_53 : decode prog_14_method_34_code 53 = .ok (.if_icmp .ne 14, 3) := by decide +kernel
theorem d_Model_readClause_56 : decode prog_14_method_34_code 56 = .ok (.aload_n 0, 1) := by decide +kernel
theorem d_Model_readClause_57 : decode prog_14_method_34_code 57 = .ok (.getfield 270, 3) := by decide +kernel
theorem d_Model_readClause_60 : decode prog_14_method_34_code 60 = .ok (.ifCond .ne 7, 3) := by decide +kernel
theorem d_Model_readClause_63 : decode prog_14_method_34_code 63 = .ok (.iconst 1, 1) := by decide +kernel
theorem d_Model_readClause_64 : decode prog_14_method_34_code 64 = .ok (.goto 4, 3) := by decide +kernel
theorem d_Model_readClause_67 : decode prog_14_method_34_code 67 = .ok (.iconst 0, 1) := by decide +kernel
theorem d_Model_readClause_68 : decode prog_14_method_34_code 68 = .ok (.istore_n 2, 1) := by decide +kernel
theorem d_Model_readClause_69 : decode prog_14_method_34_code 69 = .ok (.iload_n 2, 1) := by decide +kernel
theorem d_Model_readClause_70 : decode prog_14_method_34_code 70 = .ok (.ifCond .ne 9, 3) := by decide +kernel
theorem d_Model_readClause_73 : decode prog_14_method_34_code 73 = .ok (.aload_n 0, 1) := by decide +kernel
theorem d_Model_readClause_74 : decode prog_14_method_34_code 74 = .ok (.invokevirtual 152, 3) := by decide +kernel
theorem d_Model_readClause_77 : decode prog_14_method_34_code 77 = .ok (.pop, 1) := by decide +kernel
theorem d_Model_readClause_78 : decode prog_14_method_34_code 78 = .ok (.return_, 1) := by decide +kernel
theorem d_Model_readClause_79 : decode prog_14_method_34_code 79 = .ok (.aload_n 0, 1) := by decide +kernel
theorem d_Model_readClause_80 : decode prog_14_method_34_code 80 = .ok (.dup, 1) := by decide +kernel
theorem d_Model_readClause_81 : decode prog_14_method_34_code 81 = .ok (.getfield 137, 3) := by decide +kernel
theorem d_Model_readClause_84 : decode prog_14_method_34_code 84 = .ok (.iconst 1, 1) := by decide +kernel
theorem d_Model_readClause_85 : decode prog_14_method_34_code 85 = .ok (.iadd, 1) := by decide +kernel
theorem d_Model_readClause_86 : decode prog_14_method_34_code 86 = .ok (.putfield 137, 3) := by decide +kernel
theorem d_Model_readClause_89 : decode prog_14_method_34_code 89 = .ok (.iload_n 1, 1) := by decide +kernel
theorem d_Model_readClause_90 : decode prog_14_method_34_code 90 = .ok (.bipush 115, 2) := by decide +kernel
theorem d_Model_readClause_92 : decode prog_14_method_34_code 92 = .ok (.if_icmp .ne 36, 3) := by decide +kernel
theorem d_Model_readClause_95 : decode prog_14_method_34_code 95 = .ok (.aload_n 0, 1) := by decide +kernel
theorem d_Model_readClause_96 : decode prog_14_method_34_code 96 = .ok (.dup, 1) := by decide +kernel
theorem d_Model_readClause_97 : decode prog_14_method_34_code 97 = .ok (.getfield 261, 3) := by decide +kernel
theorem d_Model_readClause_100 : decode prog_14_method_34_code 100 = .ok (.iconst 1, 1) := by decide +kernel
theorem d_Model_readClause_101 : decode prog_14_method_34_code 101 = .ok (.iadd, 1) := by decide +kernel
theorem d_Model_readClause_102 : decode prog_14_method_34_code 102 = .ok (.putfield 261, 3) := by decide +kernel
theorem d_Model_readClause_105 : decode prog_14_method_34_code 105 = .ok (.aload_n 0, 1) := by decide +kernel
theorem d_Model_readClause_106 : decode prog_14_method_34_code 106 = .ok (.iload_n 1, 1) := by decide +kernel
theorem d_Model_readClause_107 : decode prog_14_method_34_code 107 = .ok (.aload_n 0, 1) := by decide +kernel
theorem d_Model_readClause_108 : decode prog_14_method_34_code 108 = .ok (.getfield 40, 3) := by decide +kernel
theorem d_Model_readClause_111 : decode prog_14_method_34_code 111 = .ok (.iconst 3, 1) := by decide +kernel
theorem d_Model_readClause_112 : decode prog_14_method_34_code 112 = .ok (.aload_n 0, 1) := by decide +kernel
theorem d_Model_readClause_113 : decode prog_14_method_34_code 113 = .ok (.getfield 261, 3) := by decide +kernel
theorem d_Model_readClause_116 : decode prog_14_method_34_code 116 = .ok (.iconst 1, 1) := by decide +kernel
theorem d_Model_readClause_117 : decode prog_14_method_34_code 117 = .ok (.isub, 1) := by decide +kernel
theorem d_Model_readClause_118 : decode prog_14_method_34_code 118 = .ok (.imul, 1) := by decide +kernel
theorem d_Model_readClause_119 : decode prog_14_method_34_code 119 = .ok (.ldc_w 273, 3) := by decide +kernel
theorem d_Model_readClause_122 : decode prog_14_method_34_code 122 = .ok (.invokevirtual 275, 3) := by decide +kernel
theorem d_Model_readClause_125 : decode prog_14_method_34_code 125 = .ok (.goto 99, 3) := by decide +kernel
theorem d_Model_readClause_128 : decode prog_14_method_34_code 128 = .ok (.iload_n 1, 1) := by decide +kernel
theorem d_Model_readClause_129 : decode prog_14_method_34_code 129 = .ok (.bipush 112, 2) := by decide +kernel
theorem d_Model_readClause_131 : decode prog_14_method_34_code 131 = .ok (.if_icmp .ne 36, 3) := by decide +kernel
theorem d_Model_readClause_134 : decode prog_14_method_34_code 134 = .ok (.aload_n 0, 1) := by decide +kernel
theorem d_Model_readClause_135 : decode prog_14_method_34_code 135 = .ok (.dup, 1) := by decide +kernel
theorem d_Model_readClause_136 : decode prog_14_method_34_code 136 = .ok (.getfield 264, 3) := by decide +kernel
theorem d_Model_readClause_139 : decode prog_14_method_34_code 139 = .ok (.iconst 1, 1) := by decide +kernel
theorem d_Model_readClause_140 : decode prog_14_method_34_code 140 = .ok (.iadd, 1) := by decide +kernel
theorem d_Model_readClause_141 : decode prog_14_method_34_code 141 = .ok (.putfield 264, 3) := by decide +kernel
theorem d_Model_readClause_144 : decode prog_14_method_34_code 144 = .ok (.aload_n 0, 1) := by decide +kernel
theorem d_Model_readClause_145 : decode prog_14_method_34_code 145 = .ok (.iload_n 1, 1) := by decide +kernel
theorem d_Model_readClause_146 : decode prog_14_method_34_code 146 = .ok (.aload_n 0, 1) := by decide +kernel
theorem d_Model_readClause_147 : decode prog_14_method_34_code 147 = .ok (.getfield 46, 3) := by decide +kernel
theorem d_Model_readClause_150 : decode prog_14_method_34_code 150 = .ok (.iconst 4, 1) := by decide +kernel
theorem d_Model_readClause_151 : decode prog_14_method_34_code 151 = .ok (.aload_n 0, 1) := by decide +kernel
theorem d_Model_readClause_152 : decode prog_14_method_34_code 152 = .ok (.getfield 264, 3) := by decide +kernel
theorem d_Model_readClause_155 : decode prog_14_method_34_code 155 = .ok (.iconst 1, 1) := by decide +kernel
theorem d_Model_readClause_156 : decode prog_14_method_34_code 156 = .ok (.isub, 1) := by decide +kernel
theorem d_Model_readClause_157 : decode prog_14_method_34_code 157 = .ok (.imul, 1) := by decide +kernel
theorem d_Model_readClause_158 : decode prog_14_method_34_code 158 = .ok (.ldc_w 279, 3) := by decide +kernel
theorem d_Model_readClause_161 : decode prog_14_method_34_code 161 = .ok (.invokevirtual 275, 3) := by decide +kernel
theorem d_Model_readClause_164 : decode prog_14_method_34_code 164 = .ok (.goto 60, 3) := by decide +kernel
theorem d_Model_readClause_167 : decode prog_14_method_34_code 167 = .ok (.iload_n 1, 1) := by decide +kernel
theorem d_Model_readClause_168 : decode prog_14_method_34_code 168 = .ok (.bipush 103, 2) := by decide +kernel
theorem d_Model_readClause_170 : decode prog_14_method_34_code 170 = .ok (.if_icmp .ne 36, 3) := by decide +kernel
theorem d_Model_readClause_173 : decode prog_14_method_34_code 173 = .ok (.aload_n 0, 1) := by decide +kernel
theorem d_Model_readClause_174 : decode prog_14_method_34_code 174 = .ok (.dup, 1) := by decide +kernel
theorem d_Model_readClause_175 : decode prog_14_method_34_code 175 = .ok (.getfield 267, 3) := by decide +kernel
theorem d_Model_readClause_178 : decode prog_14_method_34_code 178 = .ok (.iconst 1, 1) := by decide +kernel
theorem d_Model_readClause_179 : decode prog_14_method_34_code 179 = .ok (.iadd, 1) := by decide +kernel
theorem d_Model_readClause_180 : decode prog_14_method_34_code 180 = .ok (.putfield 267, 3) := by decide +kernel
theorem d_Model_readClause_183 : decode prog_14_method_34_code 183 = .ok (.aload_n 0, 1) := by decide +kernel
theorem d_Model_readClause_184 : decode prog_14_method_34_code 184 = .ok (.iload_n 1, 1) := by decide +kernel
theorem d_Model_readClause_185 : decode prog_14_method_34_code 185 = .ok (.aload_n 0, 1) := by decide +kernel
theorem d_Model_readClause_186 : decode prog_14_method_34_code 186 = .ok (.getfield 52, 3) := by decide +kernel
theorem d_Model_readClause_189 : decode prog_14_method_34_code 189 = .ok (.iconst 3, 1) := by decide +kernel
theorem d_Model_readClause_190 : decode prog_14_method_34_code 190 = .ok (.aload_n 0, 1) := by decide +kernel
theorem d_Model_readClause_191 : decode prog_14_method_34_code 191 = .ok (.getfield 267, 3) := by decide +kernel
theorem d_Model_readClause_194 : decode prog_14_method_34_code 194 = .ok (.iconst 1, 1) := by decide +kernel
theorem d_Model_readClause_195 : decode prog_14_method_34_code 195 = .ok (.isub, 1) := by decide +kernel
theorem d_Model_readClause_196 : decode prog_14_method_34_code 196 = .ok (.imul, 1) := by decide +kernel
theorem d_Model_readClause_197 : decode prog_14_method_34_code 197 = .ok (.ldc_w 281, 3) := by decide +kernel
theorem d_Model_readClause_200 : decode prog_14_method_34_code 200 = .ok (.invokevirtual 275, 3) := by decide +kernel
theorem d_Model_readClause_203 : decode prog_14_method_34_code 203 = .ok (.goto 21, 3) := by decide +kernel
theorem d_Model_readClause_206 : decode prog_14_method_34_code 206 = .ok (.aload_n 0, 1) := by decide +kernel
theorem d_Model_readClause_207 : decode prog_14_method_34_code 207 = .ok (.iconst 1, 1) := by decide +kernel
theorem d_Model_readClause_208 : decode prog_14_method_34_code 208 = .ok (.putfield 270, 3) := by decide +kernel
theorem d_Model_readClause_211 : decode prog_14_method_34_code 211 = .ok (.aload_n 0, 1) := by decide +kernel
theorem d_Model_readClause_212 : decode prog_14_method_34_code 212 = .ok (.iload_n 1, 1) := by decide +kernel
theorem d_Model_readClause_213 : decode prog_14_method_34_code 213 = .ok (.aload_n 0, 1) := by decide +kernel
theorem d_Model_readClause_214 : decode prog_14_method_34_code 214 = .ok (.getfield 58, 3) := by decide +kernel
theorem d_Model_readClause_217 : decode prog_14_method_34_code 217 = .ok (.iconst 0, 1) := by decide +kernel
theorem d_Model_readClause_218 : decode prog_14_method_34_code 218 = .ok (.ldc_w 283, 3) := by decide +kernel
theorem d_Model_readClause_221 : decode prog_14_method_34_code 221 = .ok (.invokevirtual 275, 3) := by decide +kernel
theorem d_Model_readClause_224 : decode prog_14_method_34_code 224 = .ok (.return_, 1) := by decide +kernel
def s_Model_readClause_224 (σ : LH) : Option (LH) :=
  some σ
theorem b_Model_readClause_224 {G : XG} {l : Launch} {p : Program} {e : Env} {R : Room} {s : State} {m : MethodId} {args : Array Value} {below : List Frame} {meth : Method} {c : Code} (C : XC G 570 598 p s m args c prog_14_method_34_code 3 R_Model) (hr : meth.sig.returnType = none) (hk : meth.locks = false) {d : Nat} (hd : 11 ≤ d + 1) (hR : xroom R (d + 1)) {σ' : LH} {σ : LH} (h0 : s_Model_readClause_224 σ = some σ') : XJ G 570 598 p l e R s m args below meth c 3 (XQ G 570 598 below args s none σ') 0 0 224 [] [] σ := by
  replace h0 := (show _ = _ from h0)
  unfold s_Model_readClause_224 at h0
  exact x_vret C hr hk h0 d_Model_readClause_224
def s_Model_readClause_68 (y1 : Int32) (z0 : Int32) (σ : LH) : Option (LH) :=
  if z0 = 0 then (
   xb2 (s_Model_fails σ) fun r8 σ9 =>
   some σ9)
  else (
   xl ((stI σ 570 10 ((σ.1 570 10) + 1)) : LH) fun σ10 =>
   if y1 = 115 then (
    xl ((stI σ10 570 29 ((σ10.1 570 29) + 1)) : LH) fun σ12 =>
    xb1 (s_Model_readItems y1 576 24 (3 * ((σ12.1 570 29) - 1)) 2 σ12) fun σ14 =>
    s_Model_readClause_224 σ14)
   else (
    if y1 = 112 then (
     xl ((stI σ10 570 30 ((σ10.1 570 30) + 1)) : LH) fun σ16 =>
     xb1 (s_Model_readItems y1 578 32 (4 * ((σ16.1 570 30) - 1)) 3 σ16) fun σ18 =>
     s_Model_readClause_224 σ18)
    else (
     if y1 = 103 then (
      xl ((stI σ10 570 31 ((σ10.1 570 31) + 1)) : LH) fun σ20 =>
      xb1 (s_Model_readItems y1 580 30 (3 * ((σ20.1 570 31) - 1)) 4 σ20) fun σ22 =>
      s_Model_readClause_224 σ22)
     else (
      xl ((stI σ10 570 32 1) : LH) fun σ23 =>
      xb1 (s_Model_readItems y1 582 2 0 5 σ23) fun σ25 =>
      s_Model_readClause_224 σ25))))
theorem b_Model_readClause_68 {G : XG} {l : Launch} {p : Program} {e : Env} {R : Room} {s : State} {m : MethodId} {args : Array Value} {below : List Frame} {meth : Method} {c : Code} (C : XC G 570 598 p s m args c prog_14_method_34_code 3 R_Model) (hr : meth.sig.returnType = none) (hk : meth.locks = false) {d : Nat} (hd : 11 ≤ d + 1) (hR : xroom R (d + 1)) {σ' : LH} {y1 : Int32} {z0 : Int32} {σ : LH} (h0 : s_Model_readClause_68 y1 z0 σ = some σ') : XJ G 570 598 p l e R s m args below meth c 3 (XQ G 570 598 below args s none σ') 0 0 68 [(0, .ref (G.2.2.1 + 570)), (1, .int y1)] [.int z0] σ := by
  replace h0 := (show _ = _ from h0)
  unfold s_Model_readClause_68 at h0
  refine x_istore_n (lv' := [(2, .int z0), (0, .ref (G.2.2.1 + 570)), (1, .int y1)]) C d_Model_readClause_68 rfl (by decide) rfl ?_
  refine x_iload_n C d_Model_readClause_69 0 rfl ?_
  refine x_if_ne C 79 d_Model_readClause_70 (by decide) (fun q6 => ?_) (fun q6 => ?_)
  · replace h0 := xif q6 h0
    refine x_aload_n C d_Model_readClause_79 1 rfl ?_
    refine x_dup C d_Model_readClause_80 rfl ?_
    refine x_getI (y := 0) C fg_Model_137 k_570 rfl d_Model_readClause_81 ?_
    refine x_iconst (v := 1) C d_Model_readClause_84 (by decide) ?_
    refine x_iadd C d_Model_readClause_85 ?_
    refine x_putI (y := 0) C fp_Model_137 k_570 rfl rfl rfl d_Model_readClause_86 ?_
    obtain ⟨σ10, eσ10, h0⟩ := xlet h0
    refine x_sig C eσ10 ?_
    refine x_iload_n C d_Model_readClause_89 2 rfl ?_
    refine x_bipush (v := 115) C d_Model_readClause_90 (by decide) ?_
    refine x_icmp_ne C 128 d_Model_readClause_92 (by decide) (fun q11 => ?_) (fun q11 => ?_)
    · replace h0 := xif q11 h0
      refine x_iload_n C d_Model_readClause_128 2 rfl ?_
      refine x_bipush (v := 112) C d_Model_readClause_129 (by decide) ?_
      refine x_icmp_ne C 167 d_Model_readClause_131 (by decide) (fun q15 => ?_) (fun q15 => ?_)
      · replace h0 := xif q15 h0
        refine x_iload_n C d_Model_readClause_167 2 rfl ?_
        refine x_bipush (v := 103) C d_Model_readClause_168 (by decide) ?_
        refine x_icmp_ne C 206 d_Model_readClause_170 (by decide) (fun q19 => ?_) (fun q19 => ?_)
        · replace h0 := xif q19 h0
          refine x_aload_n C d_Model_readClause_206 1 rfl ?_
          refine x_iconst (v := 1) C d_Model_readClause_207 (by decide) ?_
          refine x_putI (y := 0) C fp_Model_270 k_570 rfl rfl rfl d_Model_readClause_208 ?_
          obtain ⟨σ23, eσ23, h0⟩ := xlet h0
          refine x_sig C eσ23 ?_
          refine x_aload_n C d_Model_readClause_211 1 rfl ?_
          refine x_iload_n C d_Model_readClause_212 2 rfl ?_
          refine x_aload_n C d_Model_readClause_213 1 rfl ?_
          refine x_getA (y := 582) C fg_Model_58 k_570 rfl d_Model_readClause_214 ?_
          refine x_iconst (v := 0) C d_Model_readClause_217 (by decide) ?_
          refine x_ldcSw (index := 283) (i := 5) C (by decide +kernel) d_Model_readClause_218 ?_
          obtain ⟨σ25, k24, h0⟩ := xbind1 h0
          refine x_callVv C hR (c_Model_readItems (d := d) (by omega) k_582 (by decide) k24) cw_Model_275 k_570 rfl rfl rfl (Nat.le_of_ble_eq_true rfl) ⟨Nat.zero_le _, Nat.zero_le _⟩ d_Model_readClause_221 ?_
          exact x_lv C [] rfl (b_Model_readClause_224 C hr hk hd hR h0)
        · replace h0 := xit q19 h0
          refine x_aload_n C d_Model_readClause_173 1 rfl ?_
          refine x_dup C d_Model_readClause_174 rfl ?_
          refine x_getI (y := 0) C fg_Model_267 k_570 rfl d_Model_readClause_175 ?_
          refine x_iconst (v := 1) C d_Model_readClause_178 (by decide) ?_
          refine x_iadd C d_Model_readClause_179 ?_
          refine x_putI (y := 0) C fp_Model_267 k_570 rfl rfl rfl d_Model_readClause_180 ?_
          obtain ⟨σ20, eσ20, h0⟩ := xlet h0
          refine x_sig C eσ20 ?_
          refine x_aload_n C d_Model_readClause_183 1 rfl ?_
          refine x_iload_n C d_Model_readClause_184 2 rfl ?_
          refine x_aload_n C d_Model_readClause_185 1 rfl ?_
          refine x_getA (y := 580) C fg_Model_52 k_570 rfl d_Model_readClause_186 ?_
          refine x_iconst (v := 3) C d_Model_readClause_189 (by decide) ?_
          refine x_aload_n C d_Model_readClause_190 1 rfl ?_
          refine x_getI (y := 0) C fg_Model_267 k_570 rfl d_Model_readClause_191 ?_
          refine x_iconst (v := 1) C d_Model_readClause_194 (by decide) ?_
          refine x_isub C d_Model_readClause_195 ?_
          refine x_imul C d_Model_readClause_196 ?_
          refine x_ldcSw (index := 281) (i := 4) C (by decide +kernel) d_Model_readClause_197 ?_
          obtain ⟨σ22, k21, h0⟩ := xbind1 h0
          refine x_callVv C hR (c_Model_readItems (d := d) (by omega) k_580 (by decide) k21) cw_Model_275 k_570 rfl rfl rfl (Nat.le_of_ble_eq_true rfl) ⟨Nat.zero_le _, Nat.zero_le _⟩ d_Model_readClause_200 ?_
          refine x_goto C 224 d_Model_readClause_203 (by decide) ?_
          exact x_lv C [] rfl (b_Model_readClause_224 C hr hk hd hR h0)
      · replace h0 := xit q15 h0
        refine x_aload_n C d_Model_readClause_134 1 rfl ?_
        refine x_dup C d_Model_readClause_135 rfl ?_
        refine x_getI (y := 0) C fg_Model_264 k_570 rfl d_Model_readClause_136 ?_
        refine x_iconst (v := 1) C d_Model_readClause_139 (by decide) ?_
        refine x_iadd C d_Model_readClause_140 ?_
        refine x_putI (y := 0) C fp_Model_264 k_570 rfl rfl rfl d_Model_readClause_141 ?_
        obtain ⟨σ16, eσ16, h0⟩ := xlet h0
        refine x_sig C eσ16 ?_
        refine x_aload_n C d_Model_readClause_144 1 rfl ?_
        refine x_iload_n C d_Model_readClause_145 2 rfl ?_
        refine x_aload_n C d_Model_readClause_146 1 rfl ?_
        refine x_getA (y := 578) C fg_Model_46 k_570 rfl d_Model_readClause_147 ?_
        refine x_iconst (v := 4) C d_Model_readClause_150 (by decide) ?_
        refine x_aload_n C d_Model_readClause_151 1 rfl ?_
        refine x_getI (y := 0) C fg_Model_264 k_570 rfl d_Model_readClause_152 ?_
        refine x_iconst (v := 1) C d_Model_readClause_155 (by decide) ?_
        refine x_isub C d_Model_readClause_156 ?_
        refine x_imul C d_Model_readClause_157 ?_
        refine x_ldcSw (index := 279) (i := 3) C (by decide +kernel) d_Model_readClause_158 ?_
        obtain ⟨σ18, k17, h0⟩ := xbind1 h0
        refine x_callVv C hR (c_Model_readItems (d := d) (by omega) k_578 (by decide) k17) cw_Model_275 k_570 rfl rfl rfl (Nat.le_of_ble_eq_true rfl) ⟨Nat.zero_le _, Nat.zero_le _⟩ d_Model_readClause_161 ?_
        refine x_goto C 224 d_Model_readClause_164 (by decide) ?_
        exact x_lv C [] rfl (b_Model_readClause_224 C hr hk hd hR h0)
    · replace h0 := xit q11 h0
      refine x_aload_n C d_Model_readClause_95 1 rfl ?_
      refine x_dup C d_Model_readClause_96 rfl ?_
      refine x_getI (y := 0) C fg_Model_261 k_570 rfl d_Model_readClause_97 ?_
      refine x_iconst (v := 1) C d_Model_readClause_100 (by decide) ?_
      refine x_iadd C d_Model_readClause_101 ?_
      refine x_putI (y := 0) C fp_Model_261 k_570 rfl rfl rfl d_Model_readClause_102 ?_
      obtain ⟨σ12, eσ12, h0⟩ := xlet h0
      refine x_sig C eσ12 ?_
      refine x_aload_n C d_Model_readClause_105 1 rfl ?_
      refine x_iload_n C d_Model_readClause_106 2 rfl ?_
      refine x_aload_n C d_Model_readClause_107 1 rfl ?_
      refine x_getA (y := 576) C fg_Model_40 k_570 rfl d_Model_readClause_108 ?_
      refine x_iconst (v := 3) C d_Model_readClause_111 (by decide) ?_
      refine x_aload_n C d_Model_readClause_112 1 rfl ?_
      refine x_getI (y := 0) C fg_Model_261 k_570 rfl d_Model_readClause_113 ?_
      refine x_iconst (v := 1) C d_Model_readClause_116 (by decide) ?_
      refine x_isub C d_Model_readClause_117 ?_
      refine x_imul C d_Model_readClause_118 ?_
      refine x_ldcSw (index := 273) (i := 2) C (by decide +kernel) d_Model_readClause_119 ?_
      obtain ⟨σ14, k13, h0⟩ := xbind1 h0
      refine x_callVv C hR (c_Model_readItems (d := d) (by omega) k_576 (by decide) k13) cw_Model_275 k_570 rfl rfl rfl (Nat.le_of_ble_eq_true rfl) ⟨Nat.zero_le _, Nat.zero_le _⟩ d_Model_readClause_122 ?_
      refine x_goto C 224 d_Model_readClause_125 (by decide) ?_
      exact x_lv C [] rfl (b_Model_readClause_224 C hr hk hd hR h0)
  · replace h0 := xit q6 h0
    refine x_aload_n C d_Model_readClause_73 1 rfl ?_
    obtain ⟨r8, σ9, k7, h0⟩ := xbind2 h0
    refine x_callVi C hR (c_Model_fails (d := d) (by omega) k7) cw_Model_152 k_570 rfl rfl rfl (Nat.le_of_ble_eq_true rfl) ⟨Nat.zero_le _, Nat.zero_le _⟩ d_Model_readClause_74 ?_
    refine x_pop C d_Model_readClause_77 rfl ?_
    exact x_vret C hr hk h0 d_Model_readClause_78
def s_Model_readClause_63 (y1 : Int32) (σ : LH) : Option (LH) :=
  s_Model_readClause_68 y1 1 σ
theorem b_Model_readClause_63 {G : XG} {l : Launch} {p : Program} {e : Env} {R : Room} {s : State} {m : MethodId} {args : Array Value} {below : List Frame} {meth : Method} {c : Code} (C : XC G 570 598 p s m args c prog_14_method_34_code 3 R_Model) (hr : meth.sig.returnType = none) (hk : meth.locks = false) {d : Nat} (hd : 11 ≤ d + 1) (hR : xroom R (d + 1)) {σ' : LH} {y1 : Int32} {σ : LH} (h0 : s_Model_readClause_63 y1 σ = some σ') : XJ G 570 598 p l e R s m args below meth c 3 (XQ G 570 598 below args s none σ') 0 0 63 [(0, .ref (G.2.2.1 + 570)), (1, .int y1)] [] σ := by
  replace h0 := (show _ = _ from h0)
  unfold s_Model_readClause_63 at h0
  refine x_iconst (v := 1) C d_Model_readClause_63 (by decide) ?_
  refine x_goto C 68 d_Model_readClause_64 (by decide) ?_
  exact x_lv C [0, 1] rfl (b_Model_readClause_68 C hr hk hd hR h0)
def s_Model_readClause_67 (y1 : Int32) (σ : LH) : Option (LH) :=
  s_Model_readClause_68 y1 0 σ
theorem b_Model_readClause_67 {G : XG} {l : Launch} {p : Program} {e : Env} {R : Room} {s : State} {m : MethodId} {args : Array Value} {below : List Frame} {meth : Method} {c : Code} (C : XC G 570 598 p s m args c prog_14_method_34_code 3 R_Model) (hr : meth.sig.returnType = none) (hk : meth.locks = false) {d : Nat} (hd : 11 ≤ d + 1) (hR : xroom R (d + 1)) {σ' : LH} {y1 : Int32} {σ : LH} (h0 : s_Model_readClause_67 y1 σ = some σ') : XJ G 570 598 p l e R s m args below meth c 3 (XQ G 570 598 below args s none σ') 0 0 67 [(0, .ref (G.2.2.1 + 570)), (1, .int y1)] [] σ := by
  replace h0 := (show _ = _ from h0)
  unfold s_Model_readClause_67 at h0
  refine x_iconst (v := 0) C d_Model_readClause_67 (by decide) ?_
  exact x_lv C [0, 1] rfl (b_Model_readClause_68 C hr hk hd hR h0)
def s_Model_readClause_50 (y1 : Int32) (σ : LH) : Option (LH) :=
  if y1 = 101 then (
   if (σ.1 570 32) = 0 then (
    s_Model_readClause_63 y1 σ)
   else (
    s_Model_readClause_67 y1 σ))
  else (
   s_Model_readClause_67 y1 σ)
theorem b_Model_readClause_50 {G : XG} {l : Launch} {p : Program} {e : Env} {R : Room} {s : State} {m : MethodId} {args : Array Value} {below : List Frame} {meth : Method} {c : Code} (C : XC G 570 598 p s m args c prog_14_method_34_code 3 R_Model) (hr : meth.sig.returnType = none) (hk : meth.locks = false) {d : Nat} (hd : 11 ≤ d + 1) (hR : xroom R (d + 1)) {σ' : LH} {y1 : Int32} {σ : LH} (h0 : s_Model_readClause_50 y1 σ = some σ') : XJ G 570 598 p l e R s m args below meth c 3 (XQ G 570 598 below args s none σ') 0 0 50 [(0, .ref (G.2.2.1 + 570)), (1, .int y1)] [] σ := by
  replace h0 := (show _ = _ from h0)
  unfold s_Model_readClause_50 at h0
  refine x_iload_n C d_Model_readClause_50 1 rfl ?_
  refine x_bipush (v := 101) C d_Model_readClause_51 (by decide) ?_
  refine x_icmp_ne C 67 d_Model_readClause_53 (by decide) (fun q30 => ?_) (fun q30 => ?_)
  · replace h0 := xif q30 h0
    exact x_lv C [0, 1] rfl (b_Model_readClause_67 C hr hk hd hR h0)
  · replace h0 := xit q30 h0
    refine x_aload_n C d_Model_readClause_56 0 rfl ?_
    refine x_getI (y := 0) C fg_Model_270 k_570 rfl d_Model_readClause_57 ?_
    refine x_if_ne C 67 d_Model_readClause_60 (by decide) (fun q31 => ?_) (fun q31 => ?_)
    · replace h0 := xif q31 h0
      exact x_lv C [0, 1] rfl (b_Model_readClause_67 C hr hk hd hR h0)
    · replace h0 := xit q31 h0
      exact x_lv C [0, 1] rfl (b_Model_readClause_63 C hr hk hd hR h0)
def s_Model_readClause_35 (y1 : Int32) (σ : LH) : Option (LH) :=
  if y1 = 103 then (
   if (σ.1 570 31) < 10 then (
    s_Model_readClause_63 y1 σ)
   else (
    s_Model_readClause_50 y1 σ))
  else (
   s_Model_readClause_50 y1 σ)
theorem b_Model_readClause_35 {G : XG} {l : Launch} {p : Program} {e : Env} {R : Room} {s : State} {m : MethodId} {args : Array Value} {below : List Frame} {meth : Method} {c : Code} (C : XC G 570 598 p s m args c prog_14_method_34_code 3 R_Model) (hr : meth.sig.returnType = none) (hk : meth.locks = false) {d : Nat} (hd : 11 ≤ d + 1) (hR : xroom R (d + 1)) {σ' : LH} {y1 : Int32} {σ : LH} (h0 : s_Model_readClause_35 y1 σ = some σ') : XJ G 570 598 p l e R s m args below meth c 3 (XQ G 570 598 below args s none σ') 0 0 35 [(0, .ref (G.2.2.1 + 570)), (1, .int y1)] [] σ := by
  replace h0 := (show _ = _ from h0)
  unfold s_Model_readClause_35 at h0
  refine x_iload_n C d_Model_readClause_35 1 rfl ?_
  refine x_bipush (v := 103) C d_Model_readClause_36 (by decide) ?_
  refine x_icmp_ne C 50 d_Model_readClause_38 (by decide) (fun q28 => ?_) (fun q28 => ?_)
  · replace h0 := xif q28 h0
    exact x_lv C [0, 1] rfl (b_Model_readClause_50 C hr hk hd hR h0)
  · replace h0 := xit q28 h0
    refine x_aload_n C d_Model_readClause_41 0 rfl ?_
    refine x_getI (y := 0) C fg_Model_267 k_570 rfl d_Model_readClause_42 ?_
    refine x_bipush (v := 10) C d_Model_readClause_45 (by decide) ?_
    refine x_icmp_lt C 63 d_Model_readClause_47 (by decide) (fun q29 => ?_) (fun q29 => ?_)
    · replace h0 := xit q29 h0
      exact x_lv C [0, 1] rfl (b_Model_readClause_63 C hr hk hd hR h0)
    · replace h0 := xif q29 h0
      exact x_lv C [0, 1] rfl (b_Model_readClause_50 C hr hk hd hR h0)
def s_Model_readClause_20 (y1 : Int32) (σ : LH) : Option (LH) :=
  if y1 = 112 then (
   if (σ.1 570 30) < 8 then (
    s_Model_readClause_63 y1 σ)
   else (
    s_Model_readClause_35 y1 σ))
  else (
   s_Model_readClause_35 y1 σ)
theorem b_Model_readClause_20 {G : XG} {l : Launch} {p : Program} {e : Env} {R : Room} {s : State} {m : MethodId} {args : Array Value} {below : List Frame} {meth : Method} {c : Code} (C : XC G 570 598 p s m args c prog_14_method_34_code 3 R_Model) (hr : meth.sig.returnType = none) (hk : meth.locks = false) {d : Nat} (hd : 11 ≤ d + 1) (hR : xroom R (d + 1)) {σ' : LH} {y1 : Int32} {σ : LH} (h0 : s_Model_readClause_20 y1 σ = some σ') : XJ G 570 598 p l e R s m args below meth c 3 (XQ G 570 598 below args s none σ') 0 0 20 [(0, .ref (G.2.2.1 + 570)), (1, .int y1)] [] σ := by
  replace h0 := (show _ = _ from h0)
  unfold s_Model_readClause_20 at h0
  refine x_iload_n C d_Model_readClause_20 1 rfl ?_
  refine x_bipush (v := 112) C d_Model_readClause_21 (by decide) ?_
  refine x_icmp_ne C 35 d_Model_readClause_23 (by decide) (fun q26 => ?_) (fun q26 => ?_)
  · replace h0 := xif q26 h0
    exact x_lv C [0, 1] rfl (b_Model_readClause_35 C hr hk hd hR h0)
  · replace h0 := xit q26 h0
    refine x_aload_n C d_Model_readClause_26 0 rfl ?_
    refine x_getI (y := 0) C fg_Model_264 k_570 rfl d_Model_readClause_27 ?_
    refine x_bipush (v := 8) C d_Model_readClause_30 (by decide) ?_
    refine x_icmp_lt C 63 d_Model_readClause_32 (by decide) (fun q27 => ?_) (fun q27 => ?_)
    · replace h0 := xit q27 h0
      exact x_lv C [0, 1] rfl (b_Model_readClause_63 C hr hk hd hR h0)
    · replace h0 := xif q27 h0
      exact x_lv C [0, 1] rfl (b_Model_readClause_35 C hr hk hd hR h0)
def s_Model_readClause (σ : LH) : Option (LH) :=
  xb2 (s_Model_look σ) fun r2 σ3 =>
  if r2 = 115 then (
   if (σ3.1 570 29) < 8 then (
    s_Model_readClause_63 r2 σ3)
   else (
    s_Model_readClause_20 r2 σ3))
  else (
   s_Model_readClause_20 r2 σ3)
theorem c_Model_readClause {G : XG} {l : Launch} {d : Nat} (hd : 11 ≤ d) {σ σ' : LH} (h0 : s_Model_readClause σ = some σ') : xM G 570 598 l y_Model_readClause prog_14_method_34_code 3 none d [.ref (G.2.2.1 + 570)] σ none σ' := by
  obtain ⟨d, rfl⟩ : ∃ q, d = q + 1 := ⟨d - 1, by omega⟩
  refine x_met R_Model rfl (by decide +kernel) (Nat.le_of_ble_eq_true rfl) fun p e s m below meth c C hr hk hR => ?_
  refine x_lv (lv' := [(0, .ref (G.2.2.1 + 570))]) C [0] rfl ?_
  generalize xrm (d + 1) = R at hR ⊢
  unfold s_Model_readClause at h0
  refine x_aload_n C d_Model_readClause_0 0 rfl ?_
  obtain ⟨r2, σ3, k1, h0⟩ := xbind2 h0
  refine x_callVi C hR (c_Model_look (d := d) (by omega) k1) cw_Model_156 k_570 rfl rfl rfl (Nat.le_of_ble_eq_true rfl) ⟨Nat.zero_le _, Nat.zero_le _⟩ d_Model_readClause_1 ?_
  refine x_istore_n (lv' := [(1, .int r2), (0, .ref (G.2.2.1 + 570))]) C d_Model_readClause_4 rfl (by decide) rfl ?_
  refine x_iload_n C d_Model_readClause_5 0 rfl ?_
  refine x_bipush (v := 115) C d_Model_readClause_6 (by decide) ?_
  refine x_icmp_ne C 20 d_Model_readClause_8 (by decide) (fun q4 => ?_) (fun q4 => ?_)
  · replace h0 := xif q4 h0
    exact x_lv C [1, 0] rfl (b_Model_readClause_20 C hr hk hd hR h0)
  · replace h0 := xit q4 h0
    refine x_aload_n C d_Model_readClause_11 1 rfl ?_
    refine x_getI (y := 0) C fg_Model_261 k_570 rfl d_Model_readClause_12 ?_
    refine x_bipush (v := 8) C d_Model_readClause_15 (by decide) ?_
    refine x_icmp_lt C 63 d_Model_readClause_17 (by decide) (fun q5 => ?_) (fun q5 => ?_)
    · replace h0 := xit q5 h0
      exact x_lv C [1, 0] rfl (b_Model_readClause_63 C hr hk hd hR h0)
    · replace h0 := xif q5 h0
      exact x_lv C [1, 0] rfl (b_Model_readClause_20 C hr hk hd hR h0)
-- LostPlacesModel.isWhole()Z
theorem d_Model_isWhole_0 : decode prog_14_method_35_code 0 = .ok (.aload_n 0, 1) := by decide +kernel
theorem d_Model_isWhole_1 : decode prog_14_method_35_code 1 = .ok (.getfield 261, 3) := by decide +kernel
theorem d_Model_isWhole_4 : decode prog_14_method_35_code 4 = .ok (.ifCond .le 14, 3) := by decide +kernel
theorem d_Model_isWhole_7 : decode prog_14_method_35_code 7 = .ok (.aload_n 0, 1) := by decide +kernel
theorem d_Model_isWhole_8 : decode prog_14_method_35_code 8 = .ok (.getfield 264, 3) := by decide +kernel
theorem d_Model_isWhole_11 : decode prog_14_method_35_code 11 = .ok (.ifCond .le 7, 3) := by decide +kernel
theorem d_Model_isWhole_14 : decode prog_14_method_35_code 14 = .ok (.iconst 1, 1) := by decide +kernel
theorem d_Model_isWhole_15 : decode prog_14_method_35_code 15 = .ok (.goto 4, 3) := by decide +kernel
theorem d_Model_isWhole_18 : decode prog_14_method_35_code 18 = .ok (.iconst 0, 1) := by decide +kernel
theorem d_Model_isWhole_19 : decode prog_14_method_35_code 19 = .ok (.istore_n 1, 1) := by decide +kernel
theorem d_Model_isWhole_20 : decode prog_14_method_35_code 20 = .ok (.iconst 0, 1) := by decide +kernel
theorem d_Model_isWhole_21 : decode prog_14_method_35_code 21 = .ok (.istore_n 2, 1) := by decide +kernel
theorem d_Model_isWhole_22 : decode prog_14_method_35_code 22 = .ok (.iload_n 2, 1) := by decide +kernel
theorem d_Model_isWhole_23 : decode prog_14_method_35_code 23 = .ok (.aload_n 0, 1) := by decide +kernel
theorem d_Model_isWhole_24 : decode prog_14_method_35_code 24 = .ok (.getfield 264, 3) := by decide +kernel
theorem d_Model_isWhole_27 : decode prog_14_method_35_code 27 = .ok (.if_icmp .ge 86, 3) := by decide +kernel
theorem d_Model_isWhole_30 : decode prog_14_method_35_code 30 = .ok (.aload_n 0, 1) := by decide +kernel
theorem d_Model_isWhole_31 : decode prog_14_method_35_code 31 = .ok (.getfield 46, 3) := by decide +kernel
theorem d_Model_isWhole_34 : decode prog_14_method_35_code 34 = .ok (.iconst 4, 1) := by decide +kernel
theorem d_Model_isWhole_35 : decode prog_14_method_35_code 35 = .ok (.iload_n 2, 1) := by decide +kernel
theorem d_Model_isWhole_36 : decode prog_14_method_35_code 36 = .ok (.imul, 1) := by decide +kernel
theorem d_Model_isWhole_37 : decode prog_14_method_35_code 37 = .ok (.iaload, 1) := by decide +kernel
theorem d_Model_isWhole_38 : decode prog_14_method_35_code 38 = .ok (.istore_n 3, 1) := by decide +kernel
theorem d_Model_isWhole_39 : decode prog_14_method_35_code 39 = .ok (.iload_n 1, 1) := by decide +kernel
theorem d_Model_isWhole_40 : decode prog_14_method_35_code 40 = .ok (.ifCond .eq 21, 3) := by decide +kernel
theorem d_Model_isWhole_43 : decode prog_14_method_35_code 43 = .ok (.iload_n 3, 1) := by decide +kernel
theorem d_Model_isWhole_44 : decode prog_14_method_35_code 44 = .ok (.bipush 8, 2) := by decide +kernel
theorem d_Model_isWhole_46 : decode prog_14_method_35_code 46 = .ok (.if_icmp .eq 11, 3) := by decide +kernel
theorem d_Model_isWhole_49 : decode prog_14_method_35_code 49 = .ok (.iload_n 3, 1) := by decide +kernel
theorem d_Model_isWhole_50 : decode prog_14_method_35_code 50 = .ok (.aload_n 0, 1) := by decide +kernel
theorem d_Model_isWhole_51 : decode prog_14_method_35_code 51 = .ok (.getfield 261, 3) := by decide +kernel
theorem d_Model_isWhole_54 : decode prog_14_method_35_code 54 = .ok (.if_icmp .ge 7, 3) := by decide +kernel
theorem d_Model_isWhole_57 : decode prog_14_method_35_code 57 = .ok (.iconst 1, 1) := by decide +kernel
theorem d_Model_isWhole_58 : decode prog_14_method_35_code 58 = .ok (.goto 4, 3) := by decide +kernel
theorem d_Model_isWhole_61 : decode prog_14_method_35_code 61 = .ok (.iconst 0, 1) := by decide +kernel
theorem d_Model_isWhole_62 : decode prog_14_method_35_code 62 = .ok (.istore_n 1, 1) := by decide +kernel
theorem d_Model_isWhole_63 : decode prog_14_method_35_code 63 = .ok (.iconst 0, 1) := by decide +kernel
theorem d_Model_isWhole_64 : decode prog_14_method_35_code 64 = .ok (.istore 4, 2) := by decide +kernel
theorem d_Model_isWhole_66 : decode prog_14_method_35_code 66 = .ok (.iload 4, 2) := by decide +kernel
theorem d_Model_isWhole_68 : decode prog_14_method_35_code 68 = .ok (.iload_n 2, 1) := by decide +kernel
theorem d_Model_isWhole_69 : decode prog_14_method_35_code 69 = .ok (.if_icmp .ge 38, 3) := by decide +kernel
theorem d_Model_isWhole_72 : decode prog_14_method_35_code 72 = .ok (.iload_n 1, 1) := by decide +kernel
theorem d_Model_isWhole_73 : decode prog_14_method_35_code 73 = .ok (.ifCond .eq 26, 3) := by decide +kernel
theorem d_Model_isWhole_76 : decode prog_14_method_35_code 76 = .ok (.iload_n 3, 1) := by decide +kernel
theorem d_Model_isWhole_77 : decode prog_14_method_35_code 77 = .ok (.bipush 8, 2) := by decide +kernel
theorem d_Model_isWhole_79 : decode prog_14_method_35_code 79 = .ok (.if_icmp .eq 16, 3) := by decide +kernel
theorem d_Model_isWhole_82 : decode prog_14_method_35_code 82 = .ok (.aload_n 0, 1) := by decide +kernel
theorem d_Model_isWhole_83 : decode prog_14_method_35_code 83 = .ok (.getfield 46, 3) := by decide +kernel
theorem d_Model_isWhole_86 : decode prog_14_method_35_code 86 = .ok (.iconst 4, 1) := by decide +kernel
theorem d_Model_isWhole_87 : decode prog_14_method_35_code 87 = .ok (.iload 4, 2) := by decide +kernel
theorem d_Model_isWhole_89 : decode prog_14_method_35_code 89 = .ok (.imul, 1) := by decide +kernel
theorem d_Model_isWhole_90 : decode prog_14_method_35_code 90 = .ok (.iaload, 1) := by decide +kernel
theorem d_Model_isWhole_91 : decode prog_14_method_35_code 91 = .ok (.iload_n 3, 1) := by decide +kernel
theorem d_Model_isWhole_92 : decode prog_14_method_35_code 92 = .ok (.if_icmp .eq 7, 3) := by decide +kernel
theorem d_Model_isWhole_95 : decode prog_14_method_35_code 95 = .ok (.iconst 1, 1) := by decide +kernel
theorem d_Model_isWhole_96 : decode prog_14_method_35_code 96 = .ok (.goto 4, 3) := by decide +kernel
theorem d_Model_isWhole_99 : decode prog_14_method_35_code 99 = .ok (.iconst 0, 1) := by decide +kernel
theorem d_Model_isWhole_100 : decode prog_14_method_35_code 100 = .ok (.istore_n 1, 1) := by decide +kernel
theorem d_Model_isWhole_101 : decode prog_14_method_35_code 101 = .ok (.iinc 4 1, 3) := by decide +kernel
theorem d_Model_isWhole_104 : decode prog_14_method_35_code 104 = .ok (.goto (-38), 3) := by decide +kernel
theorem d_Model_isWhole_107 : decode prog_14_method_35_code 107 = .ok (.iinc 2 1, 3) := by decide +kernel
theorem d_Model_isWhole_110 : decode prog_14_method_35_code 110 = .ok (.goto (-88), 3) := by decide +kernel
theorem d_Model_isWhole_113 : decode prog_14_method_35_code 113 = .ok (.iconst 0, 1) := by decide +kernel
theorem d_Model_isWhole_114 : decode prog_14_method_35_code 114 = .ok (.istore_n 2, 1) := by decide +kernel
theorem d_Model_isWhole_115 : decode prog_14_method_35_code 115 = .ok (.iload_n 2, 1) := by decide +kernel
theorem d_Model_isWhole_116 : decode prog_14_method_35_code 116 = .ok (.aload_n 0, 1) := by decide +kernel
theorem d_Model_isWhole_117 : decode prog_14_method_35_code 117 = .ok (.getfield 267, 3) := by decide +kernel
theorem d_Model_isWhole_120 : decode prog_14_method_35_code 120 = .ok (.if_icmp .ge 34, 3) := by decide +kernel
theorem d_Model_isWhole_123 : decode prog_14_method_35_code 123 = .ok (.iload_n 1, 1) := by decide +kernel
theorem d_Model_isWhole_124 : decode prog_14_method_35_code 124 = .ok (.ifCond .eq 22, 3) := by decide +kernel
theorem d_Model_isWhole_127 : decode prog_14_method_35_code 127 = .ok (.aload_n 0, 1) := by decide +kernel
theorem d_Model_isWhole_128 : decode prog_14_method_35_code 128 = .ok (.getfield 52, 3) := by decide +kernel
theorem d_Model_isWhole_131 : decode prog_14_method_35_code 131 = .ok (.iconst 3, 1) := by decide +kernel
theorem d_Model_isWhole_132 : decode prog_14_method_35_code 132 = .ok (.iload_n 2, 1) := by decide +kernel
theorem d_Model_isWhole_133 : decode prog_14_method_35_code 133 = .ok (.imul, 1) := by decide +kernel
theorem d_Model_isWhole_134 : decode prog_14_method_35_code 134 = .ok (.iaload, 1) := by decide +kernel
theorem d_Model_isWhole_135 : decode prog_14_method_35_code 135 = .ok (.aload_n 0, 1) := by decide +kernel
theorem d_Model_isWhole_136 : decode prog_14_method_35_code 136 = .ok (.getfield 264, 3) := by decide +kernel
theorem d_Model_isWhole_139 : decode prog_14_method_35_code 139 = .ok (.if_icmp .ge 7, 3) := by decide +kernel
theorem d_Model_isWhole_142 : decode prog_14_method_35_code 142 = .ok (.iconst 1, 1) := by decide +kernel
theorem d_Model_isWhole_143 : decode prog_14_method_35_code 143 = .ok (.goto 4, 3) := by decide +kernel
theorem d_Model_isWhole_146 : decode prog_14_method_35_code 146 = .ok (.iconst 0, 1) := by decide +kernel
theorem d_Model_isWhole_147 : decode prog_14_method_35_code 147 = .ok (.istore_n 1, 1) := by decide +kernel
theorem d_Model_isWhole_148 : decode prog_14_method_35_code 148 = .ok (.iinc 2 1, 3) := by decide +kernel
theorem d_Model_isWhole_151 : decode prog_14_method_35_code 151 = .ok (.goto (-36), 3) := by decide +kernel
theorem d_Model_isWhole_154 : decode prog_14_method_35_code 154 = .ok (.iload_n 1, 1) := by decide +kernel
theorem d_Model_isWhole_155 : decode prog_14_method_35_code 155 = .ok (.ireturn, 1) := by decide +kernel
def s_Model_isWhole_147 (rec115 : Int32 → Int32 → LH → Option (Int32 × LH)) (y2 : Int32) (z0 : Int32) (σ : LH) : Option (Int32 × LH) :=
  xl ((y2 + 1) : Int32) fun x6 =>
  rec115 z0 x6 σ
theorem b_Model_isWhole_147 {G : XG} {l : Launch} {p : Program} {e : Env} {R : Room} {s : State} {m : MethodId} {args : Array Value} {below : List Frame} {meth : Method} {c : Code} (C : XC G 570 598 p s m args c prog_14_method_35_code 5 R_Model) (hr : meth.sig.returnType = (some .boolean)) (hk : meth.locks = false) {d : Nat} (hd : 1 ≤ d + 1) (hR : xroom R (d + 1)) {rec115 : Int32 → Int32 → LH → Option (Int32 × LH)} {σ' : LH} {r : Int32} (hrec115 : ∀ (y1 : Int32) (y2 : Int32) (σ : LH), rec115 y1 y2 σ = some (r, σ') → XJ G 570 598 p l e R s m args below meth c 5 (XQ G 570 598 below args s (some (.int r)) σ') 0 0 115 [(0, .ref (G.2.2.1 + 570)), (1, .int y1), (2, .int y2)] [] σ) {y2 : Int32} {z0 : Int32} {σ : LH} (h0 : s_Model_isWhole_147 rec115 y2 z0 σ = some (r, σ')) : XJ G 570 598 p l e R s m args below meth c 5 (XQ G 570 598 below args s (some (.int r)) σ') 0 0 147 [(0, .ref (G.2.2.1 + 570)), (2, .int y2)] [.int z0] σ := by
  replace h0 := (show _ = _ from h0)
  unfold s_Model_isWhole_147 at h0
  refine x_istore_n (lv' := [(1, .int z0), (0, .ref (G.2.2.1 + 570)), (2, .int y2)]) C d_Model_isWhole_147 rfl (by decide) rfl ?_
  obtain ⟨x6, ex6, h0⟩ := xlet h0
  refine x_iinc (lv' := [(2, .int x6), (1, .int z0), (0, .ref (G.2.2.1 + 570))]) C d_Model_isWhole_148 2 rfl ex6 (by decide) rfl ?_
  refine x_goto C 115 d_Model_isWhole_151 (by decide) ?_
  exact x_lv C [2, 1, 0] rfl (hrec115 _ _ _ h0)
def s_Model_isWhole_146 (rec115 : Int32 → Int32 → LH → Option (Int32 × LH)) (y2 : Int32) (σ : LH) : Option (Int32 × LH) :=
  s_Model_isWhole_147 rec115 y2 0 σ
theorem b_Model_isWhole_146 {G : XG} {l : Launch} {p : Program} {e : Env} {R : Room} {s : State} {m : MethodId} {args : Array Value} {below : List Frame} {meth : Method} {c : Code} (C : XC G 570 598 p s m args c prog_14_method_35_code 5 R_Model) (hr : meth.sig.returnType = (some .boolean)) (hk : meth.locks = false) {d : Nat} (hd : 1 ≤ d + 1) (hR : xroom R (d + 1)) {rec115 : Int32 → Int32 → LH → Option (Int32 × LH)} {σ' : LH} {r : Int32} (hrec115 : ∀ (y1 : Int32) (y2 : Int32) (σ : LH), rec115 y1 y2 σ = some (r, σ') → XJ G 570 598 p l e R s m args below meth c 5 (XQ G 570 598 below args s (some (.int r)) σ') 0 0 115 [(0, .ref (G.2.2.1 + 570)), (1, .int y1), (2, .int y2)] [] σ) {y2 : Int32} {σ : LH} (h0 : s_Model_isWhole_146 rec115 y2 σ = some (r, σ')) : XJ G 570 598 p l e R s m args below meth c 5 (XQ G 570 598 below args s (some (.int r)) σ') 0 0 146 [(0, .ref (G.2.2.1 + 570)), (2, .int y2)] [] σ := by
  replace h0 := (show _ = _ from h0)
  unfold s_Model_isWhole_146 at h0
  refine x_iconst (v := 0) C d_Model_isWhole_146 (by decide) ?_
  exact x_lv C [0, 1] rfl (b_Model_isWhole_147 C hr hk hd hR hrec115 h0)
def s_Model_isWhole_115_b (rec115 : Int32 → Int32 → LH → Option (Int32 × LH)) (y1 : Int32) (y2 : Int32) (σ : LH) : Option (Int32 × LH) :=
  if (σ.1 570 31) ≤ y2 then (
   if zb y1 then (
   some (y1, σ)) else none)
  else (
   if y1 = 0 then (
    s_Model_isWhole_146 rec115 y2 σ)
   else (
    if ib (3 * y2) 30 then (
    if (σ.1 570 30) ≤ (σ.1 580 (Int32.toNatClampNeg (3 * y2))) then (
     s_Model_isWhole_146 rec115 y2 σ)
    else (
     s_Model_isWhole_147 rec115 y2 1 σ)) else none))
def s_Model_isWhole_115 : Nat → Int32 → Int32 → LH → Option (Int32 × LH)
  | 0, _, _, _ => none
  | n + 1, y1, y2, σ => s_Model_isWhole_115_b (s_Model_isWhole_115 n) y1 y2 σ
theorem bb_Model_isWhole_115 {G : XG} {l : Launch} {p : Program} {e : Env} {R : Room} {s : State} {m : MethodId} {args : Array Value} {below : List Frame} {meth : Method} {c : Code} (C : XC G 570 598 p s m args c prog_14_method_35_code 5 R_Model) (hr : meth.sig.returnType = (some .boolean)) (hk : meth.locks = false) {d : Nat} (hd : 1 ≤ d + 1) (hR : xroom R (d + 1)) {rec115 : Int32 → Int32 → LH → Option (Int32 × LH)} {σ' : LH} {r : Int32} (hrec115 : ∀ (y1 : Int32) (y2 : Int32) (σ : LH), rec115 y1 y2 σ = some (r, σ') → XJ G 570 598 p l e R s m args below meth c 5 (XQ G 570 598 below args s (some (.int r)) σ') 0 0 115 [(0, .ref (G.2.2.1 + 570)), (1, .int y1), (2, .int y2)] [] σ) {y1 : Int32} {y2 : Int32} {σ : LH} (h0 : s_Model_isWhole_115_b rec115 y1 y2 σ = some (r, σ')) : XJ G 570 598 p l e R s m args below meth c 5 (XQ G 570 598 below args s (some (.int r)) σ') 0 0 115 [(0, .ref (G.2.2.1 + 570)), (1, .int y1), (2, .int y2)] [] σ := by
  replace h0 := (show _ = _ from h0)
  unfold s_Model_isWhole_115_b at h0
  refine x_iload_n C d_Model_isWhole_115 2 rfl ?_
  refine x_aload_n C d_Model_isWhole_116 0 rfl ?_
  refine x_getI (y := 0) C fg_Model_267 k_570 rfl d_Model_isWhole_117 ?_
  refine x_icmp_ge C 154 d_Model_isWhole_120 (by decide) (fun q3 => ?_) (fun q3 => ?_)
  · replace h0 := xit q3 h0
    refine x_iload_n C d_Model_isWhole_154 1 rfl ?_
    obtain ⟨g4, h0⟩ := xgo h0
    exact x_zret C hr hk g4 h0 d_Model_isWhole_155
  · replace h0 := xif q3 h0
    refine x_iload_n C d_Model_isWhole_123 1 rfl ?_
    refine x_if_eq C 146 d_Model_isWhole_124 (by decide) (fun q5 => ?_) (fun q5 => ?_)
    · replace h0 := xit q5 h0
      exact x_lv C [0, 2] rfl (b_Model_isWhole_146 C hr hk hd hR hrec115 h0)
    · replace h0 := xif q5 h0
      refine x_aload_n C d_Model_isWhole_127 0 rfl ?_
      refine x_getA (y := 580) C fg_Model_52 k_570 rfl d_Model_isWhole_128 ?_
      refine x_iconst (v := 3) C d_Model_isWhole_131 (by decide) ?_
      refine x_iload_n C d_Model_isWhole_132 2 rfl ?_
      refine x_imul C d_Model_isWhole_133 ?_
      obtain ⟨g7, h0⟩ := xgo h0
      refine x_iald C k_580 (ib_in g7) d_Model_isWhole_134 ?_
      refine x_aload_n C d_Model_isWhole_135 0 rfl ?_
      refine x_getI (y := 0) C fg_Model_264 k_570 rfl d_Model_isWhole_136 ?_
      refine x_icmp_ge C 146 d_Model_isWhole_139 (by decide) (fun q8 => ?_) (fun q8 => ?_)
      · replace h0 := xit q8 h0
        exact x_lv C [0, 2] rfl (b_Model_isWhole_146 C hr hk hd hR hrec115 h0)
      · replace h0 := xif q8 h0
        refine x_iconst (v := 1) C d_Model_isWhole_142 (by decide) ?_
        refine x_goto C 147 d_Model_isWhole_143 (by decide) ?_
        exact x_lv C [0, 2] rfl (b_Model_isWhole_147 C hr hk hd hR hrec115 h0)
theorem b_Model_isWhole_115 {G : XG} {l : Launch} {p : Program} {e : Env} {R : Room} {s : State} {m : MethodId} {args : Array Value} {below : List Frame} {meth : Method} {c : Code} (C : XC G 570 598 p s m args c prog_14_method_35_code 5 R_Model) (hr : meth.sig.returnType = (some .boolean)) (hk : meth.locks = false) {d : Nat} (hd : 1 ≤ d + 1) (hR : xroom R (d + 1)) {σ' : LH} {r : Int32} : ∀ (n : Nat) (y1 : Int32) (y2 : Int32) (σ : LH), s_Model_isWhole_115 n y1 y2 σ = some (r, σ') → XJ G 570 598 p l e R s m args below meth c 5 (XQ G 570 598 below args s (some (.int r)) σ') 0 0 115 [(0, .ref (G.2.2.1 + 570)), (1, .int y1), (2, .int y2)] [] σ := by
  intro n
  induction n with
  | zero => intro y1 y2 σ h0; cases h0
  | succ n ih => intro y1 y2 σ h0; exact bb_Model_isWhole_115 C hr hk hd hR ih h0
def s_Model_isWhole_100 (rec66 : Int32 → Int32 → Int32 → Int32 → LH → Option (Int32 × LH)) (y2 : Int32) (y3 : Int32) (y4 : Int32) (z0 : Int32) (σ : LH) : Option (Int32 × LH) :=
  xl ((y4 + 1) : Int32) fun x15 =>
  rec66 z0 y2 y3 x15 σ
theorem b_Model_isWhole_100 {G : XG} {l : Launch} {p : Program} {e : Env} {R : Room} {s : State} {m : MethodId} {args : Array Value} {below : List Frame} {meth : Method} {c : Code} (C : XC G 570 598 p s m args c prog_14_method_35_code 5 R_Model) (hr : meth.sig.returnType = (some .boolean)) (hk : meth.locks = false) {d : Nat} (hd : 1 ≤ d + 1) (hR : xroom R (d + 1)) {rec66 : Int32 → Int32 → Int32 → Int32 → LH → Option (Int32 × LH)} {σ' : LH} {r : Int32} (hrec66 : ∀ (y1 : Int32) (y2 : Int32) (y3 : Int32) (y4 : Int32) (σ : LH), rec66 y1 y2 y3 y4 σ = some (r, σ') → XJ G 570 598 p l e R s m args below meth c 5 (XQ G 570 598 below args s (some (.int r)) σ') 0 0 66 [(0, .ref (G.2.2.1 + 570)), (1, .int y1), (2, .int y2), (3, .int y3), (4, .int y4)] [] σ) {y2 : Int32} {y3 : Int32} {y4 : Int32} {z0 : Int32} {σ : LH} (h0 : s_Model_isWhole_100 rec66 y2 y3 y4 z0 σ = some (r, σ')) : XJ G 570 598 p l e R s m args below meth c 5 (XQ G 570 598 below args s (some (.int r)) σ') 0 0 100 [(0, .ref (G.2.2.1 + 570)), (2, .int y2), (3, .int y3), (4, .int y4)] [.int z0] σ := by
  replace h0 := (show _ = _ from h0)
  unfold s_Model_isWhole_100 at h0
  refine x_istore_n (lv' := [(1, .int z0), (0, .ref (G.2.2.1 + 570)), (2, .int y2), (3, .int y3), (4, .int y4)]) C d_Model_isWhole_100 rfl (by decide) rfl ?_
  obtain ⟨x15, ex15, h0⟩ := xlet h0
  refine x_iinc (lv' := [(4, .int x15), (1, .int z0), (0, .ref (G.2.2.1 + 570)), (2, .int y2), (3, .int y3)]) C d_Model_isWhole_101 4 rfl ex15 (by decide) rfl ?_
  refine x_goto C 66 d_Model_isWhole_104 (by decide) ?_
  exact x_lv C [2, 1, 3, 4, 0] rfl (hrec66 _ _ _ _ _ h0)
def s_Model_isWhole_99 (rec66 : Int32 → Int32 → Int32 → Int32 → LH → Option (Int32 × LH)) (y2 : Int32) (y3 : Int32) (y4 : Int32) (σ : LH) : Option (Int32 × LH) :=
  s_Model_isWhole_100 rec66 y2 y3 y4 0 σ
theorem b_Model_isWhole_99 {G : XG} {l : Launch} {p : Program} {e : Env} {R : Room} {s : State} {m : MethodId} {args : Array Value} {below : List Frame} {meth : Method} {c : Code} (C : XC G 570 598 p s m args c prog_14_method_35_code 5 R_Model) (hr : meth.sig.returnType = (some .boolean)) (hk : meth.locks = false) {d : Nat} (hd : 1 ≤ d + 1) (hR : xroom R (d + 1)) {rec66 : Int32 → Int32 → Int32 → Int32 → LH → Option (Int32 × LH)} {σ' : LH} {r : Int32} (hrec66 : ∀ (y1 : Int32) (y2 : Int32) (y3 : Int32) (y4 : Int32) (σ : LH), rec66 y1 y2 y3 y4 σ = some (r, σ') → XJ G 570 598 p l e R s m args below meth c 5 (XQ G 570 598 below args s (some (.int r)) σ') 0 0 66 [(0, .ref (G.2.2.1 + 570)), (1, .int y1), (2, .int y2), (3, .int y3), (4, .int y4)] [] σ) {y2 : Int32} {y3 : Int32} {y4 : Int32} {σ : LH} (h0 : s_Model_isWhole_99 rec66 y2 y3 y4 σ = some (r, σ')) : XJ G 570 598 p l e R s m args below meth c 5 (XQ G 570 598 below args s (some (.int r)) σ') 0 0 99 [(0, .ref (G.2.2.1 + 570)), (2, .int y2), (3, .int y3), (4, .int y4)] [] σ := by
  replace h0 := (show _ = _ from h0)
  unfold s_Model_isWhole_99 at h0
  refine x_iconst (v := 0) C d_Model_isWhole_99 (by decide) ?_
  exact x_lv C [0, 1, 2, 3] rfl (b_Model_isWhole_100 C hr hk hd hR hrec66 h0)
def s_Model_isWhole_95 (rec66 : Int32 → Int32 → Int32 → Int32 → LH → Option (Int32 × LH)) (y2 : Int32) (y3 : Int32) (y4 : Int32) (σ : LH) : Option (Int32 × LH) :=
  s_Model_isWhole_100 rec66 y2 y3 y4 1 σ
theorem b_Model_isWhole_95 {G : XG} {l : Launch} {p : Program} {e : Env} {R : Room} {s : State} {m : MethodId} {args : Array Value} {below : List Frame} {meth : Method} {c : Code} (C : XC G 570 598 p s m args c prog_14_method_35_code 5 R_Model) (hr : meth.sig.returnType = (some .boolean)) (hk : meth.locks = false) {d : Nat} (hd : 1 ≤ d + 1) (hR : xroom R (d + 1)) {rec66 : Int32 → Int32 → Int32 → Int32 → LH → Option (Int32 × LH)} {σ' : LH} {r : Int32} (hrec66 : ∀ (y1 : Int32) (y2 : Int32) (y3 : Int32) (y4 : Int32) (σ : LH), rec66 y1 y2 y3 y4 σ = some (r, σ') → XJ G 570 598 p l e R s m args below meth c 5 (XQ G 570 598 below args s (some (.int r)) σ') 0 0 66 [(0, .ref (G.2.2.1 + 570)), (1, .int y1), (2, .int y2), (3, .int y3), (4, .int y4)] [] σ) {y2 : Int32} {y3 : Int32} {y4 : Int32} {σ : LH} (h0 : s_Model_isWhole_95 rec66 y2 y3 y4 σ = some (r, σ')) : XJ G 570 598 p l e R s m args below meth c 5 (XQ G 570 598 below args s (some (.int r)) σ') 0 0 95 [(0, .ref (G.2.2.1 + 570)), (2, .int y2), (3, .int y3), (4, .int y4)] [] σ := by
  replace h0 := (show _ = _ from h0)
  unfold s_Model_isWhole_95 at h0
  refine x_iconst (v := 1) C d_Model_isWhole_95 (by decide) ?_
  refine x_goto C 100 d_Model_isWhole_96 (by decide) ?_
  exact x_lv C [0, 1, 2, 3] rfl (b_Model_isWhole_100 C hr hk hd hR hrec66 h0)
def s_Model_isWhole_66_b (rec22 : Int32 → Int32 → LH → Option (Int32 × LH)) (rec66 : Int32 → Int32 → Int32 → Int32 → LH → Option (Int32 × LH)) (y1 : Int32) (y2 : Int32) (y3 : Int32) (y4 : Int32) (σ : LH) : Option (Int32 × LH) :=
  if y2 ≤ y4 then (
   xl ((y2 + 1) : Int32) fun x13 =>
   rec22 y1 x13 σ)
  else (
   if y1 = 0 then (
    s_Model_isWhole_99 rec66 y2 y3 y4 σ)
   else (
    if y3 = 8 then (
     s_Model_isWhole_95 rec66 y2 y3 y4 σ)
    else (
     if ib (4 * y4) 32 then (
     if (σ.1 578 (Int32.toNatClampNeg (4 * y4))) = y3 then (
      s_Model_isWhole_99 rec66 y2 y3 y4 σ)
     else (
      s_Model_isWhole_95 rec66 y2 y3 y4 σ)) else none)))
def s_Model_isWhole_66 (rec22 : Int32 → Int32 → LH → Option (Int32 × LH)) : Nat → Int32 → Int32 → Int32 → Int32 → LH → Option (Int32 × LH)
  | 0, _, _, _, _, _ => none
  | n + 1, y1, y2, y3, y4, σ => s_Model_isWhole_66_b rec22 (s_Model_isWhole_66 rec22 n) y1 y2 y3 y4 σ
theorem bb_Model_isWhole_66 {G : XG} {l : Launch} {p : Program} {e : Env} {R : Room} {s : State} {m : MethodId} {args : Array Value} {below : List Frame} {meth : Method} {c : Code} (C : XC G 570 598 p s m args c prog_14_method_35_code 5 R_Model) (hr : meth.sig.returnType = (some .boolean)) (hk : meth.locks = false) {d : Nat} (hd : 1 ≤ d + 1) (hR : xroom R (d + 1)) {rec22 : Int32 → Int32 → LH → Option (Int32 × LH)} {rec66 : Int32 → Int32 → Int32 → Int32 → LH → Option (Int32 × LH)} {σ' : LH} {r : Int32} (hrec22 : ∀ (y1 : Int32) (y2 : Int32) (σ : LH), rec22 y1 y2 σ = some (r, σ') → XJ G 570 598 p l e R s m args below meth c 5 (XQ G 570 598 below args s (some (.int r)) σ') 0 0 22 [(0, .ref (G.2.2.1 + 570)), (1, .int y1), (2, .int y2)] [] σ) (hrec66 : ∀ (y1 : Int32) (y2 : Int32) (y3 : Int32) (y4 : Int32) (σ : LH), rec66 y1 y2 y3 y4 σ = some (r, σ') → XJ G 570 598 p l e R s m args below meth c 5 (XQ G 570 598 below args s (some (.int r)) σ') 0 0 66 [(0, .ref (G.2.2.1 + 570)), (1, .int y1), (2, .int y2), (3, .int y3), (4, .int y4)] [] σ) {y1 : Int32} {y2 : Int32} {y3 : Int32} {y4 : Int32} {σ : LH} (h0 : s_Model_isWhole_66_b rec22 rec66 y1 y2 y3 y4 σ = some (r, σ')) : XJ G 570 598 p l e R s m args below meth c 5 (XQ G 570 598 below args s (some (.int r)) σ') 0 0 66 [(0, .ref (G.2.2.1 + 570)), (1, .int y1), (2, .int y2), (3, .int y3), (4, .int y4)] [] σ := by
  replace h0 := (show _ = _ from h0)
  unfold s_Model_isWhole_66_b at h0
  refine x_iload C d_Model_isWhole_66 4 rfl ?_
  refine x_iload_n C d_Model_isWhole_68 2 rfl ?_
  refine x_icmp_ge C 107 d_Model_isWhole_69 (by decide) (fun q12 => ?_) (fun q12 => ?_)
  · replace h0 := xit q12 h0
    obtain ⟨x13, ex13, h0⟩ := xlet h0
    refine x_iinc (lv' := [(2, .int x13), (0, .ref (G.2.2.1 + 570)), (1, .int y1), (3, .int y3), (4, .int y4)]) C d_Model_isWhole_107 2 rfl ex13 (by decide) rfl ?_
    refine x_goto C 22 d_Model_isWhole_110 (by decide) ?_
    exact x_lv C [1, 2, 0] rfl (hrec22 _ _ _ h0)
  · replace h0 := xif q12 h0
    refine x_iload_n C d_Model_isWhole_72 1 rfl ?_
    refine x_if_eq C 99 d_Model_isWhole_73 (by decide) (fun q14 => ?_) (fun q14 => ?_)
    · replace h0 := xit q14 h0
      exact x_lv C [0, 2, 3, 4] rfl (b_Model_isWhole_99 C hr hk hd hR hrec66 h0)
    · replace h0 := xif q14 h0
      refine x_iload_n C d_Model_isWhole_76 3 rfl ?_
      refine x_bipush (v := 8) C d_Model_isWhole_77 (by decide) ?_
      refine x_icmp_eq C 95 d_Model_isWhole_79 (by decide) (fun q16 => ?_) (fun q16 => ?_)
      · replace h0 := xit q16 h0
        exact x_lv C [0, 2, 3, 4] rfl (b_Model_isWhole_95 C hr hk hd hR hrec66 h0)
      · replace h0 := xif q16 h0
        refine x_aload_n C d_Model_isWhole_82 0 rfl ?_
        refine x_getA (y := 578) C fg_Model_46 k_570 rfl d_Model_isWhole_83 ?_
        refine x_iconst (v := 4) C d_Model_isWhole_86 (by decide) ?_
        refine x_iload C d_Model_isWhole_87 4 rfl ?_
        refine x_imul C d_Model_isWhole_89 ?_
        obtain ⟨g17, h0⟩ := xgo h0
        refine x_iald C k_578 (ib_in g17) d_Model_isWhole_90 ?_
        refine x_iload_n C d_Model_isWhole_91 3 rfl ?_
        refine x_icmp_eq C 99 d_Model_isWhole_92 (by decide) (fun q18 => ?_) (fun q18 => ?_)
        · replace h0 := xit q18 h0
          exact x_lv C [0, 2, 3, 4] rfl (b_Model_isWhole_99 C hr hk hd hR hrec66 h0)
        · replace h0 := xif q18 h0
          exact x_lv C [0, 2, 3, 4] rfl (b_Model_isWhole_95 C hr hk hd hR hrec66 h0)
theorem b_Model_isWhole_66 {G : XG} {l : Launch} {p : Program} {e : Env} {R : Room} {s : State} {m : MethodId} {args : Array Value} {below : List Frame} {meth : Method} {c : Code} (C : XC G 570 598 p s m args c prog_14_method_35_code 5 R_Model) (hr : meth.sig.returnType = (some .boolean)) (hk : meth.locks = false) {d : Nat} (hd : 1 ≤ d + 1) (hR : xroom R (d + 1)) {rec22 : Int32 → Int32 → LH → Option (Int32 × LH)} {σ' : LH} {r : Int32} (hrec22 : ∀ (y1 : Int32) (y2 : Int32) (σ : LH), rec22 y1 y2 σ = some (r, σ') → XJ G 570 598 p l e R s m args below meth c 5 (XQ G 570 598 below args s (some (.int r)) σ') 0 0 22 [(0, .ref (G.2.2.1 + 570)), (1, .int y1), (2, .int y2)] [] σ) : ∀ (n : Nat) (y1 : Int32) (y2 : Int32) (y3 : Int32) (y4 : Int32) (σ : LH), s_Model_isWhole_66 rec22 n y1 y2 y3 y4 σ = some (r, σ') → XJ G 570 598 p l e R s m args below meth c 5 (XQ G 570 598 below args s (some (.int r)) σ') 0 0 66 [(0, .ref (G.2.2.1 + 570)), (1, .int y1), (2, .int y2), (3, .int y3), (4, .int y4)] [] σ := by
  intro n
  induction n with
  | zero => intro y1 y2 y3 y4 σ h0; cases h0
  | succ n ih => intro y1 y2 y3 y4 σ h0; exact bb_Model_isWhole_66 C hr hk hd hR hrec22 ih h0
def s_Model_isWhole_62 (rec22 : Int32 → Int32 → LH → Option (Int32 × LH)) (y2 : Int32) (y3 : Int32) (z0 : Int32) (σ : LH) : Option (Int32 × LH) :=
  s_Model_isWhole_66 rec22 FUEL z0 y2 y3 0 σ
theorem b_Model_isWhole_62 {G : XG} {l : Launch} {p : Program} {e : Env} {R : Room} {s : State} {m : MethodId} {args : Array Value} {below : List Frame} {meth : Method} {c : Code} (C : XC G 570 598 p s m args c prog_14_method_35_code 5 R_Model) (hr : meth.sig.returnType = (some .boolean)) (hk : meth.locks = false) {d : Nat} (hd : 1 ≤ d + 1) (hR : xroom R (d + 1)) {rec22 : Int32 → Int32 → LH → Option (Int32 × LH)} {σ' : LH} {r : Int32} (hrec22 : ∀ (y1 : Int32) (y2 : Int32) (σ : LH), rec22 y1 y2 σ = some (r, σ') → XJ G 570 598 p l e R s m args below meth c 5 (XQ G 570 598 below args s (some (.int r)) σ') 0 0 22 [(0, .ref (G.2.2.1 + 570)), (1, .int y1), (2, .int y2)] [] σ) {y2 : Int32} {y3 : Int32} {z0 : Int32} {σ : LH} (h0 : s_Model_isWhole_62 rec22 y2 y3 z0 σ = some (r, σ')) : XJ G 570 598 p l e R s m args below meth c 5 (XQ G 570 598 below args s (some (.int r)) σ') 0 0 62 [(0, .ref (G.2.2.1 + 570)), (2, .int y2), (3, .int y3)] [.int z0] σ := by
  replace h0 := (show _ = _ from h0)
  unfold s_Model_isWhole_62 at h0
  refine x_istore_n (lv' := [(1, .int z0), (0, .ref (G.2.2.1 + 570)), (2, .int y2), (3, .int y3)]) C d_Model_isWhole_62 rfl (by decide) rfl ?_
  refine x_iconst (v := 0) C d_Model_isWhole_63 (by decide) ?_
  refine x_istore (lv' := [(4, .int 0), (1, .int z0), (0, .ref (G.2.2.1 + 570)), (2, .int y2), (3, .int y3)]) C d_Model_isWhole_64 (by decide) rfl ?_
  exact x_lv C [2, 1, 3, 4, 0] rfl (b_Model_isWhole_66 C hr hk hd hR hrec22 FUEL _ _ _ _ _ h0)
def s_Model_isWhole_61 (rec22 : Int32 → Int32 → LH → Option (Int32 × LH)) (y2 : Int32) (y3 : Int32) (σ : LH) : Option (Int32 × LH) :=
  s_Model_isWhole_62 rec22 y2 y3 0 σ
theorem b_Model_isWhole_61 {G : XG} {l : Launch} {p : Program} {e : Env} {R : Room} {s : State} {m : MethodId} {args : Array Value} {below : List Frame} {meth : Method} {c : Code} (C : XC G 570 598 p s m args c prog_14_method_35_code 5 R_Model) (hr : meth.sig.returnType = (some .boolean)) (hk : meth.locks = false) {d : Nat} (hd : 1 ≤ d + 1) (hR : xroom R (d + 1)) {rec22 : Int32 → Int32 → LH → Option (Int32 × LH)} {σ' : LH} {r : Int32} (hrec22 : ∀ (y1 : Int32) (y2 : Int32) (σ : LH), rec22 y1 y2 σ = some (r, σ') → XJ G 570 598 p l e R s m args below meth c 5 (XQ G 570 598 below args s (some (.int r)) σ') 0 0 22 [(0, .ref (G.2.2.1 + 570)), (1, .int y1), (2, .int y2)] [] σ) {y2 : Int32} {y3 : Int32} {σ : LH} (h0 : s_Model_isWhole_61 rec22 y2 y3 σ = some (r, σ')) : XJ G 570 598 p l e R s m args below meth c 5 (XQ G 570 598 below args s (some (.int r)) σ') 0 0 61 [(0, .ref (G.2.2.1 + 570)), (2, .int y2), (3, .int y3)] [] σ := by
  replace h0 := (show _ = _ from h0)
  unfold s_Model_isWhole_61 at h0
  refine x_iconst (v := 0) C d_Model_isWhole_61 (by decide) ?_
  exact x_lv C [0, 1, 2] rfl (b_Model_isWhole_62 C hr hk hd hR hrec22 h0)
def s_Model_isWhole_57 (rec22 : Int32 → Int32 → LH → Option (Int32 × LH)) (y2 : Int32) (y3 : Int32) (σ : LH) : Option (Int32 × LH) :=
  s_Model_isWhole_62 rec22 y2 y3 1 σ
theorem b_Model_isWhole_57 {G : XG} {l : Launch} {p : Program} {e : Env} {R : Room} {s : State} {m : MethodId} {args : Array Value} {below : List Frame} {meth : Method} {c : Code} (C : XC G 570 598 p s m args c prog_14_method_35_code 5 R_Model) (hr : meth.sig.returnType = (some .boolean)) (hk : meth.locks = false) {d : Nat} (hd : 1 ≤ d + 1) (hR : xroom R (d + 1)) {rec22 : Int32 → Int32 → LH → Option (Int32 × LH)} {σ' : LH} {r : Int32} (hrec22 : ∀ (y1 : Int32) (y2 : Int32) (σ : LH), rec22 y1 y2 σ = some (r, σ') → XJ G 570 598 p l e R s m args below meth c 5 (XQ G 570 598 below args s (some (.int r)) σ') 0 0 22 [(0, .ref (G.2.2.1 + 570)), (1, .int y1), (2, .int y2)] [] σ) {y2 : Int32} {y3 : Int32} {σ : LH} (h0 : s_Model_isWhole_57 rec22 y2 y3 σ = some (r, σ')) : XJ G 570 598 p l e R s m args below meth c 5 (XQ G 570 598 below args s (some (.int r)) σ') 0 0 57 [(0, .ref (G.2.2.1 + 570)), (2, .int y2), (3, .int y3)] [] σ := by
  replace h0 := (show _ = _ from h0)
  unfold s_Model_isWhole_57 at h0
  refine x_iconst (v := 1) C d_Model_isWhole_57 (by decide) ?_
  refine x_goto C 62 d_Model_isWhole_58 (by decide) ?_
  exact x_lv C [0, 1, 2] rfl (b_Model_isWhole_62 C hr hk hd hR hrec22 h0)
def s_Model_isWhole_22_b (rec22 : Int32 → Int32 → LH → Option (Int32 × LH)) (y1 : Int32) (y2 : Int32) (σ : LH) : Option (Int32 × LH) :=
  if (σ.1 570 30) ≤ y2 then (
   s_Model_isWhole_115 FUEL y1 0 σ)
  else (
   if ib (4 * y2) 32 then (
   xl (((σ.1 578 (Int32.toNatClampNeg (4 * y2)))) : Int32) fun x10 =>
   if y1 = 0 then (
    s_Model_isWhole_61 rec22 y2 x10 σ)
   else (
    if x10 = 8 then (
     s_Model_isWhole_57 rec22 y2 x10 σ)
    else (
     if (σ.1 570 29) ≤ x10 then (
      s_Model_isWhole_61 rec22 y2 x10 σ)
     else (
      s_Model_isWhole_57 rec22 y2 x10 σ)))) else none)
def s_Model_isWhole_22 : Nat → Int32 → Int32 → LH → Option (Int32 × LH)
  | 0, _, _, _ => none
  | n + 1, y1, y2, σ => s_Model_isWhole_22_b (s_Model_isWhole_22 n) y1 y2 σ
theorem bb_Model_isWhole_22 {G : XG} {l : Launch} {p : Program} {e : Env} {R : Room} {s : State} {m : MethodId} {args : Array Value} {below : List Frame} {meth : Method} {c : Code} (C : XC G 570 598 p s m args c prog_14_method_35_code 5 R_Model) (hr : meth.sig.returnType = (some .boolean)) (hk : meth.locks = false) {d : Nat} (hd : 1 ≤ d + 1) (hR : xroom R (d + 1)) {rec22 : Int32 → Int32 → LH → Option (Int32 × LH)} {σ' : LH} {r : Int32} (hrec22 : ∀ (y1 : Int32) (y2 : Int32) (σ : LH), rec22 y1 y2 σ = some (r, σ') → XJ G 570 598 p l e R s m args below meth c 5 (XQ G 570 598 below args s (some (.int r)) σ') 0 0 22 [(0, .ref (G.2.2.1 + 570)), (1, .int y1), (2, .int y2)] [] σ) {y1 : Int32} {y2 : Int32} {σ : LH} (h0 : s_Model_isWhole_22_b rec22 y1 y2 σ = some (r, σ')) : XJ G 570 598 p l e R s m args below meth c 5 (XQ G 570 598 below args s (some (.int r)) σ') 0 0 22 [(0, .ref (G.2.2.1 + 570)), (1, .int y1), (2, .int y2)] [] σ := by
  replace h0 := (show _ = _ from h0)
  unfold s_Model_isWhole_22_b at h0
  refine x_iload_n C d_Model_isWhole_22 2 rfl ?_
  refine x_aload_n C d_Model_isWhole_23 0 rfl ?_
  refine x_getI (y := 0) C fg_Model_264 k_570 rfl d_Model_isWhole_24 ?_
  refine x_icmp_ge C 113 d_Model_isWhole_27 (by decide) (fun q2 => ?_) (fun q2 => ?_)
  · replace h0 := xit q2 h0
    refine x_iconst (v := 0) C d_Model_isWhole_113 (by decide) ?_
    refine x_istore_n (lv' := [(2, .int 0), (0, .ref (G.2.2.1 + 570)), (1, .int y1)]) C d_Model_isWhole_114 rfl (by decide) rfl ?_
    exact x_lv C [1, 2, 0] rfl (b_Model_isWhole_115 C hr hk hd hR FUEL _ _ _ h0)
  · replace h0 := xif q2 h0
    refine x_aload_n C d_Model_isWhole_30 0 rfl ?_
    refine x_getA (y := 578) C fg_Model_46 k_570 rfl d_Model_isWhole_31 ?_
    refine x_iconst (v := 4) C d_Model_isWhole_34 (by decide) ?_
    refine x_iload_n C d_Model_isWhole_35 2 rfl ?_
    refine x_imul C d_Model_isWhole_36 ?_
    obtain ⟨g9, h0⟩ := xgo h0
    refine x_iald C k_578 (ib_in g9) d_Model_isWhole_37 ?_
    obtain ⟨x10, ex10, h0⟩ := xlet h0
    refine x_name C ex10 ?_
    refine x_istore_n (lv' := [(3, .int x10), (0, .ref (G.2.2.1 + 570)), (1, .int y1), (2, .int y2)]) C d_Model_isWhole_38 rfl (by decide) rfl ?_
    refine x_iload_n C d_Model_isWhole_39 2 rfl ?_
    refine x_if_eq C 61 d_Model_isWhole_40 (by decide) (fun q11 => ?_) (fun q11 => ?_)
    · replace h0 := xit q11 h0
      exact x_lv C [1, 3, 0] rfl (b_Model_isWhole_61 C hr hk hd hR hrec22 h0)
    · replace h0 := xif q11 h0
      refine x_iload_n C d_Model_isWhole_43 0 rfl ?_
      refine x_bipush (v := 8) C d_Model_isWhole_44 (by decide) ?_
      refine x_icmp_eq C 57 d_Model_isWhole_46 (by decide) (fun q19 => ?_) (fun q19 => ?_)
      · replace h0 := xit q19 h0
        exact x_lv C [1, 3, 0] rfl (b_Model_isWhole_57 C hr hk hd hR hrec22 h0)
      · replace h0 := xif q19 h0
        refine x_iload_n C d_Model_isWhole_49 0 rfl ?_
        refine x_aload_n C d_Model_isWhole_50 1 rfl ?_
        refine x_getI (y := 0) C fg_Model_261 k_570 rfl d_Model_isWhole_51 ?_
        refine x_icmp_ge C 61 d_Model_isWhole_54 (by decide) (fun q20 => ?_) (fun q20 => ?_)
        · replace h0 := xit q20 h0
          exact x_lv C [1, 3, 0] rfl (b_Model_isWhole_61 C hr hk hd hR hrec22 h0)
        · replace h0 := xif q20 h0
          exact x_lv C [1, 3, 0] rfl (b_Model_isWhole_57 C hr hk hd hR hrec22 h0)
theorem b_Model_isWhole_22 {G : XG} {l : Launch} {p : Program} {e : Env} {R : Room} {s : State} {m : MethodId} {args : Array Value} {below : List Frame} {meth : Method} {c : Code} (C : XC G 570 598 p s m args c prog_14_method_35_code 5 R_Model) (hr : meth.sig.returnType = (some .boolean)) (hk : meth.locks = false) {d : Nat} (hd : 1 ≤ d + 1) (hR : xroom R (d + 1)) {σ' : LH} {r : Int32} : ∀ (n : Nat) (y1 : Int32) (y2 : Int32) (σ : LH), s_Model_isWhole_22 n y1 y2 σ = some (r, σ') → XJ G 570 598 p l e R s m args below meth c 5 (XQ G 570 598 below args s (some (.int r)) σ') 0 0 22 [(0, .ref (G.2.2.1 + 570)), (1, .int y1), (2, .int y2)] [] σ := by
  intro n
  induction n with
  | zero => intro y1 y2 σ h0; cases h0
  | succ n ih => intro y1 y2 σ h0; exact bb_Model_isWhole_22 C hr hk hd hR ih h0
def s_Model_isWhole_19 (z0 : Int32) (σ : LH) : Option (Int32 × LH) :=
  s_Model_isWhole_22 FUEL z0 0 σ
theorem b_Model_isWhole_19 {G : XG} {l : Launch} {p : Program} {e : Env} {R : Room} {s : State} {m : MethodId} {args : Array Value} {below : List Frame} {meth : Method} {c : Code} (C : XC G 570 598 p s m args c prog_14_method_35_code 5 R_Model) (hr : meth.sig.returnType = (some .boolean)) (hk : meth.locks = false) {d : Nat} (hd : 1 ≤ d + 1) (hR : xroom R (d + 1)) {σ' : LH} {r : Int32} {z0 : Int32} {σ : LH} (h0 : s_Model_isWhole_19 z0 σ = some (r, σ')) : XJ G 570 598 p l e R s m args below meth c 5 (XQ G 570 598 below args s (some (.int r)) σ') 0 0 19 [(0, .ref (G.2.2.1 + 570))] [.int z0] σ := by
  replace h0 := (show _ = _ from h0)
  unfold s_Model_isWhole_19 at h0
  refine x_istore_n (lv' := [(1, .int z0), (0, .ref (G.2.2.1 + 570))]) C d_Model_isWhole_19 rfl (by decide) rfl ?_
  refine x_iconst (v := 0) C d_Model_isWhole_20 (by decide) ?_
  refine x_istore_n (lv' := [(2, .int 0), (1, .int z0), (0, .ref (G.2.2.1 + 570))]) C d_Model_isWhole_21 rfl (by decide) rfl ?_
  exact x_lv C [2, 1, 0] rfl (b_Model_isWhole_22 C hr hk hd hR FUEL _ _ _ h0)
def s_Model_isWhole_18 (σ : LH) : Option (Int32 × LH) :=
  s_Model_isWhole_19 0 σ
theorem b_Model_isWhole_18 {G : XG} {l : Launch} {p : Program} {e : Env} {R : Room} {s : State} {m : MethodId} {args : Array Value} {below : List Frame} {meth : Method} {c : Code} (C : XC G 570 598 p s m args c prog_14_method_35_code 5 R_Model) (hr : meth.sig.returnType = (some .boolean)) (hk : meth.locks = false) {d : Nat} (hd : 1 ≤ d + 1) (hR : xroom R (d + 1)) {σ' : LH} {r : Int32} {σ : LH} (h0 : s_Model_isWhole_18 σ = some (r, σ')) : XJ G 570 598 p l e R s m args below meth c 5 (XQ G 570 598 below args s (some (.int r)) σ') 0 0 18 [(0, .ref (G.2.2.1 + 570))] [] σ := by
  replace h0 := (show _ = _ from h0)
  unfold s_Model_isWhole_18 at h0
  refine x_iconst (v := 0) C d_Model_isWhole_18 (by decide) ?_
  exact x_lv C [0] rfl (b_Model_isWhole_19 C hr hk hd hR h0)
def s_Model_isWhole (σ : LH) : Option (Int32 × LH) :=
  if (σ.1 570 29) ≤ 0 then (
   s_Model_isWhole_18 σ)
  else (
   if (σ.1 570 30) ≤ 0 then (
    s_Model_isWhole_18 σ)
   else (
    s_Model_isWhole_19 1 σ))
theorem c_Model_isWhole {G : XG} {l : Launch} {d : Nat} (hd : 1 ≤ d) {σ σ' : LH} {r : Int32} (h0 : s_Model_isWhole σ = some (r, σ')) : xM G 570 598 l y_Model_isWhole prog_14_method_35_code 5 (some .boolean) d [.ref (G.2.2.1 + 570)] σ (some (.int r)) σ' := by
  obtain ⟨d, rfl⟩ : ∃ q, d = q + 1 := ⟨d - 1, by omega⟩
  refine x_met R_Model rfl (by decide +kernel) (Nat.le_of_ble_eq_true rfl) fun p e s m below meth c C hr hk hR => ?_
  refine x_lv (lv' := [(0, .ref (G.2.2.1 + 570))]) C [0] rfl ?_
  generalize xrm (d + 1) = R at hR ⊢
  unfold s_Model_isWhole at h0
  refine x_aload_n C d_Model_isWhole_0 0 rfl ?_
  refine x_getI (y := 0) C fg_Model_261 k_570 rfl d_Model_isWhole_1 ?_
  refine x_if_le C 18 d_Model_isWhole_4 (by decide) (fun q1 => ?_) (fun q1 => ?_)
  · replace h0 := xit q1 h0
    exact x_lv C [0] rfl (b_Model_isWhole_18 C hr hk hd hR h0)
  · replace h0 := xif q1 h0
    refine x_aload_n C d_Model_isWhole_7 0 rfl ?_
    refine x_getI (y := 0) C fg_Model_264 k_570 rfl d_Model_isWhole_8 ?_
    refine x_if_le C 18 d_Model_isWhole_11 (by decide) (fun q21 => ?_) (fun q21 => ?_)
    · replace h0 := xit q21 h0
      exact x_lv C [0] rfl (b_Model_isWhole_18 C hr hk hd hR h0)
    · replace h0 := xif q21 h0
      refine x_iconst (v := 1) C d_Model_isWhole_14 (by decide) ?_
      refine x_goto C 19 d_Model_isWhole_15 (by decide) ?_
      exact x_lv C [0] rfl (b_Model_isWhole_19 C hr hk hd hR h0)
-- LostPlacesModel.readRoom()V
theorem d_Model_readRoom_0 : decode prog_14_method_36_code 0 = .ok (.aload_n 0, 1) := by decide +kernel
theorem d_Model_readRoom_1 : decode prog_14_method_36_code 1 = .ok (.aload_n 0, 1) := by decide +kernel
theorem d_Model_readRoom_2 : decode prog_14_method_36_code 2 = .ok (.getfield 9, 3) := by decide +kernel
theorem d_Model_readRoom_5 : decode prog_14_method_36_code 5 = .ok (.iconst 0, 1) := by decide +kernel
theorem d_Model_readRoom_6 : decode prog_14_method_36_code 6 = .ok (.aload_n 0, 1) := by decide +kernel
theorem d_Model_readRoom_7 : decode prog_14_method_36_code 7 = .ok (.getfield 127, 3) := by decide +kernel
theorem d_Model_readRoom_10 : decode prog_14_method_36_code 10 = .ok (.invokevirtual 225, 3) := by decide +kernel
theorem d_Model_readRoom_13 : decode prog_14_method_36_code 13 = .ok (.aload_n 0, 1) := by decide +kernel
theorem d_Model_readRoom_14 : decode prog_14_method_36_code 14 = .ok (.iconst 0, 1) := by decide +kernel
theorem d_Model_readRoom_15 : decode prog_14_method_36_code 15 = .ok (.putfield 261, 3) := by decide +kernel
theorem d_Model_readRoom_18 : decode prog_14_method_36_code 18 = .ok (.aload_n 0, 1) := by decide +kernel
theorem d_Model_readRoom_19 : decode prog_14_method_36_code 19 = .ok (.iconst 0, 1) := by decide +kernel
theorem d_Model_readRoom_20 : decode prog_14_method_36_code 20 = .ok (.putfield 264, 3) := by decide +kernel
theorem d_Model_readRoom_23 : decode prog_14_method_36_code 23 = .ok (.aload_n 0, 1) := by decide +kernel
theorem d_Model_readRoom_24 : decode prog_14_method_36_code 24 = .ok (.iconst 0, 1) := by decide +kernel
theorem d_Model_readRoom_25 : decode prog_14_method_36_code 25 = .ok (.putfield 267, 3) := by decide +kernel
theorem d_Model_readRoom_28 : decode prog_14_method_36_code 28 = .ok (.aload_n 0, 1) := by decide +kernel
theorem d_Model_readRoom_29 : decode prog_14_method_36_code 29 = .ok (.iconst 0, 1) := by decide +kernel
theorem d_Model_readRoom_30 : decode prog_14_method_36_code 30 = .ok (.putfield 270, 3) := by decide +kernel
theorem d_Model_readRoom_33 : decode prog_14_method_36_code 33 = .ok (.iconst 0, 1) := by decide +kernel
theorem d_Model_readRoom_34 : decode prog_14_method_36_code 34 = .ok (.istore_n 1, 1) := by decide +kernel
theorem d_Model_readRoom_35 : decode prog_14_method_36_code 35 = .ok (.iload_n 1, 1) := by decide +kernel
theorem d_Model_readRoom_36 : decode prog_14_method_36_code 36 = .ok (.iconst 2, 1) := by decide +kernel
theorem d_Model_readRoom_37 : decode prog_14_method_36_code 37 = .ok (.if_icmp .ge 21, 3) := by decide +kernel
theorem d_Model_readRoom_40 : decode prog_14_method_36_code 40 = .ok (.aload_n 0, 1) := by decide +kernel
theorem d_Model_readRoom_41 : decode prog_14_method_36_code 41 = .ok (.getfield 58, 3) := by decide +kernel
theorem d_Model_readRoom_44 : decode prog_14_method_36_code 44 = .ok (.iload_n 1, 1) := by decide +kernel
theorem d_Model_readRoom_45 : decode prog_14_method_36_code 45 = .ok (.bipush 101, 2) := by decide +kernel
theorem d_Model_readRoom_47 : decode prog_14_method_36_code 47 = .ok (.iload_n 1, 1) := by decide +kernel
theorem d_Model_readRoom_48 : decode prog_14_method_36_code 48 = .ok (.invokestatic 239, 3) := by decide +kernel
theorem d_Model_readRoom_51 : decode prog_14_method_36_code 51 = .ok (.iastore, 1) := by decide +kernel
theorem d_Model_readRoom_52 : decode prog_14_method_36_code 52 = .ok (.iinc 1 1, 3) := by decide +kernel
theorem d_Model_readRoom_55 : decode prog_14_method_36_code 55 = .ok (.goto (-20), 3) := by decide +kernel
theorem d_Model_readRoom_58 : decode prog_14_method_36_code 58 = .ok (.iconst 1, 1) := by decide +kernel
theorem d_Model_readRoom_59 : decode prog_14_method_36_code 59 = .ok (.istore_n 1, 1) := by decide +kernel
theorem d_Model_readRoom_60 : decode prog_14_method_36_code 60 = .ok (.iload_n 1, 1) := by decide +kernel
theorem d_Model_readRoom_61 : decode prog_14_method_36_code 61 = .ok (.ifCond .eq 55, 3) := by decide +kernel
theorem d_Model_readRoom_64 : decode prog_14_method_36_code 64 = .ok (.aload_n 0, 1) := by decide +kernel
theorem d_Model_readRoom_65 : decode prog_14_method_36_code 65 = .ok (.getfield 146, 3) := by decide +kernel
theorem d_Model_readRoom_68 : decode prog_14_method_36_code 68 = .ok (.iconst (-1), 1) := by decide +kernel
theorem d_Model_readRoom_69 : decode prog_14_method_36_code 69 = .ok (.if_icmp .ne 47, 3) := by decide +kernel
theorem d_Model_readRoom_72 : decode prog_14_method_36_code 72 = .ok (.aload_n 0, 1) := by decide +kernel
theorem d_Model_readRoom_73 : decode prog_14_method_36_code 73 = .ok (.invokevirtual 285, 3) := by decide +kernel
theorem d_Model_readRoom_76 : decode prog_14_method_36_code 76 = .ok (.aload_n 0, 1) := by decide +kernel
theorem d_Model_readRoom_77 : decode prog_14_method_36_code 77 = .ok (.getfield 146, 3) := by decide +kernel
theorem d_Model_readRoom_80 : decode prog_14_method_36_code 80 = .ok (.iconst (-1), 1) := by decide +kernel
theorem d_Model_readRoom_81 : decode prog_14_method_36_code 81 = .ok (.if_icmp .ne 16, 3) := by decide +kernel
theorem d_Model_readRoom_84 : decode prog_14_method_36_code 84 = .ok (.aload_n 0, 1) := by decide +kernel
theorem d_Model_readRoom_85 : decode prog_14_method_36_code 85 = .ok (.invokevirtual 156, 3) := by decide +kernel
theorem d_Model_readRoom_88 : decode prog_14_method_36_code 88 = .ok (.bipush 59, 2) := by decide +kernel
theorem d_Model_readRoom_90 : decode prog_14_method_36_code 90 = .ok (.if_icmp .ne 7, 3) := by decide +kernel
theorem d_Model_readRoom_93 : decode prog_14_method_36_code 93 = .ok (.iconst 1, 1) := by decide +kernel
theorem d_Model_readRoom_94 : decode prog_14_method_36_code 94 = .ok (.goto 4, 3) := by decide +kernel
theorem d_Model_readRoom_97 : decode prog_14_method_36_code 97 = .ok (.iconst 0, 1) := by decide +kernel
theorem d_Model_readRoom_98 : decode prog_14_method_36_code 98 = .ok (.istore_n 1, 1) := by decide +kernel
theorem d_Model_readRoom_99 : decode prog_14_method_36_code 99 = .ok (.iload_n 1, 1) := by decide +kernel
theorem d_Model_readRoom_100 : decode prog_14_method_36_code 100 = .ok (.ifCond .eq (-40), 3) := by decide +kernel
theorem d_Model_readRoom_103 : decode prog_14_method_36_code 103 = .ok (.aload_n 0, 1) := by decide +kernel
theorem d_Model_readRoom_104 : decode prog_14_method_36_code 104 = .ok (.dup, 1) := by decide +kernel
theorem d_Model_readRoom_105 : decode prog_14_method_36_code 105 = .ok (.getfield 137, 3) := by decide +kernel
theorem d_Model_readRoom_108 : decode prog_14_method_36_code 108 = .ok (.iconst 1, 1) := by decide +kernel
theorem d_Model_readRoom_109 : decode prog_14_method_36_code 109 = .ok (.iadd, 1) := by decide +kernel
theorem d_Model_readRoom_110 : decode prog_14_method_36_code 110 = .ok (.putfield 137, 3) := by decide +kernel
theorem d_Model_readRoom_113 : decode prog_14_method_36_code 113 = .ok (.goto (-53), 3) := by decide +kernel
theorem d_Model_readRoom_116 : decode prog_14_method_36_code 116 = .ok (.aload_n 0, 1) := by decide +kernel
theorem d_Model_readRoom_117 : decode prog_14_method_36_code 117 = .ok (.getfield 146, 3) := by decide +kernel
theorem d_Model_readRoom_120 : decode prog_14_method_36_code 120 = .ok (.iconst (-1), 1) := by decide +kernel
theorem d_Model_readRoom_121 : decode prog_14_method_36_code 121 = .ok (.if_icmp .ne 23, 3) := by decide +kernel
theorem d_Model_readRoom_124 : decode prog_14_method_36_code 124 = .ok (.aload_n 0, 1) := by decide +kernel
theorem d_Model_readRoom_125 : decode prog_14_method_36_code 125 = .ok (.invokevirtual 156, 3) := by decide +kernel
theorem d_Model_readRoom_128 : decode prog_14_method_36_code 128 = .ok (.iconst (-1), 1) := by decide +kernel
theorem d_Model_readRoom_129 : decode prog_14_method_36_code 129 = .ok (.if_icmp .ne 10, 3) := by decide +kernel
theorem d_Model_readRoom_132 : decode prog_14_method_36_code 132 = .ok (.aload_n 0, 1) := by decide +kernel
theorem d_Model_readRoom_133 : decode prog_14_method_36_code 133 = .ok (.invokevirtual 288, 3) := by decide +kernel
theorem d_Model_readRoom_136 : decode prog_14_method_36_code 136 = .ok (.ifCond .ne 8, 3) := by decide +kernel
theorem d_Model_readRoom_139 : decode prog_14_method_36_code 139 = .ok (.aload_n 0, 1) := by decide +kernel
theorem d_Model_readRoom_140 : decode prog_14_method_36_code 140 = .ok (.invokevirtual 152, 3) := by decide +kernel
theorem d_Model_readRoom_143 : decode prog_14_method_36_code 143 = .ok (.pop, 1) := by decide +kernel
theorem d_Model_readRoom_144 : decode prog_14_method_36_code 144 = .ok (.return_, 1) := by decide +kernel
def s_Model_readRoom_144 (σ : LH) : Option (LH) :=
  some σ
theorem b_Model_readRoom_144 {G : XG} {l : Launch} {p : Program} {e : Env} {R : Room} {s : State} {m : MethodId} {args : Array Value} {below : List Frame} {meth : Method} {c : Code} (C : XC G 570 598 p s m args c prog_14_method_36_code 2 R_Model) (hr : meth.sig.returnType = none) (hk : meth.locks = false) {d : Nat} (hd : 12 ≤ d + 1) (hR : xroom R (d + 1)) {σ' : LH} {σ : LH} (h0 : s_Model_readRoom_144 σ = some σ') : XJ G 570 598 p l e R s m args below meth c 2 (XQ G 570 598 below args s none σ') 0 0 144 [] [] σ := by
  replace h0 := (show _ = _ from h0)
  unfold s_Model_readRoom_144 at h0
  exact x_vret C hr hk h0 d_Model_readRoom_144
def s_Model_readRoom_139 (σ : LH) : Option (LH) :=
  xb2 (s_Model_fails σ) fun r19 σ20 =>
  s_Model_readRoom_144 σ20
theorem b_Model_readRoom_139 {G : XG} {l : Launch} {p : Program} {e : Env} {R : Room} {s : State} {m : MethodId} {args : Array Value} {below : List Frame} {meth : Method} {c : Code} (C : XC G 570 598 p s m args c prog_14_method_36_code 2 R_Model) (hr : meth.sig.returnType = none) (hk : meth.locks = false) {d : Nat} (hd : 12 ≤ d + 1) (hR : xroom R (d + 1)) {σ' : LH} {σ : LH} (h0 : s_Model_readRoom_139 σ = some σ') : XJ G 570 598 p l e R s m args below meth c 2 (XQ G 570 598 below args s none σ') 0 0 139 [(0, .ref (G.2.2.1 + 570))] [] σ := by
  replace h0 := (show _ = _ from h0)
  unfold s_Model_readRoom_139 at h0
  refine x_aload_n C d_Model_readRoom_139 0 rfl ?_
  obtain ⟨r19, σ20, k18, h0⟩ := xbind2 h0
  refine x_callVi C hR (c_Model_fails (d := d) (by omega) k18) cw_Model_152 k_570 rfl rfl rfl (Nat.le_of_ble_eq_true rfl) ⟨Nat.zero_le _, Nat.zero_le _⟩ d_Model_readRoom_140 ?_
  refine x_pop C d_Model_readRoom_143 rfl ?_
  exact x_lv C [] rfl (b_Model_readRoom_144 C hr hk hd hR h0)
def s_Model_readRoom_116 (σ : LH) : Option (LH) :=
  if (σ.1 570 11) = (-1) then (
   xb2 (s_Model_look σ) fun r11 σ12 =>
   if r11 = (-1) then (
    xb2 (s_Model_isWhole σ12) fun r15 σ16 =>
    if r15 = 0 then (
     s_Model_readRoom_139 σ16)
    else (
     s_Model_readRoom_144 σ16))
   else (
    s_Model_readRoom_139 σ12))
  else (
   s_Model_readRoom_144 σ)
theorem b_Model_readRoom_116 {G : XG} {l : Launch} {p : Program} {e : Env} {R : Room} {s : State} {m : MethodId} {args : Array Value} {below : List Frame} {meth : Method} {c : Code} (C : XC G 570 598 p s m args c prog_14_method_36_code 2 R_Model) (hr : meth.sig.returnType = none) (hk : meth.locks = false) {d : Nat} (hd : 12 ≤ d + 1) (hR : xroom R (d + 1)) {σ' : LH} {σ : LH} (h0 : s_Model_readRoom_116 σ = some σ') : XJ G 570 598 p l e R s m args below meth c 2 (XQ G 570 598 below args s none σ') 0 0 116 [(0, .ref (G.2.2.1 + 570))] [] σ := by
  replace h0 := (show _ = _ from h0)
  unfold s_Model_readRoom_116 at h0
  refine x_aload_n C d_Model_readRoom_116 0 rfl ?_
  refine x_getI (y := 0) C fg_Model_146 k_570 rfl d_Model_readRoom_117 ?_
  refine x_iconst (v := (-1)) C d_Model_readRoom_120 (by decide) ?_
  refine x_icmp_ne C 144 d_Model_readRoom_121 (by decide) (fun q9 => ?_) (fun q9 => ?_)
  · replace h0 := xif q9 h0
    exact x_lv C [] rfl (b_Model_readRoom_144 C hr hk hd hR h0)
  · replace h0 := xit q9 h0
    refine x_aload_n C d_Model_readRoom_124 0 rfl ?_
    obtain ⟨r11, σ12, k10, h0⟩ := xbind2 h0
    refine x_callVi C hR (c_Model_look (d := d) (by omega) k10) cw_Model_156 k_570 rfl rfl rfl (Nat.le_of_ble_eq_true rfl) ⟨Nat.zero_le _, Nat.zero_le _⟩ d_Model_readRoom_125 ?_
    refine x_iconst (v := (-1)) C d_Model_readRoom_128 (by decide) ?_
    refine x_icmp_ne C 139 d_Model_readRoom_129 (by decide) (fun q13 => ?_) (fun q13 => ?_)
    · replace h0 := xif q13 h0
      exact x_lv C [0] rfl (b_Model_readRoom_139 C hr hk hd hR h0)
    · replace h0 := xit q13 h0
      refine x_aload_n C d_Model_readRoom_132 0 rfl ?_
      obtain ⟨r15, σ16, k14, h0⟩ := xbind2 h0
      refine x_callVi C hR (c_Model_isWhole (d := d) (by omega) k14) cw_Model_288 k_570 rfl rfl rfl (Nat.le_of_ble_eq_true rfl) ⟨Nat.zero_le _, Nat.zero_le _⟩ d_Model_readRoom_133 ?_
      refine x_if_ne C 144 d_Model_readRoom_136 (by decide) (fun q17 => ?_) (fun q17 => ?_)
      · replace h0 := xif q17 h0
        exact x_lv C [] rfl (b_Model_readRoom_144 C hr hk hd hR h0)
      · replace h0 := xit q17 h0
        exact x_lv C [0] rfl (b_Model_readRoom_139 C hr hk hd hR h0)
def s_Model_readRoom_98 (rec60 : Int32 → LH → Option (LH)) (z0 : Int32) (σ : LH) : Option (LH) :=
  if z0 = 0 then (
   rec60 z0 σ)
  else (
   xl ((stI σ 570 10 ((σ.1 570 10) + 1)) : LH) fun σ30 =>
   rec60 z0 σ30)
theorem b_Model_readRoom_98 {G : XG} {l : Launch} {p : Program} {e : Env} {R : Room} {s : State} {m : MethodId} {args : Array Value} {below : List Frame} {meth : Method} {c : Code} (C : XC G 570 598 p s m args c prog_14_method_36_code 2 R_Model) (hr : meth.sig.returnType = none) (hk : meth.locks = false) {d : Nat} (hd : 12 ≤ d + 1) (hR : xroom R (d + 1)) {rec60 : Int32 → LH → Option (LH)} {σ' : LH} (hrec60 : ∀ (y1 : Int32) (σ : LH), rec60 y1 σ = some σ' → XJ G 570 598 p l e R s m args below meth c 2 (XQ G 570 598 below args s none σ') 0 0 60 [(0, .ref (G.2.2.1 + 570)), (1, .int y1)] [] σ) {z0 : Int32} {σ : LH} (h0 : s_Model_readRoom_98 rec60 z0 σ = some σ') : XJ G 570 598 p l e R s m args below meth c 2 (XQ G 570 598 below args s none σ') 0 0 98 [(0, .ref (G.2.2.1 + 570))] [.int z0] σ := by
  replace h0 := (show _ = _ from h0)
  unfold s_Model_readRoom_98 at h0
  refine x_istore_n (lv' := [(1, .int z0), (0, .ref (G.2.2.1 + 570))]) C d_Model_readRoom_98 rfl (by decide) rfl ?_
  refine x_iload_n C d_Model_readRoom_99 0 rfl ?_
  refine x_if_eq C 60 d_Model_readRoom_100 (by decide) (fun q29 => ?_) (fun q29 => ?_)
  · replace h0 := xit q29 h0
    exact x_lv C [1, 0] rfl (hrec60 _ _ h0)
  · replace h0 := xif q29 h0
    refine x_aload_n C d_Model_readRoom_103 1 rfl ?_
    refine x_dup C d_Model_readRoom_104 rfl ?_
    refine x_getI (y := 0) C fg_Model_137 k_570 rfl d_Model_readRoom_105 ?_
    refine x_iconst (v := 1) C d_Model_readRoom_108 (by decide) ?_
    refine x_iadd C d_Model_readRoom_109 ?_
    refine x_putI (y := 0) C fp_Model_137 k_570 rfl rfl rfl d_Model_readRoom_110 ?_
    obtain ⟨σ30, eσ30, h0⟩ := xlet h0
    refine x_sig C eσ30 ?_
    refine x_goto C 60 d_Model_readRoom_113 (by decide) ?_
    exact x_lv C [1, 0] rfl (hrec60 _ _ h0)
def s_Model_readRoom_97 (rec60 : Int32 → LH → Option (LH)) (σ : LH) : Option (LH) :=
  s_Model_readRoom_98 rec60 0 σ
theorem b_Model_readRoom_97 {G : XG} {l : Launch} {p : Program} {e : Env} {R : Room} {s : State} {m : MethodId} {args : Array Value} {below : List Frame} {meth : Method} {c : Code} (C : XC G 570 598 p s m args c prog_14_method_36_code 2 R_Model) (hr : meth.sig.returnType = none) (hk : meth.locks = false) {d : Nat} (hd : 12 ≤ d + 1) (hR : xroom R (d + 1)) {rec60 : Int32 → LH → Option (LH)} {σ' : LH} (hrec60 : ∀ (y1 : Int32) (σ : LH), rec60 y1 σ = some σ' → XJ G 570 598 p l e R s m args below meth c 2 (XQ G 570 598 below args s none σ') 0 0 60 [(0, .ref (G.2.2.1 + 570)), (1, .int y1)] [] σ) {σ : LH} (h0 : s_Model_readRoom_97 rec60 σ = some σ') : XJ G 570 598 p l e R s m args below meth c 2 (XQ G 570 598 below args s none σ') 0 0 97 [(0, .ref (G.2.2.1 + 570))] [] σ := by
  replace h0 := (show _ = _ from h0)
  unfold s_Model_readRoom_97 at h0
  refine x_iconst (v := 0) C d_Model_readRoom_97 (by decide) ?_
  exact x_lv C [0] rfl (b_Model_readRoom_98 C hr hk hd hR hrec60 h0)
def s_Model_readRoom_60_b (rec60 : Int32 → LH → Option (LH)) (y1 : Int32) (σ : LH) : Option (LH) :=
  if y1 = 0 then (
   s_Model_readRoom_116 σ)
  else (
   if (σ.1 570 11) = (-1) then (
    xb1 (s_Model_readClause σ) fun σ23 =>
    if (σ23.1 570 11) = (-1) then (
     xb2 (s_Model_look σ23) fun r26 σ27 =>
     if r26 = 59 then (
      s_Model_readRoom_98 rec60 1 σ27)
     else (
      s_Model_readRoom_97 rec60 σ27))
    else (
     s_Model_readRoom_97 rec60 σ23))
   else (
    s_Model_readRoom_116 σ))
def s_Model_readRoom_60 : Nat → Int32 → LH → Option (LH)
  | 0, _, _ => none
  | n + 1, y1, σ => s_Model_readRoom_60_b (s_Model_readRoom_60 n) y1 σ
theorem bb_Model_readRoom_60 {G : XG} {l : Launch} {p : Program} {e : Env} {R : Room} {s : State} {m : MethodId} {args : Array Value} {below : List Frame} {meth : Method} {c : Code} (C : XC G 570 598 p s m args c prog_14_method_36_code 2 R_Model) (hr : meth.sig.returnType = none) (hk : meth.locks = false) {d : Nat} (hd : 12 ≤ d + 1) (hR : xroom R (d + 1)) {rec60 : Int32 → LH → Option (LH)} {σ' : LH} (hrec60 : ∀ (y1 : Int32) (σ : LH), rec60 y1 σ = some σ' → XJ G 570 598 p l e R s m args below meth c 2 (XQ G 570 598 below args s none σ') 0 0 60 [(0, .ref (G.2.2.1 + 570)), (1, .int y1)] [] σ) {y1 : Int32} {σ : LH} (h0 : s_Model_readRoom_60_b rec60 y1 σ = some σ') : XJ G 570 598 p l e R s m args below meth c 2 (XQ G 570 598 below args s none σ') 0 0 60 [(0, .ref (G.2.2.1 + 570)), (1, .int y1)] [] σ := by
  replace h0 := (show _ = _ from h0)
  unfold s_Model_readRoom_60_b at h0
  refine x_iload_n C d_Model_readRoom_60 1 rfl ?_
  refine x_if_eq C 116 d_Model_readRoom_61 (by decide) (fun q8 => ?_) (fun q8 => ?_)
  · replace h0 := xit q8 h0
    exact x_lv C [0] rfl (b_Model_readRoom_116 C hr hk hd hR h0)
  · replace h0 := xif q8 h0
    refine x_aload_n C d_Model_readRoom_64 0 rfl ?_
    refine x_getI (y := 0) C fg_Model_146 k_570 rfl d_Model_readRoom_65 ?_
    refine x_iconst (v := (-1)) C d_Model_readRoom_68 (by decide) ?_
    refine x_icmp_ne C 116 d_Model_readRoom_69 (by decide) (fun q21 => ?_) (fun q21 => ?_)
    · replace h0 := xif q21 h0
      exact x_lv C [0] rfl (b_Model_readRoom_116 C hr hk hd hR h0)
    · replace h0 := xit q21 h0
      refine x_aload_n C d_Model_readRoom_72 0 rfl ?_
      obtain ⟨σ23, k22, h0⟩ := xbind1 h0
      refine x_callVv C hR (c_Model_readClause (d := d) (by omega) k22) cw_Model_285 k_570 rfl rfl rfl (Nat.le_of_ble_eq_true rfl) ⟨Nat.zero_le _, Nat.zero_le _⟩ d_Model_readRoom_73 ?_
      refine x_aload_n C d_Model_readRoom_76 0 rfl ?_
      refine x_getI (y := 0) C fg_Model_146 k_570 rfl d_Model_readRoom_77 ?_
      refine x_iconst (v := (-1)) C d_Model_readRoom_80 (by decide) ?_
      refine x_icmp_ne C 97 d_Model_readRoom_81 (by decide) (fun q24 => ?_) (fun q24 => ?_)
      · replace h0 := xif q24 h0
        exact x_lv C [0] rfl (b_Model_readRoom_97 C hr hk hd hR hrec60 h0)
      · replace h0 := xit q24 h0
        refine x_aload_n C d_Model_readRoom_84 0 rfl ?_
        obtain ⟨r26, σ27, k25, h0⟩ := xbind2 h0
        refine x_callVi C hR (c_Model_look (d := d) (by omega) k25) cw_Model_156 k_570 rfl rfl rfl (Nat.le_of_ble_eq_true rfl) ⟨Nat.zero_le _, Nat.zero_le _⟩ d_Model_readRoom_85 ?_
        refine x_bipush (v := 59) C d_Model_readRoom_88 (by decide) ?_
        refine x_icmp_ne C 97 d_Model_readRoom_90 (by decide) (fun q28 => ?_) (fun q28 => ?_)
        · replace h0 := xif q28 h0
          exact x_lv C [0] rfl (b_Model_readRoom_97 C hr hk hd hR hrec60 h0)
        · replace h0 := xit q28 h0
          refine x_iconst (v := 1) C d_Model_readRoom_93 (by decide) ?_
          refine x_goto C 98 d_Model_readRoom_94 (by decide) ?_
          exact x_lv C [0] rfl (b_Model_readRoom_98 C hr hk hd hR hrec60 h0)
theorem b_Model_readRoom_60 {G : XG} {l : Launch} {p : Program} {e : Env} {R : Room} {s : State} {m : MethodId} {args : Array Value} {below : List Frame} {meth : Method} {c : Code} (C : XC G 570 598 p s m args c prog_14_method_36_code 2 R_Model) (hr : meth.sig.returnType = none) (hk : meth.locks = false) {d : Nat} (hd : 12 ≤ d + 1) (hR : xroom R (d + 1)) {σ' : LH} : ∀ (n : Nat) (y1 : Int32) (σ : LH), s_Model_readRoom_60 n y1 σ = some σ' → XJ G 570 598 p l e R s m args below meth c 2 (XQ G 570 598 below args s none σ') 0 0 60 [(0, .ref (G.2.2.1 + 570)), (1, .int y1)] [] σ := by
  intro n
  induction n with
  | zero => intro y1 σ h0; cases h0
  | succ n ih => intro y1 σ h0; exact bb_Model_readRoom_60 C hr hk hd hR ih h0
def s_Model_readRoom_35_b (rec35 : Int32 → LH → Option (LH)) (y1 : Int32) (σ : LH) : Option (LH) :=
  if 2 ≤ y1 then (
   s_Model_readRoom_60 FUEL 1 σ)
  else (
   xb2 (s_Model_usual 101 y1 σ) fun r32 σ33 =>
   if ib y1 2 then (
   xl ((stI σ33 582 (Int32.toNatClampNeg y1) r32) : LH) fun σ35 =>
   xl ((y1 + 1) : Int32) fun x36 =>
   rec35 x36 σ35) else none)
def s_Model_readRoom_35 : Nat → Int32 → LH → Option (LH)
  | 0, _, _ => none
  | n + 1, y1, σ => s_Model_readRoom_35_b (s_Model_readRoom_35 n) y1 σ
theorem bb_Model_readRoom_35 {G : XG} {l : Launch} {p : Program} {e : Env} {R : Room} {s : State} {m : MethodId} {args : Array Value} {below : List Frame} {meth : Method} {c : Code} (C : XC G 570 598 p s m args c prog_14_method_36_code 2 R_Model) (hr : meth.sig.returnType = none) (hk : meth.locks = false) {d : Nat} (hd : 12 ≤ d + 1) (hR : xroom R (d + 1)) {rec35 : Int32 → LH → Option (LH)} {σ' : LH} (hrec35 : ∀ (y1 : Int32) (σ : LH), rec35 y1 σ = some σ' → XJ G 570 598 p l e R s m args below meth c 2 (XQ G 570 598 below args s none σ') 0 0 35 [(0, .ref (G.2.2.1 + 570)), (1, .int y1)] [] σ) {y1 : Int32} {σ : LH} (h0 : s_Model_readRoom_35_b rec35 y1 σ = some σ') : XJ G 570 598 p l e R s m args below meth c 2 (XQ G 570 598 below args s none σ') 0 0 35 [(0, .ref (G.2.2.1 + 570)), (1, .int y1)] [] σ := by
  replace h0 := (show _ = _ from h0)
  unfold s_Model_readRoom_35_b at h0
  refine x_iload_n C d_Model_readRoom_35 1 rfl ?_
  refine x_iconst (v := 2) C d_Model_readRoom_36 (by decide) ?_
  refine x_icmp_ge C 58 d_Model_readRoom_37 (by decide) (fun q7 => ?_) (fun q7 => ?_)
  · replace h0 := xit q7 h0
    refine x_iconst (v := 1) C d_Model_readRoom_58 (by decide) ?_
    refine x_istore_n (lv' := [(1, .int 1), (0, .ref (G.2.2.1 + 570))]) C d_Model_readRoom_59 rfl (by decide) rfl ?_
    exact x_lv C [1, 0] rfl (b_Model_readRoom_60 C hr hk hd hR FUEL _ _ h0)
  · replace h0 := xif q7 h0
    refine x_aload_n C d_Model_readRoom_40 0 rfl ?_
    refine x_getA (y := 582) C fg_Model_58 k_570 rfl d_Model_readRoom_41 ?_
    refine x_iload_n C d_Model_readRoom_44 1 rfl ?_
    refine x_bipush (v := 101) C d_Model_readRoom_45 (by decide) ?_
    refine x_iload_n C d_Model_readRoom_47 1 rfl ?_
    obtain ⟨r32, σ33, k31, h0⟩ := xbind2 h0
    refine x_callSi C hR (c_Model_usual (d := d) (by omega) k31) cw_Model_239 w_1706 rfl rfl (Nat.le_of_ble_eq_true rfl) ⟨Nat.zero_le _, Nat.zero_le _⟩ d_Model_readRoom_48 ?_
    obtain ⟨g34, h0⟩ := xgo h0
    refine x_iast C k_582 (ib_in g34) d_Model_readRoom_51 ?_
    obtain ⟨σ35, eσ35, h0⟩ := xlet h0
    refine x_sig C eσ35 ?_
    obtain ⟨x36, ex36, h0⟩ := xlet h0
    refine x_iinc (lv' := [(1, .int x36), (0, .ref (G.2.2.1 + 570))]) C d_Model_readRoom_52 1 rfl ex36 (by decide) rfl ?_
    refine x_goto C 35 d_Model_readRoom_55 (by decide) ?_
    exact x_lv C [1, 0] rfl (hrec35 _ _ h0)
theorem b_Model_readRoom_35 {G : XG} {l : Launch} {p : Program} {e : Env} {R : Room} {s : State} {m : MethodId} {args : Array Value} {below : List Frame} {meth : Method} {c : Code} (C : XC G 570 598 p s m args c prog_14_method_36_code 2 R_Model) (hr : meth.sig.returnType = none) (hk : meth.locks = false) {d : Nat} (hd : 12 ≤ d + 1) (hR : xroom R (d + 1)) {σ' : LH} : ∀ (n : Nat) (y1 : Int32) (σ : LH), s_Model_readRoom_35 n y1 σ = some σ' → XJ G 570 598 p l e R s m args below meth c 2 (XQ G 570 598 below args s none σ') 0 0 35 [(0, .ref (G.2.2.1 + 570)), (1, .int y1)] [] σ := by
  intro n
  induction n with
  | zero => intro y1 σ h0; cases h0
  | succ n ih => intro y1 σ h0; exact bb_Model_readRoom_35 C hr hk hd hR ih h0
def s_Model_readRoom (σ : LH) : Option (LH) :=
  xb1 (s_Model_starts 571 0 (σ.1 570 6) σ) fun σ2 =>
  xl ((stI σ2 570 29 0) : LH) fun σ3 =>
  xl ((stI σ3 570 30 0) : LH) fun σ4 =>
  xl ((stI σ4 570 31 0) : LH) fun σ5 =>
  xl ((stI σ5 570 32 0) : LH) fun σ6 =>
  s_Model_readRoom_35 FUEL 0 σ6
theorem c_Model_readRoom {G : XG} {l : Launch} {d : Nat} (hd : 12 ≤ d) {σ σ' : LH} (h0 : s_Model_readRoom σ = some σ') : xM G 570 598 l y_Model_readRoom prog_14_method_36_code 2 none d [.ref (G.2.2.1 + 570)] σ none σ' := by
  obtain ⟨d, rfl⟩ : ∃ q, d = q + 1 := ⟨d - 1, by omega⟩
  refine x_met R_Model rfl (by decide +kernel) (Nat.le_of_ble_eq_true rfl) fun p e s m below meth c C hr hk hR => ?_
  refine x_lv (lv' := [(0, .ref (G.2.2.1 + 570))]) C [0] rfl ?_
  generalize xrm (d + 1) = R at hR ⊢
  unfold s_Model_readRoom at h0
  refine x_aload_n C d_Model_readRoom_0 0 rfl ?_
  refine x_aload_n C d_Model_readRoom_1 0 rfl ?_
  refine x_getA (y := 571) C fg_Model_9 k_570 rfl d_Model_readRoom_2 ?_
  refine x_iconst (v := 0) C d_Model_readRoom_5 (by decide) ?_
  refine x_aload_n C d_Model_readRoom_6 0 rfl ?_
  refine x_getI (y := 0) C fg_Model_127 k_570 rfl d_Model_readRoom_7 ?_
  obtain ⟨σ2, k1, h0⟩ := xbind1 h0
  refine x_callVv C hR (c_Model_starts (d := d) (by omega) (by decide) k1) cw_Model_225 k_570 rfl rfl rfl (Nat.le_of_ble_eq_true rfl) ⟨Nat.zero_le _, Nat.zero_le _⟩ d_Model_readRoom_10 ?_
  refine x_aload_n C d_Model_readRoom_13 0 rfl ?_
  refine x_iconst (v := 0) C d_Model_readRoom_14 (by decide) ?_
  refine x_putI (y := 0) C fp_Model_261 k_570 rfl rfl rfl d_Model_readRoom_15 ?_
  obtain ⟨σ3, eσ3, h0⟩ := xlet h0
  refine x_sig C eσ3 ?_
  refine x_aload_n C d_Model_readRoom_18 0 rfl ?_
  refine x_iconst (v := 0) C d_Model_readRoom_19 (by decide) ?_
  refine x_putI (y := 0) C fp_Model_264 k_570 rfl rfl rfl d_Model_readRoom_20 ?_
  obtain ⟨σ4, eσ4, h0⟩ := xlet h0
  refine x_sig C eσ4 ?_
  refine x_aload_n C d_Model_readRoom_23 0 rfl ?_
  refine x_iconst (v := 0) C d_Model_readRoom_24 (by decide) ?_
  refine x_putI (y := 0) C fp_Model_267 k_570 rfl rfl rfl d_Model_readRoom_25 ?_
  obtain ⟨σ5, eσ5, h0⟩ := xlet h0
  refine x_sig C eσ5 ?_
  refine x_aload_n C d_Model_readRoom_28 0 rfl ?_
  refine x_iconst (v := 0) C d_Model_readRoom_29 (by decide) ?_
  refine x_putI (y := 0) C fp_Model_270 k_570 rfl rfl rfl d_Model_readRoom_30 ?_
  obtain ⟨σ6, eσ6, h0⟩ := xlet h0
  refine x_sig C eσ6 ?_
  refine x_iconst (v := 0) C d_Model_readRoom_33 (by decide) ?_
  refine x_istore_n (lv' := [(1, .int 0), (0, .ref (G.2.2.1 + 570))]) C d_Model_readRoom_34 rfl (by decide) rfl ?_
  exact x_lv C [1, 0] rfl (b_Model_readRoom_35 C hr hk hd hR FUEL _ _ h0)
-- LostPlacesModel.fault(I)I
theorem d_Model_fault_0 : decode prog_14_method_37_code 0 = .ok (.aload_n 0, 1) := by decide +kernel
theorem d_Model_fault_1 : decode prog_14_method_37_code 1 = .ok (.iconst 0, 1) := by decide +kernel
theorem d_Model_fault_2 : decode prog_14_method_37_code 2 = .ok (.putfield 114, 3) := by decide +kernel
theorem d_Model_fault_5 : decode prog_14_method_37_code 5 = .ok (.iload_n 1, 1) := by decide +kernel
theorem d_Model_fault_6 : decode prog_14_method_37_code 6 = .ok (.i2l, 1) := by decide +kernel
theorem d_Model_fault_7 : decode prog_14_method_37_code 7 = .ok (.lconst 0, 1) := by decide +kernel
theorem d_Model_fault_8 : decode prog_14_method_37_code 8 = .ok (.lconst 1, 1) := by decide +kernel
theorem d_Model_fault_9 : decode prog_14_method_37_code 9 = .ok (.invokestatic 235, 3) := by decide +kernel
theorem d_Model_fault_12 : decode prog_14_method_37_code 12 = .ok (.ifCond .ne 6, 3) := by decide +kernel
theorem d_Model_fault_15 : decode prog_14_method_37_code 15 = .ok (.bipush (-2), 2) := by decide +kernel
theorem d_Model_fault_17 : decode prog_14_method_37_code 17 = .ok (.ireturn, 1) := by decide +kernel
theorem d_Model_fault_18 : decode prog_14_method_37_code 18 = .ok (.iload_n 1, 1) := by decide +kernel
theorem d_Model_fault_19 : decode prog_14_method_37_code 19 = .ok (.ifCond .ne 10, 3) := by decide +kernel
theorem d_Model_fault_22 : decode prog_14_method_37_code 22 = .ok (.aload_n 0, 1) := by decide +kernel
theorem d_Model_fault_23 : decode prog_14_method_37_code 23 = .ok (.invokevirtual 291, 3) := by decide +kernel
theorem d_Model_fault_26 : decode prog_14_method_37_code 26 = .ok (.goto 16, 3) := by decide +kernel
theorem d_Model_fault_29 : decode prog_14_method_37_code 29 = .ok (.aload_n 0, 1) := by decide +kernel
theorem d_Model_fault_30 : decode prog_14_method_37_code 30 = .ok (.aload_n 0, 1) := by decide +kernel
theorem d_Model_fault_31 : decode prog_14_method_37_code 31 = .ok (.getfield 9, 3) := by decide +kernel
theorem d_Model_fault_34 : decode prog_14_method_37_code 34 = .ok (.iconst 0, 1) := by decide +kernel
theorem d_Model_fault_35 : decode prog_14_method_37_code 35 = .ok (.aload_n 0, 1) := by decide +kernel
theorem d_Model_fault_36 : decode prog_14_method_37_code 36 = .ok (.getfield 127, 3) := by decide +kernel
theorem d_Model_fault_39 : decode prog_14_method_37_code 39 = .ok (.invokevirtual 294, 3) := by decide +kernel
theorem d_Model_fault_42 : decode prog_14_method_37_code 42 = .ok (.aload_n 0, 1) := by decide +kernel
theorem d_Model_fault_43 : decode prog_14_method_37_code 43 = .ok (.getfield 146, 3) := by decide +kernel
theorem d_Model_fault_46 : decode prog_14_method_37_code 46 = .ok (.ireturn, 1) := by decide +kernel
def s_Model_fault_42 (p0 : Int32) (σ : LH) : Option (Int32 × LH) :=
  some ((σ.1 570 11), σ)
theorem b_Model_fault_42 {G : XG} {l : Launch} {p : Program} {e : Env} {R : Room} {s : State} {m : MethodId} {args : Array Value} {below : List Frame} {meth : Method} {c : Code} (C : XC G 570 598 p s m args c prog_14_method_37_code 2 R_Model) (hr : meth.sig.returnType = (some .int)) (hk : meth.locks = false) {d : Nat} (hd : 117 ≤ d + 1) (hR : xroom R (d + 1)) {p0 : Int32} {σ' : LH} {r : Int32} {σ : LH} (h0 : s_Model_fault_42 p0 σ = some (r, σ')) : XJ G 570 598 p l e R s m args below meth c 2 (XQ G 570 598 below args s (some (.int r)) σ') 0 0 42 [(0, .ref (G.2.2.1 + 570))] [] σ := by
  replace h0 := (show _ = _ from h0)
  unfold s_Model_fault_42 at h0
  refine x_aload_n C d_Model_fault_42 0 rfl ?_
  refine x_getI (y := 0) C fg_Model_146 k_570 rfl d_Model_fault_43 ?_
  exact x_iret C hr hk h0 d_Model_fault_46
def s_Model_fault (p0 : Int32) (σ : LH) : Option (Int32 × LH) :=
  xl ((stI σ 570 0 0) : LH) fun σ1 =>
  xb2 (s_Model_isIn (Int32.toInt64 p0) 0 1 σ1) fun r3 σ4 =>
  if r3 = 0 then (
   some ((-2), σ4))
  else (
   if p0 = 0 then (
    xb1 (s_Model_readRoom σ4) fun σ8 =>
    s_Model_fault_42 p0 σ8)
   else (
    xb1 (s_Model_goThrough 571 0 (σ4.1 570 6) σ4) fun σ10 =>
    s_Model_fault_42 p0 σ10))
theorem c_Model_fault {G : XG} {l : Launch} {d : Nat} (hd : 117 ≤ d) {p0 : Int32} {σ σ' : LH} {r : Int32} (h0 : s_Model_fault p0 σ = some (r, σ')) : xM G 570 598 l y_Model_fault prog_14_method_37_code 2 (some .int) d [.ref (G.2.2.1 + 570), .int p0] σ (some (.int r)) σ' := by
  obtain ⟨d, rfl⟩ : ∃ q, d = q + 1 := ⟨d - 1, by omega⟩
  refine x_met R_Model rfl (by decide +kernel) (Nat.le_of_ble_eq_true rfl) fun p e s m below meth c C hr hk hR => ?_
  refine x_lv (lv' := [(0, .ref (G.2.2.1 + 570)), (1, .int p0)]) C [0, 1] rfl ?_
  generalize xrm (d + 1) = R at hR ⊢
  unfold s_Model_fault at h0
  refine x_aload_n C d_Model_fault_0 0 rfl ?_
  refine x_iconst (v := 0) C d_Model_fault_1 (by decide) ?_
  refine x_putI (y := 0) C fp_Model_114 k_570 rfl rfl rfl d_Model_fault_2 ?_
  obtain ⟨σ1, eσ1, h0⟩ := xlet h0
  refine x_sig C eσ1 ?_
  refine x_iload_n C d_Model_fault_5 1 rfl ?_
  refine x_i2l C d_Model_fault_6 ?_
  refine x_lconst (v := 0) C d_Model_fault_7 (by decide) ?_
  refine x_lconst (v := 1) C d_Model_fault_8 (by decide) ?_
  obtain ⟨r3, σ4, k2, h0⟩ := xbind2 h0
  refine x_callSi C hR (c_Model_isIn (d := d) (by omega) k2) cw_Model_235 w_1695 rfl rfl (Nat.le_of_ble_eq_true rfl) ⟨Nat.zero_le _, Nat.zero_le _⟩ d_Model_fault_9 ?_
  refine x_if_ne C 18 d_Model_fault_12 (by decide) (fun q5 => ?_) (fun q5 => ?_)
  · replace h0 := xif q5 h0
    refine x_iload_n C d_Model_fault_18 1 rfl ?_
    refine x_if_ne C 29 d_Model_fault_19 (by decide) (fun q6 => ?_) (fun q6 => ?_)
    · replace h0 := xif q6 h0
      refine x_aload_n C d_Model_fault_29 0 rfl ?_
      refine x_aload_n C d_Model_fault_30 0 rfl ?_
      refine x_getA (y := 571) C fg_Model_9 k_570 rfl d_Model_fault_31 ?_
      refine x_iconst (v := 0) C d_Model_fault_34 (by decide) ?_
      refine x_aload_n C d_Model_fault_35 0 rfl ?_
      refine x_getI (y := 0) C fg_Model_127 k_570 rfl d_Model_fault_36 ?_
      obtain ⟨σ10, k9, h0⟩ := xbind1 h0
      refine x_callVv C hR (c_Model_goThrough (d := d) (by omega) (by decide) k9) cw_Model_294 k_570 rfl rfl rfl (Nat.le_of_ble_eq_true rfl) ⟨Nat.zero_le _, Nat.zero_le _⟩ d_Model_fault_39 ?_
      exact x_lv C [0] rfl (b_Model_fault_42 C hr hk hd hR h0)
    · replace h0 := xit q6 h0
      refine x_aload_n C d_Model_fault_22 0 rfl ?_
      obtain ⟨σ8, k7, h0⟩ := xbind1 h0
      refine x_callVv C hR (c_Model_readRoom (d := d) (by omega) k7) cw_Model_291 k_570 rfl rfl rfl (Nat.le_of_ble_eq_true rfl) ⟨Nat.zero_le _, Nat.zero_le _⟩ d_Model_fault_23 ?_
      refine x_goto C 42 d_Model_fault_26 (by decide) ?_
      exact x_lv C [0] rfl (b_Model_fault_42 C hr hk hd hR h0)
  · replace h0 := xit q5 h0
    refine x_bipush (v := (-2)) C d_Model_fault_15 (by decide) ?_
    exact x_iret C hr hk h0 d_Model_fault_17
-- LostPlacesModel.text(I)I
theorem d_Model_text_0 : decode prog_14_method_38_code 0 = .ok (.aload_n 0, 1) := by decide +kernel
theorem d_Model_text_1 : decode prog_14_method_38_code 1 = .ok (.iconst 0, 1) := by decide +kernel
theorem d_Model_text_2 : decode prog_14_method_38_code 2 = .ok (.putfield 114, 3) := by decide +kernel
theorem d_Model_text_5 : decode prog_14_method_38_code 5 = .ok (.iload_n 1, 1) := by decide +kernel
theorem d_Model_text_6 : decode prog_14_method_38_code 6 = .ok (.i2l, 1) := by decide +kernel
theorem d_Model_text_7 : decode prog_14_method_38_code 7 = .ok (.lconst 0, 1) := by decide +kernel
theorem d_Model_text_8 : decode prog_14_method_38_code 8 = .ok (.lconst 1, 1) := by decide +kernel
theorem d_Model_text_9 : decode prog_14_method_38_code 9 = .ok (.invokestatic 235, 3) := by decide +kernel
theorem d_Model_text_12 : decode prog_14_method_38_code 12 = .ok (.ifCond .eq 25, 3) := by decide +kernel
theorem d_Model_text_15 : decode prog_14_method_38_code 15 = .ok (.iload_n 1, 1) := by decide +kernel
theorem d_Model_text_16 : decode prog_14_method_38_code 16 = .ok (.iconst 1, 1) := by decide +kernel
theorem d_Model_text_17 : decode prog_14_method_38_code 17 = .ok (.if_icmp .ne 11, 3) := by decide +kernel
theorem d_Model_text_20 : decode prog_14_method_38_code 20 = .ok (.aload_n 0, 1) := by decide +kernel
theorem d_Model_text_21 : decode prog_14_method_38_code 21 = .ok (.getfield 297, 3) := by decide +kernel
theorem d_Model_text_24 : decode prog_14_method_38_code 24 = .ok (.iconst 4, 1) := by decide +kernel
theorem d_Model_text_25 : decode prog_14_method_38_code 25 = .ok (.if_icmp .eq 12, 3) := by decide +kernel
theorem d_Model_text_28 : decode prog_14_method_38_code 28 = .ok (.aload_n 0, 1) := by decide +kernel
theorem d_Model_text_29 : decode prog_14_method_38_code 29 = .ok (.iload_n 1, 1) := by decide +kernel
theorem d_Model_text_30 : decode prog_14_method_38_code 30 = .ok (.invokevirtual 300, 3) := by decide +kernel
theorem d_Model_text_33 : decode prog_14_method_38_code 33 = .ok (.iconst (-1), 1) := by decide +kernel
theorem d_Model_text_34 : decode prog_14_method_38_code 34 = .ok (.if_icmp .eq 5, 3) := by decide +kernel
theorem d_Model_text_37 : decode prog_14_method_38_code 37 = .ok (.iconst (-1), 1) := by decide +kernel
theorem d_Model_text_38 : decode prog_14_method_38_code 38 = .ok (.ireturn, 1) := by decide +kernel
theorem d_Model_text_39 : decode prog_14_method_38_code 39 = .ok (.aload_n 0, 1) := by decide +kernel
theorem d_Model_text_40 : decode prog_14_method_38_code 40 = .ok (.getfield 127, 3) := by decide +kernel
theorem d_Model_text_43 : decode prog_14_method_38_code 43 = .ok (.istore_n 2, 1) := by decide +kernel
theorem d_Model_text_44 : decode prog_14_method_38_code 44 = .ok (.aload_n 0, 1) := by decide +kernel
theorem d_Model_text_45 : decode prog_14_method_38_code 45 = .ok (.iconst 0, 1) := by decide +kernel
theorem d_Model_text_46 : decode prog_14_method_38_code 46 = .ok (.putfield 127, 3) := by decide +kernel
theorem d_Model_text_49 : decode prog_14_method_38_code 49 = .ok (.iload_n 1, 1) := by decide +kernel
theorem d_Model_text_50 : decode prog_14_method_38_code 50 = .ok (.iconst 1, 1) := by decide +kernel
theorem d_Model_text_51 : decode prog_14_method_38_code 51 = .ok (.if_icmp .ne 64, 3) := by decide +kernel
theorem d_Model_text_54 : decode prog_14_method_38_code 54 = .ok (.iconst 0, 1) := by decide +kernel
theorem d_Model_text_55 : decode prog_14_method_38_code 55 = .ok (.istore_n 3, 1) := by decide +kernel
theorem d_Model_text_56 : decode prog_14_method_38_code 56 = .ok (.iload_n 3, 1) := by decide +kernel
theorem d_Model_text_57 : decode prog_14_method_38_code 57 = .ok (.iload_n 2, 1) := by decide +kernel
theorem d_Model_text_58 : decode prog_14_method_38_code 58 = .ok (.if_icmp .ge 30, 3) := by decide +kernel
theorem d_Model_text_61 : decode prog_14_method_38_code 61 = .ok (.aload_n 0, 1) := by decide +kernel
theorem d_Model_text_62 : decode prog_14_method_38_code 62 = .ok (.getfield 13, 3) := by decide +kernel
theorem d_Model_text_65 : decode prog_14_method_38_code 65 = .ok (.sipush 240, 3) := by decide +kernel
theorem d_Model_text_68 : decode prog_14_method_38_code 68 = .ok (.aload_n 0, 1) := by decide +kernel
theorem d_Model_text_69 : decode prog_14_method_38_code 69 = .ok (.getfield 297, 3) := by decide +kernel
theorem d_Model_text_72 : decode prog_14_method_38_code 72 = .ok (.imul, 1) := by decide +kernel
theorem d_Model_text_73 : decode prog_14_method_38_code 73 = .ok (.iload_n 3, 1) := by decide +kernel
theorem d_Model_text_74 : decode prog_14_method_38_code 74 = .ok (.iadd, 1) := by decide +kernel
theorem d_Model_text_75 : decode prog_14_method_38_code 75 = .ok (.aload_n 0, 1) := by decide +kernel
theorem d_Model_text_76 : decode prog_14_method_38_code 76 = .ok (.getfield 9, 3) := by decide +kernel
theorem d_Model_text_79 : decode prog_14_method_38_code 79 = .ok (.iload_n 3, 1) := by decide +kernel
theorem d_Model_text_80 : decode prog_14_method_38_code 80 = .ok (.baload, 1) := by decide +kernel
theorem d_Model_text_81 : decode prog_14_method_38_code 81 = .ok (.bastore, 1) := by decide +kernel
theorem d_Model_text_82 : decode prog_14_method_38_code 82 = .ok (.iinc 3 1, 3) := by decide +kernel
theorem d_Model_text_85 : decode prog_14_method_38_code 85 = .ok (.goto (-29), 3) := by decide +kernel
theorem d_Model_text_88 : decode prog_14_method_38_code 88 = .ok (.aload_n 0, 1) := by decide +kernel
theorem d_Model_text_89 : decode prog_14_method_38_code 89 = .ok (.getfield 16, 3) := by decide +kernel
theorem d_Model_text_92 : decode prog_14_method_38_code 92 = .ok (.aload_n 0, 1) := by decide +kernel
theorem d_Model_text_93 : decode prog_14_method_38_code 93 = .ok (.getfield 297, 3) := by decide +kernel
theorem d_Model_text_96 : decode prog_14_method_38_code 96 = .ok (.iload_n 2, 1) := by decide +kernel
theorem d_Model_text_97 : decode prog_14_method_38_code 97 = .ok (.iastore, 1) := by decide +kernel
theorem d_Model_text_98 : decode prog_14_method_38_code 98 = .ok (.aload_n 0, 1) := by decide +kernel
theorem d_Model_text_99 : decode prog_14_method_38_code 99 = .ok (.dup, 1) := by decide +kernel
theorem d_Model_text_100 : decode prog_14_method_38_code 100 = .ok (.getfield 297, 3) := by decide +kernel
theorem d_Model_text_103 : decode prog_14_method_38_code 103 = .ok (.iconst 1, 1) := by decide +kernel
theorem d_Model_text_104 : decode prog_14_method_38_code 104 = .ok (.iadd, 1) := by decide +kernel
theorem d_Model_text_105 : decode prog_14_method_38_code 105 = .ok (.putfield 297, 3) := by decide +kernel
theorem d_Model_text_108 : decode prog_14_method_38_code 108 = .ok (.aload_n 0, 1) := by decide +kernel
theorem d_Model_text_109 : decode prog_14_method_38_code 109 = .ok (.getfield 297, 3) := by decide +kernel
theorem d_Model_text_112 : decode prog_14_method_38_code 112 = .ok (.iconst 1, 1) := by decide +kernel
theorem d_Model_text_113 : decode prog_14_method_38_code 113 = .ok (.isub, 1) := by decide +kernel
theorem d_Model_text_114 : decode prog_14_method_38_code 114 = .ok (.ireturn, 1) := by decide +kernel
theorem d_Model_text_115 : decode prog_14_method_38_code 115 = .ok (.aload_n 0, 1) := by decide +kernel
theorem d_Model_text_116 : decode prog_14_method_38_code 116 = .ok (.aload_n 0, 1) := by decide +kernel
theorem d_Model_text_117 : decode prog_14_method_38_code 117 = .ok (.getfield 261, 3) := by decide +kernel
theorem d_Model_text_120 : decode prog_14_method_38_code 120 = .ok (.putfield 302, 3) := by decide +kernel
theorem d_Model_text_123 : decode prog_14_method_38_code 123 = .ok (.aload_n 0, 1) := by decide +kernel
theorem d_Model_text_124 : decode prog_14_method_38_code 124 = .ok (.aload_n 0, 1) := by decide +kernel
theorem d_Model_text_125 : decode prog_14_method_38_code 125 = .ok (.getfield 264, 3) := by decide +kernel
theorem d_Model_text_128 : decode prog_14_method_38_code 128 = .ok (.putfield 305, 3) := by decide +kernel
theorem d_Model_text_131 : decode prog_14_method_38_code 131 = .ok (.aload_n 0, 1) := by decide +kernel
theorem d_Model_text_132 : decode prog_14_method_38_code 132 = .ok (.aload_n 0, 1) := by decide +kernel
theorem d_Model_text_133 : decode prog_14_method_38_code 133 = .ok (.getfield 267, 3) := by decide +kernel
theorem d_Model_text_136 : decode prog_14_method_38_code 136 = .ok (.putfield 308, 3) := by decide +kernel
theorem d_Model_text_139 : decode prog_14_method_38_code 139 = .ok (.iconst 0, 1) := by decide +kernel
theorem d_Model_text_140 : decode prog_14_method_38_code 140 = .ok (.istore_n 3, 1) := by decide +kernel
theorem d_Model_text_141 : decode prog_14_method_38_code 141 = .ok (.iload_n 3, 1) := by decide +kernel
theorem d_Model_text_142 : decode prog_14_method_38_code 142 = .ok (.bipush 24, 2) := by decide +kernel
theorem d_Model_text_144 : decode prog_14_method_38_code 144 = .ok (.if_icmp .ge 21, 3) := by decide +kernel
theorem d_Model_text_147 : decode prog_14_method_38_code 147 = .ok (.aload_n 0, 1) := by decide +kernel
theorem d_Model_text_148 : decode prog_14_method_38_code 148 = .ok (.getfield 37, 3) := by decide +kernel
theorem d_Model_text_151 : decode prog_14_method_38_code 151 = .ok (.iload_n 3, 1) := by decide +kernel
theorem d_Model_text_152 : decode prog_14_method_38_code 152 = .ok (.aload_n 0, 1) := by decide +kernel
theorem d_Model_text_153 : decode prog_14_method_38_code 153 = .ok (.getfield 40, 3) := by decide +kernel
theorem d_Model_text_156 : decode prog_14_method_38_code 156 = .ok (.iload_n 3, 1) := by decide +kernel
theorem d_Model_text_157 : decode prog_14_method_38_code 157 = .ok (.iaload, 1) := by decide +kernel
theorem d_Model_text_158 : decode prog_14_method_38_code 158 = .ok (.iastore, 1) := by decide +kernel
theorem d_Model_text_159 : decode prog_14_method_38_code 159 = .ok (.iinc 3 1, 3) := by decide +kernel
theorem d_Model_text_162 : decode prog_14_method_38_code 162 = .ok (.goto (-21), 3) := by decide +kernel
theorem d_Model_text_165 : decode prog_14_method_38_code 165 = .ok (.iconst 0, 1) := by decide +kernel
theorem d_Model_text_166 : decode prog_14_method_38_code 166 = .ok (.istore_n 3, 1) := by decide +kernel
theorem d_Model_text_167 : decode prog_14_method_38_code 167 = .ok (.iload_n 3, 1) := by decide +kernel
theorem d_Model_text_168 : decode prog_14_method_38_code 168 = .ok (.bipush 32, 2) := by decide +kernel
theorem d_Model_text_170 : decode prog_14_method_38_code 170 = .ok (.if_icmp .ge 21, 3) := by decide +kernel
theorem d_Model_text_173 : decode prog_14_method_38_code 173 = .ok (.aload_n 0, 1) := by decide +kernel
theorem d_Model_text_174 : decode prog_14_method_38_code 174 = .ok (.getfield 43, 3) := by decide +kernel
theorem d_Model_text_177 : decode prog_14_method_38_code 177 = .ok (.iload_n 3, 1) := by decide +kernel
theorem d_Model_text_178 : decode prog_14_method_38_code 178 = .ok (.aload_n 0, 1) := by decide +kernel
theorem d_Model_text_179 : decode prog_14_method_38_code 179 = .ok (.getfield 46, 3) := by decide +kernel
theorem d_Model_text_182 : decode prog_14_method_38_code 182 = .ok (.iload_n 3, 1) := by decide +kernel
theorem d_Model_text_183 : decode prog_14_method_38_code 183 = .ok (.iaload, 1) := by decide +kernel
theorem d_Model_text_184 : decode prog_14_method_38_code 184 = .ok (.iastore, 1) := by decide +kernel
theorem d_Model_text_185 : decode prog_14_method_38_code 185 = .ok (.iinc 3 1, 3) := by decide +kernel
theorem d_Model_text_188 : decode prog_14_method_38_code 188 = .ok (.goto (-21), 3) := by decide +kernel
theorem d_Model_text_191 : decode prog_14_method_38_code 191 = .ok (.iconst 0, 1) := by decide +kernel
theorem d_Model_text_192 : decode prog_14_method_38_code 192 = .ok (.istore_n 3, 1) := by decide +kernel
theorem d_Model_text_193 : decode prog_14_method_38_code 193 = .ok (.iload_n 3, 1) := by decide +kernel
theorem d_Model_text_194 : decode prog_14_method_38_code 194 = .ok (.bipush 30, 2) := by decide +kernel
theorem d_Model_text_196 : decode prog_14_method_38_code 196 = .ok (.if_icmp .ge 21, 3) := by decide +kernel
theorem d_Model_text_199 : decode prog_14_method_38_code 199 = .ok (.aload_n 0, 1) := by decide +kernel
theorem d_Model_text_200 : decode prog_14_method_38_code 200 = .ok (.getfield 49, 3) := by decide +kernel
theorem d_Model_text_203 : decode prog_14_method_38_code 203 = .ok (.iload_n 3, 1) := by decide +kernel
theorem d_Model_text_204 : decode prog_14_method_38_code 204 = .ok (.aload_n 0, 1) := by decide +kernel
theorem d_Model_text_205 : decode prog_14_method_38_code 205 = .ok (.getfield 52, 3) := by decide +kernel
theorem d_Model_text_208 : decode prog_14_method_38_code 208 = .ok (.iload_n 3, 1) := by decide +kernel
theorem d_Model_text_209 : decode prog_14_method_38_code 209 = .ok (.iaload, 1) := by decide +kernel
theorem d_Model_text_210 : decode prog_14_method_38_code 210 = .ok (.iastore, 1) := by decide +kernel
theorem d_Model_text_211 : decode prog_14_method_38_code 211 = .ok (.iinc 3 1, 3) := by decide +kernel
theorem d_Model_text_214 : decode prog_14_method_38_code 214 = .ok (.goto (-21), 3) := by decide +kernel
theorem d_Model_text_217 : decode prog_14_method_38_code 217 = .ok (.iconst 0, 1) := by decide +kernel
theorem d_Model_text_218 : decode prog_14_method_38_code 218 = .ok (.istore_n 3, 1) := by decide +kernel
theorem d_Model_text_219 : decode prog_14_method_38_code 219 = .ok (.iload_n 3, 1) := by decide +kernel
theorem d_Model_text_220 : decode prog_14_method_38_code 220 = .ok (.iconst 2, 1) := by decide +kernel
theorem d_Model_text_221 : decode prog_14_method_38_code 221 = .ok (.if_icmp .ge 21, 3) := by decide +kernel
theorem d_Model_text_224 : decode prog_14_method_38_code 224 = .ok (.aload_n 0, 1) := by decide +kernel
theorem d_Model_text_225 : decode prog_14_method_38_code 225 = .ok (.getfield 55, 3) := by decide +kernel
theorem d_Model_text_228 : decode prog_14_method_38_code 228 = .ok (.iload_n 3, 1) := by decide +kernel
theorem d_Model_text_229 : decode prog_14_method_38_code 229 = .ok (.aload_n 0, 1) := by decide +kernel
theorem d_Model_text_230 : decode prog_14_method_38_code 230 = .ok (.getfield 58, 3) := by decide +kernel
theorem d_Model_text_233 : decode prog_14_method_38_code 233 = .ok (.iload_n 3, 1) := by decide +kernel
theorem d_Model_text_234 : decode prog_14_method_38_code 234 = .ok (.iaload, 1) := by decide +kernel
theorem d_Model_text_235 : decode prog_14_method_38_code 235 = .ok (.iastore, 1) := by decide +kernel
theorem d_Model_text_236 : decode prog_14_method_38_code 236 = .ok (.iinc 3 1, 3) := by decide +kernel
theorem d_Model_text_239 : decode prog_14_method_38_code 239 = .ok (.goto (-20), 3) := by decide +kernel
theorem d_Model_text_242 : decode prog_14_method_38_code 242 = .ok (.iconst 0, 1) := by decide +kernel
theorem d_Model_text_243 : decode prog_14_method_38_code 243 = .ok (.istore_n 3, 1) := by decide +kernel
theorem d_Model_text_244 : decode prog_14_method_38_code 244 = .ok (.iload_n 3, 1) := by decide +kernel
theorem d_Model_text_245 : decode prog_14_method_38_code 245 = .ok (.sipush 290, 3) := by decide +kernel
theorem d_Model_text_248 : decode prog_14_method_38_code 248 = .ok (.if_icmp .ge 16, 3) := by decide +kernel
theorem d_Model_text_251 : decode prog_14_method_38_code 251 = .ok (.aload_n 0, 1) := by decide +kernel
theorem d_Model_text_252 : decode prog_14_method_38_code 252 = .ok (.getfield 61, 3) := by decide +kernel
theorem d_Model_text_255 : decode prog_14_method_38_code 255 = .ok (.iload_n 3, 1) := by decide +kernel
theorem d_Model_text_256 : decode prog_14_method_38_code 256 = .ok (.iconst 0, 1) := by decide +kernel
theorem d_Model_text_257 : decode prog_14_method_38_code 257 = .ok (.iastore, 1) := by decide +kernel
theorem d_Model_text_258 : decode prog_14_method_38_code 258 = .ok (.iinc 3 1, 3) := by decide +kernel
theorem d_Model_text_261 : decode prog_14_method_38_code 261 = .ok (.goto (-17), 3) := by decide +kernel
theorem d_Model_text_264 : decode prog_14_method_38_code 264 = .ok (.iconst 0, 1) := by decide +kernel
theorem d_Model_text_265 : decode prog_14_method_38_code 265 = .ok (.istore_n 3, 1) := by decide +kernel
theorem d_Model_text_266 : decode prog_14_method_38_code 266 = .ok (.iload_n 3, 1) := by decide +kernel
theorem d_Model_text_267 : decode prog_14_method_38_code 267 = .ok (.aload_n 0, 1) := by decide +kernel
theorem d_Model_text_268 : decode prog_14_method_38_code 268 = .ok (.getfield 305, 3) := by decide +kernel
theorem d_Model_text_271 : decode prog_14_method_38_code 271 = .ok (.if_icmp .ge 73, 3) := by decide +kernel
theorem d_Model_text_274 : decode prog_14_method_38_code 274 = .ok (.aload_n 0, 1) := by decide +kernel
theorem d_Model_text_275 : decode prog_14_method_38_code 275 = .ok (.getfield 61, 3) := by decide +kernel
theorem d_Model_text_278 : decode prog_14_method_38_code 278 = .ok (.iconst 4, 1) := by decide +kernel
theorem d_Model_text_279 : decode prog_14_method_38_code 279 = .ok (.iload_n 3, 1) := by decide +kernel
theorem d_Model_text_280 : decode prog_14_method_38_code 280 = .ok (.imul, 1) := by decide +kernel
theorem d_Model_text_281 : decode prog_14_method_38_code 281 = .ok (.aload_n 0, 1) := by decide +kernel
theorem d_Model_text_282 : decode prog_14_method_38_code 282 = .ok (.getfield 43, 3) := by decide +kernel
theorem d_Model_text_285 : decode prog_14_method_38_code 285 = .ok (.iconst 4, 1) := by decide +kernel
theorem d_Model_text_286 : decode prog_14_method_38_code 286 = .ok (.iload_n 3, 1) := by decide +kernel
theorem d_Model_text_287 : decode prog_14_method_38_code 287 = .ok (.imul, 1) := by decide +kernel
theorem d_Model_text_288 : decode prog_14_method_38_code 288 = .ok (.iaload, 1) := by decide +kernel
theorem d_Model_text_289 : decode prog_14_method_38_code 289 = .ok (.bipush 8, 2) := by decide +kernel
theorem d_Model_text_291 : decode prog_14_method_38_code 291 = .ok (.if_icmp .ne 7, 3) := by decide +kernel
theorem d_Model_text_294 : decode prog_14_method_38_code 294 = .ok (.iconst (-1), 1) := by decide +kernel
theorem d_Model_text_295 : decode prog_14_method_38_code 295 = .ok (.goto 11, 3) := by decide +kernel
theorem d_Model_text_298 : decode prog_14_method_38_code 298 = .ok (.aload_n 0, 1) := by decide +kernel
theorem d_Model_text_299 : decode prog_14_method_38_code 299 = .ok (.getfield 43, 3) := by decide +kernel
theorem d_Model_text_302 : decode prog_14_method_38_code 302 = .ok (.iconst 4, 1) := by decide +kernel
theorem d_Model_text_303 : decode prog_14_method_38_code 303 = .ok (.iload_n 3, 1) := by decide +kernel
theorem d_Model_text_304 : decode prog_14_method_38_code 304 = .ok (.imul, 1) := by decide +kernel
theorem d_Model_text_305 : decode prog_14_method_38_code 305 = .ok (.iaload, 1) := by decide +kernel
theorem d_Model_text_306 : decode prog_14_method_38_code 306 = .ok (.iastore, 1) := by decide +kernel
theorem d_Model_text_307 : decode prog_14_method_38_code 307 = .ok (.aload_n 0, 1) := by decide +kernel
theorem d_Model_text_308 : decode prog_14_method_38_code 308 = .ok (.getfield 61, 3) := by decide +kernel
theorem d_Model_text_311 : decode prog_14_method_38_code 311 = .ok (.iconst 4, 1) := by decide +kernel
theorem d_Model_text_312 : decode prog_14_method_38_code 312 = .ok (.iload_n 3, 1) := by decide +kernel
theorem d_Model_text_313 : decode prog_14_method_38_code 313 = .ok (.imul, 1) := by decide +kernel
theorem d_Model_text_314 : decode prog_14_method_38_code 314 = .ok (.iconst 1, 1) := by decide +kernel
theorem d_Model_text_315 : decode prog_14_method_38_code 315 = .ok (.iadd, 1) := by decide +kernel
theorem d_Model_text_316 : decode prog_14_method_38_code 316 = .ok (.iconst (-1), 1) := by decide +kernel
theorem d_Model_text_317 : decode prog_14_method_38_code 317 = .ok (.iastore, 1) := by decide +kernel
theorem d_Model_text_318 : decode prog_14_method_38_code 318 = .ok (.aload_n 0, 1) := by decide +kernel
theorem d_Model_text_319 : decode prog_14_method_38_code 319 = .ok (.getfield 61, 3) := by decide +kernel
theorem d_Model_text_322 : decode prog_14_method_38_code 322 = .ok (.iconst 4, 1) := by decide +kernel
theorem d_Model_text_323 : decode prog_14_method_38_code 323 = .ok (.iload_n 3, 1) := by decide +kernel
theorem d_Model_text_324 : decode prog_14_method_38_code 324 = .ok (.imul, 1) := by decide +kernel
theorem d_Model_text_325 : decode prog_14_method_38_code 325 = .ok (.iconst 2, 1) := by decide +kernel
theorem d_Model_text_326 : decode prog_14_method_38_code 326 = .ok (.iadd, 1) := by decide +kernel
theorem d_Model_text_327 : decode prog_14_method_38_code 327 = .ok (.aload_n 0, 1) := by decide +kernel
theorem d_Model_text_328 : decode prog_14_method_38_code 328 = .ok (.getfield 43, 3) := by decide +kernel
theorem d_Model_text_331 : decode prog_14_method_38_code 331 = .ok (.iconst 4, 1) := by decide +kernel
theorem d_Model_text_332 : decode prog_14_method_38_code 332 = .ok (.iload_n 3, 1) := by decide +kernel
theorem d_Model_text_333 : decode prog_14_method_38_code 333 = .ok (.imul, 1) := by decide +kernel
theorem d_Model_text_334 : decode prog_14_method_38_code 334 = .ok (.iconst 3, 1) := by decide +kernel
theorem d_Model_text_335 : decode prog_14_method_38_code 335 = .ok (.iadd, 1) := by decide +kernel
theorem d_Model_text_336 : decode prog_14_method_38_code 336 = .ok (.iaload, 1) := by decide +kernel
theorem d_Model_text_337 : decode prog_14_method_38_code 337 = .ok (.iastore, 1) := by decide +kernel
theorem d_Model_text_338 : decode prog_14_method_38_code 338 = .ok (.iinc 3 1, 3) := by decide +kernel
theorem d_Model_text_341 : decode prog_14_method_38_code 341 = .ok (.goto (-75), 3) := by decide +kernel
theorem d_Model_text_344 : decode prog_14_method_38_code 344 = .ok (.iconst 0, 1) := by decide +kernel
theorem d_Model_text_345 : decode prog_14_method_38_code 345 = .ok (.istore_n 3, 1) := by decide +kernel
theorem d_Model_text_346 : decode prog_14_method_38_code 346 = .ok (.iload_n 3, 1) := by decide +kernel
theorem d_Model_text_347 : decode prog_14_method_38_code 347 = .ok (.bipush 16, 2) := by decide +kernel
theorem d_Model_text_349 : decode prog_14_method_38_code 349 = .ok (.if_icmp .ge 19, 3) := by decide +kernel
theorem d_Model_text_352 : decode prog_14_method_38_code 352 = .ok (.aload_n 0, 1) := by decide +kernel
theorem d_Model_text_353 : decode prog_14_method_38_code 353 = .ok (.getfield 61, 3) := by decide +kernel
theorem d_Model_text_356 : decode prog_14_method_38_code 356 = .ok (.bipush 32, 2) := by decide +kernel
theorem d_Model_text_358 : decode prog_14_method_38_code 358 = .ok (.iload_n 3, 1) := by decide +kernel
theorem d_Model_text_359 : decode prog_14_method_38_code 359 = .ok (.iadd, 1) := by decide +kernel
theorem d_Model_text_360 : decode prog_14_method_38_code 360 = .ok (.iconst (-1), 1) := by decide +kernel
theorem d_Model_text_361 : decode prog_14_method_38_code 361 = .ok (.iastore, 1) := by decide +kernel
theorem d_Model_text_362 : decode prog_14_method_38_code 362 = .ok (.iinc 3 1, 3) := by decide +kernel
theorem d_Model_text_365 : decode prog_14_method_38_code 365 = .ok (.goto (-19), 3) := by decide +kernel
theorem d_Model_text_368 : decode prog_14_method_38_code 368 = .ok (.aload_n 0, 1) := by decide +kernel
theorem d_Model_text_369 : decode prog_14_method_38_code 369 = .ok (.iconst 0, 1) := by decide +kernel
theorem d_Model_text_370 : decode prog_14_method_38_code 370 = .ok (.putfield 311, 3) := by decide +kernel
theorem d_Model_text_373 : decode prog_14_method_38_code 373 = .ok (.aload_n 0, 1) := by decide +kernel
theorem d_Model_text_374 : decode prog_14_method_38_code 374 = .ok (.iconst 0, 1) := by decide +kernel
theorem d_Model_text_375 : decode prog_14_method_38_code 375 = .ok (.putfield 314, 3) := by decide +kernel
theorem d_Model_text_378 : decode prog_14_method_38_code 378 = .ok (.aload_n 0, 1) := by decide +kernel
theorem d_Model_text_379 : decode prog_14_method_38_code 379 = .ok (.iconst 0, 1) := by decide +kernel
theorem d_Model_text_380 : decode prog_14_method_38_code 380 = .ok (.putfield 317, 3) := by decide +kernel
theorem d_Model_text_383 : decode prog_14_method_38_code 383 = .ok (.aload_n 0, 1) := by decide +kernel
theorem d_Model_text_384 : decode prog_14_method_38_code 384 = .ok (.getfield 305, 3) := by decide +kernel
theorem d_Model_text_387 : decode prog_14_method_38_code 387 = .ok (.ireturn, 1) := by decide +kernel
def s_Model_text_37 (p0 : Int32) (σ : LH) : Option (Int32 × LH) :=
  some ((-1), σ)
theorem b_Model_text_37 {G : XG} {l : Launch} {p : Program} {e : Env} {R : Room} {s : State} {m : MethodId} {args : Array Value} {below : List Frame} {meth : Method} {c : Code} (C : XC G 570 598 p s m args c prog_14_method_38_code 4 R_Model) (hr : meth.sig.returnType = (some .int)) (hk : meth.locks = false) {d : Nat} (hd : 118 ≤ d + 1) (hR : xroom R (d + 1)) {p0 : Int32} {σ' : LH} {r : Int32} {σ : LH} (h0 : s_Model_text_37 p0 σ = some (r, σ')) : XJ G 570 598 p l e R s m args below meth c 4 (XQ G 570 598 below args s (some (.int r)) σ') 0 0 37 [] [] σ := by
  replace h0 := (show _ = _ from h0)
  unfold s_Model_text_37 at h0
  refine x_iconst (v := (-1)) C d_Model_text_37 (by decide) ?_
  exact x_iret C hr hk h0 d_Model_text_38
def s_Model_text_56_b (p0 : Int32) (rec56 : Int32 → Int32 → LH → Option (Int32 × LH)) (y2 : Int32) (y3 : Int32) (σ : LH) : Option (Int32 × LH) :=
  if y2 ≤ y3 then (
   if ib (σ.1 570 7) 4 then (
   xl ((stI σ 573 (Int32.toNatClampNeg (σ.1 570 7)) y2) : LH) fun σ17 =>
   xl ((stI σ17 570 7 ((σ17.1 570 7) + 1)) : LH) fun σ18 =>
   some (((σ18.1 570 7) - 1), σ18)) else none)
  else (
   if ib y3 240 then (
   if ib ((240 * (σ.1 570 7)) + y3) 960 then (
   xl ((stI σ 572 (Int32.toNatClampNeg ((240 * (σ.1 570 7)) + y3)) (vp_nar .byte (σ.1 571 (Int32.toNatClampNeg y3)))) : LH) fun σ21 =>
   xl ((y3 + 1) : Int32) fun x22 =>
   rec56 y2 x22 σ21) else none) else none)
def s_Model_text_56 (p0 : Int32) : Nat → Int32 → Int32 → LH → Option (Int32 × LH)
  | 0, _, _, _ => none
  | n + 1, y2, y3, σ => s_Model_text_56_b p0 (s_Model_text_56 p0 n) y2 y3 σ
theorem bb_Model_text_56 {G : XG} {l : Launch} {p : Program} {e : Env} {R : Room} {s : State} {m : MethodId} {args : Array Value} {below : List Frame} {meth : Method} {c : Code} (C : XC G 570 598 p s m args c prog_14_method_38_code 4 R_Model) (hr : meth.sig.returnType = (some .int)) (hk : meth.locks = false) {d : Nat} (hd : 118 ≤ d + 1) (hR : xroom R (d + 1)) {p0 : Int32} {rec56 : Int32 → Int32 → LH → Option (Int32 × LH)} {σ' : LH} {r : Int32} (hrec56 : ∀ (y2 : Int32) (y3 : Int32) (σ : LH), rec56 y2 y3 σ = some (r, σ') → XJ G 570 598 p l e R s m args below meth c 4 (XQ G 570 598 below args s (some (.int r)) σ') 0 0 56 [(0, .ref (G.2.2.1 + 570)), (2, .int y2), (3, .int y3)] [] σ) {y2 : Int32} {y3 : Int32} {σ : LH} (h0 : s_Model_text_56_b p0 rec56 y2 y3 σ = some (r, σ')) : XJ G 570 598 p l e R s m args below meth c 4 (XQ G 570 598 below args s (some (.int r)) σ') 0 0 56 [(0, .ref (G.2.2.1 + 570)), (2, .int y2), (3, .int y3)] [] σ := by
  replace h0 := (show _ = _ from h0)
  unfold s_Model_text_56_b at h0
  refine x_iload_n C d_Model_text_56 2 rfl ?_
  refine x_iload_n C d_Model_text_57 1 rfl ?_
  refine x_icmp_ge C 88 d_Model_text_58 (by decide) (fun q15 => ?_) (fun q15 => ?_)
  · replace h0 := xit q15 h0
    refine x_aload_n C d_Model_text_88 0 rfl ?_
    refine x_getA (y := 573) C fg_Model_16 k_570 rfl d_Model_text_89 ?_
    refine x_aload_n C d_Model_text_92 0 rfl ?_
    refine x_getI (y := 0) C fg_Model_297 k_570 rfl d_Model_text_93 ?_
    refine x_iload_n C d_Model_text_96 1 rfl ?_
    obtain ⟨g16, h0⟩ := xgo h0
    refine x_iast C k_573 (ib_in g16) d_Model_text_97 ?_
    obtain ⟨σ17, eσ17, h0⟩ := xlet h0
    refine x_sig C eσ17 ?_
    refine x_aload_n C d_Model_text_98 0 rfl ?_
    refine x_dup C d_Model_text_99 rfl ?_
    refine x_getI (y := 0) C fg_Model_297 k_570 rfl d_Model_text_100 ?_
    refine x_iconst (v := 1) C d_Model_text_103 (by decide) ?_
    refine x_iadd C d_Model_text_104 ?_
    refine x_putI (y := 0) C fp_Model_297 k_570 rfl rfl rfl d_Model_text_105 ?_
    obtain ⟨σ18, eσ18, h0⟩ := xlet h0
    refine x_sig C eσ18 ?_
    refine x_aload_n C d_Model_text_108 0 rfl ?_
    refine x_getI (y := 0) C fg_Model_297 k_570 rfl d_Model_text_109 ?_
    refine x_iconst (v := 1) C d_Model_text_112 (by decide) ?_
    refine x_isub C d_Model_text_113 ?_
    exact x_iret C hr hk h0 d_Model_text_114
  · replace h0 := xif q15 h0
    refine x_aload_n C d_Model_text_61 0 rfl ?_
    refine x_getA (y := 572) C fg_Model_13 k_570 rfl d_Model_text_62 ?_
    refine x_sipush (v := 240) C d_Model_text_65 (by decide) ?_
    refine x_aload_n C d_Model_text_68 0 rfl ?_
    refine x_getI (y := 0) C fg_Model_297 k_570 rfl d_Model_text_69 ?_
    refine x_imul C d_Model_text_72 ?_
    refine x_iload_n C d_Model_text_73 2 rfl ?_
    refine x_iadd C d_Model_text_74 ?_
    refine x_aload_n C d_Model_text_75 0 rfl ?_
    refine x_getA (y := 571) C fg_Model_9 k_570 rfl d_Model_text_76 ?_
    refine x_iload_n C d_Model_text_79 2 rfl ?_
    obtain ⟨g19, h0⟩ := xgo h0
    refine x_bald C k_571 (ib_in g19) d_Model_text_80 ?_
    obtain ⟨g20, h0⟩ := xgo h0
    refine x_bast C k_572 (ib_in g20) d_Model_text_81 ?_
    obtain ⟨σ21, eσ21, h0⟩ := xlet h0
    refine x_sig C eσ21 ?_
    obtain ⟨x22, ex22, h0⟩ := xlet h0
    refine x_iinc (lv' := [(3, .int x22), (0, .ref (G.2.2.1 + 570)), (2, .int y2)]) C d_Model_text_82 2 rfl ex22 (by decide) rfl ?_
    refine x_goto C 56 d_Model_text_85 (by decide) ?_
    exact x_lv C [1, 2, 0] rfl (hrec56 _ _ _ h0)
theorem b_Model_text_56 {G : XG} {l : Launch} {p : Program} {e : Env} {R : Room} {s : State} {m : MethodId} {args : Array Value} {below : List Frame} {meth : Method} {c : Code} (C : XC G 570 598 p s m args c prog_14_method_38_code 4 R_Model) (hr : meth.sig.returnType = (some .int)) (hk : meth.locks = false) {d : Nat} (hd : 118 ≤ d + 1) (hR : xroom R (d + 1)) {p0 : Int32} {σ' : LH} {r : Int32} : ∀ (n : Nat) (y2 : Int32) (y3 : Int32) (σ : LH), s_Model_text_56 p0 n y2 y3 σ = some (r, σ') → XJ G 570 598 p l e R s m args below meth c 4 (XQ G 570 598 below args s (some (.int r)) σ') 0 0 56 [(0, .ref (G.2.2.1 + 570)), (2, .int y2), (3, .int y3)] [] σ := by
  intro n
  induction n with
  | zero => intro y2 y3 σ h0; cases h0
  | succ n ih => intro y2 y3 σ h0; exact bb_Model_text_56 C hr hk hd hR ih h0
def s_Model_text_346_b (p0 : Int32) (rec346 : Int32 → LH → Option (Int32 × LH)) (y3 : Int32) (σ : LH) : Option (Int32 × LH) :=
  if 16 ≤ y3 then (
   xl ((stI σ 570 57 0) : LH) fun σ33 =>
   xl ((stI σ33 570 46 0) : LH) fun σ34 =>
   xl ((stI σ34 570 59 0) : LH) fun σ35 =>
   some ((σ35.1 570 27), σ35))
  else (
   if ib (32 + y3) 290 then (
   xl ((stI σ 583 (Int32.toNatClampNeg (32 + y3)) (-1)) : LH) fun σ37 =>
   xl ((y3 + 1) : Int32) fun x38 =>
   rec346 x38 σ37) else none)
def s_Model_text_346 (p0 : Int32) : Nat → Int32 → LH → Option (Int32 × LH)
  | 0, _, _ => none
  | n + 1, y3, σ => s_Model_text_346_b p0 (s_Model_text_346 p0 n) y3 σ
theorem bb_Model_text_346 {G : XG} {l : Launch} {p : Program} {e : Env} {R : Room} {s : State} {m : MethodId} {args : Array Value} {below : List Frame} {meth : Method} {c : Code} (C : XC G 570 598 p s m args c prog_14_method_38_code 4 R_Model) (hr : meth.sig.returnType = (some .int)) (hk : meth.locks = false) {d : Nat} (hd : 118 ≤ d + 1) (hR : xroom R (d + 1)) {p0 : Int32} {rec346 : Int32 → LH → Option (Int32 × LH)} {σ' : LH} {r : Int32} (hrec346 : ∀ (y3 : Int32) (σ : LH), rec346 y3 σ = some (r, σ') → XJ G 570 598 p l e R s m args below meth c 4 (XQ G 570 598 below args s (some (.int r)) σ') 0 0 346 [(0, .ref (G.2.2.1 + 570)), (3, .int y3)] [] σ) {y3 : Int32} {σ : LH} (h0 : s_Model_text_346_b p0 rec346 y3 σ = some (r, σ')) : XJ G 570 598 p l e R s m args below meth c 4 (XQ G 570 598 below args s (some (.int r)) σ') 0 0 346 [(0, .ref (G.2.2.1 + 570)), (3, .int y3)] [] σ := by
  replace h0 := (show _ = _ from h0)
  unfold s_Model_text_346_b at h0
  refine x_iload_n C d_Model_text_346 1 rfl ?_
  refine x_bipush (v := 16) C d_Model_text_347 (by decide) ?_
  refine x_icmp_ge C 368 d_Model_text_349 (by decide) (fun q32 => ?_) (fun q32 => ?_)
  · replace h0 := xit q32 h0
    refine x_aload_n C d_Model_text_368 0 rfl ?_
    refine x_iconst (v := 0) C d_Model_text_369 (by decide) ?_
    refine x_putI (y := 0) C fp_Model_311 k_570 rfl rfl rfl d_Model_text_370 ?_
    obtain ⟨σ33, eσ33, h0⟩ := xlet h0
    refine x_sig C eσ33 ?_
    refine x_aload_n C d_Model_text_373 0 rfl ?_
    refine x_iconst (v := 0) C d_Model_text_374 (by decide) ?_
    refine x_putI (y := 0) C fp_Model_314 k_570 rfl rfl rfl d_Model_text_375 ?_
    obtain ⟨σ34, eσ34, h0⟩ := xlet h0
    refine x_sig C eσ34 ?_
    refine x_aload_n C d_Model_text_378 0 rfl ?_
    refine x_iconst (v := 0) C d_Model_text_379 (by decide) ?_
    refine x_putI (y := 0) C fp_Model_317 k_570 rfl rfl rfl d_Model_text_380 ?_
    obtain ⟨σ35, eσ35, h0⟩ := xlet h0
    refine x_sig C eσ35 ?_
    refine x_aload_n C d_Model_text_383 0 rfl ?_
    refine x_getI (y := 0) C fg_Model_305 k_570 rfl d_Model_text_384 ?_
    exact x_iret C hr hk h0 d_Model_text_387
  · replace h0 := xif q32 h0
    refine x_aload_n C d_Model_text_352 0 rfl ?_
    refine x_getA (y := 583) C fg_Model_61 k_570 rfl d_Model_text_353 ?_
    refine x_bipush (v := 32) C d_Model_text_356 (by decide) ?_
    refine x_iload_n C d_Model_text_358 1 rfl ?_
    refine x_iadd C d_Model_text_359 ?_
    refine x_iconst (v := (-1)) C d_Model_text_360 (by decide) ?_
    obtain ⟨g36, h0⟩ := xgo h0
    refine x_iast C k_583 (ib_in g36) d_Model_text_361 ?_
    obtain ⟨σ37, eσ37, h0⟩ := xlet h0
    refine x_sig C eσ37 ?_
    obtain ⟨x38, ex38, h0⟩ := xlet h0
    refine x_iinc (lv' := [(3, .int x38), (0, .ref (G.2.2.1 + 570))]) C d_Model_text_362 1 rfl ex38 (by decide) rfl ?_
    refine x_goto C 346 d_Model_text_365 (by decide) ?_
    exact x_lv C [1, 0] rfl (hrec346 _ _ h0)
theorem b_Model_text_346 {G : XG} {l : Launch} {p : Program} {e : Env} {R : Room} {s : State} {m : MethodId} {args : Array Value} {below : List Frame} {meth : Method} {c : Code} (C : XC G 570 598 p s m args c prog_14_method_38_code 4 R_Model) (hr : meth.sig.returnType = (some .int)) (hk : meth.locks = false) {d : Nat} (hd : 118 ≤ d + 1) (hR : xroom R (d + 1)) {p0 : Int32} {σ' : LH} {r : Int32} : ∀ (n : Nat) (y3 : Int32) (σ : LH), s_Model_text_346 p0 n y3 σ = some (r, σ') → XJ G 570 598 p l e R s m args below meth c 4 (XQ G 570 598 below args s (some (.int r)) σ') 0 0 346 [(0, .ref (G.2.2.1 + 570)), (3, .int y3)] [] σ := by
  intro n
  induction n with
  | zero => intro y3 σ h0; cases h0
  | succ n ih => intro y3 σ h0; exact bb_Model_text_346 C hr hk hd hR ih h0
def s_Model_text_306 (p0 : Int32) (rec266 : Int32 → LH → Option (Int32 × LH)) (y3 : Int32) (z1 : Int32) (z2 : Int32) (σ : LH) : Option (Int32 × LH) :=
  if ib z1 290 then (
  xl ((stI σ 583 (Int32.toNatClampNeg z1) z2) : LH) fun σ42 =>
  if ib ((4 * y3) + 1) 290 then (
  xl ((stI σ42 583 (Int32.toNatClampNeg ((4 * y3) + 1)) (-1)) : LH) fun σ44 =>
  if ib ((4 * y3) + 3) 32 then (
  if ib ((4 * y3) + 2) 290 then (
  xl ((stI σ44 583 (Int32.toNatClampNeg ((4 * y3) + 2)) (σ44.1 577 (Int32.toNatClampNeg ((4 * y3) + 3)))) : LH) fun σ47 =>
  xl ((y3 + 1) : Int32) fun x48 =>
  rec266 x48 σ47) else none) else none) else none) else none
theorem b_Model_text_306 {G : XG} {l : Launch} {p : Program} {e : Env} {R : Room} {s : State} {m : MethodId} {args : Array Value} {below : List Frame} {meth : Method} {c : Code} (C : XC G 570 598 p s m args c prog_14_method_38_code 4 R_Model) (hr : meth.sig.returnType = (some .int)) (hk : meth.locks = false) {d : Nat} (hd : 118 ≤ d + 1) (hR : xroom R (d + 1)) {p0 : Int32} {rec266 : Int32 → LH → Option (Int32 × LH)} {σ' : LH} {r : Int32} (hrec266 : ∀ (y3 : Int32) (σ : LH), rec266 y3 σ = some (r, σ') → XJ G 570 598 p l e R s m args below meth c 4 (XQ G 570 598 below args s (some (.int r)) σ') 0 0 266 [(0, .ref (G.2.2.1 + 570)), (3, .int y3)] [] σ) {y3 : Int32} {z1 : Int32} {z2 : Int32} {σ : LH} (h0 : s_Model_text_306 p0 rec266 y3 z1 z2 σ = some (r, σ')) : XJ G 570 598 p l e R s m args below meth c 4 (XQ G 570 598 below args s (some (.int r)) σ') 0 0 306 [(0, .ref (G.2.2.1 + 570)), (3, .int y3)] [.int z2, .int z1, .ref (G.2.2.1 + 583)] σ := by
  replace h0 := (show _ = _ from h0)
  unfold s_Model_text_306 at h0
  obtain ⟨g41, h0⟩ := xgo h0
  refine x_iast C k_583 (ib_in g41) d_Model_text_306 ?_
  obtain ⟨σ42, eσ42, h0⟩ := xlet h0
  refine x_sig C eσ42 ?_
  refine x_aload_n C d_Model_text_307 0 rfl ?_
  refine x_getA (y := 583) C fg_Model_61 k_570 rfl d_Model_text_308 ?_
  refine x_iconst (v := 4) C d_Model_text_311 (by decide) ?_
  refine x_iload_n C d_Model_text_312 1 rfl ?_
  refine x_imul C d_Model_text_313 ?_
  refine x_iconst (v := 1) C d_Model_text_314 (by decide) ?_
  refine x_iadd C d_Model_text_315 ?_
  refine x_iconst (v := (-1)) C d_Model_text_316 (by decide) ?_
  obtain ⟨g43, h0⟩ := xgo h0
  refine x_iast C k_583 (ib_in g43) d_Model_text_317 ?_
  obtain ⟨σ44, eσ44, h0⟩ := xlet h0
  refine x_sig C eσ44 ?_
  refine x_aload_n C d_Model_text_318 0 rfl ?_
  refine x_getA (y := 583) C fg_Model_61 k_570 rfl d_Model_text_319 ?_
  refine x_iconst (v := 4) C d_Model_text_322 (by decide) ?_
  refine x_iload_n C d_Model_text_323 1 rfl ?_
  refine x_imul C d_Model_text_324 ?_
  refine x_iconst (v := 2) C d_Model_text_325 (by decide) ?_
  refine x_iadd C d_Model_text_326 ?_
  refine x_aload_n C d_Model_text_327 0 rfl ?_
  refine x_getA (y := 577) C fg_Model_43 k_570 rfl d_Model_text_328 ?_
  refine x_iconst (v := 4) C d_Model_text_331 (by decide) ?_
  refine x_iload_n C d_Model_text_332 1 rfl ?_
  refine x_imul C d_Model_text_333 ?_
  refine x_iconst (v := 3) C d_Model_text_334 (by decide) ?_
  refine x_iadd C d_Model_text_335 ?_
  obtain ⟨g45, h0⟩ := xgo h0
  refine x_iald C k_577 (ib_in g45) d_Model_text_336 ?_
  obtain ⟨g46, h0⟩ := xgo h0
  refine x_iast C k_583 (ib_in g46) d_Model_text_337 ?_
  obtain ⟨σ47, eσ47, h0⟩ := xlet h0
  refine x_sig C eσ47 ?_
  obtain ⟨x48, ex48, h0⟩ := xlet h0
  refine x_iinc (lv' := [(3, .int x48), (0, .ref (G.2.2.1 + 570))]) C d_Model_text_338 1 rfl ex48 (by decide) rfl ?_
  refine x_goto C 266 d_Model_text_341 (by decide) ?_
  exact x_lv C [1, 0] rfl (hrec266 _ _ h0)
def s_Model_text_266_b (p0 : Int32) (rec266 : Int32 → LH → Option (Int32 × LH)) (y3 : Int32) (σ : LH) : Option (Int32 × LH) :=
  if (σ.1 570 27) ≤ y3 then (
   s_Model_text_346 p0 FUEL 0 σ)
  else (
   if ib (4 * y3) 32 then (
   if (σ.1 577 (Int32.toNatClampNeg (4 * y3))) = 8 then (
    s_Model_text_306 p0 rec266 y3 (4 * y3) (-1) σ)
   else (
    if ib (4 * y3) 32 then (
    s_Model_text_306 p0 rec266 y3 (4 * y3) (σ.1 577 (Int32.toNatClampNeg (4 * y3))) σ) else none)) else none)
def s_Model_text_266 (p0 : Int32) : Nat → Int32 → LH → Option (Int32 × LH)
  | 0, _, _ => none
  | n + 1, y3, σ => s_Model_text_266_b p0 (s_Model_text_266 p0 n) y3 σ
theorem bb_Model_text_266 {G : XG} {l : Launch} {p : Program} {e : Env} {R : Room} {s : State} {m : MethodId} {args : Array Value} {below : List Frame} {meth : Method} {c : Code} (C : XC G 570 598 p s m args c prog_14_method_38_code 4 R_Model) (hr : meth.sig.returnType = (some .int)) (hk : meth.locks = false) {d : Nat} (hd : 118 ≤ d + 1) (hR : xroom R (d + 1)) {p0 : Int32} {rec266 : Int32 → LH → Option (Int32 × LH)} {σ' : LH} {r : Int32} (hrec266 : ∀ (y3 : Int32) (σ : LH), rec266 y3 σ = some (r, σ') → XJ G 570 598 p l e R s m args below meth c 4 (XQ G 570 598 below args s (some (.int r)) σ') 0 0 266 [(0, .ref (G.2.2.1 + 570)), (3, .int y3)] [] σ) {y3 : Int32} {σ : LH} (h0 : s_Model_text_266_b p0 rec266 y3 σ = some (r, σ')) : XJ G 570 598 p l e R s m args below meth c 4 (XQ G 570 598 below args s (some (.int r)) σ') 0 0 266 [(0, .ref (G.2.2.1 + 570)), (3, .int y3)] [] σ := by
  replace h0 := (show _ = _ from h0)
  unfold s_Model_text_266_b at h0
  refine x_iload_n C d_Model_text_266 1 rfl ?_
  refine x_aload_n C d_Model_text_267 0 rfl ?_
  refine x_getI (y := 0) C fg_Model_305 k_570 rfl d_Model_text_268 ?_
  refine x_icmp_ge C 344 d_Model_text_271 (by decide) (fun q31 => ?_) (fun q31 => ?_)
  · replace h0 := xit q31 h0
    refine x_iconst (v := 0) C d_Model_text_344 (by decide) ?_
    refine x_istore_n (lv' := [(3, .int 0), (0, .ref (G.2.2.1 + 570))]) C d_Model_text_345 rfl (by decide) rfl ?_
    exact x_lv C [1, 0] rfl (b_Model_text_346 C hr hk hd hR FUEL _ _ h0)
  · replace h0 := xif q31 h0
    refine x_aload_n C d_Model_text_274 0 rfl ?_
    refine x_getA (y := 583) C fg_Model_61 k_570 rfl d_Model_text_275 ?_
    refine x_iconst (v := 4) C d_Model_text_278 (by decide) ?_
    refine x_iload_n C d_Model_text_279 1 rfl ?_
    refine x_imul C d_Model_text_280 ?_
    refine x_aload_n C d_Model_text_281 0 rfl ?_
    refine x_getA (y := 577) C fg_Model_43 k_570 rfl d_Model_text_282 ?_
    refine x_iconst (v := 4) C d_Model_text_285 (by decide) ?_
    refine x_iload_n C d_Model_text_286 1 rfl ?_
    refine x_imul C d_Model_text_287 ?_
    obtain ⟨g39, h0⟩ := xgo h0
    refine x_iald C k_577 (ib_in g39) d_Model_text_288 ?_
    refine x_bipush (v := 8) C d_Model_text_289 (by decide) ?_
    refine x_icmp_ne C 298 d_Model_text_291 (by decide) (fun q40 => ?_) (fun q40 => ?_)
    · replace h0 := xif q40 h0
      refine x_aload_n C d_Model_text_298 0 rfl ?_
      refine x_getA (y := 577) C fg_Model_43 k_570 rfl d_Model_text_299 ?_
      refine x_iconst (v := 4) C d_Model_text_302 (by decide) ?_
      refine x_iload_n C d_Model_text_303 1 rfl ?_
      refine x_imul C d_Model_text_304 ?_
      obtain ⟨g49, h0⟩ := xgo h0
      refine x_iald C k_577 (ib_in g49) d_Model_text_305 ?_
      exact x_lv C [0, 1] rfl (b_Model_text_306 C hr hk hd hR hrec266 h0)
    · replace h0 := xit q40 h0
      refine x_iconst (v := (-1)) C d_Model_text_294 (by decide) ?_
      refine x_goto C 306 d_Model_text_295 (by decide) ?_
      exact x_lv C [0, 1] rfl (b_Model_text_306 C hr hk hd hR hrec266 h0)
theorem b_Model_text_266 {G : XG} {l : Launch} {p : Program} {e : Env} {R : Room} {s : State} {m : MethodId} {args : Array Value} {below : List Frame} {meth : Method} {c : Code} (C : XC G 570 598 p s m args c prog_14_method_38_code 4 R_Model) (hr : meth.sig.returnType = (some .int)) (hk : meth.locks = false) {d : Nat} (hd : 118 ≤ d + 1) (hR : xroom R (d + 1)) {p0 : Int32} {σ' : LH} {r : Int32} : ∀ (n : Nat) (y3 : Int32) (σ : LH), s_Model_text_266 p0 n y3 σ = some (r, σ') → XJ G 570 598 p l e R s m args below meth c 4 (XQ G 570 598 below args s (some (.int r)) σ') 0 0 266 [(0, .ref (G.2.2.1 + 570)), (3, .int y3)] [] σ := by
  intro n
  induction n with
  | zero => intro y3 σ h0; cases h0
  | succ n ih => intro y3 σ h0; exact bb_Model_text_266 C hr hk hd hR ih h0
def s_Model_text_244_b (p0 : Int32) (rec244 : Int32 → LH → Option (Int32 × LH)) (y3 : Int32) (σ : LH) : Option (Int32 × LH) :=
  if 290 ≤ y3 then (
   s_Model_text_266 p0 FUEL 0 σ)
  else (
   if ib y3 290 then (
   xl ((stI σ 583 (Int32.toNatClampNeg y3) 0) : LH) fun σ51 =>
   xl ((y3 + 1) : Int32) fun x52 =>
   rec244 x52 σ51) else none)
def s_Model_text_244 (p0 : Int32) : Nat → Int32 → LH → Option (Int32 × LH)
  | 0, _, _ => none
  | n + 1, y3, σ => s_Model_text_244_b p0 (s_Model_text_244 p0 n) y3 σ
theorem bb_Model_text_244 {G : XG} {l : Launch} {p : Program} {e : Env} {R : Room} {s : State} {m : MethodId} {args : Array Value} {below : List Frame} {meth : Method} {c : Code} (C : XC G 570 598 p s m args c prog_14_method_38_code 4 R_Model) (hr : meth.sig.returnType = (some .int)) (hk : meth.locks = false) {d : Nat} (hd : 118 ≤ d + 1) (hR : xroom R (d + 1)) {p0 : Int32} {rec244 : Int32 → LH → Option (Int32 × LH)} {σ' : LH} {r : Int32} (hrec244 : ∀ (y3 : Int32) (σ : LH), rec244 y3 σ = some (r, σ') → XJ G 570 598 p l e R s m args below meth c 4 (XQ G 570 598 below args s (some (.int r)) σ') 0 0 244 [(0, .ref (G.2.2.1 + 570)), (3, .int y3)] [] σ) {y3 : Int32} {σ : LH} (h0 : s_Model_text_244_b p0 rec244 y3 σ = some (r, σ')) : XJ G 570 598 p l e R s m args below meth c 4 (XQ G 570 598 below args s (some (.int r)) σ') 0 0 244 [(0, .ref (G.2.2.1 + 570)), (3, .int y3)] [] σ := by
  replace h0 := (show _ = _ from h0)
  unfold s_Model_text_244_b at h0
  refine x_iload_n C d_Model_text_244 1 rfl ?_
  refine x_sipush (v := 290) C d_Model_text_245 (by decide) ?_
  refine x_icmp_ge C 264 d_Model_text_248 (by decide) (fun q30 => ?_) (fun q30 => ?_)
  · replace h0 := xit q30 h0
    refine x_iconst (v := 0) C d_Model_text_264 (by decide) ?_
    refine x_istore_n (lv' := [(3, .int 0), (0, .ref (G.2.2.1 + 570))]) C d_Model_text_265 rfl (by decide) rfl ?_
    exact x_lv C [1, 0] rfl (b_Model_text_266 C hr hk hd hR FUEL _ _ h0)
  · replace h0 := xif q30 h0
    refine x_aload_n C d_Model_text_251 0 rfl ?_
    refine x_getA (y := 583) C fg_Model_61 k_570 rfl d_Model_text_252 ?_
    refine x_iload_n C d_Model_text_255 1 rfl ?_
    refine x_iconst (v := 0) C d_Model_text_256 (by decide) ?_
    obtain ⟨g50, h0⟩ := xgo h0
    refine x_iast C k_583 (ib_in g50) d_Model_text_257 ?_
    obtain ⟨σ51, eσ51, h0⟩ := xlet h0
    refine x_sig C eσ51 ?_
    obtain ⟨x52, ex52, h0⟩ := xlet h0
    refine x_iinc (lv' := [(3, .int x52), (0, .ref (G.2.2.1 + 570))]) C d_Model_text_258 1 rfl ex52 (by decide) rfl ?_
    refine x_goto C 244 d_Model_text_261 (by decide) ?_
    exact x_lv C [1, 0] rfl (hrec244 _ _ h0)
theorem b_Model_text_244 {G : XG} {l : Launch} {p : Program} {e : Env} {R : Room} {s : State} {m : MethodId} {args : Array Value} {below : List Frame} {meth : Method} {c : Code} (C : XC G 570 598 p s m args c prog_14_method_38_code 4 R_Model) (hr : meth.sig.returnType = (some .int)) (hk : meth.locks = false) {d : Nat} (hd : 118 ≤ d + 1) (hR : xroom R (d + 1)) {p0 : Int32} {σ' : LH} {r : Int32} : ∀ (n : Nat) (y3 : Int32) (σ : LH), s_Model_text_244 p0 n y3 σ = some (r, σ') → XJ G 570 598 p l e R s m args below meth c 4 (XQ G 570 598 below args s (some (.int r)) σ') 0 0 244 [(0, .ref (G.2.2.1 + 570)), (3, .int y3)] [] σ := by
  intro n
  induction n with
  | zero => intro y3 σ h0; cases h0
  | succ n ih => intro y3 σ h0; exact bb_Model_text_244 C hr hk hd hR ih h0
def s_Model_text_219_b (p0 : Int32) (rec219 : Int32 → LH → Option (Int32 × LH)) (y3 : Int32) (σ : LH) : Option (Int32 × LH) :=
  if 2 ≤ y3 then (
   s_Model_text_244 p0 FUEL 0 σ)
  else (
   if ib y3 2 then (
   if ib y3 2 then (
   xl ((stI σ 581 (Int32.toNatClampNeg y3) (σ.1 582 (Int32.toNatClampNeg y3))) : LH) fun σ55 =>
   xl ((y3 + 1) : Int32) fun x56 =>
   rec219 x56 σ55) else none) else none)
def s_Model_text_219 (p0 : Int32) : Nat → Int32 → LH → Option (Int32 × LH)
  | 0, _, _ => none
  | n + 1, y3, σ => s_Model_text_219_b p0 (s_Model_text_219 p0 n) y3 σ
theorem bb_Model_text_219 {G : XG} {l : Launch} {p : Program} {e : Env} {R : Room} {s : State} {m : MethodId} {args : Array Value} {below : List Frame} {meth : Method} {c : Code} (C : XC G 570 598 p s m args c prog_14_method_38_code 4 R_Model) (hr : meth.sig.returnType = (some .int)) (hk : meth.locks = false) {d : Nat} (hd : 118 ≤ d + 1) (hR : xroom R (d + 1)) {p0 : Int32} {rec219 : Int32 → LH → Option (Int32 × LH)} {σ' : LH} {r : Int32} (hrec219 : ∀ (y3 : Int32) (σ : LH), rec219 y3 σ = some (r, σ') → XJ G 570 598 p l e R s m args below meth c 4 (XQ G 570 598 below args s (some (.int r)) σ') 0 0 219 [(0, .ref (G.2.2.1 + 570)), (3, .int y3)] [] σ) {y3 : Int32} {σ : LH} (h0 : s_Model_text_219_b p0 rec219 y3 σ = some (r, σ')) : XJ G 570 598 p l e R s m args below meth c 4 (XQ G 570 598 below args s (some (.int r)) σ') 0 0 219 [(0, .ref (G.2.2.1 + 570)), (3, .int y3)] [] σ := by
  replace h0 := (show _ = _ from h0)
  unfold s_Model_text_219_b at h0
  refine x_iload_n C d_Model_text_219 1 rfl ?_
  refine x_iconst (v := 2) C d_Model_text_220 (by decide) ?_
  refine x_icmp_ge C 242 d_Model_text_221 (by decide) (fun q29 => ?_) (fun q29 => ?_)
  · replace h0 := xit q29 h0
    refine x_iconst (v := 0) C d_Model_text_242 (by decide) ?_
    refine x_istore_n (lv' := [(3, .int 0), (0, .ref (G.2.2.1 + 570))]) C d_Model_text_243 rfl (by decide) rfl ?_
    exact x_lv C [1, 0] rfl (b_Model_text_244 C hr hk hd hR FUEL _ _ h0)
  · replace h0 := xif q29 h0
    refine x_aload_n C d_Model_text_224 0 rfl ?_
    refine x_getA (y := 581) C fg_Model_55 k_570 rfl d_Model_text_225 ?_
    refine x_iload_n C d_Model_text_228 1 rfl ?_
    refine x_aload_n C d_Model_text_229 0 rfl ?_
    refine x_getA (y := 582) C fg_Model_58 k_570 rfl d_Model_text_230 ?_
    refine x_iload_n C d_Model_text_233 1 rfl ?_
    obtain ⟨g53, h0⟩ := xgo h0
    refine x_iald C k_582 (ib_in g53) d_Model_text_234 ?_
    obtain ⟨g54, h0⟩ := xgo h0
    refine x_iast C k_581 (ib_in g54) d_Model_text_235 ?_
    obtain ⟨σ55, eσ55, h0⟩ := xlet h0
    refine x_sig C eσ55 ?_
    obtain ⟨x56, ex56, h0⟩ := xlet h0
    refine x_iinc (lv' := [(3, .int x56), (0, .ref (G.2.2.1 + 570))]) C d_Model_text_236 1 rfl ex56 (by decide) rfl ?_
    refine x_goto C 219 d_Model_text_239 (by decide) ?_
    exact x_lv C [1, 0] rfl (hrec219 _ _ h0)
theorem b_Model_text_219 {G : XG} {l : Launch} {p : Program} {e : Env} {R : Room} {s : State} {m : MethodId} {args : Array Value} {below : List Frame} {meth : Method} {c : Code} (C : XC G 570 598 p s m args c prog_14_method_38_code 4 R_Model) (hr : meth.sig.returnType = (some .int)) (hk : meth.locks = false) {d : Nat} (hd : 118 ≤ d + 1) (hR : xroom R (d + 1)) {p0 : Int32} {σ' : LH} {r : Int32} : ∀ (n : Nat) (y3 : Int32) (σ : LH), s_Model_text_219 p0 n y3 σ = some (r, σ') → XJ G 570 598 p l e R s m args below meth c 4 (XQ G 570 598 below args s (some (.int r)) σ') 0 0 219 [(0, .ref (G.2.2.1 + 570)), (3, .int y3)] [] σ := by
  intro n
  induction n with
  | zero => intro y3 σ h0; cases h0
  | succ n ih => intro y3 σ h0; exact bb_Model_text_219 C hr hk hd hR ih h0
def s_Model_text_193_b (p0 : Int32) (rec193 : Int32 → LH → Option (Int32 × LH)) (y3 : Int32) (σ : LH) : Option (Int32 × LH) :=
  if 30 ≤ y3 then (
   s_Model_text_219 p0 FUEL 0 σ)
  else (
   if ib y3 30 then (
   if ib y3 30 then (
   xl ((stI σ 579 (Int32.toNatClampNeg y3) (σ.1 580 (Int32.toNatClampNeg y3))) : LH) fun σ59 =>
   xl ((y3 + 1) : Int32) fun x60 =>
   rec193 x60 σ59) else none) else none)
def s_Model_text_193 (p0 : Int32) : Nat → Int32 → LH → Option (Int32 × LH)
  | 0, _, _ => none
  | n + 1, y3, σ => s_Model_text_193_b p0 (s_Model_text_193 p0 n) y3 σ
theorem bb_Model_text_193 {G : XG} {l : Launch} {p : Program} {e : Env} {R : Room} {s : State} {m : MethodId} {args : Array Value} {below : List Frame} {meth : Method} {c : Code} (C : XC G 570 598 p s m args c prog_14_method_38_code 4 R_Model) (hr : meth.sig.returnType = (some .int)) (hk : meth.locks = false) {d : Nat} (hd : 118 ≤ d + 1) (hR : xroom R (d + 1)) {p0 : Int32} {rec193 : Int32 → LH → Option (Int32 × LH)} {σ' : LH} {r : Int32} (hrec193 : ∀ (y3 : Int32) (σ : LH), rec193 y3 σ = some (r, σ') → XJ G 570 598 p l e R s m args below meth c 4 (XQ G 570 598 below args s (some (.int r)) σ') 0 0 193 [(0, .ref (G.2.2.1 + 570)), (3, .int y3)] [] σ) {y3 : Int32} {σ : LH} (h0 : s_Model_text_193_b p0 rec193 y3 σ = some (r, σ')) : XJ G 570 598 p l e R s m args below meth c 4 (XQ G 570 598 below args s (some (.int r)) σ') 0 0 193 [(0, .ref (G.2.2.1 + 570)), (3, .int y3)] [] σ := by
  replace h0 := (show _ = _ from h0)
  unfold s_Model_text_193_b at h0
  refine x_iload_n C d_Model_text_193 1 rfl ?_
  refine x_bipush (v := 30) C d_Model_text_194 (by decide) ?_
  refine x_icmp_ge C 217 d_Model_text_196 (by decide) (fun q28 => ?_) (fun q28 => ?_)
  · replace h0 := xit q28 h0
    refine x_iconst (v := 0) C d_Model_text_217 (by decide) ?_
    refine x_istore_n (lv' := [(3, .int 0), (0, .ref (G.2.2.1 + 570))]) C d_Model_text_218 rfl (by decide) rfl ?_
    exact x_lv C [1, 0] rfl (b_Model_text_219 C hr hk hd hR FUEL _ _ h0)
  · replace h0 := xif q28 h0
    refine x_aload_n C d_Model_text_199 0 rfl ?_
    refine x_getA (y := 579) C fg_Model_49 k_570 rfl d_Model_text_200 ?_
    refine x_iload_n C d_Model_text_203 1 rfl ?_
    refine x_aload_n C d_Model_text_204 0 rfl ?_
    refine x_getA (y := 580) C fg_Model_52 k_570 rfl d_Model_text_205 ?_
    refine x_iload_n C d_Model_text_208 1 rfl ?_
    obtain ⟨g57, h0⟩ := xgo h0
    refine x_iald C k_580 (ib_in g57) d_Model_text_209 ?_
    obtain ⟨g58, h0⟩ := xgo h0
    refine x_iast C k_579 (ib_in g58) d_Model_text_210 ?_
    obtain ⟨σ59, eσ59, h0⟩ := xlet h0
    refine x_sig C eσ59 ?_
    obtain ⟨x60, ex60, h0⟩ := xlet h0
    refine x_iinc (lv' := [(3, .int x60), (0, .ref (G.2.2.1 + 570))]) C d_Model_text_211 1 rfl ex60 (by decide) rfl ?_
    refine x_goto C 193 d_Model_text_214 (by decide) ?_
    exact x_lv C [1, 0] rfl (hrec193 _ _ h0)
theorem b_Model_text_193 {G : XG} {l : Launch} {p : Program} {e : Env} {R : Room} {s : State} {m : MethodId} {args : Array Value} {below : List Frame} {meth : Method} {c : Code} (C : XC G 570 598 p s m args c prog_14_method_38_code 4 R_Model) (hr : meth.sig.returnType = (some .int)) (hk : meth.locks = false) {d : Nat} (hd : 118 ≤ d + 1) (hR : xroom R (d + 1)) {p0 : Int32} {σ' : LH} {r : Int32} : ∀ (n : Nat) (y3 : Int32) (σ : LH), s_Model_text_193 p0 n y3 σ = some (r, σ') → XJ G 570 598 p l e R s m args below meth c 4 (XQ G 570 598 below args s (some (.int r)) σ') 0 0 193 [(0, .ref (G.2.2.1 + 570)), (3, .int y3)] [] σ := by
  intro n
  induction n with
  | zero => intro y3 σ h0; cases h0
  | succ n ih => intro y3 σ h0; exact bb_Model_text_193 C hr hk hd hR ih h0
def s_Model_text_167_b (p0 : Int32) (rec167 : Int32 → LH → Option (Int32 × LH)) (y3 : Int32) (σ : LH) : Option (Int32 × LH) :=
  if 32 ≤ y3 then (
   s_Model_text_193 p0 FUEL 0 σ)
  else (
   if ib y3 32 then (
   if ib y3 32 then (
   xl ((stI σ 577 (Int32.toNatClampNeg y3) (σ.1 578 (Int32.toNatClampNeg y3))) : LH) fun σ63 =>
   xl ((y3 + 1) : Int32) fun x64 =>
   rec167 x64 σ63) else none) else none)
def s_Model_text_167 (p0 : Int32) : Nat → Int32 → LH → Option (Int32 × LH)
  | 0, _, _ => none
  | n + 1, y3, σ => s_Model_text_167_b p0 (s_Model_text_167 p0 n) y3 σ
theorem bb_Model_text_167 {G : XG} {l : Launch} {p : Program} {e : Env} {R : Room} {s : State} {m : MethodId} {args : Array Value} {below : List Frame} {meth : Method} {c : Code} (C : XC G 570 598 p s m args c prog_14_method_38_code 4 R_Model) (hr : meth.sig.returnType = (some .int)) (hk : meth.locks = false) {d : Nat} (hd : 118 ≤ d + 1) (hR : xroom R (d + 1)) {p0 : Int32} {rec167 : Int32 → LH → Option (Int32 × LH)} {σ' : LH} {r : Int32} (hrec167 : ∀ (y3 : Int32) (σ : LH), rec167 y3 σ = some (r, σ') → XJ G 570 598 p l e R s m args below meth c 4 (XQ G 570 598 below args s (some (.int r)) σ') 0 0 167 [(0, .ref (G.2.2.1 + 570)), (3, .int y3)] [] σ) {y3 : Int32} {σ : LH} (h0 : s_Model_text_167_b p0 rec167 y3 σ = some (r, σ')) : XJ G 570 598 p l e R s m args below meth c 4 (XQ G 570 598 below args s (some (.int r)) σ') 0 0 167 [(0, .ref (G.2.2.1 + 570)), (3, .int y3)] [] σ := by
  replace h0 := (show _ = _ from h0)
  unfold s_Model_text_167_b at h0
  refine x_iload_n C d_Model_text_167 1 rfl ?_
  refine x_bipush (v := 32) C d_Model_text_168 (by decide) ?_
  refine x_icmp_ge C 191 d_Model_text_170 (by decide) (fun q27 => ?_) (fun q27 => ?_)
  · replace h0 := xit q27 h0
    refine x_iconst (v := 0) C d_Model_text_191 (by decide) ?_
    refine x_istore_n (lv' := [(3, .int 0), (0, .ref (G.2.2.1 + 570))]) C d_Model_text_192 rfl (by decide) rfl ?_
    exact x_lv C [1, 0] rfl (b_Model_text_193 C hr hk hd hR FUEL _ _ h0)
  · replace h0 := xif q27 h0
    refine x_aload_n C d_Model_text_173 0 rfl ?_
    refine x_getA (y := 577) C fg_Model_43 k_570 rfl d_Model_text_174 ?_
    refine x_iload_n C d_Model_text_177 1 rfl ?_
    refine x_aload_n C d_Model_text_178 0 rfl ?_
    refine x_getA (y := 578) C fg_Model_46 k_570 rfl d_Model_text_179 ?_
    refine x_iload_n C d_Model_text_182 1 rfl ?_
    obtain ⟨g61, h0⟩ := xgo h0
    refine x_iald C k_578 (ib_in g61) d_Model_text_183 ?_
    obtain ⟨g62, h0⟩ := xgo h0
    refine x_iast C k_577 (ib_in g62) d_Model_text_184 ?_
    obtain ⟨σ63, eσ63, h0⟩ := xlet h0
    refine x_sig C eσ63 ?_
    obtain ⟨x64, ex64, h0⟩ := xlet h0
    refine x_iinc (lv' := [(3, .int x64), (0, .ref (G.2.2.1 + 570))]) C d_Model_text_185 1 rfl ex64 (by decide) rfl ?_
    refine x_goto C 167 d_Model_text_188 (by decide) ?_
    exact x_lv C [1, 0] rfl (hrec167 _ _ h0)
theorem b_Model_text_167 {G : XG} {l : Launch} {p : Program} {e : Env} {R : Room} {s : State} {m : MethodId} {args : Array Value} {below : List Frame} {meth : Method} {c : Code} (C : XC G 570 598 p s m args c prog_14_method_38_code 4 R_Model) (hr : meth.sig.returnType = (some .int)) (hk : meth.locks = false) {d : Nat} (hd : 118 ≤ d + 1) (hR : xroom R (d + 1)) {p0 : Int32} {σ' : LH} {r : Int32} : ∀ (n : Nat) (y3 : Int32) (σ : LH), s_Model_text_167 p0 n y3 σ = some (r, σ') → XJ G 570 598 p l e R s m args below meth c 4 (XQ G 570 598 below args s (some (.int r)) σ') 0 0 167 [(0, .ref (G.2.2.1 + 570)), (3, .int y3)] [] σ := by
  intro n
  induction n with
  | zero => intro y3 σ h0; cases h0
  | succ n ih => intro y3 σ h0; exact bb_Model_text_167 C hr hk hd hR ih h0
def s_Model_text_141_b (p0 : Int32) (rec141 : Int32 → LH → Option (Int32 × LH)) (y3 : Int32) (σ : LH) : Option (Int32 × LH) :=
  if 24 ≤ y3 then (
   s_Model_text_167 p0 FUEL 0 σ)
  else (
   if ib y3 24 then (
   if ib y3 24 then (
   xl ((stI σ 575 (Int32.toNatClampNeg y3) (σ.1 576 (Int32.toNatClampNeg y3))) : LH) fun σ67 =>
   xl ((y3 + 1) : Int32) fun x68 =>
   rec141 x68 σ67) else none) else none)
def s_Model_text_141 (p0 : Int32) : Nat → Int32 → LH → Option (Int32 × LH)
  | 0, _, _ => none
  | n + 1, y3, σ => s_Model_text_141_b p0 (s_Model_text_141 p0 n) y3 σ
theorem bb_Model_text_141 {G : XG} {l : Launch} {p : Program} {e : Env} {R : Room} {s : State} {m : MethodId} {args : Array Value} {below : List Frame} {meth : Method} {c : Code} (C : XC G 570 598 p s m args c prog_14_method_38_code 4 R_Model) (hr : meth.sig.returnType = (some .int)) (hk : meth.locks = false) {d : Nat} (hd : 118 ≤ d + 1) (hR : xroom R (d + 1)) {p0 : Int32} {rec141 : Int32 → LH → Option (Int32 × LH)} {σ' : LH} {r : Int32} (hrec141 : ∀ (y3 : Int32) (σ : LH), rec141 y3 σ = some (r, σ') → XJ G 570 598 p l e R s m args below meth c 4 (XQ G 570 598 below args s (some (.int r)) σ') 0 0 141 [(0, .ref (G.2.2.1 + 570)), (3, .int y3)] [] σ) {y3 : Int32} {σ : LH} (h0 : s_Model_text_141_b p0 rec141 y3 σ = some (r, σ')) : XJ G 570 598 p l e R s m args below meth c 4 (XQ G 570 598 below args s (some (.int r)) σ') 0 0 141 [(0, .ref (G.2.2.1 + 570)), (3, .int y3)] [] σ := by
  replace h0 := (show _ = _ from h0)
  unfold s_Model_text_141_b at h0
  refine x_iload_n C d_Model_text_141 1 rfl ?_
  refine x_bipush (v := 24) C d_Model_text_142 (by decide) ?_
  refine x_icmp_ge C 165 d_Model_text_144 (by decide) (fun q26 => ?_) (fun q26 => ?_)
  · replace h0 := xit q26 h0
    refine x_iconst (v := 0) C d_Model_text_165 (by decide) ?_
    refine x_istore_n (lv' := [(3, .int 0), (0, .ref (G.2.2.1 + 570))]) C d_Model_text_166 rfl (by decide) rfl ?_
    exact x_lv C [1, 0] rfl (b_Model_text_167 C hr hk hd hR FUEL _ _ h0)
  · replace h0 := xif q26 h0
    refine x_aload_n C d_Model_text_147 0 rfl ?_
    refine x_getA (y := 575) C fg_Model_37 k_570 rfl d_Model_text_148 ?_
    refine x_iload_n C d_Model_text_151 1 rfl ?_
    refine x_aload_n C d_Model_text_152 0 rfl ?_
    refine x_getA (y := 576) C fg_Model_40 k_570 rfl d_Model_text_153 ?_
    refine x_iload_n C d_Model_text_156 1 rfl ?_
    obtain ⟨g65, h0⟩ := xgo h0
    refine x_iald C k_576 (ib_in g65) d_Model_text_157 ?_
    obtain ⟨g66, h0⟩ := xgo h0
    refine x_iast C k_575 (ib_in g66) d_Model_text_158 ?_
    obtain ⟨σ67, eσ67, h0⟩ := xlet h0
    refine x_sig C eσ67 ?_
    obtain ⟨x68, ex68, h0⟩ := xlet h0
    refine x_iinc (lv' := [(3, .int x68), (0, .ref (G.2.2.1 + 570))]) C d_Model_text_159 1 rfl ex68 (by decide) rfl ?_
    refine x_goto C 141 d_Model_text_162 (by decide) ?_
    exact x_lv C [1, 0] rfl (hrec141 _ _ h0)
theorem b_Model_text_141 {G : XG} {l : Launch} {p : Program} {e : Env} {R : Room} {s : State} {m : MethodId} {args : Array Value} {below : List Frame} {meth : Method} {c : Code} (C : XC G 570 598 p s m args c prog_14_method_38_code 4 R_Model) (hr : meth.sig.returnType = (some .int)) (hk : meth.locks = false) {d : Nat} (hd : 118 ≤ d + 1) (hR : xroom R (d + 1)) {p0 : Int32} {σ' : LH} {r : Int32} : ∀ (n : Nat) (y3 : Int32) (σ : LH), s_Model_text_141 p0 n y3 σ = some (r, σ') → XJ G 570 598 p l e R s m args below meth c 4 (XQ G 570 598 below args s (some (.int r)) σ') 0 0 141 [(0, .ref (G.2.2.1 + 570)), (3, .int y3)] [] σ := by
  intro n
  induction n with
  | zero => intro y3 σ h0; cases h0
  | succ n ih => intro y3 σ h0; exact bb_Model_text_141 C hr hk hd hR ih h0
def s_Model_text_28 (p0 : Int32) (σ : LH) : Option (Int32 × LH) :=
  xb2 (s_Model_fault p0 σ) fun r9 σ10 =>
  if r9 = (-1) then (
   xl (((σ10.1 570 6)) : Int32) fun x12 =>
   xl ((stI σ10 570 6 0) : LH) fun σ13 =>
   if p0 = 1 then (
    s_Model_text_56 p0 FUEL x12 0 σ13)
   else (
    xl ((stI σ13 570 26 (σ13.1 570 29)) : LH) fun σ23 =>
    xl ((stI σ23 570 27 (σ23.1 570 30)) : LH) fun σ24 =>
    xl ((stI σ24 570 28 (σ24.1 570 31)) : LH) fun σ25 =>
    s_Model_text_141 p0 FUEL 0 σ25))
  else (
   s_Model_text_37 p0 σ10)
theorem b_Model_text_28 {G : XG} {l : Launch} {p : Program} {e : Env} {R : Room} {s : State} {m : MethodId} {args : Array Value} {below : List Frame} {meth : Method} {c : Code} (C : XC G 570 598 p s m args c prog_14_method_38_code 4 R_Model) (hr : meth.sig.returnType = (some .int)) (hk : meth.locks = false) {d : Nat} (hd : 118 ≤ d + 1) (hR : xroom R (d + 1)) {p0 : Int32} {σ' : LH} {r : Int32} {σ : LH} (h0 : s_Model_text_28 p0 σ = some (r, σ')) : XJ G 570 598 p l e R s m args below meth c 4 (XQ G 570 598 below args s (some (.int r)) σ') 0 0 28 [(0, .ref (G.2.2.1 + 570)), (1, .int p0)] [] σ := by
  replace h0 := (show _ = _ from h0)
  unfold s_Model_text_28 at h0
  refine x_aload_n C d_Model_text_28 0 rfl ?_
  refine x_iload_n C d_Model_text_29 1 rfl ?_
  obtain ⟨r9, σ10, k8, h0⟩ := xbind2 h0
  refine x_callVi C hR (c_Model_fault (d := d) (by omega) k8) cw_Model_300 k_570 rfl rfl rfl (Nat.le_of_ble_eq_true rfl) ⟨Nat.zero_le _, Nat.zero_le _⟩ d_Model_text_30 ?_
  refine x_iconst (v := (-1)) C d_Model_text_33 (by decide) ?_
  refine x_icmp_eq C 39 d_Model_text_34 (by decide) (fun q11 => ?_) (fun q11 => ?_)
  · replace h0 := xit q11 h0
    refine x_aload_n C d_Model_text_39 0 rfl ?_
    refine x_getI (y := 0) C fg_Model_127 k_570 rfl d_Model_text_40 ?_
    obtain ⟨x12, ex12, h0⟩ := xlet h0
    refine x_name C ex12 ?_
    refine x_istore_n (lv' := [(2, .int x12), (0, .ref (G.2.2.1 + 570)), (1, .int p0)]) C d_Model_text_43 rfl (by decide) rfl ?_
    refine x_aload_n C d_Model_text_44 1 rfl ?_
    refine x_iconst (v := 0) C d_Model_text_45 (by decide) ?_
    refine x_putI (y := 0) C fp_Model_127 k_570 rfl rfl rfl d_Model_text_46 ?_
    obtain ⟨σ13, eσ13, h0⟩ := xlet h0
    refine x_sig C eσ13 ?_
    refine x_iload_n C d_Model_text_49 2 rfl ?_
    refine x_iconst (v := 1) C d_Model_text_50 (by decide) ?_
    refine x_icmp_ne C 115 d_Model_text_51 (by decide) (fun q14 => ?_) (fun q14 => ?_)
    · replace h0 := xif q14 h0
      refine x_aload_n C d_Model_text_115 1 rfl ?_
      refine x_aload_n C d_Model_text_116 1 rfl ?_
      refine x_getI (y := 0) C fg_Model_261 k_570 rfl d_Model_text_117 ?_
      refine x_putI (y := 0) C fp_Model_302 k_570 rfl rfl rfl d_Model_text_120 ?_
      obtain ⟨σ23, eσ23, h0⟩ := xlet h0
      refine x_sig C eσ23 ?_
      refine x_aload_n C d_Model_text_123 1 rfl ?_
      refine x_aload_n C d_Model_text_124 1 rfl ?_
      refine x_getI (y := 0) C fg_Model_264 k_570 rfl d_Model_text_125 ?_
      refine x_putI (y := 0) C fp_Model_305 k_570 rfl rfl rfl d_Model_text_128 ?_
      obtain ⟨σ24, eσ24, h0⟩ := xlet h0
      refine x_sig C eσ24 ?_
      refine x_aload_n C d_Model_text_131 1 rfl ?_
      refine x_aload_n C d_Model_text_132 1 rfl ?_
      refine x_getI (y := 0) C fg_Model_267 k_570 rfl d_Model_text_133 ?_
      refine x_putI (y := 0) C fp_Model_308 k_570 rfl rfl rfl d_Model_text_136 ?_
      obtain ⟨σ25, eσ25, h0⟩ := xlet h0
      refine x_sig C eσ25 ?_
      refine x_iconst (v := 0) C d_Model_text_139 (by decide) ?_
      refine x_istore_n (lv' := [(3, .int 0), (2, .int x12), (0, .ref (G.2.2.1 + 570)), (1, .int p0)]) C d_Model_text_140 rfl (by decide) rfl ?_
      exact x_lv C [2, 0] rfl (b_Model_text_141 C hr hk hd hR FUEL _ _ h0)
    · replace h0 := xit q14 h0
      refine x_iconst (v := 0) C d_Model_text_54 (by decide) ?_
      refine x_istore_n (lv' := [(3, .int 0), (2, .int x12), (0, .ref (G.2.2.1 + 570)), (1, .int p0)]) C d_Model_text_55 rfl (by decide) rfl ?_
      exact x_lv C [2, 1, 0] rfl (b_Model_text_56 C hr hk hd hR FUEL _ _ _ h0)
  · replace h0 := xif q11 h0
    exact x_lv C [] rfl (b_Model_text_37 C hr hk hd hR h0)
def s_Model_text (p0 : Int32) (σ : LH) : Option (Int32 × LH) :=
  xl ((stI σ 570 0 0) : LH) fun σ1 =>
  xb2 (s_Model_isIn (Int32.toInt64 p0) 0 1 σ1) fun r3 σ4 =>
  if r3 = 0 then (
   s_Model_text_37 p0 σ4)
  else (
   if p0 = 1 then (
    if (σ4.1 570 7) = 4 then (
     s_Model_text_37 p0 σ4)
    else (
     s_Model_text_28 p0 σ4))
   else (
    s_Model_text_28 p0 σ4))
theorem c_Model_text {G : XG} {l : Launch} {d : Nat} (hd : 118 ≤ d) {p0 : Int32} {σ σ' : LH} {r : Int32} (h0 : s_Model_text p0 σ = some (r, σ')) : xM G 570 598 l y_Model_text prog_14_method_38_code 4 (some .int) d [.ref (G.2.2.1 + 570), .int p0] σ (some (.int r)) σ' := by
  obtain ⟨d, rfl⟩ : ∃ q, d = q + 1 := ⟨d - 1, by omega⟩
  refine x_met R_Model rfl (by decide +kernel) (Nat.le_of_ble_eq_true rfl) fun p e s m below meth c C hr hk hR => ?_
  refine x_lv (lv' := [(0, .ref (G.2.2.1 + 570)), (1, .int p0)]) C [0, 1] rfl ?_
  generalize xrm (d + 1) = R at hR ⊢
  unfold s_Model_text at h0
  refine x_aload_n C d_Model_text_0 0 rfl ?_
  refine x_iconst (v := 0) C d_Model_text_1 (by decide) ?_
  refine x_putI (y := 0) C fp_Model_114 k_570 rfl rfl rfl d_Model_text_2 ?_
  obtain ⟨σ1, eσ1, h0⟩ := xlet h0
  refine x_sig C eσ1 ?_
  refine x_iload_n C d_Model_text_5 1 rfl ?_
  refine x_i2l C d_Model_text_6 ?_
  refine x_lconst (v := 0) C d_Model_text_7 (by decide) ?_
  refine x_lconst (v := 1) C d_Model_text_8 (by decide) ?_
  obtain ⟨r3, σ4, k2, h0⟩ := xbind2 h0
  refine x_callSi C hR (c_Model_isIn (d := d) (by omega) k2) cw_Model_235 w_1695 rfl rfl (Nat.le_of_ble_eq_true rfl) ⟨Nat.zero_le _, Nat.zero_le _⟩ d_Model_text_9 ?_
  refine x_if_eq C 37 d_Model_text_12 (by decide) (fun q5 => ?_) (fun q5 => ?_)
  · replace h0 := xit q5 h0
    exact x_lv C [] rfl (b_Model_text_37 C hr hk hd hR h0)
  · replace h0 := xif q5 h0
    refine x_iload_n C d_Model_text_15 1 rfl ?_
    refine x_iconst (v := 1) C d_Model_text_16 (by decide) ?_
    refine x_icmp_ne C 28 d_Model_text_17 (by decide) (fun q6 => ?_) (fun q6 => ?_)
    · replace h0 := xif q6 h0
      exact x_lv C [0, 1] rfl (b_Model_text_28 C hr hk hd hR h0)
    · replace h0 := xit q6 h0
      refine x_aload_n C d_Model_text_20 0 rfl ?_
      refine x_getI (y := 0) C fg_Model_297 k_570 rfl d_Model_text_21 ?_
      refine x_iconst (v := 4) C d_Model_text_24 (by decide) ?_
      refine x_icmp_eq C 37 d_Model_text_25 (by decide) (fun q7 => ?_) (fun q7 => ?_)
      · replace h0 := xit q7 h0
        exact x_lv C [] rfl (b_Model_text_37 C hr hk hd hR h0)
      · replace h0 := xif q7 h0
        exact x_lv C [0, 1] rfl (b_Model_text_28 C hr hk hd hR h0)
-- LostPlacesModel.copy([I[I)V
theorem d_Model_copy_0 : decode prog_14_method_39_code 0 = .ok (.bipush 50, 2) := by decide +kernel
theorem d_Model_copy_2 : decode prog_14_method_39_code 2 = .ok (.iconst 4, 1) := by decide +kernel
theorem d_Model_copy_3 : decode prog_14_method_39_code 3 = .ok (.aload_n 0, 1) := by decide +kernel
theorem d_Model_copy_4 : decode prog_14_method_39_code 4 = .ok (.bipush 49, 2) := by decide +kernel
theorem d_Model_copy_6 : decode prog_14_method_39_code 6 = .ok (.iaload, 1) := by decide +kernel
theorem d_Model_copy_7 : decode prog_14_method_39_code 7 = .ok (.imul, 1) := by decide +kernel
theorem d_Model_copy_8 : decode prog_14_method_39_code 8 = .ok (.iadd, 1) := by decide +kernel
theorem d_Model_copy_9 : decode prog_14_method_39_code 9 = .ok (.istore_n 2, 1) := by decide +kernel
theorem d_Model_copy_10 : decode prog_14_method_39_code 10 = .ok (.iconst 0, 1) := by decide +kernel
theorem d_Model_copy_11 : decode prog_14_method_39_code 11 = .ok (.istore_n 3, 1) := by decide +kernel
theorem d_Model_copy_12 : decode prog_14_method_39_code 12 = .ok (.iload_n 3, 1) := by decide +kernel
theorem d_Model_copy_13 : decode prog_14_method_39_code 13 = .ok (.iload_n 2, 1) := by decide +kernel
theorem d_Model_copy_14 : decode prog_14_method_39_code 14 = .ok (.if_icmp .ge 15, 3) := by decide +kernel
theorem d_Model_copy_17 : decode prog_14_method_39_code 17 = .ok (.aload_n 1, 1) := by decide +kernel
theorem d_Model_copy_18 : decode prog_14_method_39_code 18 = .ok (.iload_n 3, 1) := by decide +kernel
theorem d_Model_copy_19 : decode prog_14_method_39_code 19 = .ok (.aload_n 0, 1) := by decide +kernel
theorem d_Model_copy_20 : decode prog_14_method_39_code 20 = .ok (.iload_n 3, 1) := by decide +kernel
theorem d_Model_copy_21 : decode prog_14_method_39_code 21 = .ok (.iaload, 1) := by decide +kernel
theorem d_Model_copy_22 : decode prog_14_method_39_code 22 = .ok (.iastore, 1) := by decide +kernel
theorem d_Model_copy_23 : decode prog_14_method_39_code 23 = .ok (.iinc 3 1, 3) := by decide +kernel
theorem d_Model_copy_26 : decode prog_14_method_39_code 26 = .ok (.goto (-14), 3) := by decide +kernel
theorem d_Model_copy_29 : decode prog_14_method_39_code 29 = .ok (.return_, 1) := by decide +kernel
def s_Model_copy_12_b (p0 : Nat) (p1 : Nat) (rec12 : Int32 → Int32 → LH → Option (LH)) (y2 : Int32) (y3 : Int32) (σ : LH) : Option (LH) :=
  if y2 ≤ y3 then (
   some σ)
  else (
   if ib y3 290 then (
   if ib y3 290 then (
   xl ((stI σ p1 (Int32.toNatClampNeg y3) (σ.1 p0 (Int32.toNatClampNeg y3))) : LH) fun σ6 =>
   xl ((y3 + 1) : Int32) fun x7 =>
   rec12 y2 x7 σ6) else none) else none)
def s_Model_copy_12 (p0 : Nat) (p1 : Nat) : Nat → Int32 → Int32 → LH → Option (LH)
  | 0, _, _, _ => none
  | n + 1, y2, y3, σ => s_Model_copy_12_b p0 p1 (s_Model_copy_12 p0 p1 n) y2 y3 σ
theorem bb_Model_copy_12 {G : XG} {l : Launch} {p : Program} {e : Env} {R : Room} {s : State} {m : MethodId} {args : Array Value} {below : List Frame} {meth : Method} {c : Code} (C : XC G 570 598 p s m args c prog_14_method_39_code 4 R_Model) (hr : meth.sig.returnType = none) (hk : meth.locks = false) {d : Nat} (hd : 1 ≤ d + 1) (hR : xroom R (d + 1)) {p0 : Nat} {p1 : Nat} (hp0 : xin 570 598 p0 (2, 290, 0)) (hp1 : xin 570 598 p1 (2, 290, 0)) {rec12 : Int32 → Int32 → LH → Option (LH)} {σ' : LH} (hrec12 : ∀ (y2 : Int32) (y3 : Int32) (σ : LH), rec12 y2 y3 σ = some σ' → XJ G 570 598 p l e R s m args below meth c 4 (XQ G 570 598 below args s none σ') 0 0 12 [(0, .ref (G.2.2.1 + p0)), (1, .ref (G.2.2.1 + p1)), (2, .int y2), (3, .int y3)] [] σ) {y2 : Int32} {y3 : Int32} {σ : LH} (h0 : s_Model_copy_12_b p0 p1 rec12 y2 y3 σ = some σ') : XJ G 570 598 p l e R s m args below meth c 4 (XQ G 570 598 below args s none σ') 0 0 12 [(0, .ref (G.2.2.1 + p0)), (1, .ref (G.2.2.1 + p1)), (2, .int y2), (3, .int y3)] [] σ := by
  replace h0 := (show _ = _ from h0)
  unfold s_Model_copy_12_b at h0
  refine x_iload_n C d_Model_copy_12 3 rfl ?_
  refine x_iload_n C d_Model_copy_13 2 rfl ?_
  refine x_icmp_ge C 29 d_Model_copy_14 (by decide) (fun q3 => ?_) (fun q3 => ?_)
  · replace h0 := xit q3 h0
    exact x_vret C hr hk h0 d_Model_copy_29
  · replace h0 := xif q3 h0
    refine x_aload_n C d_Model_copy_17 1 rfl ?_
    refine x_iload_n C d_Model_copy_18 3 rfl ?_
    refine x_aload_n C d_Model_copy_19 0 rfl ?_
    refine x_iload_n C d_Model_copy_20 3 rfl ?_
    obtain ⟨g4, h0⟩ := xgo h0
    refine x_iald C hp0 (ib_in g4) d_Model_copy_21 ?_
    obtain ⟨g5, h0⟩ := xgo h0
    refine x_iast C hp1 (ib_in g5) d_Model_copy_22 ?_
    obtain ⟨σ6, eσ6, h0⟩ := xlet h0
    refine x_sig C eσ6 ?_
    obtain ⟨x7, ex7, h0⟩ := xlet h0
    refine x_iinc (lv' := [(3, .int x7), (0, .ref (G.2.2.1 + p0)), (1, .ref (G.2.2.1 + p1)), (2, .int y2)]) C d_Model_copy_23 3 rfl ex7 (by decide) rfl ?_
    refine x_goto C 12 d_Model_copy_26 (by decide) ?_
    exact x_lv C [1, 2, 3, 0] rfl (hrec12 _ _ _ h0)
theorem b_Model_copy_12 {G : XG} {l : Launch} {p : Program} {e : Env} {R : Room} {s : State} {m : MethodId} {args : Array Value} {below : List Frame} {meth : Method} {c : Code} (C : XC G 570 598 p s m args c prog_14_method_39_code 4 R_Model) (hr : meth.sig.returnType = none) (hk : meth.locks = false) {d : Nat} (hd : 1 ≤ d + 1) (hR : xroom R (d + 1)) {p0 : Nat} {p1 : Nat} (hp0 : xin 570 598 p0 (2, 290, 0)) (hp1 : xin 570 598 p1 (2, 290, 0)) {σ' : LH} : ∀ (n : Nat) (y2 : Int32) (y3 : Int32) (σ : LH), s_Model_copy_12 p0 p1 n y2 y3 σ = some σ' → XJ G 570 598 p l e R s m args below meth c 4 (XQ G 570 598 below args s none σ') 0 0 12 [(0, .ref (G.2.2.1 + p0)), (1, .ref (G.2.2.1 + p1)), (2, .int y2), (3, .int y3)] [] σ := by
  intro n
  induction n with
  | zero => intro y2 y3 σ h0; cases h0
  | succ n ih => intro y2 y3 σ h0; exact bb_Model_copy_12 C hr hk hd hR hp0 hp1 ih h0
def s_Model_copy (p0 : Nat) (p1 : Nat) (σ : LH) : Option (LH) :=
  if ib 49 290 then (
  xl (((50 + (4 * (σ.1 p0 (Int32.toNatClampNeg 49))))) : Int32) fun x2 =>
  s_Model_copy_12 p0 p1 FUEL x2 0 σ) else none
theorem c_Model_copy {G : XG} {l : Launch} {d : Nat} (hd : 1 ≤ d) {p0 : Nat} {p1 : Nat} (hp0 : xin 570 598 p0 (2, 290, 0)) (hp1 : xin 570 598 p1 (2, 290, 0)) {σ σ' : LH} (h0 : s_Model_copy p0 p1 σ = some σ') : xM G 570 598 l y_Model_copy prog_14_method_39_code 4 none d [.ref (G.2.2.1 + p0), .ref (G.2.2.1 + p1)] σ none σ' := by
  obtain ⟨d, rfl⟩ : ∃ q, d = q + 1 := ⟨d - 1, by omega⟩
  refine x_met R_Model rfl (by decide +kernel) (Nat.le_of_ble_eq_true rfl) fun p e s m below meth c C hr hk hR => ?_
  refine x_lv (lv' := [(0, .ref (G.2.2.1 + p0)), (1, .ref (G.2.2.1 + p1))]) C [0, 1] rfl ?_
  generalize xrm (d + 1) = R at hR ⊢
  unfold s_Model_copy at h0
  refine x_bipush (v := 50) C d_Model_copy_0 (by decide) ?_
  refine x_iconst (v := 4) C d_Model_copy_2 (by decide) ?_
  refine x_aload_n C d_Model_copy_3 0 rfl ?_
  refine x_bipush (v := 49) C d_Model_copy_4 (by decide) ?_
  obtain ⟨g1, h0⟩ := xgo h0
  refine x_iald C hp0 (ib_in g1) d_Model_copy_6 ?_
  refine x_imul C d_Model_copy_7 ?_
  refine x_iadd C d_Model_copy_8 ?_
  obtain ⟨x2, ex2, h0⟩ := xlet h0
  refine x_name C ex2 ?_
  refine x_istore_n (lv' := [(2, .int x2), (0, .ref (G.2.2.1 + p0)), (1, .ref (G.2.2.1 + p1))]) C d_Model_copy_9 rfl (by decide) rfl ?_
  refine x_iconst (v := 0) C d_Model_copy_10 (by decide) ?_
  refine x_istore_n (lv' := [(3, .int 0), (2, .int x2), (0, .ref (G.2.2.1 + p0)), (1, .ref (G.2.2.1 + p1))]) C d_Model_copy_11 rfl (by decide) rfl ?_
  exact x_lv C [2, 3, 1, 0] rfl (b_Model_copy_12 C hr hk hd hR hp0 hp1 FUEL _ _ _ h0)
