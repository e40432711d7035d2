-- LostPlacesModel.warm()I
theorem d_Model_warm_0 : decode prog_14_method_106_code 0 = .ok (.aload_n 0, 1) := by decide +kernel
theorem d_Model_warm_1 : decode prog_14_method_106_code 1 = .ok (.iconst 0, 1) := by decide +kernel
theorem d_Model_warm_2 : decode prog_14_method_106_code 2 = .ok (.putfield 114, 3) := by decide +kernel
theorem d_Model_warm_5 : decode prog_14_method_106_code 5 = .ok (.aload_n 0, 1) := by decide +kernel
theorem d_Model_warm_6 : decode prog_14_method_106_code 6 = .ok (.getfield 61, 3) := by decide +kernel
theorem d_Model_warm_9 : decode prog_14_method_106_code 9 = .ok (.bipush 49, 2) := by decide +kernel
theorem d_Model_warm_11 : decode prog_14_method_106_code 11 = .ok (.iaload, 1) := by decide +kernel
theorem d_Model_warm_12 : decode prog_14_method_106_code 12 = .ok (.iconst 1, 1) := by decide +kernel
theorem d_Model_warm_13 : decode prog_14_method_106_code 13 = .ok (.isub, 1) := by decide +kernel
theorem d_Model_warm_14 : decode prog_14_method_106_code 14 = .ok (.istore_n 1, 1) := by decide +kernel
theorem d_Model_warm_15 : decode prog_14_method_106_code 15 = .ok (.iload_n 1, 1) := by decide +kernel
theorem d_Model_warm_16 : decode prog_14_method_106_code 16 = .ok (.ifCond .lt 40, 3) := by decide +kernel
theorem d_Model_warm_19 : decode prog_14_method_106_code 19 = .ok (.aload_n 0, 1) := by decide +kernel
theorem d_Model_warm_20 : decode prog_14_method_106_code 20 = .ok (.getfield 61, 3) := by decide +kernel
theorem d_Model_warm_23 : decode prog_14_method_106_code 23 = .ok (.bipush 50, 2) := by decide +kernel
theorem d_Model_warm_25 : decode prog_14_method_106_code 25 = .ok (.iconst 4, 1) := by decide +kernel
theorem d_Model_warm_26 : decode prog_14_method_106_code 26 = .ok (.iload_n 1, 1) := by decide +kernel
theorem d_Model_warm_27 : decode prog_14_method_106_code 27 = .ok (.imul, 1) := by decide +kernel
theorem d_Model_warm_28 : decode prog_14_method_106_code 28 = .ok (.iadd, 1) := by decide +kernel
theorem d_Model_warm_29 : decode prog_14_method_106_code 29 = .ok (.iconst 1, 1) := by decide +kernel
theorem d_Model_warm_30 : decode prog_14_method_106_code 30 = .ok (.iadd, 1) := by decide +kernel
theorem d_Model_warm_31 : decode prog_14_method_106_code 31 = .ok (.iaload, 1) := by decide +kernel
theorem d_Model_warm_32 : decode prog_14_method_106_code 32 = .ok (.iconst (-1), 1) := by decide +kernel
theorem d_Model_warm_33 : decode prog_14_method_106_code 33 = .ok (.if_icmp .eq 17, 3) := by decide +kernel
theorem d_Model_warm_36 : decode prog_14_method_106_code 36 = .ok (.aload_n 0, 1) := by decide +kernel
theorem d_Model_warm_37 : decode prog_14_method_106_code 37 = .ok (.getfield 61, 3) := by decide +kernel
theorem d_Model_warm_40 : decode prog_14_method_106_code 40 = .ok (.bipush 50, 2) := by decide +kernel
theorem d_Model_warm_42 : decode prog_14_method_106_code 42 = .ok (.iconst 4, 1) := by decide +kernel
theorem d_Model_warm_43 : decode prog_14_method_106_code 43 = .ok (.iload_n 1, 1) := by decide +kernel
theorem d_Model_warm_44 : decode prog_14_method_106_code 44 = .ok (.imul, 1) := by decide +kernel
theorem d_Model_warm_45 : decode prog_14_method_106_code 45 = .ok (.iadd, 1) := by decide +kernel
theorem d_Model_warm_46 : decode prog_14_method_106_code 46 = .ok (.iconst 1, 1) := by decide +kernel
theorem d_Model_warm_47 : decode prog_14_method_106_code 47 = .ok (.iadd, 1) := by decide +kernel
theorem d_Model_warm_48 : decode prog_14_method_106_code 48 = .ok (.iaload, 1) := by decide +kernel
theorem d_Model_warm_49 : decode prog_14_method_106_code 49 = .ok (.ireturn, 1) := by decide +kernel
theorem d_Model_warm_50 : decode prog_14_method_106_code 50 = .ok (.iinc 1 (-1), 3) := by decide +kernel
theorem d_Model_warm_53 : decode prog_14_method_106_code 53 = .ok (.goto (-38), 3) := by decide +kernel
theorem d_Model_warm_56 : decode prog_14_method_106_code 56 = .ok (.iconst (-1), 1) := by decide +kernel
theorem d_Model_warm_57 : decode prog_14_method_106_code 57 = .ok (.ireturn, 1) := by decide +kernel
def s_Model_warm_15_b (rec15 : Int32 → LH → Option (Int32 × LH)) (y1 : Int32) (σ : LH) : Option (Int32 × LH) :=
  if y1 < 0 then (
   some ((-1), σ))
  else (
   if ib ((50 + (4 * y1)) + 1) 290 then (
   if (σ.1 583 (Int32.toNatClampNeg ((50 + (4 * y1)) + 1))) = (-1) then (
    xl ((y1 + (-1)) : Int32) fun x7 =>
    rec15 x7 σ)
   else (
    if ib ((50 + (4 * y1)) + 1) 290 then (
    some ((σ.1 583 (Int32.toNatClampNeg ((50 + (4 * y1)) + 1))), σ)) else none)) else none)
def s_Model_warm_15 : Nat → Int32 → LH → Option (Int32 × LH)
  | 0, _, _ => none
  | n + 1, y1, σ => s_Model_warm_15_b (s_Model_warm_15 n) y1 σ
theorem bb_Model_warm_15 {G : XG} {l : Launch} {p : Program} {e : Env} {R : Room} {s : State} {m : MethodId} {args : Array Value} {below : List Frame} {meth : Method} {c : Code} (C : XC G 570 598 p s m args c prog_14_method_106_code 2 R_Model) (hr : meth.sig.returnType = (some .int)) (hk : meth.locks = false) {d : Nat} (hd : 1 ≤ d + 1) (hR : xroom R (d + 1)) {rec15 : Int32 → LH → Option (Int32 × LH)} {σ' : LH} {r : Int32} (hrec15 : ∀ (y1 : Int32) (σ : LH), rec15 y1 σ = some (r, σ') → XJ G 570 598 p l e R s m args below meth c 2 (XQ G 570 598 below args s (some (.int r)) σ') 0 0 15 [(0, .ref (G.2.2.1 + 570)), (1, .int y1)] [] σ) {y1 : Int32} {σ : LH} (h0 : s_Model_warm_15_b rec15 y1 σ = some (r, σ')) : XJ G 570 598 p l e R s m args below meth c 2 (XQ G 570 598 below args s (some (.int r)) σ') 0 0 15 [(0, .ref (G.2.2.1 + 570)), (1, .int y1)] [] σ := by
  replace h0 := (show _ = _ from h0)
  unfold s_Model_warm_15_b at h0
  refine x_iload_n C d_Model_warm_15 1 rfl ?_
  refine x_if_lt C 56 d_Model_warm_16 (by decide) (fun q4 => ?_) (fun q4 => ?_)
  · replace h0 := xit q4 h0
    refine x_iconst (v := (-1)) C d_Model_warm_56 (by decide) ?_
    exact x_iret C hr hk h0 d_Model_warm_57
  · replace h0 := xif q4 h0
    refine x_aload_n C d_Model_warm_19 0 rfl ?_
    refine x_getA (y := 583) C fg_Model_61 k_570 rfl d_Model_warm_20 ?_
    refine x_bipush (v := 50) C d_Model_warm_23 (by decide) ?_
    refine x_iconst (v := 4) C d_Model_warm_25 (by decide) ?_
    refine x_iload_n C d_Model_warm_26 1 rfl ?_
    refine x_imul C d_Model_warm_27 ?_
    refine x_iadd C d_Model_warm_28 ?_
    refine x_iconst (v := 1) C d_Model_warm_29 (by decide) ?_
    refine x_iadd C d_Model_warm_30 ?_
    obtain ⟨g5, h0⟩ := xgo h0
    refine x_iald C k_583 (ib_in g5) d_Model_warm_31 ?_
    refine x_iconst (v := (-1)) C d_Model_warm_32 (by decide) ?_
    refine x_icmp_eq C 50 d_Model_warm_33 (by decide) (fun q6 => ?_) (fun q6 => ?_)
    · replace h0 := xit q6 h0
      obtain ⟨x7, ex7, h0⟩ := xlet h0
      refine x_iinc (lv' := [(1, .int x7), (0, .ref (G.2.2.1 + 570))]) C d_Model_warm_50 1 rfl ex7 (by decide) rfl ?_
      refine x_goto C 15 d_Model_warm_53 (by decide) ?_
      exact x_lv C [1, 0] rfl (hrec15 _ _ h0)
    · replace h0 := xif q6 h0
      refine x_aload_n C d_Model_warm_36 0 rfl ?_
      refine x_getA (y := 583) C fg_Model_61 k_570 rfl d_Model_warm_37 ?_
      refine x_bipush (v := 50) C d_Model_warm_40 (by decide) ?_
      refine x_iconst (v := 4) C d_Model_warm_42 (by decide) ?_
      refine x_iload_n C d_Model_warm_43 1 rfl ?_
      refine x_imul C d_Model_warm_44 ?_
      refine x_iadd C d_Model_warm_45 ?_
      refine x_iconst (v := 1) C d_Model_warm_46 (by decide) ?_
      refine x_iadd C d_Model_warm_47 ?_
      obtain ⟨g8, h0⟩ := xgo h0
      refine x_iald C k_583 (ib_in g8) d_Model_warm_48 ?_
      exact x_iret C hr hk h0 d_Model_warm_49
theorem b_Model_warm_15 {G : XG} {l : Launch} {p : Program} {e : Env} {R : Room} {s : State} {m : MethodId} {args : Array Value} {below : List Frame} {meth : Method} {c : Code} (C : XC G 570 598 p s m args c prog_14_method_106_code 2 R_Model) (hr : meth.sig.returnType = (some .int)) (hk : meth.locks = false) {d : Nat} (hd : 1 ≤ d + 1) (hR : xroom R (d + 1)) {σ' : LH} {r : Int32} : ∀ (n : Nat) (y1 : Int32) (σ : LH), s_Model_warm_15 n y1 σ = some (r, σ') → XJ G 570 598 p l e R s m args below meth c 2 (XQ G 570 598 below args s (some (.int r)) σ') 0 0 15 [(0, .ref (G.2.2.1 + 570)), (1, .int y1)] [] σ := by
  intro n
  induction n with
  | zero => intro y1 σ h0; cases h0
  | succ n ih => intro y1 σ h0; exact bb_Model_warm_15 C hr hk hd hR ih h0
def s_Model_warm (σ : LH) : Option (Int32 × LH) :=
  xl ((stI σ 570 0 0) : LH) fun σ1 =>
  if ib 49 290 then (
  xl ((((σ1.1 583 (Int32.toNatClampNeg 49)) - 1)) : Int32) fun x3 =>
  s_Model_warm_15 FUEL x3 σ1) else none
theorem c_Model_warm {G : XG} {l : Launch} {d : Nat} (hd : 1 ≤ d) {σ σ' : LH} {r : Int32} (h0 : s_Model_warm σ = some (r, σ')) : xM G 570 598 l y_Model_warm prog_14_method_106_code 2 (some .int) d [.ref (G.2.2.1 + 570)] σ (some (.int r)) σ' := by
  obtain ⟨d, rfl⟩ : ∃ q, d = q + 1 := ⟨d - 1, by omega⟩
  refine x_met R_Model rfl (by decide +kernel) (Nat.le_of_ble_eq_true rfl) fun p e s m below meth c C hr hk hR => ?_
  refine x_lv (lv' := [(0, .ref (G.2.2.1 + 570))]) C [0] rfl ?_
  generalize xrm (d + 1) = R at hR ⊢
  unfold s_Model_warm at h0
  refine x_aload_n C d_Model_warm_0 0 rfl ?_
  refine x_iconst (v := 0) C d_Model_warm_1 (by decide) ?_
  refine x_putI (y := 0) C fp_Model_114 k_570 rfl rfl rfl d_Model_warm_2 ?_
  obtain ⟨σ1, eσ1, h0⟩ := xlet h0
  refine x_sig C eσ1 ?_
  refine x_aload_n C d_Model_warm_5 0 rfl ?_
  refine x_getA (y := 583) C fg_Model_61 k_570 rfl d_Model_warm_6 ?_
  refine x_bipush (v := 49) C d_Model_warm_9 (by decide) ?_
  obtain ⟨g2, h0⟩ := xgo h0
  refine x_iald C k_583 (ib_in g2) d_Model_warm_11 ?_
  refine x_iconst (v := 1) C d_Model_warm_12 (by decide) ?_
  refine x_isub C d_Model_warm_13 ?_
  obtain ⟨x3, ex3, h0⟩ := xlet h0
  refine x_name C ex3 ?_
  refine x_istore_n (lv' := [(1, .int x3), (0, .ref (G.2.2.1 + 570))]) C d_Model_warm_14 rfl (by decide) rfl ?_
  exact x_lv C [1, 0] rfl (b_Model_warm_15 C hr hk hd hR FUEL _ _ h0)
-- LostPlacesModel.often(I)I
theorem d_Model_often_0 : decode prog_14_method_107_code 0 = .ok (.aload_n 0, 1) := by decide +kernel
theorem d_Model_often_1 : decode prog_14_method_107_code 1 = .ok (.iconst 0, 1) := by decide +kernel
theorem d_Model_often_2 : decode prog_14_method_107_code 2 = .ok (.putfield 114, 3) := by decide +kernel
theorem d_Model_often_5 : decode prog_14_method_107_code 5 = .ok (.aload_n 0, 1) := by decide +kernel
theorem d_Model_often_6 : decode prog_14_method_107_code 6 = .ok (.iload_n 1, 1) := by decide +kernel
theorem d_Model_often_7 : decode prog_14_method_107_code 7 = .ok (.invokevirtual 412, 3) := by decide +kernel
theorem d_Model_often_10 : decode prog_14_method_107_code 10 = .ok (.ifCond .ne 5, 3) := by decide +kernel
theorem d_Model_often_13 : decode prog_14_method_107_code 13 = .ok (.iconst (-1), 1) := by decide +kernel
theorem d_Model_often_14 : decode prog_14_method_107_code 14 = .ok (.ireturn, 1) := by decide +kernel
theorem d_Model_often_15 : decode prog_14_method_107_code 15 = .ok (.iconst 0, 1) := by decide +kernel
theorem d_Model_often_16 : decode prog_14_method_107_code 16 = .ok (.istore_n 2, 1) := by decide +kernel
theorem d_Model_often_17 : decode prog_14_method_107_code 17 = .ok (.iconst 0, 1) := by decide +kernel
theorem d_Model_often_18 : decode prog_14_method_107_code 18 = .ok (.istore_n 3, 1) := by decide +kernel
theorem d_Model_often_19 : decode prog_14_method_107_code 19 = .ok (.iload_n 3, 1) := by decide +kernel
theorem d_Model_often_20 : decode prog_14_method_107_code 20 = .ok (.aload_n 0, 1) := by decide +kernel
theorem d_Model_often_21 : decode prog_14_method_107_code 21 = .ok (.getfield 61, 3) := by decide +kernel
theorem d_Model_often_24 : decode prog_14_method_107_code 24 = .ok (.bipush 49, 2) := by decide +kernel
theorem d_Model_often_26 : decode prog_14_method_107_code 26 = .ok (.iaload, 1) := by decide +kernel
theorem d_Model_often_27 : decode prog_14_method_107_code 27 = .ok (.if_icmp .ge 32, 3) := by decide +kernel
theorem d_Model_often_30 : decode prog_14_method_107_code 30 = .ok (.iload_n 2, 1) := by decide +kernel
theorem d_Model_often_31 : decode prog_14_method_107_code 31 = .ok (.aload_n 0, 1) := by decide +kernel
theorem d_Model_often_32 : decode prog_14_method_107_code 32 = .ok (.getfield 61, 3) := by decide +kernel
theorem d_Model_often_35 : decode prog_14_method_107_code 35 = .ok (.bipush 50, 2) := by decide +kernel
theorem d_Model_often_37 : decode prog_14_method_107_code 37 = .ok (.iconst 4, 1) := by decide +kernel
theorem d_Model_often_38 : decode prog_14_method_107_code 38 = .ok (.iload_n 3, 1) := by decide +kernel
theorem d_Model_often_39 : decode prog_14_method_107_code 39 = .ok (.imul, 1) := by decide +kernel
theorem d_Model_often_40 : decode prog_14_method_107_code 40 = .ok (.iadd, 1) := by decide +kernel
theorem d_Model_often_41 : decode prog_14_method_107_code 41 = .ok (.iaload, 1) := by decide +kernel
theorem d_Model_often_42 : decode prog_14_method_107_code 42 = .ok (.iload_n 1, 1) := by decide +kernel
theorem d_Model_often_43 : decode prog_14_method_107_code 43 = .ok (.if_icmp .ne 7, 3) := by decide +kernel
theorem d_Model_often_46 : decode prog_14_method_107_code 46 = .ok (.iconst 1, 1) := by decide +kernel
theorem d_Model_often_47 : decode prog_14_method_107_code 47 = .ok (.goto 4, 3) := by decide +kernel
theorem d_Model_often_50 : decode prog_14_method_107_code 50 = .ok (.iconst 0, 1) := by decide +kernel
theorem d_Model_often_51 : decode prog_14_method_107_code 51 = .ok (.iadd, 1) := by decide +kernel
theorem d_Model_often_52 : decode prog_14_method_107_code 52 = .ok (.istore_n 2, 1) := by decide +kernel
theorem d_Model_often_53 : decode prog_14_method_107_code 53 = .ok (.iinc 3 1, 3) := by decide +kernel
theorem d_Model_often_56 : decode prog_14_method_107_code 56 = .ok (.goto (-37), 3) := by decide +kernel
theorem d_Model_often_59 : decode prog_14_method_107_code 59 = .ok (.iload_n 2, 1) := by decide +kernel
theorem d_Model_often_60 : decode prog_14_method_107_code 60 = .ok (.ireturn, 1) := by decide +kernel
def s_Model_often_51 (p0 : Int32) (rec19 : Int32 → Int32 → LH → Option (Int32 × LH)) (y3 : Int32) (z0 : Int32) (z1 : Int32) (σ : LH) : Option (Int32 × LH) :=
  xl (((z0 + z1)) : Int32) fun x10 =>
  xl ((y3 + 1) : Int32) fun x11 =>
  rec19 x10 x11 σ
theorem b_Model_often_51 {G : XG} {l : Launch} {p : Program} {e : Env} {R : Room} {s : State} {m : MethodId} {args : Array Value} {below : List Frame} {meth : Method} {c : Code} (C : XC G 570 598 p s m args c prog_14_method_107_code 4 R_Model) (hr : meth.sig.returnType = (some .int)) (hk : meth.locks = false) {d : Nat} (hd : 2 ≤ d + 1) (hR : xroom R (d + 1)) {p0 : Int32} {rec19 : Int32 → Int32 → LH → Option (Int32 × LH)} {σ' : LH} {r : Int32} (hrec19 : ∀ (y2 : Int32) (y3 : Int32) (σ : LH), rec19 y2 y3 σ = some (r, σ') → XJ G 570 598 p l e R s m args below meth c 4 (XQ G 570 598 below args s (some (.int r)) σ') 0 0 19 [(0, .ref (G.2.2.1 + 570)), (1, .int p0), (2, .int y2), (3, .int y3)] [] σ) {y3 : Int32} {z0 : Int32} {z1 : Int32} {σ : LH} (h0 : s_Model_often_51 p0 rec19 y3 z0 z1 σ = some (r, σ')) : XJ G 570 598 p l e R s m args below meth c 4 (XQ G 570 598 below args s (some (.int r)) σ') 0 0 51 [(0, .ref (G.2.2.1 + 570)), (1, .int p0), (3, .int y3)] [.int z1, .int z0] σ := by
  replace h0 := (show _ = _ from h0)
  unfold s_Model_often_51 at h0
  refine x_iadd C d_Model_often_51 ?_
  obtain ⟨x10, ex10, h0⟩ := xlet h0
  refine x_name C ex10 ?_
  refine x_istore_n (lv' := [(2, .int x10), (0, .ref (G.2.2.1 + 570)), (1, .int p0), (3, .int y3)]) C d_Model_often_52 rfl (by decide) rfl ?_
  obtain ⟨x11, ex11, h0⟩ := xlet h0
  refine x_iinc (lv' := [(3, .int x11), (2, .int x10), (0, .ref (G.2.2.1 + 570)), (1, .int p0)]) C d_Model_often_53 3 rfl ex11 (by decide) rfl ?_
  refine x_goto C 19 d_Model_often_56 (by decide) ?_
  exact x_lv C [2, 3, 1, 0] rfl (hrec19 _ _ _ h0)
def s_Model_often_19_b (p0 : Int32) (rec19 : Int32 → Int32 → LH → Option (Int32 × LH)) (y2 : Int32) (y3 : Int32) (σ : LH) : Option (Int32 × LH) :=
  if ib 49 290 then (
  if (σ.1 583 (Int32.toNatClampNeg 49)) ≤ y3 then (
   some (y2, σ))
  else (
   if ib (50 + (4 * y3)) 290 then (
   if (σ.1 583 (Int32.toNatClampNeg (50 + (4 * y3)))) = p0 then (
    s_Model_often_51 p0 rec19 y3 y2 1 σ)
   else (
    s_Model_often_51 p0 rec19 y3 y2 0 σ)) else none)) else none
def s_Model_often_19 (p0 : Int32) : Nat → Int32 → Int32 → LH → Option (Int32 × LH)
  | 0, _, _, _ => none
  | n + 1, y2, y3, σ => s_Model_often_19_b p0 (s_Model_often_19 p0 n) y2 y3 σ
theorem bb_Model_often_19 {G : XG} {l : Launch} {p : Program} {e : Env} {R : Room} {s : State} {m : MethodId} {args : Array Value} {below : List Frame} {meth : Method} {c : Code} (C : XC G 570 598 p s m args c prog_14_method_107_code 4 R_Model) (hr : meth.sig.returnType = (some .int)) (hk : meth.locks = false) {d : Nat} (hd : 2 ≤ d + 1) (hR : xroom R (d + 1)) {p0 : Int32} {rec19 : Int32 → Int32 → LH → Option (Int32 × LH)} {σ' : LH} {r : Int32} (hrec19 : ∀ (y2 : Int32) (y3 : Int32) (σ : LH), rec19 y2 y3 σ = some (r, σ') → XJ G 570 598 p l e R s m args below meth c 4 (XQ G 570 598 below args s (some (.int r)) σ') 0 0 19 [(0, .ref (G.2.2.1 + 570)), (1, .int p0), (2, .int y2), (3, .int y3)] [] σ) {y2 : Int32} {y3 : Int32} {σ : LH} (h0 : s_Model_often_19_b p0 rec19 y2 y3 σ = some (r, σ')) : XJ G 570 598 p l e R s m args below meth c 4 (XQ G 570 598 below args s (some (.int r)) σ') 0 0 19 [(0, .ref (G.2.2.1 + 570)), (1, .int p0), (2, .int y2), (3, .int y3)] [] σ := by
  replace h0 := (show _ = _ from h0)
  unfold s_Model_often_19_b at h0
  refine x_iload_n C d_Model_often_19 3 rfl ?_
  refine x_aload_n C d_Model_often_20 0 rfl ?_
  refine x_getA (y := 583) C fg_Model_61 k_570 rfl d_Model_often_21 ?_
  refine x_bipush (v := 49) C d_Model_often_24 (by decide) ?_
  obtain ⟨g6, h0⟩ := xgo h0
  refine x_iald C k_583 (ib_in g6) d_Model_often_26 ?_
  refine x_icmp_ge C 59 d_Model_often_27 (by decide) (fun q7 => ?_) (fun q7 => ?_)
  · replace h0 := xit q7 h0
    refine x_iload_n C d_Model_often_59 2 rfl ?_
    exact x_iret C hr hk h0 d_Model_often_60
  · replace h0 := xif q7 h0
    refine x_iload_n C d_Model_often_30 2 rfl ?_
    refine x_aload_n C d_Model_often_31 0 rfl ?_
    refine x_getA (y := 583) C fg_Model_61 k_570 rfl d_Model_often_32 ?_
    refine x_bipush (v := 50) C d_Model_often_35 (by decide) ?_
    refine x_iconst (v := 4) C d_Model_often_37 (by decide) ?_
    refine x_iload_n C d_Model_often_38 3 rfl ?_
    refine x_imul C d_Model_often_39 ?_
    refine x_iadd C d_Model_often_40 ?_
    obtain ⟨g8, h0⟩ := xgo h0
    refine x_iald C k_583 (ib_in g8) d_Model_often_41 ?_
    refine x_iload_n C d_Model_often_42 1 rfl ?_
    refine x_icmp_ne C 50 d_Model_often_43 (by decide) (fun q9 => ?_) (fun q9 => ?_)
    · replace h0 := xif q9 h0
      refine x_iconst (v := 0) C d_Model_often_50 (by decide) ?_
      exact x_lv C [0, 1, 3] rfl (b_Model_often_51 C hr hk hd hR hrec19 h0)
    · replace h0 := xit q9 h0
      refine x_iconst (v := 1) C d_Model_often_46 (by decide) ?_
      refine x_goto C 51 d_Model_often_47 (by decide) ?_
      exact x_lv C [0, 1, 3] rfl (b_Model_often_51 C hr hk hd hR hrec19 h0)
theorem b_Model_often_19 {G : XG} {l : Launch} {p : Program} {e : Env} {R : Room} {s : State} {m : MethodId} {args : Array Value} {below : List Frame} {meth : Method} {c : Code} (C : XC G 570 598 p s m args c prog_14_method_107_code 4 R_Model) (hr : meth.sig.returnType = (some .int)) (hk : meth.locks = false) {d : Nat} (hd : 2 ≤ d + 1) (hR : xroom R (d + 1)) {p0 : Int32} {σ' : LH} {r : Int32} : ∀ (n : Nat) (y2 : Int32) (y3 : Int32) (σ : LH), s_Model_often_19 p0 n y2 y3 σ = some (r, σ') → XJ G 570 598 p l e R s m args below meth c 4 (XQ G 570 598 below args s (some (.int r)) σ') 0 0 19 [(0, .ref (G.2.2.1 + 570)), (1, .int p0), (2, .int y2), (3, .int y3)] [] σ := by
  intro n
  induction n with
  | zero => intro y2 y3 σ h0; cases h0
  | succ n ih => intro y2 y3 σ h0; exact bb_Model_often_19 C hr hk hd hR ih h0
def s_Model_often (p0 : Int32) (σ : LH) : Option (Int32 × LH) :=
  xl ((stI σ 570 0 0) : LH) fun σ1 =>
  xb2 (s_Model_isSitter p0 σ1) fun r3 σ4 =>
  if r3 = 0 then (
   some ((-1), σ4))
  else (
   s_Model_often_19 p0 FUEL 0 0 σ4)
theorem c_Model_often {G : XG} {l : Launch} {d : Nat} (hd : 2 ≤ d) {p0 : Int32} {σ σ' : LH} {r : Int32} (h0 : s_Model_often p0 σ = some (r, σ')) : xM G 570 598 l y_Model_often prog_14_method_107_code 4 (some .int) d [.ref (G.2.2.1 + 570), .int p0] σ (some (.int r)) σ' := by
  obtain ⟨d, rfl⟩ : ∃ q, d = q + 1 := ⟨d - 1, by omega⟩
  refine x_met R_Model rfl (by decide +kernel) (Nat.le_of_ble_eq_true rfl) fun p e s m below meth c C hr hk hR => ?_
  refine x_lv (lv' := [(0, .ref (G.2.2.1 + 570)), (1, .int p0)]) C [0, 1] rfl ?_
  generalize xrm (d + 1) = R at hR ⊢
  unfold s_Model_often at h0
  refine x_aload_n C d_Model_often_0 0 rfl ?_
  refine x_iconst (v := 0) C d_Model_often_1 (by decide) ?_
  refine x_putI (y := 0) C fp_Model_114 k_570 rfl rfl rfl d_Model_often_2 ?_
  obtain ⟨σ1, eσ1, h0⟩ := xlet h0
  refine x_sig C eσ1 ?_
  refine x_aload_n C d_Model_often_5 0 rfl ?_
  refine x_iload_n C d_Model_often_6 1 rfl ?_
  obtain ⟨r3, σ4, k2, h0⟩ := xbind2 h0
  refine x_callVi C hR (c_Model_isSitter (d := d) (by omega) k2) cw_Model_412 k_570 rfl rfl rfl (Nat.le_of_ble_eq_true rfl) ⟨Nat.zero_le _, Nat.zero_le _⟩ d_Model_often_7 ?_
  refine x_if_ne C 15 d_Model_often_10 (by decide) (fun q5 => ?_) (fun q5 => ?_)
  · replace h0 := xif q5 h0
    refine x_iconst (v := 0) C d_Model_often_15 (by decide) ?_
    refine x_istore_n (lv' := [(2, .int 0), (0, .ref (G.2.2.1 + 570)), (1, .int p0)]) C d_Model_often_16 rfl (by decide) rfl ?_
    refine x_iconst (v := 0) C d_Model_often_17 (by decide) ?_
    refine x_istore_n (lv' := [(3, .int 0), (2, .int 0), (0, .ref (G.2.2.1 + 570)), (1, .int p0)]) C d_Model_often_18 rfl (by decide) rfl ?_
    exact x_lv C [2, 3, 1, 0] rfl (b_Model_often_19 C hr hk hd hR FUEL _ _ _ h0)
  · replace h0 := xit q5 h0
    refine x_iconst (v := (-1)) C d_Model_often_13 (by decide) ?_
    exact x_iret C hr hk h0 d_Model_often_14
-- LostPlacesModel.even()I
theorem d_Model_even_0 : decode prog_14_method_108_code 0 = .ok (.aload_n 0, 1) := by decide +kernel
theorem d_Model_even_1 : decode prog_14_method_108_code 1 = .ok (.iconst 0, 1) := by decide +kernel
theorem d_Model_even_2 : decode prog_14_method_108_code 2 = .ok (.putfield 114, 3) := by decide +kernel
theorem d_Model_even_5 : decode prog_14_method_108_code 5 = .ok (.aload_n 0, 1) := by decide +kernel
theorem d_Model_even_6 : decode prog_14_method_108_code 6 = .ok (.getfield 305, 3) := by decide +kernel
theorem d_Model_even_9 : decode prog_14_method_108_code 9 = .ok (.ifCond .ne 7, 3) := by decide +kernel
theorem d_Model_even_12 : decode prog_14_method_108_code 12 = .ok (.iconst (-1), 1) := by decide +kernel
theorem d_Model_even_13 : decode prog_14_method_108_code 13 = .ok (.goto 11, 3) := by decide +kernel
theorem d_Model_even_16 : decode prog_14_method_108_code 16 = .ok (.aload_n 0, 1) := by decide +kernel
theorem d_Model_even_17 : decode prog_14_method_108_code 17 = .ok (.aload_n 0, 1) := by decide +kernel
theorem d_Model_even_18 : decode prog_14_method_108_code 18 = .ok (.getfield 61, 3) := by decide +kernel
theorem d_Model_even_21 : decode prog_14_method_108_code 21 = .ok (.invokevirtual 490, 3) := by decide +kernel
theorem d_Model_even_24 : decode prog_14_method_108_code 24 = .ok (.ireturn, 1) := by decide +kernel
def s_Model_even_24 (z0 : Int32) (σ : LH) : Option (Int32 × LH) :=
  some (z0, σ)
theorem b_Model_even_24 {G : XG} {l : Launch} {p : Program} {e : Env} {R : Room} {s : State} {m : MethodId} {args : Array Value} {below : List Frame} {meth : Method} {c : Code} (C : XC G 570 598 p s m args c prog_14_method_108_code 1 R_Model) (hr : meth.sig.returnType = (some .int)) (hk : meth.locks = false) {d : Nat} (hd : 3 ≤ d + 1) (hR : xroom R (d + 1)) {σ' : LH} {r : Int32} {z0 : Int32} {σ : LH} (h0 : s_Model_even_24 z0 σ = some (r, σ')) : XJ G 570 598 p l e R s m args below meth c 1 (XQ G 570 598 below args s (some (.int r)) σ') 0 0 24 [] [.int z0] σ := by
  replace h0 := (show _ = _ from h0)
  unfold s_Model_even_24 at h0
  exact x_iret C hr hk h0 d_Model_even_24
def s_Model_even (σ : LH) : Option (Int32 × LH) :=
  xl ((stI σ 570 0 0) : LH) fun σ1 =>
  if (σ1.1 570 27) = 0 then (
   s_Model_even_24 (-1) σ1)
  else (
   xb2 (s_Model_evenIn 583 σ1) fun r4 σ5 =>
   s_Model_even_24 r4 σ5)
theorem c_Model_even {G : XG} {l : Launch} {d : Nat} (hd : 3 ≤ d) {σ σ' : LH} {r : Int32} (h0 : s_Model_even σ = some (r, σ')) : xM G 570 598 l y_Model_even prog_14_method_108_code 1 (some .int) d [.ref (G.2.2.1 + 570)] σ (some (.int r)) σ' := by
  obtain ⟨d, rfl⟩ : ∃ q, d = q + 1 := ⟨d - 1, by omega⟩
  refine x_met R_Model rfl (by decide +kernel) (Nat.le_of_ble_eq_true rfl) fun p e s m below meth c C hr hk hR => ?_
  refine x_lv (lv' := [(0, .ref (G.2.2.1 + 570))]) C [0] rfl ?_
  generalize xrm (d + 1) = R at hR ⊢
  unfold s_Model_even at h0
  refine x_aload_n C d_Model_even_0 0 rfl ?_
  refine x_iconst (v := 0) C d_Model_even_1 (by decide) ?_
  refine x_putI (y := 0) C fp_Model_114 k_570 rfl rfl rfl d_Model_even_2 ?_
  obtain ⟨σ1, eσ1, h0⟩ := xlet h0
  refine x_sig C eσ1 ?_
  refine x_aload_n C d_Model_even_5 0 rfl ?_
  refine x_getI (y := 0) C fg_Model_305 k_570 rfl d_Model_even_6 ?_
  refine x_if_ne C 16 d_Model_even_9 (by decide) (fun q2 => ?_) (fun q2 => ?_)
  · replace h0 := xif q2 h0
    refine x_aload_n C d_Model_even_16 0 rfl ?_
    refine x_aload_n C d_Model_even_17 0 rfl ?_
    refine x_getA (y := 583) C fg_Model_61 k_570 rfl d_Model_even_18 ?_
    obtain ⟨r4, σ5, k3, h0⟩ := xbind2 h0
    refine x_callVi C hR (c_Model_evenIn (d := d) (by omega) k_583 k3) cw_Model_490 k_570 rfl rfl rfl (Nat.le_of_ble_eq_true rfl) ⟨Nat.zero_le _, Nat.zero_le _⟩ d_Model_even_21 ?_
    exact x_lv C [] rfl (b_Model_even_24 C hr hk hd hR h0)
  · replace h0 := xit q2 h0
    refine x_iconst (v := (-1)) C d_Model_even_12 (by decide) ?_
    refine x_goto C 24 d_Model_even_13 (by decide) ?_
    exact x_lv C [] rfl (b_Model_even_24 C hr hk hd hR h0)
-- LostPlacesModel.image()I
theorem d_Model_image_0 : decode prog_14_method_109_code 0 = .ok (.aload_n 0, 1) := by decide +kernel
theorem d_Model_image_1 : decode prog_14_method_109_code 1 = .ok (.iconst 0, 1) := by decide +kernel
theorem d_Model_image_2 : decode prog_14_method_109_code 2 = .ok (.putfield 114, 3) := by decide +kernel
theorem d_Model_image_5 : decode prog_14_method_109_code 5 = .ok (.aload_n 0, 1) := by decide +kernel
theorem d_Model_image_6 : decode prog_14_method_109_code 6 = .ok (.getfield 305, 3) := by decide +kernel
theorem d_Model_image_9 : decode prog_14_method_109_code 9 = .ok (.ifCond .ne 5, 3) := by decide +kernel
theorem d_Model_image_12 : decode prog_14_method_109_code 12 = .ok (.iconst (-1), 1) := by decide +kernel
theorem d_Model_image_13 : decode prog_14_method_109_code 13 = .ok (.ireturn, 1) := by decide +kernel
theorem d_Model_image_14 : decode prog_14_method_109_code 14 = .ok (.aload_n 0, 1) := by decide +kernel
theorem d_Model_image_15 : decode prog_14_method_109_code 15 = .ok (.getfield 61, 3) := by decide +kernel
theorem d_Model_image_18 : decode prog_14_method_109_code 18 = .ok (.aload_n 0, 1) := by decide +kernel
theorem d_Model_image_19 : decode prog_14_method_109_code 19 = .ok (.getfield 111, 3) := by decide +kernel
theorem d_Model_image_22 : decode prog_14_method_109_code 22 = .ok (.invokestatic 447, 3) := by decide +kernel
theorem d_Model_image_25 : decode prog_14_method_109_code 25 = .ok (.aload_n 0, 1) := by decide +kernel
theorem d_Model_image_26 : decode prog_14_method_109_code 26 = .ok (.iconst 1, 1) := by decide +kernel
theorem d_Model_image_27 : decode prog_14_method_109_code 27 = .ok (.putfield 317, 3) := by decide +kernel
theorem d_Model_image_30 : decode prog_14_method_109_code 30 = .ok (.aload_n 0, 1) := by decide +kernel
theorem d_Model_image_31 : decode prog_14_method_109_code 31 = .ok (.getfield 61, 3) := by decide +kernel
theorem d_Model_image_34 : decode prog_14_method_109_code 34 = .ok (.bipush 48, 2) := by decide +kernel
theorem d_Model_image_36 : decode prog_14_method_109_code 36 = .ok (.iaload, 1) := by decide +kernel
theorem d_Model_image_37 : decode prog_14_method_109_code 37 = .ok (.ireturn, 1) := by decide +kernel
def s_Model_image (σ : LH) : Option (Int32 × LH) :=
  xl ((stI σ 570 0 0) : LH) fun σ1 =>
  if (σ1.1 570 27) = 0 then (
   some ((-1), σ1))
  else (
   xb1 (s_Model_copy 583 597 σ1) fun σ4 =>
   xl ((stI σ4 570 59 1) : LH) fun σ5 =>
   if ib 48 290 then (
   some ((σ5.1 583 (Int32.toNatClampNeg 48)), σ5)) else none)
theorem c_Model_image {G : XG} {l : Launch} {d : Nat} (hd : 2 ≤ d) {σ σ' : LH} {r : Int32} (h0 : s_Model_image σ = some (r, σ')) : xM G 570 598 l y_Model_image prog_14_method_109_code 1 (some .int) d [.ref (G.2.2.1 + 570)] σ (some (.int r)) σ' := by
  obtain ⟨d, rfl⟩ : ∃ q, d = q + 1 := ⟨d - 1, by omega⟩
  refine x_met R_Model rfl (by decide +kernel) (Nat.le_of_ble_eq_true rfl) fun p e s m below meth c C hr hk hR => ?_
  refine x_lv (lv' := [(0, .ref (G.2.2.1 + 570))]) C [0] rfl ?_
  generalize xrm (d + 1) = R at hR ⊢
  unfold s_Model_image at h0
  refine x_aload_n C d_Model_image_0 0 rfl ?_
  refine x_iconst (v := 0) C d_Model_image_1 (by decide) ?_
  refine x_putI (y := 0) C fp_Model_114 k_570 rfl rfl rfl d_Model_image_2 ?_
  obtain ⟨σ1, eσ1, h0⟩ := xlet h0
  refine x_sig C eσ1 ?_
  refine x_aload_n C d_Model_image_5 0 rfl ?_
  refine x_getI (y := 0) C fg_Model_305 k_570 rfl d_Model_image_6 ?_
  refine x_if_ne C 14 d_Model_image_9 (by decide) (fun q2 => ?_) (fun q2 => ?_)
  · replace h0 := xif q2 h0
    refine x_aload_n C d_Model_image_14 0 rfl ?_
    refine x_getA (y := 583) C fg_Model_61 k_570 rfl d_Model_image_15 ?_
    refine x_aload_n C d_Model_image_18 0 rfl ?_
    refine x_getA (y := 597) C fg_Model_111 k_570 rfl d_Model_image_19 ?_
    obtain ⟨σ4, k3, h0⟩ := xbind1 h0
    refine x_callSv C hR (c_Model_copy (d := d) (by omega) k_583 k_597 k3) cw_Model_447 w_2011 rfl rfl (Nat.le_of_ble_eq_true rfl) ⟨Nat.zero_le _, Nat.zero_le _⟩ d_Model_image_22 ?_
    refine x_aload_n C d_Model_image_25 0 rfl ?_
    refine x_iconst (v := 1) C d_Model_image_26 (by decide) ?_
    refine x_putI (y := 0) C fp_Model_317 k_570 rfl rfl rfl d_Model_image_27 ?_
    obtain ⟨σ5, eσ5, h0⟩ := xlet h0
    refine x_sig C eσ5 ?_
    refine x_aload_n C d_Model_image_30 0 rfl ?_
    refine x_getA (y := 583) C fg_Model_61 k_570 rfl d_Model_image_31 ?_
    refine x_bipush (v := 48) C d_Model_image_34 (by decide) ?_
    obtain ⟨g6, h0⟩ := xgo h0
    refine x_iald C k_583 (ib_in g6) d_Model_image_36 ?_
    exact x_iret C hr hk h0 d_Model_image_37
  · replace h0 := xit q2 h0
    refine x_iconst (v := (-1)) C d_Model_image_12 (by decide) ?_
    exact x_iret C hr hk h0 d_Model_image_13
-- LostPlacesModel.back()I
theorem d_Model_back_0 : decode prog_14_method_110_code 0 = .ok (.aload_n 0, 1) := by decide +kernel
theorem d_Model_back_1 : decode prog_14_method_110_code 1 = .ok (.iconst 0, 1) := by decide +kernel
theorem d_Model_back_2 : decode prog_14_method_110_code 2 = .ok (.putfield 114, 3) := by decide +kernel
theorem d_Model_back_5 : decode prog_14_method_110_code 5 = .ok (.aload_n 0, 1) := by decide +kernel
theorem d_Model_back_6 : decode prog_14_method_110_code 6 = .ok (.getfield 317, 3) := by decide +kernel
theorem d_Model_back_9 : decode prog_14_method_110_code 9 = .ok (.ifCond .ne 5, 3) := by decide +kernel
theorem d_Model_back_12 : decode prog_14_method_110_code 12 = .ok (.iconst (-1), 1) := by decide +kernel
theorem d_Model_back_13 : decode prog_14_method_110_code 13 = .ok (.ireturn, 1) := by decide +kernel
theorem d_Model_back_14 : decode prog_14_method_110_code 14 = .ok (.aload_n 0, 1) := by decide +kernel
theorem d_Model_back_15 : decode prog_14_method_110_code 15 = .ok (.getfield 111, 3) := by decide +kernel
theorem d_Model_back_18 : decode prog_14_method_110_code 18 = .ok (.aload_n 0, 1) := by decide +kernel
theorem d_Model_back_19 : decode prog_14_method_110_code 19 = .ok (.getfield 61, 3) := by decide +kernel
theorem d_Model_back_22 : decode prog_14_method_110_code 22 = .ok (.invokestatic 447, 3) := by decide +kernel
theorem d_Model_back_25 : decode prog_14_method_110_code 25 = .ok (.aload_n 0, 1) := by decide +kernel
theorem d_Model_back_26 : decode prog_14_method_110_code 26 = .ok (.iconst 0, 1) := by decide +kernel
theorem d_Model_back_27 : decode prog_14_method_110_code 27 = .ok (.putfield 314, 3) := by decide +kernel
theorem d_Model_back_30 : decode prog_14_method_110_code 30 = .ok (.aload_n 0, 1) := by decide +kernel
theorem d_Model_back_31 : decode prog_14_method_110_code 31 = .ok (.getfield 61, 3) := by decide +kernel
theorem d_Model_back_34 : decode prog_14_method_110_code 34 = .ok (.bipush 48, 2) := by decide +kernel
theorem d_Model_back_36 : decode prog_14_method_110_code 36 = .ok (.iaload, 1) := by decide +kernel
theorem d_Model_back_37 : decode prog_14_method_110_code 37 = .ok (.ireturn, 1) := by decide +kernel
def s_Model_back (σ : LH) : Option (Int32 × LH) :=
  xl ((stI σ 570 0 0) : LH) fun σ1 =>
  if (σ1.1 570 59) = 0 then (
   some ((-1), σ1))
  else (
   xb1 (s_Model_copy 597 583 σ1) fun σ4 =>
   xl ((stI σ4 570 46 0) : LH) fun σ5 =>
   if ib 48 290 then (
   some ((σ5.1 583 (Int32.toNatClampNeg 48)), σ5)) else none)
theorem c_Model_back {G : XG} {l : Launch} {d : Nat} (hd : 2 ≤ d) {σ σ' : LH} {r : Int32} (h0 : s_Model_back σ = some (r, σ')) : xM G 570 598 l y_Model_back prog_14_method_110_code 1 (some .int) d [.ref (G.2.2.1 + 570)] σ (some (.int r)) σ' := by
  obtain ⟨d, rfl⟩ : ∃ q, d = q + 1 := ⟨d - 1, by omega⟩
  refine x_met R_Model rfl (by decide +kernel) (Nat.le_of_ble_eq_true rfl) fun p e s m below meth c C hr hk hR => ?_
  refine x_lv (lv' := [(0, .ref (G.2.2.1 + 570))]) C [0] rfl ?_
  generalize xrm (d + 1) = R at hR ⊢
  unfold s_Model_back at h0
  refine x_aload_n C d_Model_back_0 0 rfl ?_
  refine x_iconst (v := 0) C d_Model_back_1 (by decide) ?_
  refine x_putI (y := 0) C fp_Model_114 k_570 rfl rfl rfl d_Model_back_2 ?_
  obtain ⟨σ1, eσ1, h0⟩ := xlet h0
  refine x_sig C eσ1 ?_
  refine x_aload_n C d_Model_back_5 0 rfl ?_
  refine x_getI (y := 0) C fg_Model_317 k_570 rfl d_Model_back_6 ?_
  refine x_if_ne C 14 d_Model_back_9 (by decide) (fun q2 => ?_) (fun q2 => ?_)
  · replace h0 := xif q2 h0
    refine x_aload_n C d_Model_back_14 0 rfl ?_
    refine x_getA (y := 597) C fg_Model_111 k_570 rfl d_Model_back_15 ?_
    refine x_aload_n C d_Model_back_18 0 rfl ?_
    refine x_getA (y := 583) C fg_Model_61 k_570 rfl d_Model_back_19 ?_
    obtain ⟨σ4, k3, h0⟩ := xbind1 h0
    refine x_callSv C hR (c_Model_copy (d := d) (by omega) k_597 k_583 k3) cw_Model_447 w_2011 rfl rfl (Nat.le_of_ble_eq_true rfl) ⟨Nat.zero_le _, Nat.zero_le _⟩ d_Model_back_22 ?_
    refine x_aload_n C d_Model_back_25 0 rfl ?_
    refine x_iconst (v := 0) C d_Model_back_26 (by decide) ?_
    refine x_putI (y := 0) C fp_Model_314 k_570 rfl rfl rfl d_Model_back_27 ?_
    obtain ⟨σ5, eσ5, h0⟩ := xlet h0
    refine x_sig C eσ5 ?_
    refine x_aload_n C d_Model_back_30 0 rfl ?_
    refine x_getA (y := 583) C fg_Model_61 k_570 rfl d_Model_back_31 ?_
    refine x_bipush (v := 48) C d_Model_back_34 (by decide) ?_
    obtain ⟨g6, h0⟩ := xgo h0
    refine x_iald C k_583 (ib_in g6) d_Model_back_36 ?_
    exact x_iret C hr hk h0 d_Model_back_37
  · replace h0 := xit q2 h0
    refine x_iconst (v := (-1)) C d_Model_back_12 (by decide) ?_
    exact x_iret C hr hk h0 d_Model_back_13
-- LostPlacesModel.count(I)I
theorem d_Model_count_0 : decode prog_14_method_111_code 0 = .ok (.aload_n 0, 1) := by decide +kernel
theorem d_Model_count_1 : decode prog_14_method_111_code 1 = .ok (.iconst 0, 1) := by decide +kernel
theorem d_Model_count_2 : decode prog_14_method_111_code 2 = .ok (.putfield 114, 3) := by decide +kernel
theorem d_Model_count_5 : decode prog_14_method_111_code 5 = .ok (.iload_n 1, 1) := by decide +kernel
theorem d_Model_count_6 : decode prog_14_method_111_code 6 = .ok (.tableswitch 163 0 12 #[66, 71, 76, 81, 86, 91, 96, 104, 122, 140, 145, 153, 158], 66) := by decide +kernel
theorem d_Model_count_72 : decode prog_14_method_111_code 72 = .ok (.aload_n 0, 1) := by decide +kernel
theorem d_Model_count_73 : decode prog_14_method_111_code 73 = .ok (.getfield 302, 3) := by decide +kernel
theorem d_Model_count_76 : decode prog_14_method_111_code 76 = .ok (.ireturn, 1) := by decide +kernel
theorem d_Model_count_77 : decode prog_14_method_111_code 77 = .ok (.aload_n 0, 1) := by decide +kernel
theorem d_Model_count_78 : decode prog_14_method_111_code 78 = .ok (.getfield 305, 3) := by decide +kernel
theorem d_Model_count_81 : decode prog_14_method_111_code 81 = .ok (.ireturn, 1) := by decide +kernel
theorem d_Model_count_82 : decode prog_14_method_111_code 82 = .ok (.aload_n 0, 1) := by decide +kernel
theorem d_Model_count_83 : decode prog_14_method_111_code 83 = .ok (.getfield 308, 3) := by decide +kernel
theorem d_Model_count_86 : decode prog_14_method_111_code 86 = .ok (.ireturn, 1) := by decide +kernel
theorem d_Model_count_87 : decode prog_14_method_111_code 87 = .ok (.aload_n 0, 1) := by decide +kernel
theorem d_Model_count_88 : decode prog_14_method_111_code 88 = .ok (.getfield 297, 3) := by decide +kernel
theorem d_Model_count_91 : decode prog_14_method_111_code 91 = .ok (.ireturn, 1) := by decide +kernel
theorem d_Model_count_92 : decode prog_14_method_111_code 92 = .ok (.aload_n 0, 1) := by decide +kernel
theorem d_Model_count_93 : decode prog_14_method_111_code 93 = .ok (.getfield 127, 3) := by decide +kernel
theorem d_Model_count_96 : decode prog_14_method_111_code 96 = .ok (.ireturn, 1) := by decide +kernel
theorem d_Model_count_97 : decode prog_14_method_111_code 97 = .ok (.aload_n 0, 1) := by decide +kernel
theorem d_Model_count_98 : decode prog_14_method_111_code 98 = .ok (.getfield 67, 3) := by decide +kernel
theorem d_Model_count_101 : decode prog_14_method_111_code 101 = .ok (.ireturn, 1) := by decide +kernel
theorem d_Model_count_102 : decode prog_14_method_111_code 102 = .ok (.aload_n 0, 1) := by decide +kernel
theorem d_Model_count_103 : decode prog_14_method_111_code 103 = .ok (.getfield 61, 3) := by decide +kernel
theorem d_Model_count_106 : decode prog_14_method_111_code 106 = .ok (.bipush 48, 2) := by decide +kernel
theorem d_Model_count_108 : decode prog_14_method_111_code 108 = .ok (.iaload, 1) := by decide +kernel
theorem d_Model_count_109 : decode prog_14_method_111_code 109 = .ok (.ireturn, 1) := by decide +kernel
theorem d_Model_count_110 : decode prog_14_method_111_code 110 = .ok (.aload_n 0, 1) := by decide +kernel
theorem d_Model_count_111 : decode prog_14_method_111_code 111 = .ok (.getfield 305, 3) := by decide +kernel
theorem d_Model_count_114 : decode prog_14_method_111_code 114 = .ok (.ifCond .ne 7, 3) := by decide +kernel
theorem d_Model_count_117 : decode prog_14_method_111_code 117 = .ok (.iconst 0, 1) := by decide +kernel
theorem d_Model_count_118 : decode prog_14_method_111_code 118 = .ok (.goto 9, 3) := by decide +kernel
theorem d_Model_count_121 : decode prog_14_method_111_code 121 = .ok (.aload_n 0, 1) := by decide +kernel
theorem d_Model_count_122 : decode prog_14_method_111_code 122 = .ok (.getfield 55, 3) := by decide +kernel
theorem d_Model_count_125 : decode prog_14_method_111_code 125 = .ok (.iconst 1, 1) := by decide +kernel
theorem d_Model_count_126 : decode prog_14_method_111_code 126 = .ok (.iaload, 1) := by decide +kernel
theorem d_Model_count_127 : decode prog_14_method_111_code 127 = .ok (.ireturn, 1) := by decide +kernel
theorem d_Model_count_128 : decode prog_14_method_111_code 128 = .ok (.aload_n 0, 1) := by decide +kernel
theorem d_Model_count_129 : decode prog_14_method_111_code 129 = .ok (.getfield 305, 3) := by decide +kernel
theorem d_Model_count_132 : decode prog_14_method_111_code 132 = .ok (.ifCond .ne 7, 3) := by decide +kernel
theorem d_Model_count_135 : decode prog_14_method_111_code 135 = .ok (.iconst 0, 1) := by decide +kernel
theorem d_Model_count_136 : decode prog_14_method_111_code 136 = .ok (.goto 9, 3) := by decide +kernel
theorem d_Model_count_139 : decode prog_14_method_111_code 139 = .ok (.aload_n 0, 1) := by decide +kernel
theorem d_Model_count_140 : decode prog_14_method_111_code 140 = .ok (.getfield 55, 3) := by decide +kernel
theorem d_Model_count_143 : decode prog_14_method_111_code 143 = .ok (.iconst 0, 1) := by decide +kernel
theorem d_Model_count_144 : decode prog_14_method_111_code 144 = .ok (.iaload, 1) := by decide +kernel
theorem d_Model_count_145 : decode prog_14_method_111_code 145 = .ok (.ireturn, 1) := by decide +kernel
theorem d_Model_count_146 : decode prog_14_method_111_code 146 = .ok (.aload_n 0, 1) := by decide +kernel
theorem d_Model_count_147 : decode prog_14_method_111_code 147 = .ok (.getfield 419, 3) := by decide +kernel
theorem d_Model_count_150 : decode prog_14_method_111_code 150 = .ok (.ireturn, 1) := by decide +kernel
theorem d_Model_count_151 : decode prog_14_method_111_code 151 = .ok (.aload_n 0, 1) := by decide +kernel
theorem d_Model_count_152 : decode prog_14_method_111_code 152 = .ok (.getfield 61, 3) := by decide +kernel
theorem d_Model_count_155 : decode prog_14_method_111_code 155 = .ok (.bipush 49, 2) := by decide +kernel
theorem d_Model_count_157 : decode prog_14_method_111_code 157 = .ok (.iaload, 1) := by decide +kernel
theorem d_Model_count_158 : decode prog_14_method_111_code 158 = .ok (.ireturn, 1) := by decide +kernel
theorem d_Model_count_159 : decode prog_14_method_111_code 159 = .ok (.aload_n 0, 1) := by decide +kernel
theorem d_Model_count_160 : decode prog_14_method_111_code 160 = .ok (.getfield 314, 3) := by decide +kernel
theorem d_Model_count_163 : decode prog_14_method_111_code 163 = .ok (.ireturn, 1) := by decide +kernel
theorem d_Model_count_164 : decode prog_14_method_111_code 164 = .ok (.aload_n 0, 1) := by decide +kernel
theorem d_Model_count_165 : decode prog_14_method_111_code 165 = .ok (.getfield 311, 3) := by decide +kernel
theorem d_Model_count_168 : decode prog_14_method_111_code 168 = .ok (.ireturn, 1) := by decide +kernel
theorem d_Model_count_169 : decode prog_14_method_111_code 169 = .ok (.ldc_w 422, 3) := by decide +kernel
theorem d_Model_count_172 : decode prog_14_method_111_code 172 = .ok (.ireturn, 1) := by decide +kernel
def s_Model_count_127 (p0 : Int32) (z0 : Int32) (σ : LH) : Option (Int32 × LH) :=
  some (z0, σ)
theorem b_Model_count_127 {G : XG} {l : Launch} {p : Program} {e : Env} {R : Room} {s : State} {m : MethodId} {args : Array Value} {below : List Frame} {meth : Method} {c : Code} (C : XC G 570 598 p s m args c prog_14_method_111_code 2 R_Model) (hr : meth.sig.returnType = (some .int)) (hk : meth.locks = false) {d : Nat} (hd : 1 ≤ d + 1) (hR : xroom R (d + 1)) {p0 : Int32} {σ' : LH} {r : Int32} {z0 : Int32} {σ : LH} (h0 : s_Model_count_127 p0 z0 σ = some (r, σ')) : XJ G 570 598 p l e R s m args below meth c 2 (XQ G 570 598 below args s (some (.int r)) σ') 0 0 127 [] [.int z0] σ := by
  replace h0 := (show _ = _ from h0)
  unfold s_Model_count_127 at h0
  exact x_iret C hr hk h0 d_Model_count_127
def s_Model_count_145 (p0 : Int32) (z0 : Int32) (σ : LH) : Option (Int32 × LH) :=
  some (z0, σ)
theorem b_Model_count_145 {G : XG} {l : Launch} {p : Program} {e : Env} {R : Room} {s : State} {m : MethodId} {args : Array Value} {below : List Frame} {meth : Method} {c : Code} (C : XC G 570 598 p s m args c prog_14_method_111_code 2 R_Model) (hr : meth.sig.returnType = (some .int)) (hk : meth.locks = false) {d : Nat} (hd : 1 ≤ d + 1) (hR : xroom R (d + 1)) {p0 : Int32} {σ' : LH} {r : Int32} {z0 : Int32} {σ : LH} (h0 : s_Model_count_145 p0 z0 σ = some (r, σ')) : XJ G 570 598 p l e R s m args below meth c 2 (XQ G 570 598 below args s (some (.int r)) σ') 0 0 145 [] [.int z0] σ := by
  replace h0 := (show _ = _ from h0)
  unfold s_Model_count_145 at h0
  exact x_iret C hr hk h0 d_Model_count_145
def s_Model_count (p0 : Int32) (σ : LH) : Option (Int32 × LH) :=
  xl ((stI σ 570 0 0) : LH) fun σ1 =>
  if p0.toInt = 0 then (
   some ((σ1.1 570 26), σ1))
  else (
  if p0.toInt = 1 then (
   some ((σ1.1 570 27), σ1))
  else (
  if p0.toInt = 2 then (
   some ((σ1.1 570 28), σ1))
  else (
  if p0.toInt = 3 then (
   some ((σ1.1 570 7), σ1))
  else (
  if p0.toInt = 4 then (
   some ((σ1.1 570 6), σ1))
  else (
  if p0.toInt = 5 then (
   some ((σ1.1 570 35), σ1))
  else (
  if p0.toInt = 6 then (
   if ib 48 290 then (
   some ((σ1.1 583 (Int32.toNatClampNeg 48)), σ1)) else none)
  else (
  if p0.toInt = 7 then (
   if (σ1.1 570 27) = 0 then (
    s_Model_count_127 p0 0 σ1)
   else (
    if ib 1 2 then (
    s_Model_count_127 p0 (σ1.1 581 (Int32.toNatClampNeg 1)) σ1) else none))
  else (
  if p0.toInt = 8 then (
   if (σ1.1 570 27) = 0 then (
    s_Model_count_145 p0 0 σ1)
   else (
    if ib 0 2 then (
    s_Model_count_145 p0 (σ1.1 581 (Int32.toNatClampNeg 0)) σ1) else none))
  else (
  if p0.toInt = 9 then (
   some ((σ1.1 570 36), σ1))
  else (
  if p0.toInt = 10 then (
   if ib 49 290 then (
   some ((σ1.1 583 (Int32.toNatClampNeg 49)), σ1)) else none)
  else (
  if p0.toInt = 11 then (
   some ((σ1.1 570 46), σ1))
  else (
  if p0.toInt = 12 then (
   some ((σ1.1 570 57), σ1))
  else (
   some ((-1000000), σ1))))))))))))))
theorem c_Model_count {G : XG} {l : Launch} {d : Nat} (hd : 1 ≤ d) {p0 : Int32} {σ σ' : LH} {r : Int32} (h0 : s_Model_count p0 σ = some (r, σ')) : xM G 570 598 l y_Model_count prog_14_method_111_code 2 (some .int) d [.ref (G.2.2.1 + 570), .int p0] σ (some (.int r)) σ' := by
  obtain ⟨d, rfl⟩ : ∃ q, d = q + 1 := ⟨d - 1, by omega⟩
  refine x_met R_Model rfl (by decide +kernel) (Nat.le_of_ble_eq_true rfl) fun p e s m below meth c C hr hk hR => ?_
  refine x_lv (lv' := [(0, .ref (G.2.2.1 + 570)), (1, .int p0)]) C [0, 1] rfl ?_
  generalize xrm (d + 1) = R at hR ⊢
  unfold s_Model_count at h0
  refine x_aload_n C d_Model_count_0 0 rfl ?_
  refine x_iconst (v := 0) C d_Model_count_1 (by decide) ?_
  refine x_putI (y := 0) C fp_Model_114 k_570 rfl rfl rfl d_Model_count_2 ?_
  obtain ⟨σ1, eσ1, h0⟩ := xlet h0
  refine x_sig C eσ1 ?_
  refine x_iload_n C d_Model_count_5 1 rfl ?_
  by_cases q0 : p0.toInt = 0
  · replace h0 := xit q0 h0
    refine x_tableIn C 72 d_Model_count_6 (by omega) (by omega) (by rw [q0]; rfl) (by decide) ?_
    refine x_aload_n C d_Model_count_72 0 rfl ?_
    refine x_getI (y := 0) C fg_Model_302 k_570 rfl d_Model_count_73 ?_
    exact x_iret C hr hk h0 d_Model_count_76
  replace h0 := xif q0 h0
  by_cases q1 : p0.toInt = 1
  · replace h0 := xit q1 h0
    refine x_tableIn C 77 d_Model_count_6 (by omega) (by omega) (by rw [q1]; rfl) (by decide) ?_
    refine x_aload_n C d_Model_count_77 0 rfl ?_
    refine x_getI (y := 0) C fg_Model_305 k_570 rfl d_Model_count_78 ?_
    exact x_iret C hr hk h0 d_Model_count_81
  replace h0 := xif q1 h0
  by_cases q2 : p0.toInt = 2
  · replace h0 := xit q2 h0
    refine x_tableIn C 82 d_Model_count_6 (by omega) (by omega) (by rw [q2]; rfl) (by decide) ?_
    refine x_aload_n C d_Model_count_82 0 rfl ?_
    refine x_getI (y := 0) C fg_Model_308 k_570 rfl d_Model_count_83 ?_
    exact x_iret C hr hk h0 d_Model_count_86
  replace h0 := xif q2 h0
  by_cases q3 : p0.toInt = 3
  · replace h0 := xit q3 h0
    refine x_tableIn C 87 d_Model_count_6 (by omega) (by omega) (by rw [q3]; rfl) (by decide) ?_
    refine x_aload_n C d_Model_count_87 0 rfl ?_
    refine x_getI (y := 0) C fg_Model_297 k_570 rfl d_Model_count_88 ?_
    exact x_iret C hr hk h0 d_Model_count_91
  replace h0 := xif q3 h0
  by_cases q4 : p0.toInt = 4
  · replace h0 := xit q4 h0
    refine x_tableIn C 92 d_Model_count_6 (by omega) (by omega) (by rw [q4]; rfl) (by decide) ?_
    refine x_aload_n C d_Model_count_92 0 rfl ?_
    refine x_getI (y := 0) C fg_Model_127 k_570 rfl d_Model_count_93 ?_
    exact x_iret C hr hk h0 d_Model_count_96
  replace h0 := xif q4 h0
  by_cases q5 : p0.toInt = 5
  · replace h0 := xit q5 h0
    refine x_tableIn C 97 d_Model_count_6 (by omega) (by omega) (by rw [q5]; rfl) (by decide) ?_
    refine x_aload_n C d_Model_count_97 0 rfl ?_
    refine x_getI (y := 0) C fg_Model_67 k_570 rfl d_Model_count_98 ?_
    exact x_iret C hr hk h0 d_Model_count_101
  replace h0 := xif q5 h0
  by_cases q6 : p0.toInt = 6
  · replace h0 := xit q6 h0
    refine x_tableIn C 102 d_Model_count_6 (by omega) (by omega) (by rw [q6]; rfl) (by decide) ?_
    refine x_aload_n C d_Model_count_102 0 rfl ?_
    refine x_getA (y := 583) C fg_Model_61 k_570 rfl d_Model_count_103 ?_
    refine x_bipush (v := 48) C d_Model_count_106 (by decide) ?_
    obtain ⟨g2, h0⟩ := xgo h0
    refine x_iald C k_583 (ib_in g2) d_Model_count_108 ?_
    exact x_iret C hr hk h0 d_Model_count_109
  replace h0 := xif q6 h0
  by_cases q7 : p0.toInt = 7
  · replace h0 := xit q7 h0
    refine x_tableIn C 110 d_Model_count_6 (by omega) (by omega) (by rw [q7]; rfl) (by decide) ?_
    refine x_aload_n C d_Model_count_110 0 rfl ?_
    refine x_getI (y := 0) C fg_Model_305 k_570 rfl d_Model_count_111 ?_
    refine x_if_ne C 121 d_Model_count_114 (by decide) (fun q3 => ?_) (fun q3 => ?_)
    · replace h0 := xif q3 h0
      refine x_aload_n C d_Model_count_121 0 rfl ?_
      refine x_getA (y := 581) C fg_Model_55 k_570 rfl d_Model_count_122 ?_
      refine x_iconst (v := 1) C d_Model_count_125 (by decide) ?_
      obtain ⟨g4, h0⟩ := xgo h0
      refine x_iald C k_581 (ib_in g4) d_Model_count_126 ?_
      exact x_lv C [] rfl (b_Model_count_127 C hr hk hd hR h0)
    · replace h0 := xit q3 h0
      refine x_iconst (v := 0) C d_Model_count_117 (by decide) ?_
      refine x_goto C 127 d_Model_count_118 (by decide) ?_
      exact x_lv C [] rfl (b_Model_count_127 C hr hk hd hR h0)
  replace h0 := xif q7 h0
  by_cases q8 : p0.toInt = 8
  · replace h0 := xit q8 h0
    refine x_tableIn C 128 d_Model_count_6 (by omega) (by omega) (by rw [q8]; rfl) (by decide) ?_
    refine x_aload_n C d_Model_count_128 0 rfl ?_
    refine x_getI (y := 0) C fg_Model_305 k_570 rfl d_Model_count_129 ?_
    refine x_if_ne C 139 d_Model_count_132 (by decide) (fun q5 => ?_) (fun q5 => ?_)
    · replace h0 := xif q5 h0
      refine x_aload_n C d_Model_count_139 0 rfl ?_
      refine x_getA (y := 581) C fg_Model_55 k_570 rfl d_Model_count_140 ?_
      refine x_iconst (v := 0) C d_Model_count_143 (by decide) ?_
      obtain ⟨g6, h0⟩ := xgo h0
      refine x_iald C k_581 (ib_in g6) d_Model_count_144 ?_
      exact x_lv C [] rfl (b_Model_count_145 C hr hk hd hR h0)
    · replace h0 := xit q5 h0
      refine x_iconst (v := 0) C d_Model_count_135 (by decide) ?_
      refine x_goto C 145 d_Model_count_136 (by decide) ?_
      exact x_lv C [] rfl (b_Model_count_145 C hr hk hd hR h0)
  replace h0 := xif q8 h0
  by_cases q9 : p0.toInt = 9
  · replace h0 := xit q9 h0
    refine x_tableIn C 146 d_Model_count_6 (by omega) (by omega) (by rw [q9]; rfl) (by decide) ?_
    refine x_aload_n C d_Model_count_146 0 rfl ?_
    refine x_getI (y := 0) C fg_Model_419 k_570 rfl d_Model_count_147 ?_
    exact x_iret C hr hk h0 d_Model_count_150
  replace h0 := xif q9 h0
  by_cases q10 : p0.toInt = 10
  · replace h0 := xit q10 h0
    refine x_tableIn C 151 d_Model_count_6 (by omega) (by omega) (by rw [q10]; rfl) (by decide) ?_
    refine x_aload_n C d_Model_count_151 0 rfl ?_
    refine x_getA (y := 583) C fg_Model_61 k_570 rfl d_Model_count_152 ?_
    refine x_bipush (v := 49) C d_Model_count_155 (by decide) ?_
    obtain ⟨g7, h0⟩ := xgo h0
    refine x_iald C k_583 (ib_in g7) d_Model_count_157 ?_
    exact x_iret C hr hk h0 d_Model_count_158
  replace h0 := xif q10 h0
  by_cases q11 : p0.toInt = 11
  · replace h0 := xit q11 h0
    refine x_tableIn C 159 d_Model_count_6 (by omega) (by omega) (by rw [q11]; rfl) (by decide) ?_
    refine x_aload_n C d_Model_count_159 0 rfl ?_
    refine x_getI (y := 0) C fg_Model_314 k_570 rfl d_Model_count_160 ?_
    exact x_iret C hr hk h0 d_Model_count_163
  replace h0 := xif q11 h0
  by_cases q12 : p0.toInt = 12
  · replace h0 := xit q12 h0
    refine x_tableIn C 164 d_Model_count_6 (by omega) (by omega) (by rw [q12]; rfl) (by decide) ?_
    refine x_aload_n C d_Model_count_164 0 rfl ?_
    refine x_getI (y := 0) C fg_Model_311 k_570 rfl d_Model_count_165 ?_
    exact x_iret C hr hk h0 d_Model_count_168
  replace h0 := xif q12 h0
  refine x_tableOut C 169 d_Model_count_6 (by omega) (by decide) ?_
  refine x_ldcw (v := (-1000000)) C w_1899 d_Model_count_169 ?_
  exact x_iret C hr hk h0 d_Model_count_172
