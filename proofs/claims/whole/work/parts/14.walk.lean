-- LostPlaces.go(I)I
theorem d_Main_go_0 : decode prog_1_method_23_code 0 = .ok (.iload_n 1, 1) := by decide +kernel
theorem d_Main_go_1 : decode prog_1_method_23_code 1 = .ok (.iconst 1, 1) := by decide +kernel
theorem d_Main_go_2 : decode prog_1_method_23_code 2 = .ok (.if_icmp .lt 17, 3) := by decide +kernel
theorem d_Main_go_5 : decode prog_1_method_23_code 5 = .ok (.iload_n 1, 1) := by decide +kernel
theorem d_Main_go_6 : decode prog_1_method_23_code 6 = .ok (.bipush 60, 2) := by decide +kernel
theorem d_Main_go_8 : decode prog_1_method_23_code 8 = .ok (.if_icmp .gt 11, 3) := by decide +kernel
theorem d_Main_go_11 : decode prog_1_method_23_code 11 = .ok (.iload_n 1, 1) := by decide +kernel
theorem d_Main_go_12 : decode prog_1_method_23_code 12 = .ok (.aload_n 0, 1) := by decide +kernel
theorem d_Main_go_13 : decode prog_1_method_23_code 13 = .ok (.invokevirtual 247, 3) := by decide +kernel
theorem d_Main_go_16 : decode prog_1_method_23_code 16 = .ok (.if_icmp .le 5, 3) := by decide +kernel
theorem d_Main_go_19 : decode prog_1_method_23_code 19 = .ok (.iconst (-1), 1) := by decide +kernel
theorem d_Main_go_20 : decode prog_1_method_23_code 20 = .ok (.ireturn, 1) := by decide +kernel
theorem d_Main_go_21 : decode prog_1_method_23_code 21 = .ok (.iconst 0, 1) := by decide +kernel
theorem d_Main_go_22 : decode prog_1_method_23_code 22 = .ok (.istore_n 2, 1) := by decide +kernel
theorem d_Main_go_23 : decode prog_1_method_23_code 23 = .ok (.iload_n 2, 1) := by decide +kernel
theorem d_Main_go_24 : decode prog_1_method_23_code 24 = .ok (.iload_n 1, 1) := by decide +kernel
theorem d_Main_go_25 : decode prog_1_method_23_code 25 = .ok (.if_icmp .ge 24, 3) := by decide +kernel
theorem d_Main_go_28 : decode prog_1_method_23_code 28 = .ok (.aload_n 0, 1) := by decide +kernel
theorem d_Main_go_29 : decode prog_1_method_23_code 29 = .ok (.invokevirtual 250, 3) := by decide +kernel
theorem d_Main_go_32 : decode prog_1_method_23_code 32 = .ok (.aload_n 0, 1) := by decide +kernel
theorem d_Main_go_33 : decode prog_1_method_23_code 33 = .ok (.getfield 72, 3) := by decide +kernel
theorem d_Main_go_36 : decode prog_1_method_23_code 36 = .ok (.aload_n 0, 1) := by decide +kernel
theorem d_Main_go_37 : decode prog_1_method_23_code 37 = .ok (.getfield 79, 3) := by decide +kernel
theorem d_Main_go_40 : decode prog_1_method_23_code 40 = .ok (.invokevirtual 261, 3) := by decide +kernel
theorem d_Main_go_43 : decode prog_1_method_23_code 43 = .ok (.iinc 2 1, 3) := by decide +kernel
theorem d_Main_go_46 : decode prog_1_method_23_code 46 = .ok (.goto (-23), 3) := by decide +kernel
theorem d_Main_go_49 : decode prog_1_method_23_code 49 = .ok (.aload_n 0, 1) := by decide +kernel
theorem d_Main_go_50 : decode prog_1_method_23_code 50 = .ok (.getfield 79, 3) := by decide +kernel
theorem d_Main_go_53 : decode prog_1_method_23_code 53 = .ok (.getfield 227, 3) := by decide +kernel
theorem d_Main_go_56 : decode prog_1_method_23_code 56 = .ok (.ireturn, 1) := by decide +kernel
def s_Main_go_19 (p0 : Int32) (σ : LH) : Option (Int32 × LH) :=
  some ((-1), σ)
theorem b_Main_go_19 {G : XG} {l : Launch} {p : Program} {e : Env} {R : Room} {s : State} {m : MethodId} {args : Array Value} {below : List Frame} {meth : Method} {c : Code} (C : XC G 1 570 p s m args c prog_1_method_23_code 3 R_Main) (hr : meth.sig.returnType = (some .int)) (hk : meth.locks = false) {d : Nat} (hd : 5 ≤ d + 1) (hR : xroom R (d + 1)) {p0 : Int32} {σ' : LH} {r : Int32} {σ : LH} (h0 : s_Main_go_19 p0 σ = some (r, σ')) : XJ G 1 570 p l e R s m args below meth c 3 (XQ G 1 570 below args s (some (.int r)) σ') 0 0 19 [] [] σ := by
  replace h0 := (show _ = _ from h0)
  unfold s_Main_go_19 at h0
  refine x_iconst (v := (-1)) C d_Main_go_19 (by decide) ?_
  exact x_iret C hr hk h0 d_Main_go_20
def s_Main_go_23_b (p0 : Int32) (rec23 : Int32 → LH → Option (Int32 × LH)) (y2 : Int32) (σ : LH) : Option (Int32 × LH) :=
  if p0 ≤ y2 then (
   some ((σ.1 39 7), σ))
  else (
   xb1 (s_Main_remember σ) fun σ9 =>
   xb1 (s_Evening_pass 39 σ9) fun σ11 =>
   xl ((y2 + 1) : Int32) fun x12 =>
   rec23 x12 σ11)
def s_Main_go_23 (p0 : Int32) : Nat → Int32 → LH → Option (Int32 × LH)
  | 0, _, _ => none
  | n + 1, y2, σ => s_Main_go_23_b p0 (s_Main_go_23 p0 n) y2 σ
theorem bb_Main_go_23 {G : XG} {l : Launch} {p : Program} {e : Env} {R : Room} {s : State} {m : MethodId} {args : Array Value} {below : List Frame} {meth : Method} {c : Code} (C : XC G 1 570 p s m args c prog_1_method_23_code 3 R_Main) (hr : meth.sig.returnType = (some .int)) (hk : meth.locks = false) {d : Nat} (hd : 5 ≤ d + 1) (hR : xroom R (d + 1)) {p0 : Int32} {rec23 : Int32 → LH → Option (Int32 × LH)} {σ' : LH} {r : Int32} (hrec23 : ∀ (y2 : Int32) (σ : LH), rec23 y2 σ = some (r, σ') → XJ G 1 570 p l e R s m args below meth c 3 (XQ G 1 570 below args s (some (.int r)) σ') 0 0 23 [(0, .ref (G.2.2.1 + 1)), (1, .int p0), (2, .int y2)] [] σ) {y2 : Int32} {σ : LH} (h0 : s_Main_go_23_b p0 rec23 y2 σ = some (r, σ')) : XJ G 1 570 p l e R s m args below meth c 3 (XQ G 1 570 below args s (some (.int r)) σ') 0 0 23 [(0, .ref (G.2.2.1 + 1)), (1, .int p0), (2, .int y2)] [] σ := by
  replace h0 := (show _ = _ from h0)
  unfold s_Main_go_23_b at h0
  refine x_iload_n C d_Main_go_23 2 rfl ?_
  refine x_iload_n C d_Main_go_24 1 rfl ?_
  refine x_icmp_ge C 49 d_Main_go_25 (by decide) (fun q7 => ?_) (fun q7 => ?_)
  · replace h0 := xit q7 h0
    refine x_aload_n C d_Main_go_49 0 rfl ?_
    refine x_getA (y := 39) C fg_Main_79 k_1 rfl d_Main_go_50 ?_
    refine x_getI (y := 0) C fg_Main_227 k_39 rfl d_Main_go_53 ?_
    exact x_iret C hr hk h0 d_Main_go_56
  · replace h0 := xif q7 h0
    refine x_aload_n C d_Main_go_28 0 rfl ?_
    obtain ⟨σ9, k8, h0⟩ := xbind1 h0
    refine x_callVv C hR (c_Main_remember (d := d) (by omega) k8) cw_Main_250 k_1 rfl rfl rfl (Nat.le_of_ble_eq_true rfl) ⟨Nat.zero_le _, Nat.zero_le _⟩ d_Main_go_29 ?_
    refine x_aload_n C d_Main_go_32 0 rfl ?_
    refine x_getA (y := 38) C fg_Main_72 k_1 rfl d_Main_go_33 ?_
    refine x_aload_n C d_Main_go_36 0 rfl ?_
    refine x_getA (y := 39) C fg_Main_79 k_1 rfl d_Main_go_37 ?_
    obtain ⟨σ11, k10, h0⟩ := xbind1 h0
    refine x_callVv C hR (c_Evening_pass (d := d) (by omega) (show 39 ∈ xHalls by decide) k10) cw_Main_261 k_38 rfl rfl rfl (Nat.le_of_ble_eq_true rfl) ⟨Nat.zero_le _, Nat.zero_le _⟩ d_Main_go_40 ?_
    obtain ⟨x12, ex12, h0⟩ := xlet h0
    refine x_iinc (lv' := [(2, .int x12), (0, .ref (G.2.2.1 + 1)), (1, .int p0)]) C d_Main_go_43 2 rfl ex12 (by decide) rfl ?_
    refine x_goto C 23 d_Main_go_46 (by decide) ?_
    exact x_lv C [1, 2, 0] rfl (hrec23 _ _ h0)
theorem b_Main_go_23 {G : XG} {l : Launch} {p : Program} {e : Env} {R : Room} {s : State} {m : MethodId} {args : Array Value} {below : List Frame} {meth : Method} {c : Code} (C : XC G 1 570 p s m args c prog_1_method_23_code 3 R_Main) (hr : meth.sig.returnType = (some .int)) (hk : meth.locks = false) {d : Nat} (hd : 5 ≤ d + 1) (hR : xroom R (d + 1)) {p0 : Int32} {σ' : LH} {r : Int32} : ∀ (n : Nat) (y2 : Int32) (σ : LH), s_Main_go_23 p0 n y2 σ = some (r, σ') → XJ G 1 570 p l e R s m args below meth c 3 (XQ G 1 570 below args s (some (.int r)) σ') 0 0 23 [(0, .ref (G.2.2.1 + 1)), (1, .int p0), (2, .int y2)] [] σ := by
  intro n
  induction n with
  | zero => intro y2 σ h0; cases h0
  | succ n ih => intro y2 σ h0; exact bb_Main_go_23 C hr hk hd hR ih h0
def s_Main_go (p0 : Int32) (σ : LH) : Option (Int32 × LH) :=
  if p0 < 1 then (
   s_Main_go_19 p0 σ)
  else (
   if 60 < p0 then (
    s_Main_go_19 p0 σ)
   else (
    xb2 (s_Main_minutesLeft σ) fun r4 σ5 =>
    if p0 ≤ r4 then (
     s_Main_go_23 p0 FUEL 0 σ5)
    else (
     s_Main_go_19 p0 σ5)))
theorem c_Main_go {G : XG} {l : Launch} {d : Nat} (hd : 5 ≤ d) {p0 : Int32} {σ σ' : LH} {r : Int32} (h0 : s_Main_go p0 σ = some (r, σ')) : xM G 1 570 l y_Main_go prog_1_method_23_code 3 (some .int) d [.ref (G.2.2.1 + 1), .int p0] σ (some (.int r)) σ' := by
  obtain ⟨d, rfl⟩ : ∃ q, d = q + 1 := ⟨d - 1, by omega⟩
  refine x_met R_Main rfl (by decide +kernel) (Nat.le_of_ble_eq_true rfl) fun p e s m below meth c C hr hk hR => ?_
  refine x_lv (lv' := [(0, .ref (G.2.2.1 + 1)), (1, .int p0)]) C [0, 1] rfl ?_
  generalize xrm (d + 1) = R at hR ⊢
  unfold s_Main_go at h0
  refine x_iload_n C d_Main_go_0 1 rfl ?_
  refine x_iconst (v := 1) C d_Main_go_1 (by decide) ?_
  refine x_icmp_lt C 19 d_Main_go_2 (by decide) (fun q1 => ?_) (fun q1 => ?_)
  · replace h0 := xit q1 h0
    exact x_lv C [] rfl (b_Main_go_19 C hr hk hd hR h0)
  · replace h0 := xif q1 h0
    refine x_iload_n C d_Main_go_5 1 rfl ?_
    refine x_bipush (v := 60) C d_Main_go_6 (by decide) ?_
    refine x_icmp_gt C 19 d_Main_go_8 (by decide) (fun q2 => ?_) (fun q2 => ?_)
    · replace h0 := xit q2 h0
      exact x_lv C [] rfl (b_Main_go_19 C hr hk hd hR h0)
    · replace h0 := xif q2 h0
      refine x_iload_n C d_Main_go_11 1 rfl ?_
      refine x_aload_n C d_Main_go_12 0 rfl ?_
      obtain ⟨r4, σ5, k3, h0⟩ := xbind2 h0
      refine x_callVi C hR (c_Main_minutesLeft (d := d) (by omega) k3) cw_Main_247 k_1 rfl rfl rfl (Nat.le_of_ble_eq_true rfl) ⟨Nat.zero_le _, Nat.zero_le _⟩ d_Main_go_13 ?_
      refine x_icmp_le C 21 d_Main_go_16 (by decide) (fun q6 => ?_) (fun q6 => ?_)
      · replace h0 := xit q6 h0
        refine x_iconst (v := 0) C d_Main_go_21 (by decide) ?_
        refine x_istore_n (lv' := [(2, .int 0), (0, .ref (G.2.2.1 + 1)), (1, .int p0)]) C d_Main_go_22 rfl (by decide) rfl ?_
        exact x_lv C [1, 2, 0] rfl (b_Main_go_23 C hr hk hd hR FUEL _ _ h0)
      · replace h0 := xif q6 h0
        exact x_lv C [] rfl (b_Main_go_19 C hr hk hd hR h0)
-- LostPlaces$Evening.seed(J)V
theorem d_Evening_seed_0 : decode prog_3_method_4_code 0 = .ok (.aload_n 0, 1) := by decide +kernel
theorem d_Evening_seed_1 : decode prog_3_method_4_code 1 = .ok (.lload_n 1, 1) := by decide +kernel
theorem d_Evening_seed_2 : decode prog_3_method_4_code 2 = .ok (.putfield 24, 3) := by decide +kernel
theorem d_Evening_seed_5 : decode prog_3_method_4_code 5 = .ok (.return_, 1) := by decide +kernel
def s_Evening_seed (p0 : Int64) (σ : LH) : Option (LH) :=
  xl ((stJ σ 38 6 p0) : LH) fun σ1 =>
  some σ1
theorem c_Evening_seed {G : XG} {l : Launch} {d : Nat} (hd : 1 ≤ d) {p0 : Int64} {σ σ' : LH} (h0 : s_Evening_seed p0 σ = some σ') : xM G 1 570 l y_Evening_seed prog_3_method_4_code 3 none d [.ref (G.2.2.1 + 38), .long (p0)] σ none σ' := by
  obtain ⟨d, rfl⟩ : ∃ q, d = q + 1 := ⟨d - 1, by omega⟩
  refine x_met R_Evening rfl (by decide +kernel) (Nat.le_of_ble_eq_true rfl) fun p e s m below meth c C hr hk hR => ?_
  refine x_lv (lv' := [(0, .ref (G.2.2.1 + 38)), (1, .long (p0))]) C [0, 1] rfl ?_
  generalize xrm (d + 1) = R at hR ⊢
  unfold s_Evening_seed at h0
  refine x_aload_n C d_Evening_seed_0 0 rfl ?_
  refine x_lload_n C d_Evening_seed_1 1 rfl ?_
  refine x_putJ (y := 0) C fp_Evening_24 k_38 rfl d_Evening_seed_2 ?_
  obtain ⟨σ1, eσ1, h0⟩ := xlet h0
  refine x_sig C eσ1 ?_
  exact x_vret C hr hk h0 d_Evening_seed_5
-- LostPlaces$Evening.draw(I)I
theorem d_Evening_draw_0 : decode prog_3_method_5_code 0 = .ok (.aload_n 0, 1) := by decide +kernel
theorem d_Evening_draw_1 : decode prog_3_method_5_code 1 = .ok (.aload_n 0, 1) := by decide +kernel
theorem d_Evening_draw_2 : decode prog_3_method_5_code 2 = .ok (.getfield 24, 3) := by decide +kernel
theorem d_Evening_draw_5 : decode prog_3_method_5_code 5 = .ok (.ldc2_w 36, 3) := by decide +kernel
theorem d_Evening_draw_8 : decode prog_3_method_5_code 8 = .ok (.lmul, 1) := by decide +kernel
theorem d_Evening_draw_9 : decode prog_3_method_5_code 9 = .ok (.ldc2_w 38, 3) := by decide +kernel
theorem d_Evening_draw_12 : decode prog_3_method_5_code 12 = .ok (.ladd, 1) := by decide +kernel
theorem d_Evening_draw_13 : decode prog_3_method_5_code 13 = .ok (.putfield 24, 3) := by decide +kernel
theorem d_Evening_draw_16 : decode prog_3_method_5_code 16 = .ok (.iload_n 1, 1) := by decide +kernel
theorem d_Evening_draw_17 : decode prog_3_method_5_code 17 = .ok (.ifCond .le 17, 3) := by decide +kernel
theorem d_Evening_draw_20 : decode prog_3_method_5_code 20 = .ok (.aload_n 0, 1) := by decide +kernel
theorem d_Evening_draw_21 : decode prog_3_method_5_code 21 = .ok (.getfield 24, 3) := by decide +kernel
theorem d_Evening_draw_24 : decode prog_3_method_5_code 24 = .ok (.bipush 33, 2) := by decide +kernel
theorem d_Evening_draw_26 : decode prog_3_method_5_code 26 = .ok (.lushr, 1) := by decide +kernel
theorem d_Evening_draw_27 : decode prog_3_method_5_code 27 = .ok (.iload_n 1, 1) := by decide +kernel
theorem d_Evening_draw_28 : decode prog_3_method_5_code 28 = .ok (.i2l, 1) := by decide +kernel
theorem d_Evening_draw_29 : decode prog_3_method_5_code 29 = .ok (.lrem, 1) := by decide +kernel
theorem d_Evening_draw_30 : decode prog_3_method_5_code 30 = .ok (.l2i, 1) := by decide +kernel
theorem d_Evening_draw_31 : decode prog_3_method_5_code 31 = .ok (.goto 4, 3) := by decide +kernel
theorem d_Evening_draw_34 : decode prog_3_method_5_code 34 = .ok (.iconst 0, 1) := by decide +kernel
theorem d_Evening_draw_35 : decode prog_3_method_5_code 35 = .ok (.ireturn, 1) := by decide +kernel
def s_Evening_draw_35 (p0 : Int32) (z0 : Int32) (σ : LH) : Option (Int32 × LH) :=
  some (z0, σ)
theorem b_Evening_draw_35 {G : XG} {l : Launch} {p : Program} {e : Env} {R : Room} {s : State} {m : MethodId} {args : Array Value} {below : List Frame} {meth : Method} {c : Code} (C : XC G 1 570 p s m args c prog_3_method_5_code 2 R_Evening) (hr : meth.sig.returnType = (some .int)) (hk : meth.locks = false) {d : Nat} (hd : 1 ≤ d + 1) (hR : xroom R (d + 1)) {p0 : Int32} {σ' : LH} {r : Int32} {z0 : Int32} {σ : LH} (h0 : s_Evening_draw_35 p0 z0 σ = some (r, σ')) : XJ G 1 570 p l e R s m args below meth c 2 (XQ G 1 570 below args s (some (.int r)) σ') 0 0 35 [] [.int z0] σ := by
  replace h0 := (show _ = _ from h0)
  unfold s_Evening_draw_35 at h0
  exact x_iret C hr hk h0 d_Evening_draw_35
def s_Evening_draw (p0 : Int32) (σ : LH) : Option (Int32 × LH) :=
  xl ((stJ σ 38 6 (((σ.2.1 38 6) * 6364136223846793005) + 1442695040888963407)) : LH) fun σ1 =>
  if p0 ≤ 0 then (
   s_Evening_draw_35 p0 0 σ1)
  else (
   if ¬ (Int32.toInt64 p0) = 0 then (
   s_Evening_draw_35 p0 (Int64.toInt32 (((Int64.toUInt64 (σ1.2.1 38 6)) >>> ((Int32.toInt64 33).toUInt64 &&& Int64.toUInt64 63)).toInt64 - ((Int64.toUInt64 (σ1.2.1 38 6)) >>> ((Int32.toInt64 33).toUInt64 &&& Int64.toUInt64 63)).toInt64 / (Int32.toInt64 p0) * (Int32.toInt64 p0))) σ1) else none)
theorem c_Evening_draw {G : XG} {l : Launch} {d : Nat} (hd : 1 ≤ d) {p0 : Int32} {σ σ' : LH} {r : Int32} (h0 : s_Evening_draw p0 σ = some (r, σ')) : xM G 1 570 l y_Evening_draw prog_3_method_5_code 2 (some .int) d [.ref (G.2.2.1 + 38), .int p0] σ (some (.int r)) σ' := by
  obtain ⟨d, rfl⟩ : ∃ q, d = q + 1 := ⟨d - 1, by omega⟩
  refine x_met R_Evening rfl (by decide +kernel) (Nat.le_of_ble_eq_true rfl) fun p e s m below meth c C hr hk hR => ?_
  refine x_lv (lv' := [(0, .ref (G.2.2.1 + 38)), (1, .int p0)]) C [0, 1] rfl ?_
  generalize xrm (d + 1) = R at hR ⊢
  unfold s_Evening_draw at h0
  refine x_aload_n C d_Evening_draw_0 0 rfl ?_
  refine x_aload_n C d_Evening_draw_1 0 rfl ?_
  refine x_getJ (y := 0) C fg_Evening_24 k_38 rfl d_Evening_draw_2 ?_
  refine x_ldc2 (v := 6364136223846793005) C w_1117 d_Evening_draw_5 ?_
  refine x_lmul C d_Evening_draw_8 ?_
  refine x_ldc2 (v := 1442695040888963407) C w_1118 d_Evening_draw_9 ?_
  refine x_ladd C d_Evening_draw_12 ?_
  refine x_putJ (y := 0) C fp_Evening_24 k_38 rfl d_Evening_draw_13 ?_
  obtain ⟨σ1, eσ1, h0⟩ := xlet h0
  refine x_sig C eσ1 ?_
  refine x_iload_n C d_Evening_draw_16 1 rfl ?_
  refine x_if_le C 34 d_Evening_draw_17 (by decide) (fun q2 => ?_) (fun q2 => ?_)
  · replace h0 := xit q2 h0
    refine x_iconst (v := 0) C d_Evening_draw_34 (by decide) ?_
    exact x_lv C [] rfl (b_Evening_draw_35 C hr hk hd hR h0)
  · replace h0 := xif q2 h0
    refine x_aload_n C d_Evening_draw_20 0 rfl ?_
    refine x_getJ (y := 0) C fg_Evening_24 k_38 rfl d_Evening_draw_21 ?_
    refine x_bipush (v := 33) C d_Evening_draw_24 (by decide) ?_
    refine x_lushr C d_Evening_draw_26 ?_
    refine x_iload_n C d_Evening_draw_27 1 rfl ?_
    refine x_i2l C d_Evening_draw_28 ?_
    obtain ⟨g3, h0⟩ := xgo h0
    refine x_lrem C d_Evening_draw_29 g3 ?_
    refine x_l2i C d_Evening_draw_30 ?_
    refine x_goto C 35 d_Evening_draw_31 (by decide) ?_
    exact x_lv C [] rfl (b_Evening_draw_35 C hr hk hd hR h0)
-- LostPlaces$Evening.stir(LLostPlaces$Hall;I)V
theorem d_Evening_stir_0 : decode prog_3_method_6_code 0 = .ok (.iconst 0, 1) := by decide +kernel
theorem d_Evening_stir_1 : decode prog_3_method_6_code 1 = .ok (.istore_n 3, 1) := by decide +kernel
theorem d_Evening_stir_2 : decode prog_3_method_6_code 2 = .ok (.iload_n 3, 1) := by decide +kernel
theorem d_Evening_stir_3 : decode prog_3_method_6_code 3 = .ok (.aload_n 0, 1) := by decide +kernel
theorem d_Evening_stir_4 : decode prog_3_method_6_code 4 = .ok (.getfield 28, 3) := by decide +kernel
theorem d_Evening_stir_7 : decode prog_3_method_6_code 7 = .ok (.getfield 40, 3) := by decide +kernel
theorem d_Evening_stir_10 : decode prog_3_method_6_code 10 = .ok (.if_icmp .ge 43, 3) := by decide +kernel
theorem d_Evening_stir_13 : decode prog_3_method_6_code 13 = .ok (.aload_n 1, 1) := by decide +kernel
theorem d_Evening_stir_14 : decode prog_3_method_6_code 14 = .ok (.getfield 45, 3) := by decide +kernel
theorem d_Evening_stir_17 : decode prog_3_method_6_code 17 = .ok (.iload_n 3, 1) := by decide +kernel
theorem d_Evening_stir_18 : decode prog_3_method_6_code 18 = .ok (.iaload, 1) := by decide +kernel
theorem d_Evening_stir_19 : decode prog_3_method_6_code 19 = .ok (.bipush (-2), 2) := by decide +kernel
theorem d_Evening_stir_21 : decode prog_3_method_6_code 21 = .ok (.if_icmp .eq 26, 3) := by decide +kernel
theorem d_Evening_stir_24 : decode prog_3_method_6_code 24 = .ok (.aload_n 0, 1) := by decide +kernel
theorem d_Evening_stir_25 : decode prog_3_method_6_code 25 = .ok (.bipush 100, 2) := by decide +kernel
theorem d_Evening_stir_27 : decode prog_3_method_6_code 27 = .ok (.invokevirtual 51, 3) := by decide +kernel
theorem d_Evening_stir_30 : decode prog_3_method_6_code 30 = .ok (.iload_n 2, 1) := by decide +kernel
theorem d_Evening_stir_31 : decode prog_3_method_6_code 31 = .ok (.if_icmp .ge 16, 3) := by decide +kernel
theorem d_Evening_stir_34 : decode prog_3_method_6_code 34 = .ok (.aload_n 1, 1) := by decide +kernel
theorem d_Evening_stir_35 : decode prog_3_method_6_code 35 = .ok (.iload_n 3, 1) := by decide +kernel
theorem d_Evening_stir_36 : decode prog_3_method_6_code 36 = .ok (.iconst 1, 1) := by decide +kernel
theorem d_Evening_stir_37 : decode prog_3_method_6_code 37 = .ok (.aload_n 0, 1) := by decide +kernel
theorem d_Evening_stir_38 : decode prog_3_method_6_code 38 = .ok (.iconst 3, 1) := by decide +kernel
theorem d_Evening_stir_39 : decode prog_3_method_6_code 39 = .ok (.invokevirtual 51, 3) := by decide +kernel
theorem d_Evening_stir_42 : decode prog_3_method_6_code 42 = .ok (.iadd, 1) := by decide +kernel
theorem d_Evening_stir_43 : decode prog_3_method_6_code 43 = .ok (.iconst 1, 1) := by decide +kernel
theorem d_Evening_stir_44 : decode prog_3_method_6_code 44 = .ok (.invokevirtual 55, 3) := by decide +kernel
theorem d_Evening_stir_47 : decode prog_3_method_6_code 47 = .ok (.iinc 3 1, 3) := by decide +kernel
theorem d_Evening_stir_50 : decode prog_3_method_6_code 50 = .ok (.goto (-48), 3) := by decide +kernel
theorem d_Evening_stir_53 : decode prog_3_method_6_code 53 = .ok (.return_, 1) := by decide +kernel
def s_Evening_stir_47 (p0 : Nat) (p1 : Int32) (rec2 : Int32 → LH → Option (LH)) (y3 : Int32) (σ : LH) : Option (LH) :=
  xl ((y3 + 1) : Int32) fun x4 =>
  rec2 x4 σ
theorem b_Evening_stir_47 {G : XG} {l : Launch} {p : Program} {e : Env} {R : Room} {s : State} {m : MethodId} {args : Array Value} {below : List Frame} {meth : Method} {c : Code} (C : XC G 1 570 p s m args c prog_3_method_6_code 4 R_Evening) (hr : meth.sig.returnType = none) (hk : meth.locks = false) {d : Nat} (hd : 3 ≤ d + 1) (hR : xroom R (d + 1)) {p0 : Nat} {p1 : Int32} (hp0 : p0 ∈ xHalls) {rec2 : Int32 → LH → Option (LH)} {σ' : LH} (hrec2 : ∀ (y3 : Int32) (σ : LH), rec2 y3 σ = some σ' → XJ G 1 570 p l e R s m args below meth c 4 (XQ G 1 570 below args s none σ') 0 0 2 [(0, .ref (G.2.2.1 + 38)), (1, .ref (G.2.2.1 + p0)), (2, .int p1), (3, .int y3)] [] σ) {y3 : Int32} {σ : LH} (h0 : s_Evening_stir_47 p0 p1 rec2 y3 σ = some σ') : XJ G 1 570 p l e R s m args below meth c 4 (XQ G 1 570 below args s none σ') 0 0 47 [(0, .ref (G.2.2.1 + 38)), (1, .ref (G.2.2.1 + p0)), (2, .int p1), (3, .int y3)] [] σ := by
  replace h0 := (show _ = _ from h0)
  unfold s_Evening_stir_47 at h0
  obtain ⟨x4, ex4, h0⟩ := xlet h0
  refine x_iinc (lv' := [(3, .int x4), (0, .ref (G.2.2.1 + 38)), (1, .ref (G.2.2.1 + p0)), (2, .int p1)]) C d_Evening_stir_47 3 rfl ex4 (by decide) rfl ?_
  refine x_goto C 2 d_Evening_stir_50 (by decide) ?_
  exact x_lv C [1, 2, 3, 0] rfl (hrec2 _ _ h0)
def s_Evening_stir_2_b (p0 : Nat) (p1 : Int32) (rec2 : Int32 → LH → Option (LH)) (y3 : Int32) (σ : LH) : Option (LH) :=
  if (σ.1 4 1) ≤ y3 then (
   some σ)
  else (
   if ib y3 8 then (
   if (σ.1 (p0 + 1) (Int32.toNatClampNeg y3)) = (-2) then (
    s_Evening_stir_47 p0 p1 rec2 y3 σ)
   else (
    xb2 (s_Evening_draw 100 σ) fun r6 σ7 =>
    if p1 ≤ r6 then (
     s_Evening_stir_47 p0 p1 rec2 y3 σ7)
    else (
     xb2 (s_Evening_draw 3 σ7) fun r10 σ11 =>
     xb1 (s_Hall_getUp p0 y3 (1 + r10) 1 σ11) fun σ13 =>
     s_Evening_stir_47 p0 p1 rec2 y3 σ13))) else none)
def s_Evening_stir_2 (p0 : Nat) (p1 : Int32) : Nat → Int32 → LH → Option (LH)
  | 0, _, _ => none
  | n + 1, y3, σ => s_Evening_stir_2_b p0 p1 (s_Evening_stir_2 p0 p1 n) y3 σ
theorem bb_Evening_stir_2 {G : XG} {l : Launch} {p : Program} {e : Env} {R : Room} {s : State} {m : MethodId} {args : Array Value} {below : List Frame} {meth : Method} {c : Code} (C : XC G 1 570 p s m args c prog_3_method_6_code 4 R_Evening) (hr : meth.sig.returnType = none) (hk : meth.locks = false) {d : Nat} (hd : 3 ≤ d + 1) (hR : xroom R (d + 1)) {p0 : Nat} {p1 : Int32} (hp0 : p0 ∈ xHalls) {rec2 : Int32 → LH → Option (LH)} {σ' : LH} (hrec2 : ∀ (y3 : Int32) (σ : LH), rec2 y3 σ = some σ' → XJ G 1 570 p l e R s m args below meth c 4 (XQ G 1 570 below args s none σ') 0 0 2 [(0, .ref (G.2.2.1 + 38)), (1, .ref (G.2.2.1 + p0)), (2, .int p1), (3, .int y3)] [] σ) {y3 : Int32} {σ : LH} (h0 : s_Evening_stir_2_b p0 p1 rec2 y3 σ = some σ') : XJ G 1 570 p l e R s m args below meth c 4 (XQ G 1 570 below args s none σ') 0 0 2 [(0, .ref (G.2.2.1 + 38)), (1, .ref (G.2.2.1 + p0)), (2, .int p1), (3, .int y3)] [] σ := by
  replace h0 := (show _ = _ from h0)
  unfold s_Evening_stir_2_b at h0
  refine x_iload_n C d_Evening_stir_2 3 rfl ?_
  refine x_aload_n C d_Evening_stir_3 0 rfl ?_
  refine x_getA (y := 4) C fg_Evening_28 k_38 rfl d_Evening_stir_4 ?_
  refine x_getI (y := 0) C fg_Evening_40 k_4 rfl d_Evening_stir_7 ?_
  refine x_icmp_ge C 53 d_Evening_stir_10 (by decide) (fun q1 => ?_) (fun q1 => ?_)
  · replace h0 := xit q1 h0
    exact x_vret C hr hk h0 d_Evening_stir_53
  · replace h0 := xif q1 h0
    refine x_aload_n C d_Evening_stir_13 1 rfl ?_
    refine x_getR (y := 1) C fg_Evening_45 (hl_0 hp0) rfl d_Evening_stir_14 ?_
    refine x_iload_n C d_Evening_stir_17 3 rfl ?_
    obtain ⟨g2, h0⟩ := xgo h0
    refine x_iald C (hl_1 hp0) (ib_in g2) d_Evening_stir_18 ?_
    refine x_bipush (v := (-2)) C d_Evening_stir_19 (by decide) ?_
    refine x_icmp_eq C 47 d_Evening_stir_21 (by decide) (fun q3 => ?_) (fun q3 => ?_)
    · replace h0 := xit q3 h0
      exact x_lv C [0, 1, 2, 3] rfl (b_Evening_stir_47 C hr hk hd hR hp0 hrec2 h0)
    · replace h0 := xif q3 h0
      refine x_aload_n C d_Evening_stir_24 0 rfl ?_
      refine x_bipush (v := 100) C d_Evening_stir_25 (by decide) ?_
      obtain ⟨r6, σ7, k5, h0⟩ := xbind2 h0
      refine x_callVi C hR (c_Evening_draw (d := d) (by omega) k5) cw_Evening_51 k_38 rfl rfl rfl (Nat.le_of_ble_eq_true rfl) ⟨Nat.zero_le _, Nat.zero_le _⟩ d_Evening_stir_27 ?_
      refine x_iload_n C d_Evening_stir_30 2 rfl ?_
      refine x_icmp_ge C 47 d_Evening_stir_31 (by decide) (fun q8 => ?_) (fun q8 => ?_)
      · replace h0 := xit q8 h0
        exact x_lv C [0, 1, 2, 3] rfl (b_Evening_stir_47 C hr hk hd hR hp0 hrec2 h0)
      · replace h0 := xif q8 h0
        refine x_aload_n C d_Evening_stir_34 1 rfl ?_
        refine x_iload_n C d_Evening_stir_35 3 rfl ?_
        refine x_iconst (v := 1) C d_Evening_stir_36 (by decide) ?_
        refine x_aload_n C d_Evening_stir_37 0 rfl ?_
        refine x_iconst (v := 3) C d_Evening_stir_38 (by decide) ?_
        obtain ⟨r10, σ11, k9, h0⟩ := xbind2 h0
        refine x_callVi C hR (c_Evening_draw (d := d) (by omega) k9) cw_Evening_51 k_38 rfl rfl rfl (Nat.le_of_ble_eq_true rfl) ⟨Nat.zero_le _, Nat.zero_le _⟩ d_Evening_stir_39 ?_
        refine x_iadd C d_Evening_stir_42 ?_
        refine x_iconst (v := 1) C d_Evening_stir_43 (by decide) ?_
        obtain ⟨σ13, k12, h0⟩ := xbind1 h0
        refine x_callVv C hR (c_Hall_getUp (d := d) (by omega) hp0 k12) cw_Evening_55 (hl_0 hp0) rfl rfl rfl (Nat.le_of_ble_eq_true rfl) ⟨Nat.zero_le _, Nat.zero_le _⟩ d_Evening_stir_44 ?_
        exact x_lv C [0, 1, 2, 3] rfl (b_Evening_stir_47 C hr hk hd hR hp0 hrec2 h0)
theorem b_Evening_stir_2 {G : XG} {l : Launch} {p : Program} {e : Env} {R : Room} {s : State} {m : MethodId} {args : Array Value} {below : List Frame} {meth : Method} {c : Code} (C : XC G 1 570 p s m args c prog_3_method_6_code 4 R_Evening) (hr : meth.sig.returnType = none) (hk : meth.locks = false) {d : Nat} (hd : 3 ≤ d + 1) (hR : xroom R (d + 1)) {p0 : Nat} {p1 : Int32} (hp0 : p0 ∈ xHalls) {σ' : LH} : ∀ (n : Nat) (y3 : Int32) (σ : LH), s_Evening_stir_2 p0 p1 n y3 σ = some σ' → XJ G 1 570 p l e R s m args below meth c 4 (XQ G 1 570 below args s none σ') 0 0 2 [(0, .ref (G.2.2.1 + 38)), (1, .ref (G.2.2.1 + p0)), (2, .int p1), (3, .int y3)] [] σ := by
  intro n
  induction n with
  | zero => intro y3 σ h0; cases h0
  | succ n ih => intro y3 σ h0; exact bb_Evening_stir_2 C hr hk hd hR hp0 ih h0
def s_Evening_stir (p0 : Nat) (p1 : Int32) (σ : LH) : Option (LH) :=
  s_Evening_stir_2 p0 p1 FUEL 0 σ
theorem c_Evening_stir {G : XG} {l : Launch} {d : Nat} (hd : 3 ≤ d) {p0 : Nat} {p1 : Int32} (hp0 : p0 ∈ xHalls) {σ σ' : LH} (h0 : s_Evening_stir p0 p1 σ = some σ') : xM G 1 570 l y_Evening_stir prog_3_method_6_code 4 none d [.ref (G.2.2.1 + 38), .ref (G.2.2.1 + p0), .int p1] σ none σ' := by
  obtain ⟨d, rfl⟩ : ∃ q, d = q + 1 := ⟨d - 1, by omega⟩
  refine x_met R_Evening rfl (by decide +kernel) (Nat.le_of_ble_eq_true rfl) fun p e s m below meth c C hr hk hR => ?_
  refine x_lv (lv' := [(0, .ref (G.2.2.1 + 38)), (1, .ref (G.2.2.1 + p0)), (2, .int p1)]) C [0, 1, 2] rfl ?_
  generalize xrm (d + 1) = R at hR ⊢
  unfold s_Evening_stir at h0
  refine x_iconst (v := 0) C d_Evening_stir_0 (by decide) ?_
  refine x_istore_n (lv' := [(3, .int 0), (0, .ref (G.2.2.1 + 38)), (1, .ref (G.2.2.1 + p0)), (2, .int p1)]) C d_Evening_stir_1 rfl (by decide) rfl ?_
  exact x_lv C [1, 2, 3, 0] rfl (b_Evening_stir_2 C hr hk hd hR hp0 FUEL _ _ h0)
-- LostPlaces.winter(IJ)I
theorem d_Main_winter_0 : decode prog_1_method_24_code 0 = .ok (.iload_n 1, 1) := by decide +kernel
theorem d_Main_winter_1 : decode prog_1_method_24_code 1 = .ok (.iconst 1, 1) := by decide +kernel
theorem d_Main_winter_2 : decode prog_1_method_24_code 2 = .ok (.if_icmp .lt 17, 3) := by decide +kernel
theorem d_Main_winter_5 : decode prog_1_method_24_code 5 = .ok (.iload_n 1, 1) := by decide +kernel
theorem d_Main_winter_6 : decode prog_1_method_24_code 6 = .ok (.bipush 60, 2) := by decide +kernel
theorem d_Main_winter_8 : decode prog_1_method_24_code 8 = .ok (.if_icmp .gt 11, 3) := by decide +kernel
theorem d_Main_winter_11 : decode prog_1_method_24_code 11 = .ok (.iload_n 1, 1) := by decide +kernel
theorem d_Main_winter_12 : decode prog_1_method_24_code 12 = .ok (.aload_n 0, 1) := by decide +kernel
theorem d_Main_winter_13 : decode prog_1_method_24_code 13 = .ok (.invokevirtual 247, 3) := by decide +kernel
theorem d_Main_winter_16 : decode prog_1_method_24_code 16 = .ok (.if_icmp .le 5, 3) := by decide +kernel
theorem d_Main_winter_19 : decode prog_1_method_24_code 19 = .ok (.iconst (-1), 1) := by decide +kernel
theorem d_Main_winter_20 : decode prog_1_method_24_code 20 = .ok (.ireturn, 1) := by decide +kernel
theorem d_Main_winter_21 : decode prog_1_method_24_code 21 = .ok (.aload_n 0, 1) := by decide +kernel
theorem d_Main_winter_22 : decode prog_1_method_24_code 22 = .ok (.getfield 72, 3) := by decide +kernel
theorem d_Main_winter_25 : decode prog_1_method_24_code 25 = .ok (.lload_n 2, 1) := by decide +kernel
theorem d_Main_winter_26 : decode prog_1_method_24_code 26 = .ok (.invokevirtual 265, 3) := by decide +kernel
theorem d_Main_winter_29 : decode prog_1_method_24_code 29 = .ok (.iconst 0, 1) := by decide +kernel
theorem d_Main_winter_30 : decode prog_1_method_24_code 30 = .ok (.istore 4, 2) := by decide +kernel
theorem d_Main_winter_32 : decode prog_1_method_24_code 32 = .ok (.iload 4, 2) := by decide +kernel
theorem d_Main_winter_34 : decode prog_1_method_24_code 34 = .ok (.iload_n 1, 1) := by decide +kernel
theorem d_Main_winter_35 : decode prog_1_method_24_code 35 = .ok (.if_icmp .ge 39, 3) := by decide +kernel
theorem d_Main_winter_38 : decode prog_1_method_24_code 38 = .ok (.aload_n 0, 1) := by decide +kernel
theorem d_Main_winter_39 : decode prog_1_method_24_code 39 = .ok (.invokevirtual 250, 3) := by decide +kernel
theorem d_Main_winter_42 : decode prog_1_method_24_code 42 = .ok (.aload_n 0, 1) := by decide +kernel
theorem d_Main_winter_43 : decode prog_1_method_24_code 43 = .ok (.getfield 72, 3) := by decide +kernel
theorem d_Main_winter_46 : decode prog_1_method_24_code 46 = .ok (.aload_n 0, 1) := by decide +kernel
theorem d_Main_winter_47 : decode prog_1_method_24_code 47 = .ok (.getfield 79, 3) := by decide +kernel
theorem d_Main_winter_50 : decode prog_1_method_24_code 50 = .ok (.aload_n 0, 1) := by decide +kernel
theorem d_Main_winter_51 : decode prog_1_method_24_code 51 = .ok (.getfield 55, 3) := by decide +kernel
theorem d_Main_winter_54 : decode prog_1_method_24_code 54 = .ok (.invokevirtual 269, 3) := by decide +kernel
theorem d_Main_winter_57 : decode prog_1_method_24_code 57 = .ok (.aload_n 0, 1) := by decide +kernel
theorem d_Main_winter_58 : decode prog_1_method_24_code 58 = .ok (.getfield 72, 3) := by decide +kernel
theorem d_Main_winter_61 : decode prog_1_method_24_code 61 = .ok (.aload_n 0, 1) := by decide +kernel
theorem d_Main_winter_62 : decode prog_1_method_24_code 62 = .ok (.getfield 79, 3) := by decide +kernel
theorem d_Main_winter_65 : decode prog_1_method_24_code 65 = .ok (.invokevirtual 261, 3) := by decide +kernel
theorem d_Main_winter_68 : decode prog_1_method_24_code 68 = .ok (.iinc 4 1, 3) := by decide +kernel
theorem d_Main_winter_71 : decode prog_1_method_24_code 71 = .ok (.goto (-39), 3) := by decide +kernel
theorem d_Main_winter_74 : decode prog_1_method_24_code 74 = .ok (.aload_n 0, 1) := by decide +kernel
theorem d_Main_winter_75 : decode prog_1_method_24_code 75 = .ok (.getfield 79, 3) := by decide +kernel
theorem d_Main_winter_78 : decode prog_1_method_24_code 78 = .ok (.getfield 227, 3) := by decide +kernel
theorem d_Main_winter_81 : decode prog_1_method_24_code 81 = .ok (.ireturn, 1) := by decide +kernel
def s_Main_winter_19 (p0 : Int32) (p1 : Int64) (σ : LH) : Option (Int32 × LH) :=
  some ((-1), σ)
theorem b_Main_winter_19 {G : XG} {l : Launch} {p : Program} {e : Env} {R : Room} {s : State} {m : MethodId} {args : Array Value} {below : List Frame} {meth : Method} {c : Code} (C : XC G 1 570 p s m args c prog_1_method_24_code 5 R_Main) (hr : meth.sig.returnType = (some .int)) (hk : meth.locks = false) {d : Nat} (hd : 5 ≤ d + 1) (hR : xroom R (d + 1)) {p0 : Int32} {p1 : Int64} {σ' : LH} {r : Int32} {σ : LH} (h0 : s_Main_winter_19 p0 p1 σ = some (r, σ')) : XJ G 1 570 p l e R s m args below meth c 5 (XQ G 1 570 below args s (some (.int r)) σ') 0 0 19 [] [] σ := by
  replace h0 := (show _ = _ from h0)
  unfold s_Main_winter_19 at h0
  refine x_iconst (v := (-1)) C d_Main_winter_19 (by decide) ?_
  exact x_iret C hr hk h0 d_Main_winter_20
def s_Main_winter_32_b (p0 : Int32) (p1 : Int64) (rec32 : Int32 → LH → Option (Int32 × LH)) (y4 : Int32) (σ : LH) : Option (Int32 × LH) :=
  if p0 ≤ y4 then (
   some ((σ.1 39 7), σ))
  else (
   xb1 (s_Main_remember σ) fun σ11 =>
   xb1 (s_Evening_stir 39 (σ11.1 1 8) σ11) fun σ13 =>
   xb1 (s_Evening_pass 39 σ13) fun σ15 =>
   xl ((y4 + 1) : Int32) fun x16 =>
   rec32 x16 σ15)
def s_Main_winter_32 (p0 : Int32) (p1 : Int64) : Nat → Int32 → LH → Option (Int32 × LH)
  | 0, _, _ => none
  | n + 1, y4, σ => s_Main_winter_32_b p0 p1 (s_Main_winter_32 p0 p1 n) y4 σ
theorem bb_Main_winter_32 {G : XG} {l : Launch} {p : Program} {e : Env} {R : Room} {s : State} {m : MethodId} {args : Array Value} {below : List Frame} {meth : Method} {c : Code} (C : XC G 1 570 p s m args c prog_1_method_24_code 5 R_Main) (hr : meth.sig.returnType = (some .int)) (hk : meth.locks = false) {d : Nat} (hd : 5 ≤ d + 1) (hR : xroom R (d + 1)) {p0 : Int32} {p1 : Int64} {rec32 : Int32 → LH → Option (Int32 × LH)} {σ' : LH} {r : Int32} (hrec32 : ∀ (y4 : Int32) (σ : LH), rec32 y4 σ = some (r, σ') → XJ G 1 570 p l e R s m args below meth c 5 (XQ G 1 570 below args s (some (.int r)) σ') 0 0 32 [(0, .ref (G.2.2.1 + 1)), (1, .int p0), (4, .int y4)] [] σ) {y4 : Int32} {σ : LH} (h0 : s_Main_winter_32_b p0 p1 rec32 y4 σ = some (r, σ')) : XJ G 1 570 p l e R s m args below meth c 5 (XQ G 1 570 below args s (some (.int r)) σ') 0 0 32 [(0, .ref (G.2.2.1 + 1)), (1, .int p0), (4, .int y4)] [] σ := by
  replace h0 := (show _ = _ from h0)
  unfold s_Main_winter_32_b at h0
  refine x_iload C d_Main_winter_32 2 rfl ?_
  refine x_iload_n C d_Main_winter_34 1 rfl ?_
  refine x_icmp_ge C 74 d_Main_winter_35 (by decide) (fun q9 => ?_) (fun q9 => ?_)
  · replace h0 := xit q9 h0
    refine x_aload_n C d_Main_winter_74 0 rfl ?_
    refine x_getA (y := 39) C fg_Main_79 k_1 rfl d_Main_winter_75 ?_
    refine x_getI (y := 0) C fg_Main_227 k_39 rfl d_Main_winter_78 ?_
    exact x_iret C hr hk h0 d_Main_winter_81
  · replace h0 := xif q9 h0
    refine x_aload_n C d_Main_winter_38 0 rfl ?_
    obtain ⟨σ11, k10, h0⟩ := xbind1 h0
    refine x_callVv C hR (c_Main_remember (d := d) (by omega) k10) cw_Main_250 k_1 rfl rfl rfl (Nat.le_of_ble_eq_true rfl) ⟨Nat.zero_le _, Nat.zero_le _⟩ d_Main_winter_39 ?_
    refine x_aload_n C d_Main_winter_42 0 rfl ?_
    refine x_getA (y := 38) C fg_Main_72 k_1 rfl d_Main_winter_43 ?_
    refine x_aload_n C d_Main_winter_46 0 rfl ?_
    refine x_getA (y := 39) C fg_Main_79 k_1 rfl d_Main_winter_47 ?_
    refine x_aload_n C d_Main_winter_50 0 rfl ?_
    refine x_getI (y := 0) C fg_Main_55 k_1 rfl d_Main_winter_51 ?_
    obtain ⟨σ13, k12, h0⟩ := xbind1 h0
    refine x_callVv C hR (c_Evening_stir (d := d) (by omega) (show 39 ∈ xHalls by decide) k12) cw_Main_269 k_38 rfl rfl rfl (Nat.le_of_ble_eq_true rfl) ⟨Nat.zero_le _, Nat.zero_le _⟩ d_Main_winter_54 ?_
    refine x_aload_n C d_Main_winter_57 0 rfl ?_
    refine x_getA (y := 38) C fg_Main_72 k_1 rfl d_Main_winter_58 ?_
    refine x_aload_n C d_Main_winter_61 0 rfl ?_
    refine x_getA (y := 39) C fg_Main_79 k_1 rfl d_Main_winter_62 ?_
    obtain ⟨σ15, k14, h0⟩ := xbind1 h0
    refine x_callVv C hR (c_Evening_pass (d := d) (by omega) (show 39 ∈ xHalls by decide) k14) cw_Main_261 k_38 rfl rfl rfl (Nat.le_of_ble_eq_true rfl) ⟨Nat.zero_le _, Nat.zero_le _⟩ d_Main_winter_65 ?_
    obtain ⟨x16, ex16, h0⟩ := xlet h0
    refine x_iinc (lv' := [(4, .int x16), (0, .ref (G.2.2.1 + 1)), (1, .int p0)]) C d_Main_winter_68 2 rfl ex16 (by decide) rfl ?_
    refine x_goto C 32 d_Main_winter_71 (by decide) ?_
    exact x_lv C [1, 2, 0] rfl (hrec32 _ _ h0)
theorem b_Main_winter_32 {G : XG} {l : Launch} {p : Program} {e : Env} {R : Room} {s : State} {m : MethodId} {args : Array Value} {below : List Frame} {meth : Method} {c : Code} (C : XC G 1 570 p s m args c prog_1_method_24_code 5 R_Main) (hr : meth.sig.returnType = (some .int)) (hk : meth.locks = false) {d : Nat} (hd : 5 ≤ d + 1) (hR : xroom R (d + 1)) {p0 : Int32} {p1 : Int64} {σ' : LH} {r : Int32} : ∀ (n : Nat) (y4 : Int32) (σ : LH), s_Main_winter_32 p0 p1 n y4 σ = some (r, σ') → XJ G 1 570 p l e R s m args below meth c 5 (XQ G 1 570 below args s (some (.int r)) σ') 0 0 32 [(0, .ref (G.2.2.1 + 1)), (1, .int p0), (4, .int y4)] [] σ := by
  intro n
  induction n with
  | zero => intro y4 σ h0; cases h0
  | succ n ih => intro y4 σ h0; exact bb_Main_winter_32 C hr hk hd hR ih h0
def s_Main_winter (p0 : Int32) (p1 : Int64) (σ : LH) : Option (Int32 × LH) :=
  if p0 < 1 then (
   s_Main_winter_19 p0 p1 σ)
  else (
   if 60 < p0 then (
    s_Main_winter_19 p0 p1 σ)
   else (
    xb2 (s_Main_minutesLeft σ) fun r4 σ5 =>
    if p0 ≤ r4 then (
     xb1 (s_Evening_seed p1 σ5) fun σ8 =>
     s_Main_winter_32 p0 p1 FUEL 0 σ8)
    else (
     s_Main_winter_19 p0 p1 σ5)))
theorem c_Main_winter {G : XG} {l : Launch} {d : Nat} (hd : 5 ≤ d) {p0 : Int32} {p1 : Int64} {σ σ' : LH} {r : Int32} (h0 : s_Main_winter p0 p1 σ = some (r, σ')) : xM G 1 570 l y_Main_winter prog_1_method_24_code 5 (some .int) d [.ref (G.2.2.1 + 1), .int p0, .long (p1)] σ (some (.int r)) σ' := by
  obtain ⟨d, rfl⟩ : ∃ q, d = q + 1 := ⟨d - 1, by omega⟩
  refine x_met R_Main rfl (by decide +kernel) (Nat.le_of_ble_eq_true rfl) fun p e s m below meth c C hr hk hR => ?_
  refine x_lv (lv' := [(0, .ref (G.2.2.1 + 1)), (1, .int p0), (2, .long (p1))]) C [0, 1, 2] rfl ?_
  generalize xrm (d + 1) = R at hR ⊢
  unfold s_Main_winter at h0
  refine x_iload_n C d_Main_winter_0 1 rfl ?_
  refine x_iconst (v := 1) C d_Main_winter_1 (by decide) ?_
  refine x_icmp_lt C 19 d_Main_winter_2 (by decide) (fun q1 => ?_) (fun q1 => ?_)
  · replace h0 := xit q1 h0
    exact x_lv C [] rfl (b_Main_winter_19 C hr hk hd hR h0)
  · replace h0 := xif q1 h0
    refine x_iload_n C d_Main_winter_5 1 rfl ?_
    refine x_bipush (v := 60) C d_Main_winter_6 (by decide) ?_
    refine x_icmp_gt C 19 d_Main_winter_8 (by decide) (fun q2 => ?_) (fun q2 => ?_)
    · replace h0 := xit q2 h0
      exact x_lv C [] rfl (b_Main_winter_19 C hr hk hd hR h0)
    · replace h0 := xif q2 h0
      refine x_iload_n C d_Main_winter_11 1 rfl ?_
      refine x_aload_n C d_Main_winter_12 0 rfl ?_
      obtain ⟨r4, σ5, k3, h0⟩ := xbind2 h0
      refine x_callVi C hR (c_Main_minutesLeft (d := d) (by omega) k3) cw_Main_247 k_1 rfl rfl rfl (Nat.le_of_ble_eq_true rfl) ⟨Nat.zero_le _, Nat.zero_le _⟩ d_Main_winter_13 ?_
      refine x_icmp_le C 21 d_Main_winter_16 (by decide) (fun q6 => ?_) (fun q6 => ?_)
      · replace h0 := xit q6 h0
        refine x_aload_n C d_Main_winter_21 0 rfl ?_
        refine x_getA (y := 38) C fg_Main_72 k_1 rfl d_Main_winter_22 ?_
        refine x_lload_n C d_Main_winter_25 2 rfl ?_
        obtain ⟨σ8, k7, h0⟩ := xbind1 h0
        refine x_callVv C hR (c_Evening_seed (d := d) (by omega) k7) cw_Main_265 k_38 rfl rfl rfl (Nat.le_of_ble_eq_true rfl) ⟨Nat.zero_le _, Nat.zero_le _⟩ d_Main_winter_26 ?_
        refine x_iconst (v := 0) C d_Main_winter_29 (by decide) ?_
        refine x_istore (lv' := [(4, .int 0), (0, .ref (G.2.2.1 + 1)), (1, .int p0), (2, .long (p1))]) C d_Main_winter_30 (by decide) rfl ?_
        exact x_lv C [1, 2, 0] rfl (b_Main_winter_32 C hr hk hd hR FUEL _ _ h0)
      · replace h0 := xif q6 h0
        exact x_lv C [] rfl (b_Main_winter_19 C hr hk hd hR h0)
-- LostPlaces.undo()I
theorem d_Main_undo_0 : decode prog_1_method_26_code 0 = .ok (.aload_n 0, 1) := by decide +kernel
theorem d_Main_undo_1 : decode prog_1_method_26_code 1 = .ok (.getfield 87, 3) := by decide +kernel
theorem d_Main_undo_4 : decode prog_1_method_26_code 4 = .ok (.iconst 1, 1) := by decide +kernel
theorem d_Main_undo_5 : decode prog_1_method_26_code 5 = .ok (.if_icmp .lt 22, 3) := by decide +kernel
theorem d_Main_undo_8 : decode prog_1_method_26_code 8 = .ok (.aload_n 0, 1) := by decide +kernel
theorem d_Main_undo_9 : decode prog_1_method_26_code 9 = .ok (.getfield 90, 3) := by decide +kernel
theorem d_Main_undo_12 : decode prog_1_method_26_code 12 = .ok (.ifCond .lt 15, 3) := by decide +kernel
theorem d_Main_undo_15 : decode prog_1_method_26_code 15 = .ok (.aload_n 0, 1) := by decide +kernel
theorem d_Main_undo_16 : decode prog_1_method_26_code 16 = .ok (.getfield 90, 3) := by decide +kernel
theorem d_Main_undo_19 : decode prog_1_method_26_code 19 = .ok (.aload_n 0, 1) := by decide +kernel
theorem d_Main_undo_20 : decode prog_1_method_26_code 20 = .ok (.getfield 83, 3) := by decide +kernel
theorem d_Main_undo_23 : decode prog_1_method_26_code 23 = .ok (.arraylength, 1) := by decide +kernel
theorem d_Main_undo_24 : decode prog_1_method_26_code 24 = .ok (.if_icmp .lt 5, 3) := by decide +kernel
theorem d_Main_undo_27 : decode prog_1_method_26_code 27 = .ok (.iconst (-1), 1) := by decide +kernel
theorem d_Main_undo_28 : decode prog_1_method_26_code 28 = .ok (.ireturn, 1) := by decide +kernel
theorem d_Main_undo_29 : decode prog_1_method_26_code 29 = .ok (.aload_n 0, 1) := by decide +kernel
theorem d_Main_undo_30 : decode prog_1_method_26_code 30 = .ok (.getfield 79, 3) := by decide +kernel
theorem d_Main_undo_33 : decode prog_1_method_26_code 33 = .ok (.aload_n 0, 1) := by decide +kernel
theorem d_Main_undo_34 : decode prog_1_method_26_code 34 = .ok (.getfield 83, 3) := by decide +kernel
theorem d_Main_undo_37 : decode prog_1_method_26_code 37 = .ok (.aload_n 0, 1) := by decide +kernel
theorem d_Main_undo_38 : decode prog_1_method_26_code 38 = .ok (.getfield 90, 3) := by decide +kernel
theorem d_Main_undo_41 : decode prog_1_method_26_code 41 = .ok (.aaload, 1) := by decide +kernel
theorem d_Main_undo_42 : decode prog_1_method_26_code 42 = .ok (.invokevirtual 273, 3) := by decide +kernel
theorem d_Main_undo_45 : decode prog_1_method_26_code 45 = .ok (.aload_n 0, 1) := by decide +kernel
theorem d_Main_undo_46 : decode prog_1_method_26_code 46 = .ok (.aload_n 0, 1) := by decide +kernel
theorem d_Main_undo_47 : decode prog_1_method_26_code 47 = .ok (.getfield 90, 3) := by decide +kernel
theorem d_Main_undo_50 : decode prog_1_method_26_code 50 = .ok (.ifCond .le 12, 3) := by decide +kernel
theorem d_Main_undo_53 : decode prog_1_method_26_code 53 = .ok (.aload_n 0, 1) := by decide +kernel
theorem d_Main_undo_54 : decode prog_1_method_26_code 54 = .ok (.getfield 90, 3) := by decide +kernel
theorem d_Main_undo_57 : decode prog_1_method_26_code 57 = .ok (.iconst 1, 1) := by decide +kernel
theorem d_Main_undo_58 : decode prog_1_method_26_code 58 = .ok (.isub, 1) := by decide +kernel
theorem d_Main_undo_59 : decode prog_1_method_26_code 59 = .ok (.goto 10, 3) := by decide +kernel
theorem d_Main_undo_62 : decode prog_1_method_26_code 62 = .ok (.aload_n 0, 1) := by decide +kernel
theorem d_Main_undo_63 : decode prog_1_method_26_code 63 = .ok (.getfield 83, 3) := by decide +kernel
theorem d_Main_undo_66 : decode prog_1_method_26_code 66 = .ok (.arraylength, 1) := by decide +kernel
theorem d_Main_undo_67 : decode prog_1_method_26_code 67 = .ok (.iconst 1, 1) := by decide +kernel
theorem d_Main_undo_68 : decode prog_1_method_26_code 68 = .ok (.isub, 1) := by decide +kernel
theorem d_Main_undo_69 : decode prog_1_method_26_code 69 = .ok (.putfield 90, 3) := by decide +kernel
theorem d_Main_undo_72 : decode prog_1_method_26_code 72 = .ok (.aload_n 0, 1) := by decide +kernel
theorem d_Main_undo_73 : decode prog_1_method_26_code 73 = .ok (.dup, 1) := by decide +kernel
theorem d_Main_undo_74 : decode prog_1_method_26_code 74 = .ok (.getfield 87, 3) := by decide +kernel
theorem d_Main_undo_77 : decode prog_1_method_26_code 77 = .ok (.iconst 1, 1) := by decide +kernel
theorem d_Main_undo_78 : decode prog_1_method_26_code 78 = .ok (.isub, 1) := by decide +kernel
theorem d_Main_undo_79 : decode prog_1_method_26_code 79 = .ok (.putfield 87, 3) := by decide +kernel
theorem d_Main_undo_82 : decode prog_1_method_26_code 82 = .ok (.aload_n 0, 1) := by decide +kernel
theorem d_Main_undo_83 : decode prog_1_method_26_code 83 = .ok (.getfield 87, 3) := by decide +kernel
theorem d_Main_undo_86 : decode prog_1_method_26_code 86 = .ok (.ireturn, 1) := by decide +kernel
def s_Main_undo_27 (σ : LH) : Option (Int32 × LH) :=
  some ((-1), σ)
theorem b_Main_undo_27 {G : XG} {l : Launch} {p : Program} {e : Env} {R : Room} {s : State} {m : MethodId} {args : Array Value} {below : List Frame} {meth : Method} {c : Code} (C : XC G 1 570 p s m args c prog_1_method_26_code 1 R_Main) (hr : meth.sig.returnType = (some .int)) (hk : meth.locks = false) {d : Nat} (hd : 4 ≤ d + 1) (hR : xroom R (d + 1)) {σ' : LH} {r : Int32} {σ : LH} (h0 : s_Main_undo_27 σ = some (r, σ')) : XJ G 1 570 p l e R s m args below meth c 1 (XQ G 1 570 below args s (some (.int r)) σ') 0 0 27 [] [] σ := by
  replace h0 := (show _ = _ from h0)
  unfold s_Main_undo_27 at h0
  refine x_iconst (v := (-1)) C d_Main_undo_27 (by decide) ?_
  exact x_iret C hr hk h0 d_Main_undo_28
def s_Main_undo_69 (z1 : Int32) (σ : LH) : Option (Int32 × LH) :=
  xl ((stI σ 1 14 z1) : LH) fun σ9 =>
  xl ((stI σ9 1 13 ((σ9.1 1 13) - 1)) : LH) fun σ10 =>
  some ((σ10.1 1 13), σ10)
theorem b_Main_undo_69 {G : XG} {l : Launch} {p : Program} {e : Env} {R : Room} {s : State} {m : MethodId} {args : Array Value} {below : List Frame} {meth : Method} {c : Code} (C : XC G 1 570 p s m args c prog_1_method_26_code 1 R_Main) (hr : meth.sig.returnType = (some .int)) (hk : meth.locks = false) {d : Nat} (hd : 4 ≤ d + 1) (hR : xroom R (d + 1)) {σ' : LH} {r : Int32} {z1 : Int32} {σ : LH} (h0 : s_Main_undo_69 z1 σ = some (r, σ')) : XJ G 1 570 p l e R s m args below meth c 1 (XQ G 1 570 below args s (some (.int r)) σ') 0 0 69 [(0, .ref (G.2.2.1 + 1))] [.int z1, .ref (G.2.2.1 + 1)] σ := by
  replace h0 := (show _ = _ from h0)
  unfold s_Main_undo_69 at h0
  refine x_putI (y := 0) C fp_Main_90 k_1 rfl rfl rfl d_Main_undo_69 ?_
  obtain ⟨σ9, eσ9, h0⟩ := xlet h0
  refine x_sig C eσ9 ?_
  refine x_aload_n C d_Main_undo_72 0 rfl ?_
  refine x_dup C d_Main_undo_73 rfl ?_
  refine x_getI (y := 0) C fg_Main_87 k_1 rfl d_Main_undo_74 ?_
  refine x_iconst (v := 1) C d_Main_undo_77 (by decide) ?_
  refine x_isub C d_Main_undo_78 ?_
  refine x_putI (y := 0) C fp_Main_87 k_1 rfl rfl rfl d_Main_undo_79 ?_
  obtain ⟨σ10, eσ10, h0⟩ := xlet h0
  refine x_sig C eσ10 ?_
  refine x_aload_n C d_Main_undo_82 0 rfl ?_
  refine x_getI (y := 0) C fg_Main_87 k_1 rfl d_Main_undo_83 ?_
  exact x_iret C hr hk h0 d_Main_undo_86
def s_Main_undo (σ : LH) : Option (Int32 × LH) :=
  if (σ.1 1 13) < 1 then (
   s_Main_undo_27 σ)
  else (
   if (σ.1 1 14) < 0 then (
    s_Main_undo_27 σ)
   else (
    if (σ.1 1 14) < 40 then (
     if ib (σ.1 1 14) 40 then (
     xl ((210 + 9 * (Int32.toNatClampNeg (σ.1 1 14))) : Nat) fun h5 =>
     xb1 (s_Hall_copyFrom 39 h5 σ) fun σ7 =>
     if (σ7.1 1 14) ≤ 0 then (
      s_Main_undo_69 (40 - 1) σ7)
     else (
      s_Main_undo_69 ((σ7.1 1 14) - 1) σ7)) else none)
    else (
     s_Main_undo_27 σ)))
theorem c_Main_undo {G : XG} {l : Launch} {d : Nat} (hd : 4 ≤ d) {σ σ' : LH} {r : Int32} (h0 : s_Main_undo σ = some (r, σ')) : xM G 1 570 l y_Main_undo prog_1_method_26_code 1 (some .int) d [.ref (G.2.2.1 + 1)] σ (some (.int r)) σ' := by
  obtain ⟨d, rfl⟩ : ∃ q, d = q + 1 := ⟨d - 1, by omega⟩
  refine x_met R_Main rfl (by decide +kernel) (Nat.le_of_ble_eq_true rfl) fun p e s m below meth c C hr hk hR => ?_
  refine x_lv (lv' := [(0, .ref (G.2.2.1 + 1))]) C [0] rfl ?_
  generalize xrm (d + 1) = R at hR ⊢
  unfold s_Main_undo at h0
  refine x_aload_n C d_Main_undo_0 0 rfl ?_
  refine x_getI (y := 0) C fg_Main_87 k_1 rfl d_Main_undo_1 ?_
  refine x_iconst (v := 1) C d_Main_undo_4 (by decide) ?_
  refine x_icmp_lt C 27 d_Main_undo_5 (by decide) (fun q1 => ?_) (fun q1 => ?_)
  · replace h0 := xit q1 h0
    exact x_lv C [] rfl (b_Main_undo_27 C hr hk hd hR h0)
  · replace h0 := xif q1 h0
    refine x_aload_n C d_Main_undo_8 0 rfl ?_
    refine x_getI (y := 0) C fg_Main_90 k_1 rfl d_Main_undo_9 ?_
    refine x_if_lt C 27 d_Main_undo_12 (by decide) (fun q2 => ?_) (fun q2 => ?_)
    · replace h0 := xit q2 h0
      exact x_lv C [] rfl (b_Main_undo_27 C hr hk hd hR h0)
    · replace h0 := xif q2 h0
      refine x_aload_n C d_Main_undo_15 0 rfl ?_
      refine x_getI (y := 0) C fg_Main_90 k_1 rfl d_Main_undo_16 ?_
      refine x_aload_n C d_Main_undo_19 0 rfl ?_
      refine x_getA (y := 48) C fg_Main_83 k_1 rfl d_Main_undo_20 ?_
      refine x_hlen (v := 40) C k_48 rfl d_Main_undo_23 ?_
      refine x_icmp_lt C 29 d_Main_undo_24 (by decide) (fun q3 => ?_) (fun q3 => ?_)
      · replace h0 := xit q3 h0
        refine x_aload_n C d_Main_undo_29 0 rfl ?_
        refine x_getA (y := 39) C fg_Main_79 k_1 rfl d_Main_undo_30 ?_
        refine x_aload_n C d_Main_undo_33 0 rfl ?_
        refine x_getA (y := 48) C fg_Main_83 k_1 rfl d_Main_undo_34 ?_
        refine x_aload_n C d_Main_undo_37 0 rfl ?_
        refine x_getI (y := 0) C fg_Main_90 k_1 rfl d_Main_undo_38 ?_
        obtain ⟨g4, h0⟩ := xgo h0
        refine x_hald C k_48 (ib_in g4) d_Main_undo_41 ?_
        obtain ⟨h5, eh5, h0⟩ := xlet h0
        refine x_nameR C eh5 ?_
        have hh5 : h5 ∈ xHalls := by rw [eh5]; exact past_in g4
        obtain ⟨σ7, k6, h0⟩ := xbind1 h0
        refine x_callVv C hR (c_Hall_copyFrom (d := d) (by omega) (show 39 ∈ xHalls by decide) hh5 k6) cw_Main_273 k_39 rfl rfl rfl (Nat.le_of_ble_eq_true rfl) ⟨Nat.zero_le _, Nat.zero_le _⟩ d_Main_undo_42 ?_
        refine x_aload_n C d_Main_undo_45 0 rfl ?_
        refine x_aload_n C d_Main_undo_46 0 rfl ?_
        refine x_getI (y := 0) C fg_Main_90 k_1 rfl d_Main_undo_47 ?_
        refine x_if_le C 62 d_Main_undo_50 (by decide) (fun q8 => ?_) (fun q8 => ?_)
        · replace h0 := xit q8 h0
          refine x_aload_n C d_Main_undo_62 0 rfl ?_
          refine x_getA (y := 48) C fg_Main_83 k_1 rfl d_Main_undo_63 ?_
          refine x_hlen (v := 40) C k_48 rfl d_Main_undo_66 ?_
          refine x_iconst (v := 1) C d_Main_undo_67 (by decide) ?_
          refine x_isub C d_Main_undo_68 ?_
          exact x_lv C [0] rfl (b_Main_undo_69 C hr hk hd hR h0)
        · replace h0 := xif q8 h0
          refine x_aload_n C d_Main_undo_53 0 rfl ?_
          refine x_getI (y := 0) C fg_Main_90 k_1 rfl d_Main_undo_54 ?_
          refine x_iconst (v := 1) C d_Main_undo_57 (by decide) ?_
          refine x_isub C d_Main_undo_58 ?_
          refine x_goto C 69 d_Main_undo_59 (by decide) ?_
          exact x_lv C [0] rfl (b_Main_undo_69 C hr hk hd hR h0)
      · replace h0 := xif q3 h0
        exact x_lv C [] rfl (b_Main_undo_27 C hr hk hd hR h0)
-- LostPlaces$Hall.logged()I
theorem d_Hall_logged_0 : decode prog_6_method_15_code 0 = .ok (.aload_n 0, 1) := by decide +kernel
theorem d_Hall_logged_1 : decode prog_6_method_15_code 1 = .ok (.getfield 37, 3) := by decide +kernel
theorem d_Hall_logged_4 : decode prog_6_method_15_code 4 = .ok (.bipush 60, 2) := by decide +kernel
theorem d_Hall_logged_6 : decode prog_6_method_15_code 6 = .ok (.if_icmp .ge 10, 3) := by decide +kernel
theorem d_Hall_logged_9 : decode prog_6_method_15_code 9 = .ok (.aload_n 0, 1) := by decide +kernel
theorem d_Hall_logged_10 : decode prog_6_method_15_code 10 = .ok (.getfield 37, 3) := by decide +kernel
theorem d_Hall_logged_13 : decode prog_6_method_15_code 13 = .ok (.goto 5, 3) := by decide +kernel
theorem d_Hall_logged_16 : decode prog_6_method_15_code 16 = .ok (.bipush 60, 2) := by decide +kernel
theorem d_Hall_logged_18 : decode prog_6_method_15_code 18 = .ok (.ireturn, 1) := by decide +kernel
def s_Hall_logged_18 (h : Nat) (z0 : Int32) (σ : LH) : Option (Int32 × LH) :=
  some (z0, σ)
theorem b_Hall_logged_18 {G : XG} {l : Launch} {p : Program} {e : Env} {R : Room} {s : State} {m : MethodId} {args : Array Value} {below : List Frame} {meth : Method} {c : Code} (C : XC G 1 570 p s m args c prog_6_method_15_code 1 R_Hall) (hr : meth.sig.returnType = (some .int)) (hk : meth.locks = false) {d : Nat} (hd : 1 ≤ d + 1) (hR : xroom R (d + 1)) {h : Nat} (hh : h ∈ xHalls) {σ' : LH} {r : Int32} {z0 : Int32} {σ : LH} (h0 : s_Hall_logged_18 h z0 σ = some (r, σ')) : XJ G 1 570 p l e R s m args below meth c 1 (XQ G 1 570 below args s (some (.int r)) σ') 0 0 18 [] [.int z0] σ := by
  replace h0 := (show _ = _ from h0)
  unfold s_Hall_logged_18 at h0
  exact x_iret C hr hk h0 d_Hall_logged_18
def s_Hall_logged (h : Nat) (σ : LH) : Option (Int32 × LH) :=
  if 60 ≤ (σ.1 h 8) then (
   s_Hall_logged_18 h 60 σ)
  else (
   s_Hall_logged_18 h (σ.1 h 8) σ)
theorem c_Hall_logged {G : XG} {l : Launch} {d : Nat} (hd : 1 ≤ d) {h : Nat} (hh : h ∈ xHalls) {σ σ' : LH} {r : Int32} (h0 : s_Hall_logged h σ = some (r, σ')) : xM G 1 570 l y_Hall_logged prog_6_method_15_code 1 (some .int) d [.ref (G.2.2.1 + h)] σ (some (.int r)) σ' := by
  obtain ⟨d, rfl⟩ : ∃ q, d = q + 1 := ⟨d - 1, by omega⟩
  refine x_met R_Hall rfl (by decide +kernel) (Nat.le_of_ble_eq_true rfl) fun p e s m below meth c C hr hk hR => ?_
  refine x_lv (lv' := [(0, .ref (G.2.2.1 + h))]) C [0] rfl ?_
  generalize xrm (d + 1) = R at hR ⊢
  unfold s_Hall_logged at h0
  refine x_aload_n C d_Hall_logged_0 0 rfl ?_
  refine x_getI (y := 0) C fg_Hall_37 (hl_0 hh) rfl d_Hall_logged_1 ?_
  refine x_bipush (v := 60) C d_Hall_logged_4 (by decide) ?_
  refine x_icmp_ge C 16 d_Hall_logged_6 (by decide) (fun q1 => ?_) (fun q1 => ?_)
  · replace h0 := xit q1 h0
    refine x_bipush (v := 60) C d_Hall_logged_16 (by decide) ?_
    exact x_lv C [] rfl (b_Hall_logged_18 C hr hk hd hR hh h0)
  · replace h0 := xif q1 h0
    refine x_aload_n C d_Hall_logged_9 0 rfl ?_
    refine x_getI (y := 0) C fg_Hall_37 (hl_0 hh) rfl d_Hall_logged_10 ?_
    refine x_goto C 18 d_Hall_logged_13 (by decide) ?_
    exact x_lv C [] rfl (b_Hall_logged_18 C hr hk hd hR hh h0)
-- LostPlaces$Hall.entry(II)I
theorem d_Hall_entry_0 : decode prog_6_method_16_code 0 = .ok (.aload_n 0, 1) := by decide +kernel
theorem d_Hall_entry_1 : decode prog_6_method_16_code 1 = .ok (.getfield 37, 3) := by decide +kernel
theorem d_Hall_entry_4 : decode prog_6_method_16_code 4 = .ok (.iconst 1, 1) := by decide +kernel
theorem d_Hall_entry_5 : decode prog_6_method_16_code 5 = .ok (.isub, 1) := by decide +kernel
theorem d_Hall_entry_6 : decode prog_6_method_16_code 6 = .ok (.iload_n 1, 1) := by decide +kernel
theorem d_Hall_entry_7 : decode prog_6_method_16_code 7 = .ok (.isub, 1) := by decide +kernel
theorem d_Hall_entry_8 : decode prog_6_method_16_code 8 = .ok (.bipush 60, 2) := by decide +kernel
theorem d_Hall_entry_10 : decode prog_6_method_16_code 10 = .ok (.irem, 1) := by decide +kernel
theorem d_Hall_entry_11 : decode prog_6_method_16_code 11 = .ok (.iconst 4, 1) := by decide +kernel
theorem d_Hall_entry_12 : decode prog_6_method_16_code 12 = .ok (.imul, 1) := by decide +kernel
theorem d_Hall_entry_13 : decode prog_6_method_16_code 13 = .ok (.iload_n 2, 1) := by decide +kernel
theorem d_Hall_entry_14 : decode prog_6_method_16_code 14 = .ok (.iadd, 1) := by decide +kernel
theorem d_Hall_entry_15 : decode prog_6_method_16_code 15 = .ok (.istore_n 3, 1) := by decide +kernel
theorem d_Hall_entry_16 : decode prog_6_method_16_code 16 = .ok (.iload_n 3, 1) := by decide +kernel
theorem d_Hall_entry_17 : decode prog_6_method_16_code 17 = .ok (.ifCond .lt 21, 3) := by decide +kernel
theorem d_Hall_entry_20 : decode prog_6_method_16_code 20 = .ok (.iload_n 3, 1) := by decide +kernel
theorem d_Hall_entry_21 : decode prog_6_method_16_code 21 = .ok (.aload_n 0, 1) := by decide +kernel
theorem d_Hall_entry_22 : decode prog_6_method_16_code 22 = .ok (.getfield 40, 3) := by decide +kernel
theorem d_Hall_entry_25 : decode prog_6_method_16_code 25 = .ok (.arraylength, 1) := by decide +kernel
theorem d_Hall_entry_26 : decode prog_6_method_16_code 26 = .ok (.if_icmp .ge 12, 3) := by decide +kernel
theorem d_Hall_entry_29 : decode prog_6_method_16_code 29 = .ok (.aload_n 0, 1) := by decide +kernel
theorem d_Hall_entry_30 : decode prog_6_method_16_code 30 = .ok (.getfield 40, 3) := by decide +kernel
theorem d_Hall_entry_33 : decode prog_6_method_16_code 33 = .ok (.iload_n 3, 1) := by decide +kernel
theorem d_Hall_entry_34 : decode prog_6_method_16_code 34 = .ok (.iaload, 1) := by decide +kernel
theorem d_Hall_entry_35 : decode prog_6_method_16_code 35 = .ok (.goto 5, 3) := by decide +kernel
theorem d_Hall_entry_38 : decode prog_6_method_16_code 38 = .ok (.ldc 79, 2) := by decide +kernel
theorem d_Hall_entry_40 : decode prog_6_method_16_code 40 = .ok (.ireturn, 1) := by decide +kernel
def s_Hall_entry_40 (h : Nat) (p0 : Int32) (p1 : Int32) (z0 : Int32) (σ : LH) : Option (Int32 × LH) :=
  some (z0, σ)
theorem b_Hall_entry_40 {G : XG} {l : Launch} {p : Program} {e : Env} {R : Room} {s : State} {m : MethodId} {args : Array Value} {below : List Frame} {meth : Method} {c : Code} (C : XC G 1 570 p s m args c prog_6_method_16_code 4 R_Hall) (hr : meth.sig.returnType = (some .int)) (hk : meth.locks = false) {d : Nat} (hd : 1 ≤ d + 1) (hR : xroom R (d + 1)) {h : Nat} {p0 : Int32} {p1 : Int32} (hh : h ∈ xHalls) {σ' : LH} {r : Int32} {z0 : Int32} {σ : LH} (h0 : s_Hall_entry_40 h p0 p1 z0 σ = some (r, σ')) : XJ G 1 570 p l e R s m args below meth c 4 (XQ G 1 570 below args s (some (.int r)) σ') 0 0 40 [] [.int z0] σ := by
  replace h0 := (show _ = _ from h0)
  unfold s_Hall_entry_40 at h0
  exact x_iret C hr hk h0 d_Hall_entry_40
def s_Hall_entry_38 (h : Nat) (p0 : Int32) (p1 : Int32) (σ : LH) : Option (Int32 × LH) :=
  s_Hall_entry_40 h p0 p1 (-1000000) σ
theorem b_Hall_entry_38 {G : XG} {l : Launch} {p : Program} {e : Env} {R : Room} {s : State} {m : MethodId} {args : Array Value} {below : List Frame} {meth : Method} {c : Code} (C : XC G 1 570 p s m args c prog_6_method_16_code 4 R_Hall) (hr : meth.sig.returnType = (some .int)) (hk : meth.locks = false) {d : Nat} (hd : 1 ≤ d + 1) (hR : xroom R (d + 1)) {h : Nat} {p0 : Int32} {p1 : Int32} (hh : h ∈ xHalls) {σ' : LH} {r : Int32} {σ : LH} (h0 : s_Hall_entry_38 h p0 p1 σ = some (r, σ')) : XJ G 1 570 p l e R s m args below meth c 4 (XQ G 1 570 below args s (some (.int r)) σ') 0 0 38 [] [] σ := by
  replace h0 := (show _ = _ from h0)
  unfold s_Hall_entry_38 at h0
  refine x_ldc (v := (-1000000)) C w_1135 d_Hall_entry_38 ?_
  exact x_lv C [] rfl (b_Hall_entry_40 C hr hk hd hR hh h0)
def s_Hall_entry (h : Nat) (p0 : Int32) (p1 : Int32) (σ : LH) : Option (Int32 × LH) :=
  xl ((((((((σ.1 h 8) - 1) - p0) - (((σ.1 h 8) - 1) - p0) / 60 * 60) * 4) + p1)) : Int32) fun x1 =>
  if x1 < 0 then (
   s_Hall_entry_38 h p0 p1 σ)
  else (
   if 240 ≤ x1 then (
    s_Hall_entry_38 h p0 p1 σ)
   else (
    if ib x1 240 then (
    s_Hall_entry_40 h p0 p1 (σ.1 (h + 8) (Int32.toNatClampNeg x1)) σ) else none))
theorem c_Hall_entry {G : XG} {l : Launch} {d : Nat} (hd : 1 ≤ d) {h : Nat} {p0 : Int32} {p1 : Int32} (hh : h ∈ xHalls) {σ σ' : LH} {r : Int32} (h0 : s_Hall_entry h p0 p1 σ = some (r, σ')) : xM G 1 570 l y_Hall_entry prog_6_method_16_code 4 (some .int) d [.ref (G.2.2.1 + h), .int p0, .int p1] σ (some (.int r)) σ' := by
  obtain ⟨d, rfl⟩ : ∃ q, d = q + 1 := ⟨d - 1, by omega⟩
  refine x_met R_Hall rfl (by decide +kernel) (Nat.le_of_ble_eq_true rfl) fun p e s m below meth c C hr hk hR => ?_
  refine x_lv (lv' := [(0, .ref (G.2.2.1 + h)), (1, .int p0), (2, .int p1)]) C [0, 1, 2] rfl ?_
  generalize xrm (d + 1) = R at hR ⊢
  unfold s_Hall_entry at h0
  refine x_aload_n C d_Hall_entry_0 0 rfl ?_
  refine x_getI (y := 0) C fg_Hall_37 (hl_0 hh) rfl d_Hall_entry_1 ?_
  refine x_iconst (v := 1) C d_Hall_entry_4 (by decide) ?_
  refine x_isub C d_Hall_entry_5 ?_
  refine x_iload_n C d_Hall_entry_6 1 rfl ?_
  refine x_isub C d_Hall_entry_7 ?_
  refine x_bipush (v := 60) C d_Hall_entry_8 (by decide) ?_
  refine x_irem C d_Hall_entry_10 (by decide) ?_
  refine x_iconst (v := 4) C d_Hall_entry_11 (by decide) ?_
  refine x_imul C d_Hall_entry_12 ?_
  refine x_iload_n C d_Hall_entry_13 2 rfl ?_
  refine x_iadd C d_Hall_entry_14 ?_
  obtain ⟨x1, ex1, h0⟩ := xlet h0
  refine x_name C ex1 ?_
  refine x_istore_n (lv' := [(3, .int x1), (0, .ref (G.2.2.1 + h)), (1, .int p0), (2, .int p1)]) C d_Hall_entry_15 rfl (by decide) rfl ?_
  refine x_iload_n C d_Hall_entry_16 0 rfl ?_
  refine x_if_lt C 38 d_Hall_entry_17 (by decide) (fun q2 => ?_) (fun q2 => ?_)
  · replace h0 := xit q2 h0
    exact x_lv C [] rfl (b_Hall_entry_38 C hr hk hd hR hh h0)
  · replace h0 := xif q2 h0
    refine x_iload_n C d_Hall_entry_20 0 rfl ?_
    refine x_aload_n C d_Hall_entry_21 1 rfl ?_
    refine x_getR (y := 8) C fg_Hall_40 (hl_0 hh) rfl d_Hall_entry_22 ?_
    refine x_ilen (v := 240) C (hl_8 hh) rfl d_Hall_entry_25 ?_
    refine x_icmp_ge C 38 d_Hall_entry_26 (by decide) (fun q3 => ?_) (fun q3 => ?_)
    · replace h0 := xit q3 h0
      exact x_lv C [] rfl (b_Hall_entry_38 C hr hk hd hR hh h0)
    · replace h0 := xif q3 h0
      refine x_aload_n C d_Hall_entry_29 1 rfl ?_
      refine x_getR (y := 8) C fg_Hall_40 (hl_0 hh) rfl d_Hall_entry_30 ?_
      refine x_iload_n C d_Hall_entry_33 0 rfl ?_
      obtain ⟨g4, h0⟩ := xgo h0
      refine x_iald C (hl_8 hh) (ib_in g4) d_Hall_entry_34 ?_
      refine x_goto C 40 d_Hall_entry_35 (by decide) ?_
      exact x_lv C [] rfl (b_Hall_entry_40 C hr hk hd hR hh h0)
-- LostPlaces.log(II)I
theorem d_Main_log_0 : decode prog_1_method_27_code 0 = .ok (.iload_n 1, 1) := by decide +kernel
theorem d_Main_log_1 : decode prog_1_method_27_code 1 = .ok (.ifCond .lt 23, 3) := by decide +kernel
theorem d_Main_log_4 : decode prog_1_method_27_code 4 = .ok (.iload_n 1, 1) := by decide +kernel
theorem d_Main_log_5 : decode prog_1_method_27_code 5 = .ok (.aload_n 0, 1) := by decide +kernel
theorem d_Main_log_6 : decode prog_1_method_27_code 6 = .ok (.getfield 79, 3) := by decide +kernel
theorem d_Main_log_9 : decode prog_1_method_27_code 9 = .ok (.invokevirtual 276, 3) := by decide +kernel
theorem d_Main_log_12 : decode prog_1_method_27_code 12 = .ok (.if_icmp .ge 12, 3) := by decide +kernel
theorem d_Main_log_15 : decode prog_1_method_27_code 15 = .ok (.iload_n 2, 1) := by decide +kernel
theorem d_Main_log_16 : decode prog_1_method_27_code 16 = .ok (.ifCond .lt 8, 3) := by decide +kernel
theorem d_Main_log_19 : decode prog_1_method_27_code 19 = .ok (.iload_n 2, 1) := by decide +kernel
theorem d_Main_log_20 : decode prog_1_method_27_code 20 = .ok (.iconst 3, 1) := by decide +kernel
theorem d_Main_log_21 : decode prog_1_method_27_code 21 = .ok (.if_icmp .le 6, 3) := by decide +kernel
theorem d_Main_log_24 : decode prog_1_method_27_code 24 = .ok (.ldc 226, 2) := by decide +kernel
theorem d_Main_log_26 : decode prog_1_method_27_code 26 = .ok (.ireturn, 1) := by decide +kernel
theorem d_Main_log_27 : decode prog_1_method_27_code 27 = .ok (.aload_n 0, 1) := by decide +kernel
theorem d_Main_log_28 : decode prog_1_method_27_code 28 = .ok (.getfield 79, 3) := by decide +kernel
theorem d_Main_log_31 : decode prog_1_method_27_code 31 = .ok (.iload_n 1, 1) := by decide +kernel
theorem d_Main_log_32 : decode prog_1_method_27_code 32 = .ok (.iload_n 2, 1) := by decide +kernel
theorem d_Main_log_33 : decode prog_1_method_27_code 33 = .ok (.invokevirtual 279, 3) := by decide +kernel
theorem d_Main_log_36 : decode prog_1_method_27_code 36 = .ok (.ireturn, 1) := by decide +kernel
def s_Main_log_24 (p0 : Int32) (p1 : Int32) (σ : LH) : Option (Int32 × LH) :=
  some ((-1000000), σ)
theorem b_Main_log_24 {G : XG} {l : Launch} {p : Program} {e : Env} {R : Room} {s : State} {m : MethodId} {args : Array Value} {below : List Frame} {meth : Method} {c : Code} (C : XC G 1 570 p s m args c prog_1_method_27_code 3 R_Main) (hr : meth.sig.returnType = (some .int)) (hk : meth.locks = false) {d : Nat} (hd : 2 ≤ d + 1) (hR : xroom R (d + 1)) {p0 : Int32} {p1 : Int32} {σ' : LH} {r : Int32} {σ : LH} (h0 : s_Main_log_24 p0 p1 σ = some (r, σ')) : XJ G 1 570 p l e R s m args below meth c 3 (XQ G 1 570 below args s (some (.int r)) σ') 0 0 24 [] [] σ := by
  replace h0 := (show _ = _ from h0)
  unfold s_Main_log_24 at h0
  refine x_ldc (v := (-1000000)) C w_982 d_Main_log_24 ?_
  exact x_iret C hr hk h0 d_Main_log_26
def s_Main_log (p0 : Int32) (p1 : Int32) (σ : LH) : Option (Int32 × LH) :=
  if p0 < 0 then (
   s_Main_log_24 p0 p1 σ)
  else (
   xb2 (s_Hall_logged 39 σ) fun r3 σ4 =>
   if r3 ≤ p0 then (
    s_Main_log_24 p0 p1 σ4)
   else (
    if p1 < 0 then (
     s_Main_log_24 p0 p1 σ4)
    else (
     if p1 ≤ 3 then (
      xb2 (s_Hall_entry 39 p0 p1 σ4) fun r9 σ10 =>
      some (r9, σ10))
     else (
      s_Main_log_24 p0 p1 σ4))))
theorem c_Main_log {G : XG} {l : Launch} {d : Nat} (hd : 2 ≤ d) {p0 : Int32} {p1 : Int32} {σ σ' : LH} {r : Int32} (h0 : s_Main_log p0 p1 σ = some (r, σ')) : xM G 1 570 l y_Main_log prog_1_method_27_code 3 (some .int) d [.ref (G.2.2.1 + 1), .int p0, .int p1] σ (some (.int r)) σ' := by
  obtain ⟨d, rfl⟩ : ∃ q, d = q + 1 := ⟨d - 1, by omega⟩
  refine x_met R_Main rfl (by decide +kernel) (Nat.le_of_ble_eq_true rfl) fun p e s m below meth c C hr hk hR => ?_
  refine x_lv (lv' := [(0, .ref (G.2.2.1 + 1)), (1, .int p0), (2, .int p1)]) C [0, 1, 2] rfl ?_
  generalize xrm (d + 1) = R at hR ⊢
  unfold s_Main_log at h0
  refine x_iload_n C d_Main_log_0 1 rfl ?_
  refine x_if_lt C 24 d_Main_log_1 (by decide) (fun q1 => ?_) (fun q1 => ?_)
  · replace h0 := xit q1 h0
    exact x_lv C [] rfl (b_Main_log_24 C hr hk hd hR h0)
  · replace h0 := xif q1 h0
    refine x_iload_n C d_Main_log_4 1 rfl ?_
    refine x_aload_n C d_Main_log_5 0 rfl ?_
    refine x_getA (y := 39) C fg_Main_79 k_1 rfl d_Main_log_6 ?_
    obtain ⟨r3, σ4, k2, h0⟩ := xbind2 h0
    refine x_callVi C hR (c_Hall_logged (d := d) (by omega) (show 39 ∈ xHalls by decide) k2) cw_Main_276 k_39 rfl rfl rfl (Nat.le_of_ble_eq_true rfl) ⟨Nat.zero_le _, Nat.zero_le _⟩ d_Main_log_9 ?_
    refine x_icmp_ge C 24 d_Main_log_12 (by decide) (fun q5 => ?_) (fun q5 => ?_)
    · replace h0 := xit q5 h0
      exact x_lv C [] rfl (b_Main_log_24 C hr hk hd hR h0)
    · replace h0 := xif q5 h0
      refine x_iload_n C d_Main_log_15 2 rfl ?_
      refine x_if_lt C 24 d_Main_log_16 (by decide) (fun q6 => ?_) (fun q6 => ?_)
      · replace h0 := xit q6 h0
        exact x_lv C [] rfl (b_Main_log_24 C hr hk hd hR h0)
      · replace h0 := xif q6 h0
        refine x_iload_n C d_Main_log_19 2 rfl ?_
        refine x_iconst (v := 3) C d_Main_log_20 (by decide) ?_
        refine x_icmp_le C 27 d_Main_log_21 (by decide) (fun q7 => ?_) (fun q7 => ?_)
        · replace h0 := xit q7 h0
          refine x_aload_n C d_Main_log_27 0 rfl ?_
          refine x_getA (y := 39) C fg_Main_79 k_1 rfl d_Main_log_28 ?_
          refine x_iload_n C d_Main_log_31 1 rfl ?_
          refine x_iload_n C d_Main_log_32 2 rfl ?_
          obtain ⟨r9, σ10, k8, h0⟩ := xbind2 h0
          refine x_callVi C hR (c_Hall_entry (d := d) (by omega) (show 39 ∈ xHalls by decide) k8) cw_Main_279 k_39 rfl rfl rfl (Nat.le_of_ble_eq_true rfl) ⟨Nat.zero_le _, Nat.zero_le _⟩ d_Main_log_33 ?_
          exact x_iret C hr hk h0 d_Main_log_36
        · replace h0 := xif q7 h0
          exact x_lv C [] rfl (b_Main_log_24 C hr hk hd hR h0)
-- LostPlaces.warm()I
theorem d_Main_warm_0 : decode prog_1_method_28_code 0 = .ok (.iconst 0, 1) := by decide +kernel
theorem d_Main_warm_1 : decode prog_1_method_28_code 1 = .ok (.istore_n 1, 1) := by decide +kernel
theorem d_Main_warm_2 : decode prog_1_method_28_code 2 = .ok (.iload_n 1, 1) := by decide +kernel
theorem d_Main_warm_3 : decode prog_1_method_28_code 3 = .ok (.aload_n 0, 1) := by decide +kernel
theorem d_Main_warm_4 : decode prog_1_method_28_code 4 = .ok (.getfield 79, 3) := by decide +kernel
theorem d_Main_warm_7 : decode prog_1_method_28_code 7 = .ok (.invokevirtual 276, 3) := by decide +kernel
theorem d_Main_warm_10 : decode prog_1_method_28_code 10 = .ok (.if_icmp .ge 26, 3) := by decide +kernel
theorem d_Main_warm_13 : decode prog_1_method_28_code 13 = .ok (.aload_n 0, 1) := by decide +kernel
theorem d_Main_warm_14 : decode prog_1_method_28_code 14 = .ok (.getfield 79, 3) := by decide +kernel
theorem d_Main_warm_17 : decode prog_1_method_28_code 17 = .ok (.iload_n 1, 1) := by decide +kernel
theorem d_Main_warm_18 : decode prog_1_method_28_code 18 = .ok (.iconst 1, 1) := by decide +kernel
theorem d_Main_warm_19 : decode prog_1_method_28_code 19 = .ok (.invokevirtual 279, 3) := by decide +kernel
theorem d_Main_warm_22 : decode prog_1_method_28_code 22 = .ok (.istore_n 2, 1) := by decide +kernel
theorem d_Main_warm_23 : decode prog_1_method_28_code 23 = .ok (.iload_n 2, 1) := by decide +kernel
theorem d_Main_warm_24 : decode prog_1_method_28_code 24 = .ok (.iconst (-1), 1) := by decide +kernel
theorem d_Main_warm_25 : decode prog_1_method_28_code 25 = .ok (.if_icmp .eq 5, 3) := by decide +kernel
theorem d_Main_warm_28 : decode prog_1_method_28_code 28 = .ok (.iload_n 2, 1) := by decide +kernel
theorem d_Main_warm_29 : decode prog_1_method_28_code 29 = .ok (.ireturn, 1) := by decide +kernel
theorem d_Main_warm_30 : decode prog_1_method_28_code 30 = .ok (.iinc 1 1, 3) := by decide +kernel
theorem d_Main_warm_33 : decode prog_1_method_28_code 33 = .ok (.goto (-31), 3) := by decide +kernel
theorem d_Main_warm_36 : decode prog_1_method_28_code 36 = .ok (.iconst (-1), 1) := by decide +kernel
theorem d_Main_warm_37 : decode prog_1_method_28_code 37 = .ok (.ireturn, 1) := by decide +kernel
def s_Main_warm_2_b (rec2 : Int32 → LH → Option (Int32 × LH)) (y1 : Int32) (σ : LH) : Option (Int32 × LH) :=
  xb2 (s_Hall_logged 39 σ) fun r2 σ3 =>
  if r2 ≤ y1 then (
   some ((-1), σ3))
  else (
   xb2 (s_Hall_entry 39 y1 1 σ3) fun r6 σ7 =>
   if r6 = (-1) then (
    xl ((y1 + 1) : Int32) fun x9 =>
    rec2 x9 σ7)
   else (
    some (r6, σ7)))
def s_Main_warm_2 : Nat → Int32 → LH → Option (Int32 × LH)
  | 0, _, _ => none
  | n + 1, y1, σ => s_Main_warm_2_b (s_Main_warm_2 n) y1 σ
theorem bb_Main_warm_2 {G : XG} {l : Launch} {p : Program} {e : Env} {R : Room} {s : State} {m : MethodId} {args : Array Value} {below : List Frame} {meth : Method} {c : Code} (C : XC G 1 570 p s m args c prog_1_method_28_code 3 R_Main) (hr : meth.sig.returnType = (some .int)) (hk : meth.locks = false) {d : Nat} (hd : 2 ≤ d + 1) (hR : xroom R (d + 1)) {rec2 : Int32 → LH → Option (Int32 × LH)} {σ' : LH} {r : Int32} (hrec2 : ∀ (y1 : Int32) (σ : LH), rec2 y1 σ = some (r, σ') → XJ G 1 570 p l e R s m args below meth c 3 (XQ G 1 570 below args s (some (.int r)) σ') 0 0 2 [(0, .ref (G.2.2.1 + 1)), (1, .int y1)] [] σ) {y1 : Int32} {σ : LH} (h0 : s_Main_warm_2_b rec2 y1 σ = some (r, σ')) : XJ G 1 570 p l e R s m args below meth c 3 (XQ G 1 570 below args s (some (.int r)) σ') 0 0 2 [(0, .ref (G.2.2.1 + 1)), (1, .int y1)] [] σ := by
  replace h0 := (show _ = _ from h0)
  unfold s_Main_warm_2_b at h0
  refine x_iload_n C d_Main_warm_2 1 rfl ?_
  refine x_aload_n C d_Main_warm_3 0 rfl ?_
  refine x_getA (y := 39) C fg_Main_79 k_1 rfl d_Main_warm_4 ?_
  obtain ⟨r2, σ3, k1, h0⟩ := xbind2 h0
  refine x_callVi C hR (c_Hall_logged (d := d) (by omega) (show 39 ∈ xHalls by decide) k1) cw_Main_276 k_39 rfl rfl rfl (Nat.le_of_ble_eq_true rfl) ⟨Nat.zero_le _, Nat.zero_le _⟩ d_Main_warm_7 ?_
  refine x_icmp_ge C 36 d_Main_warm_10 (by decide) (fun q4 => ?_) (fun q4 => ?_)
  · replace h0 := xit q4 h0
    refine x_iconst (v := (-1)) C d_Main_warm_36 (by decide) ?_
    exact x_iret C hr hk h0 d_Main_warm_37
  · replace h0 := xif q4 h0
    refine x_aload_n C d_Main_warm_13 0 rfl ?_
    refine x_getA (y := 39) C fg_Main_79 k_1 rfl d_Main_warm_14 ?_
    refine x_iload_n C d_Main_warm_17 1 rfl ?_
    refine x_iconst (v := 1) C d_Main_warm_18 (by decide) ?_
    obtain ⟨r6, σ7, k5, h0⟩ := xbind2 h0
    refine x_callVi C hR (c_Hall_entry (d := d) (by omega) (show 39 ∈ xHalls by decide) k5) cw_Main_279 k_39 rfl rfl rfl (Nat.le_of_ble_eq_true rfl) ⟨Nat.zero_le _, Nat.zero_le _⟩ d_Main_warm_19 ?_
    refine x_istore_n (lv' := [(2, .int r6), (0, .ref (G.2.2.1 + 1)), (1, .int y1)]) C d_Main_warm_22 rfl (by decide) rfl ?_
    refine x_iload_n C d_Main_warm_23 0 rfl ?_
    refine x_iconst (v := (-1)) C d_Main_warm_24 (by decide) ?_
    refine x_icmp_eq C 30 d_Main_warm_25 (by decide) (fun q8 => ?_) (fun q8 => ?_)
    · replace h0 := xit q8 h0
      obtain ⟨x9, ex9, h0⟩ := xlet h0
      refine x_iinc (lv' := [(1, .int x9), (2, .int r6), (0, .ref (G.2.2.1 + 1))]) C d_Main_warm_30 2 rfl ex9 (by decide) rfl ?_
      refine x_goto C 2 d_Main_warm_33 (by decide) ?_
      exact x_lv C [2, 0] rfl (hrec2 _ _ h0)
    · replace h0 := xif q8 h0
      refine x_iload_n C d_Main_warm_28 0 rfl ?_
      exact x_iret C hr hk h0 d_Main_warm_29
theorem b_Main_warm_2 {G : XG} {l : Launch} {p : Program} {e : Env} {R : Room} {s : State} {m : MethodId} {args : Array Value} {below : List Frame} {meth : Method} {c : Code} (C : XC G 1 570 p s m args c prog_1_method_28_code 3 R_Main) (hr : meth.sig.returnType = (some .int)) (hk : meth.locks = false) {d : Nat} (hd : 2 ≤ d + 1) (hR : xroom R (d + 1)) {σ' : LH} {r : Int32} : ∀ (n : Nat) (y1 : Int32) (σ : LH), s_Main_warm_2 n y1 σ = some (r, σ') → XJ G 1 570 p l e R s m args below meth c 3 (XQ G 1 570 below args s (some (.int r)) σ') 0 0 2 [(0, .ref (G.2.2.1 + 1)), (1, .int y1)] [] σ := by
  intro n
  induction n with
  | zero => intro y1 σ h0; cases h0
  | succ n ih => intro y1 σ h0; exact bb_Main_warm_2 C hr hk hd hR ih h0
def s_Main_warm (σ : LH) : Option (Int32 × LH) :=
  s_Main_warm_2 FUEL 0 σ
theorem c_Main_warm {G : XG} {l : Launch} {d : Nat} (hd : 2 ≤ d) {σ σ' : LH} {r : Int32} (h0 : s_Main_warm σ = some (r, σ')) : xM G 1 570 l y_Main_warm prog_1_method_28_code 3 (some .int) d [.ref (G.2.2.1 + 1)] σ (some (.int r)) σ' := by
  obtain ⟨d, rfl⟩ : ∃ q, d = q + 1 := ⟨d - 1, by omega⟩
  refine x_met R_Main rfl (by decide +kernel) (Nat.le_of_ble_eq_true rfl) fun p e s m below meth c C hr hk hR => ?_
  refine x_lv (lv' := [(0, .ref (G.2.2.1 + 1))]) C [0] rfl ?_
  generalize xrm (d + 1) = R at hR ⊢
  unfold s_Main_warm at h0
  refine x_iconst (v := 0) C d_Main_warm_0 (by decide) ?_
  refine x_istore_n (lv' := [(1, .int 0), (0, .ref (G.2.2.1 + 1))]) C d_Main_warm_1 rfl (by decide) rfl ?_
  exact x_lv C [1, 0] rfl (b_Main_warm_2 C hr hk hd hR FUEL _ _ h0)
-- LostPlaces.often(I)I
theorem d_Main_often_0 : decode prog_1_method_29_code 0 = .ok (.aload_n 0, 1) := by decide +kernel
theorem d_Main_often_1 : decode prog_1_method_29_code 1 = .ok (.iload_n 1, 1) := by decide +kernel
theorem d_Main_often_2 : decode prog_1_method_29_code 2 = .ok (.invokevirtual 186, 3) := by decide +kernel
theorem d_Main_often_5 : decode prog_1_method_29_code 5 = .ok (.ifCond .ne 5, 3) := by decide +kernel
theorem d_Main_often_8 : decode prog_1_method_29_code 8 = .ok (.iconst (-1), 1) := by decide +kernel
theorem d_Main_often_9 : decode prog_1_method_29_code 9 = .ok (.ireturn, 1) := by decide +kernel
theorem d_Main_often_10 : decode prog_1_method_29_code 10 = .ok (.iconst 0, 1) := by decide +kernel
theorem d_Main_often_11 : decode prog_1_method_29_code 11 = .ok (.istore_n 2, 1) := by decide +kernel
theorem d_Main_often_12 : decode prog_1_method_29_code 12 = .ok (.iconst 0, 1) := by decide +kernel
theorem d_Main_often_13 : decode prog_1_method_29_code 13 = .ok (.istore_n 3, 1) := by decide +kernel
theorem d_Main_often_14 : decode prog_1_method_29_code 14 = .ok (.iload_n 3, 1) := by decide +kernel
theorem d_Main_often_15 : decode prog_1_method_29_code 15 = .ok (.aload_n 0, 1) := by decide +kernel
theorem d_Main_often_16 : decode prog_1_method_29_code 16 = .ok (.getfield 79, 3) := by decide +kernel
theorem d_Main_often_19 : decode prog_1_method_29_code 19 = .ok (.invokevirtual 276, 3) := by decide +kernel
theorem d_Main_often_22 : decode prog_1_method_29_code 22 = .ok (.if_icmp .ge 25, 3) := by decide +kernel
theorem d_Main_often_25 : decode prog_1_method_29_code 25 = .ok (.aload_n 0, 1) := by decide +kernel
theorem d_Main_often_26 : decode prog_1_method_29_code 26 = .ok (.getfield 79, 3) := by decide +kernel
theorem d_Main_often_29 : decode prog_1_method_29_code 29 = .ok (.iload_n 3, 1) := by decide +kernel
theorem d_Main_often_30 : decode prog_1_method_29_code 30 = .ok (.iconst 0, 1) := by decide +kernel
theorem d_Main_often_31 : decode prog_1_method_29_code 31 = .ok (.invokevirtual 279, 3) := by decide +kernel
theorem d_Main_often_34 : decode prog_1_method_29_code 34 = .ok (.iload_n 1, 1) := by decide +kernel
theorem d_Main_often_35 : decode prog_1_method_29_code 35 = .ok (.if_icmp .ne 6, 3) := by decide +kernel
theorem d_Main_often_38 : decode prog_1_method_29_code 38 = .ok (.iinc 2 1, 3) := by decide +kernel
theorem d_Main_often_41 : decode prog_1_method_29_code 41 = .ok (.iinc 3 1, 3) := by decide +kernel
theorem d_Main_often_44 : decode prog_1_method_29_code 44 = .ok (.goto (-30), 3) := by decide +kernel
theorem d_Main_often_47 : decode prog_1_method_29_code 47 = .ok (.iload_n 2, 1) := by decide +kernel
theorem d_Main_often_48 : decode prog_1_method_29_code 48 = .ok (.ireturn, 1) := by decide +kernel
def s_Main_often_41 (p0 : Int32) (rec14 : Int32 → Int32 → LH → Option (Int32 × LH)) (y2 : Int32) (y3 : Int32) (σ : LH) : Option (Int32 × LH) :=
  xl ((y3 + 1) : Int32) fun x14 =>
  rec14 y2 x14 σ
theorem b_Main_often_41 {G : XG} {l : Launch} {p : Program} {e : Env} {R : Room} {s : State} {m : MethodId} {args : Array Value} {below : List Frame} {meth : Method} {c : Code} (C : XC G 1 570 p s m args c prog_1_method_29_code 4 R_Main) (hr : meth.sig.returnType = (some .int)) (hk : meth.locks = false) {d : Nat} (hd : 2 ≤ d + 1) (hR : xroom R (d + 1)) {p0 : Int32} {rec14 : Int32 → Int32 → LH → Option (Int32 × LH)} {σ' : LH} {r : Int32} (hrec14 : ∀ (y2 : Int32) (y3 : Int32) (σ : LH), rec14 y2 y3 σ = some (r, σ') → XJ G 1 570 p l e R s m args below meth c 4 (XQ G 1 570 below args s (some (.int r)) σ') 0 0 14 [(0, .ref (G.2.2.1 + 1)), (1, .int p0), (2, .int y2), (3, .int y3)] [] σ) {y2 : Int32} {y3 : Int32} {σ : LH} (h0 : s_Main_often_41 p0 rec14 y2 y3 σ = some (r, σ')) : XJ G 1 570 p l e R s m args below meth c 4 (XQ G 1 570 below args s (some (.int r)) σ') 0 0 41 [(0, .ref (G.2.2.1 + 1)), (1, .int p0), (2, .int y2), (3, .int y3)] [] σ := by
  replace h0 := (show _ = _ from h0)
  unfold s_Main_often_41 at h0
  obtain ⟨x14, ex14, h0⟩ := xlet h0
  refine x_iinc (lv' := [(3, .int x14), (0, .ref (G.2.2.1 + 1)), (1, .int p0), (2, .int y2)]) C d_Main_often_41 3 rfl ex14 (by decide) rfl ?_
  refine x_goto C 14 d_Main_often_44 (by decide) ?_
  exact x_lv C [1, 2, 3, 0] rfl (hrec14 _ _ _ h0)
def s_Main_often_14_b (p0 : Int32) (rec14 : Int32 → Int32 → LH → Option (Int32 × LH)) (y2 : Int32) (y3 : Int32) (σ : LH) : Option (Int32 × LH) :=
  xb2 (s_Hall_logged 39 σ) fun r6 σ7 =>
  if r6 ≤ y3 then (
   some (y2, σ7))
  else (
   xb2 (s_Hall_entry 39 y3 0 σ7) fun r10 σ11 =>
   if r10 = p0 then (
    xl ((y2 + 1) : Int32) fun x13 =>
    s_Main_often_41 p0 rec14 x13 y3 σ11)
   else (
    s_Main_often_41 p0 rec14 y2 y3 σ11))
def s_Main_often_14 (p0 : Int32) : Nat → Int32 → Int32 → LH → Option (Int32 × LH)
  | 0, _, _, _ => none
  | n + 1, y2, y3, σ => s_Main_often_14_b p0 (s_Main_often_14 p0 n) y2 y3 σ
theorem bb_Main_often_14 {G : XG} {l : Launch} {p : Program} {e : Env} {R : Room} {s : State} {m : MethodId} {args : Array Value} {below : List Frame} {meth : Method} {c : Code} (C : XC G 1 570 p s m args c prog_1_method_29_code 4 R_Main) (hr : meth.sig.returnType = (some .int)) (hk : meth.locks = false) {d : Nat} (hd : 2 ≤ d + 1) (hR : xroom R (d + 1)) {p0 : Int32} {rec14 : Int32 → Int32 → LH → Option (Int32 × LH)} {σ' : LH} {r : Int32} (hrec14 : ∀ (y2 : Int32) (y3 : Int32) (σ : LH), rec14 y2 y3 σ = some (r, σ') → XJ G 1 570 p l e R s m args below meth c 4 (XQ G 1 570 below args s (some (.int r)) σ') 0 0 14 [(0, .ref (G.2.2.1 + 1)), (1, .int p0), (2, .int y2), (3, .int y3)] [] σ) {y2 : Int32} {y3 : Int32} {σ : LH} (h0 : s_Main_often_14_b p0 rec14 y2 y3 σ = some (r, σ')) : XJ G 1 570 p l e R s m args below meth c 4 (XQ G 1 570 below args s (some (.int r)) σ') 0 0 14 [(0, .ref (G.2.2.1 + 1)), (1, .int p0), (2, .int y2), (3, .int y3)] [] σ := by
  replace h0 := (show _ = _ from h0)
  unfold s_Main_often_14_b at h0
  refine x_iload_n C d_Main_often_14 3 rfl ?_
  refine x_aload_n C d_Main_often_15 0 rfl ?_
  refine x_getA (y := 39) C fg_Main_79 k_1 rfl d_Main_often_16 ?_
  obtain ⟨r6, σ7, k5, h0⟩ := xbind2 h0
  refine x_callVi C hR (c_Hall_logged (d := d) (by omega) (show 39 ∈ xHalls by decide) k5) cw_Main_276 k_39 rfl rfl rfl (Nat.le_of_ble_eq_true rfl) ⟨Nat.zero_le _, Nat.zero_le _⟩ d_Main_often_19 ?_
  refine x_icmp_ge C 47 d_Main_often_22 (by decide) (fun q8 => ?_) (fun q8 => ?_)
  · replace h0 := xit q8 h0
    refine x_iload_n C d_Main_often_47 2 rfl ?_
    exact x_iret C hr hk h0 d_Main_often_48
  · replace h0 := xif q8 h0
    refine x_aload_n C d_Main_often_25 0 rfl ?_
    refine x_getA (y := 39) C fg_Main_79 k_1 rfl d_Main_often_26 ?_
    refine x_iload_n C d_Main_often_29 3 rfl ?_
    refine x_iconst (v := 0) C d_Main_often_30 (by decide) ?_
    obtain ⟨r10, σ11, k9, h0⟩ := xbind2 h0
    refine x_callVi C hR (c_Hall_entry (d := d) (by omega) (show 39 ∈ xHalls by decide) k9) cw_Main_279 k_39 rfl rfl rfl (Nat.le_of_ble_eq_true rfl) ⟨Nat.zero_le _, Nat.zero_le _⟩ d_Main_often_31 ?_
    refine x_iload_n C d_Main_often_34 1 rfl ?_
    refine x_icmp_ne C 41 d_Main_often_35 (by decide) (fun q12 => ?_) (fun q12 => ?_)
    · replace h0 := xif q12 h0
      exact x_lv C [0, 1, 2, 3] rfl (b_Main_often_41 C hr hk hd hR hrec14 h0)
    · replace h0 := xit q12 h0
      obtain ⟨x13, ex13, h0⟩ := xlet h0
      refine x_iinc (lv' := [(2, .int x13), (0, .ref (G.2.2.1 + 1)), (1, .int p0), (3, .int y3)]) C d_Main_often_38 2 rfl ex13 (by decide) rfl ?_
      exact x_lv C [1, 2, 0, 3] rfl (b_Main_often_41 C hr hk hd hR hrec14 h0)
theorem b_Main_often_14 {G : XG} {l : Launch} {p : Program} {e : Env} {R : Room} {s : State} {m : MethodId} {args : Array Value} {below : List Frame} {meth : Method} {c : Code} (C : XC G 1 570 p s m args c prog_1_method_29_code 4 R_Main) (hr : meth.sig.returnType = (some .int)) (hk : meth.locks = false) {d : Nat} (hd : 2 ≤ d + 1) (hR : xroom R (d + 1)) {p0 : Int32} {σ' : LH} {r : Int32} : ∀ (n : Nat) (y2 : Int32) (y3 : Int32) (σ : LH), s_Main_often_14 p0 n y2 y3 σ = some (r, σ') → XJ G 1 570 p l e R s m args below meth c 4 (XQ G 1 570 below args s (some (.int r)) σ') 0 0 14 [(0, .ref (G.2.2.1 + 1)), (1, .int p0), (2, .int y2), (3, .int y3)] [] σ := by
  intro n
  induction n with
  | zero => intro y2 y3 σ h0; cases h0
  | succ n ih => intro y2 y3 σ h0; exact bb_Main_often_14 C hr hk hd hR ih h0
def s_Main_often (p0 : Int32) (σ : LH) : Option (Int32 × LH) :=
  xb2 (s_Main_isSitter p0 σ) fun r2 σ3 =>
  if r2 = 0 then (
   some ((-1), σ3))
  else (
   s_Main_often_14 p0 FUEL 0 0 σ3)
theorem c_Main_often {G : XG} {l : Launch} {d : Nat} (hd : 2 ≤ d) {p0 : Int32} {σ σ' : LH} {r : Int32} (h0 : s_Main_often p0 σ = some (r, σ')) : xM G 1 570 l y_Main_often prog_1_method_29_code 4 (some .int) d [.ref (G.2.2.1 + 1), .int p0] σ (some (.int r)) σ' := by
  obtain ⟨d, rfl⟩ : ∃ q, d = q + 1 := ⟨d - 1, by omega⟩
  refine x_met R_Main rfl (by decide +kernel) (Nat.le_of_ble_eq_true rfl) fun p e s m below meth c C hr hk hR => ?_
  refine x_lv (lv' := [(0, .ref (G.2.2.1 + 1)), (1, .int p0)]) C [0, 1] rfl ?_
  generalize xrm (d + 1) = R at hR ⊢
  unfold s_Main_often at h0
  refine x_aload_n C d_Main_often_0 0 rfl ?_
  refine x_iload_n C d_Main_often_1 1 rfl ?_
  obtain ⟨r2, σ3, k1, h0⟩ := xbind2 h0
  refine x_callVi C hR (c_Main_isSitter (d := d) (by omega) k1) cw_Main_186 k_1 rfl rfl rfl (Nat.le_of_ble_eq_true rfl) ⟨Nat.zero_le _, Nat.zero_le _⟩ d_Main_often_2 ?_
  refine x_if_ne C 10 d_Main_often_5 (by decide) (fun q4 => ?_) (fun q4 => ?_)
  · replace h0 := xif q4 h0
    refine x_iconst (v := 0) C d_Main_often_10 (by decide) ?_
    refine x_istore_n (lv' := [(2, .int 0), (0, .ref (G.2.2.1 + 1)), (1, .int p0)]) C d_Main_often_11 rfl (by decide) rfl ?_
    refine x_iconst (v := 0) C d_Main_often_12 (by decide) ?_
    refine x_istore_n (lv' := [(3, .int 0), (2, .int 0), (0, .ref (G.2.2.1 + 1)), (1, .int p0)]) C d_Main_often_13 rfl (by decide) rfl ?_
    exact x_lv C [2, 3, 1, 0] rfl (b_Main_often_14 C hr hk hd hR FUEL _ _ _ h0)
  · replace h0 := xit q4 h0
    refine x_iconst (v := (-1)) C d_Main_often_8 (by decide) ?_
    exact x_iret C hr hk h0 d_Main_often_9
-- LostPlaces.isNoChoice(I)Z
theorem d_Main_isNoChoice_0 : decode prog_1_method_38_code 0 = .ok (.iload_n 0, 1) := by decide +kernel
theorem d_Main_isNoChoice_1 : decode prog_1_method_38_code 1 = .ok (.ifCond .eq 12, 3) := by decide +kernel
theorem d_Main_isNoChoice_4 : decode prog_1_method_38_code 4 = .ok (.iload_n 0, 1) := by decide +kernel
theorem d_Main_isNoChoice_5 : decode prog_1_method_38_code 5 = .ok (.iconst 1, 1) := by decide +kernel
theorem d_Main_isNoChoice_6 : decode prog_1_method_38_code 6 = .ok (.if_icmp .eq 7, 3) := by decide +kernel
theorem d_Main_isNoChoice_9 : decode prog_1_method_38_code 9 = .ok (.iconst 1, 1) := by decide +kernel
theorem d_Main_isNoChoice_10 : decode prog_1_method_38_code 10 = .ok (.goto 4, 3) := by decide +kernel
theorem d_Main_isNoChoice_13 : decode prog_1_method_38_code 13 = .ok (.iconst 0, 1) := by decide +kernel
theorem d_Main_isNoChoice_14 : decode prog_1_method_38_code 14 = .ok (.ireturn, 1) := by decide +kernel
def s_Main_isNoChoice_14 (p0 : Int32) (z0 : Int32) (σ : LH) : Option (Int32 × LH) :=
  if zb z0 then (
  some (z0, σ)) else none
theorem b_Main_isNoChoice_14 {G : XG} {l : Launch} {p : Program} {e : Env} {R : Room} {s : State} {m : MethodId} {args : Array Value} {below : List Frame} {meth : Method} {c : Code} (C : XC G 1 570 p s m args c prog_1_method_38_code 1 R_Main) (hr : meth.sig.returnType = (some .boolean)) (hk : meth.locks = false) {d : Nat} (hd : 1 ≤ d + 1) (hR : xroom R (d + 1)) {p0 : Int32} {σ' : LH} {r : Int32} {z0 : Int32} {σ : LH} (h0 : s_Main_isNoChoice_14 p0 z0 σ = some (r, σ')) : XJ G 1 570 p l e R s m args below meth c 1 (XQ G 1 570 below args s (some (.int r)) σ') 0 0 14 [] [.int z0] σ := by
  replace h0 := (show _ = _ from h0)
  unfold s_Main_isNoChoice_14 at h0
  obtain ⟨g2, h0⟩ := xgo h0
  exact x_zret C hr hk g2 h0 d_Main_isNoChoice_14
def s_Main_isNoChoice_13 (p0 : Int32) (σ : LH) : Option (Int32 × LH) :=
  s_Main_isNoChoice_14 p0 0 σ
theorem b_Main_isNoChoice_13 {G : XG} {l : Launch} {p : Program} {e : Env} {R : Room} {s : State} {m : MethodId} {args : Array Value} {below : List Frame} {meth : Method} {c : Code} (C : XC G 1 570 p s m args c prog_1_method_38_code 1 R_Main) (hr : meth.sig.returnType = (some .boolean)) (hk : meth.locks = false) {d : Nat} (hd : 1 ≤ d + 1) (hR : xroom R (d + 1)) {p0 : Int32} {σ' : LH} {r : Int32} {σ : LH} (h0 : s_Main_isNoChoice_13 p0 σ = some (r, σ')) : XJ G 1 570 p l e R s m args below meth c 1 (XQ G 1 570 below args s (some (.int r)) σ') 0 0 13 [] [] σ := by
  replace h0 := (show _ = _ from h0)
  unfold s_Main_isNoChoice_13 at h0
  refine x_iconst (v := 0) C d_Main_isNoChoice_13 (by decide) ?_
  exact x_lv C [] rfl (b_Main_isNoChoice_14 C hr hk hd hR h0)
def s_Main_isNoChoice (p0 : Int32) (σ : LH) : Option (Int32 × LH) :=
  if p0 = 0 then (
   s_Main_isNoChoice_13 p0 σ)
  else (
   if p0 = 1 then (
    s_Main_isNoChoice_13 p0 σ)
   else (
    s_Main_isNoChoice_14 p0 1 σ))
theorem c_Main_isNoChoice {G : XG} {l : Launch} {d : Nat} (hd : 1 ≤ d) {p0 : Int32} {σ σ' : LH} {r : Int32} (h0 : s_Main_isNoChoice p0 σ = some (r, σ')) : xM G 1 570 l y_Main_isNoChoice prog_1_method_38_code 1 (some .boolean) d [.int p0] σ (some (.int r)) σ' := by
  obtain ⟨d, rfl⟩ : ∃ q, d = q + 1 := ⟨d - 1, by omega⟩
  refine x_met R_Main rfl (by decide +kernel) (Nat.le_of_ble_eq_true rfl) fun p e s m below meth c C hr hk hR => ?_
  refine x_lv (lv' := [(0, .int p0)]) C [0] rfl ?_
  generalize xrm (d + 1) = R at hR ⊢
  unfold s_Main_isNoChoice at h0
  refine x_iload_n C d_Main_isNoChoice_0 0 rfl ?_
  refine x_if_eq C 13 d_Main_isNoChoice_1 (by decide) (fun q1 => ?_) (fun q1 => ?_)
  · replace h0 := xit q1 h0
    exact x_lv C [] rfl (b_Main_isNoChoice_13 C hr hk hd hR h0)
  · replace h0 := xif q1 h0
    refine x_iload_n C d_Main_isNoChoice_4 0 rfl ?_
    refine x_iconst (v := 1) C d_Main_isNoChoice_5 (by decide) ?_
    refine x_icmp_eq C 13 d_Main_isNoChoice_6 (by decide) (fun q3 => ?_) (fun q3 => ?_)
    · replace h0 := xit q3 h0
      exact x_lv C [] rfl (b_Main_isNoChoice_13 C hr hk hd hR h0)
    · replace h0 := xif q3 h0
      refine x_iconst (v := 1) C d_Main_isNoChoice_9 (by decide) ?_
      refine x_goto C 14 d_Main_isNoChoice_10 (by decide) ?_
      exact x_lv C [] rfl (b_Main_isNoChoice_14 C hr hk hd hR h0)
-- LostPlaces$Likings.till(I)I
theorem d_Likings_till_0 : decode prog_7_method_6_code 0 = .ok (.iload_n 1, 1) := by decide +kernel
theorem d_Likings_till_1 : decode prog_7_method_6_code 1 = .ok (.ifCond .lt 21, 3) := by decide +kernel
theorem d_Likings_till_4 : decode prog_7_method_6_code 4 = .ok (.iload_n 1, 1) := by decide +kernel
theorem d_Likings_till_5 : decode prog_7_method_6_code 5 = .ok (.aload_n 0, 1) := by decide +kernel
theorem d_Likings_till_6 : decode prog_7_method_6_code 6 = .ok (.getfield 18, 3) := by decide +kernel
theorem d_Likings_till_9 : decode prog_7_method_6_code 9 = .ok (.arraylength, 1) := by decide +kernel
theorem d_Likings_till_10 : decode prog_7_method_6_code 10 = .ok (.if_icmp .ge 12, 3) := by decide +kernel
theorem d_Likings_till_13 : decode prog_7_method_6_code 13 = .ok (.aload_n 0, 1) := by decide +kernel
theorem d_Likings_till_14 : decode prog_7_method_6_code 14 = .ok (.getfield 18, 3) := by decide +kernel
theorem d_Likings_till_17 : decode prog_7_method_6_code 17 = .ok (.iload_n 1, 1) := by decide +kernel
theorem d_Likings_till_18 : decode prog_7_method_6_code 18 = .ok (.iaload, 1) := by decide +kernel
theorem d_Likings_till_19 : decode prog_7_method_6_code 19 = .ok (.goto 4, 3) := by decide +kernel
theorem d_Likings_till_22 : decode prog_7_method_6_code 22 = .ok (.iload_n 1, 1) := by decide +kernel
theorem d_Likings_till_23 : decode prog_7_method_6_code 23 = .ok (.ireturn, 1) := by decide +kernel
def s_Likings_till_23 (p0 : Int32) (z0 : Int32) (σ : LH) : Option (Int32 × LH) :=
  some (z0, σ)
theorem b_Likings_till_23 {G : XG} {l : Launch} {p : Program} {e : Env} {R : Room} {s : State} {m : MethodId} {args : Array Value} {below : List Frame} {meth : Method} {c : Code} (C : XC G 1 570 p s m args c prog_7_method_6_code 2 R_Likings) (hr : meth.sig.returnType = (some .int)) (hk : meth.locks = false) {d : Nat} (hd : 1 ≤ d + 1) (hR : xroom R (d + 1)) {p0 : Int32} {σ' : LH} {r : Int32} {z0 : Int32} {σ : LH} (h0 : s_Likings_till_23 p0 z0 σ = some (r, σ')) : XJ G 1 570 p l e R s m args below meth c 2 (XQ G 1 570 below args s (some (.int r)) σ') 0 0 23 [] [.int z0] σ := by
  replace h0 := (show _ = _ from h0)
  unfold s_Likings_till_23 at h0
  exact x_iret C hr hk h0 d_Likings_till_23
def s_Likings_till_22 (p0 : Int32) (σ : LH) : Option (Int32 × LH) :=
  s_Likings_till_23 p0 p0 σ
theorem b_Likings_till_22 {G : XG} {l : Launch} {p : Program} {e : Env} {R : Room} {s : State} {m : MethodId} {args : Array Value} {below : List Frame} {meth : Method} {c : Code} (C : XC G 1 570 p s m args c prog_7_method_6_code 2 R_Likings) (hr : meth.sig.returnType = (some .int)) (hk : meth.locks = false) {d : Nat} (hd : 1 ≤ d + 1) (hR : xroom R (d + 1)) {p0 : Int32} {σ' : LH} {r : Int32} {σ : LH} (h0 : s_Likings_till_22 p0 σ = some (r, σ')) : XJ G 1 570 p l e R s m args below meth c 2 (XQ G 1 570 below args s (some (.int r)) σ') 0 0 22 [(1, .int p0)] [] σ := by
  replace h0 := (show _ = _ from h0)
  unfold s_Likings_till_22 at h0
  refine x_iload_n C d_Likings_till_22 0 rfl ?_
  exact x_lv C [] rfl (b_Likings_till_23 C hr hk hd hR h0)
def s_Likings_till (p0 : Int32) (σ : LH) : Option (Int32 × LH) :=
  if p0 < 0 then (
   s_Likings_till_22 p0 σ)
  else (
   if 100 ≤ p0 then (
    s_Likings_till_22 p0 σ)
   else (
    if ib p0 100 then (
    s_Likings_till_23 p0 (σ.1 36 (Int32.toNatClampNeg p0)) σ) else none))
theorem c_Likings_till {G : XG} {l : Launch} {d : Nat} (hd : 1 ≤ d) {p0 : Int32} {σ σ' : LH} {r : Int32} (h0 : s_Likings_till p0 σ = some (r, σ')) : xM G 1 570 l y_Likings_till prog_7_method_6_code 2 (some .int) d [.ref (G.2.2.1 + 33), .int p0] σ (some (.int r)) σ' := by
  obtain ⟨d, rfl⟩ : ∃ q, d = q + 1 := ⟨d - 1, by omega⟩
  refine x_met R_Likings rfl (by decide +kernel) (Nat.le_of_ble_eq_true rfl) fun p e s m below meth c C hr hk hR => ?_
  refine x_lv (lv' := [(0, .ref (G.2.2.1 + 33)), (1, .int p0)]) C [0, 1] rfl ?_
  generalize xrm (d + 1) = R at hR ⊢
  unfold s_Likings_till at h0
  refine x_iload_n C d_Likings_till_0 1 rfl ?_
  refine x_if_lt C 22 d_Likings_till_1 (by decide) (fun q1 => ?_) (fun q1 => ?_)
  · replace h0 := xit q1 h0
    exact x_lv C [1] rfl (b_Likings_till_22 C hr hk hd hR h0)
  · replace h0 := xif q1 h0
    refine x_iload_n C d_Likings_till_4 1 rfl ?_
    refine x_aload_n C d_Likings_till_5 0 rfl ?_
    refine x_getA (y := 36) C fg_Likings_18 k_33 rfl d_Likings_till_6 ?_
    refine x_ilen (v := 100) C k_36 rfl d_Likings_till_9 ?_
    refine x_icmp_ge C 22 d_Likings_till_10 (by decide) (fun q2 => ?_) (fun q2 => ?_)
    · replace h0 := xit q2 h0
      exact x_lv C [1] rfl (b_Likings_till_22 C hr hk hd hR h0)
    · replace h0 := xif q2 h0
      refine x_aload_n C d_Likings_till_13 0 rfl ?_
      refine x_getA (y := 36) C fg_Likings_18 k_33 rfl d_Likings_till_14 ?_
      refine x_iload_n C d_Likings_till_17 1 rfl ?_
      obtain ⟨g3, h0⟩ := xgo h0
      refine x_iald C k_36 (ib_in g3) d_Likings_till_18 ?_
      refine x_goto C 23 d_Likings_till_19 (by decide) ?_
      exact x_lv C [] rfl (b_Likings_till_23 C hr hk hd hR h0)
-- LostPlaces$Evening.earlier(III)I
theorem d_Evening_earlier_0 : decode prog_3_method_11_code 0 = .ok (.iload_n 1, 1) := by decide +kernel
theorem d_Evening_earlier_1 : decode prog_3_method_11_code 1 = .ok (.iload_n 2, 1) := by decide +kernel
theorem d_Evening_earlier_2 : decode prog_3_method_11_code 2 = .ok (.if_icmp .lt 12, 3) := by decide +kernel
theorem d_Evening_earlier_5 : decode prog_3_method_11_code 5 = .ok (.iload_n 1, 1) := by decide +kernel
theorem d_Evening_earlier_6 : decode prog_3_method_11_code 6 = .ok (.iload_n 0, 1) := by decide +kernel
theorem d_Evening_earlier_7 : decode prog_3_method_11_code 7 = .ok (.if_icmp .ge 7, 3) := by decide +kernel
theorem d_Evening_earlier_10 : decode prog_3_method_11_code 10 = .ok (.iload_n 1, 1) := by decide +kernel
theorem d_Evening_earlier_11 : decode prog_3_method_11_code 11 = .ok (.goto 4, 3) := by decide +kernel
theorem d_Evening_earlier_14 : decode prog_3_method_11_code 14 = .ok (.iload_n 0, 1) := by decide +kernel
theorem d_Evening_earlier_15 : decode prog_3_method_11_code 15 = .ok (.ireturn, 1) := by decide +kernel
def s_Evening_earlier_15 (p0 : Int32) (p1 : Int32) (p2 : Int32) (z0 : Int32) (σ : LH) : Option (Int32 × LH) :=
  some (z0, σ)
theorem b_Evening_earlier_15 {G : XG} {l : Launch} {p : Program} {e : Env} {R : Room} {s : State} {m : MethodId} {args : Array Value} {below : List Frame} {meth : Method} {c : Code} (C : XC G 1 570 p s m args c prog_3_method_11_code 3 R_Evening) (hr : meth.sig.returnType = (some .int)) (hk : meth.locks = false) {d : Nat} (hd : 1 ≤ d + 1) (hR : xroom R (d + 1)) {p0 : Int32} {p1 : Int32} {p2 : Int32} {σ' : LH} {r : Int32} {z0 : Int32} {σ : LH} (h0 : s_Evening_earlier_15 p0 p1 p2 z0 σ = some (r, σ')) : XJ G 1 570 p l e R s m args below meth c 3 (XQ G 1 570 below args s (some (.int r)) σ') 0 0 15 [] [.int z0] σ := by
  replace h0 := (show _ = _ from h0)
  unfold s_Evening_earlier_15 at h0
  exact x_iret C hr hk h0 d_Evening_earlier_15
def s_Evening_earlier_14 (p0 : Int32) (p1 : Int32) (p2 : Int32) (σ : LH) : Option (Int32 × LH) :=
  s_Evening_earlier_15 p0 p1 p2 p0 σ
theorem b_Evening_earlier_14 {G : XG} {l : Launch} {p : Program} {e : Env} {R : Room} {s : State} {m : MethodId} {args : Array Value} {below : List Frame} {meth : Method} {c : Code} (C : XC G 1 570 p s m args c prog_3_method_11_code 3 R_Evening) (hr : meth.sig.returnType = (some .int)) (hk : meth.locks = false) {d : Nat} (hd : 1 ≤ d + 1) (hR : xroom R (d + 1)) {p0 : Int32} {p1 : Int32} {p2 : Int32} {σ' : LH} {r : Int32} {σ : LH} (h0 : s_Evening_earlier_14 p0 p1 p2 σ = some (r, σ')) : XJ G 1 570 p l e R s m args below meth c 3 (XQ G 1 570 below args s (some (.int r)) σ') 0 0 14 [(0, .int p0)] [] σ := by
  replace h0 := (show _ = _ from h0)
  unfold s_Evening_earlier_14 at h0
  refine x_iload_n C d_Evening_earlier_14 0 rfl ?_
  exact x_lv C [] rfl (b_Evening_earlier_15 C hr hk hd hR h0)
def s_Evening_earlier (p0 : Int32) (p1 : Int32) (p2 : Int32) (σ : LH) : Option (Int32 × LH) :=
  if p1 < p2 then (
   s_Evening_earlier_14 p0 p1 p2 σ)
  else (
   if p0 ≤ p1 then (
    s_Evening_earlier_14 p0 p1 p2 σ)
   else (
    s_Evening_earlier_15 p0 p1 p2 p1 σ))
theorem c_Evening_earlier {G : XG} {l : Launch} {d : Nat} (hd : 1 ≤ d) {p0 : Int32} {p1 : Int32} {p2 : Int32} {σ σ' : LH} {r : Int32} (h0 : s_Evening_earlier p0 p1 p2 σ = some (r, σ')) : xM G 1 570 l y_Evening_earlier prog_3_method_11_code 3 (some .int) d [.int p0, .int p1, .int p2] σ (some (.int r)) σ' := by
  obtain ⟨d, rfl⟩ : ∃ q, d = q + 1 := ⟨d - 1, by omega⟩
  refine x_met R_Evening rfl (by decide +kernel) (Nat.le_of_ble_eq_true rfl) fun p e s m below meth c C hr hk hR => ?_
  refine x_lv (lv' := [(0, .int p0), (1, .int p1), (2, .int p2)]) C [0, 1, 2] rfl ?_
  generalize xrm (d + 1) = R at hR ⊢
  unfold s_Evening_earlier at h0
  refine x_iload_n C d_Evening_earlier_0 1 rfl ?_
  refine x_iload_n C d_Evening_earlier_1 2 rfl ?_
  refine x_icmp_lt C 14 d_Evening_earlier_2 (by decide) (fun q1 => ?_) (fun q1 => ?_)
  · replace h0 := xit q1 h0
    exact x_lv C [0] rfl (b_Evening_earlier_14 C hr hk hd hR h0)
  · replace h0 := xif q1 h0
    refine x_iload_n C d_Evening_earlier_5 1 rfl ?_
    refine x_iload_n C d_Evening_earlier_6 0 rfl ?_
    refine x_icmp_ge C 14 d_Evening_earlier_7 (by decide) (fun q2 => ?_) (fun q2 => ?_)
    · replace h0 := xit q2 h0
      exact x_lv C [0] rfl (b_Evening_earlier_14 C hr hk hd hR h0)
    · replace h0 := xif q2 h0
      refine x_iload_n C d_Evening_earlier_10 1 rfl ?_
      refine x_goto C 15 d_Evening_earlier_11 (by decide) ?_
      exact x_lv C [] rfl (b_Evening_earlier_15 C hr hk hd hR h0)
-- LostPlaces$Evening.calmTill(LLostPlaces$Hall;I)I
theorem d_Evening_calmTill_0 : decode prog_3_method_10_code 0 = .ok (.aload_n 1, 1) := by decide +kernel
theorem d_Evening_calmTill_1 : decode prog_3_method_10_code 1 = .ok (.getfield 62, 3) := by decide +kernel
theorem d_Evening_calmTill_4 : decode prog_3_method_10_code 4 = .ok (.istore_n 3, 1) := by decide +kernel
theorem d_Evening_calmTill_5 : decode prog_3_method_10_code 5 = .ok (.aload_n 1, 1) := by decide +kernel
theorem d_Evening_calmTill_6 : decode prog_3_method_10_code 6 = .ok (.getfield 101, 3) := by decide +kernel
theorem d_Evening_calmTill_9 : decode prog_3_method_10_code 9 = .ok (.aload_n 0, 1) := by decide +kernel
theorem d_Evening_calmTill_10 : decode prog_3_method_10_code 10 = .ok (.getfield 32, 3) := by decide +kernel
theorem d_Evening_calmTill_13 : decode prog_3_method_10_code 13 = .ok (.aload_n 0, 1) := by decide +kernel
theorem d_Evening_calmTill_14 : decode prog_3_method_10_code 14 = .ok (.getfield 32, 3) := by decide +kernel
theorem d_Evening_calmTill_17 : decode prog_3_method_10_code 17 = .ok (.iload_n 3, 1) := by decide +kernel
theorem d_Evening_calmTill_18 : decode prog_3_method_10_code 18 = .ok (.invokevirtual 77, 3) := by decide +kernel
theorem d_Evening_calmTill_21 : decode prog_3_method_10_code 21 = .ok (.invokevirtual 104, 3) := by decide +kernel
theorem d_Evening_calmTill_24 : decode prog_3_method_10_code 24 = .ok (.if_icmp .eq 5, 3) := by decide +kernel
theorem d_Evening_calmTill_27 : decode prog_3_method_10_code 27 = .ok (.iload_n 3, 1) := by decide +kernel
theorem d_Evening_calmTill_28 : decode prog_3_method_10_code 28 = .ok (.ireturn, 1) := by decide +kernel
theorem d_Evening_calmTill_29 : decode prog_3_method_10_code 29 = .ok (.iload_n 2, 1) := by decide +kernel
theorem d_Evening_calmTill_30 : decode prog_3_method_10_code 30 = .ok (.aload_n 0, 1) := by decide +kernel
theorem d_Evening_calmTill_31 : decode prog_3_method_10_code 31 = .ok (.getfield 32, 3) := by decide +kernel
theorem d_Evening_calmTill_34 : decode prog_3_method_10_code 34 = .ok (.iload_n 3, 1) := by decide +kernel
theorem d_Evening_calmTill_35 : decode prog_3_method_10_code 35 = .ok (.invokevirtual 107, 3) := by decide +kernel
theorem d_Evening_calmTill_38 : decode prog_3_method_10_code 38 = .ok (.iload_n 3, 1) := by decide +kernel
theorem d_Evening_calmTill_39 : decode prog_3_method_10_code 39 = .ok (.invokestatic 110, 3) := by decide +kernel
theorem d_Evening_calmTill_42 : decode prog_3_method_10_code 42 = .ok (.istore 4, 2) := by decide +kernel
theorem d_Evening_calmTill_44 : decode prog_3_method_10_code 44 = .ok (.iconst 0, 1) := by decide +kernel
theorem d_Evening_calmTill_45 : decode prog_3_method_10_code 45 = .ok (.istore 5, 2) := by decide +kernel
theorem d_Evening_calmTill_47 : decode prog_3_method_10_code 47 = .ok (.iload 5, 2) := by decide +kernel
theorem d_Evening_calmTill_49 : decode prog_3_method_10_code 49 = .ok (.aload_n 0, 1) := by decide +kernel
theorem d_Evening_calmTill_50 : decode prog_3_method_10_code 50 = .ok (.getfield 28, 3) := by decide +kernel
theorem d_Evening_calmTill_53 : decode prog_3_method_10_code 53 = .ok (.getfield 113, 3) := by decide +kernel
theorem d_Evening_calmTill_56 : decode prog_3_method_10_code 56 = .ok (.if_icmp .ge 24, 3) := by decide +kernel
theorem d_Evening_calmTill_59 : decode prog_3_method_10_code 59 = .ok (.iload 4, 2) := by decide +kernel
theorem d_Evening_calmTill_61 : decode prog_3_method_10_code 61 = .ok (.aload_n 1, 1) := by decide +kernel
theorem d_Evening_calmTill_62 : decode prog_3_method_10_code 62 = .ok (.getfield 116, 3) := by decide +kernel
theorem d_Evening_calmTill_65 : decode prog_3_method_10_code 65 = .ok (.iload 5, 2) := by decide +kernel
theorem d_Evening_calmTill_67 : decode prog_3_method_10_code 67 = .ok (.iaload, 1) := by decide +kernel
theorem d_Evening_calmTill_68 : decode prog_3_method_10_code 68 = .ok (.iload_n 3, 1) := by decide +kernel
theorem d_Evening_calmTill_69 : decode prog_3_method_10_code 69 = .ok (.invokestatic 110, 3) := by decide +kernel
theorem d_Evening_calmTill_72 : decode prog_3_method_10_code 72 = .ok (.istore 4, 2) := by decide +kernel
theorem d_Evening_calmTill_74 : decode prog_3_method_10_code 74 = .ok (.iinc 5 1, 3) := by decide +kernel
theorem d_Evening_calmTill_77 : decode prog_3_method_10_code 77 = .ok (.goto (-30), 3) := by decide +kernel
theorem d_Evening_calmTill_80 : decode prog_3_method_10_code 80 = .ok (.iconst 0, 1) := by decide +kernel
theorem d_Evening_calmTill_81 : decode prog_3_method_10_code 81 = .ok (.istore 5, 2) := by decide +kernel
theorem d_Evening_calmTill_83 : decode prog_3_method_10_code 83 = .ok (.iload 5, 2) := by decide +kernel
theorem d_Evening_calmTill_85 : decode prog_3_method_10_code 85 = .ok (.aload_n 0, 1) := by decide +kernel
theorem d_Evening_calmTill_86 : decode prog_3_method_10_code 86 = .ok (.getfield 28, 3) := by decide +kernel
theorem d_Evening_calmTill_89 : decode prog_3_method_10_code 89 = .ok (.getfield 40, 3) := by decide +kernel
theorem d_Evening_calmTill_92 : decode prog_3_method_10_code 92 = .ok (.if_icmp .ge 24, 3) := by decide +kernel
theorem d_Evening_calmTill_95 : decode prog_3_method_10_code 95 = .ok (.iload 4, 2) := by decide +kernel
theorem d_Evening_calmTill_97 : decode prog_3_method_10_code 97 = .ok (.aload_n 1, 1) := by decide +kernel
theorem d_Evening_calmTill_98 : decode prog_3_method_10_code 98 = .ok (.getfield 119, 3) := by decide +kernel
theorem d_Evening_calmTill_101 : decode prog_3_method_10_code 101 = .ok (.iload 5, 2) := by decide +kernel
theorem d_Evening_calmTill_103 : decode prog_3_method_10_code 103 = .ok (.iaload, 1) := by decide +kernel
theorem d_Evening_calmTill_104 : decode prog_3_method_10_code 104 = .ok (.iload_n 3, 1) := by decide +kernel
theorem d_Evening_calmTill_105 : decode prog_3_method_10_code 105 = .ok (.invokestatic 110, 3) := by decide +kernel
theorem d_Evening_calmTill_108 : decode prog_3_method_10_code 108 = .ok (.istore 4, 2) := by decide +kernel
theorem d_Evening_calmTill_110 : decode prog_3_method_10_code 110 = .ok (.iinc 5 1, 3) := by decide +kernel
theorem d_Evening_calmTill_113 : decode prog_3_method_10_code 113 = .ok (.goto (-30), 3) := by decide +kernel
theorem d_Evening_calmTill_116 : decode prog_3_method_10_code 116 = .ok (.iconst 0, 1) := by decide +kernel
theorem d_Evening_calmTill_117 : decode prog_3_method_10_code 117 = .ok (.istore 5, 2) := by decide +kernel
theorem d_Evening_calmTill_119 : decode prog_3_method_10_code 119 = .ok (.iload 5, 2) := by decide +kernel
theorem d_Evening_calmTill_121 : decode prog_3_method_10_code 121 = .ok (.aload_n 0, 1) := by decide +kernel
theorem d_Evening_calmTill_122 : decode prog_3_method_10_code 122 = .ok (.getfield 28, 3) := by decide +kernel
theorem d_Evening_calmTill_125 : decode prog_3_method_10_code 125 = .ok (.getfield 121, 3) := by decide +kernel
theorem d_Evening_calmTill_128 : decode prog_3_method_10_code 128 = .ok (.if_icmp .ge 27, 3) := by decide +kernel
theorem d_Evening_calmTill_131 : decode prog_3_method_10_code 131 = .ok (.iload 4, 2) := by decide +kernel
theorem d_Evening_calmTill_133 : decode prog_3_method_10_code 133 = .ok (.aload_n 0, 1) := by decide +kernel
theorem d_Evening_calmTill_134 : decode prog_3_method_10_code 134 = .ok (.getfield 28, 3) := by decide +kernel
theorem d_Evening_calmTill_137 : decode prog_3_method_10_code 137 = .ok (.getfield 124, 3) := by decide +kernel
theorem d_Evening_calmTill_140 : decode prog_3_method_10_code 140 = .ok (.iload 5, 2) := by decide +kernel
theorem d_Evening_calmTill_142 : decode prog_3_method_10_code 142 = .ok (.iaload, 1) := by decide +kernel
theorem d_Evening_calmTill_143 : decode prog_3_method_10_code 143 = .ok (.iload_n 3, 1) := by decide +kernel
theorem d_Evening_calmTill_144 : decode prog_3_method_10_code 144 = .ok (.invokestatic 110, 3) := by decide +kernel
theorem d_Evening_calmTill_147 : decode prog_3_method_10_code 147 = .ok (.istore 4, 2) := by decide +kernel
theorem d_Evening_calmTill_149 : decode prog_3_method_10_code 149 = .ok (.iinc 5 1, 3) := by decide +kernel
theorem d_Evening_calmTill_152 : decode prog_3_method_10_code 152 = .ok (.goto (-33), 3) := by decide +kernel
theorem d_Evening_calmTill_155 : decode prog_3_method_10_code 155 = .ok (.aload_n 0, 1) := by decide +kernel
theorem d_Evening_calmTill_156 : decode prog_3_method_10_code 156 = .ok (.getfield 15, 3) := by decide +kernel
theorem d_Evening_calmTill_159 : decode prog_3_method_10_code 159 = .ok (.iconst (-1), 1) := by decide +kernel
theorem d_Evening_calmTill_160 : decode prog_3_method_10_code 160 = .ok (.if_icmp .ne 8, 3) := by decide +kernel
theorem d_Evening_calmTill_163 : decode prog_3_method_10_code 163 = .ok (.iload 4, 2) := by decide +kernel
theorem d_Evening_calmTill_165 : decode prog_3_method_10_code 165 = .ok (.goto 13, 3) := by decide +kernel
theorem d_Evening_calmTill_168 : decode prog_3_method_10_code 168 = .ok (.iload 4, 2) := by decide +kernel
theorem d_Evening_calmTill_170 : decode prog_3_method_10_code 170 = .ok (.aload_n 0, 1) := by decide +kernel
theorem d_Evening_calmTill_171 : decode prog_3_method_10_code 171 = .ok (.getfield 18, 3) := by decide +kernel
theorem d_Evening_calmTill_174 : decode prog_3_method_10_code 174 = .ok (.iload_n 3, 1) := by decide +kernel
theorem d_Evening_calmTill_175 : decode prog_3_method_10_code 175 = .ok (.invokestatic 110, 3) := by decide +kernel
theorem d_Evening_calmTill_178 : decode prog_3_method_10_code 178 = .ok (.ireturn, 1) := by decide +kernel
def s_Evening_calmTill_178 (p0 : Nat) (p1 : Int32) (z0 : Int32) (σ : LH) : Option (Int32 × LH) :=
  some (z0, σ)
theorem b_Evening_calmTill_178 {G : XG} {l : Launch} {p : Program} {e : Env} {R : Room} {s : State} {m : MethodId} {args : Array Value} {below : List Frame} {meth : Method} {c : Code} (C : XC G 1 570 p s m args c prog_3_method_10_code 6 R_Evening) (hr : meth.sig.returnType = (some .int)) (hk : meth.locks = false) {d : Nat} (hd : 2 ≤ d + 1) (hR : xroom R (d + 1)) {p0 : Nat} {p1 : Int32} (hp0 : p0 ∈ xHalls) {σ' : LH} {r : Int32} {z0 : Int32} {σ : LH} (h0 : s_Evening_calmTill_178 p0 p1 z0 σ = some (r, σ')) : XJ G 1 570 p l e R s m args below meth c 6 (XQ G 1 570 below args s (some (.int r)) σ') 0 0 178 [] [.int z0] σ := by
  replace h0 := (show _ = _ from h0)
  unfold s_Evening_calmTill_178 at h0
  exact x_iret C hr hk h0 d_Evening_calmTill_178
def s_Evening_calmTill_119_b (p0 : Nat) (p1 : Int32) (rec119 : Int32 → Int32 → Int32 → LH → Option (Int32 × LH)) (y3 : Int32) (y4 : Int32) (y5 : Int32) (σ : LH) : Option (Int32 × LH) :=
  if (σ.1 4 2) ≤ y5 then (
   if (σ.1 38 3) = (-1) then (
    s_Evening_calmTill_178 p0 p1 y4 σ)
   else (
    xb2 (s_Evening_earlier y4 (σ.1 38 4) y3 σ) fun r20 σ21 =>
    s_Evening_calmTill_178 p0 p1 r20 σ21))
  else (
   if ib y5 10 then (
   xb2 (s_Evening_earlier y4 (σ.1 13 (Int32.toNatClampNeg y5)) y3 σ) fun r24 σ25 =>
   xl ((y5 + 1) : Int32) fun x26 =>
   rec119 y3 r24 x26 σ25) else none)
def s_Evening_calmTill_119 (p0 : Nat) (p1 : Int32) : Nat → Int32 → Int32 → Int32 → LH → Option (Int32 × LH)
  | 0, _, _, _, _ => none
  | n + 1, y3, y4, y5, σ => s_Evening_calmTill_119_b p0 p1 (s_Evening_calmTill_119 p0 p1 n) y3 y4 y5 σ
theorem bb_Evening_calmTill_119 {G : XG} {l : Launch} {p : Program} {e : Env} {R : Room} {s : State} {m : MethodId} {args : Array Value} {below : List Frame} {meth : Method} {c : Code} (C : XC G 1 570 p s m args c prog_3_method_10_code 6 R_Evening) (hr : meth.sig.returnType = (some .int)) (hk : meth.locks = false) {d : Nat} (hd : 2 ≤ d + 1) (hR : xroom R (d + 1)) {p0 : Nat} {p1 : Int32} (hp0 : p0 ∈ xHalls) {rec119 : Int32 → Int32 → Int32 → LH → Option (Int32 × LH)} {σ' : LH} {r : Int32} (hrec119 : ∀ (y3 : Int32) (y4 : Int32) (y5 : Int32) (σ : LH), rec119 y3 y4 y5 σ = some (r, σ') → XJ G 1 570 p l e R s m args below meth c 6 (XQ G 1 570 below args s (some (.int r)) σ') 0 0 119 [(0, .ref (G.2.2.1 + 38)), (3, .int y3), (4, .int y4), (5, .int y5)] [] σ) {y3 : Int32} {y4 : Int32} {y5 : Int32} {σ : LH} (h0 : s_Evening_calmTill_119_b p0 p1 rec119 y3 y4 y5 σ = some (r, σ')) : XJ G 1 570 p l e R s m args below meth c 6 (XQ G 1 570 below args s (some (.int r)) σ') 0 0 119 [(0, .ref (G.2.2.1 + 38)), (3, .int y3), (4, .int y4), (5, .int y5)] [] σ := by
  replace h0 := (show _ = _ from h0)
  unfold s_Evening_calmTill_119_b at h0
  refine x_iload C d_Evening_calmTill_119 3 rfl ?_
  refine x_aload_n C d_Evening_calmTill_121 0 rfl ?_
  refine x_getA (y := 4) C fg_Evening_28 k_38 rfl d_Evening_calmTill_122 ?_
  refine x_getI (y := 0) C fg_Evening_121 k_4 rfl d_Evening_calmTill_125 ?_
  refine x_icmp_ge C 155 d_Evening_calmTill_128 (by decide) (fun q17 => ?_) (fun q17 => ?_)
  · replace h0 := xit q17 h0
    refine x_aload_n C d_Evening_calmTill_155 0 rfl ?_
    refine x_getI (y := 0) C fg_Evening_15 k_38 rfl d_Evening_calmTill_156 ?_
    refine x_iconst (v := (-1)) C d_Evening_calmTill_159 (by decide) ?_
    refine x_icmp_ne C 168 d_Evening_calmTill_160 (by decide) (fun q18 => ?_) (fun q18 => ?_)
    · replace h0 := xif q18 h0
      refine x_iload C d_Evening_calmTill_168 2 rfl ?_
      refine x_aload_n C d_Evening_calmTill_170 0 rfl ?_
      refine x_getI (y := 0) C fg_Evening_18 k_38 rfl d_Evening_calmTill_171 ?_
      refine x_iload_n C d_Evening_calmTill_174 1 rfl ?_
      obtain ⟨r20, σ21, k19, h0⟩ := xbind2 h0
      refine x_callSi C hR (c_Evening_earlier (d := d) (by omega) k19) cw_Evening_110 w_1170 rfl rfl (Nat.le_of_ble_eq_true rfl) ⟨Nat.zero_le _, Nat.zero_le _⟩ d_Evening_calmTill_175 ?_
      exact x_lv C [] rfl (b_Evening_calmTill_178 C hr hk hd hR hp0 h0)
    · replace h0 := xit q18 h0
      refine x_iload C d_Evening_calmTill_163 2 rfl ?_
      refine x_goto C 178 d_Evening_calmTill_165 (by decide) ?_
      exact x_lv C [] rfl (b_Evening_calmTill_178 C hr hk hd hR hp0 h0)
  · replace h0 := xif q17 h0
    refine x_iload C d_Evening_calmTill_131 2 rfl ?_
    refine x_aload_n C d_Evening_calmTill_133 0 rfl ?_
    refine x_getA (y := 4) C fg_Evening_28 k_38 rfl d_Evening_calmTill_134 ?_
    refine x_getR (y := 9) C fg_Evening_124 k_4 rfl d_Evening_calmTill_137 ?_
    show XJ _ _ _ _ _ _ _ _ _ _ _ _ _ _ _ _ _ _ _ (.ref (G.2.2.1 + 13) :: _) _
    refine x_iload C d_Evening_calmTill_140 3 rfl ?_
    obtain ⟨g22, h0⟩ := xgo h0
    refine x_iald C k_13 (ib_in g22) d_Evening_calmTill_142 ?_
    refine x_iload_n C d_Evening_calmTill_143 1 rfl ?_
    obtain ⟨r24, σ25, k23, h0⟩ := xbind2 h0
    refine x_callSi C hR (c_Evening_earlier (d := d) (by omega) k23) cw_Evening_110 w_1170 rfl rfl (Nat.le_of_ble_eq_true rfl) ⟨Nat.zero_le _, Nat.zero_le _⟩ d_Evening_calmTill_144 ?_
    refine x_istore (lv' := [(4, .int r24), (0, .ref (G.2.2.1 + 38)), (3, .int y3), (5, .int y5)]) C d_Evening_calmTill_147 (by decide) rfl ?_
    obtain ⟨x26, ex26, h0⟩ := xlet h0
    refine x_iinc (lv' := [(5, .int x26), (4, .int r24), (0, .ref (G.2.2.1 + 38)), (3, .int y3)]) C d_Evening_calmTill_149 3 rfl ex26 (by decide) rfl ?_
    refine x_goto C 119 d_Evening_calmTill_152 (by decide) ?_
    exact x_lv C [2, 3, 1, 0] rfl (hrec119 _ _ _ _ h0)
theorem b_Evening_calmTill_119 {G : XG} {l : Launch} {p : Program} {e : Env} {R : Room} {s : State} {m : MethodId} {args : Array Value} {below : List Frame} {meth : Method} {c : Code} (C : XC G 1 570 p s m args c prog_3_method_10_code 6 R_Evening) (hr : meth.sig.returnType = (some .int)) (hk : meth.locks = false) {d : Nat} (hd : 2 ≤ d + 1) (hR : xroom R (d + 1)) {p0 : Nat} {p1 : Int32} (hp0 : p0 ∈ xHalls) {σ' : LH} {r : Int32} : ∀ (n : Nat) (y3 : Int32) (y4 : Int32) (y5 : Int32) (σ : LH), s_Evening_calmTill_119 p0 p1 n y3 y4 y5 σ = some (r, σ') → XJ G 1 570 p l e R s m args below meth c 6 (XQ G 1 570 below args s (some (.int r)) σ') 0 0 119 [(0, .ref (G.2.2.1 + 38)), (3, .int y3), (4, .int y4), (5, .int y5)] [] σ := by
  intro n
  induction n with
  | zero => intro y3 y4 y5 σ h0; cases h0
  | succ n ih => intro y3 y4 y5 σ h0; exact bb_Evening_calmTill_119 C hr hk hd hR hp0 ih h0
def s_Evening_calmTill_83_b (p0 : Nat) (p1 : Int32) (rec83 : Int32 → Int32 → Int32 → LH → Option (Int32 × LH)) (y3 : Int32) (y4 : Int32) (y5 : Int32) (σ : LH) : Option (Int32 × LH) :=
  if (σ.1 4 1) ≤ y5 then (
   s_Evening_calmTill_119 p0 p1 FUEL y3 y4 0 σ)
  else (
   if ib y5 8 then (
   xb2 (s_Evening_earlier y4 (σ.1 (p0 + 2) (Int32.toNatClampNeg y5)) y3 σ) fun r29 σ30 =>
   xl ((y5 + 1) : Int32) fun x31 =>
   rec83 y3 r29 x31 σ30) else none)
def s_Evening_calmTill_83 (p0 : Nat) (p1 : Int32) : Nat → Int32 → Int32 → Int32 → LH → Option (Int32 × LH)
  | 0, _, _, _, _ => none
  | n + 1, y3, y4, y5, σ => s_Evening_calmTill_83_b p0 p1 (s_Evening_calmTill_83 p0 p1 n) y3 y4 y5 σ
theorem bb_Evening_calmTill_83 {G : XG} {l : Launch} {p : Program} {e : Env} {R : Room} {s : State} {m : MethodId} {args : Array Value} {below : List Frame} {meth : Method} {c : Code} (C : XC G 1 570 p s m args c prog_3_method_10_code 6 R_Evening) (hr : meth.sig.returnType = (some .int)) (hk : meth.locks = false) {d : Nat} (hd : 2 ≤ d + 1) (hR : xroom R (d + 1)) {p0 : Nat} {p1 : Int32} (hp0 : p0 ∈ xHalls) {rec83 : Int32 → Int32 → Int32 → LH → Option (Int32 × LH)} {σ' : LH} {r : Int32} (hrec83 : ∀ (y3 : Int32) (y4 : Int32) (y5 : Int32) (σ : LH), rec83 y3 y4 y5 σ = some (r, σ') → XJ G 1 570 p l e R s m args below meth c 6 (XQ G 1 570 below args s (some (.int r)) σ') 0 0 83 [(0, .ref (G.2.2.1 + 38)), (1, .ref (G.2.2.1 + p0)), (3, .int y3), (4, .int y4), (5, .int y5)] [] σ) {y3 : Int32} {y4 : Int32} {y5 : Int32} {σ : LH} (h0 : s_Evening_calmTill_83_b p0 p1 rec83 y3 y4 y5 σ = some (r, σ')) : XJ G 1 570 p l e R s m args below meth c 6 (XQ G 1 570 below args s (some (.int r)) σ') 0 0 83 [(0, .ref (G.2.2.1 + 38)), (1, .ref (G.2.2.1 + p0)), (3, .int y3), (4, .int y4), (5, .int y5)] [] σ := by
  replace h0 := (show _ = _ from h0)
  unfold s_Evening_calmTill_83_b at h0
  refine x_iload C d_Evening_calmTill_83 4 rfl ?_
  refine x_aload_n C d_Evening_calmTill_85 0 rfl ?_
  refine x_getA (y := 4) C fg_Evening_28 k_38 rfl d_Evening_calmTill_86 ?_
  refine x_getI (y := 0) C fg_Evening_40 k_4 rfl d_Evening_calmTill_89 ?_
  refine x_icmp_ge C 116 d_Evening_calmTill_92 (by decide) (fun q16 => ?_) (fun q16 => ?_)
  · replace h0 := xit q16 h0
    refine x_iconst (v := 0) C d_Evening_calmTill_116 (by decide) ?_
    refine x_istore (lv' := [(5, .int 0), (0, .ref (G.2.2.1 + 38)), (1, .ref (G.2.2.1 + p0)), (3, .int y3), (4, .int y4)]) C d_Evening_calmTill_117 (by decide) rfl ?_
    exact x_lv C [1, 3, 4, 0] rfl (b_Evening_calmTill_119 C hr hk hd hR hp0 FUEL _ _ _ _ h0)
  · replace h0 := xif q16 h0
    refine x_iload C d_Evening_calmTill_95 3 rfl ?_
    refine x_aload_n C d_Evening_calmTill_97 1 rfl ?_
    refine x_getR (y := 2) C fg_Evening_119 (hl_0 hp0) rfl d_Evening_calmTill_98 ?_
    refine x_iload C d_Evening_calmTill_101 4 rfl ?_
    obtain ⟨g27, h0⟩ := xgo h0
    refine x_iald C (hl_2 hp0) (ib_in g27) d_Evening_calmTill_103 ?_
    refine x_iload_n C d_Evening_calmTill_104 2 rfl ?_
    obtain ⟨r29, σ30, k28, h0⟩ := xbind2 h0
    refine x_callSi C hR (c_Evening_earlier (d := d) (by omega) k28) cw_Evening_110 w_1170 rfl rfl (Nat.le_of_ble_eq_true rfl) ⟨Nat.zero_le _, Nat.zero_le _⟩ d_Evening_calmTill_105 ?_
    refine x_istore (lv' := [(4, .int r29), (0, .ref (G.2.2.1 + 38)), (1, .ref (G.2.2.1 + p0)), (3, .int y3), (5, .int y5)]) C d_Evening_calmTill_108 (by decide) rfl ?_
    obtain ⟨x31, ex31, h0⟩ := xlet h0
    refine x_iinc (lv' := [(5, .int x31), (4, .int r29), (0, .ref (G.2.2.1 + 38)), (1, .ref (G.2.2.1 + p0)), (3, .int y3)]) C d_Evening_calmTill_110 4 rfl ex31 (by decide) rfl ?_
    refine x_goto C 83 d_Evening_calmTill_113 (by decide) ?_
    exact x_lv C [2, 3, 4, 1, 0] rfl (hrec83 _ _ _ _ h0)
theorem b_Evening_calmTill_83 {G : XG} {l : Launch} {p : Program} {e : Env} {R : Room} {s : State} {m : MethodId} {args : Array Value} {below : List Frame} {meth : Method} {c : Code} (C : XC G 1 570 p s m args c prog_3_method_10_code 6 R_Evening) (hr : meth.sig.returnType = (some .int)) (hk : meth.locks = false) {d : Nat} (hd : 2 ≤ d + 1) (hR : xroom R (d + 1)) {p0 : Nat} {p1 : Int32} (hp0 : p0 ∈ xHalls) {σ' : LH} {r : Int32} : ∀ (n : Nat) (y3 : Int32) (y4 : Int32) (y5 : Int32) (σ : LH), s_Evening_calmTill_83 p0 p1 n y3 y4 y5 σ = some (r, σ') → XJ G 1 570 p l e R s m args below meth c 6 (XQ G 1 570 below args s (some (.int r)) σ') 0 0 83 [(0, .ref (G.2.2.1 + 38)), (1, .ref (G.2.2.1 + p0)), (3, .int y3), (4, .int y4), (5, .int y5)] [] σ := by
  intro n
  induction n with
  | zero => intro y3 y4 y5 σ h0; cases h0
  | succ n ih => intro y3 y4 y5 σ h0; exact bb_Evening_calmTill_83 C hr hk hd hR hp0 ih h0
def s_Evening_calmTill_47_b (p0 : Nat) (p1 : Int32) (rec47 : Int32 → Int32 → Int32 → LH → Option (Int32 × LH)) (y3 : Int32) (y4 : Int32) (y5 : Int32) (σ : LH) : Option (Int32 × LH) :=
  if (σ.1 4 0) ≤ y5 then (
   s_Evening_calmTill_83 p0 p1 FUEL y3 y4 0 σ)
  else (
   if ib y5 8 then (
   xb2 (s_Evening_earlier y4 (σ.1 (p0 + 7) (Int32.toNatClampNeg y5)) y3 σ) fun r34 σ35 =>
   xl ((y5 + 1) : Int32) fun x36 =>
   rec47 y3 r34 x36 σ35) else none)
def s_Evening_calmTill_47 (p0 : Nat) (p1 : Int32) : Nat → Int32 → Int32 → Int32 → LH → Option (Int32 × LH)
  | 0, _, _, _, _ => none
  | n + 1, y3, y4, y5, σ => s_Evening_calmTill_47_b p0 p1 (s_Evening_calmTill_47 p0 p1 n) y3 y4 y5 σ
theorem bb_Evening_calmTill_47 {G : XG} {l : Launch} {p : Program} {e : Env} {R : Room} {s : State} {m : MethodId} {args : Array Value} {below : List Frame} {meth : Method} {c : Code} (C : XC G 1 570 p s m args c prog_3_method_10_code 6 R_Evening) (hr : meth.sig.returnType = (some .int)) (hk : meth.locks = false) {d : Nat} (hd : 2 ≤ d + 1) (hR : xroom R (d + 1)) {p0 : Nat} {p1 : Int32} (hp0 : p0 ∈ xHalls) {rec47 : Int32 → Int32 → Int32 → LH → Option (Int32 × LH)} {σ' : LH} {r : Int32} (hrec47 : ∀ (y3 : Int32) (y4 : Int32) (y5 : Int32) (σ : LH), rec47 y3 y4 y5 σ = some (r, σ') → XJ G 1 570 p l e R s m args below meth c 6 (XQ G 1 570 below args s (some (.int r)) σ') 0 0 47 [(0, .ref (G.2.2.1 + 38)), (1, .ref (G.2.2.1 + p0)), (3, .int y3), (4, .int y4), (5, .int y5)] [] σ) {y3 : Int32} {y4 : Int32} {y5 : Int32} {σ : LH} (h0 : s_Evening_calmTill_47_b p0 p1 rec47 y3 y4 y5 σ = some (r, σ')) : XJ G 1 570 p l e R s m args below meth c 6 (XQ G 1 570 below args s (some (.int r)) σ') 0 0 47 [(0, .ref (G.2.2.1 + 38)), (1, .ref (G.2.2.1 + p0)), (3, .int y3), (4, .int y4), (5, .int y5)] [] σ := by
  replace h0 := (show _ = _ from h0)
  unfold s_Evening_calmTill_47_b at h0
  refine x_iload C d_Evening_calmTill_47 4 rfl ?_
  refine x_aload_n C d_Evening_calmTill_49 0 rfl ?_
  refine x_getA (y := 4) C fg_Evening_28 k_38 rfl d_Evening_calmTill_50 ?_
  refine x_getI (y := 0) C fg_Evening_113 k_4 rfl d_Evening_calmTill_53 ?_
  refine x_icmp_ge C 80 d_Evening_calmTill_56 (by decide) (fun q15 => ?_) (fun q15 => ?_)
  · replace h0 := xit q15 h0
    refine x_iconst (v := 0) C d_Evening_calmTill_80 (by decide) ?_
    refine x_istore (lv' := [(5, .int 0), (0, .ref (G.2.2.1 + 38)), (1, .ref (G.2.2.1 + p0)), (3, .int y3), (4, .int y4)]) C d_Evening_calmTill_81 (by decide) rfl ?_
    exact x_lv C [1, 2, 3, 4, 0] rfl (b_Evening_calmTill_83 C hr hk hd hR hp0 FUEL _ _ _ _ h0)
  · replace h0 := xif q15 h0
    refine x_iload C d_Evening_calmTill_59 3 rfl ?_
    refine x_aload_n C d_Evening_calmTill_61 1 rfl ?_
    refine x_getR (y := 7) C fg_Evening_116 (hl_0 hp0) rfl d_Evening_calmTill_62 ?_
    refine x_iload C d_Evening_calmTill_65 4 rfl ?_
    obtain ⟨g32, h0⟩ := xgo h0
    refine x_iald C (hl_7 hp0) (ib_in g32) d_Evening_calmTill_67 ?_
    refine x_iload_n C d_Evening_calmTill_68 2 rfl ?_
    obtain ⟨r34, σ35, k33, h0⟩ := xbind2 h0
    refine x_callSi C hR (c_Evening_earlier (d := d) (by omega) k33) cw_Evening_110 w_1170 rfl rfl (Nat.le_of_ble_eq_true rfl) ⟨Nat.zero_le _, Nat.zero_le _⟩ d_Evening_calmTill_69 ?_
    refine x_istore (lv' := [(4, .int r34), (0, .ref (G.2.2.1 + 38)), (1, .ref (G.2.2.1 + p0)), (3, .int y3), (5, .int y5)]) C d_Evening_calmTill_72 (by decide) rfl ?_
    obtain ⟨x36, ex36, h0⟩ := xlet h0
    refine x_iinc (lv' := [(5, .int x36), (4, .int r34), (0, .ref (G.2.2.1 + 38)), (1, .ref (G.2.2.1 + p0)), (3, .int y3)]) C d_Evening_calmTill_74 4 rfl ex36 (by decide) rfl ?_
    refine x_goto C 47 d_Evening_calmTill_77 (by decide) ?_
    exact x_lv C [2, 3, 4, 1, 0] rfl (hrec47 _ _ _ _ h0)
theorem b_Evening_calmTill_47 {G : XG} {l : Launch} {p : Program} {e : Env} {R : Room} {s : State} {m : MethodId} {args : Array Value} {below : List Frame} {meth : Method} {c : Code} (C : XC G 1 570 p s m args c prog_3_method_10_code 6 R_Evening) (hr : meth.sig.returnType = (some .int)) (hk : meth.locks = false) {d : Nat} (hd : 2 ≤ d + 1) (hR : xroom R (d + 1)) {p0 : Nat} {p1 : Int32} (hp0 : p0 ∈ xHalls) {σ' : LH} {r : Int32} : ∀ (n : Nat) (y3 : Int32) (y4 : Int32) (y5 : Int32) (σ : LH), s_Evening_calmTill_47 p0 p1 n y3 y4 y5 σ = some (r, σ') → XJ G 1 570 p l e R s m args below meth c 6 (XQ G 1 570 below args s (some (.int r)) σ') 0 0 47 [(0, .ref (G.2.2.1 + 38)), (1, .ref (G.2.2.1 + p0)), (3, .int y3), (4, .int y4), (5, .int y5)] [] σ := by
  intro n
  induction n with
  | zero => intro y3 y4 y5 σ h0; cases h0
  | succ n ih => intro y3 y4 y5 σ h0; exact bb_Evening_calmTill_47 C hr hk hd hR hp0 ih h0
def s_Evening_calmTill (p0 : Nat) (p1 : Int32) (σ : LH) : Option (Int32 × LH) :=
  xl (((σ.1 p0 7)) : Int32) fun x1 =>
  xb2 (s_Likings_row x1 σ) fun r3 σ4 =>
  xb2 (s_Likings_mark r3 σ4) fun r6 σ7 =>
  if (σ.1 p0 10) = r6 then (
   xb2 (s_Likings_till x1 σ7) fun r10 σ11 =>
   xb2 (s_Evening_earlier p1 r10 x1 σ11) fun r13 σ14 =>
   s_Evening_calmTill_47 p0 p1 FUEL x1 r13 0 σ14)
  else (
   some (x1, σ7))
theorem c_Evening_calmTill {G : XG} {l : Launch} {d : Nat} (hd : 2 ≤ d) {p0 : Nat} {p1 : Int32} (hp0 : p0 ∈ xHalls) {σ σ' : LH} {r : Int32} (h0 : s_Evening_calmTill p0 p1 σ = some (r, σ')) : xM G 1 570 l y_Evening_calmTill prog_3_method_10_code 6 (some .int) d [.ref (G.2.2.1 + 38), .ref (G.2.2.1 + p0), .int p1] σ (some (.int r)) σ' := by
  obtain ⟨d, rfl⟩ : ∃ q, d = q + 1 := ⟨d - 1, by omega⟩
  refine x_met R_Evening rfl (by decide +kernel) (Nat.le_of_ble_eq_true rfl) fun p e s m below meth c C hr hk hR => ?_
  refine x_lv (lv' := [(0, .ref (G.2.2.1 + 38)), (1, .ref (G.2.2.1 + p0)), (2, .int p1)]) C [0, 1, 2] rfl ?_
  generalize xrm (d + 1) = R at hR ⊢
  unfold s_Evening_calmTill at h0
  refine x_aload_n C d_Evening_calmTill_0 1 rfl ?_
  refine x_getI (y := 0) C fg_Evening_62 (hl_0 hp0) rfl d_Evening_calmTill_1 ?_
  obtain ⟨x1, ex1, h0⟩ := xlet h0
  refine x_name C ex1 ?_
  refine x_istore_n (lv' := [(3, .int x1), (0, .ref (G.2.2.1 + 38)), (1, .ref (G.2.2.1 + p0)), (2, .int p1)]) C d_Evening_calmTill_4 rfl (by decide) rfl ?_
  refine x_aload_n C d_Evening_calmTill_5 2 rfl ?_
  refine x_getI (y := 0) C fg_Evening_101 (hl_0 hp0) rfl d_Evening_calmTill_6 ?_
  refine x_aload_n C d_Evening_calmTill_9 1 rfl ?_
  refine x_getA (y := 33) C fg_Evening_32 k_38 rfl d_Evening_calmTill_10 ?_
  refine x_aload_n C d_Evening_calmTill_13 1 rfl ?_
  refine x_getA (y := 33) C fg_Evening_32 k_38 rfl d_Evening_calmTill_14 ?_
  refine x_iload_n C d_Evening_calmTill_17 0 rfl ?_
  obtain ⟨r3, σ4, k2, h0⟩ := xbind2 h0
  refine x_callVi C hR (c_Likings_row (d := d) (by omega) k2) cw_Evening_77 k_33 rfl rfl rfl (Nat.le_of_ble_eq_true rfl) ⟨Nat.zero_le _, Nat.zero_le _⟩ d_Evening_calmTill_18 ?_
  obtain ⟨r6, σ7, k5, h0⟩ := xbind2 h0
  refine x_callVi C hR (c_Likings_mark (d := d) (by omega) k5) cw_Evening_104 k_33 rfl rfl rfl (Nat.le_of_ble_eq_true rfl) ⟨Nat.zero_le _, Nat.zero_le _⟩ d_Evening_calmTill_21 ?_
  refine x_icmp_eq C 29 d_Evening_calmTill_24 (by decide) (fun q8 => ?_) (fun q8 => ?_)
  · replace h0 := xit q8 h0
    refine x_iload_n C d_Evening_calmTill_29 3 rfl ?_
    refine x_aload_n C d_Evening_calmTill_30 1 rfl ?_
    refine x_getA (y := 33) C fg_Evening_32 k_38 rfl d_Evening_calmTill_31 ?_
    refine x_iload_n C d_Evening_calmTill_34 0 rfl ?_
    obtain ⟨r10, σ11, k9, h0⟩ := xbind2 h0
    refine x_callVi C hR (c_Likings_till (d := d) (by omega) k9) cw_Evening_107 k_33 rfl rfl rfl (Nat.le_of_ble_eq_true rfl) ⟨Nat.zero_le _, Nat.zero_le _⟩ d_Evening_calmTill_35 ?_
    refine x_iload_n C d_Evening_calmTill_38 0 rfl ?_
    obtain ⟨r13, σ14, k12, h0⟩ := xbind2 h0
    refine x_callSi C hR (c_Evening_earlier (d := d) (by omega) k12) cw_Evening_110 w_1170 rfl rfl (Nat.le_of_ble_eq_true rfl) ⟨Nat.zero_le _, Nat.zero_le _⟩ d_Evening_calmTill_39 ?_
    refine x_istore (lv' := [(4, .int r13), (3, .int x1), (0, .ref (G.2.2.1 + 38)), (1, .ref (G.2.2.1 + p0)), (2, .int p1)]) C d_Evening_calmTill_42 (by decide) rfl ?_
    refine x_iconst (v := 0) C d_Evening_calmTill_44 (by decide) ?_
    refine x_istore (lv' := [(5, .int 0), (4, .int r13), (3, .int x1), (0, .ref (G.2.2.1 + 38)), (1, .ref (G.2.2.1 + p0)), (2, .int p1)]) C d_Evening_calmTill_45 (by decide) rfl ?_
    exact x_lv C [3, 4, 2, 1, 0] rfl (b_Evening_calmTill_47 C hr hk hd hR hp0 FUEL _ _ _ _ h0)
  · replace h0 := xif q8 h0
    refine x_iload_n C d_Evening_calmTill_27 0 rfl ?_
    exact x_iret C hr hk h0 d_Evening_calmTill_28
-- LostPlaces$Evening.run(LLostPlaces$Hall;I)V
theorem d_Evening_run_0 : decode prog_3_method_7_code 0 = .ok (.iload_n 2, 1) := by decide +kernel
theorem d_Evening_run_1 : decode prog_3_method_7_code 1 = .ok (.aload_n 0, 1) := by decide +kernel
theorem d_Evening_run_2 : decode prog_3_method_7_code 2 = .ok (.getfield 28, 3) := by decide +kernel
theorem d_Evening_run_5 : decode prog_3_method_7_code 5 = .ok (.getfield 59, 3) := by decide +kernel
theorem d_Evening_run_8 : decode prog_3_method_7_code 8 = .ok (.if_icmp .ge 7, 3) := by decide +kernel
theorem d_Evening_run_11 : decode prog_3_method_7_code 11 = .ok (.iload_n 2, 1) := by decide +kernel
theorem d_Evening_run_12 : decode prog_3_method_7_code 12 = .ok (.goto 10, 3) := by decide +kernel
theorem d_Evening_run_15 : decode prog_3_method_7_code 15 = .ok (.aload_n 0, 1) := by decide +kernel
theorem d_Evening_run_16 : decode prog_3_method_7_code 16 = .ok (.getfield 28, 3) := by decide +kernel
theorem d_Evening_run_19 : decode prog_3_method_7_code 19 = .ok (.getfield 59, 3) := by decide +kernel
theorem d_Evening_run_22 : decode prog_3_method_7_code 22 = .ok (.istore_n 3, 1) := by decide +kernel
theorem d_Evening_run_23 : decode prog_3_method_7_code 23 = .ok (.iconst 0, 1) := by decide +kernel
theorem d_Evening_run_24 : decode prog_3_method_7_code 24 = .ok (.istore 4, 2) := by decide +kernel
theorem d_Evening_run_26 : decode prog_3_method_7_code 26 = .ok (.iload 4, 2) := by decide +kernel
theorem d_Evening_run_28 : decode prog_3_method_7_code 28 = .ok (.bipush 100, 2) := by decide +kernel
theorem d_Evening_run_30 : decode prog_3_method_7_code 30 = .ok (.if_icmp .ge 46, 3) := by decide +kernel
theorem d_Evening_run_33 : decode prog_3_method_7_code 33 = .ok (.aload_n 1, 1) := by decide +kernel
theorem d_Evening_run_34 : decode prog_3_method_7_code 34 = .ok (.getfield 62, 3) := by decide +kernel
theorem d_Evening_run_37 : decode prog_3_method_7_code 37 = .ok (.iload_n 3, 1) := by decide +kernel
theorem d_Evening_run_38 : decode prog_3_method_7_code 38 = .ok (.if_icmp .ge 38, 3) := by decide +kernel
theorem d_Evening_run_41 : decode prog_3_method_7_code 41 = .ok (.aload_n 0, 1) := by decide +kernel
theorem d_Evening_run_42 : decode prog_3_method_7_code 42 = .ok (.aload_n 1, 1) := by decide +kernel
theorem d_Evening_run_43 : decode prog_3_method_7_code 43 = .ok (.invokevirtual 65, 3) := by decide +kernel
theorem d_Evening_run_46 : decode prog_3_method_7_code 46 = .ok (.aload_n 0, 1) := by decide +kernel
theorem d_Evening_run_47 : decode prog_3_method_7_code 47 = .ok (.aload_n 1, 1) := by decide +kernel
theorem d_Evening_run_48 : decode prog_3_method_7_code 48 = .ok (.iload_n 3, 1) := by decide +kernel
theorem d_Evening_run_49 : decode prog_3_method_7_code 49 = .ok (.invokevirtual 69, 3) := by decide +kernel
theorem d_Evening_run_52 : decode prog_3_method_7_code 52 = .ok (.istore 5, 2) := by decide +kernel
theorem d_Evening_run_54 : decode prog_3_method_7_code 54 = .ok (.iload 5, 2) := by decide +kernel
theorem d_Evening_run_56 : decode prog_3_method_7_code 56 = .ok (.aload_n 1, 1) := by decide +kernel
theorem d_Evening_run_57 : decode prog_3_method_7_code 57 = .ok (.getfield 62, 3) := by decide +kernel
theorem d_Evening_run_60 : decode prog_3_method_7_code 60 = .ok (.if_icmp .le 10, 3) := by decide +kernel
theorem d_Evening_run_63 : decode prog_3_method_7_code 63 = .ok (.aload_n 0, 1) := by decide +kernel
theorem d_Evening_run_64 : decode prog_3_method_7_code 64 = .ok (.aload_n 1, 1) := by decide +kernel
theorem d_Evening_run_65 : decode prog_3_method_7_code 65 = .ok (.iload 5, 2) := by decide +kernel
theorem d_Evening_run_67 : decode prog_3_method_7_code 67 = .ok (.invokevirtual 73, 3) := by decide +kernel
theorem d_Evening_run_70 : decode prog_3_method_7_code 70 = .ok (.iinc 4 1, 3) := by decide +kernel
theorem d_Evening_run_73 : decode prog_3_method_7_code 73 = .ok (.goto (-47), 3) := by decide +kernel
theorem d_Evening_run_76 : decode prog_3_method_7_code 76 = .ok (.return_, 1) := by decide +kernel
def s_Evening_run_76 (p0 : Nat) (p1 : Int32) (σ : LH) : Option (LH) :=
  some σ
theorem b_Evening_run_76 {G : XG} {l : Launch} {p : Program} {e : Env} {R : Room} {s : State} {m : MethodId} {args : Array Value} {below : List Frame} {meth : Method} {c : Code} (C : XC G 1 570 p s m args c prog_3_method_7_code 6 R_Evening) (hr : meth.sig.returnType = none) (hk : meth.locks = false) {d : Nat} (hd : 5 ≤ d + 1) (hR : xroom R (d + 1)) {p0 : Nat} {p1 : Int32} (hp0 : p0 ∈ xHalls) {σ' : LH} {σ : LH} (h0 : s_Evening_run_76 p0 p1 σ = some σ') : XJ G 1 570 p l e R s m args below meth c 6 (XQ G 1 570 below args s none σ') 0 0 76 [] [] σ := by
  replace h0 := (show _ = _ from h0)
  unfold s_Evening_run_76 at h0
  exact x_vret C hr hk h0 d_Evening_run_76
def s_Evening_run_70 (p0 : Nat) (p1 : Int32) (rec26 : Int32 → Int32 → LH → Option (LH)) (y3 : Int32) (y4 : Int32) (σ : LH) : Option (LH) :=
  xl ((y4 + 1) : Int32) fun x10 =>
  rec26 y3 x10 σ
theorem b_Evening_run_70 {G : XG} {l : Launch} {p : Program} {e : Env} {R : Room} {s : State} {m : MethodId} {args : Array Value} {below : List Frame} {meth : Method} {c : Code} (C : XC G 1 570 p s m args c prog_3_method_7_code 6 R_Evening) (hr : meth.sig.returnType = none) (hk : meth.locks = false) {d : Nat} (hd : 5 ≤ d + 1) (hR : xroom R (d + 1)) {p0 : Nat} {p1 : Int32} (hp0 : p0 ∈ xHalls) {rec26 : Int32 → Int32 → LH → Option (LH)} {σ' : LH} (hrec26 : ∀ (y3 : Int32) (y4 : Int32) (σ : LH), rec26 y3 y4 σ = some σ' → XJ G 1 570 p l e R s m args below meth c 6 (XQ G 1 570 below args s none σ') 0 0 26 [(0, .ref (G.2.2.1 + 38)), (1, .ref (G.2.2.1 + p0)), (3, .int y3), (4, .int y4)] [] σ) {y3 : Int32} {y4 : Int32} {σ : LH} (h0 : s_Evening_run_70 p0 p1 rec26 y3 y4 σ = some σ') : XJ G 1 570 p l e R s m args below meth c 6 (XQ G 1 570 below args s none σ') 0 0 70 [(0, .ref (G.2.2.1 + 38)), (1, .ref (G.2.2.1 + p0)), (3, .int y3), (4, .int y4)] [] σ := by
  replace h0 := (show _ = _ from h0)
  unfold s_Evening_run_70 at h0
  obtain ⟨x10, ex10, h0⟩ := xlet h0
  refine x_iinc (lv' := [(4, .int x10), (0, .ref (G.2.2.1 + 38)), (1, .ref (G.2.2.1 + p0)), (3, .int y3)]) C d_Evening_run_70 3 rfl ex10 (by decide) rfl ?_
  refine x_goto C 26 d_Evening_run_73 (by decide) ?_
  exact x_lv C [1, 2, 3, 0] rfl (hrec26 _ _ _ h0)
def s_Evening_run_26_b (p0 : Nat) (p1 : Int32) (rec26 : Int32 → Int32 → LH → Option (LH)) (y3 : Int32) (y4 : Int32) (σ : LH) : Option (LH) :=
  if 100 ≤ y4 then (
   s_Evening_run_76 p0 p1 σ)
  else (
   if y3 ≤ (σ.1 p0 7) then (
    s_Evening_run_76 p0 p1 σ)
   else (
    xb1 (s_Evening_pass p0 σ) fun σ5 =>
    xb2 (s_Evening_calmTill p0 y3 σ5) fun r7 σ8 =>
    if r7 ≤ (σ8.1 p0 7) then (
     s_Evening_run_70 p0 p1 rec26 y3 y4 σ8)
    else (
     xb1 (s_Evening_enjoy p0 r7 σ8) fun σ12 =>
     s_Evening_run_70 p0 p1 rec26 y3 y4 σ12)))
def s_Evening_run_26 (p0 : Nat) (p1 : Int32) : Nat → Int32 → Int32 → LH → Option (LH)
  | 0, _, _, _ => none
  | n + 1, y3, y4, σ => s_Evening_run_26_b p0 p1 (s_Evening_run_26 p0 p1 n) y3 y4 σ
theorem bb_Evening_run_26 {G : XG} {l : Launch} {p : Program} {e : Env} {R : Room} {s : State} {m : MethodId} {args : Array Value} {below : List Frame} {meth : Method} {c : Code} (C : XC G 1 570 p s m args c prog_3_method_7_code 6 R_Evening) (hr : meth.sig.returnType = none) (hk : meth.locks = false) {d : Nat} (hd : 5 ≤ d + 1) (hR : xroom R (d + 1)) {p0 : Nat} {p1 : Int32} (hp0 : p0 ∈ xHalls) {rec26 : Int32 → Int32 → LH → Option (LH)} {σ' : LH} (hrec26 : ∀ (y3 : Int32) (y4 : Int32) (σ : LH), rec26 y3 y4 σ = some σ' → XJ G 1 570 p l e R s m args below meth c 6 (XQ G 1 570 below args s none σ') 0 0 26 [(0, .ref (G.2.2.1 + 38)), (1, .ref (G.2.2.1 + p0)), (3, .int y3), (4, .int y4)] [] σ) {y3 : Int32} {y4 : Int32} {σ : LH} (h0 : s_Evening_run_26_b p0 p1 rec26 y3 y4 σ = some σ') : XJ G 1 570 p l e R s m args below meth c 6 (XQ G 1 570 below args s none σ') 0 0 26 [(0, .ref (G.2.2.1 + 38)), (1, .ref (G.2.2.1 + p0)), (3, .int y3), (4, .int y4)] [] σ := by
  replace h0 := (show _ = _ from h0)
  unfold s_Evening_run_26_b at h0
  refine x_iload C d_Evening_run_26 3 rfl ?_
  refine x_bipush (v := 100) C d_Evening_run_28 (by decide) ?_
  refine x_icmp_ge C 76 d_Evening_run_30 (by decide) (fun q2 => ?_) (fun q2 => ?_)
  · replace h0 := xit q2 h0
    exact x_lv C [] rfl (b_Evening_run_76 C hr hk hd hR hp0 h0)
  · replace h0 := xif q2 h0
    refine x_aload_n C d_Evening_run_33 1 rfl ?_
    refine x_getI (y := 0) C fg_Evening_62 (hl_0 hp0) rfl d_Evening_run_34 ?_
    refine x_iload_n C d_Evening_run_37 2 rfl ?_
    refine x_icmp_ge C 76 d_Evening_run_38 (by decide) (fun q3 => ?_) (fun q3 => ?_)
    · replace h0 := xit q3 h0
      exact x_lv C [] rfl (b_Evening_run_76 C hr hk hd hR hp0 h0)
    · replace h0 := xif q3 h0
      refine x_aload_n C d_Evening_run_41 0 rfl ?_
      refine x_aload_n C d_Evening_run_42 1 rfl ?_
      obtain ⟨σ5, k4, h0⟩ := xbind1 h0
      refine x_callVv C hR (c_Evening_pass (d := d) (by omega) hp0 k4) cw_Evening_65 k_38 rfl rfl rfl (Nat.le_of_ble_eq_true rfl) ⟨Nat.zero_le _, Nat.zero_le _⟩ d_Evening_run_43 ?_
      refine x_aload_n C d_Evening_run_46 0 rfl ?_
      refine x_aload_n C d_Evening_run_47 1 rfl ?_
      refine x_iload_n C d_Evening_run_48 2 rfl ?_
      obtain ⟨r7, σ8, k6, h0⟩ := xbind2 h0
      refine x_callVi C hR (c_Evening_calmTill (d := d) (by omega) hp0 k6) cw_Evening_69 k_38 rfl rfl rfl (Nat.le_of_ble_eq_true rfl) ⟨Nat.zero_le _, Nat.zero_le _⟩ d_Evening_run_49 ?_
      refine x_istore (lv' := [(5, .int r7), (0, .ref (G.2.2.1 + 38)), (1, .ref (G.2.2.1 + p0)), (3, .int y3), (4, .int y4)]) C d_Evening_run_52 (by decide) rfl ?_
      refine x_iload C d_Evening_run_54 0 rfl ?_
      refine x_aload_n C d_Evening_run_56 2 rfl ?_
      refine x_getI (y := 0) C fg_Evening_62 (hl_0 hp0) rfl d_Evening_run_57 ?_
      refine x_icmp_le C 70 d_Evening_run_60 (by decide) (fun q9 => ?_) (fun q9 => ?_)
      · replace h0 := xit q9 h0
        exact x_lv C [1, 2, 3, 4] rfl (b_Evening_run_70 C hr hk hd hR hp0 hrec26 h0)
      · replace h0 := xif q9 h0
        refine x_aload_n C d_Evening_run_63 1 rfl ?_
        refine x_aload_n C d_Evening_run_64 2 rfl ?_
        refine x_iload C d_Evening_run_65 0 rfl ?_
        obtain ⟨σ12, k11, h0⟩ := xbind1 h0
        refine x_callVv C hR (c_Evening_enjoy (d := d) (by omega) hp0 k11) cw_Evening_73 k_38 rfl rfl rfl (Nat.le_of_ble_eq_true rfl) ⟨Nat.zero_le _, Nat.zero_le _⟩ d_Evening_run_67 ?_
        exact x_lv C [1, 2, 3, 4] rfl (b_Evening_run_70 C hr hk hd hR hp0 hrec26 h0)
theorem b_Evening_run_26 {G : XG} {l : Launch} {p : Program} {e : Env} {R : Room} {s : State} {m : MethodId} {args : Array Value} {below : List Frame} {meth : Method} {c : Code} (C : XC G 1 570 p s m args c prog_3_method_7_code 6 R_Evening) (hr : meth.sig.returnType = none) (hk : meth.locks = false) {d : Nat} (hd : 5 ≤ d + 1) (hR : xroom R (d + 1)) {p0 : Nat} {p1 : Int32} (hp0 : p0 ∈ xHalls) {σ' : LH} : ∀ (n : Nat) (y3 : Int32) (y4 : Int32) (σ : LH), s_Evening_run_26 p0 p1 n y3 y4 σ = some σ' → XJ G 1 570 p l e R s m args below meth c 6 (XQ G 1 570 below args s none σ') 0 0 26 [(0, .ref (G.2.2.1 + 38)), (1, .ref (G.2.2.1 + p0)), (3, .int y3), (4, .int y4)] [] σ := by
  intro n
  induction n with
  | zero => intro y3 y4 σ h0; cases h0
  | succ n ih => intro y3 y4 σ h0; exact bb_Evening_run_26 C hr hk hd hR hp0 ih h0
def s_Evening_run_22 (p0 : Nat) (p1 : Int32) (z0 : Int32) (σ : LH) : Option (LH) :=
  s_Evening_run_26 p0 p1 FUEL z0 0 σ
theorem b_Evening_run_22 {G : XG} {l : Launch} {p : Program} {e : Env} {R : Room} {s : State} {m : MethodId} {args : Array Value} {below : List Frame} {meth : Method} {c : Code} (C : XC G 1 570 p s m args c prog_3_method_7_code 6 R_Evening) (hr : meth.sig.returnType = none) (hk : meth.locks = false) {d : Nat} (hd : 5 ≤ d + 1) (hR : xroom R (d + 1)) {p0 : Nat} {p1 : Int32} (hp0 : p0 ∈ xHalls) {σ' : LH} {z0 : Int32} {σ : LH} (h0 : s_Evening_run_22 p0 p1 z0 σ = some σ') : XJ G 1 570 p l e R s m args below meth c 6 (XQ G 1 570 below args s none σ') 0 0 22 [(0, .ref (G.2.2.1 + 38)), (1, .ref (G.2.2.1 + p0))] [.int z0] σ := by
  replace h0 := (show _ = _ from h0)
  unfold s_Evening_run_22 at h0
  refine x_istore_n (lv' := [(3, .int z0), (0, .ref (G.2.2.1 + 38)), (1, .ref (G.2.2.1 + p0))]) C d_Evening_run_22 rfl (by decide) rfl ?_
  refine x_iconst (v := 0) C d_Evening_run_23 (by decide) ?_
  refine x_istore (lv' := [(4, .int 0), (3, .int z0), (0, .ref (G.2.2.1 + 38)), (1, .ref (G.2.2.1 + p0))]) C d_Evening_run_24 (by decide) rfl ?_
  exact x_lv C [2, 3, 1, 0] rfl (b_Evening_run_26 C hr hk hd hR hp0 FUEL _ _ _ h0)
def s_Evening_run (p0 : Nat) (p1 : Int32) (σ : LH) : Option (LH) :=
  if (σ.1 4 15) ≤ p1 then (
   s_Evening_run_22 p0 p1 (σ.1 4 15) σ)
  else (
   s_Evening_run_22 p0 p1 p1 σ)
theorem c_Evening_run {G : XG} {l : Launch} {d : Nat} (hd : 5 ≤ d) {p0 : Nat} {p1 : Int32} (hp0 : p0 ∈ xHalls) {σ σ' : LH} (h0 : s_Evening_run p0 p1 σ = some σ') : xM G 1 570 l y_Evening_run prog_3_method_7_code 6 none d [.ref (G.2.2.1 + 38), .ref (G.2.2.1 + p0), .int p1] σ none σ' := by
  obtain ⟨d, rfl⟩ : ∃ q, d = q + 1 := ⟨d - 1, by omega⟩
  refine x_met R_Evening rfl (by decide +kernel) (Nat.le_of_ble_eq_true rfl) fun p e s m below meth c C hr hk hR => ?_
  refine x_lv (lv' := [(0, .ref (G.2.2.1 + 38)), (1, .ref (G.2.2.1 + p0)), (2, .int p1)]) C [0, 1, 2] rfl ?_
  generalize xrm (d + 1) = R at hR ⊢
  unfold s_Evening_run at h0
  refine x_iload_n C d_Evening_run_0 2 rfl ?_
  refine x_aload_n C d_Evening_run_1 0 rfl ?_
  refine x_getA (y := 4) C fg_Evening_28 k_38 rfl d_Evening_run_2 ?_
  refine x_getI (y := 0) C fg_Evening_59 k_4 rfl d_Evening_run_5 ?_
  refine x_icmp_ge C 15 d_Evening_run_8 (by decide) (fun q1 => ?_) (fun q1 => ?_)
  · replace h0 := xit q1 h0
    refine x_aload_n C d_Evening_run_15 0 rfl ?_
    refine x_getA (y := 4) C fg_Evening_28 k_38 rfl d_Evening_run_16 ?_
    refine x_getI (y := 0) C fg_Evening_59 k_4 rfl d_Evening_run_19 ?_
    exact x_lv C [0, 1] rfl (b_Evening_run_22 C hr hk hd hR hp0 h0)
  · replace h0 := xif q1 h0
    refine x_iload_n C d_Evening_run_11 2 rfl ?_
    refine x_goto C 22 d_Evening_run_12 (by decide) ?_
    exact x_lv C [0, 1] rfl (b_Evening_run_22 C hr hk hd hR hp0 h0)
-- LostPlaces$Guess.pass(I)V
theorem d_Guess_pass_0 : decode prog_5_method_2_code 0 = .ok (.aload_n 0, 1) := by decide +kernel
theorem d_Guess_pass_1 : decode prog_5_method_2_code 1 = .ok (.getfield 12, 3) := by decide +kernel
theorem d_Guess_pass_4 : decode prog_5_method_2_code 4 = .ok (.aload_n 0, 1) := by decide +kernel
theorem d_Guess_pass_5 : decode prog_5_method_2_code 5 = .ok (.getfield 37, 3) := by decide +kernel
theorem d_Guess_pass_8 : decode prog_5_method_2_code 8 = .ok (.invokevirtual 40, 3) := by decide +kernel
theorem d_Guess_pass_11 : decode prog_5_method_2_code 11 = .ok (.aload_n 0, 1) := by decide +kernel
theorem d_Guess_pass_12 : decode prog_5_method_2_code 12 = .ok (.getfield 33, 3) := by decide +kernel
theorem d_Guess_pass_15 : decode prog_5_method_2_code 15 = .ok (.aload_n 0, 1) := by decide +kernel
theorem d_Guess_pass_16 : decode prog_5_method_2_code 16 = .ok (.getfield 12, 3) := by decide +kernel
theorem d_Guess_pass_19 : decode prog_5_method_2_code 19 = .ok (.aload_n 0, 1) := by decide +kernel
theorem d_Guess_pass_20 : decode prog_5_method_2_code 20 = .ok (.getfield 37, 3) := by decide +kernel
theorem d_Guess_pass_23 : decode prog_5_method_2_code 23 = .ok (.getfield 44, 3) := by decide +kernel
theorem d_Guess_pass_26 : decode prog_5_method_2_code 26 = .ok (.iload_n 1, 1) := by decide +kernel
theorem d_Guess_pass_27 : decode prog_5_method_2_code 27 = .ok (.iadd, 1) := by decide +kernel
theorem d_Guess_pass_28 : decode prog_5_method_2_code 28 = .ok (.invokevirtual 47, 3) := by decide +kernel
theorem d_Guess_pass_31 : decode prog_5_method_2_code 31 = .ok (.return_, 1) := by decide +kernel
def s_Guess_pass (p0 : Int32) (σ : LH) : Option (LH) :=
  xb1 (s_Hall_beginAs 59 39 σ) fun σ2 =>
  xb1 (s_Evening_run 59 ((σ2.1 39 7) + p0) σ2) fun σ4 =>
  some σ4
theorem c_Guess_pass {G : XG} {l : Launch} {d : Nat} (hd : 6 ≤ d) {p0 : Int32} {σ σ' : LH} (h0 : s_Guess_pass p0 σ = some σ') : xM G 1 570 l y_Guess_pass prog_5_method_2_code 2 none d [.ref (G.2.2.1 + 58), .int p0] σ none σ' := by
  obtain ⟨d, rfl⟩ : ∃ q, d = q + 1 := ⟨d - 1, by omega⟩
  refine x_met R_Guess rfl (by decide +kernel) (Nat.le_of_ble_eq_true rfl) fun p e s m below meth c C hr hk hR => ?_
  refine x_lv (lv' := [(0, .ref (G.2.2.1 + 58)), (1, .int p0)]) C [0, 1] rfl ?_
  generalize xrm (d + 1) = R at hR ⊢
  unfold s_Guess_pass at h0
  refine x_aload_n C d_Guess_pass_0 0 rfl ?_
  refine x_getA (y := 59) C fg_Guess_12 k_58 rfl d_Guess_pass_1 ?_
  refine x_aload_n C d_Guess_pass_4 0 rfl ?_
  refine x_getA (y := 39) C fg_Guess_37 k_58 rfl d_Guess_pass_5 ?_
  obtain ⟨σ2, k1, h0⟩ := xbind1 h0
  refine x_callVv C hR (c_Hall_beginAs (d := d) (by omega) (show 59 ∈ xHalls by decide) (show 39 ∈ xHalls by decide) k1) cw_Guess_40 k_59 rfl rfl rfl (Nat.le_of_ble_eq_true rfl) ⟨Nat.zero_le _, Nat.zero_le _⟩ d_Guess_pass_8 ?_
  refine x_aload_n C d_Guess_pass_11 0 rfl ?_
  refine x_getA (y := 38) C fg_Guess_33 k_58 rfl d_Guess_pass_12 ?_
  refine x_aload_n C d_Guess_pass_15 0 rfl ?_
  refine x_getA (y := 59) C fg_Guess_12 k_58 rfl d_Guess_pass_16 ?_
  refine x_aload_n C d_Guess_pass_19 0 rfl ?_
  refine x_getA (y := 39) C fg_Guess_37 k_58 rfl d_Guess_pass_20 ?_
  refine x_getI (y := 0) C fg_Guess_44 k_39 rfl d_Guess_pass_23 ?_
  refine x_iload_n C d_Guess_pass_26 1 rfl ?_
  refine x_iadd C d_Guess_pass_27 ?_
  obtain ⟨σ4, k3, h0⟩ := xbind1 h0
  refine x_callVv C hR (c_Evening_run (d := d) (by omega) (show 59 ∈ xHalls by decide) k3) cw_Guess_47 k_38 rfl rfl rfl (Nat.le_of_ble_eq_true rfl) ⟨Nat.zero_le _, Nat.zero_le _⟩ d_Guess_pass_28 ?_
  exact x_vret C hr hk h0 d_Guess_pass_31
-- LostPlaces.ahead(III)I
theorem d_Main_ahead_0 : decode prog_1_method_30_code 0 = .ok (.aload_n 0, 1) := by decide +kernel
theorem d_Main_ahead_1 : decode prog_1_method_30_code 1 = .ok (.iload_n 1, 1) := by decide +kernel
theorem d_Main_ahead_2 : decode prog_1_method_30_code 2 = .ok (.invokevirtual 186, 3) := by decide +kernel
theorem d_Main_ahead_5 : decode prog_1_method_30_code 5 = .ok (.ifCond .eq 22, 3) := by decide +kernel
theorem d_Main_ahead_8 : decode prog_1_method_30_code 8 = .ok (.iload_n 2, 1) := by decide +kernel
theorem d_Main_ahead_9 : decode prog_1_method_30_code 9 = .ok (.ifCond .lt 18, 3) := by decide +kernel
theorem d_Main_ahead_12 : decode prog_1_method_30_code 12 = .ok (.iload_n 2, 1) := by decide +kernel
theorem d_Main_ahead_13 : decode prog_1_method_30_code 13 = .ok (.aload_n 0, 1) := by decide +kernel
theorem d_Main_ahead_14 : decode prog_1_method_30_code 14 = .ok (.invokevirtual 247, 3) := by decide +kernel
theorem d_Main_ahead_17 : decode prog_1_method_30_code 17 = .ok (.if_icmp .gt 10, 3) := by decide +kernel
theorem d_Main_ahead_20 : decode prog_1_method_30_code 20 = .ok (.iload_n 3, 1) := by decide +kernel
theorem d_Main_ahead_21 : decode prog_1_method_30_code 21 = .ok (.invokestatic 283, 3) := by decide +kernel
theorem d_Main_ahead_24 : decode prog_1_method_30_code 24 = .ok (.ifCond .eq 6, 3) := by decide +kernel
theorem d_Main_ahead_27 : decode prog_1_method_30_code 27 = .ok (.ldc 226, 2) := by decide +kernel
theorem d_Main_ahead_29 : decode prog_1_method_30_code 29 = .ok (.ireturn, 1) := by decide +kernel
theorem d_Main_ahead_30 : decode prog_1_method_30_code 30 = .ok (.aload_n 0, 1) := by decide +kernel
theorem d_Main_ahead_31 : decode prog_1_method_30_code 31 = .ok (.getfield 105, 3) := by decide +kernel
theorem d_Main_ahead_34 : decode prog_1_method_30_code 34 = .ok (.iload_n 2, 1) := by decide +kernel
theorem d_Main_ahead_35 : decode prog_1_method_30_code 35 = .ok (.invokevirtual 286, 3) := by decide +kernel
theorem d_Main_ahead_38 : decode prog_1_method_30_code 38 = .ok (.iload_n 3, 1) := by decide +kernel
theorem d_Main_ahead_39 : decode prog_1_method_30_code 39 = .ok (.ifCond .ne 18, 3) := by decide +kernel
theorem d_Main_ahead_42 : decode prog_1_method_30_code 42 = .ok (.aload_n 0, 1) := by decide +kernel
theorem d_Main_ahead_43 : decode prog_1_method_30_code 43 = .ok (.getfield 105, 3) := by decide +kernel
theorem d_Main_ahead_46 : decode prog_1_method_30_code 46 = .ok (.getfield 289, 3) := by decide +kernel
theorem d_Main_ahead_49 : decode prog_1_method_30_code 49 = .ok (.getfield 196, 3) := by decide +kernel
theorem d_Main_ahead_52 : decode prog_1_method_30_code 52 = .ok (.iload_n 1, 1) := by decide +kernel
theorem d_Main_ahead_53 : decode prog_1_method_30_code 53 = .ok (.iaload, 1) := by decide +kernel
theorem d_Main_ahead_54 : decode prog_1_method_30_code 54 = .ok (.goto 15, 3) := by decide +kernel
theorem d_Main_ahead_57 : decode prog_1_method_30_code 57 = .ok (.aload_n 0, 1) := by decide +kernel
theorem d_Main_ahead_58 : decode prog_1_method_30_code 58 = .ok (.getfield 105, 3) := by decide +kernel
theorem d_Main_ahead_61 : decode prog_1_method_30_code 61 = .ok (.getfield 289, 3) := by decide +kernel
theorem d_Main_ahead_64 : decode prog_1_method_30_code 64 = .ok (.getfield 211, 3) := by decide +kernel
theorem d_Main_ahead_67 : decode prog_1_method_30_code 67 = .ok (.iload_n 1, 1) := by decide +kernel
theorem d_Main_ahead_68 : decode prog_1_method_30_code 68 = .ok (.iaload, 1) := by decide +kernel
theorem d_Main_ahead_69 : decode prog_1_method_30_code 69 = .ok (.ireturn, 1) := by decide +kernel
def s_Main_ahead_27 (p0 : Int32) (p1 : Int32) (p2 : Int32) (σ : LH) : Option (Int32 × LH) :=
  some ((-1000000), σ)
theorem b_Main_ahead_27 {G : XG} {l : Launch} {p : Program} {e : Env} {R : Room} {s : State} {m : MethodId} {args : Array Value} {below : List Frame} {meth : Method} {c : Code} (C : XC G 1 570 p s m args c prog_1_method_30_code 4 R_Main) (hr : meth.sig.returnType = (some .int)) (hk : meth.locks = false) {d : Nat} (hd : 7 ≤ d + 1) (hR : xroom R (d + 1)) {p0 : Int32} {p1 : Int32} {p2 : Int32} {σ' : LH} {r : Int32} {σ : LH} (h0 : s_Main_ahead_27 p0 p1 p2 σ = some (r, σ')) : XJ G 1 570 p l e R s m args below meth c 4 (XQ G 1 570 below args s (some (.int r)) σ') 0 0 27 [] [] σ := by
  replace h0 := (show _ = _ from h0)
  unfold s_Main_ahead_27 at h0
  refine x_ldc (v := (-1000000)) C w_982 d_Main_ahead_27 ?_
  exact x_iret C hr hk h0 d_Main_ahead_29
def s_Main_ahead_69 (p0 : Int32) (p1 : Int32) (p2 : Int32) (z0 : Int32) (σ : LH) : Option (Int32 × LH) :=
  some (z0, σ)
theorem b_Main_ahead_69 {G : XG} {l : Launch} {p : Program} {e : Env} {R : Room} {s : State} {m : MethodId} {args : Array Value} {below : List Frame} {meth : Method} {c : Code} (C : XC G 1 570 p s m args c prog_1_method_30_code 4 R_Main) (hr : meth.sig.returnType = (some .int)) (hk : meth.locks = false) {d : Nat} (hd : 7 ≤ d + 1) (hR : xroom R (d + 1)) {p0 : Int32} {p1 : Int32} {p2 : Int32} {σ' : LH} {r : Int32} {z0 : Int32} {σ : LH} (h0 : s_Main_ahead_69 p0 p1 p2 z0 σ = some (r, σ')) : XJ G 1 570 p l e R s m args below meth c 4 (XQ G 1 570 below args s (some (.int r)) σ') 0 0 69 [] [.int z0] σ := by
  replace h0 := (show _ = _ from h0)
  unfold s_Main_ahead_69 at h0
  exact x_iret C hr hk h0 d_Main_ahead_69
def s_Main_ahead (p0 : Int32) (p1 : Int32) (p2 : Int32) (σ : LH) : Option (Int32 × LH) :=
  xb2 (s_Main_isSitter p0 σ) fun r2 σ3 =>
  if r2 = 0 then (
   s_Main_ahead_27 p0 p1 p2 σ3)
  else (
   if p1 < 0 then (
    s_Main_ahead_27 p0 p1 p2 σ3)
   else (
    xb2 (s_Main_minutesLeft σ3) fun r7 σ8 =>
    if r7 < p1 then (
     s_Main_ahead_27 p0 p1 p2 σ8)
    else (
     xb2 (s_Main_isNoChoice p2 σ8) fun r11 σ12 =>
     if r11 = 0 then (
      xb1 (s_Guess_pass p1 σ12) fun σ15 =>
      if p2 = 0 then (
       if ib p0 8 then (
       s_Main_ahead_69 p0 p1 p2 (σ15.1 60 (Int32.toNatClampNeg p0)) σ15) else none)
      else (
       if ib p0 8 then (
       s_Main_ahead_69 p0 p1 p2 (σ15.1 63 (Int32.toNatClampNeg p0)) σ15) else none))
     else (
      s_Main_ahead_27 p0 p1 p2 σ12))))
theorem c_Main_ahead {G : XG} {l : Launch} {d : Nat} (hd : 7 ≤ d) {p0 : Int32} {p1 : Int32} {p2 : Int32} {σ σ' : LH} {r : Int32} (h0 : s_Main_ahead p0 p1 p2 σ = some (r, σ')) : xM G 1 570 l y_Main_ahead prog_1_method_30_code 4 (some .int) d [.ref (G.2.2.1 + 1), .int p0, .int p1, .int p2] σ (some (.int r)) σ' := by
  obtain ⟨d, rfl⟩ : ∃ q, d = q + 1 := ⟨d - 1, by omega⟩
  refine x_met R_Main rfl (by decide +kernel) (Nat.le_of_ble_eq_true rfl) fun p e s m below meth c C hr hk hR => ?_
  refine x_lv (lv' := [(0, .ref (G.2.2.1 + 1)), (1, .int p0), (2, .int p1), (3, .int p2)]) C [0, 1, 2, 3] rfl ?_
  generalize xrm (d + 1) = R at hR ⊢
  unfold s_Main_ahead at h0
  refine x_aload_n C d_Main_ahead_0 0 rfl ?_
  refine x_iload_n C d_Main_ahead_1 1 rfl ?_
  obtain ⟨r2, σ3, k1, h0⟩ := xbind2 h0
  refine x_callVi C hR (c_Main_isSitter (d := d) (by omega) k1) cw_Main_186 k_1 rfl rfl rfl (Nat.le_of_ble_eq_true rfl) ⟨Nat.zero_le _, Nat.zero_le _⟩ d_Main_ahead_2 ?_
  refine x_if_eq C 27 d_Main_ahead_5 (by decide) (fun q4 => ?_) (fun q4 => ?_)
  · replace h0 := xit q4 h0
    exact x_lv C [] rfl (b_Main_ahead_27 C hr hk hd hR h0)
  · replace h0 := xif q4 h0
    refine x_iload_n C d_Main_ahead_8 2 rfl ?_
    refine x_if_lt C 27 d_Main_ahead_9 (by decide) (fun q5 => ?_) (fun q5 => ?_)
    · replace h0 := xit q5 h0
      exact x_lv C [] rfl (b_Main_ahead_27 C hr hk hd hR h0)
    · replace h0 := xif q5 h0
      refine x_iload_n C d_Main_ahead_12 2 rfl ?_
      refine x_aload_n C d_Main_ahead_13 0 rfl ?_
      obtain ⟨r7, σ8, k6, h0⟩ := xbind2 h0
      refine x_callVi C hR (c_Main_minutesLeft (d := d) (by omega) k6) cw_Main_247 k_1 rfl rfl rfl (Nat.le_of_ble_eq_true rfl) ⟨Nat.zero_le _, Nat.zero_le _⟩ d_Main_ahead_14 ?_
      refine x_icmp_gt C 27 d_Main_ahead_17 (by decide) (fun q9 => ?_) (fun q9 => ?_)
      · replace h0 := xit q9 h0
        exact x_lv C [] rfl (b_Main_ahead_27 C hr hk hd hR h0)
      · replace h0 := xif q9 h0
        refine x_iload_n C d_Main_ahead_20 3 rfl ?_
        obtain ⟨r11, σ12, k10, h0⟩ := xbind2 h0
        refine x_callSi C hR (c_Main_isNoChoice (d := d) (by omega) k10) cw_Main_283 w_1149 rfl rfl (Nat.le_of_ble_eq_true rfl) ⟨Nat.zero_le _, Nat.zero_le _⟩ d_Main_ahead_21 ?_
        refine x_if_eq C 30 d_Main_ahead_24 (by decide) (fun q13 => ?_) (fun q13 => ?_)
        · replace h0 := xit q13 h0
          refine x_aload_n C d_Main_ahead_30 0 rfl ?_
          refine x_getA (y := 58) C fg_Main_105 k_1 rfl d_Main_ahead_31 ?_
          refine x_iload_n C d_Main_ahead_34 2 rfl ?_
          obtain ⟨σ15, k14, h0⟩ := xbind1 h0
          refine x_callVv C hR (c_Guess_pass (d := d) (by omega) k14) cw_Main_286 k_58 rfl rfl rfl (Nat.le_of_ble_eq_true rfl) ⟨Nat.zero_le _, Nat.zero_le _⟩ d_Main_ahead_35 ?_
          refine x_iload_n C d_Main_ahead_38 3 rfl ?_
          refine x_if_ne C 57 d_Main_ahead_39 (by decide) (fun q16 => ?_) (fun q16 => ?_)
          · replace h0 := xif q16 h0
            refine x_aload_n C d_Main_ahead_57 0 rfl ?_
            refine x_getA (y := 58) C fg_Main_105 k_1 rfl d_Main_ahead_58 ?_
            refine x_getA (y := 59) C fg_Main_289 k_58 rfl d_Main_ahead_61 ?_
            refine x_getR (y := 4) C fg_Main_211 k_59 rfl d_Main_ahead_64 ?_
            show XJ _ _ _ _ _ _ _ _ _ _ _ _ _ _ _ _ _ _ _ (.ref (G.2.2.1 + 63) :: _) _
            refine x_iload_n C d_Main_ahead_67 1 rfl ?_
            obtain ⟨g18, h0⟩ := xgo h0
            refine x_iald C k_63 (ib_in g18) d_Main_ahead_68 ?_
            exact x_lv C [] rfl (b_Main_ahead_69 C hr hk hd hR h0)
          · replace h0 := xit q16 h0
            refine x_aload_n C d_Main_ahead_42 0 rfl ?_
            refine x_getA (y := 58) C fg_Main_105 k_1 rfl d_Main_ahead_43 ?_
            refine x_getA (y := 59) C fg_Main_289 k_58 rfl d_Main_ahead_46 ?_
            refine x_getR (y := 1) C fg_Main_196 k_59 rfl d_Main_ahead_49 ?_
            show XJ _ _ _ _ _ _ _ _ _ _ _ _ _ _ _ _ _ _ _ (.ref (G.2.2.1 + 60) :: _) _
            refine x_iload_n C d_Main_ahead_52 1 rfl ?_
            obtain ⟨g17, h0⟩ := xgo h0
            refine x_iald C k_60 (ib_in g17) d_Main_ahead_53 ?_
            refine x_goto C 69 d_Main_ahead_54 (by decide) ?_
            exact x_lv C [] rfl (b_Main_ahead_69 C hr hk hd hR h0)
        · replace h0 := xif q13 h0
          exact x_lv C [] rfl (b_Main_ahead_27 C hr hk hd hR h0)
-- LostPlaces$Hall.sitterOn(I)I
theorem d_Hall_sitterOn_0 : decode prog_6_method_8_code 0 = .ok (.iload_n 1, 1) := by decide +kernel
theorem d_Hall_sitterOn_1 : decode prog_6_method_8_code 1 = .ok (.invokestatic 72, 3) := by decide +kernel
theorem d_Hall_sitterOn_4 : decode prog_6_method_8_code 4 = .ok (.ifCond .eq 12, 3) := by decide +kernel
theorem d_Hall_sitterOn_7 : decode prog_6_method_8_code 7 = .ok (.aload_n 0, 1) := by decide +kernel
theorem d_Hall_sitterOn_8 : decode prog_6_method_8_code 8 = .ok (.getfield 24, 3) := by decide +kernel
theorem d_Hall_sitterOn_11 : decode prog_6_method_8_code 11 = .ok (.iload_n 1, 1) := by decide +kernel
theorem d_Hall_sitterOn_12 : decode prog_6_method_8_code 12 = .ok (.iaload, 1) := by decide +kernel
theorem d_Hall_sitterOn_13 : decode prog_6_method_8_code 13 = .ok (.goto 4, 3) := by decide +kernel
theorem d_Hall_sitterOn_16 : decode prog_6_method_8_code 16 = .ok (.iconst (-1), 1) := by decide +kernel
theorem d_Hall_sitterOn_17 : decode prog_6_method_8_code 17 = .ok (.ireturn, 1) := by decide +kernel
def s_Hall_sitterOn_17 (h : Nat) (p0 : Int32) (z0 : Int32) (σ : LH) : Option (Int32 × LH) :=
  some (z0, σ)
theorem b_Hall_sitterOn_17 {G : XG} {l : Launch} {p : Program} {e : Env} {R : Room} {s : State} {m : MethodId} {args : Array Value} {below : List Frame} {meth : Method} {c : Code} (C : XC G 1 570 p s m args c prog_6_method_8_code 2 R_Hall) (hr : meth.sig.returnType = (some .int)) (hk : meth.locks = false) {d : Nat} (hd : 2 ≤ d + 1) (hR : xroom R (d + 1)) {h : Nat} {p0 : Int32} (hh : h ∈ xHalls) {σ' : LH} {r : Int32} {z0 : Int32} {σ : LH} (h0 : s_Hall_sitterOn_17 h p0 z0 σ = some (r, σ')) : XJ G 1 570 p l e R s m args below meth c 2 (XQ G 1 570 below args s (some (.int r)) σ') 0 0 17 [] [.int z0] σ := by
  replace h0 := (show _ = _ from h0)
  unfold s_Hall_sitterOn_17 at h0
  exact x_iret C hr hk h0 d_Hall_sitterOn_17
def s_Hall_sitterOn (h : Nat) (p0 : Int32) (σ : LH) : Option (Int32 × LH) :=
  xb2 (s_Hall_isSeat p0 σ) fun r2 σ3 =>
  if r2 = 0 then (
   s_Hall_sitterOn_17 h p0 (-1) σ3)
  else (
   if ib p0 8 then (
   s_Hall_sitterOn_17 h p0 (σ3.1 (h + 5) (Int32.toNatClampNeg p0)) σ3) else none)
theorem c_Hall_sitterOn {G : XG} {l : Launch} {d : Nat} (hd : 2 ≤ d) {h : Nat} {p0 : Int32} (hh : h ∈ xHalls) {σ σ' : LH} {r : Int32} (h0 : s_Hall_sitterOn h p0 σ = some (r, σ')) : xM G 1 570 l y_Hall_sitterOn prog_6_method_8_code 2 (some .int) d [.ref (G.2.2.1 + h), .int p0] σ (some (.int r)) σ' := by
  obtain ⟨d, rfl⟩ : ∃ q, d = q + 1 := ⟨d - 1, by omega⟩
  refine x_met R_Hall rfl (by decide +kernel) (Nat.le_of_ble_eq_true rfl) fun p e s m below meth c C hr hk hR => ?_
  refine x_lv (lv' := [(0, .ref (G.2.2.1 + h)), (1, .int p0)]) C [0, 1] rfl ?_
  generalize xrm (d + 1) = R at hR ⊢
  unfold s_Hall_sitterOn at h0
  refine x_iload_n C d_Hall_sitterOn_0 1 rfl ?_
  obtain ⟨r2, σ3, k1, h0⟩ := xbind2 h0
  refine x_callSi C hR (c_Hall_isSeat (d := d) (by omega) k1) cw_Hall_72 w_1023 rfl rfl (Nat.le_of_ble_eq_true rfl) ⟨Nat.zero_le _, Nat.zero_le _⟩ d_Hall_sitterOn_1 ?_
  refine x_if_eq C 16 d_Hall_sitterOn_4 (by decide) (fun q4 => ?_) (fun q4 => ?_)
  · replace h0 := xit q4 h0
    refine x_iconst (v := (-1)) C d_Hall_sitterOn_16 (by decide) ?_
    exact x_lv C [] rfl (b_Hall_sitterOn_17 C hr hk hd hR hh h0)
  · replace h0 := xif q4 h0
    refine x_aload_n C d_Hall_sitterOn_7 0 rfl ?_
    refine x_getR (y := 5) C fg_Hall_24 (hl_0 hh) rfl d_Hall_sitterOn_8 ?_
    refine x_iload_n C d_Hall_sitterOn_11 1 rfl ?_
    obtain ⟨g5, h0⟩ := xgo h0
    refine x_iald C (hl_5 hh) (ib_in g5) d_Hall_sitterOn_12 ?_
    refine x_goto C 17 d_Hall_sitterOn_13 (by decide) ?_
    exact x_lv C [] rfl (b_Hall_sitterOn_17 C hr hk hd hR hh h0)
-- LostPlaces$Guess.leave(I)V
theorem d_Guess_leave_0 : decode prog_5_method_3_code 0 = .ok (.aload_n 0, 1) := by decide +kernel
theorem d_Guess_leave_1 : decode prog_5_method_3_code 1 = .ok (.getfield 12, 3) := by decide +kernel
theorem d_Guess_leave_4 : decode prog_5_method_3_code 4 = .ok (.aload_n 0, 1) := by decide +kernel
theorem d_Guess_leave_5 : decode prog_5_method_3_code 5 = .ok (.getfield 37, 3) := by decide +kernel
theorem d_Guess_leave_8 : decode prog_5_method_3_code 8 = .ok (.invokevirtual 40, 3) := by decide +kernel
theorem d_Guess_leave_11 : decode prog_5_method_3_code 11 = .ok (.aload_n 0, 1) := by decide +kernel
theorem d_Guess_leave_12 : decode prog_5_method_3_code 12 = .ok (.getfield 37, 3) := by decide +kernel
theorem d_Guess_leave_15 : decode prog_5_method_3_code 15 = .ok (.getfield 53, 3) := by decide +kernel
theorem d_Guess_leave_18 : decode prog_5_method_3_code 18 = .ok (.iload_n 1, 1) := by decide +kernel
theorem d_Guess_leave_19 : decode prog_5_method_3_code 19 = .ok (.iaload, 1) := by decide +kernel
theorem d_Guess_leave_20 : decode prog_5_method_3_code 20 = .ok (.istore_n 2, 1) := by decide +kernel
theorem d_Guess_leave_21 : decode prog_5_method_3_code 21 = .ok (.aload_n 0, 1) := by decide +kernel
theorem d_Guess_leave_22 : decode prog_5_method_3_code 22 = .ok (.getfield 12, 3) := by decide +kernel
theorem d_Guess_leave_25 : decode prog_5_method_3_code 25 = .ok (.iload_n 1, 1) := by decide +kernel
theorem d_Guess_leave_26 : decode prog_5_method_3_code 26 = .ok (.iconst 1, 1) := by decide +kernel
theorem d_Guess_leave_27 : decode prog_5_method_3_code 27 = .ok (.iconst 1, 1) := by decide +kernel
theorem d_Guess_leave_28 : decode prog_5_method_3_code 28 = .ok (.invokevirtual 57, 3) := by decide +kernel
theorem d_Guess_leave_31 : decode prog_5_method_3_code 31 = .ok (.aload_n 0, 1) := by decide +kernel
theorem d_Guess_leave_32 : decode prog_5_method_3_code 32 = .ok (.aload_n 0, 1) := by decide +kernel
theorem d_Guess_leave_33 : decode prog_5_method_3_code 33 = .ok (.getfield 33, 3) := by decide +kernel
theorem d_Guess_leave_36 : decode prog_5_method_3_code 36 = .ok (.aload_n 0, 1) := by decide +kernel
theorem d_Guess_leave_37 : decode prog_5_method_3_code 37 = .ok (.getfield 12, 3) := by decide +kernel
theorem d_Guess_leave_40 : decode prog_5_method_3_code 40 = .ok (.aload_n 0, 1) := by decide +kernel
theorem d_Guess_leave_41 : decode prog_5_method_3_code 41 = .ok (.getfield 29, 3) := by decide +kernel
theorem d_Guess_leave_44 : decode prog_5_method_3_code 44 = .ok (.aload_n 0, 1) := by decide +kernel
theorem d_Guess_leave_45 : decode prog_5_method_3_code 45 = .ok (.getfield 12, 3) := by decide +kernel
theorem d_Guess_leave_48 : decode prog_5_method_3_code 48 = .ok (.getfield 44, 3) := by decide +kernel
theorem d_Guess_leave_51 : decode prog_5_method_3_code 51 = .ok (.invokevirtual 61, 3) := by decide +kernel
theorem d_Guess_leave_54 : decode prog_5_method_3_code 54 = .ok (.invokevirtual 67, 3) := by decide +kernel
theorem d_Guess_leave_57 : decode prog_5_method_3_code 57 = .ok (.putfield 18, 3) := by decide +kernel
theorem d_Guess_leave_60 : decode prog_5_method_3_code 60 = .ok (.aload_n 0, 1) := by decide +kernel
theorem d_Guess_leave_61 : decode prog_5_method_3_code 61 = .ok (.aload_n 0, 1) := by decide +kernel
theorem d_Guess_leave_62 : decode prog_5_method_3_code 62 = .ok (.getfield 12, 3) := by decide +kernel
theorem d_Guess_leave_65 : decode prog_5_method_3_code 65 = .ok (.iload_n 2, 1) := by decide +kernel
theorem d_Guess_leave_66 : decode prog_5_method_3_code 66 = .ok (.invokevirtual 71, 3) := by decide +kernel
theorem d_Guess_leave_69 : decode prog_5_method_3_code 69 = .ok (.putfield 22, 3) := by decide +kernel
theorem d_Guess_leave_72 : decode prog_5_method_3_code 72 = .ok (.return_, 1) := by decide +kernel
def s_Guess_leave (p0 : Int32) (σ : LH) : Option (LH) :=
  xb1 (s_Hall_beginAs 59 39 σ) fun σ2 =>
  if ib p0 8 then (
  xl (((σ2.1 40 (Int32.toNatClampNeg p0))) : Int32) fun x4 =>
  xb1 (s_Hall_getUp 59 p0 1 1 σ2) fun σ6 =>
  xb2 (s_Likings_row (σ6.1 59 7) σ6) fun r8 σ9 =>
  xb2 (s_Evening_moveUp 59 r8 σ9) fun r11 σ12 =>
  xl ((stI σ12 58 5 r11) : LH) fun σ13 =>
  xb2 (s_Hall_sitterOn 59 x4 σ13) fun r15 σ16 =>
  xl ((stI σ16 58 6 r15) : LH) fun σ17 =>
  some σ17) else none
theorem c_Guess_leave {G : XG} {l : Launch} {d : Nat} (hd : 4 ≤ d) {p0 : Int32} {σ σ' : LH} (h0 : s_Guess_leave p0 σ = some σ') : xM G 1 570 l y_Guess_leave prog_5_method_3_code 3 none d [.ref (G.2.2.1 + 58), .int p0] σ none σ' := by
  obtain ⟨d, rfl⟩ : ∃ q, d = q + 1 := ⟨d - 1, by omega⟩
  refine x_met R_Guess rfl (by decide +kernel) (Nat.le_of_ble_eq_true rfl) fun p e s m below meth c C hr hk hR => ?_
  refine x_lv (lv' := [(0, .ref (G.2.2.1 + 58)), (1, .int p0)]) C [0, 1] rfl ?_
  generalize xrm (d + 1) = R at hR ⊢
  unfold s_Guess_leave at h0
  refine x_aload_n C d_Guess_leave_0 0 rfl ?_
  refine x_getA (y := 59) C fg_Guess_12 k_58 rfl d_Guess_leave_1 ?_
  refine x_aload_n C d_Guess_leave_4 0 rfl ?_
  refine x_getA (y := 39) C fg_Guess_37 k_58 rfl d_Guess_leave_5 ?_
  obtain ⟨σ2, k1, h0⟩ := xbind1 h0
  refine x_callVv C hR (c_Hall_beginAs (d := d) (by omega) (show 59 ∈ xHalls by decide) (show 39 ∈ xHalls by decide) k1) cw_Guess_40 k_59 rfl rfl rfl (Nat.le_of_ble_eq_true rfl) ⟨Nat.zero_le _, Nat.zero_le _⟩ d_Guess_leave_8 ?_
  refine x_aload_n C d_Guess_leave_11 0 rfl ?_
  refine x_getA (y := 39) C fg_Guess_37 k_58 rfl d_Guess_leave_12 ?_
  refine x_getR (y := 1) C fg_Guess_53 k_39 rfl d_Guess_leave_15 ?_
  show XJ _ _ _ _ _ _ _ _ _ _ _ _ _ _ _ _ _ _ _ (.ref (G.2.2.1 + 40) :: _) _
  refine x_iload_n C d_Guess_leave_18 1 rfl ?_
  obtain ⟨g3, h0⟩ := xgo h0
  refine x_iald C k_40 (ib_in g3) d_Guess_leave_19 ?_
  obtain ⟨x4, ex4, h0⟩ := xlet h0
  refine x_name C ex4 ?_
  refine x_istore_n (lv' := [(2, .int x4), (0, .ref (G.2.2.1 + 58)), (1, .int p0)]) C d_Guess_leave_20 rfl (by decide) rfl ?_
  refine x_aload_n C d_Guess_leave_21 1 rfl ?_
  refine x_getA (y := 59) C fg_Guess_12 k_58 rfl d_Guess_leave_22 ?_
  refine x_iload_n C d_Guess_leave_25 2 rfl ?_
  refine x_iconst (v := 1) C d_Guess_leave_26 (by decide) ?_
  refine x_iconst (v := 1) C d_Guess_leave_27 (by decide) ?_
  obtain ⟨σ6, k5, h0⟩ := xbind1 h0
  refine x_callVv C hR (c_Hall_getUp (d := d) (by omega) (show 59 ∈ xHalls by decide) k5) cw_Guess_57 k_59 rfl rfl rfl (Nat.le_of_ble_eq_true rfl) ⟨Nat.zero_le _, Nat.zero_le _⟩ d_Guess_leave_28 ?_
  refine x_aload_n C d_Guess_leave_31 1 rfl ?_
  refine x_aload_n C d_Guess_leave_32 1 rfl ?_
  refine x_getA (y := 38) C fg_Guess_33 k_58 rfl d_Guess_leave_33 ?_
  refine x_aload_n C d_Guess_leave_36 1 rfl ?_
  refine x_getA (y := 59) C fg_Guess_12 k_58 rfl d_Guess_leave_37 ?_
  refine x_aload_n C d_Guess_leave_40 1 rfl ?_
  refine x_getA (y := 33) C fg_Guess_29 k_58 rfl d_Guess_leave_41 ?_
  refine x_aload_n C d_Guess_leave_44 1 rfl ?_
  refine x_getA (y := 59) C fg_Guess_12 k_58 rfl d_Guess_leave_45 ?_
  refine x_getI (y := 0) C fg_Guess_44 k_59 rfl d_Guess_leave_48 ?_
  obtain ⟨r8, σ9, k7, h0⟩ := xbind2 h0
  refine x_callVi C hR (c_Likings_row (d := d) (by omega) k7) cw_Guess_61 k_33 rfl rfl rfl (Nat.le_of_ble_eq_true rfl) ⟨Nat.zero_le _, Nat.zero_le _⟩ d_Guess_leave_51 ?_
  obtain ⟨r11, σ12, k10, h0⟩ := xbind2 h0
  refine x_callVi C hR (c_Evening_moveUp (d := d) (by omega) (show 59 ∈ xHalls by decide) k10) cw_Guess_67 k_38 rfl rfl rfl (Nat.le_of_ble_eq_true rfl) ⟨Nat.zero_le _, Nat.zero_le _⟩ d_Guess_leave_54 ?_
  refine x_putI (y := 0) C fp_Guess_18 k_58 rfl rfl rfl d_Guess_leave_57 ?_
  obtain ⟨σ13, eσ13, h0⟩ := xlet h0
  refine x_sig C eσ13 ?_
  refine x_aload_n C d_Guess_leave_60 1 rfl ?_
  refine x_aload_n C d_Guess_leave_61 1 rfl ?_
  refine x_getA (y := 59) C fg_Guess_12 k_58 rfl d_Guess_leave_62 ?_
  refine x_iload_n C d_Guess_leave_65 0 rfl ?_
  obtain ⟨r15, σ16, k14, h0⟩ := xbind2 h0
  refine x_callVi C hR (c_Hall_sitterOn (d := d) (by omega) (show 59 ∈ xHalls by decide) k14) cw_Guess_71 k_59 rfl rfl rfl (Nat.le_of_ble_eq_true rfl) ⟨Nat.zero_le _, Nat.zero_le _⟩ d_Guess_leave_66 ?_
  refine x_putI (y := 0) C fp_Guess_22 k_58 rfl rfl rfl d_Guess_leave_69 ?_
  obtain ⟨σ17, eσ17, h0⟩ := xlet h0
  refine x_sig C eσ17 ?_
  exact x_vret C hr hk h0 d_Guess_leave_72
-- LostPlaces.chain(II)I
theorem d_Main_chain_0 : decode prog_1_method_31_code 0 = .ok (.aload_n 0, 1) := by decide +kernel
theorem d_Main_chain_1 : decode prog_1_method_31_code 1 = .ok (.iload_n 1, 1) := by decide +kernel
theorem d_Main_chain_2 : decode prog_1_method_31_code 2 = .ok (.invokevirtual 244, 3) := by decide +kernel
theorem d_Main_chain_5 : decode prog_1_method_31_code 5 = .ok (.ifCond .eq 31, 3) := by decide +kernel
theorem d_Main_chain_8 : decode prog_1_method_31_code 8 = .ok (.aload_n 0, 1) := by decide +kernel
theorem d_Main_chain_9 : decode prog_1_method_31_code 9 = .ok (.getfield 79, 3) := by decide +kernel
theorem d_Main_chain_12 : decode prog_1_method_31_code 12 = .ok (.getfield 196, 3) := by decide +kernel
theorem d_Main_chain_15 : decode prog_1_method_31_code 15 = .ok (.iload_n 1, 1) := by decide +kernel
theorem d_Main_chain_16 : decode prog_1_method_31_code 16 = .ok (.iaload, 1) := by decide +kernel
theorem d_Main_chain_17 : decode prog_1_method_31_code 17 = .ok (.iconst (-1), 1) := by decide +kernel
theorem d_Main_chain_18 : decode prog_1_method_31_code 18 = .ok (.if_icmp .eq 18, 3) := by decide +kernel
theorem d_Main_chain_21 : decode prog_1_method_31_code 21 = .ok (.aload_n 0, 1) := by decide +kernel
theorem d_Main_chain_22 : decode prog_1_method_31_code 22 = .ok (.invokevirtual 247, 3) := by decide +kernel
theorem d_Main_chain_25 : decode prog_1_method_31_code 25 = .ok (.iconst 1, 1) := by decide +kernel
theorem d_Main_chain_26 : decode prog_1_method_31_code 26 = .ok (.if_icmp .lt 10, 3) := by decide +kernel
theorem d_Main_chain_29 : decode prog_1_method_31_code 29 = .ok (.iload_n 2, 1) := by decide +kernel
theorem d_Main_chain_30 : decode prog_1_method_31_code 30 = .ok (.invokestatic 283, 3) := by decide +kernel
theorem d_Main_chain_33 : decode prog_1_method_31_code 33 = .ok (.ifCond .eq 6, 3) := by decide +kernel
theorem d_Main_chain_36 : decode prog_1_method_31_code 36 = .ok (.ldc 226, 2) := by decide +kernel
theorem d_Main_chain_38 : decode prog_1_method_31_code 38 = .ok (.ireturn, 1) := by decide +kernel
theorem d_Main_chain_39 : decode prog_1_method_31_code 39 = .ok (.aload_n 0, 1) := by decide +kernel
theorem d_Main_chain_40 : decode prog_1_method_31_code 40 = .ok (.getfield 105, 3) := by decide +kernel
theorem d_Main_chain_43 : decode prog_1_method_31_code 43 = .ok (.iload_n 1, 1) := by decide +kernel
theorem d_Main_chain_44 : decode prog_1_method_31_code 44 = .ok (.invokevirtual 292, 3) := by decide +kernel
theorem d_Main_chain_47 : decode prog_1_method_31_code 47 = .ok (.iload_n 2, 1) := by decide +kernel
theorem d_Main_chain_48 : decode prog_1_method_31_code 48 = .ok (.ifCond .ne 13, 3) := by decide +kernel
theorem d_Main_chain_51 : decode prog_1_method_31_code 51 = .ok (.aload_n 0, 1) := by decide +kernel
theorem d_Main_chain_52 : decode prog_1_method_31_code 52 = .ok (.getfield 105, 3) := by decide +kernel
theorem d_Main_chain_55 : decode prog_1_method_31_code 55 = .ok (.getfield 295, 3) := by decide +kernel
theorem d_Main_chain_58 : decode prog_1_method_31_code 58 = .ok (.goto 10, 3) := by decide +kernel
theorem d_Main_chain_61 : decode prog_1_method_31_code 61 = .ok (.aload_n 0, 1) := by decide +kernel
theorem d_Main_chain_62 : decode prog_1_method_31_code 62 = .ok (.getfield 105, 3) := by decide +kernel
theorem d_Main_chain_65 : decode prog_1_method_31_code 65 = .ok (.getfield 298, 3) := by decide +kernel
theorem d_Main_chain_68 : decode prog_1_method_31_code 68 = .ok (.ireturn, 1) := by decide +kernel
def s_Main_chain_36 (p0 : Int32) (p1 : Int32) (σ : LH) : Option (Int32 × LH) :=
  some ((-1000000), σ)
theorem b_Main_chain_36 {G : XG} {l : Launch} {p : Program} {e : Env} {R : Room} {s : State} {m : MethodId} {args : Array Value} {below : List Frame} {meth : Method} {c : Code} (C : XC G 1 570 p s m args c prog_1_method_31_code 3 R_Main) (hr : meth.sig.returnType = (some .int)) (hk : meth.locks = false) {d : Nat} (hd : 5 ≤ d + 1) (hR : xroom R (d + 1)) {p0 : Int32} {p1 : Int32} {σ' : LH} {r : Int32} {σ : LH} (h0 : s_Main_chain_36 p0 p1 σ = some (r, σ')) : XJ G 1 570 p l e R s m args below meth c 3 (XQ G 1 570 below args s (some (.int r)) σ') 0 0 36 [] [] σ := by
  replace h0 := (show _ = _ from h0)
  unfold s_Main_chain_36 at h0
  refine x_ldc (v := (-1000000)) C w_982 d_Main_chain_36 ?_
  exact x_iret C hr hk h0 d_Main_chain_38
def s_Main_chain_68 (p0 : Int32) (p1 : Int32) (z0 : Int32) (σ : LH) : Option (Int32 × LH) :=
  some (z0, σ)
theorem b_Main_chain_68 {G : XG} {l : Launch} {p : Program} {e : Env} {R : Room} {s : State} {m : MethodId} {args : Array Value} {below : List Frame} {meth : Method} {c : Code} (C : XC G 1 570 p s m args c prog_1_method_31_code 3 R_Main) (hr : meth.sig.returnType = (some .int)) (hk : meth.locks = false) {d : Nat} (hd : 5 ≤ d + 1) (hR : xroom R (d + 1)) {p0 : Int32} {p1 : Int32} {σ' : LH} {r : Int32} {z0 : Int32} {σ : LH} (h0 : s_Main_chain_68 p0 p1 z0 σ = some (r, σ')) : XJ G 1 570 p l e R s m args below meth c 3 (XQ G 1 570 below args s (some (.int r)) σ') 0 0 68 [] [.int z0] σ := by
  replace h0 := (show _ = _ from h0)
  unfold s_Main_chain_68 at h0
  exact x_iret C hr hk h0 d_Main_chain_68
def s_Main_chain (p0 : Int32) (p1 : Int32) (σ : LH) : Option (Int32 × LH) :=
  xb2 (s_Main_isHere p0 σ) fun r2 σ3 =>
  if r2 = 0 then (
   s_Main_chain_36 p0 p1 σ3)
  else (
   if ib p0 8 then (
   if (σ3.1 40 (Int32.toNatClampNeg p0)) = (-1) then (
    s_Main_chain_36 p0 p1 σ3)
   else (
    xb2 (s_Main_minutesLeft σ3) fun r8 σ9 =>
    if r8 < 1 then (
     s_Main_chain_36 p0 p1 σ9)
    else (
     xb2 (s_Main_isNoChoice p1 σ9) fun r12 σ13 =>
     if r12 = 0 then (
      xb1 (s_Guess_leave p0 σ13) fun σ16 =>
      if p1 = 0 then (
       s_Main_chain_68 p0 p1 (σ16.1 58 5) σ16)
      else (
       s_Main_chain_68 p0 p1 (σ16.1 58 6) σ16))
     else (
      s_Main_chain_36 p0 p1 σ13)))) else none)
theorem c_Main_chain {G : XG} {l : Launch} {d : Nat} (hd : 5 ≤ d) {p0 : Int32} {p1 : Int32} {σ σ' : LH} {r : Int32} (h0 : s_Main_chain p0 p1 σ = some (r, σ')) : xM G 1 570 l y_Main_chain prog_1_method_31_code 3 (some .int) d [.ref (G.2.2.1 + 1), .int p0, .int p1] σ (some (.int r)) σ' := by
  obtain ⟨d, rfl⟩ : ∃ q, d = q + 1 := ⟨d - 1, by omega⟩
  refine x_met R_Main rfl (by decide +kernel) (Nat.le_of_ble_eq_true rfl) fun p e s m below meth c C hr hk hR => ?_
  refine x_lv (lv' := [(0, .ref (G.2.2.1 + 1)), (1, .int p0), (2, .int p1)]) C [0, 1, 2] rfl ?_
  generalize xrm (d + 1) = R at hR ⊢
  unfold s_Main_chain at h0
  refine x_aload_n C d_Main_chain_0 0 rfl ?_
  refine x_iload_n C d_Main_chain_1 1 rfl ?_
  obtain ⟨r2, σ3, k1, h0⟩ := xbind2 h0
  refine x_callVi C hR (c_Main_isHere (d := d) (by omega) k1) cw_Main_244 k_1 rfl rfl rfl (Nat.le_of_ble_eq_true rfl) ⟨Nat.zero_le _, Nat.zero_le _⟩ d_Main_chain_2 ?_
  refine x_if_eq C 36 d_Main_chain_5 (by decide) (fun q4 => ?_) (fun q4 => ?_)
  · replace h0 := xit q4 h0
    exact x_lv C [] rfl (b_Main_chain_36 C hr hk hd hR h0)
  · replace h0 := xif q4 h0
    refine x_aload_n C d_Main_chain_8 0 rfl ?_
    refine x_getA (y := 39) C fg_Main_79 k_1 rfl d_Main_chain_9 ?_
    refine x_getR (y := 1) C fg_Main_196 k_39 rfl d_Main_chain_12 ?_
    show XJ _ _ _ _ _ _ _ _ _ _ _ _ _ _ _ _ _ _ _ (.ref (G.2.2.1 + 40) :: _) _
    refine x_iload_n C d_Main_chain_15 1 rfl ?_
    obtain ⟨g5, h0⟩ := xgo h0
    refine x_iald C k_40 (ib_in g5) d_Main_chain_16 ?_
    refine x_iconst (v := (-1)) C d_Main_chain_17 (by decide) ?_
    refine x_icmp_eq C 36 d_Main_chain_18 (by decide) (fun q6 => ?_) (fun q6 => ?_)
    · replace h0 := xit q6 h0
      exact x_lv C [] rfl (b_Main_chain_36 C hr hk hd hR h0)
    · replace h0 := xif q6 h0
      refine x_aload_n C d_Main_chain_21 0 rfl ?_
      obtain ⟨r8, σ9, k7, h0⟩ := xbind2 h0
      refine x_callVi C hR (c_Main_minutesLeft (d := d) (by omega) k7) cw_Main_247 k_1 rfl rfl rfl (Nat.le_of_ble_eq_true rfl) ⟨Nat.zero_le _, Nat.zero_le _⟩ d_Main_chain_22 ?_
      refine x_iconst (v := 1) C d_Main_chain_25 (by decide) ?_
      refine x_icmp_lt C 36 d_Main_chain_26 (by decide) (fun q10 => ?_) (fun q10 => ?_)
      · replace h0 := xit q10 h0
        exact x_lv C [] rfl (b_Main_chain_36 C hr hk hd hR h0)
      · replace h0 := xif q10 h0
        refine x_iload_n C d_Main_chain_29 2 rfl ?_
        obtain ⟨r12, σ13, k11, h0⟩ := xbind2 h0
        refine x_callSi C hR (c_Main_isNoChoice (d := d) (by omega) k11) cw_Main_283 w_1149 rfl rfl (Nat.le_of_ble_eq_true rfl) ⟨Nat.zero_le _, Nat.zero_le _⟩ d_Main_chain_30 ?_
        refine x_if_eq C 39 d_Main_chain_33 (by decide) (fun q14 => ?_) (fun q14 => ?_)
        · replace h0 := xit q14 h0
          refine x_aload_n C d_Main_chain_39 0 rfl ?_
          refine x_getA (y := 58) C fg_Main_105 k_1 rfl d_Main_chain_40 ?_
          refine x_iload_n C d_Main_chain_43 1 rfl ?_
          obtain ⟨σ16, k15, h0⟩ := xbind1 h0
          refine x_callVv C hR (c_Guess_leave (d := d) (by omega) k15) cw_Main_292 k_58 rfl rfl rfl (Nat.le_of_ble_eq_true rfl) ⟨Nat.zero_le _, Nat.zero_le _⟩ d_Main_chain_44 ?_
          refine x_iload_n C d_Main_chain_47 2 rfl ?_
          refine x_if_ne C 61 d_Main_chain_48 (by decide) (fun q17 => ?_) (fun q17 => ?_)
          · replace h0 := xif q17 h0
            refine x_aload_n C d_Main_chain_61 0 rfl ?_
            refine x_getA (y := 58) C fg_Main_105 k_1 rfl d_Main_chain_62 ?_
            refine x_getI (y := 0) C fg_Main_298 k_58 rfl d_Main_chain_65 ?_
            exact x_lv C [] rfl (b_Main_chain_68 C hr hk hd hR h0)
          · replace h0 := xit q17 h0
            refine x_aload_n C d_Main_chain_51 0 rfl ?_
            refine x_getA (y := 58) C fg_Main_105 k_1 rfl d_Main_chain_52 ?_
            refine x_getI (y := 0) C fg_Main_295 k_58 rfl d_Main_chain_55 ?_
            refine x_goto C 68 d_Main_chain_58 (by decide) ?_
            exact x_lv C [] rfl (b_Main_chain_68 C hr hk hd hR h0)
        · replace h0 := xif q14 h0
          exact x_lv C [] rfl (b_Main_chain_36 C hr hk hd hR h0)
-- LostPlaces$Evening.addGoing(III)V
theorem d_Evening_addGoing_0 : decode prog_3_method_2_code 0 = .ok (.aload_n 0, 1) := by decide +kernel
theorem d_Evening_addGoing_1 : decode prog_3_method_2_code 1 = .ok (.iload_n 1, 1) := by decide +kernel
theorem d_Evening_addGoing_2 : decode prog_3_method_2_code 2 = .ok (.putfield 15, 3) := by decide +kernel
theorem d_Evening_addGoing_5 : decode prog_3_method_2_code 5 = .ok (.aload_n 0, 1) := by decide +kernel
theorem d_Evening_addGoing_6 : decode prog_3_method_2_code 6 = .ok (.iload_n 2, 1) := by decide +kernel
theorem d_Evening_addGoing_7 : decode prog_3_method_2_code 7 = .ok (.putfield 18, 3) := by decide +kernel
theorem d_Evening_addGoing_10 : decode prog_3_method_2_code 10 = .ok (.aload_n 0, 1) := by decide +kernel
theorem d_Evening_addGoing_11 : decode prog_3_method_2_code 11 = .ok (.iload_n 3, 1) := by decide +kernel
theorem d_Evening_addGoing_12 : decode prog_3_method_2_code 12 = .ok (.putfield 21, 3) := by decide +kernel
theorem d_Evening_addGoing_15 : decode prog_3_method_2_code 15 = .ok (.return_, 1) := by decide +kernel
def s_Evening_addGoing (p0 : Int32) (p1 : Int32) (p2 : Int32) (σ : LH) : Option (LH) :=
  xl ((stI σ 38 3 p0) : LH) fun σ1 =>
  xl ((stI σ1 38 4 p1) : LH) fun σ2 =>
  xl ((stI σ2 38 5 p2) : LH) fun σ3 =>
  some σ3
theorem c_Evening_addGoing {G : XG} {l : Launch} {d : Nat} (hd : 1 ≤ d) {p0 : Int32} {p1 : Int32} {p2 : Int32} {σ σ' : LH} (h0 : s_Evening_addGoing p0 p1 p2 σ = some σ') : xM G 1 570 l y_Evening_addGoing prog_3_method_2_code 4 none d [.ref (G.2.2.1 + 38), .int p0, .int p1, .int p2] σ none σ' := by
  obtain ⟨d, rfl⟩ : ∃ q, d = q + 1 := ⟨d - 1, by omega⟩
  refine x_met R_Evening rfl (by decide +kernel) (Nat.le_of_ble_eq_true rfl) fun p e s m below meth c C hr hk hR => ?_
  refine x_lv (lv' := [(0, .ref (G.2.2.1 + 38)), (1, .int p0), (2, .int p1), (3, .int p2)]) C [0, 1, 2, 3] rfl ?_
  generalize xrm (d + 1) = R at hR ⊢
  unfold s_Evening_addGoing at h0
  refine x_aload_n C d_Evening_addGoing_0 0 rfl ?_
  refine x_iload_n C d_Evening_addGoing_1 1 rfl ?_
  refine x_putI (y := 0) C fp_Evening_15 k_38 rfl rfl rfl d_Evening_addGoing_2 ?_
  obtain ⟨σ1, eσ1, h0⟩ := xlet h0
  refine x_sig C eσ1 ?_
  refine x_aload_n C d_Evening_addGoing_5 0 rfl ?_
  refine x_iload_n C d_Evening_addGoing_6 2 rfl ?_
  refine x_putI (y := 0) C fp_Evening_18 k_38 rfl rfl rfl d_Evening_addGoing_7 ?_
  obtain ⟨σ2, eσ2, h0⟩ := xlet h0
  refine x_sig C eσ2 ?_
  refine x_aload_n C d_Evening_addGoing_10 0 rfl ?_
  refine x_iload_n C d_Evening_addGoing_11 3 rfl ?_
  refine x_putI (y := 0) C fp_Evening_21 k_38 rfl rfl rfl d_Evening_addGoing_12 ?_
  obtain ⟨σ3, eσ3, h0⟩ := xlet h0
  refine x_sig C eσ3 ?_
  exact x_vret C hr hk h0 d_Evening_addGoing_15
