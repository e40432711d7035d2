-- LostPlacesModel.isSitter(I)Z
theorem d_Model_isSitter_0 : decode prog_14_method_40_code 0 = .ok (.iload_n 1, 1) := by decide +kernel
theorem d_Model_isSitter_1 : decode prog_14_method_40_code 1 = .ok (.ifCond .lt 15, 3) := by decide +kernel
theorem d_Model_isSitter_4 : decode prog_14_method_40_code 4 = .ok (.iload_n 1, 1) := by decide +kernel
theorem d_Model_isSitter_5 : decode prog_14_method_40_code 5 = .ok (.aload_n 0, 1) := by decide +kernel
theorem d_Model_isSitter_6 : decode prog_14_method_40_code 6 = .ok (.getfield 305, 3) := by decide +kernel
theorem d_Model_isSitter_9 : decode prog_14_method_40_code 9 = .ok (.if_icmp .ge 7, 3) := by decide +kernel
theorem d_Model_isSitter_12 : decode prog_14_method_40_code 12 = .ok (.iconst 1, 1) := by decide +kernel
theorem d_Model_isSitter_13 : decode prog_14_method_40_code 13 = .ok (.goto 4, 3) := by decide +kernel
theorem d_Model_isSitter_16 : decode prog_14_method_40_code 16 = .ok (.iconst 0, 1) := by decide +kernel
theorem d_Model_isSitter_17 : decode prog_14_method_40_code 17 = .ok (.ireturn, 1) := by decide +kernel
def s_Model_isSitter_17 (p0 : Int32) (z0 : Int32) (σ : LH) : Option (Int32 × LH) :=
  if zb z0 then (
  some (z0, σ)) else none
theorem b_Model_isSitter_17 {G : XG} {l : Launch} {p : Program} {e : Env} {R : Room} {s : State} {m : MethodId} {args : Array Value} {below : List Frame} {meth : Method} {c : Code} (C : XC G 570 598 p s m args c prog_14_method_40_code 2 R_Model) (hr : meth.sig.returnType = (some .boolean)) (hk : meth.locks = false) {d : Nat} (hd : 1 ≤ d + 1) (hR : xroom R (d + 1)) {p0 : Int32} {σ' : LH} {r : Int32} {z0 : Int32} {σ : LH} (h0 : s_Model_isSitter_17 p0 z0 σ = some (r, σ')) : XJ G 570 598 p l e R s m args below meth c 2 (XQ G 570 598 below args s (some (.int r)) σ') 0 0 17 [] [.int z0] σ := by
  replace h0 := (show _ = _ from h0)
  unfold s_Model_isSitter_17 at h0
  obtain ⟨g2, h0⟩ := xgo h0
  exact x_zret C hr hk g2 h0 d_Model_isSitter_17
def s_Model_isSitter_16 (p0 : Int32) (σ : LH) : Option (Int32 × LH) :=
  s_Model_isSitter_17 p0 0 σ
theorem b_Model_isSitter_16 {G : XG} {l : Launch} {p : Program} {e : Env} {R : Room} {s : State} {m : MethodId} {args : Array Value} {below : List Frame} {meth : Method} {c : Code} (C : XC G 570 598 p s m args c prog_14_method_40_code 2 R_Model) (hr : meth.sig.returnType = (some .boolean)) (hk : meth.locks = false) {d : Nat} (hd : 1 ≤ d + 1) (hR : xroom R (d + 1)) {p0 : Int32} {σ' : LH} {r : Int32} {σ : LH} (h0 : s_Model_isSitter_16 p0 σ = some (r, σ')) : XJ G 570 598 p l e R s m args below meth c 2 (XQ G 570 598 below args s (some (.int r)) σ') 0 0 16 [] [] σ := by
  replace h0 := (show _ = _ from h0)
  unfold s_Model_isSitter_16 at h0
  refine x_iconst (v := 0) C d_Model_isSitter_16 (by decide) ?_
  exact x_lv C [] rfl (b_Model_isSitter_17 C hr hk hd hR h0)
def s_Model_isSitter (p0 : Int32) (σ : LH) : Option (Int32 × LH) :=
  if p0 < 0 then (
   s_Model_isSitter_16 p0 σ)
  else (
   if (σ.1 570 27) ≤ p0 then (
    s_Model_isSitter_16 p0 σ)
   else (
    s_Model_isSitter_17 p0 1 σ))
theorem c_Model_isSitter {G : XG} {l : Launch} {d : Nat} (hd : 1 ≤ d) {p0 : Int32} {σ σ' : LH} {r : Int32} (h0 : s_Model_isSitter p0 σ = some (r, σ')) : xM G 570 598 l y_Model_isSitter prog_14_method_40_code 2 (some .boolean) d [.ref (G.2.2.1 + 570), .int p0] σ (some (.int r)) σ' := by
  obtain ⟨d, rfl⟩ : ∃ q, d = q + 1 := ⟨d - 1, by omega⟩
  refine x_met R_Model rfl (by decide +kernel) (Nat.le_of_ble_eq_true rfl) fun p e s m below meth c C hr hk hR => ?_
  refine x_lv (lv' := [(0, .ref (G.2.2.1 + 570)), (1, .int p0)]) C [0, 1] rfl ?_
  generalize xrm (d + 1) = R at hR ⊢
  unfold s_Model_isSitter at h0
  refine x_iload_n C d_Model_isSitter_0 1 rfl ?_
  refine x_if_lt C 16 d_Model_isSitter_1 (by decide) (fun q1 => ?_) (fun q1 => ?_)
  · replace h0 := xit q1 h0
    exact x_lv C [] rfl (b_Model_isSitter_16 C hr hk hd hR h0)
  · replace h0 := xif q1 h0
    refine x_iload_n C d_Model_isSitter_4 1 rfl ?_
    refine x_aload_n C d_Model_isSitter_5 0 rfl ?_
    refine x_getI (y := 0) C fg_Model_305 k_570 rfl d_Model_isSitter_6 ?_
    refine x_icmp_ge C 16 d_Model_isSitter_9 (by decide) (fun q3 => ?_) (fun q3 => ?_)
    · replace h0 := xit q3 h0
      exact x_lv C [] rfl (b_Model_isSitter_16 C hr hk hd hR h0)
    · replace h0 := xif q3 h0
      refine x_iconst (v := 1) C d_Model_isSitter_12 (by decide) ?_
      refine x_goto C 17 d_Model_isSitter_13 (by decide) ?_
      exact x_lv C [] rfl (b_Model_isSitter_17 C hr hk hd hR h0)
-- LostPlacesModel.isSeat(I)Z
theorem d_Model_isSeat_0 : decode prog_14_method_41_code 0 = .ok (.iload_n 1, 1) := by decide +kernel
theorem d_Model_isSeat_1 : decode prog_14_method_41_code 1 = .ok (.ifCond .lt 15, 3) := by decide +kernel
theorem d_Model_isSeat_4 : decode prog_14_method_41_code 4 = .ok (.iload_n 1, 1) := by decide +kernel
theorem d_Model_isSeat_5 : decode prog_14_method_41_code 5 = .ok (.aload_n 0, 1) := by decide +kernel
theorem d_Model_isSeat_6 : decode prog_14_method_41_code 6 = .ok (.getfield 302, 3) := by decide +kernel
theorem d_Model_isSeat_9 : decode prog_14_method_41_code 9 = .ok (.if_icmp .ge 7, 3) := by decide +kernel
theorem d_Model_isSeat_12 : decode prog_14_method_41_code 12 = .ok (.iconst 1, 1) := by decide +kernel
theorem d_Model_isSeat_13 : decode prog_14_method_41_code 13 = .ok (.goto 4, 3) := by decide +kernel
theorem d_Model_isSeat_16 : decode prog_14_method_41_code 16 = .ok (.iconst 0, 1) := by decide +kernel
theorem d_Model_isSeat_17 : decode prog_14_method_41_code 17 = .ok (.ireturn, 1) := by decide +kernel
def s_Model_isSeat_17 (p0 : Int32) (z0 : Int32) (σ : LH) : Option (Int32 × LH) :=
  if zb z0 then (
  some (z0, σ)) else none
theorem b_Model_isSeat_17 {G : XG} {l : Launch} {p : Program} {e : Env} {R : Room} {s : State} {m : MethodId} {args : Array Value} {below : List Frame} {meth : Method} {c : Code} (C : XC G 570 598 p s m args c prog_14_method_41_code 2 R_Model) (hr : meth.sig.returnType = (some .boolean)) (hk : meth.locks = false) {d : Nat} (hd : 1 ≤ d + 1) (hR : xroom R (d + 1)) {p0 : Int32} {σ' : LH} {r : Int32} {z0 : Int32} {σ : LH} (h0 : s_Model_isSeat_17 p0 z0 σ = some (r, σ')) : XJ G 570 598 p l e R s m args below meth c 2 (XQ G 570 598 below args s (some (.int r)) σ') 0 0 17 [] [.int z0] σ := by
  replace h0 := (show _ = _ from h0)
  unfold s_Model_isSeat_17 at h0
  obtain ⟨g2, h0⟩ := xgo h0
  exact x_zret C hr hk g2 h0 d_Model_isSeat_17
def s_Model_isSeat_16 (p0 : Int32) (σ : LH) : Option (Int32 × LH) :=
  s_Model_isSeat_17 p0 0 σ
theorem b_Model_isSeat_16 {G : XG} {l : Launch} {p : Program} {e : Env} {R : Room} {s : State} {m : MethodId} {args : Array Value} {below : List Frame} {meth : Method} {c : Code} (C : XC G 570 598 p s m args c prog_14_method_41_code 2 R_Model) (hr : meth.sig.returnType = (some .boolean)) (hk : meth.locks = false) {d : Nat} (hd : 1 ≤ d + 1) (hR : xroom R (d + 1)) {p0 : Int32} {σ' : LH} {r : Int32} {σ : LH} (h0 : s_Model_isSeat_16 p0 σ = some (r, σ')) : XJ G 570 598 p l e R s m args below meth c 2 (XQ G 570 598 below args s (some (.int r)) σ') 0 0 16 [] [] σ := by
  replace h0 := (show _ = _ from h0)
  unfold s_Model_isSeat_16 at h0
  refine x_iconst (v := 0) C d_Model_isSeat_16 (by decide) ?_
  exact x_lv C [] rfl (b_Model_isSeat_17 C hr hk hd hR h0)
def s_Model_isSeat (p0 : Int32) (σ : LH) : Option (Int32 × LH) :=
  if p0 < 0 then (
   s_Model_isSeat_16 p0 σ)
  else (
   if (σ.1 570 26) ≤ p0 then (
    s_Model_isSeat_16 p0 σ)
   else (
    s_Model_isSeat_17 p0 1 σ))
theorem c_Model_isSeat {G : XG} {l : Launch} {d : Nat} (hd : 1 ≤ d) {p0 : Int32} {σ σ' : LH} {r : Int32} (h0 : s_Model_isSeat p0 σ = some (r, σ')) : xM G 570 598 l y_Model_isSeat prog_14_method_41_code 2 (some .boolean) d [.ref (G.2.2.1 + 570), .int p0] σ (some (.int r)) σ' := by
  obtain ⟨d, rfl⟩ : ∃ q, d = q + 1 := ⟨d - 1, by omega⟩
  refine x_met R_Model rfl (by decide +kernel) (Nat.le_of_ble_eq_true rfl) fun p e s m below meth c C hr hk hR => ?_
  refine x_lv (lv' := [(0, .ref (G.2.2.1 + 570)), (1, .int p0)]) C [0, 1] rfl ?_
  generalize xrm (d + 1) = R at hR ⊢
  unfold s_Model_isSeat at h0
  refine x_iload_n C d_Model_isSeat_0 1 rfl ?_
  refine x_if_lt C 16 d_Model_isSeat_1 (by decide) (fun q1 => ?_) (fun q1 => ?_)
  · replace h0 := xit q1 h0
    exact x_lv C [] rfl (b_Model_isSeat_16 C hr hk hd hR h0)
  · replace h0 := xif q1 h0
    refine x_iload_n C d_Model_isSeat_4 1 rfl ?_
    refine x_aload_n C d_Model_isSeat_5 0 rfl ?_
    refine x_getI (y := 0) C fg_Model_302 k_570 rfl d_Model_isSeat_6 ?_
    refine x_icmp_ge C 16 d_Model_isSeat_9 (by decide) (fun q3 => ?_) (fun q3 => ?_)
    · replace h0 := xit q3 h0
      exact x_lv C [] rfl (b_Model_isSeat_16 C hr hk hd hR h0)
    · replace h0 := xif q3 h0
      refine x_iconst (v := 1) C d_Model_isSeat_12 (by decide) ?_
      refine x_goto C 17 d_Model_isSeat_13 (by decide) ?_
      exact x_lv C [] rfl (b_Model_isSeat_17 C hr hk hd hR h0)
-- LostPlacesModel.isHere([II)Z
theorem d_Model_isHere_0 : decode prog_14_method_42_code 0 = .ok (.aload_n 0, 1) := by decide +kernel
theorem d_Model_isHere_1 : decode prog_14_method_42_code 1 = .ok (.iconst 4, 1) := by decide +kernel
theorem d_Model_isHere_2 : decode prog_14_method_42_code 2 = .ok (.iload_n 1, 1) := by decide +kernel
theorem d_Model_isHere_3 : decode prog_14_method_42_code 3 = .ok (.imul, 1) := by decide +kernel
theorem d_Model_isHere_4 : decode prog_14_method_42_code 4 = .ok (.iaload, 1) := by decide +kernel
theorem d_Model_isHere_5 : decode prog_14_method_42_code 5 = .ok (.bipush (-2), 2) := by decide +kernel
theorem d_Model_isHere_7 : decode prog_14_method_42_code 7 = .ok (.if_icmp .eq 7, 3) := by decide +kernel
theorem d_Model_isHere_10 : decode prog_14_method_42_code 10 = .ok (.iconst 1, 1) := by decide +kernel
theorem d_Model_isHere_11 : decode prog_14_method_42_code 11 = .ok (.goto 4, 3) := by decide +kernel
theorem d_Model_isHere_14 : decode prog_14_method_42_code 14 = .ok (.iconst 0, 1) := by decide +kernel
theorem d_Model_isHere_15 : decode prog_14_method_42_code 15 = .ok (.ireturn, 1) := by decide +kernel
def s_Model_isHere_15 (p0 : Nat) (p1 : Int32) (z0 : Int32) (σ : LH) : Option (Int32 × LH) :=
  if zb z0 then (
  some (z0, σ)) else none
theorem b_Model_isHere_15 {G : XG} {l : Launch} {p : Program} {e : Env} {R : Room} {s : State} {m : MethodId} {args : Array Value} {below : List Frame} {meth : Method} {c : Code} (C : XC G 570 598 p s m args c prog_14_method_42_code 2 R_Model) (hr : meth.sig.returnType = (some .boolean)) (hk : meth.locks = false) {d : Nat} (hd : 1 ≤ d + 1) (hR : xroom R (d + 1)) {p0 : Nat} {p1 : Int32} (hp0 : xin 570 598 p0 (2, 290, 0)) {σ' : LH} {r : Int32} {z0 : Int32} {σ : LH} (h0 : s_Model_isHere_15 p0 p1 z0 σ = some (r, σ')) : XJ G 570 598 p l e R s m args below meth c 2 (XQ G 570 598 below args s (some (.int r)) σ') 0 0 15 [] [.int z0] σ := by
  replace h0 := (show _ = _ from h0)
  unfold s_Model_isHere_15 at h0
  obtain ⟨g3, h0⟩ := xgo h0
  exact x_zret C hr hk g3 h0 d_Model_isHere_15
def s_Model_isHere (p0 : Nat) (p1 : Int32) (σ : LH) : Option (Int32 × LH) :=
  if ib (4 * p1) 290 then (
  if (σ.1 p0 (Int32.toNatClampNeg (4 * p1))) = (-2) then (
   s_Model_isHere_15 p0 p1 0 σ)
  else (
   s_Model_isHere_15 p0 p1 1 σ)) else none
theorem c_Model_isHere {G : XG} {l : Launch} {d : Nat} (hd : 1 ≤ d) {p0 : Nat} {p1 : Int32} (hp0 : xin 570 598 p0 (2, 290, 0)) {σ σ' : LH} {r : Int32} (h0 : s_Model_isHere p0 p1 σ = some (r, σ')) : xM G 570 598 l y_Model_isHere prog_14_method_42_code 2 (some .boolean) d [.ref (G.2.2.1 + p0), .int p1] σ (some (.int r)) σ' := by
  obtain ⟨d, rfl⟩ : ∃ q, d = q + 1 := ⟨d - 1, by omega⟩
  refine x_met R_Model rfl (by decide +kernel) (Nat.le_of_ble_eq_true rfl) fun p e s m below meth c C hr hk hR => ?_
  refine x_lv (lv' := [(0, .ref (G.2.2.1 + p0)), (1, .int p1)]) C [0, 1] rfl ?_
  generalize xrm (d + 1) = R at hR ⊢
  unfold s_Model_isHere at h0
  refine x_aload_n C d_Model_isHere_0 0 rfl ?_
  refine x_iconst (v := 4) C d_Model_isHere_1 (by decide) ?_
  refine x_iload_n C d_Model_isHere_2 1 rfl ?_
  refine x_imul C d_Model_isHere_3 ?_
  obtain ⟨g1, h0⟩ := xgo h0
  refine x_iald C hp0 (ib_in g1) d_Model_isHere_4 ?_
  refine x_bipush (v := (-2)) C d_Model_isHere_5 (by decide) ?_
  refine x_icmp_eq C 14 d_Model_isHere_7 (by decide) (fun q2 => ?_) (fun q2 => ?_)
  · replace h0 := xit q2 h0
    refine x_iconst (v := 0) C d_Model_isHere_14 (by decide) ?_
    exact x_lv C [] rfl (b_Model_isHere_15 C hr hk hd hR hp0 h0)
  · replace h0 := xif q2 h0
    refine x_iconst (v := 1) C d_Model_isHere_10 (by decide) ?_
    refine x_goto C 15 d_Model_isHere_11 (by decide) ?_
    exact x_lv C [] rfl (b_Model_isHere_15 C hr hk hd hR hp0 h0)
-- LostPlacesModel.sitsOn([II)I
theorem d_Model_sitsOn_0 : decode prog_14_method_43_code 0 = .ok (.iconst 0, 1) := by decide +kernel
theorem d_Model_sitsOn_1 : decode prog_14_method_43_code 1 = .ok (.istore_n 3, 1) := by decide +kernel
theorem d_Model_sitsOn_2 : decode prog_14_method_43_code 2 = .ok (.iload_n 3, 1) := by decide +kernel
theorem d_Model_sitsOn_3 : decode prog_14_method_43_code 3 = .ok (.aload_n 0, 1) := by decide +kernel
theorem d_Model_sitsOn_4 : decode prog_14_method_43_code 4 = .ok (.getfield 305, 3) := by decide +kernel
theorem d_Model_sitsOn_7 : decode prog_14_method_43_code 7 = .ok (.if_icmp .ge 20, 3) := by decide +kernel
theorem d_Model_sitsOn_10 : decode prog_14_method_43_code 10 = .ok (.aload_n 1, 1) := by decide +kernel
theorem d_Model_sitsOn_11 : decode prog_14_method_43_code 11 = .ok (.iconst 4, 1) := by decide +kernel
theorem d_Model_sitsOn_12 : decode prog_14_method_43_code 12 = .ok (.iload_n 3, 1) := by decide +kernel
theorem d_Model_sitsOn_13 : decode prog_14_method_43_code 13 = .ok (.imul, 1) := by decide +kernel
theorem d_Model_sitsOn_14 : decode prog_14_method_43_code 14 = .ok (.iaload, 1) := by decide +kernel
theorem d_Model_sitsOn_15 : decode prog_14_method_43_code 15 = .ok (.iload_n 2, 1) := by decide +kernel
theorem d_Model_sitsOn_16 : decode prog_14_method_43_code 16 = .ok (.if_icmp .ne 5, 3) := by decide +kernel
theorem d_Model_sitsOn_19 : decode prog_14_method_43_code 19 = .ok (.iload_n 3, 1) := by decide +kernel
theorem d_Model_sitsOn_20 : decode prog_14_method_43_code 20 = .ok (.ireturn, 1) := by decide +kernel
theorem d_Model_sitsOn_21 : decode prog_14_method_43_code 21 = .ok (.iinc 3 1, 3) := by decide +kernel
theorem d_Model_sitsOn_24 : decode prog_14_method_43_code 24 = .ok (.goto (-22), 3) := by decide +kernel
theorem d_Model_sitsOn_27 : decode prog_14_method_43_code 27 = .ok (.iconst (-1), 1) := by decide +kernel
theorem d_Model_sitsOn_28 : decode prog_14_method_43_code 28 = .ok (.ireturn, 1) := by decide +kernel
def s_Model_sitsOn_2_b (p0 : Nat) (p1 : Int32) (rec2 : Int32 → LH → Option (Int32 × LH)) (y3 : Int32) (σ : LH) : Option (Int32 × LH) :=
  if (σ.1 570 27) ≤ y3 then (
   some ((-1), σ))
  else (
   if ib (4 * y3) 290 then (
   if (σ.1 p0 (Int32.toNatClampNeg (4 * y3))) = p1 then (
    some (y3, σ))
   else (
    xl ((y3 + 1) : Int32) fun x4 =>
    rec2 x4 σ)) else none)
def s_Model_sitsOn_2 (p0 : Nat) (p1 : Int32) : Nat → Int32 → LH → Option (Int32 × LH)
  | 0, _, _ => none
  | n + 1, y3, σ => s_Model_sitsOn_2_b p0 p1 (s_Model_sitsOn_2 p0 p1 n) y3 σ
theorem bb_Model_sitsOn_2 {G : XG} {l : Launch} {p : Program} {e : Env} {R : Room} {s : State} {m : MethodId} {args : Array Value} {below : List Frame} {meth : Method} {c : Code} (C : XC G 570 598 p s m args c prog_14_method_43_code 4 R_Model) (hr : meth.sig.returnType = (some .int)) (hk : meth.locks = false) {d : Nat} (hd : 1 ≤ d + 1) (hR : xroom R (d + 1)) {p0 : Nat} {p1 : Int32} (hp0 : xin 570 598 p0 (2, 290, 0)) {rec2 : Int32 → LH → Option (Int32 × LH)} {σ' : LH} {r : Int32} (hrec2 : ∀ (y3 : Int32) (σ : LH), rec2 y3 σ = some (r, σ') → XJ G 570 598 p l e R s m args below meth c 4 (XQ G 570 598 below args s (some (.int r)) σ') 0 0 2 [(0, .ref (G.2.2.1 + 570)), (1, .ref (G.2.2.1 + p0)), (2, .int p1), (3, .int y3)] [] σ) {y3 : Int32} {σ : LH} (h0 : s_Model_sitsOn_2_b p0 p1 rec2 y3 σ = some (r, σ')) : XJ G 570 598 p l e R s m args below meth c 4 (XQ G 570 598 below args s (some (.int r)) σ') 0 0 2 [(0, .ref (G.2.2.1 + 570)), (1, .ref (G.2.2.1 + p0)), (2, .int p1), (3, .int y3)] [] σ := by
  replace h0 := (show _ = _ from h0)
  unfold s_Model_sitsOn_2_b at h0
  refine x_iload_n C d_Model_sitsOn_2 3 rfl ?_
  refine x_aload_n C d_Model_sitsOn_3 0 rfl ?_
  refine x_getI (y := 0) C fg_Model_305 k_570 rfl d_Model_sitsOn_4 ?_
  refine x_icmp_ge C 27 d_Model_sitsOn_7 (by decide) (fun q1 => ?_) (fun q1 => ?_)
  · replace h0 := xit q1 h0
    refine x_iconst (v := (-1)) C d_Model_sitsOn_27 (by decide) ?_
    exact x_iret C hr hk h0 d_Model_sitsOn_28
  · replace h0 := xif q1 h0
    refine x_aload_n C d_Model_sitsOn_10 1 rfl ?_
    refine x_iconst (v := 4) C d_Model_sitsOn_11 (by decide) ?_
    refine x_iload_n C d_Model_sitsOn_12 3 rfl ?_
    refine x_imul C d_Model_sitsOn_13 ?_
    obtain ⟨g2, h0⟩ := xgo h0
    refine x_iald C hp0 (ib_in g2) d_Model_sitsOn_14 ?_
    refine x_iload_n C d_Model_sitsOn_15 2 rfl ?_
    refine x_icmp_ne C 21 d_Model_sitsOn_16 (by decide) (fun q3 => ?_) (fun q3 => ?_)
    · replace h0 := xif q3 h0
      obtain ⟨x4, ex4, h0⟩ := xlet h0
      refine x_iinc (lv' := [(3, .int x4), (0, .ref (G.2.2.1 + 570)), (1, .ref (G.2.2.1 + p0)), (2, .int p1)]) C d_Model_sitsOn_21 3 rfl ex4 (by decide) rfl ?_
      refine x_goto C 2 d_Model_sitsOn_24 (by decide) ?_
      exact x_lv C [1, 2, 3, 0] rfl (hrec2 _ _ h0)
    · replace h0 := xit q3 h0
      refine x_iload_n C d_Model_sitsOn_19 3 rfl ?_
      exact x_iret C hr hk h0 d_Model_sitsOn_20
theorem b_Model_sitsOn_2 {G : XG} {l : Launch} {p : Program} {e : Env} {R : Room} {s : State} {m : MethodId} {args : Array Value} {below : List Frame} {meth : Method} {c : Code} (C : XC G 570 598 p s m args c prog_14_method_43_code 4 R_Model) (hr : meth.sig.returnType = (some .int)) (hk : meth.locks = false) {d : Nat} (hd : 1 ≤ d + 1) (hR : xroom R (d + 1)) {p0 : Nat} {p1 : Int32} (hp0 : xin 570 598 p0 (2, 290, 0)) {σ' : LH} {r : Int32} : ∀ (n : Nat) (y3 : Int32) (σ : LH), s_Model_sitsOn_2 p0 p1 n y3 σ = some (r, σ') → XJ G 570 598 p l e R s m args below meth c 4 (XQ G 570 598 below args s (some (.int r)) σ') 0 0 2 [(0, .ref (G.2.2.1 + 570)), (1, .ref (G.2.2.1 + p0)), (2, .int p1), (3, .int y3)] [] σ := by
  intro n
  induction n with
  | zero => intro y3 σ h0; cases h0
  | succ n ih => intro y3 σ h0; exact bb_Model_sitsOn_2 C hr hk hd hR hp0 ih h0
def s_Model_sitsOn (p0 : Nat) (p1 : Int32) (σ : LH) : Option (Int32 × LH) :=
  s_Model_sitsOn_2 p0 p1 FUEL 0 σ
theorem c_Model_sitsOn {G : XG} {l : Launch} {d : Nat} (hd : 1 ≤ d) {p0 : Nat} {p1 : Int32} (hp0 : xin 570 598 p0 (2, 290, 0)) {σ σ' : LH} {r : Int32} (h0 : s_Model_sitsOn p0 p1 σ = some (r, σ')) : xM G 570 598 l y_Model_sitsOn prog_14_method_43_code 4 (some .int) d [.ref (G.2.2.1 + 570), .ref (G.2.2.1 + p0), .int p1] σ (some (.int r)) σ' := by
  obtain ⟨d, rfl⟩ : ∃ q, d = q + 1 := ⟨d - 1, by omega⟩
  refine x_met R_Model rfl (by decide +kernel) (Nat.le_of_ble_eq_true rfl) fun p e s m below meth c C hr hk hR => ?_
  refine x_lv (lv' := [(0, .ref (G.2.2.1 + 570)), (1, .ref (G.2.2.1 + p0)), (2, .int p1)]) C [0, 1, 2] rfl ?_
  generalize xrm (d + 1) = R at hR ⊢
  unfold s_Model_sitsOn at h0
  refine x_iconst (v := 0) C d_Model_sitsOn_0 (by decide) ?_
  refine x_istore_n (lv' := [(3, .int 0), (0, .ref (G.2.2.1 + 570)), (1, .ref (G.2.2.1 + p0)), (2, .int p1)]) C d_Model_sitsOn_1 rfl (by decide) rfl ?_
  exact x_lv C [1, 2, 3, 0] rfl (b_Model_sitsOn_2 C hr hk hd hR hp0 FUEL _ _ h0)
-- LostPlacesModel.isFree([II)Z
theorem d_Model_isFree_0 : decode prog_14_method_44_code 0 = .ok (.aload_n 0, 1) := by decide +kernel
theorem d_Model_isFree_1 : decode prog_14_method_44_code 1 = .ok (.aload_n 1, 1) := by decide +kernel
theorem d_Model_isFree_2 : decode prog_14_method_44_code 2 = .ok (.iload_n 2, 1) := by decide +kernel
theorem d_Model_isFree_3 : decode prog_14_method_44_code 3 = .ok (.invokevirtual 320, 3) := by decide +kernel
theorem d_Model_isFree_6 : decode prog_14_method_44_code 6 = .ok (.iconst (-1), 1) := by decide +kernel
theorem d_Model_isFree_7 : decode prog_14_method_44_code 7 = .ok (.if_icmp .ne 19, 3) := by decide +kernel
theorem d_Model_isFree_10 : decode prog_14_method_44_code 10 = .ok (.aload_n 1, 1) := by decide +kernel
theorem d_Model_isFree_11 : decode prog_14_method_44_code 11 = .ok (.bipush 32, 2) := by decide +kernel
theorem d_Model_isFree_13 : decode prog_14_method_44_code 13 = .ok (.iconst 2, 1) := by decide +kernel
theorem d_Model_isFree_14 : decode prog_14_method_44_code 14 = .ok (.iload_n 2, 1) := by decide +kernel
theorem d_Model_isFree_15 : decode prog_14_method_44_code 15 = .ok (.imul, 1) := by decide +kernel
theorem d_Model_isFree_16 : decode prog_14_method_44_code 16 = .ok (.iadd, 1) := by decide +kernel
theorem d_Model_isFree_17 : decode prog_14_method_44_code 17 = .ok (.iaload, 1) := by decide +kernel
theorem d_Model_isFree_18 : decode prog_14_method_44_code 18 = .ok (.iconst (-1), 1) := by decide +kernel
theorem d_Model_isFree_19 : decode prog_14_method_44_code 19 = .ok (.if_icmp .ne 7, 3) := by decide +kernel
theorem d_Model_isFree_22 : decode prog_14_method_44_code 22 = .ok (.iconst 1, 1) := by decide +kernel
theorem d_Model_isFree_23 : decode prog_14_method_44_code 23 = .ok (.goto 4, 3) := by decide +kernel
theorem d_Model_isFree_26 : decode prog_14_method_44_code 26 = .ok (.iconst 0, 1) := by decide +kernel
theorem d_Model_isFree_27 : decode prog_14_method_44_code 27 = .ok (.ireturn, 1) := by decide +kernel
def s_Model_isFree_27 (p0 : Nat) (p1 : Int32) (z0 : Int32) (σ : LH) : Option (Int32 × LH) :=
  if zb z0 then (
  some (z0, σ)) else none
theorem b_Model_isFree_27 {G : XG} {l : Launch} {p : Program} {e : Env} {R : Room} {s : State} {m : MethodId} {args : Array Value} {below : List Frame} {meth : Method} {c : Code} (C : XC G 570 598 p s m args c prog_14_method_44_code 3 R_Model) (hr : meth.sig.returnType = (some .boolean)) (hk : meth.locks = false) {d : Nat} (hd : 2 ≤ d + 1) (hR : xroom R (d + 1)) {p0 : Nat} {p1 : Int32} (hp0 : xin 570 598 p0 (2, 290, 0)) {σ' : LH} {r : Int32} {z0 : Int32} {σ : LH} (h0 : s_Model_isFree_27 p0 p1 z0 σ = some (r, σ')) : XJ G 570 598 p l e R s m args below meth c 3 (XQ G 570 598 below args s (some (.int r)) σ') 0 0 27 [] [.int z0] σ := by
  replace h0 := (show _ = _ from h0)
  unfold s_Model_isFree_27 at h0
  obtain ⟨g7, h0⟩ := xgo h0
  exact x_zret C hr hk g7 h0 d_Model_isFree_27
def s_Model_isFree_26 (p0 : Nat) (p1 : Int32) (σ : LH) : Option (Int32 × LH) :=
  s_Model_isFree_27 p0 p1 0 σ
theorem b_Model_isFree_26 {G : XG} {l : Launch} {p : Program} {e : Env} {R : Room} {s : State} {m : MethodId} {args : Array Value} {below : List Frame} {meth : Method} {c : Code} (C : XC G 570 598 p s m args c prog_14_method_44_code 3 R_Model) (hr : meth.sig.returnType = (some .boolean)) (hk : meth.locks = false) {d : Nat} (hd : 2 ≤ d + 1) (hR : xroom R (d + 1)) {p0 : Nat} {p1 : Int32} (hp0 : xin 570 598 p0 (2, 290, 0)) {σ' : LH} {r : Int32} {σ : LH} (h0 : s_Model_isFree_26 p0 p1 σ = some (r, σ')) : XJ G 570 598 p l e R s m args below meth c 3 (XQ G 570 598 below args s (some (.int r)) σ') 0 0 26 [] [] σ := by
  replace h0 := (show _ = _ from h0)
  unfold s_Model_isFree_26 at h0
  refine x_iconst (v := 0) C d_Model_isFree_26 (by decide) ?_
  exact x_lv C [] rfl (b_Model_isFree_27 C hr hk hd hR hp0 h0)
def s_Model_isFree (p0 : Nat) (p1 : Int32) (σ : LH) : Option (Int32 × LH) :=
  xb2 (s_Model_sitsOn p0 p1 σ) fun r2 σ3 =>
  if r2 = (-1) then (
   if ib (32 + (2 * p1)) 290 then (
   if (σ3.1 p0 (Int32.toNatClampNeg (32 + (2 * p1)))) = (-1) then (
    s_Model_isFree_27 p0 p1 1 σ3)
   else (
    s_Model_isFree_26 p0 p1 σ3)) else none)
  else (
   s_Model_isFree_26 p0 p1 σ3)
theorem c_Model_isFree {G : XG} {l : Launch} {d : Nat} (hd : 2 ≤ d) {p0 : Nat} {p1 : Int32} (hp0 : xin 570 598 p0 (2, 290, 0)) {σ σ' : LH} {r : Int32} (h0 : s_Model_isFree p0 p1 σ = some (r, σ')) : xM G 570 598 l y_Model_isFree prog_14_method_44_code 3 (some .boolean) d [.ref (G.2.2.1 + 570), .ref (G.2.2.1 + p0), .int p1] σ (some (.int r)) σ' := by
  obtain ⟨d, rfl⟩ : ∃ q, d = q + 1 := ⟨d - 1, by omega⟩
  refine x_met R_Model rfl (by decide +kernel) (Nat.le_of_ble_eq_true rfl) fun p e s m below meth c C hr hk hR => ?_
  refine x_lv (lv' := [(0, .ref (G.2.2.1 + 570)), (1, .ref (G.2.2.1 + p0)), (2, .int p1)]) C [0, 1, 2] rfl ?_
  generalize xrm (d + 1) = R at hR ⊢
  unfold s_Model_isFree at h0
  refine x_aload_n C d_Model_isFree_0 0 rfl ?_
  refine x_aload_n C d_Model_isFree_1 1 rfl ?_
  refine x_iload_n C d_Model_isFree_2 2 rfl ?_
  obtain ⟨r2, σ3, k1, h0⟩ := xbind2 h0
  refine x_callVi C hR (c_Model_sitsOn (d := d) (by omega) hp0 k1) cw_Model_320 k_570 rfl rfl rfl (Nat.le_of_ble_eq_true rfl) ⟨Nat.zero_le _, Nat.zero_le _⟩ d_Model_isFree_3 ?_
  refine x_iconst (v := (-1)) C d_Model_isFree_6 (by decide) ?_
  refine x_icmp_ne C 26 d_Model_isFree_7 (by decide) (fun q4 => ?_) (fun q4 => ?_)
  · replace h0 := xif q4 h0
    exact x_lv C [] rfl (b_Model_isFree_26 C hr hk hd hR hp0 h0)
  · replace h0 := xit q4 h0
    refine x_aload_n C d_Model_isFree_10 1 rfl ?_
    refine x_bipush (v := 32) C d_Model_isFree_11 (by decide) ?_
    refine x_iconst (v := 2) C d_Model_isFree_13 (by decide) ?_
    refine x_iload_n C d_Model_isFree_14 2 rfl ?_
    refine x_imul C d_Model_isFree_15 ?_
    refine x_iadd C d_Model_isFree_16 ?_
    obtain ⟨g5, h0⟩ := xgo h0
    refine x_iald C hp0 (ib_in g5) d_Model_isFree_17 ?_
    refine x_iconst (v := (-1)) C d_Model_isFree_18 (by decide) ?_
    refine x_icmp_ne C 26 d_Model_isFree_19 (by decide) (fun q6 => ?_) (fun q6 => ?_)
    · replace h0 := xif q6 h0
      exact x_lv C [] rfl (b_Model_isFree_26 C hr hk hd hR hp0 h0)
    · replace h0 := xit q6 h0
      refine x_iconst (v := 1) C d_Model_isFree_22 (by decide) ?_
      refine x_goto C 27 d_Model_isFree_23 (by decide) ?_
      exact x_lv C [] rfl (b_Model_isFree_27 C hr hk hd hR hp0 h0)
-- LostPlacesModel.likesBy(III)I
theorem d_Model_likesBy_0 : decode prog_14_method_45_code 0 = .ok (.iload_n 2, 1) := by decide +kernel
theorem d_Model_likesBy_1 : decode prog_14_method_45_code 1 = .ok (.ifCond .ge 5, 3) := by decide +kernel
theorem d_Model_likesBy_4 : decode prog_14_method_45_code 4 = .ok (.iconst 0, 1) := by decide +kernel
theorem d_Model_likesBy_5 : decode prog_14_method_45_code 5 = .ok (.ireturn, 1) := by decide +kernel
theorem d_Model_likesBy_6 : decode prog_14_method_45_code 6 = .ok (.iload_n 3, 1) := by decide +kernel
theorem d_Model_likesBy_7 : decode prog_14_method_45_code 7 = .ok (.aload_n 0, 1) := by decide +kernel
theorem d_Model_likesBy_8 : decode prog_14_method_45_code 8 = .ok (.getfield 55, 3) := by decide +kernel
theorem d_Model_likesBy_11 : decode prog_14_method_45_code 11 = .ok (.iconst 0, 1) := by decide +kernel
theorem d_Model_likesBy_12 : decode prog_14_method_45_code 12 = .ok (.iaload, 1) := by decide +kernel
theorem d_Model_likesBy_13 : decode prog_14_method_45_code 13 = .ok (.if_icmp .lt 16, 3) := by decide +kernel
theorem d_Model_likesBy_16 : decode prog_14_method_45_code 16 = .ok (.aload_n 0, 1) := by decide +kernel
theorem d_Model_likesBy_17 : decode prog_14_method_45_code 17 = .ok (.getfield 37, 3) := by decide +kernel
theorem d_Model_likesBy_20 : decode prog_14_method_45_code 20 = .ok (.iconst 3, 1) := by decide +kernel
theorem d_Model_likesBy_21 : decode prog_14_method_45_code 21 = .ok (.iload_n 2, 1) := by decide +kernel
theorem d_Model_likesBy_22 : decode prog_14_method_45_code 22 = .ok (.imul, 1) := by decide +kernel
theorem d_Model_likesBy_23 : decode prog_14_method_45_code 23 = .ok (.iconst 1, 1) := by decide +kernel
theorem d_Model_likesBy_24 : decode prog_14_method_45_code 24 = .ok (.iadd, 1) := by decide +kernel
theorem d_Model_likesBy_25 : decode prog_14_method_45_code 25 = .ok (.iaload, 1) := by decide +kernel
theorem d_Model_likesBy_26 : decode prog_14_method_45_code 26 = .ok (.goto 4, 3) := by decide +kernel
theorem d_Model_likesBy_29 : decode prog_14_method_45_code 29 = .ok (.iconst 0, 1) := by decide +kernel
theorem d_Model_likesBy_30 : decode prog_14_method_45_code 30 = .ok (.istore 4, 2) := by decide +kernel
theorem d_Model_likesBy_32 : decode prog_14_method_45_code 32 = .ok (.aload_n 0, 1) := by decide +kernel
theorem d_Model_likesBy_33 : decode prog_14_method_45_code 33 = .ok (.getfield 67, 3) := by decide +kernel
theorem d_Model_likesBy_36 : decode prog_14_method_45_code 36 = .ok (.iconst (-1), 1) := by decide +kernel
theorem d_Model_likesBy_37 : decode prog_14_method_45_code 37 = .ok (.if_icmp .ne 25, 3) := by decide +kernel
theorem d_Model_likesBy_40 : decode prog_14_method_45_code 40 = .ok (.iconst 0, 1) := by decide +kernel
theorem d_Model_likesBy_41 : decode prog_14_method_45_code 41 = .ok (.sipush 999, 3) := by decide +kernel
theorem d_Model_likesBy_44 : decode prog_14_method_45_code 44 = .ok (.aload_n 0, 1) := by decide +kernel
theorem d_Model_likesBy_45 : decode prog_14_method_45_code 45 = .ok (.getfield 37, 3) := by decide +kernel
theorem d_Model_likesBy_48 : decode prog_14_method_45_code 48 = .ok (.iconst 3, 1) := by decide +kernel
theorem d_Model_likesBy_49 : decode prog_14_method_45_code 49 = .ok (.iload_n 2, 1) := by decide +kernel
theorem d_Model_likesBy_50 : decode prog_14_method_45_code 50 = .ok (.imul, 1) := by decide +kernel
theorem d_Model_likesBy_51 : decode prog_14_method_45_code 51 = .ok (.iaload, 1) := by decide +kernel
theorem d_Model_likesBy_52 : decode prog_14_method_45_code 52 = .ok (.iload 4, 2) := by decide +kernel
theorem d_Model_likesBy_54 : decode prog_14_method_45_code 54 = .ok (.iadd, 1) := by decide +kernel
theorem d_Model_likesBy_55 : decode prog_14_method_45_code 55 = .ok (.invokestatic 324, 3) := by decide +kernel
theorem d_Model_likesBy_58 : decode prog_14_method_45_code 58 = .ok (.invokestatic 326, 3) := by decide +kernel
theorem d_Model_likesBy_61 : decode prog_14_method_45_code 61 = .ok (.ireturn, 1) := by decide +kernel
theorem d_Model_likesBy_62 : decode prog_14_method_45_code 62 = .ok (.aload_n 0, 1) := by decide +kernel
theorem d_Model_likesBy_63 : decode prog_14_method_45_code 63 = .ok (.getfield 37, 3) := by decide +kernel
theorem d_Model_likesBy_66 : decode prog_14_method_45_code 66 = .ok (.iconst 3, 1) := by decide +kernel
theorem d_Model_likesBy_67 : decode prog_14_method_45_code 67 = .ok (.iload_n 2, 1) := by decide +kernel
theorem d_Model_likesBy_68 : decode prog_14_method_45_code 68 = .ok (.imul, 1) := by decide +kernel
theorem d_Model_likesBy_69 : decode prog_14_method_45_code 69 = .ok (.iaload, 1) := by decide +kernel
theorem d_Model_likesBy_70 : decode prog_14_method_45_code 70 = .ok (.i2l, 1) := by decide +kernel
theorem d_Model_likesBy_71 : decode prog_14_method_45_code 71 = .ok (.lstore 5, 2) := by decide +kernel
theorem d_Model_likesBy_73 : decode prog_14_method_45_code 73 = .ok (.ldc2_w 328, 3) := by decide +kernel
theorem d_Model_likesBy_76 : decode prog_14_method_45_code 76 = .ok (.lload 5, 2) := by decide +kernel
theorem d_Model_likesBy_78 : decode prog_14_method_45_code 78 = .ok (.lmul, 1) := by decide +kernel
theorem d_Model_likesBy_79 : decode prog_14_method_45_code 79 = .ok (.iload 4, 2) := by decide +kernel
theorem d_Model_likesBy_81 : decode prog_14_method_45_code 81 = .ok (.i2l, 1) := by decide +kernel
theorem d_Model_likesBy_82 : decode prog_14_method_45_code 82 = .ok (.ladd, 1) := by decide +kernel
theorem d_Model_likesBy_83 : decode prog_14_method_45_code 83 = .ok (.lstore 5, 2) := by decide +kernel
theorem d_Model_likesBy_85 : decode prog_14_method_45_code 85 = .ok (.ldc2_w 330, 3) := by decide +kernel
theorem d_Model_likesBy_88 : decode prog_14_method_45_code 88 = .ok (.lload 5, 2) := by decide +kernel
theorem d_Model_likesBy_90 : decode prog_14_method_45_code 90 = .ok (.lmul, 1) := by decide +kernel
theorem d_Model_likesBy_91 : decode prog_14_method_45_code 91 = .ok (.aload_n 0, 1) := by decide +kernel
theorem d_Model_likesBy_92 : decode prog_14_method_45_code 92 = .ok (.getfield 37, 3) := by decide +kernel
theorem d_Model_likesBy_95 : decode prog_14_method_45_code 95 = .ok (.iconst 3, 1) := by decide +kernel
theorem d_Model_likesBy_96 : decode prog_14_method_45_code 96 = .ok (.iload_n 2, 1) := by decide +kernel
theorem d_Model_likesBy_97 : decode prog_14_method_45_code 97 = .ok (.imul, 1) := by decide +kernel
theorem d_Model_likesBy_98 : decode prog_14_method_45_code 98 = .ok (.iconst 2, 1) := by decide +kernel
theorem d_Model_likesBy_99 : decode prog_14_method_45_code 99 = .ok (.iadd, 1) := by decide +kernel
theorem d_Model_likesBy_100 : decode prog_14_method_45_code 100 = .ok (.iaload, 1) := by decide +kernel
theorem d_Model_likesBy_101 : decode prog_14_method_45_code 101 = .ok (.i2l, 1) := by decide +kernel
theorem d_Model_likesBy_102 : decode prog_14_method_45_code 102 = .ok (.ladd, 1) := by decide +kernel
theorem d_Model_likesBy_103 : decode prog_14_method_45_code 103 = .ok (.lstore 5, 2) := by decide +kernel
theorem d_Model_likesBy_105 : decode prog_14_method_45_code 105 = .ok (.ldc2_w 332, 3) := by decide +kernel
theorem d_Model_likesBy_108 : decode prog_14_method_45_code 108 = .ok (.lload 5, 2) := by decide +kernel
theorem d_Model_likesBy_110 : decode prog_14_method_45_code 110 = .ok (.lmul, 1) := by decide +kernel
theorem d_Model_likesBy_111 : decode prog_14_method_45_code 111 = .ok (.aload_n 0, 1) := by decide +kernel
theorem d_Model_likesBy_112 : decode prog_14_method_45_code 112 = .ok (.getfield 43, 3) := by decide +kernel
theorem d_Model_likesBy_115 : decode prog_14_method_45_code 115 = .ok (.iconst 4, 1) := by decide +kernel
theorem d_Model_likesBy_116 : decode prog_14_method_45_code 116 = .ok (.iload_n 1, 1) := by decide +kernel
theorem d_Model_likesBy_117 : decode prog_14_method_45_code 117 = .ok (.imul, 1) := by decide +kernel
theorem d_Model_likesBy_118 : decode prog_14_method_45_code 118 = .ok (.iconst 1, 1) := by decide +kernel
theorem d_Model_likesBy_119 : decode prog_14_method_45_code 119 = .ok (.iadd, 1) := by decide +kernel
theorem d_Model_likesBy_120 : decode prog_14_method_45_code 120 = .ok (.iaload, 1) := by decide +kernel
theorem d_Model_likesBy_121 : decode prog_14_method_45_code 121 = .ok (.i2l, 1) := by decide +kernel
theorem d_Model_likesBy_122 : decode prog_14_method_45_code 122 = .ok (.ladd, 1) := by decide +kernel
theorem d_Model_likesBy_123 : decode prog_14_method_45_code 123 = .ok (.lstore 5, 2) := by decide +kernel
theorem d_Model_likesBy_125 : decode prog_14_method_45_code 125 = .ok (.ldc2_w 334, 3) := by decide +kernel
theorem d_Model_likesBy_128 : decode prog_14_method_45_code 128 = .ok (.lload 5, 2) := by decide +kernel
theorem d_Model_likesBy_130 : decode prog_14_method_45_code 130 = .ok (.lmul, 1) := by decide +kernel
theorem d_Model_likesBy_131 : decode prog_14_method_45_code 131 = .ok (.iload_n 3, 1) := by decide +kernel
theorem d_Model_likesBy_132 : decode prog_14_method_45_code 132 = .ok (.i2l, 1) := by decide +kernel
theorem d_Model_likesBy_133 : decode prog_14_method_45_code 133 = .ok (.ladd, 1) := by decide +kernel
theorem d_Model_likesBy_134 : decode prog_14_method_45_code 134 = .ok (.lstore 5, 2) := by decide +kernel
theorem d_Model_likesBy_136 : decode prog_14_method_45_code 136 = .ok (.ldc2_w 336, 3) := by decide +kernel
theorem d_Model_likesBy_139 : decode prog_14_method_45_code 139 = .ok (.lload 5, 2) := by decide +kernel
theorem d_Model_likesBy_141 : decode prog_14_method_45_code 141 = .ok (.lmul, 1) := by decide +kernel
theorem d_Model_likesBy_142 : decode prog_14_method_45_code 142 = .ok (.iload_n 1, 1) := by decide +kernel
theorem d_Model_likesBy_143 : decode prog_14_method_45_code 143 = .ok (.i2l, 1) := by decide +kernel
theorem d_Model_likesBy_144 : decode prog_14_method_45_code 144 = .ok (.ladd, 1) := by decide +kernel
theorem d_Model_likesBy_145 : decode prog_14_method_45_code 145 = .ok (.lstore 5, 2) := by decide +kernel
theorem d_Model_likesBy_147 : decode prog_14_method_45_code 147 = .ok (.ldc2_w 338, 3) := by decide +kernel
theorem d_Model_likesBy_150 : decode prog_14_method_45_code 150 = .ok (.lload 5, 2) := by decide +kernel
theorem d_Model_likesBy_152 : decode prog_14_method_45_code 152 = .ok (.lmul, 1) := by decide +kernel
theorem d_Model_likesBy_153 : decode prog_14_method_45_code 153 = .ok (.aload_n 0, 1) := by decide +kernel
theorem d_Model_likesBy_154 : decode prog_14_method_45_code 154 = .ok (.getfield 67, 3) := by decide +kernel
theorem d_Model_likesBy_157 : decode prog_14_method_45_code 157 = .ok (.i2l, 1) := by decide +kernel
theorem d_Model_likesBy_158 : decode prog_14_method_45_code 158 = .ok (.ladd, 1) := by decide +kernel
theorem d_Model_likesBy_159 : decode prog_14_method_45_code 159 = .ok (.lconst 1, 1) := by decide +kernel
theorem d_Model_likesBy_160 : decode prog_14_method_45_code 160 = .ok (.ladd, 1) := by decide +kernel
theorem d_Model_likesBy_161 : decode prog_14_method_45_code 161 = .ok (.lstore 5, 2) := by decide +kernel
theorem d_Model_likesBy_163 : decode prog_14_method_45_code 163 = .ok (.lload 5, 2) := by decide +kernel
theorem d_Model_likesBy_165 : decode prog_14_method_45_code 165 = .ok (.ldc2_w 340, 3) := by decide +kernel
theorem d_Model_likesBy_168 : decode prog_14_method_45_code 168 = .ok (.lrem, 1) := by decide +kernel
theorem d_Model_likesBy_169 : decode prog_14_method_45_code 169 = .ok (.l2i, 1) := by decide +kernel
theorem d_Model_likesBy_170 : decode prog_14_method_45_code 170 = .ok (.istore 7, 2) := by decide +kernel
theorem d_Model_likesBy_172 : decode prog_14_method_45_code 172 = .ok (.aload_n 0, 1) := by decide +kernel
theorem d_Model_likesBy_173 : decode prog_14_method_45_code 173 = .ok (.getfield 71, 3) := by decide +kernel
theorem d_Model_likesBy_176 : decode prog_14_method_45_code 176 = .ok (.iload 7, 2) := by decide +kernel
theorem d_Model_likesBy_178 : decode prog_14_method_45_code 178 = .ok (.laload, 1) := by decide +kernel
theorem d_Model_likesBy_179 : decode prog_14_method_45_code 179 = .ok (.lload 5, 2) := by decide +kernel
theorem d_Model_likesBy_181 : decode prog_14_method_45_code 181 = .ok (.lcmp, 1) := by decide +kernel
theorem d_Model_likesBy_182 : decode prog_14_method_45_code 182 = .ok (.ifCond .eq 122, 3) := by decide +kernel
theorem d_Model_likesBy_185 : decode prog_14_method_45_code 185 = .ok (.aload_n 0, 1) := by decide +kernel
theorem d_Model_likesBy_186 : decode prog_14_method_45_code 186 = .ok (.getfield 20, 3) := by decide +kernel
theorem d_Model_likesBy_189 : decode prog_14_method_45_code 189 = .ok (.bipush 119, 2) := by decide +kernel
theorem d_Model_likesBy_191 : decode prog_14_method_45_code 191 = .ok (.aload_n 0, 1) := by decide +kernel
theorem d_Model_likesBy_192 : decode prog_14_method_45_code 192 = .ok (.getfield 37, 3) := by decide +kernel
theorem d_Model_likesBy_195 : decode prog_14_method_45_code 195 = .ok (.iconst 3, 1) := by decide +kernel
theorem d_Model_likesBy_196 : decode prog_14_method_45_code 196 = .ok (.iload_n 2, 1) := by decide +kernel
theorem d_Model_likesBy_197 : decode prog_14_method_45_code 197 = .ok (.imul, 1) := by decide +kernel
theorem d_Model_likesBy_198 : decode prog_14_method_45_code 198 = .ok (.iaload, 1) := by decide +kernel
theorem d_Model_likesBy_199 : decode prog_14_method_45_code 199 = .ok (.iastore, 1) := by decide +kernel
theorem d_Model_likesBy_200 : decode prog_14_method_45_code 200 = .ok (.aload_n 0, 1) := by decide +kernel
theorem d_Model_likesBy_201 : decode prog_14_method_45_code 201 = .ok (.getfield 20, 3) := by decide +kernel
theorem d_Model_likesBy_204 : decode prog_14_method_45_code 204 = .ok (.bipush 102, 2) := by decide +kernel
theorem d_Model_likesBy_206 : decode prog_14_method_45_code 206 = .ok (.iload 4, 2) := by decide +kernel
theorem d_Model_likesBy_208 : decode prog_14_method_45_code 208 = .ok (.iastore, 1) := by decide +kernel
theorem d_Model_likesBy_209 : decode prog_14_method_45_code 209 = .ok (.aload_n 0, 1) := by decide +kernel
theorem d_Model_likesBy_210 : decode prog_14_method_45_code 210 = .ok (.getfield 20, 3) := by decide +kernel
theorem d_Model_likesBy_213 : decode prog_14_method_45_code 213 = .ok (.bipush 120, 2) := by decide +kernel
theorem d_Model_likesBy_215 : decode prog_14_method_45_code 215 = .ok (.aload_n 0, 1) := by decide +kernel
theorem d_Model_likesBy_216 : decode prog_14_method_45_code 216 = .ok (.getfield 37, 3) := by decide +kernel
theorem d_Model_likesBy_219 : decode prog_14_method_45_code 219 = .ok (.iconst 3, 1) := by decide +kernel
theorem d_Model_likesBy_220 : decode prog_14_method_45_code 220 = .ok (.iload_n 2, 1) := by decide +kernel
theorem d_Model_likesBy_221 : decode prog_14_method_45_code 221 = .ok (.imul, 1) := by decide +kernel
theorem d_Model_likesBy_222 : decode prog_14_method_45_code 222 = .ok (.iconst 2, 1) := by decide +kernel
theorem d_Model_likesBy_223 : decode prog_14_method_45_code 223 = .ok (.iadd, 1) := by decide +kernel
theorem d_Model_likesBy_224 : decode prog_14_method_45_code 224 = .ok (.iaload, 1) := by decide +kernel
theorem d_Model_likesBy_225 : decode prog_14_method_45_code 225 = .ok (.iastore, 1) := by decide +kernel
theorem d_Model_likesBy_226 : decode prog_14_method_45_code 226 = .ok (.aload_n 0, 1) := by decide +kernel
theorem d_Model_likesBy_227 : decode prog_14_method_45_code 227 = .ok (.getfield 20, 3) := by decide +kernel
theorem d_Model_likesBy_230 : decode prog_14_method_45_code 230 = .ok (.bipush 113, 2) := by decide +kernel
theorem d_Model_likesBy_232 : decode prog_14_method_45_code 232 = .ok (.aload_n 0, 1) := by decide +kernel
theorem d_Model_likesBy_233 : decode prog_14_method_45_code 233 = .ok (.getfield 43, 3) := by decide +kernel
theorem d_Model_likesBy_236 : decode prog_14_method_45_code 236 = .ok (.iconst 4, 1) := by decide +kernel
theorem d_Model_likesBy_237 : decode prog_14_method_45_code 237 = .ok (.iload_n 1, 1) := by decide +kernel
theorem d_Model_likesBy_238 : decode prog_14_method_45_code 238 = .ok (.imul, 1) := by decide +kernel
theorem d_Model_likesBy_239 : decode prog_14_method_45_code 239 = .ok (.iconst 1, 1) := by decide +kernel
theorem d_Model_likesBy_240 : decode prog_14_method_45_code 240 = .ok (.iadd, 1) := by decide +kernel
theorem d_Model_likesBy_241 : decode prog_14_method_45_code 241 = .ok (.iaload, 1) := by decide +kernel
theorem d_Model_likesBy_242 : decode prog_14_method_45_code 242 = .ok (.iastore, 1) := by decide +kernel
theorem d_Model_likesBy_243 : decode prog_14_method_45_code 243 = .ok (.aload_n 0, 1) := by decide +kernel
theorem d_Model_likesBy_244 : decode prog_14_method_45_code 244 = .ok (.getfield 20, 3) := by decide +kernel
theorem d_Model_likesBy_247 : decode prog_14_method_45_code 247 = .ok (.bipush 109, 2) := by decide +kernel
theorem d_Model_likesBy_249 : decode prog_14_method_45_code 249 = .ok (.iload_n 3, 1) := by decide +kernel
theorem d_Model_likesBy_250 : decode prog_14_method_45_code 250 = .ok (.iastore, 1) := by decide +kernel
theorem d_Model_likesBy_251 : decode prog_14_method_45_code 251 = .ok (.aload_n 0, 1) := by decide +kernel
theorem d_Model_likesBy_252 : decode prog_14_method_45_code 252 = .ok (.getfield 20, 3) := by decide +kernel
theorem d_Model_likesBy_255 : decode prog_14_method_45_code 255 = .ok (.bipush 112, 2) := by decide +kernel
theorem d_Model_likesBy_257 : decode prog_14_method_45_code 257 = .ok (.iload_n 1, 1) := by decide +kernel
theorem d_Model_likesBy_258 : decode prog_14_method_45_code 258 = .ok (.iastore, 1) := by decide +kernel
theorem d_Model_likesBy_259 : decode prog_14_method_45_code 259 = .ok (.aload_n 0, 1) := by decide +kernel
theorem d_Model_likesBy_260 : decode prog_14_method_45_code 260 = .ok (.aload_n 0, 1) := by decide +kernel
theorem d_Model_likesBy_261 : decode prog_14_method_45_code 261 = .ok (.getfield 13, 3) := by decide +kernel
theorem d_Model_likesBy_264 : decode prog_14_method_45_code 264 = .ok (.sipush 240, 3) := by decide +kernel
theorem d_Model_likesBy_267 : decode prog_14_method_45_code 267 = .ok (.aload_n 0, 1) := by decide +kernel
theorem d_Model_likesBy_268 : decode prog_14_method_45_code 268 = .ok (.getfield 67, 3) := by decide +kernel
theorem d_Model_likesBy_271 : decode prog_14_method_45_code 271 = .ok (.imul, 1) := by decide +kernel
theorem d_Model_likesBy_272 : decode prog_14_method_45_code 272 = .ok (.aload_n 0, 1) := by decide +kernel
theorem d_Model_likesBy_273 : decode prog_14_method_45_code 273 = .ok (.getfield 16, 3) := by decide +kernel
theorem d_Model_likesBy_276 : decode prog_14_method_45_code 276 = .ok (.aload_n 0, 1) := by decide +kernel
theorem d_Model_likesBy_277 : decode prog_14_method_45_code 277 = .ok (.getfield 67, 3) := by decide +kernel
theorem d_Model_likesBy_280 : decode prog_14_method_45_code 280 = .ok (.iaload, 1) := by decide +kernel
theorem d_Model_likesBy_281 : decode prog_14_method_45_code 281 = .ok (.invokevirtual 294, 3) := by decide +kernel
theorem d_Model_likesBy_284 : decode prog_14_method_45_code 284 = .ok (.aload_n 0, 1) := by decide +kernel
theorem d_Model_likesBy_285 : decode prog_14_method_45_code 285 = .ok (.getfield 71, 3) := by decide +kernel
theorem d_Model_likesBy_288 : decode prog_14_method_45_code 288 = .ok (.iload 7, 2) := by decide +kernel
theorem d_Model_likesBy_290 : decode prog_14_method_45_code 290 = .ok (.lload 5, 2) := by decide +kernel
theorem d_Model_likesBy_292 : decode prog_14_method_45_code 292 = .ok (.lastore, 1) := by decide +kernel
theorem d_Model_likesBy_293 : decode prog_14_method_45_code 293 = .ok (.aload_n 0, 1) := by decide +kernel
theorem d_Model_likesBy_294 : decode prog_14_method_45_code 294 = .ok (.getfield 75, 3) := by decide +kernel
theorem d_Model_likesBy_297 : decode prog_14_method_45_code 297 = .ok (.iload 7, 2) := by decide +kernel
theorem d_Model_likesBy_299 : decode prog_14_method_45_code 299 = .ok (.aload_n 0, 1) := by decide +kernel
theorem d_Model_likesBy_300 : decode prog_14_method_45_code 300 = .ok (.getfield 222, 3) := by decide +kernel
theorem d_Model_likesBy_303 : decode prog_14_method_45_code 303 = .ok (.iastore, 1) := by decide +kernel
theorem d_Model_likesBy_304 : decode prog_14_method_45_code 304 = .ok (.iconst 0, 1) := by decide +kernel
theorem d_Model_likesBy_305 : decode prog_14_method_45_code 305 = .ok (.sipush 999, 3) := by decide +kernel
theorem d_Model_likesBy_308 : decode prog_14_method_45_code 308 = .ok (.aload_n 0, 1) := by decide +kernel
theorem d_Model_likesBy_309 : decode prog_14_method_45_code 309 = .ok (.getfield 75, 3) := by decide +kernel
theorem d_Model_likesBy_312 : decode prog_14_method_45_code 312 = .ok (.iload 7, 2) := by decide +kernel
theorem d_Model_likesBy_314 : decode prog_14_method_45_code 314 = .ok (.iaload, 1) := by decide +kernel
theorem d_Model_likesBy_315 : decode prog_14_method_45_code 315 = .ok (.invokestatic 324, 3) := by decide +kernel
theorem d_Model_likesBy_318 : decode prog_14_method_45_code 318 = .ok (.invokestatic 326, 3) := by decide +kernel
theorem d_Model_likesBy_321 : decode prog_14_method_45_code 321 = .ok (.ireturn, 1) := by decide +kernel
def s_Model_likesBy_304 (p0 : Int32) (p1 : Int32) (p2 : Int32) (y7 : Int32) (σ : LH) : Option (Int32 × LH) :=
  if ib y7 4093 then (
  some ((if 0 < (if (σ.1 586 (Int32.toNatClampNeg y7)) < 999 then (σ.1 586 (Int32.toNatClampNeg y7)) else 999) then (if (σ.1 586 (Int32.toNatClampNeg y7)) < 999 then (σ.1 586 (Int32.toNatClampNeg y7)) else 999) else 0), σ)) else none
theorem b_Model_likesBy_304 {G : XG} {l : Launch} {p : Program} {e : Env} {R : Room} {s : State} {m : MethodId} {args : Array Value} {below : List Frame} {meth : Method} {c : Code} (C : XC G 570 598 p s m args c prog_14_method_45_code 8 R_Model) (hr : meth.sig.returnType = (some .int)) (hk : meth.locks = false) {d : Nat} (hd : 117 ≤ d + 1) (hR : xroom R (d + 1)) {p0 : Int32} {p1 : Int32} {p2 : Int32} {σ' : LH} {r : Int32} {y7 : Int32} {σ : LH} (h0 : s_Model_likesBy_304 p0 p1 p2 y7 σ = some (r, σ')) : XJ G 570 598 p l e R s m args below meth c 8 (XQ G 570 598 below args s (some (.int r)) σ') 0 0 304 [(0, .ref (G.2.2.1 + 570)), (7, .int y7)] [] σ := by
  replace h0 := (show _ = _ from h0)
  unfold s_Model_likesBy_304 at h0
  refine x_iconst (v := 0) C d_Model_likesBy_304 (by decide) ?_
  refine x_sipush (v := 999) C d_Model_likesBy_305 (by decide) ?_
  refine x_aload_n C d_Model_likesBy_308 0 rfl ?_
  refine x_getA (y := 586) C fg_Model_75 k_570 rfl d_Model_likesBy_309 ?_
  refine x_iload C d_Model_likesBy_312 1 rfl ?_
  obtain ⟨g19, h0⟩ := xgo h0
  refine x_iald C k_586 (ib_in g19) d_Model_likesBy_314 ?_
  refine x_mmin C (xroom1 hR) w_1890 w_716 w_123 w_717 (Nat.le_of_ble_eq_true rfl) ⟨Nat.zero_le _, Nat.zero_le _⟩ d_Model_likesBy_315 ?_
  refine x_mmax C (xroom1 hR) w_1891 w_713 w_123 w_714 (Nat.le_of_ble_eq_true rfl) ⟨Nat.zero_le _, Nat.zero_le _⟩ d_Model_likesBy_318 ?_
  exact x_iret C hr hk h0 d_Model_likesBy_321
def s_Model_likesBy_30 (p0 : Int32) (p1 : Int32) (p2 : Int32) (z0 : Int32) (σ : LH) : Option (Int32 × LH) :=
  if (σ.1 570 35) = (-1) then (
   if ib (3 * p1) 24 then (
   some ((if 0 < (if ((σ.1 575 (Int32.toNatClampNeg (3 * p1))) + z0) < 999 then ((σ.1 575 (Int32.toNatClampNeg (3 * p1))) + z0) else 999) then (if ((σ.1 575 (Int32.toNatClampNeg (3 * p1))) + z0) < 999 then ((σ.1 575 (Int32.toNatClampNeg (3 * p1))) + z0) else 999) else 0), σ)) else none)
  else (
   if ib (3 * p1) 24 then (
   xl (((Int32.toInt64 (σ.1 575 (Int32.toNatClampNeg (3 * p1))))) : Int64) fun j7 =>
   xl ((((100 * j7) + (Int32.toInt64 z0))) : Int64) fun j8 =>
   if ib ((3 * p1) + 2) 24 then (
   xl ((((20 * j8) + (Int32.toInt64 (σ.1 575 (Int32.toNatClampNeg ((3 * p1) + 2)))))) : Int64) fun j10 =>
   if ib ((4 * p0) + 1) 32 then (
   xl ((((10 * j10) + (Int32.toInt64 (σ.1 577 (Int32.toNatClampNeg ((4 * p0) + 1)))))) : Int64) fun j12 =>
   xl ((((200 * j12) + (Int32.toInt64 p2))) : Int64) fun j13 =>
   xl ((((8 * j13) + (Int32.toInt64 p0))) : Int64) fun j14 =>
   xl (((((4 * j14) + (Int32.toInt64 (σ.1 570 35))) + 1)) : Int64) fun j15 =>
   xl (((Int64.toInt32 (j15 - j15 / 4093 * 4093))) : Int32) fun x16 =>
   if ib x16 4093 then (
   if (lg_cmp (σ.2.1 585 (Int32.toNatClampNeg x16)) j15) = 0 then (
    s_Model_likesBy_304 p0 p1 p2 x16 σ)
   else (
    if ib (3 * p1) 24 then (
    if ib 119 128 then (
    xl ((stI σ 574 (Int32.toNatClampNeg 119) (σ.1 575 (Int32.toNatClampNeg (3 * p1)))) : LH) fun σ22 =>
    if ib 102 128 then (
    xl ((stI σ22 574 (Int32.toNatClampNeg 102) z0) : LH) fun σ24 =>
    if ib ((3 * p1) + 2) 24 then (
    if ib 120 128 then (
    xl ((stI σ24 574 (Int32.toNatClampNeg 120) (σ24.1 575 (Int32.toNatClampNeg ((3 * p1) + 2)))) : LH) fun σ27 =>
    if ib ((4 * p0) + 1) 32 then (
    if ib 113 128 then (
    xl ((stI σ27 574 (Int32.toNatClampNeg 113) (σ27.1 577 (Int32.toNatClampNeg ((4 * p0) + 1)))) : LH) fun σ30 =>
    if ib 109 128 then (
    xl ((stI σ30 574 (Int32.toNatClampNeg 109) p2) : LH) fun σ32 =>
    if ib 112 128 then (
    xl ((stI σ32 574 (Int32.toNatClampNeg 112) p0) : LH) fun σ34 =>
    if ib (σ34.1 570 35) 4 then (
    xb1 (s_Model_goThrough 572 (240 * (σ34.1 570 35)) (σ34.1 573 (Int32.toNatClampNeg (σ34.1 570 35))) σ34) fun σ37 =>
    if ib x16 4093 then (
    xl ((stJ σ37 585 (Int32.toNatClampNeg x16) j15) : LH) fun σ39 =>
    if ib x16 4093 then (
    xl ((stI σ39 586 (Int32.toNatClampNeg x16) (σ39.1 570 14)) : LH) fun σ41 =>
    s_Model_likesBy_304 p0 p1 p2 x16 σ41) else none) else none) else none) else none) else none) else none) else none) else none) else none) else none) else none) else none)) else none) else none) else none) else none)
theorem b_Model_likesBy_30 {G : XG} {l : Launch} {p : Program} {e : Env} {R : Room} {s : State} {m : MethodId} {args : Array Value} {below : List Frame} {meth : Method} {c : Code} (C : XC G 570 598 p s m args c prog_14_method_45_code 8 R_Model) (hr : meth.sig.returnType = (some .int)) (hk : meth.locks = false) {d : Nat} (hd : 117 ≤ d + 1) (hR : xroom R (d + 1)) {p0 : Int32} {p1 : Int32} {p2 : Int32} {σ' : LH} {r : Int32} {z0 : Int32} {σ : LH} (h0 : s_Model_likesBy_30 p0 p1 p2 z0 σ = some (r, σ')) : XJ G 570 598 p l e R s m args below meth c 8 (XQ G 570 598 below args s (some (.int r)) σ') 0 0 30 [(0, .ref (G.2.2.1 + 570)), (1, .int p0), (2, .int p1), (3, .int p2)] [.int z0] σ := by
  replace h0 := (show _ = _ from h0)
  unfold s_Model_likesBy_30 at h0
  refine x_istore (lv' := [(4, .int z0), (0, .ref (G.2.2.1 + 570)), (1, .int p0), (2, .int p1), (3, .int p2)]) C d_Model_likesBy_30 (by decide) rfl ?_
  refine x_aload_n C d_Model_likesBy_32 1 rfl ?_
  refine x_getI (y := 0) C fg_Model_67 k_570 rfl d_Model_likesBy_33 ?_
  refine x_iconst (v := (-1)) C d_Model_likesBy_36 (by decide) ?_
  refine x_icmp_ne C 62 d_Model_likesBy_37 (by decide) (fun q4 => ?_) (fun q4 => ?_)
  · replace h0 := xif q4 h0
    refine x_aload_n C d_Model_likesBy_62 1 rfl ?_
    refine x_getA (y := 575) C fg_Model_37 k_570 rfl d_Model_likesBy_63 ?_
    refine x_iconst (v := 3) C d_Model_likesBy_66 (by decide) ?_
    refine x_iload_n C d_Model_likesBy_67 3 rfl ?_
    refine x_imul C d_Model_likesBy_68 ?_
    obtain ⟨g6, h0⟩ := xgo h0
    refine x_iald C k_575 (ib_in g6) d_Model_likesBy_69 ?_
    refine x_i2l C d_Model_likesBy_70 ?_
    obtain ⟨j7, ej7, h0⟩ := xlet h0
    refine x_nameL C ej7 ?_
    refine x_lstore (lv' := [(5, .long (j7)), (4, .int z0), (0, .ref (G.2.2.1 + 570)), (1, .int p0), (2, .int p1), (3, .int p2)]) C d_Model_likesBy_71 (by decide) rfl ?_
    refine x_ldc2 (v := 100) C w_1892 d_Model_likesBy_73 ?_
    refine x_lload C d_Model_likesBy_76 0 rfl ?_
    refine x_lmul C d_Model_likesBy_78 ?_
    refine x_iload C d_Model_likesBy_79 1 rfl ?_
    refine x_i2l C d_Model_likesBy_81 ?_
    refine x_ladd C d_Model_likesBy_82 ?_
    obtain ⟨j8, ej8, h0⟩ := xlet h0
    refine x_nameL C ej8 ?_
    refine x_lstore (lv' := [(5, .long (j8)), (4, .int z0), (0, .ref (G.2.2.1 + 570)), (1, .int p0), (2, .int p1), (3, .int p2)]) C d_Model_likesBy_83 (by decide) rfl ?_
    refine x_ldc2 (v := 20) C w_1893 d_Model_likesBy_85 ?_
    refine x_lload C d_Model_likesBy_88 0 rfl ?_
    refine x_lmul C d_Model_likesBy_90 ?_
    refine x_aload_n C d_Model_likesBy_91 2 rfl ?_
    refine x_getA (y := 575) C fg_Model_37 k_570 rfl d_Model_likesBy_92 ?_
    refine x_iconst (v := 3) C d_Model_likesBy_95 (by decide) ?_
    refine x_iload_n C d_Model_likesBy_96 4 rfl ?_
    refine x_imul C d_Model_likesBy_97 ?_
    refine x_iconst (v := 2) C d_Model_likesBy_98 (by decide) ?_
    refine x_iadd C d_Model_likesBy_99 ?_
    obtain ⟨g9, h0⟩ := xgo h0
    refine x_iald C k_575 (ib_in g9) d_Model_likesBy_100 ?_
    refine x_i2l C d_Model_likesBy_101 ?_
    refine x_ladd C d_Model_likesBy_102 ?_
    obtain ⟨j10, ej10, h0⟩ := xlet h0
    refine x_nameL C ej10 ?_
    refine x_lstore (lv' := [(5, .long (j10)), (4, .int z0), (0, .ref (G.2.2.1 + 570)), (1, .int p0), (2, .int p1), (3, .int p2)]) C d_Model_likesBy_103 (by decide) rfl ?_
    refine x_ldc2 (v := 10) C w_1894 d_Model_likesBy_105 ?_
    refine x_lload C d_Model_likesBy_108 0 rfl ?_
    refine x_lmul C d_Model_likesBy_110 ?_
    refine x_aload_n C d_Model_likesBy_111 2 rfl ?_
    refine x_getA (y := 577) C fg_Model_43 k_570 rfl d_Model_likesBy_112 ?_
    refine x_iconst (v := 4) C d_Model_likesBy_115 (by decide) ?_
    refine x_iload_n C d_Model_likesBy_116 3 rfl ?_
    refine x_imul C d_Model_likesBy_117 ?_
    refine x_iconst (v := 1) C d_Model_likesBy_118 (by decide) ?_
    refine x_iadd C d_Model_likesBy_119 ?_
    obtain ⟨g11, h0⟩ := xgo h0
    refine x_iald C k_577 (ib_in g11) d_Model_likesBy_120 ?_
    refine x_i2l C d_Model_likesBy_121 ?_
    refine x_ladd C d_Model_likesBy_122 ?_
    obtain ⟨j12, ej12, h0⟩ := xlet h0
    refine x_nameL C ej12 ?_
    refine x_lstore (lv' := [(5, .long (j12)), (4, .int z0), (0, .ref (G.2.2.1 + 570)), (1, .int p0), (2, .int p1), (3, .int p2)]) C d_Model_likesBy_123 (by decide) rfl ?_
    refine x_ldc2 (v := 200) C w_1895 d_Model_likesBy_125 ?_
    refine x_lload C d_Model_likesBy_128 0 rfl ?_
    refine x_lmul C d_Model_likesBy_130 ?_
    refine x_iload_n C d_Model_likesBy_131 5 rfl ?_
    refine x_i2l C d_Model_likesBy_132 ?_
    refine x_ladd C d_Model_likesBy_133 ?_
    obtain ⟨j13, ej13, h0⟩ := xlet h0
    refine x_nameL C ej13 ?_
    refine x_lstore (lv' := [(5, .long (j13)), (4, .int z0), (0, .ref (G.2.2.1 + 570)), (1, .int p0), (2, .int p1), (3, .int p2)]) C d_Model_likesBy_134 (by decide) rfl ?_
    refine x_ldc2 (v := 8) C w_1896 d_Model_likesBy_136 ?_
    refine x_lload C d_Model_likesBy_139 0 rfl ?_
    refine x_lmul C d_Model_likesBy_141 ?_
    refine x_iload_n C d_Model_likesBy_142 3 rfl ?_
    refine x_i2l C d_Model_likesBy_143 ?_
    refine x_ladd C d_Model_likesBy_144 ?_
    obtain ⟨j14, ej14, h0⟩ := xlet h0
    refine x_nameL C ej14 ?_
    refine x_lstore (lv' := [(5, .long (j14)), (4, .int z0), (0, .ref (G.2.2.1 + 570)), (1, .int p0), (2, .int p1), (3, .int p2)]) C d_Model_likesBy_145 (by decide) rfl ?_
    refine x_ldc2 (v := 4) C w_1897 d_Model_likesBy_147 ?_
    refine x_lload C d_Model_likesBy_150 0 rfl ?_
    refine x_lmul C d_Model_likesBy_152 ?_
    refine x_aload_n C d_Model_likesBy_153 2 rfl ?_
    refine x_getI (y := 0) C fg_Model_67 k_570 rfl d_Model_likesBy_154 ?_
    refine x_i2l C d_Model_likesBy_157 ?_
    refine x_ladd C d_Model_likesBy_158 ?_
    refine x_lconst (v := 1) C d_Model_likesBy_159 (by decide) ?_
    refine x_ladd C d_Model_likesBy_160 ?_
    obtain ⟨j15, ej15, h0⟩ := xlet h0
    refine x_nameL C ej15 ?_
    refine x_lstore (lv' := [(5, .long (j15)), (4, .int z0), (0, .ref (G.2.2.1 + 570)), (1, .int p0), (2, .int p1), (3, .int p2)]) C d_Model_likesBy_161 (by decide) rfl ?_
    refine x_lload C d_Model_likesBy_163 0 rfl ?_
    refine x_ldc2 (v := 4093) C w_1898 d_Model_likesBy_165 ?_
    refine x_lrem C d_Model_likesBy_168 (by decide) ?_
    refine x_l2i C d_Model_likesBy_169 ?_
    obtain ⟨x16, ex16, h0⟩ := xlet h0
    refine x_name C ex16 ?_
    refine x_istore (lv' := [(7, .int x16), (5, .long (j15)), (4, .int z0), (0, .ref (G.2.2.1 + 570)), (1, .int p0), (2, .int p1), (3, .int p2)]) C d_Model_likesBy_170 (by decide) rfl ?_
    refine x_aload_n C d_Model_likesBy_172 3 rfl ?_
    refine x_getA (y := 585) C fg_Model_71 k_570 rfl d_Model_likesBy_173 ?_
    refine x_iload C d_Model_likesBy_176 0 rfl ?_
    obtain ⟨g17, h0⟩ := xgo h0
    refine x_lald C k_585 (ib_in g17) d_Model_likesBy_178 ?_
    refine x_lload C d_Model_likesBy_179 1 rfl ?_
    refine x_lcmp C d_Model_likesBy_181 ?_
    refine x_if_eq C 304 d_Model_likesBy_182 (by decide) (fun q18 => ?_) (fun q18 => ?_)
    · replace h0 := xit q18 h0
      exact x_lv C [3, 0] rfl (b_Model_likesBy_304 C hr hk hd hR h0)
    · replace h0 := xif q18 h0
      refine x_aload_n C d_Model_likesBy_185 3 rfl ?_
      refine x_getA (y := 574) C fg_Model_20 k_570 rfl d_Model_likesBy_186 ?_
      refine x_bipush (v := 119) C d_Model_likesBy_189 (by decide) ?_
      refine x_aload_n C d_Model_likesBy_191 3 rfl ?_
      refine x_getA (y := 575) C fg_Model_37 k_570 rfl d_Model_likesBy_192 ?_
      refine x_iconst (v := 3) C d_Model_likesBy_195 (by decide) ?_
      refine x_iload_n C d_Model_likesBy_196 5 rfl ?_
      refine x_imul C d_Model_likesBy_197 ?_
      obtain ⟨g20, h0⟩ := xgo h0
      refine x_iald C k_575 (ib_in g20) d_Model_likesBy_198 ?_
      obtain ⟨g21, h0⟩ := xgo h0
      refine x_iast C k_574 (ib_in g21) d_Model_likesBy_199 ?_
      obtain ⟨σ22, eσ22, h0⟩ := xlet h0
      refine x_sig C eσ22 ?_
      refine x_aload_n C d_Model_likesBy_200 3 rfl ?_
      refine x_getA (y := 574) C fg_Model_20 k_570 rfl d_Model_likesBy_201 ?_
      refine x_bipush (v := 102) C d_Model_likesBy_204 (by decide) ?_
      refine x_iload C d_Model_likesBy_206 2 rfl ?_
      obtain ⟨g23, h0⟩ := xgo h0
      refine x_iast C k_574 (ib_in g23) d_Model_likesBy_208 ?_
      obtain ⟨σ24, eσ24, h0⟩ := xlet h0
      refine x_sig C eσ24 ?_
      refine x_aload_n C d_Model_likesBy_209 3 rfl ?_
      refine x_getA (y := 574) C fg_Model_20 k_570 rfl d_Model_likesBy_210 ?_
      refine x_bipush (v := 120) C d_Model_likesBy_213 (by decide) ?_
      refine x_aload_n C d_Model_likesBy_215 3 rfl ?_
      refine x_getA (y := 575) C fg_Model_37 k_570 rfl d_Model_likesBy_216 ?_
      refine x_iconst (v := 3) C d_Model_likesBy_219 (by decide) ?_
      refine x_iload_n C d_Model_likesBy_220 5 rfl ?_
      refine x_imul C d_Model_likesBy_221 ?_
      refine x_iconst (v := 2) C d_Model_likesBy_222 (by decide) ?_
      refine x_iadd C d_Model_likesBy_223 ?_
      obtain ⟨g25, h0⟩ := xgo h0
      refine x_iald C k_575 (ib_in g25) d_Model_likesBy_224 ?_
      obtain ⟨g26, h0⟩ := xgo h0
      refine x_iast C k_574 (ib_in g26) d_Model_likesBy_225 ?_
      obtain ⟨σ27, eσ27, h0⟩ := xlet h0
      refine x_sig C eσ27 ?_
      refine x_aload_n C d_Model_likesBy_226 3 rfl ?_
      refine x_getA (y := 574) C fg_Model_20 k_570 rfl d_Model_likesBy_227 ?_
      refine x_bipush (v := 113) C d_Model_likesBy_230 (by decide) ?_
      refine x_aload_n C d_Model_likesBy_232 3 rfl ?_
      refine x_getA (y := 577) C fg_Model_43 k_570 rfl d_Model_likesBy_233 ?_
      refine x_iconst (v := 4) C d_Model_likesBy_236 (by decide) ?_
      refine x_iload_n C d_Model_likesBy_237 4 rfl ?_
      refine x_imul C d_Model_likesBy_238 ?_
      refine x_iconst (v := 1) C d_Model_likesBy_239 (by decide) ?_
      refine x_iadd C d_Model_likesBy_240 ?_
      obtain ⟨g28, h0⟩ := xgo h0
      refine x_iald C k_577 (ib_in g28) d_Model_likesBy_241 ?_
      obtain ⟨g29, h0⟩ := xgo h0
      refine x_iast C k_574 (ib_in g29) d_Model_likesBy_242 ?_
      obtain ⟨σ30, eσ30, h0⟩ := xlet h0
      refine x_sig C eσ30 ?_
      refine x_aload_n C d_Model_likesBy_243 3 rfl ?_
      refine x_getA (y := 574) C fg_Model_20 k_570 rfl d_Model_likesBy_244 ?_
      refine x_bipush (v := 109) C d_Model_likesBy_247 (by decide) ?_
      refine x_iload_n C d_Model_likesBy_249 6 rfl ?_
      obtain ⟨g31, h0⟩ := xgo h0
      refine x_iast C k_574 (ib_in g31) d_Model_likesBy_250 ?_
      obtain ⟨σ32, eσ32, h0⟩ := xlet h0
      refine x_sig C eσ32 ?_
      refine x_aload_n C d_Model_likesBy_251 3 rfl ?_
      refine x_getA (y := 574) C fg_Model_20 k_570 rfl d_Model_likesBy_252 ?_
      refine x_bipush (v := 112) C d_Model_likesBy_255 (by decide) ?_
      refine x_iload_n C d_Model_likesBy_257 4 rfl ?_
      obtain ⟨g33, h0⟩ := xgo h0
      refine x_iast C k_574 (ib_in g33) d_Model_likesBy_258 ?_
      obtain ⟨σ34, eσ34, h0⟩ := xlet h0
      refine x_sig C eσ34 ?_
      refine x_aload_n C d_Model_likesBy_259 3 rfl ?_
      refine x_aload_n C d_Model_likesBy_260 3 rfl ?_
      refine x_getA (y := 572) C fg_Model_13 k_570 rfl d_Model_likesBy_261 ?_
      refine x_sipush (v := 240) C d_Model_likesBy_264 (by decide) ?_
      refine x_aload_n C d_Model_likesBy_267 3 rfl ?_
      refine x_getI (y := 0) C fg_Model_67 k_570 rfl d_Model_likesBy_268 ?_
      refine x_imul C d_Model_likesBy_271 ?_
      refine x_aload_n C d_Model_likesBy_272 3 rfl ?_
      refine x_getA (y := 573) C fg_Model_16 k_570 rfl d_Model_likesBy_273 ?_
      refine x_aload_n C d_Model_likesBy_276 3 rfl ?_
      refine x_getI (y := 0) C fg_Model_67 k_570 rfl d_Model_likesBy_277 ?_
      obtain ⟨g35, h0⟩ := xgo h0
      refine x_iald C k_573 (ib_in g35) d_Model_likesBy_280 ?_
      obtain ⟨σ37, k36, h0⟩ := xbind1 h0
      refine x_callVv C hR (c_Model_goThrough (d := d) (by omega) (by decide) k36) cw_Model_294 k_570 rfl rfl rfl (Nat.le_of_ble_eq_true rfl) ⟨Nat.zero_le _, Nat.zero_le _⟩ d_Model_likesBy_281 ?_
      refine x_aload_n C d_Model_likesBy_284 3 rfl ?_
      refine x_getA (y := 585) C fg_Model_71 k_570 rfl d_Model_likesBy_285 ?_
      refine x_iload C d_Model_likesBy_288 0 rfl ?_
      refine x_lload C d_Model_likesBy_290 1 rfl ?_
      obtain ⟨g38, h0⟩ := xgo h0
      refine x_last C k_585 (ib_in g38) d_Model_likesBy_292 ?_
      obtain ⟨σ39, eσ39, h0⟩ := xlet h0
      refine x_sig C eσ39 ?_
      refine x_aload_n C d_Model_likesBy_293 3 rfl ?_
      refine x_getA (y := 586) C fg_Model_75 k_570 rfl d_Model_likesBy_294 ?_
      refine x_iload C d_Model_likesBy_297 0 rfl ?_
      refine x_aload_n C d_Model_likesBy_299 3 rfl ?_
      refine x_getI (y := 0) C fg_Model_222 k_570 rfl d_Model_likesBy_300 ?_
      obtain ⟨g40, h0⟩ := xgo h0
      refine x_iast C k_586 (ib_in g40) d_Model_likesBy_303 ?_
      obtain ⟨σ41, eσ41, h0⟩ := xlet h0
      refine x_sig C eσ41 ?_
      exact x_lv C [3, 0] rfl (b_Model_likesBy_304 C hr hk hd hR h0)
  · replace h0 := xit q4 h0
    refine x_iconst (v := 0) C d_Model_likesBy_40 (by decide) ?_
    refine x_sipush (v := 999) C d_Model_likesBy_41 (by decide) ?_
    refine x_aload_n C d_Model_likesBy_44 1 rfl ?_
    refine x_getA (y := 575) C fg_Model_37 k_570 rfl d_Model_likesBy_45 ?_
    refine x_iconst (v := 3) C d_Model_likesBy_48 (by decide) ?_
    refine x_iload_n C d_Model_likesBy_49 3 rfl ?_
    refine x_imul C d_Model_likesBy_50 ?_
    obtain ⟨g5, h0⟩ := xgo h0
    refine x_iald C k_575 (ib_in g5) d_Model_likesBy_51 ?_
    refine x_iload C d_Model_likesBy_52 0 rfl ?_
    refine x_iadd C d_Model_likesBy_54 ?_
    refine x_mmin C (xroom1 hR) w_1890 w_716 w_123 w_717 (Nat.le_of_ble_eq_true rfl) ⟨Nat.zero_le _, Nat.zero_le _⟩ d_Model_likesBy_55 ?_
    refine x_mmax C (xroom1 hR) w_1891 w_713 w_123 w_714 (Nat.le_of_ble_eq_true rfl) ⟨Nat.zero_le _, Nat.zero_le _⟩ d_Model_likesBy_58 ?_
    exact x_iret C hr hk h0 d_Model_likesBy_61
def s_Model_likesBy (p0 : Int32) (p1 : Int32) (p2 : Int32) (σ : LH) : Option (Int32 × LH) :=
  if 0 ≤ p1 then (
   if ib 0 2 then (
   if p2 < (σ.1 581 (Int32.toNatClampNeg 0)) then (
    s_Model_likesBy_30 p0 p1 p2 0 σ)
   else (
    if ib ((3 * p1) + 1) 24 then (
    s_Model_likesBy_30 p0 p1 p2 (σ.1 575 (Int32.toNatClampNeg ((3 * p1) + 1))) σ) else none)) else none)
  else (
   some (0, σ))
theorem c_Model_likesBy {G : XG} {l : Launch} {d : Nat} (hd : 117 ≤ d) {p0 : Int32} {p1 : Int32} {p2 : Int32} {σ σ' : LH} {r : Int32} (h0 : s_Model_likesBy p0 p1 p2 σ = some (r, σ')) : xM G 570 598 l y_Model_likesBy prog_14_method_45_code 8 (some .int) d [.ref (G.2.2.1 + 570), .int p0, .int p1, .int p2] σ (some (.int r)) σ' := by
  obtain ⟨d, rfl⟩ : ∃ q, d = q + 1 := ⟨d - 1, by omega⟩
  refine x_met R_Model rfl (by decide +kernel) (Nat.le_of_ble_eq_true rfl) fun p e s m below meth c C hr hk hR => ?_
  refine x_lv (lv' := [(0, .ref (G.2.2.1 + 570)), (1, .int p0), (2, .int p1), (3, .int p2)]) C [0, 1, 2, 3] rfl ?_
  generalize xrm (d + 1) = R at hR ⊢
  unfold s_Model_likesBy at h0
  refine x_iload_n C d_Model_likesBy_0 2 rfl ?_
  refine x_if_ge C 6 d_Model_likesBy_1 (by decide) (fun q1 => ?_) (fun q1 => ?_)
  · replace h0 := xit q1 h0
    refine x_iload_n C d_Model_likesBy_6 3 rfl ?_
    refine x_aload_n C d_Model_likesBy_7 0 rfl ?_
    refine x_getA (y := 581) C fg_Model_55 k_570 rfl d_Model_likesBy_8 ?_
    refine x_iconst (v := 0) C d_Model_likesBy_11 (by decide) ?_
    obtain ⟨g2, h0⟩ := xgo h0
    refine x_iald C k_581 (ib_in g2) d_Model_likesBy_12 ?_
    refine x_icmp_lt C 29 d_Model_likesBy_13 (by decide) (fun q3 => ?_) (fun q3 => ?_)
    · replace h0 := xit q3 h0
      refine x_iconst (v := 0) C d_Model_likesBy_29 (by decide) ?_
      exact x_lv C [0, 1, 2, 3] rfl (b_Model_likesBy_30 C hr hk hd hR h0)
    · replace h0 := xif q3 h0
      refine x_aload_n C d_Model_likesBy_16 0 rfl ?_
      refine x_getA (y := 575) C fg_Model_37 k_570 rfl d_Model_likesBy_17 ?_
      refine x_iconst (v := 3) C d_Model_likesBy_20 (by decide) ?_
      refine x_iload_n C d_Model_likesBy_21 2 rfl ?_
      refine x_imul C d_Model_likesBy_22 ?_
      refine x_iconst (v := 1) C d_Model_likesBy_23 (by decide) ?_
      refine x_iadd C d_Model_likesBy_24 ?_
      obtain ⟨g42, h0⟩ := xgo h0
      refine x_iald C k_575 (ib_in g42) d_Model_likesBy_25 ?_
      refine x_goto C 30 d_Model_likesBy_26 (by decide) ?_
      exact x_lv C [0, 1, 2, 3] rfl (b_Model_likesBy_30 C hr hk hd hR h0)
  · replace h0 := xif q1 h0
    refine x_iconst (v := 0) C d_Model_likesBy_4 (by decide) ?_
    exact x_iret C hr hk h0 d_Model_likesBy_5
-- LostPlacesModel.likesIn([III)I
theorem d_Model_likesIn_0 : decode prog_14_method_46_code 0 = .ok (.aload_n 0, 1) := by decide +kernel
theorem d_Model_likesIn_1 : decode prog_14_method_46_code 1 = .ok (.iload_n 2, 1) := by decide +kernel
theorem d_Model_likesIn_2 : decode prog_14_method_46_code 2 = .ok (.iload_n 3, 1) := by decide +kernel
theorem d_Model_likesIn_3 : decode prog_14_method_46_code 3 = .ok (.aload_n 1, 1) := by decide +kernel
theorem d_Model_likesIn_4 : decode prog_14_method_46_code 4 = .ok (.bipush 48, 2) := by decide +kernel
theorem d_Model_likesIn_6 : decode prog_14_method_46_code 6 = .ok (.iaload, 1) := by decide +kernel
theorem d_Model_likesIn_7 : decode prog_14_method_46_code 7 = .ok (.invokevirtual 342, 3) := by decide +kernel
theorem d_Model_likesIn_10 : decode prog_14_method_46_code 10 = .ok (.ireturn, 1) := by decide +kernel
def s_Model_likesIn (p0 : Nat) (p1 : Int32) (p2 : Int32) (σ : LH) : Option (Int32 × LH) :=
  if ib 48 290 then (
  xb2 (s_Model_likesBy p1 p2 (σ.1 p0 (Int32.toNatClampNeg 48)) σ) fun r3 σ4 =>
  some (r3, σ4)) else none
theorem c_Model_likesIn {G : XG} {l : Launch} {d : Nat} (hd : 118 ≤ d) {p0 : Nat} {p1 : Int32} {p2 : Int32} (hp0 : xin 570 598 p0 (2, 290, 0)) {σ σ' : LH} {r : Int32} (h0 : s_Model_likesIn p0 p1 p2 σ = some (r, σ')) : xM G 570 598 l y_Model_likesIn prog_14_method_46_code 4 (some .int) d [.ref (G.2.2.1 + 570), .ref (G.2.2.1 + p0), .int p1, .int p2] σ (some (.int r)) σ' := by
  obtain ⟨d, rfl⟩ : ∃ q, d = q + 1 := ⟨d - 1, by omega⟩
  refine x_met R_Model rfl (by decide +kernel) (Nat.le_of_ble_eq_true rfl) fun p e s m below meth c C hr hk hR => ?_
  refine x_lv (lv' := [(0, .ref (G.2.2.1 + 570)), (1, .ref (G.2.2.1 + p0)), (2, .int p1), (3, .int p2)]) C [0, 1, 2, 3] rfl ?_
  generalize xrm (d + 1) = R at hR ⊢
  unfold s_Model_likesIn at h0
  refine x_aload_n C d_Model_likesIn_0 0 rfl ?_
  refine x_iload_n C d_Model_likesIn_1 2 rfl ?_
  refine x_iload_n C d_Model_likesIn_2 3 rfl ?_
  refine x_aload_n C d_Model_likesIn_3 1 rfl ?_
  refine x_bipush (v := 48) C d_Model_likesIn_4 (by decide) ?_
  obtain ⟨g1, h0⟩ := xgo h0
  refine x_iald C hp0 (ib_in g1) d_Model_likesIn_6 ?_
  obtain ⟨r3, σ4, k2, h0⟩ := xbind2 h0
  refine x_callVi C hR (c_Model_likesBy (d := d) (by omega) k2) cw_Model_342 k_570 rfl rfl rfl (Nat.le_of_ble_eq_true rfl) ⟨Nat.zero_le _, Nat.zero_le _⟩ d_Model_likesIn_7 ?_
  exact x_iret C hr hk h0 d_Model_likesIn_10
-- LostPlacesModel.goesUp([IIIZ)V
theorem d_Model_goesUp_0 : decode prog_14_method_47_code 0 = .ok (.aload_n 1, 1) := by decide +kernel
theorem d_Model_goesUp_1 : decode prog_14_method_47_code 1 = .ok (.iconst 4, 1) := by decide +kernel
theorem d_Model_goesUp_2 : decode prog_14_method_47_code 2 = .ok (.iload_n 2, 1) := by decide +kernel
theorem d_Model_goesUp_3 : decode prog_14_method_47_code 3 = .ok (.imul, 1) := by decide +kernel
theorem d_Model_goesUp_4 : decode prog_14_method_47_code 4 = .ok (.iaload, 1) := by decide +kernel
theorem d_Model_goesUp_5 : decode prog_14_method_47_code 5 = .ok (.istore 5, 2) := by decide +kernel
theorem d_Model_goesUp_7 : decode prog_14_method_47_code 7 = .ok (.iload 4, 2) := by decide +kernel
theorem d_Model_goesUp_9 : decode prog_14_method_47_code 9 = .ok (.ifCond .eq 13, 3) := by decide +kernel
theorem d_Model_goesUp_12 : decode prog_14_method_47_code 12 = .ok (.aload_n 1, 1) := by decide +kernel
theorem d_Model_goesUp_13 : decode prog_14_method_47_code 13 = .ok (.iconst 4, 1) := by decide +kernel
theorem d_Model_goesUp_14 : decode prog_14_method_47_code 14 = .ok (.iload_n 2, 1) := by decide +kernel
theorem d_Model_goesUp_15 : decode prog_14_method_47_code 15 = .ok (.imul, 1) := by decide +kernel
theorem d_Model_goesUp_16 : decode prog_14_method_47_code 16 = .ok (.iconst 2, 1) := by decide +kernel
theorem d_Model_goesUp_17 : decode prog_14_method_47_code 17 = .ok (.iadd, 1) := by decide +kernel
theorem d_Model_goesUp_18 : decode prog_14_method_47_code 18 = .ok (.iaload, 1) := by decide +kernel
theorem d_Model_goesUp_19 : decode prog_14_method_47_code 19 = .ok (.goto 4, 3) := by decide +kernel
theorem d_Model_goesUp_22 : decode prog_14_method_47_code 22 = .ok (.iconst 0, 1) := by decide +kernel
theorem d_Model_goesUp_23 : decode prog_14_method_47_code 23 = .ok (.istore 6, 2) := by decide +kernel
theorem d_Model_goesUp_25 : decode prog_14_method_47_code 25 = .ok (.aload_n 1, 1) := by decide +kernel
theorem d_Model_goesUp_26 : decode prog_14_method_47_code 26 = .ok (.iconst 4, 1) := by decide +kernel
theorem d_Model_goesUp_27 : decode prog_14_method_47_code 27 = .ok (.iload_n 2, 1) := by decide +kernel
theorem d_Model_goesUp_28 : decode prog_14_method_47_code 28 = .ok (.imul, 1) := by decide +kernel
theorem d_Model_goesUp_29 : decode prog_14_method_47_code 29 = .ok (.bipush (-2), 2) := by decide +kernel
theorem d_Model_goesUp_31 : decode prog_14_method_47_code 31 = .ok (.iastore, 1) := by decide +kernel
theorem d_Model_goesUp_32 : decode prog_14_method_47_code 32 = .ok (.aload_n 1, 1) := by decide +kernel
theorem d_Model_goesUp_33 : decode prog_14_method_47_code 33 = .ok (.iconst 4, 1) := by decide +kernel
theorem d_Model_goesUp_34 : decode prog_14_method_47_code 34 = .ok (.iload_n 2, 1) := by decide +kernel
theorem d_Model_goesUp_35 : decode prog_14_method_47_code 35 = .ok (.imul, 1) := by decide +kernel
theorem d_Model_goesUp_36 : decode prog_14_method_47_code 36 = .ok (.iconst 1, 1) := by decide +kernel
theorem d_Model_goesUp_37 : decode prog_14_method_47_code 37 = .ok (.iadd, 1) := by decide +kernel
theorem d_Model_goesUp_38 : decode prog_14_method_47_code 38 = .ok (.aload_n 1, 1) := by decide +kernel
theorem d_Model_goesUp_39 : decode prog_14_method_47_code 39 = .ok (.bipush 48, 2) := by decide +kernel
theorem d_Model_goesUp_41 : decode prog_14_method_47_code 41 = .ok (.iaload, 1) := by decide +kernel
theorem d_Model_goesUp_42 : decode prog_14_method_47_code 42 = .ok (.iload_n 3, 1) := by decide +kernel
theorem d_Model_goesUp_43 : decode prog_14_method_47_code 43 = .ok (.iadd, 1) := by decide +kernel
theorem d_Model_goesUp_44 : decode prog_14_method_47_code 44 = .ok (.iastore, 1) := by decide +kernel
theorem d_Model_goesUp_45 : decode prog_14_method_47_code 45 = .ok (.iload 5, 2) := by decide +kernel
theorem d_Model_goesUp_47 : decode prog_14_method_47_code 47 = .ok (.ifCond .lt 8, 3) := by decide +kernel
theorem d_Model_goesUp_50 : decode prog_14_method_47_code 50 = .ok (.iload 6, 2) := by decide +kernel
theorem d_Model_goesUp_52 : decode prog_14_method_47_code 52 = .ok (.ifCond .ne 4, 3) := by decide +kernel
theorem d_Model_goesUp_55 : decode prog_14_method_47_code 55 = .ok (.return_, 1) := by decide +kernel
theorem d_Model_goesUp_56 : decode prog_14_method_47_code 56 = .ok (.aload_n 1, 1) := by decide +kernel
theorem d_Model_goesUp_57 : decode prog_14_method_47_code 57 = .ok (.bipush 32, 2) := by decide +kernel
theorem d_Model_goesUp_59 : decode prog_14_method_47_code 59 = .ok (.iconst 2, 1) := by decide +kernel
theorem d_Model_goesUp_60 : decode prog_14_method_47_code 60 = .ok (.iload 5, 2) := by decide +kernel
theorem d_Model_goesUp_62 : decode prog_14_method_47_code 62 = .ok (.imul, 1) := by decide +kernel
theorem d_Model_goesUp_63 : decode prog_14_method_47_code 63 = .ok (.iadd, 1) := by decide +kernel
theorem d_Model_goesUp_64 : decode prog_14_method_47_code 64 = .ok (.iload_n 2, 1) := by decide +kernel
theorem d_Model_goesUp_65 : decode prog_14_method_47_code 65 = .ok (.iastore, 1) := by decide +kernel
theorem d_Model_goesUp_66 : decode prog_14_method_47_code 66 = .ok (.aload_n 1, 1) := by decide +kernel
theorem d_Model_goesUp_67 : decode prog_14_method_47_code 67 = .ok (.bipush 32, 2) := by decide +kernel
theorem d_Model_goesUp_69 : decode prog_14_method_47_code 69 = .ok (.iconst 2, 1) := by decide +kernel
theorem d_Model_goesUp_70 : decode prog_14_method_47_code 70 = .ok (.iload 5, 2) := by decide +kernel
theorem d_Model_goesUp_72 : decode prog_14_method_47_code 72 = .ok (.imul, 1) := by decide +kernel
theorem d_Model_goesUp_73 : decode prog_14_method_47_code 73 = .ok (.iadd, 1) := by decide +kernel
theorem d_Model_goesUp_74 : decode prog_14_method_47_code 74 = .ok (.iconst 1, 1) := by decide +kernel
theorem d_Model_goesUp_75 : decode prog_14_method_47_code 75 = .ok (.iadd, 1) := by decide +kernel
theorem d_Model_goesUp_76 : decode prog_14_method_47_code 76 = .ok (.aload_n 1, 1) := by decide +kernel
theorem d_Model_goesUp_77 : decode prog_14_method_47_code 77 = .ok (.bipush 48, 2) := by decide +kernel
theorem d_Model_goesUp_79 : decode prog_14_method_47_code 79 = .ok (.iaload, 1) := by decide +kernel
theorem d_Model_goesUp_80 : decode prog_14_method_47_code 80 = .ok (.iload 6, 2) := by decide +kernel
theorem d_Model_goesUp_82 : decode prog_14_method_47_code 82 = .ok (.iadd, 1) := by decide +kernel
theorem d_Model_goesUp_83 : decode prog_14_method_47_code 83 = .ok (.iastore, 1) := by decide +kernel
theorem d_Model_goesUp_84 : decode prog_14_method_47_code 84 = .ok (.return_, 1) := by decide +kernel
def s_Model_goesUp_55 (p0 : Nat) (p1 : Int32) (p2 : Int32) (p3 : Int32) (σ : LH) : Option (LH) :=
  some σ
theorem b_Model_goesUp_55 {G : XG} {l : Launch} {p : Program} {e : Env} {R : Room} {s : State} {m : MethodId} {args : Array Value} {below : List Frame} {meth : Method} {c : Code} (C : XC G 570 598 p s m args c prog_14_method_47_code 7 R_Model) (hr : meth.sig.returnType = none) (hk : meth.locks = false) {d : Nat} (hd : 1 ≤ d + 1) (hR : xroom R (d + 1)) {p0 : Nat} {p1 : Int32} {p2 : Int32} {p3 : Int32} (hp0 : xin 570 598 p0 (2, 290, 0)) {σ' : LH} {σ : LH} (h0 : s_Model_goesUp_55 p0 p1 p2 p3 σ = some σ') : XJ G 570 598 p l e R s m args below meth c 7 (XQ G 570 598 below args s none σ') 0 0 55 [] [] σ := by
  replace h0 := (show _ = _ from h0)
  unfold s_Model_goesUp_55 at h0
  exact x_vret C hr hk h0 d_Model_goesUp_55
def s_Model_goesUp_23 (p0 : Nat) (p1 : Int32) (p2 : Int32) (p3 : Int32) (y5 : Int32) (z0 : Int32) (σ : LH) : Option (LH) :=
  if ib (4 * p1) 290 then (
  xl ((stI σ p0 (Int32.toNatClampNeg (4 * p1)) (-2)) : LH) fun σ5 =>
  if ib 48 290 then (
  if ib ((4 * p1) + 1) 290 then (
  xl ((stI σ5 p0 (Int32.toNatClampNeg ((4 * p1) + 1)) ((σ5.1 p0 (Int32.toNatClampNeg 48)) + p2)) : LH) fun σ8 =>
  if y5 < 0 then (
   s_Model_goesUp_55 p0 p1 p2 p3 σ8)
  else (
   if z0 = 0 then (
    s_Model_goesUp_55 p0 p1 p2 p3 σ8)
   else (
    if ib (32 + (2 * y5)) 290 then (
    xl ((stI σ8 p0 (Int32.toNatClampNeg (32 + (2 * y5))) p1) : LH) fun σ12 =>
    if ib 48 290 then (
    if ib ((32 + (2 * y5)) + 1) 290 then (
    xl ((stI σ12 p0 (Int32.toNatClampNeg ((32 + (2 * y5)) + 1)) ((σ12.1 p0 (Int32.toNatClampNeg 48)) + z0)) : LH) fun σ15 =>
    some σ15) else none) else none) else none))) else none) else none) else none
theorem b_Model_goesUp_23 {G : XG} {l : Launch} {p : Program} {e : Env} {R : Room} {s : State} {m : MethodId} {args : Array Value} {below : List Frame} {meth : Method} {c : Code} (C : XC G 570 598 p s m args c prog_14_method_47_code 7 R_Model) (hr : meth.sig.returnType = none) (hk : meth.locks = false) {d : Nat} (hd : 1 ≤ d + 1) (hR : xroom R (d + 1)) {p0 : Nat} {p1 : Int32} {p2 : Int32} {p3 : Int32} (hp0 : xin 570 598 p0 (2, 290, 0)) {σ' : LH} {y5 : Int32} {z0 : Int32} {σ : LH} (h0 : s_Model_goesUp_23 p0 p1 p2 p3 y5 z0 σ = some σ') : XJ G 570 598 p l e R s m args below meth c 7 (XQ G 570 598 below args s none σ') 0 0 23 [(1, .ref (G.2.2.1 + p0)), (2, .int p1), (3, .int p2), (5, .int y5)] [.int z0] σ := by
  replace h0 := (show _ = _ from h0)
  unfold s_Model_goesUp_23 at h0
  refine x_istore (lv' := [(6, .int z0), (1, .ref (G.2.2.1 + p0)), (2, .int p1), (3, .int p2), (5, .int y5)]) C d_Model_goesUp_23 (by decide) rfl ?_
  refine x_aload_n C d_Model_goesUp_25 1 rfl ?_
  refine x_iconst (v := 4) C d_Model_goesUp_26 (by decide) ?_
  refine x_iload_n C d_Model_goesUp_27 2 rfl ?_
  refine x_imul C d_Model_goesUp_28 ?_
  refine x_bipush (v := (-2)) C d_Model_goesUp_29 (by decide) ?_
  obtain ⟨g4, h0⟩ := xgo h0
  refine x_iast C hp0 (ib_in g4) d_Model_goesUp_31 ?_
  obtain ⟨σ5, eσ5, h0⟩ := xlet h0
  refine x_sig C eσ5 ?_
  refine x_aload_n C d_Model_goesUp_32 1 rfl ?_
  refine x_iconst (v := 4) C d_Model_goesUp_33 (by decide) ?_
  refine x_iload_n C d_Model_goesUp_34 2 rfl ?_
  refine x_imul C d_Model_goesUp_35 ?_
  refine x_iconst (v := 1) C d_Model_goesUp_36 (by decide) ?_
  refine x_iadd C d_Model_goesUp_37 ?_
  refine x_aload_n C d_Model_goesUp_38 1 rfl ?_
  refine x_bipush (v := 48) C d_Model_goesUp_39 (by decide) ?_
  obtain ⟨g6, h0⟩ := xgo h0
  refine x_iald C hp0 (ib_in g6) d_Model_goesUp_41 ?_
  refine x_iload_n C d_Model_goesUp_42 3 rfl ?_
  refine x_iadd C d_Model_goesUp_43 ?_
  obtain ⟨g7, h0⟩ := xgo h0
  refine x_iast C hp0 (ib_in g7) d_Model_goesUp_44 ?_
  obtain ⟨σ8, eσ8, h0⟩ := xlet h0
  refine x_sig C eσ8 ?_
  refine x_iload C d_Model_goesUp_45 4 rfl ?_
  refine x_if_lt C 55 d_Model_goesUp_47 (by decide) (fun q9 => ?_) (fun q9 => ?_)
  · replace h0 := xit q9 h0
    exact x_lv C [] rfl (b_Model_goesUp_55 C hr hk hd hR hp0 h0)
  · replace h0 := xif q9 h0
    refine x_iload C d_Model_goesUp_50 0 rfl ?_
    refine x_if_ne C 56 d_Model_goesUp_52 (by decide) (fun q10 => ?_) (fun q10 => ?_)
    · replace h0 := xif q10 h0
      refine x_aload_n C d_Model_goesUp_56 1 rfl ?_
      refine x_bipush (v := 32) C d_Model_goesUp_57 (by decide) ?_
      refine x_iconst (v := 2) C d_Model_goesUp_59 (by decide) ?_
      refine x_iload C d_Model_goesUp_60 4 rfl ?_
      refine x_imul C d_Model_goesUp_62 ?_
      refine x_iadd C d_Model_goesUp_63 ?_
      refine x_iload_n C d_Model_goesUp_64 2 rfl ?_
      obtain ⟨g11, h0⟩ := xgo h0
      refine x_iast C hp0 (ib_in g11) d_Model_goesUp_65 ?_
      obtain ⟨σ12, eσ12, h0⟩ := xlet h0
      refine x_sig C eσ12 ?_
      refine x_aload_n C d_Model_goesUp_66 1 rfl ?_
      refine x_bipush (v := 32) C d_Model_goesUp_67 (by decide) ?_
      refine x_iconst (v := 2) C d_Model_goesUp_69 (by decide) ?_
      refine x_iload C d_Model_goesUp_70 4 rfl ?_
      refine x_imul C d_Model_goesUp_72 ?_
      refine x_iadd C d_Model_goesUp_73 ?_
      refine x_iconst (v := 1) C d_Model_goesUp_74 (by decide) ?_
      refine x_iadd C d_Model_goesUp_75 ?_
      refine x_aload_n C d_Model_goesUp_76 1 rfl ?_
      refine x_bipush (v := 48) C d_Model_goesUp_77 (by decide) ?_
      obtain ⟨g13, h0⟩ := xgo h0
      refine x_iald C hp0 (ib_in g13) d_Model_goesUp_79 ?_
      refine x_iload C d_Model_goesUp_80 0 rfl ?_
      refine x_iadd C d_Model_goesUp_82 ?_
      obtain ⟨g14, h0⟩ := xgo h0
      refine x_iast C hp0 (ib_in g14) d_Model_goesUp_83 ?_
      obtain ⟨σ15, eσ15, h0⟩ := xlet h0
      refine x_sig C eσ15 ?_
      exact x_vret C hr hk h0 d_Model_goesUp_84
    · replace h0 := xit q10 h0
      exact x_lv C [] rfl (b_Model_goesUp_55 C hr hk hd hR hp0 h0)
def s_Model_goesUp (p0 : Nat) (p1 : Int32) (p2 : Int32) (p3 : Int32) (σ : LH) : Option (LH) :=
  if ib (4 * p1) 290 then (
  xl (((σ.1 p0 (Int32.toNatClampNeg (4 * p1)))) : Int32) fun x2 =>
  if p3 = 0 then (
   s_Model_goesUp_23 p0 p1 p2 p3 x2 0 σ)
  else (
   if ib ((4 * p1) + 2) 290 then (
   s_Model_goesUp_23 p0 p1 p2 p3 x2 (σ.1 p0 (Int32.toNatClampNeg ((4 * p1) + 2))) σ) else none)) else none
theorem c_Model_goesUp {G : XG} {l : Launch} {d : Nat} (hd : 1 ≤ d) {p0 : Nat} {p1 : Int32} {p2 : Int32} {p3 : Int32} (hp0 : xin 570 598 p0 (2, 290, 0)) {σ σ' : LH} (h0 : s_Model_goesUp p0 p1 p2 p3 σ = some σ') : xM G 570 598 l y_Model_goesUp prog_14_method_47_code 7 none d [.ref (G.2.2.1 + 570), .ref (G.2.2.1 + p0), .int p1, .int p2, .int p3] σ none σ' := by
  obtain ⟨d, rfl⟩ : ∃ q, d = q + 1 := ⟨d - 1, by omega⟩
  refine x_met R_Model rfl (by decide +kernel) (Nat.le_of_ble_eq_true rfl) fun p e s m below meth c C hr hk hR => ?_
  refine x_lv (lv' := [(0, .ref (G.2.2.1 + 570)), (1, .ref (G.2.2.1 + p0)), (2, .int p1), (3, .int p2), (4, .int p3)]) C [0, 1, 2, 3, 4] rfl ?_
  generalize xrm (d + 1) = R at hR ⊢
  unfold s_Model_goesUp at h0
  refine x_aload_n C d_Model_goesUp_0 1 rfl ?_
  refine x_iconst (v := 4) C d_Model_goesUp_1 (by decide) ?_
  refine x_iload_n C d_Model_goesUp_2 2 rfl ?_
  refine x_imul C d_Model_goesUp_3 ?_
  obtain ⟨g1, h0⟩ := xgo h0
  refine x_iald C hp0 (ib_in g1) d_Model_goesUp_4 ?_
  obtain ⟨x2, ex2, h0⟩ := xlet h0
  refine x_name C ex2 ?_
  refine x_istore (lv' := [(5, .int x2), (0, .ref (G.2.2.1 + 570)), (1, .ref (G.2.2.1 + p0)), (2, .int p1), (3, .int p2), (4, .int p3)]) C d_Model_goesUp_5 (by decide) rfl ?_
  refine x_iload C d_Model_goesUp_7 5 rfl ?_
  refine x_if_eq C 22 d_Model_goesUp_9 (by decide) (fun q3 => ?_) (fun q3 => ?_)
  · replace h0 := xit q3 h0
    refine x_iconst (v := 0) C d_Model_goesUp_22 (by decide) ?_
    exact x_lv C [2, 3, 4, 0] rfl (b_Model_goesUp_23 C hr hk hd hR hp0 h0)
  · replace h0 := xif q3 h0
    refine x_aload_n C d_Model_goesUp_12 2 rfl ?_
    refine x_iconst (v := 4) C d_Model_goesUp_13 (by decide) ?_
    refine x_iload_n C d_Model_goesUp_14 3 rfl ?_
    refine x_imul C d_Model_goesUp_15 ?_
    refine x_iconst (v := 2) C d_Model_goesUp_16 (by decide) ?_
    refine x_iadd C d_Model_goesUp_17 ?_
    obtain ⟨g16, h0⟩ := xgo h0
    refine x_iald C hp0 (ib_in g16) d_Model_goesUp_18 ?_
    refine x_goto C 23 d_Model_goesUp_19 (by decide) ?_
    exact x_lv C [2, 3, 4, 0] rfl (b_Model_goesUp_23 C hr hk hd hR hp0 h0)
-- LostPlacesModel.keptFor([II)I
theorem d_Model_keptFor_0 : decode prog_14_method_48_code 0 = .ok (.iconst 0, 1) := by decide +kernel
theorem d_Model_keptFor_1 : decode prog_14_method_48_code 1 = .ok (.istore_n 3, 1) := by decide +kernel
theorem d_Model_keptFor_2 : decode prog_14_method_48_code 2 = .ok (.iload_n 3, 1) := by decide +kernel
theorem d_Model_keptFor_3 : decode prog_14_method_48_code 3 = .ok (.aload_n 0, 1) := by decide +kernel
theorem d_Model_keptFor_4 : decode prog_14_method_48_code 4 = .ok (.getfield 302, 3) := by decide +kernel
theorem d_Model_keptFor_7 : decode prog_14_method_48_code 7 = .ok (.if_icmp .ge 23, 3) := by decide +kernel
theorem d_Model_keptFor_10 : decode prog_14_method_48_code 10 = .ok (.aload_n 1, 1) := by decide +kernel
theorem d_Model_keptFor_11 : decode prog_14_method_48_code 11 = .ok (.bipush 32, 2) := by decide +kernel
theorem d_Model_keptFor_13 : decode prog_14_method_48_code 13 = .ok (.iconst 2, 1) := by decide +kernel
theorem d_Model_keptFor_14 : decode prog_14_method_48_code 14 = .ok (.iload_n 3, 1) := by decide +kernel
theorem d_Model_keptFor_15 : decode prog_14_method_48_code 15 = .ok (.imul, 1) := by decide +kernel
theorem d_Model_keptFor_16 : decode prog_14_method_48_code 16 = .ok (.iadd, 1) := by decide +kernel
theorem d_Model_keptFor_17 : decode prog_14_method_48_code 17 = .ok (.iaload, 1) := by decide +kernel
theorem d_Model_keptFor_18 : decode prog_14_method_48_code 18 = .ok (.iload_n 2, 1) := by decide +kernel
theorem d_Model_keptFor_19 : decode prog_14_method_48_code 19 = .ok (.if_icmp .ne 5, 3) := by decide +kernel
theorem d_Model_keptFor_22 : decode prog_14_method_48_code 22 = .ok (.iload_n 3, 1) := by decide +kernel
theorem d_Model_keptFor_23 : decode prog_14_method_48_code 23 = .ok (.ireturn, 1) := by decide +kernel
theorem d_Model_keptFor_24 : decode prog_14_method_48_code 24 = .ok (.iinc 3 1, 3) := by decide +kernel
theorem d_Model_keptFor_27 : decode prog_14_method_48_code 27 = .ok (.goto (-25), 3) := by decide +kernel
theorem d_Model_keptFor_30 : decode prog_14_method_48_code 30 = .ok (.iconst (-1), 1) := by decide +kernel
theorem d_Model_keptFor_31 : decode prog_14_method_48_code 31 = .ok (.ireturn, 1) := by decide +kernel
def s_Model_keptFor_2_b (p0 : Nat) (p1 : Int32) (rec2 : Int32 → LH → Option (Int32 × LH)) (y3 : Int32) (σ : LH) : Option (Int32 × LH) :=
  if (σ.1 570 26) ≤ y3 then (
   some ((-1), σ))
  else (
   if ib (32 + (2 * y3)) 290 then (
   if (σ.1 p0 (Int32.toNatClampNeg (32 + (2 * y3)))) = p1 then (
    some (y3, σ))
   else (
    xl ((y3 + 1) : Int32) fun x4 =>
    rec2 x4 σ)) else none)
def s_Model_keptFor_2 (p0 : Nat) (p1 : Int32) : Nat → Int32 → LH → Option (Int32 × LH)
  | 0, _, _ => none
  | n + 1, y3, σ => s_Model_keptFor_2_b p0 p1 (s_Model_keptFor_2 p0 p1 n) y3 σ
theorem bb_Model_keptFor_2 {G : XG} {l : Launch} {p : Program} {e : Env} {R : Room} {s : State} {m : MethodId} {args : Array Value} {below : List Frame} {meth : Method} {c : Code} (C : XC G 570 598 p s m args c prog_14_method_48_code 4 R_Model) (hr : meth.sig.returnType = (some .int)) (hk : meth.locks = false) {d : Nat} (hd : 1 ≤ d + 1) (hR : xroom R (d + 1)) {p0 : Nat} {p1 : Int32} (hp0 : xin 570 598 p0 (2, 290, 0)) {rec2 : Int32 → LH → Option (Int32 × LH)} {σ' : LH} {r : Int32} (hrec2 : ∀ (y3 : Int32) (σ : LH), rec2 y3 σ = some (r, σ') → XJ G 570 598 p l e R s m args below meth c 4 (XQ G 570 598 below args s (some (.int r)) σ') 0 0 2 [(0, .ref (G.2.2.1 + 570)), (1, .ref (G.2.2.1 + p0)), (2, .int p1), (3, .int y3)] [] σ) {y3 : Int32} {σ : LH} (h0 : s_Model_keptFor_2_b p0 p1 rec2 y3 σ = some (r, σ')) : XJ G 570 598 p l e R s m args below meth c 4 (XQ G 570 598 below args s (some (.int r)) σ') 0 0 2 [(0, .ref (G.2.2.1 + 570)), (1, .ref (G.2.2.1 + p0)), (2, .int p1), (3, .int y3)] [] σ := by
  replace h0 := (show _ = _ from h0)
  unfold s_Model_keptFor_2_b at h0
  refine x_iload_n C d_Model_keptFor_2 3 rfl ?_
  refine x_aload_n C d_Model_keptFor_3 0 rfl ?_
  refine x_getI (y := 0) C fg_Model_302 k_570 rfl d_Model_keptFor_4 ?_
  refine x_icmp_ge C 30 d_Model_keptFor_7 (by decide) (fun q1 => ?_) (fun q1 => ?_)
  · replace h0 := xit q1 h0
    refine x_iconst (v := (-1)) C d_Model_keptFor_30 (by decide) ?_
    exact x_iret C hr hk h0 d_Model_keptFor_31
  · replace h0 := xif q1 h0
    refine x_aload_n C d_Model_keptFor_10 1 rfl ?_
    refine x_bipush (v := 32) C d_Model_keptFor_11 (by decide) ?_
    refine x_iconst (v := 2) C d_Model_keptFor_13 (by decide) ?_
    refine x_iload_n C d_Model_keptFor_14 3 rfl ?_
    refine x_imul C d_Model_keptFor_15 ?_
    refine x_iadd C d_Model_keptFor_16 ?_
    obtain ⟨g2, h0⟩ := xgo h0
    refine x_iald C hp0 (ib_in g2) d_Model_keptFor_17 ?_
    refine x_iload_n C d_Model_keptFor_18 2 rfl ?_
    refine x_icmp_ne C 24 d_Model_keptFor_19 (by decide) (fun q3 => ?_) (fun q3 => ?_)
    · replace h0 := xif q3 h0
      obtain ⟨x4, ex4, h0⟩ := xlet h0
      refine x_iinc (lv' := [(3, .int x4), (0, .ref (G.2.2.1 + 570)), (1, .ref (G.2.2.1 + p0)), (2, .int p1)]) C d_Model_keptFor_24 3 rfl ex4 (by decide) rfl ?_
      refine x_goto C 2 d_Model_keptFor_27 (by decide) ?_
      exact x_lv C [1, 2, 3, 0] rfl (hrec2 _ _ h0)
    · replace h0 := xit q3 h0
      refine x_iload_n C d_Model_keptFor_22 3 rfl ?_
      exact x_iret C hr hk h0 d_Model_keptFor_23
theorem b_Model_keptFor_2 {G : XG} {l : Launch} {p : Program} {e : Env} {R : Room} {s : State} {m : MethodId} {args : Array Value} {below : List Frame} {meth : Method} {c : Code} (C : XC G 570 598 p s m args c prog_14_method_48_code 4 R_Model) (hr : meth.sig.returnType = (some .int)) (hk : meth.locks = false) {d : Nat} (hd : 1 ≤ d + 1) (hR : xroom R (d + 1)) {p0 : Nat} {p1 : Int32} (hp0 : xin 570 598 p0 (2, 290, 0)) {σ' : LH} {r : Int32} : ∀ (n : Nat) (y3 : Int32) (σ : LH), s_Model_keptFor_2 p0 p1 n y3 σ = some (r, σ') → XJ G 570 598 p l e R s m args below meth c 4 (XQ G 570 598 below args s (some (.int r)) σ') 0 0 2 [(0, .ref (G.2.2.1 + 570)), (1, .ref (G.2.2.1 + p0)), (2, .int p1), (3, .int y3)] [] σ := by
  intro n
  induction n with
  | zero => intro y3 σ h0; cases h0
  | succ n ih => intro y3 σ h0; exact bb_Model_keptFor_2 C hr hk hd hR hp0 ih h0
def s_Model_keptFor (p0 : Nat) (p1 : Int32) (σ : LH) : Option (Int32 × LH) :=
  s_Model_keptFor_2 p0 p1 FUEL 0 σ
theorem c_Model_keptFor {G : XG} {l : Launch} {d : Nat} (hd : 1 ≤ d) {p0 : Nat} {p1 : Int32} (hp0 : xin 570 598 p0 (2, 290, 0)) {σ σ' : LH} {r : Int32} (h0 : s_Model_keptFor p0 p1 σ = some (r, σ')) : xM G 570 598 l y_Model_keptFor prog_14_method_48_code 4 (some .int) d [.ref (G.2.2.1 + 570), .ref (G.2.2.1 + p0), .int p1] σ (some (.int r)) σ' := by
  obtain ⟨d, rfl⟩ : ∃ q, d = q + 1 := ⟨d - 1, by omega⟩
  refine x_met R_Model rfl (by decide +kernel) (Nat.le_of_ble_eq_true rfl) fun p e s m below meth c C hr hk hR => ?_
  refine x_lv (lv' := [(0, .ref (G.2.2.1 + 570)), (1, .ref (G.2.2.1 + p0)), (2, .int p1)]) C [0, 1, 2] rfl ?_
  generalize xrm (d + 1) = R at hR ⊢
  unfold s_Model_keptFor at h0
  refine x_iconst (v := 0) C d_Model_keptFor_0 (by decide) ?_
  refine x_istore_n (lv' := [(3, .int 0), (0, .ref (G.2.2.1 + 570)), (1, .ref (G.2.2.1 + p0)), (2, .int p1)]) C d_Model_keptFor_1 rfl (by decide) rfl ?_
  exact x_lv C [1, 2, 3, 0] rfl (b_Model_keptFor_2 C hr hk hd hR hp0 FUEL _ _ h0)
-- LostPlacesModel.frees([II)V
theorem d_Model_frees_0 : decode prog_14_method_49_code 0 = .ok (.aload_n 1, 1) := by decide +kernel
theorem d_Model_frees_1 : decode prog_14_method_49_code 1 = .ok (.bipush 32, 2) := by decide +kernel
theorem d_Model_frees_3 : decode prog_14_method_49_code 3 = .ok (.iconst 2, 1) := by decide +kernel
theorem d_Model_frees_4 : decode prog_14_method_49_code 4 = .ok (.iload_n 2, 1) := by decide +kernel
theorem d_Model_frees_5 : decode prog_14_method_49_code 5 = .ok (.imul, 1) := by decide +kernel
theorem d_Model_frees_6 : decode prog_14_method_49_code 6 = .ok (.iadd, 1) := by decide +kernel
theorem d_Model_frees_7 : decode prog_14_method_49_code 7 = .ok (.iconst (-1), 1) := by decide +kernel
theorem d_Model_frees_8 : decode prog_14_method_49_code 8 = .ok (.iastore, 1) := by decide +kernel
theorem d_Model_frees_9 : decode prog_14_method_49_code 9 = .ok (.aload_n 1, 1) := by decide +kernel
theorem d_Model_frees_10 : decode prog_14_method_49_code 10 = .ok (.bipush 32, 2) := by decide +kernel
theorem d_Model_frees_12 : decode prog_14_method_49_code 12 = .ok (.iconst 2, 1) := by decide +kernel
theorem d_Model_frees_13 : decode prog_14_method_49_code 13 = .ok (.iload_n 2, 1) := by decide +kernel
theorem d_Model_frees_14 : decode prog_14_method_49_code 14 = .ok (.imul, 1) := by decide +kernel
theorem d_Model_frees_15 : decode prog_14_method_49_code 15 = .ok (.iadd, 1) := by decide +kernel
theorem d_Model_frees_16 : decode prog_14_method_49_code 16 = .ok (.iconst 1, 1) := by decide +kernel
theorem d_Model_frees_17 : decode prog_14_method_49_code 17 = .ok (.iadd, 1) := by decide +kernel
theorem d_Model_frees_18 : decode prog_14_method_49_code 18 = .ok (.iconst (-1), 1) := by decide +kernel
theorem d_Model_frees_19 : decode prog_14_method_49_code 19 = .ok (.iastore, 1) := by decide +kernel
theorem d_Model_frees_20 : decode prog_14_method_49_code 20 = .ok (.return_, 1) := by decide +kernel
def s_Model_frees (p0 : Nat) (p1 : Int32) (σ : LH) : Option (LH) :=
  if ib (32 + (2 * p1)) 290 then (
  xl ((stI σ p0 (Int32.toNatClampNeg (32 + (2 * p1))) (-1)) : LH) fun σ2 =>
  if ib ((32 + (2 * p1)) + 1) 290 then (
  xl ((stI σ2 p0 (Int32.toNatClampNeg ((32 + (2 * p1)) + 1)) (-1)) : LH) fun σ4 =>
  some σ4) else none) else none
theorem c_Model_frees {G : XG} {l : Launch} {d : Nat} (hd : 1 ≤ d) {p0 : Nat} {p1 : Int32} (hp0 : xin 570 598 p0 (2, 290, 0)) {σ σ' : LH} (h0 : s_Model_frees p0 p1 σ = some σ') : xM G 570 598 l y_Model_frees prog_14_method_49_code 3 none d [.ref (G.2.2.1 + 570), .ref (G.2.2.1 + p0), .int p1] σ none σ' := by
  obtain ⟨d, rfl⟩ : ∃ q, d = q + 1 := ⟨d - 1, by omega⟩
  refine x_met R_Model rfl (by decide +kernel) (Nat.le_of_ble_eq_true rfl) fun p e s m below meth c C hr hk hR => ?_
  refine x_lv (lv' := [(0, .ref (G.2.2.1 + 570)), (1, .ref (G.2.2.1 + p0)), (2, .int p1)]) C [0, 1, 2] rfl ?_
  generalize xrm (d + 1) = R at hR ⊢
  unfold s_Model_frees at h0
  refine x_aload_n C d_Model_frees_0 1 rfl ?_
  refine x_bipush (v := 32) C d_Model_frees_1 (by decide) ?_
  refine x_iconst (v := 2) C d_Model_frees_3 (by decide) ?_
  refine x_iload_n C d_Model_frees_4 2 rfl ?_
  refine x_imul C d_Model_frees_5 ?_
  refine x_iadd C d_Model_frees_6 ?_
  refine x_iconst (v := (-1)) C d_Model_frees_7 (by decide) ?_
  obtain ⟨g1, h0⟩ := xgo h0
  refine x_iast C hp0 (ib_in g1) d_Model_frees_8 ?_
  obtain ⟨σ2, eσ2, h0⟩ := xlet h0
  refine x_sig C eσ2 ?_
  refine x_aload_n C d_Model_frees_9 1 rfl ?_
  refine x_bipush (v := 32) C d_Model_frees_10 (by decide) ?_
  refine x_iconst (v := 2) C d_Model_frees_12 (by decide) ?_
  refine x_iload_n C d_Model_frees_13 2 rfl ?_
  refine x_imul C d_Model_frees_14 ?_
  refine x_iadd C d_Model_frees_15 ?_
  refine x_iconst (v := 1) C d_Model_frees_16 (by decide) ?_
  refine x_iadd C d_Model_frees_17 ?_
  refine x_iconst (v := (-1)) C d_Model_frees_18 (by decide) ?_
  obtain ⟨g3, h0⟩ := xgo h0
  refine x_iast C hp0 (ib_in g3) d_Model_frees_19 ?_
  obtain ⟨σ4, eσ4, h0⟩ := xlet h0
  refine x_sig C eσ4 ?_
  exact x_vret C hr hk h0 d_Model_frees_20
-- LostPlacesModel.comesBack([II)V
theorem d_Model_comesBack_0 : decode prog_14_method_50_code 0 = .ok (.aload_n 1, 1) := by decide +kernel
theorem d_Model_comesBack_1 : decode prog_14_method_50_code 1 = .ok (.iconst 4, 1) := by decide +kernel
theorem d_Model_comesBack_2 : decode prog_14_method_50_code 2 = .ok (.iload_n 2, 1) := by decide +kernel
theorem d_Model_comesBack_3 : decode prog_14_method_50_code 3 = .ok (.imul, 1) := by decide +kernel
theorem d_Model_comesBack_4 : decode prog_14_method_50_code 4 = .ok (.iconst 1, 1) := by decide +kernel
theorem d_Model_comesBack_5 : decode prog_14_method_50_code 5 = .ok (.iadd, 1) := by decide +kernel
theorem d_Model_comesBack_6 : decode prog_14_method_50_code 6 = .ok (.iconst (-1), 1) := by decide +kernel
theorem d_Model_comesBack_7 : decode prog_14_method_50_code 7 = .ok (.iastore, 1) := by decide +kernel
theorem d_Model_comesBack_8 : decode prog_14_method_50_code 8 = .ok (.aload_n 0, 1) := by decide +kernel
theorem d_Model_comesBack_9 : decode prog_14_method_50_code 9 = .ok (.aload_n 1, 1) := by decide +kernel
theorem d_Model_comesBack_10 : decode prog_14_method_50_code 10 = .ok (.iload_n 2, 1) := by decide +kernel
theorem d_Model_comesBack_11 : decode prog_14_method_50_code 11 = .ok (.invokevirtual 346, 3) := by decide +kernel
theorem d_Model_comesBack_14 : decode prog_14_method_50_code 14 = .ok (.istore_n 3, 1) := by decide +kernel
theorem d_Model_comesBack_15 : decode prog_14_method_50_code 15 = .ok (.iload_n 3, 1) := by decide +kernel
theorem d_Model_comesBack_16 : decode prog_14_method_50_code 16 = .ok (.iconst (-1), 1) := by decide +kernel
theorem d_Model_comesBack_17 : decode prog_14_method_50_code 17 = .ok (.if_icmp .eq 16, 3) := by decide +kernel
theorem d_Model_comesBack_20 : decode prog_14_method_50_code 20 = .ok (.aload_n 0, 1) := by decide +kernel
theorem d_Model_comesBack_21 : decode prog_14_method_50_code 21 = .ok (.aload_n 1, 1) := by decide +kernel
theorem d_Model_comesBack_22 : decode prog_14_method_50_code 22 = .ok (.iload_n 3, 1) := by decide +kernel
theorem d_Model_comesBack_23 : decode prog_14_method_50_code 23 = .ok (.invokevirtual 349, 3) := by decide +kernel
theorem d_Model_comesBack_26 : decode prog_14_method_50_code 26 = .ok (.aload_n 1, 1) := by decide +kernel
theorem d_Model_comesBack_27 : decode prog_14_method_50_code 27 = .ok (.iconst 4, 1) := by decide +kernel
theorem d_Model_comesBack_28 : decode prog_14_method_50_code 28 = .ok (.iload_n 2, 1) := by decide +kernel
theorem d_Model_comesBack_29 : decode prog_14_method_50_code 29 = .ok (.imul, 1) := by decide +kernel
theorem d_Model_comesBack_30 : decode prog_14_method_50_code 30 = .ok (.iload_n 3, 1) := by decide +kernel
theorem d_Model_comesBack_31 : decode prog_14_method_50_code 31 = .ok (.iastore, 1) := by decide +kernel
theorem d_Model_comesBack_32 : decode prog_14_method_50_code 32 = .ok (.return_, 1) := by decide +kernel
theorem d_Model_comesBack_33 : decode prog_14_method_50_code 33 = .ok (.iconst 0, 1) := by decide +kernel
theorem d_Model_comesBack_34 : decode prog_14_method_50_code 34 = .ok (.istore 4, 2) := by decide +kernel
theorem d_Model_comesBack_36 : decode prog_14_method_50_code 36 = .ok (.iconst 0, 1) := by decide +kernel
theorem d_Model_comesBack_37 : decode prog_14_method_50_code 37 = .ok (.istore 5, 2) := by decide +kernel
theorem d_Model_comesBack_39 : decode prog_14_method_50_code 39 = .ok (.iload 5, 2) := by decide +kernel
theorem d_Model_comesBack_41 : decode prog_14_method_50_code 41 = .ok (.aload_n 0, 1) := by decide +kernel
theorem d_Model_comesBack_42 : decode prog_14_method_50_code 42 = .ok (.getfield 302, 3) := by decide +kernel
theorem d_Model_comesBack_45 : decode prog_14_method_50_code 45 = .ok (.if_icmp .ge 48, 3) := by decide +kernel
theorem d_Model_comesBack_48 : decode prog_14_method_50_code 48 = .ok (.aload_n 0, 1) := by decide +kernel
theorem d_Model_comesBack_49 : decode prog_14_method_50_code 49 = .ok (.aload_n 1, 1) := by decide +kernel
theorem d_Model_comesBack_50 : decode prog_14_method_50_code 50 = .ok (.iload 5, 2) := by decide +kernel
theorem d_Model_comesBack_52 : decode prog_14_method_50_code 52 = .ok (.invokevirtual 353, 3) := by decide +kernel
theorem d_Model_comesBack_55 : decode prog_14_method_50_code 55 = .ok (.ifCond .eq 32, 3) := by decide +kernel
theorem d_Model_comesBack_58 : decode prog_14_method_50_code 58 = .ok (.aload_n 0, 1) := by decide +kernel
theorem d_Model_comesBack_59 : decode prog_14_method_50_code 59 = .ok (.aload_n 1, 1) := by decide +kernel
theorem d_Model_comesBack_60 : decode prog_14_method_50_code 60 = .ok (.iload_n 2, 1) := by decide +kernel
theorem d_Model_comesBack_61 : decode prog_14_method_50_code 61 = .ok (.iload 5, 2) := by decide +kernel
theorem d_Model_comesBack_63 : decode prog_14_method_50_code 63 = .ok (.invokevirtual 357, 3) := by decide +kernel
theorem d_Model_comesBack_66 : decode prog_14_method_50_code 66 = .ok (.iload 4, 2) := by decide +kernel
theorem d_Model_comesBack_68 : decode prog_14_method_50_code 68 = .ok (.if_icmp .gt 6, 3) := by decide +kernel
theorem d_Model_comesBack_71 : decode prog_14_method_50_code 71 = .ok (.goto 16, 3) := by decide +kernel
theorem d_Model_comesBack_74 : decode prog_14_method_50_code 74 = .ok (.iload 5, 2) := by decide +kernel
theorem d_Model_comesBack_76 : decode prog_14_method_50_code 76 = .ok (.istore_n 3, 1) := by decide +kernel
theorem d_Model_comesBack_77 : decode prog_14_method_50_code 77 = .ok (.aload_n 0, 1) := by decide +kernel
theorem d_Model_comesBack_78 : decode prog_14_method_50_code 78 = .ok (.aload_n 1, 1) := by decide +kernel
theorem d_Model_comesBack_79 : decode prog_14_method_50_code 79 = .ok (.iload_n 2, 1) := by decide +kernel
theorem d_Model_comesBack_80 : decode prog_14_method_50_code 80 = .ok (.iload 5, 2) := by decide +kernel
theorem d_Model_comesBack_82 : decode prog_14_method_50_code 82 = .ok (.invokevirtual 357, 3) := by decide +kernel
theorem d_Model_comesBack_85 : decode prog_14_method_50_code 85 = .ok (.istore 4, 2) := by decide +kernel
theorem d_Model_comesBack_87 : decode prog_14_method_50_code 87 = .ok (.iinc 5 1, 3) := by decide +kernel
theorem d_Model_comesBack_90 : decode prog_14_method_50_code 90 = .ok (.goto (-51), 3) := by decide +kernel
theorem d_Model_comesBack_93 : decode prog_14_method_50_code 93 = .ok (.aload_n 1, 1) := by decide +kernel
theorem d_Model_comesBack_94 : decode prog_14_method_50_code 94 = .ok (.iconst 4, 1) := by decide +kernel
theorem d_Model_comesBack_95 : decode prog_14_method_50_code 95 = .ok (.iload_n 2, 1) := by decide +kernel
theorem d_Model_comesBack_96 : decode prog_14_method_50_code 96 = .ok (.imul, 1) := by decide +kernel
theorem d_Model_comesBack_97 : decode prog_14_method_50_code 97 = .ok (.iload_n 3, 1) := by decide +kernel
theorem d_Model_comesBack_98 : decode prog_14_method_50_code 98 = .ok (.iastore, 1) := by decide +kernel
theorem d_Model_comesBack_99 : decode prog_14_method_50_code 99 = .ok (.return_, 1) := by decide +kernel
def s_Model_comesBack_87 (p0 : Nat) (p1 : Int32) (rec39 : Int32 → Int32 → Int32 → LH → Option (LH)) (y3 : Int32) (y4 : Int32) (y5 : Int32) (σ : LH) : Option (LH) :=
  xl ((y5 + 1) : Int32) fun x14 =>
  rec39 y3 y4 x14 σ
theorem b_Model_comesBack_87 {G : XG} {l : Launch} {p : Program} {e : Env} {R : Room} {s : State} {m : MethodId} {args : Array Value} {below : List Frame} {meth : Method} {c : Code} (C : XC G 570 598 p s m args c prog_14_method_50_code 6 R_Model) (hr : meth.sig.returnType = none) (hk : meth.locks = false) {d : Nat} (hd : 119 ≤ d + 1) (hR : xroom R (d + 1)) {p0 : Nat} {p1 : Int32} (hp0 : xin 570 598 p0 (2, 290, 0)) {rec39 : Int32 → Int32 → Int32 → LH → Option (LH)} {σ' : LH} (hrec39 : ∀ (y3 : Int32) (y4 : Int32) (y5 : Int32) (σ : LH), rec39 y3 y4 y5 σ = some σ' → XJ G 570 598 p l e R s m args below meth c 6 (XQ G 570 598 below args s none σ') 0 0 39 [(0, .ref (G.2.2.1 + 570)), (1, .ref (G.2.2.1 + p0)), (2, .int p1), (3, .int y3), (4, .int y4), (5, .int y5)] [] σ) {y3 : Int32} {y4 : Int32} {y5 : Int32} {σ : LH} (h0 : s_Model_comesBack_87 p0 p1 rec39 y3 y4 y5 σ = some σ') : XJ G 570 598 p l e R s m args below meth c 6 (XQ G 570 598 below args s none σ') 0 0 87 [(0, .ref (G.2.2.1 + 570)), (1, .ref (G.2.2.1 + p0)), (2, .int p1), (3, .int y3), (4, .int y4), (5, .int y5)] [] σ := by
  replace h0 := (show _ = _ from h0)
  unfold s_Model_comesBack_87 at h0
  obtain ⟨x14, ex14, h0⟩ := xlet h0
  refine x_iinc (lv' := [(5, .int x14), (0, .ref (G.2.2.1 + 570)), (1, .ref (G.2.2.1 + p0)), (2, .int p1), (3, .int y3), (4, .int y4)]) C d_Model_comesBack_87 5 rfl ex14 (by decide) rfl ?_
  refine x_goto C 39 d_Model_comesBack_90 (by decide) ?_
  exact x_lv C [1, 2, 3, 4, 5, 0] rfl (hrec39 _ _ _ _ h0)
def s_Model_comesBack_39_b (p0 : Nat) (p1 : Int32) (rec39 : Int32 → Int32 → Int32 → LH → Option (LH)) (y3 : Int32) (y4 : Int32) (y5 : Int32) (σ : LH) : Option (LH) :=
  if (σ.1 570 26) ≤ y5 then (
   if ib (4 * p1) 290 then (
   xl ((stI σ p0 (Int32.toNatClampNeg (4 * p1)) y3) : LH) fun σ9 =>
   some σ9) else none)
  else (
   xb2 (s_Model_isFree p0 y5 σ) fun r11 σ12 =>
   if r11 = 0 then (
    s_Model_comesBack_87 p0 p1 rec39 y3 y4 y5 σ12)
   else (
    xb2 (s_Model_likesIn p0 p1 y5 σ12) fun r16 σ17 =>
    if y4 < r16 then (
     xb2 (s_Model_likesIn p0 p1 y5 σ17) fun r20 σ21 =>
     s_Model_comesBack_87 p0 p1 rec39 y5 r20 y5 σ21)
    else (
     s_Model_comesBack_87 p0 p1 rec39 y3 y4 y5 σ17)))
def s_Model_comesBack_39 (p0 : Nat) (p1 : Int32) : Nat → Int32 → Int32 → Int32 → LH → Option (LH)
  | 0, _, _, _, _ => none
  | n + 1, y3, y4, y5, σ => s_Model_comesBack_39_b p0 p1 (s_Model_comesBack_39 p0 p1 n) y3 y4 y5 σ
theorem bb_Model_comesBack_39 {G : XG} {l : Launch} {p : Program} {e : Env} {R : Room} {s : State} {m : MethodId} {args : Array Value} {below : List Frame} {meth : Method} {c : Code} (C : XC G 570 598 p s m args c prog_14_method_50_code 6 R_Model) (hr : meth.sig.returnType = none) (hk : meth.locks = false) {d : Nat} (hd : 119 ≤ d + 1) (hR : xroom R (d + 1)) {p0 : Nat} {p1 : Int32} (hp0 : xin 570 598 p0 (2, 290, 0)) {rec39 : Int32 → Int32 → Int32 → LH → Option (LH)} {σ' : LH} (hrec39 : ∀ (y3 : Int32) (y4 : Int32) (y5 : Int32) (σ : LH), rec39 y3 y4 y5 σ = some σ' → XJ G 570 598 p l e R s m args below meth c 6 (XQ G 570 598 below args s none σ') 0 0 39 [(0, .ref (G.2.2.1 + 570)), (1, .ref (G.2.2.1 + p0)), (2, .int p1), (3, .int y3), (4, .int y4), (5, .int y5)] [] σ) {y3 : Int32} {y4 : Int32} {y5 : Int32} {σ : LH} (h0 : s_Model_comesBack_39_b p0 p1 rec39 y3 y4 y5 σ = some σ') : XJ G 570 598 p l e R s m args below meth c 6 (XQ G 570 598 below args s none σ') 0 0 39 [(0, .ref (G.2.2.1 + 570)), (1, .ref (G.2.2.1 + p0)), (2, .int p1), (3, .int y3), (4, .int y4), (5, .int y5)] [] σ := by
  replace h0 := (show _ = _ from h0)
  unfold s_Model_comesBack_39_b at h0
  refine x_iload C d_Model_comesBack_39 5 rfl ?_
  refine x_aload_n C d_Model_comesBack_41 0 rfl ?_
  refine x_getI (y := 0) C fg_Model_302 k_570 rfl d_Model_comesBack_42 ?_
  refine x_icmp_ge C 93 d_Model_comesBack_45 (by decide) (fun q7 => ?_) (fun q7 => ?_)
  · replace h0 := xit q7 h0
    refine x_aload_n C d_Model_comesBack_93 1 rfl ?_
    refine x_iconst (v := 4) C d_Model_comesBack_94 (by decide) ?_
    refine x_iload_n C d_Model_comesBack_95 2 rfl ?_
    refine x_imul C d_Model_comesBack_96 ?_
    refine x_iload_n C d_Model_comesBack_97 3 rfl ?_
    obtain ⟨g8, h0⟩ := xgo h0
    refine x_iast C hp0 (ib_in g8) d_Model_comesBack_98 ?_
    obtain ⟨σ9, eσ9, h0⟩ := xlet h0
    refine x_sig C eσ9 ?_
    exact x_vret C hr hk h0 d_Model_comesBack_99
  · replace h0 := xif q7 h0
    refine x_aload_n C d_Model_comesBack_48 0 rfl ?_
    refine x_aload_n C d_Model_comesBack_49 1 rfl ?_
    refine x_iload C d_Model_comesBack_50 5 rfl ?_
    obtain ⟨r11, σ12, k10, h0⟩ := xbind2 h0
    refine x_callVi C hR (c_Model_isFree (d := d) (by omega) hp0 k10) cw_Model_353 k_570 rfl rfl rfl (Nat.le_of_ble_eq_true rfl) ⟨Nat.zero_le _, Nat.zero_le _⟩ d_Model_comesBack_52 ?_
    refine x_if_eq C 87 d_Model_comesBack_55 (by decide) (fun q13 => ?_) (fun q13 => ?_)
    · replace h0 := xit q13 h0
      exact x_lv C [0, 1, 2, 3, 4, 5] rfl (b_Model_comesBack_87 C hr hk hd hR hp0 hrec39 h0)
    · replace h0 := xif q13 h0
      refine x_aload_n C d_Model_comesBack_58 0 rfl ?_
      refine x_aload_n C d_Model_comesBack_59 1 rfl ?_
      refine x_iload_n C d_Model_comesBack_60 2 rfl ?_
      refine x_iload C d_Model_comesBack_61 5 rfl ?_
      obtain ⟨r16, σ17, k15, h0⟩ := xbind2 h0
      refine x_callVi C hR (c_Model_likesIn (d := d) (by omega) hp0 k15) cw_Model_357 k_570 rfl rfl rfl (Nat.le_of_ble_eq_true rfl) ⟨Nat.zero_le _, Nat.zero_le _⟩ d_Model_comesBack_63 ?_
      refine x_iload C d_Model_comesBack_66 4 rfl ?_
      refine x_icmp_gt C 74 d_Model_comesBack_68 (by decide) (fun q18 => ?_) (fun q18 => ?_)
      · replace h0 := xit q18 h0
        refine x_iload C d_Model_comesBack_74 5 rfl ?_
        refine x_istore_n (lv' := [(3, .int y5), (0, .ref (G.2.2.1 + 570)), (1, .ref (G.2.2.1 + p0)), (2, .int p1), (4, .int y4), (5, .int y5)]) C d_Model_comesBack_76 rfl (by decide) rfl ?_
        refine x_aload_n C d_Model_comesBack_77 1 rfl ?_
        refine x_aload_n C d_Model_comesBack_78 2 rfl ?_
        refine x_iload_n C d_Model_comesBack_79 3 rfl ?_
        refine x_iload C d_Model_comesBack_80 5 rfl ?_
        obtain ⟨r20, σ21, k19, h0⟩ := xbind2 h0
        refine x_callVi C hR (c_Model_likesIn (d := d) (by omega) hp0 k19) cw_Model_357 k_570 rfl rfl rfl (Nat.le_of_ble_eq_true rfl) ⟨Nat.zero_le _, Nat.zero_le _⟩ d_Model_comesBack_82 ?_
        refine x_istore (lv' := [(4, .int r20), (3, .int y5), (0, .ref (G.2.2.1 + 570)), (1, .ref (G.2.2.1 + p0)), (2, .int p1), (5, .int y5)]) C d_Model_comesBack_85 (by decide) rfl ?_
        exact x_lv C [2, 3, 4, 1, 0, 5] rfl (b_Model_comesBack_87 C hr hk hd hR hp0 hrec39 h0)
      · replace h0 := xif q18 h0
        refine x_goto C 87 d_Model_comesBack_71 (by decide) ?_
        exact x_lv C [0, 1, 2, 3, 4, 5] rfl (b_Model_comesBack_87 C hr hk hd hR hp0 hrec39 h0)
theorem b_Model_comesBack_39 {G : XG} {l : Launch} {p : Program} {e : Env} {R : Room} {s : State} {m : MethodId} {args : Array Value} {below : List Frame} {meth : Method} {c : Code} (C : XC G 570 598 p s m args c prog_14_method_50_code 6 R_Model) (hr : meth.sig.returnType = none) (hk : meth.locks = false) {d : Nat} (hd : 119 ≤ d + 1) (hR : xroom R (d + 1)) {p0 : Nat} {p1 : Int32} (hp0 : xin 570 598 p0 (2, 290, 0)) {σ' : LH} : ∀ (n : Nat) (y3 : Int32) (y4 : Int32) (y5 : Int32) (σ : LH), s_Model_comesBack_39 p0 p1 n y3 y4 y5 σ = some σ' → XJ G 570 598 p l e R s m args below meth c 6 (XQ G 570 598 below args s none σ') 0 0 39 [(0, .ref (G.2.2.1 + 570)), (1, .ref (G.2.2.1 + p0)), (2, .int p1), (3, .int y3), (4, .int y4), (5, .int y5)] [] σ := by
  intro n
  induction n with
  | zero => intro y3 y4 y5 σ h0; cases h0
  | succ n ih => intro y3 y4 y5 σ h0; exact bb_Model_comesBack_39 C hr hk hd hR hp0 ih h0
def s_Model_comesBack (p0 : Nat) (p1 : Int32) (σ : LH) : Option (LH) :=
  if ib ((4 * p1) + 1) 290 then (
  xl ((stI σ p0 (Int32.toNatClampNeg ((4 * p1) + 1)) (-1)) : LH) fun σ2 =>
  xb2 (s_Model_keptFor p0 p1 σ2) fun r4 σ5 =>
  if r4 = (-1) then (
   s_Model_comesBack_39 p0 p1 FUEL r4 0 0 σ5)
  else (
   xb1 (s_Model_frees p0 r4 σ5) fun σ23 =>
   if ib (4 * p1) 290 then (
   xl ((stI σ23 p0 (Int32.toNatClampNeg (4 * p1)) r4) : LH) fun σ25 =>
   some σ25) else none)) else none
theorem c_Model_comesBack {G : XG} {l : Launch} {d : Nat} (hd : 119 ≤ d) {p0 : Nat} {p1 : Int32} (hp0 : xin 570 598 p0 (2, 290, 0)) {σ σ' : LH} (h0 : s_Model_comesBack p0 p1 σ = some σ') : xM G 570 598 l y_Model_comesBack prog_14_method_50_code 6 none d [.ref (G.2.2.1 + 570), .ref (G.2.2.1 + p0), .int p1] σ none σ' := by
  obtain ⟨d, rfl⟩ : ∃ q, d = q + 1 := ⟨d - 1, by omega⟩
  refine x_met R_Model rfl (by decide +kernel) (Nat.le_of_ble_eq_true rfl) fun p e s m below meth c C hr hk hR => ?_
  refine x_lv (lv' := [(0, .ref (G.2.2.1 + 570)), (1, .ref (G.2.2.1 + p0)), (2, .int p1)]) C [0, 1, 2] rfl ?_
  generalize xrm (d + 1) = R at hR ⊢
  unfold s_Model_comesBack at h0
  refine x_aload_n C d_Model_comesBack_0 1 rfl ?_
  refine x_iconst (v := 4) C d_Model_comesBack_1 (by decide) ?_
  refine x_iload_n C d_Model_comesBack_2 2 rfl ?_
  refine x_imul C d_Model_comesBack_3 ?_
  refine x_iconst (v := 1) C d_Model_comesBack_4 (by decide) ?_
  refine x_iadd C d_Model_comesBack_5 ?_
  refine x_iconst (v := (-1)) C d_Model_comesBack_6 (by decide) ?_
  obtain ⟨g1, h0⟩ := xgo h0
  refine x_iast C hp0 (ib_in g1) d_Model_comesBack_7 ?_
  obtain ⟨σ2, eσ2, h0⟩ := xlet h0
  refine x_sig C eσ2 ?_
  refine x_aload_n C d_Model_comesBack_8 0 rfl ?_
  refine x_aload_n C d_Model_comesBack_9 1 rfl ?_
  refine x_iload_n C d_Model_comesBack_10 2 rfl ?_
  obtain ⟨r4, σ5, k3, h0⟩ := xbind2 h0
  refine x_callVi C hR (c_Model_keptFor (d := d) (by omega) hp0 k3) cw_Model_346 k_570 rfl rfl rfl (Nat.le_of_ble_eq_true rfl) ⟨Nat.zero_le _, Nat.zero_le _⟩ d_Model_comesBack_11 ?_
  refine x_istore_n (lv' := [(3, .int r4), (0, .ref (G.2.2.1 + 570)), (1, .ref (G.2.2.1 + p0)), (2, .int p1)]) C d_Model_comesBack_14 rfl (by decide) rfl ?_
  refine x_iload_n C d_Model_comesBack_15 0 rfl ?_
  refine x_iconst (v := (-1)) C d_Model_comesBack_16 (by decide) ?_
  refine x_icmp_eq C 33 d_Model_comesBack_17 (by decide) (fun q6 => ?_) (fun q6 => ?_)
  · replace h0 := xit q6 h0
    refine x_iconst (v := 0) C d_Model_comesBack_33 (by decide) ?_
    refine x_istore (lv' := [(4, .int 0), (3, .int r4), (0, .ref (G.2.2.1 + 570)), (1, .ref (G.2.2.1 + p0)), (2, .int p1)]) C d_Model_comesBack_34 (by decide) rfl ?_
    refine x_iconst (v := 0) C d_Model_comesBack_36 (by decide) ?_
    refine x_istore (lv' := [(5, .int 0), (4, .int 0), (3, .int r4), (0, .ref (G.2.2.1 + 570)), (1, .ref (G.2.2.1 + p0)), (2, .int p1)]) C d_Model_comesBack_37 (by decide) rfl ?_
    exact x_lv C [3, 4, 5, 2, 1, 0] rfl (b_Model_comesBack_39 C hr hk hd hR hp0 FUEL _ _ _ _ h0)
  · replace h0 := xif q6 h0
    refine x_aload_n C d_Model_comesBack_20 1 rfl ?_
    refine x_aload_n C d_Model_comesBack_21 2 rfl ?_
    refine x_iload_n C d_Model_comesBack_22 0 rfl ?_
    obtain ⟨σ23, k22, h0⟩ := xbind1 h0
    refine x_callVv C hR (c_Model_frees (d := d) (by omega) hp0 k22) cw_Model_349 k_570 rfl rfl rfl (Nat.le_of_ble_eq_true rfl) ⟨Nat.zero_le _, Nat.zero_le _⟩ d_Model_comesBack_23 ?_
    refine x_aload_n C d_Model_comesBack_26 2 rfl ?_
    refine x_iconst (v := 4) C d_Model_comesBack_27 (by decide) ?_
    refine x_iload_n C d_Model_comesBack_28 3 rfl ?_
    refine x_imul C d_Model_comesBack_29 ?_
    refine x_iload_n C d_Model_comesBack_30 0 rfl ?_
    obtain ⟨g24, h0⟩ := xgo h0
    refine x_iast C hp0 (ib_in g24) d_Model_comesBack_31 ?_
    obtain ⟨σ25, eσ25, h0⟩ := xlet h0
    refine x_sig C eσ25 ?_
    exact x_vret C hr hk h0 d_Model_comesBack_32
-- LostPlacesModel.wouldMove([III)Z
theorem d_Model_wouldMove_0 : decode prog_14_method_51_code 0 = .ok (.aload_n 1, 1) := by decide +kernel
theorem d_Model_wouldMove_1 : decode prog_14_method_51_code 1 = .ok (.iload_n 2, 1) := by decide +kernel
theorem d_Model_wouldMove_2 : decode prog_14_method_51_code 2 = .ok (.invokestatic 361, 3) := by decide +kernel
theorem d_Model_wouldMove_5 : decode prog_14_method_51_code 5 = .ok (.ifCond .eq 39, 3) := by decide +kernel
theorem d_Model_wouldMove_8 : decode prog_14_method_51_code 8 = .ok (.aload_n 0, 1) := by decide +kernel
theorem d_Model_wouldMove_9 : decode prog_14_method_51_code 9 = .ok (.aload_n 1, 1) := by decide +kernel
theorem d_Model_wouldMove_10 : decode prog_14_method_51_code 10 = .ok (.iload_n 2, 1) := by decide +kernel
theorem d_Model_wouldMove_11 : decode prog_14_method_51_code 11 = .ok (.iload_n 3, 1) := by decide +kernel
theorem d_Model_wouldMove_12 : decode prog_14_method_51_code 12 = .ok (.invokevirtual 357, 3) := by decide +kernel
theorem d_Model_wouldMove_15 : decode prog_14_method_51_code 15 = .ok (.aload_n 0, 1) := by decide +kernel
theorem d_Model_wouldMove_16 : decode prog_14_method_51_code 16 = .ok (.aload_n 1, 1) := by decide +kernel
theorem d_Model_wouldMove_17 : decode prog_14_method_51_code 17 = .ok (.iload_n 2, 1) := by decide +kernel
theorem d_Model_wouldMove_18 : decode prog_14_method_51_code 18 = .ok (.aload_n 1, 1) := by decide +kernel
theorem d_Model_wouldMove_19 : decode prog_14_method_51_code 19 = .ok (.iconst 4, 1) := by decide +kernel
theorem d_Model_wouldMove_20 : decode prog_14_method_51_code 20 = .ok (.iload_n 2, 1) := by decide +kernel
theorem d_Model_wouldMove_21 : decode prog_14_method_51_code 21 = .ok (.imul, 1) := by decide +kernel
theorem d_Model_wouldMove_22 : decode prog_14_method_51_code 22 = .ok (.iaload, 1) := by decide +kernel
theorem d_Model_wouldMove_23 : decode prog_14_method_51_code 23 = .ok (.invokevirtual 357, 3) := by decide +kernel
theorem d_Model_wouldMove_26 : decode prog_14_method_51_code 26 = .ok (.isub, 1) := by decide +kernel
theorem d_Model_wouldMove_27 : decode prog_14_method_51_code 27 = .ok (.aload_n 0, 1) := by decide +kernel
theorem d_Model_wouldMove_28 : decode prog_14_method_51_code 28 = .ok (.getfield 43, 3) := by decide +kernel
theorem d_Model_wouldMove_31 : decode prog_14_method_51_code 31 = .ok (.iconst 4, 1) := by decide +kernel
theorem d_Model_wouldMove_32 : decode prog_14_method_51_code 32 = .ok (.iload_n 2, 1) := by decide +kernel
theorem d_Model_wouldMove_33 : decode prog_14_method_51_code 33 = .ok (.imul, 1) := by decide +kernel
theorem d_Model_wouldMove_34 : decode prog_14_method_51_code 34 = .ok (.iconst 2, 1) := by decide +kernel
theorem d_Model_wouldMove_35 : decode prog_14_method_51_code 35 = .ok (.iadd, 1) := by decide +kernel
theorem d_Model_wouldMove_36 : decode prog_14_method_51_code 36 = .ok (.iaload, 1) := by decide +kernel
theorem d_Model_wouldMove_37 : decode prog_14_method_51_code 37 = .ok (.if_icmp .lt 7, 3) := by decide +kernel
theorem d_Model_wouldMove_40 : decode prog_14_method_51_code 40 = .ok (.iconst 1, 1) := by decide +kernel
theorem d_Model_wouldMove_41 : decode prog_14_method_51_code 41 = .ok (.goto 4, 3) := by decide +kernel
theorem d_Model_wouldMove_44 : decode prog_14_method_51_code 44 = .ok (.iconst 0, 1) := by decide +kernel
theorem d_Model_wouldMove_45 : decode prog_14_method_51_code 45 = .ok (.ireturn, 1) := by decide +kernel
def s_Model_wouldMove_45 (p0 : Nat) (p1 : Int32) (p2 : Int32) (z0 : Int32) (σ : LH) : Option (Int32 × LH) :=
  if zb z0 then (
  some (z0, σ)) else none
theorem b_Model_wouldMove_45 {G : XG} {l : Launch} {p : Program} {e : Env} {R : Room} {s : State} {m : MethodId} {args : Array Value} {below : List Frame} {meth : Method} {c : Code} (C : XC G 570 598 p s m args c prog_14_method_51_code 4 R_Model) (hr : meth.sig.returnType = (some .boolean)) (hk : meth.locks = false) {d : Nat} (hd : 119 ≤ d + 1) (hR : xroom R (d + 1)) {p0 : Nat} {p1 : Int32} {p2 : Int32} (hp0 : xin 570 598 p0 (2, 290, 0)) {σ' : LH} {r : Int32} {z0 : Int32} {σ : LH} (h0 : s_Model_wouldMove_45 p0 p1 p2 z0 σ = some (r, σ')) : XJ G 570 598 p l e R s m args below meth c 4 (XQ G 570 598 below args s (some (.int r)) σ') 0 0 45 [] [.int z0] σ := by
  replace h0 := (show _ = _ from h0)
  unfold s_Model_wouldMove_45 at h0
  obtain ⟨g5, h0⟩ := xgo h0
  exact x_zret C hr hk g5 h0 d_Model_wouldMove_45
def s_Model_wouldMove_44 (p0 : Nat) (p1 : Int32) (p2 : Int32) (σ : LH) : Option (Int32 × LH) :=
  s_Model_wouldMove_45 p0 p1 p2 0 σ
theorem b_Model_wouldMove_44 {G : XG} {l : Launch} {p : Program} {e : Env} {R : Room} {s : State} {m : MethodId} {args : Array Value} {below : List Frame} {meth : Method} {c : Code} (C : XC G 570 598 p s m args c prog_14_method_51_code 4 R_Model) (hr : meth.sig.returnType = (some .boolean)) (hk : meth.locks = false) {d : Nat} (hd : 119 ≤ d + 1) (hR : xroom R (d + 1)) {p0 : Nat} {p1 : Int32} {p2 : Int32} (hp0 : xin 570 598 p0 (2, 290, 0)) {σ' : LH} {r : Int32} {σ : LH} (h0 : s_Model_wouldMove_44 p0 p1 p2 σ = some (r, σ')) : XJ G 570 598 p l e R s m args below meth c 4 (XQ G 570 598 below args s (some (.int r)) σ') 0 0 44 [] [] σ := by
  replace h0 := (show _ = _ from h0)
  unfold s_Model_wouldMove_44 at h0
  refine x_iconst (v := 0) C d_Model_wouldMove_44 (by decide) ?_
  exact x_lv C [] rfl (b_Model_wouldMove_45 C hr hk hd hR hp0 h0)
def s_Model_wouldMove (p0 : Nat) (p1 : Int32) (p2 : Int32) (σ : LH) : Option (Int32 × LH) :=
  xb2 (s_Model_isHere p0 p1 σ) fun r2 σ3 =>
  if r2 = 0 then (
   s_Model_wouldMove_44 p0 p1 p2 σ3)
  else (
   xb2 (s_Model_likesIn p0 p1 p2 σ3) fun r7 σ8 =>
   if ib (4 * p1) 290 then (
   xb2 (s_Model_likesIn p0 p1 (σ8.1 p0 (Int32.toNatClampNeg (4 * p1))) σ8) fun r11 σ12 =>
   if ib ((4 * p1) + 2) 32 then (
   if (r7 - r11) < (σ12.1 577 (Int32.toNatClampNeg ((4 * p1) + 2))) then (
    s_Model_wouldMove_44 p0 p1 p2 σ12)
   else (
    s_Model_wouldMove_45 p0 p1 p2 1 σ12)) else none) else none)
theorem c_Model_wouldMove {G : XG} {l : Launch} {d : Nat} (hd : 119 ≤ d) {p0 : Nat} {p1 : Int32} {p2 : Int32} (hp0 : xin 570 598 p0 (2, 290, 0)) {σ σ' : LH} {r : Int32} (h0 : s_Model_wouldMove p0 p1 p2 σ = some (r, σ')) : xM G 570 598 l y_Model_wouldMove prog_14_method_51_code 4 (some .boolean) d [.ref (G.2.2.1 + 570), .ref (G.2.2.1 + p0), .int p1, .int p2] σ (some (.int r)) σ' := by
  obtain ⟨d, rfl⟩ : ∃ q, d = q + 1 := ⟨d - 1, by omega⟩
  refine x_met R_Model rfl (by decide +kernel) (Nat.le_of_ble_eq_true rfl) fun p e s m below meth c C hr hk hR => ?_
  refine x_lv (lv' := [(0, .ref (G.2.2.1 + 570)), (1, .ref (G.2.2.1 + p0)), (2, .int p1), (3, .int p2)]) C [0, 1, 2, 3] rfl ?_
  generalize xrm (d + 1) = R at hR ⊢
  unfold s_Model_wouldMove at h0
  refine x_aload_n C d_Model_wouldMove_0 1 rfl ?_
  refine x_iload_n C d_Model_wouldMove_1 2 rfl ?_
  obtain ⟨r2, σ3, k1, h0⟩ := xbind2 h0
  refine x_callSi C hR (c_Model_isHere (d := d) (by omega) hp0 k1) cw_Model_361 w_1905 rfl rfl (Nat.le_of_ble_eq_true rfl) ⟨Nat.zero_le _, Nat.zero_le _⟩ d_Model_wouldMove_2 ?_
  refine x_if_eq C 44 d_Model_wouldMove_5 (by decide) (fun q4 => ?_) (fun q4 => ?_)
  · replace h0 := xit q4 h0
    exact x_lv C [] rfl (b_Model_wouldMove_44 C hr hk hd hR hp0 h0)
  · replace h0 := xif q4 h0
    refine x_aload_n C d_Model_wouldMove_8 0 rfl ?_
    refine x_aload_n C d_Model_wouldMove_9 1 rfl ?_
    refine x_iload_n C d_Model_wouldMove_10 2 rfl ?_
    refine x_iload_n C d_Model_wouldMove_11 3 rfl ?_
    obtain ⟨r7, σ8, k6, h0⟩ := xbind2 h0
    refine x_callVi C hR (c_Model_likesIn (d := d) (by omega) hp0 k6) cw_Model_357 k_570 rfl rfl rfl (Nat.le_of_ble_eq_true rfl) ⟨Nat.zero_le _, Nat.zero_le _⟩ d_Model_wouldMove_12 ?_
    refine x_aload_n C d_Model_wouldMove_15 0 rfl ?_
    refine x_aload_n C d_Model_wouldMove_16 1 rfl ?_
    refine x_iload_n C d_Model_wouldMove_17 2 rfl ?_
    refine x_aload_n C d_Model_wouldMove_18 1 rfl ?_
    refine x_iconst (v := 4) C d_Model_wouldMove_19 (by decide) ?_
    refine x_iload_n C d_Model_wouldMove_20 2 rfl ?_
    refine x_imul C d_Model_wouldMove_21 ?_
    obtain ⟨g9, h0⟩ := xgo h0
    refine x_iald C hp0 (ib_in g9) d_Model_wouldMove_22 ?_
    obtain ⟨r11, σ12, k10, h0⟩ := xbind2 h0
    refine x_callVi C hR (c_Model_likesIn (d := d) (by omega) hp0 k10) cw_Model_357 k_570 rfl rfl rfl (Nat.le_of_ble_eq_true rfl) ⟨Nat.zero_le _, Nat.zero_le _⟩ d_Model_wouldMove_23 ?_
    refine x_isub C d_Model_wouldMove_26 ?_
    refine x_aload_n C d_Model_wouldMove_27 0 rfl ?_
    refine x_getA (y := 577) C fg_Model_43 k_570 rfl d_Model_wouldMove_28 ?_
    refine x_iconst (v := 4) C d_Model_wouldMove_31 (by decide) ?_
    refine x_iload_n C d_Model_wouldMove_32 2 rfl ?_
    refine x_imul C d_Model_wouldMove_33 ?_
    refine x_iconst (v := 2) C d_Model_wouldMove_34 (by decide) ?_
    refine x_iadd C d_Model_wouldMove_35 ?_
    obtain ⟨g13, h0⟩ := xgo h0
    refine x_iald C k_577 (ib_in g13) d_Model_wouldMove_36 ?_
    refine x_icmp_lt C 44 d_Model_wouldMove_37 (by decide) (fun q14 => ?_) (fun q14 => ?_)
    · replace h0 := xit q14 h0
      exact x_lv C [] rfl (b_Model_wouldMove_44 C hr hk hd hR hp0 h0)
    · replace h0 := xif q14 h0
      refine x_iconst (v := 1) C d_Model_wouldMove_40 (by decide) ?_
      refine x_goto C 45 d_Model_wouldMove_41 (by decide) ?_
      exact x_lv C [] rfl (b_Model_wouldMove_45 C hr hk hd hR hp0 h0)
-- LostPlacesModel.farFrom([III)I
theorem d_Model_farFrom_0 : decode prog_14_method_52_code 0 = .ok (.aload_n 1, 1) := by decide +kernel
theorem d_Model_farFrom_1 : decode prog_14_method_52_code 1 = .ok (.iconst 4, 1) := by decide +kernel
theorem d_Model_farFrom_2 : decode prog_14_method_52_code 2 = .ok (.iload_n 2, 1) := by decide +kernel
theorem d_Model_farFrom_3 : decode prog_14_method_52_code 3 = .ok (.imul, 1) := by decide +kernel
theorem d_Model_farFrom_4 : decode prog_14_method_52_code 4 = .ok (.iaload, 1) := by decide +kernel
theorem d_Model_farFrom_5 : decode prog_14_method_52_code 5 = .ok (.istore 4, 2) := by decide +kernel
theorem d_Model_farFrom_7 : decode prog_14_method_52_code 7 = .ok (.iload 4, 2) := by decide +kernel
theorem d_Model_farFrom_9 : decode prog_14_method_52_code 9 = .ok (.ifCond .ge 8, 3) := by decide +kernel
theorem d_Model_farFrom_12 : decode prog_14_method_52_code 12 = .ok (.bipush 99, 2) := by decide +kernel
theorem d_Model_farFrom_14 : decode prog_14_method_52_code 14 = .ok (.goto 28, 3) := by decide +kernel
theorem d_Model_farFrom_17 : decode prog_14_method_52_code 17 = .ok (.aload_n 0, 1) := by decide +kernel
theorem d_Model_farFrom_18 : decode prog_14_method_52_code 18 = .ok (.getfield 37, 3) := by decide +kernel
theorem d_Model_farFrom_21 : decode prog_14_method_52_code 21 = .ok (.iconst 3, 1) := by decide +kernel
theorem d_Model_farFrom_22 : decode prog_14_method_52_code 22 = .ok (.iload 4, 2) := by decide +kernel
theorem d_Model_farFrom_24 : decode prog_14_method_52_code 24 = .ok (.imul, 1) := by decide +kernel
theorem d_Model_farFrom_25 : decode prog_14_method_52_code 25 = .ok (.iconst 2, 1) := by decide +kernel
theorem d_Model_farFrom_26 : decode prog_14_method_52_code 26 = .ok (.iadd, 1) := by decide +kernel
theorem d_Model_farFrom_27 : decode prog_14_method_52_code 27 = .ok (.iaload, 1) := by decide +kernel
theorem d_Model_farFrom_28 : decode prog_14_method_52_code 28 = .ok (.aload_n 0, 1) := by decide +kernel
theorem d_Model_farFrom_29 : decode prog_14_method_52_code 29 = .ok (.getfield 37, 3) := by decide +kernel
theorem d_Model_farFrom_32 : decode prog_14_method_52_code 32 = .ok (.iconst 3, 1) := by decide +kernel
theorem d_Model_farFrom_33 : decode prog_14_method_52_code 33 = .ok (.iload_n 3, 1) := by decide +kernel
theorem d_Model_farFrom_34 : decode prog_14_method_52_code 34 = .ok (.imul, 1) := by decide +kernel
theorem d_Model_farFrom_35 : decode prog_14_method_52_code 35 = .ok (.iconst 2, 1) := by decide +kernel
theorem d_Model_farFrom_36 : decode prog_14_method_52_code 36 = .ok (.iadd, 1) := by decide +kernel
theorem d_Model_farFrom_37 : decode prog_14_method_52_code 37 = .ok (.iaload, 1) := by decide +kernel
theorem d_Model_farFrom_38 : decode prog_14_method_52_code 38 = .ok (.isub, 1) := by decide +kernel
theorem d_Model_farFrom_39 : decode prog_14_method_52_code 39 = .ok (.invokestatic 364, 3) := by decide +kernel
theorem d_Model_farFrom_42 : decode prog_14_method_52_code 42 = .ok (.ireturn, 1) := by decide +kernel
def s_Model_farFrom_42 (p0 : Nat) (p1 : Int32) (p2 : Int32) (z0 : Int32) (σ : LH) : Option (Int32 × LH) :=
  some (z0, σ)
theorem b_Model_farFrom_42 {G : XG} {l : Launch} {p : Program} {e : Env} {R : Room} {s : State} {m : MethodId} {args : Array Value} {below : List Frame} {meth : Method} {c : Code} (C : XC G 570 598 p s m args c prog_14_method_52_code 5 R_Model) (hr : meth.sig.returnType = (some .int)) (hk : meth.locks = false) {d : Nat} (hd : 2 ≤ d + 1) (hR : xroom R (d + 1)) {p0 : Nat} {p1 : Int32} {p2 : Int32} (hp0 : xin 570 598 p0 (2, 290, 0)) {σ' : LH} {r : Int32} {z0 : Int32} {σ : LH} (h0 : s_Model_farFrom_42 p0 p1 p2 z0 σ = some (r, σ')) : XJ G 570 598 p l e R s m args below meth c 5 (XQ G 570 598 below args s (some (.int r)) σ') 0 0 42 [] [.int z0] σ := by
  replace h0 := (show _ = _ from h0)
  unfold s_Model_farFrom_42 at h0
  exact x_iret C hr hk h0 d_Model_farFrom_42
def s_Model_farFrom (p0 : Nat) (p1 : Int32) (p2 : Int32) (σ : LH) : Option (Int32 × LH) :=
  if ib (4 * p1) 290 then (
  xl (((σ.1 p0 (Int32.toNatClampNeg (4 * p1)))) : Int32) fun x2 =>
  if 0 ≤ x2 then (
   if ib ((3 * x2) + 2) 24 then (
   if ib ((3 * p2) + 2) 24 then (
   s_Model_farFrom_42 p0 p1 p2 (if 0 ≤ ((σ.1 575 (Int32.toNatClampNeg ((3 * x2) + 2))) - (σ.1 575 (Int32.toNatClampNeg ((3 * p2) + 2)))) then ((σ.1 575 (Int32.toNatClampNeg ((3 * x2) + 2))) - (σ.1 575 (Int32.toNatClampNeg ((3 * p2) + 2)))) else 0 - ((σ.1 575 (Int32.toNatClampNeg ((3 * x2) + 2))) - (σ.1 575 (Int32.toNatClampNeg ((3 * p2) + 2))))) σ) else none) else none)
  else (
   s_Model_farFrom_42 p0 p1 p2 99 σ)) else none
theorem c_Model_farFrom {G : XG} {l : Launch} {d : Nat} (hd : 2 ≤ d) {p0 : Nat} {p1 : Int32} {p2 : Int32} (hp0 : xin 570 598 p0 (2, 290, 0)) {σ σ' : LH} {r : Int32} (h0 : s_Model_farFrom p0 p1 p2 σ = some (r, σ')) : xM G 570 598 l y_Model_farFrom prog_14_method_52_code 5 (some .int) d [.ref (G.2.2.1 + 570), .ref (G.2.2.1 + p0), .int p1, .int p2] σ (some (.int r)) σ' := by
  obtain ⟨d, rfl⟩ : ∃ q, d = q + 1 := ⟨d - 1, by omega⟩
  refine x_met R_Model rfl (by decide +kernel) (Nat.le_of_ble_eq_true rfl) fun p e s m below meth c C hr hk hR => ?_
  refine x_lv (lv' := [(0, .ref (G.2.2.1 + 570)), (1, .ref (G.2.2.1 + p0)), (2, .int p1), (3, .int p2)]) C [0, 1, 2, 3] rfl ?_
  generalize xrm (d + 1) = R at hR ⊢
  unfold s_Model_farFrom at h0
  refine x_aload_n C d_Model_farFrom_0 1 rfl ?_
  refine x_iconst (v := 4) C d_Model_farFrom_1 (by decide) ?_
  refine x_iload_n C d_Model_farFrom_2 2 rfl ?_
  refine x_imul C d_Model_farFrom_3 ?_
  obtain ⟨g1, h0⟩ := xgo h0
  refine x_iald C hp0 (ib_in g1) d_Model_farFrom_4 ?_
  obtain ⟨x2, ex2, h0⟩ := xlet h0
  refine x_name C ex2 ?_
  refine x_istore (lv' := [(4, .int x2), (0, .ref (G.2.2.1 + 570)), (1, .ref (G.2.2.1 + p0)), (2, .int p1), (3, .int p2)]) C d_Model_farFrom_5 (by decide) rfl ?_
  refine x_iload C d_Model_farFrom_7 0 rfl ?_
  refine x_if_ge C 17 d_Model_farFrom_9 (by decide) (fun q3 => ?_) (fun q3 => ?_)
  · replace h0 := xit q3 h0
    refine x_aload_n C d_Model_farFrom_17 1 rfl ?_
    refine x_getA (y := 575) C fg_Model_37 k_570 rfl d_Model_farFrom_18 ?_
    refine x_iconst (v := 3) C d_Model_farFrom_21 (by decide) ?_
    refine x_iload C d_Model_farFrom_22 0 rfl ?_
    refine x_imul C d_Model_farFrom_24 ?_
    refine x_iconst (v := 2) C d_Model_farFrom_25 (by decide) ?_
    refine x_iadd C d_Model_farFrom_26 ?_
    obtain ⟨g4, h0⟩ := xgo h0
    refine x_iald C k_575 (ib_in g4) d_Model_farFrom_27 ?_
    refine x_aload_n C d_Model_farFrom_28 1 rfl ?_
    refine x_getA (y := 575) C fg_Model_37 k_570 rfl d_Model_farFrom_29 ?_
    refine x_iconst (v := 3) C d_Model_farFrom_32 (by decide) ?_
    refine x_iload_n C d_Model_farFrom_33 4 rfl ?_
    refine x_imul C d_Model_farFrom_34 ?_
    refine x_iconst (v := 2) C d_Model_farFrom_35 (by decide) ?_
    refine x_iadd C d_Model_farFrom_36 ?_
    obtain ⟨g5, h0⟩ := xgo h0
    refine x_iald C k_575 (ib_in g5) d_Model_farFrom_37 ?_
    refine x_isub C d_Model_farFrom_38 ?_
    refine x_mabs C (xroom1 hR) w_1980 w_1981 w_123 w_1982 (Nat.le_of_ble_eq_true rfl) ⟨Nat.zero_le _, Nat.zero_le _⟩ d_Model_farFrom_39 ?_
    exact x_lv C [] rfl (b_Model_farFrom_42 C hr hk hd hR hp0 h0)
  · replace h0 := xif q3 h0
    refine x_bipush (v := 99) C d_Model_farFrom_12 (by decide) ?_
    refine x_goto C 42 d_Model_farFrom_14 (by decide) ?_
    exact x_lv C [] rfl (b_Model_farFrom_42 C hr hk hd hR hp0 h0)
-- LostPlacesModel.moverTo([II)I
theorem d_Model_moverTo_0 : decode prog_14_method_53_code 0 = .ok (.iconst (-1), 1) := by decide +kernel
theorem d_Model_moverTo_1 : decode prog_14_method_53_code 1 = .ok (.istore_n 3, 1) := by decide +kernel
theorem d_Model_moverTo_2 : decode prog_14_method_53_code 2 = .ok (.iconst 0, 1) := by decide +kernel
theorem d_Model_moverTo_3 : decode prog_14_method_53_code 3 = .ok (.istore 4, 2) := by decide +kernel
theorem d_Model_moverTo_5 : decode prog_14_method_53_code 5 = .ok (.iload 4, 2) := by decide +kernel
theorem d_Model_moverTo_7 : decode prog_14_method_53_code 7 = .ok (.aload_n 0, 1) := by decide +kernel
theorem d_Model_moverTo_8 : decode prog_14_method_53_code 8 = .ok (.getfield 305, 3) := by decide +kernel
theorem d_Model_moverTo_11 : decode prog_14_method_53_code 11 = .ok (.if_icmp .ge 92, 3) := by decide +kernel
theorem d_Model_moverTo_14 : decode prog_14_method_53_code 14 = .ok (.aload_n 0, 1) := by decide +kernel
theorem d_Model_moverTo_15 : decode prog_14_method_53_code 15 = .ok (.aload_n 1, 1) := by decide +kernel
theorem d_Model_moverTo_16 : decode prog_14_method_53_code 16 = .ok (.iload 4, 2) := by decide +kernel
theorem d_Model_moverTo_18 : decode prog_14_method_53_code 18 = .ok (.iload_n 2, 1) := by decide +kernel
theorem d_Model_moverTo_19 : decode prog_14_method_53_code 19 = .ok (.invokevirtual 367, 3) := by decide +kernel
theorem d_Model_moverTo_22 : decode prog_14_method_53_code 22 = .ok (.ifCond .ne 6, 3) := by decide +kernel
theorem d_Model_moverTo_25 : decode prog_14_method_53_code 25 = .ok (.goto 72, 3) := by decide +kernel
theorem d_Model_moverTo_28 : decode prog_14_method_53_code 28 = .ok (.iload_n 3, 1) := by decide +kernel
theorem d_Model_moverTo_29 : decode prog_14_method_53_code 29 = .ok (.iconst (-1), 1) := by decide +kernel
theorem d_Model_moverTo_30 : decode prog_14_method_53_code 30 = .ok (.if_icmp .ne 7, 3) := by decide +kernel
theorem d_Model_moverTo_33 : decode prog_14_method_53_code 33 = .ok (.iconst (-1), 1) := by decide +kernel
theorem d_Model_moverTo_34 : decode prog_14_method_53_code 34 = .ok (.goto 25, 3) := by decide +kernel
theorem d_Model_moverTo_37 : decode prog_14_method_53_code 37 = .ok (.aload_n 0, 1) := by decide +kernel
theorem d_Model_moverTo_38 : decode prog_14_method_53_code 38 = .ok (.getfield 43, 3) := by decide +kernel
theorem d_Model_moverTo_41 : decode prog_14_method_53_code 41 = .ok (.iconst 4, 1) := by decide +kernel
theorem d_Model_moverTo_42 : decode prog_14_method_53_code 42 = .ok (.iload_n 3, 1) := by decide +kernel
theorem d_Model_moverTo_43 : decode prog_14_method_53_code 43 = .ok (.imul, 1) := by decide +kernel
theorem d_Model_moverTo_44 : decode prog_14_method_53_code 44 = .ok (.iconst 1, 1) := by decide +kernel
theorem d_Model_moverTo_45 : decode prog_14_method_53_code 45 = .ok (.iadd, 1) := by decide +kernel
theorem d_Model_moverTo_46 : decode prog_14_method_53_code 46 = .ok (.iaload, 1) := by decide +kernel
theorem d_Model_moverTo_47 : decode prog_14_method_53_code 47 = .ok (.aload_n 0, 1) := by decide +kernel
theorem d_Model_moverTo_48 : decode prog_14_method_53_code 48 = .ok (.getfield 43, 3) := by decide +kernel
theorem d_Model_moverTo_51 : decode prog_14_method_53_code 51 = .ok (.iconst 4, 1) := by decide +kernel
theorem d_Model_moverTo_52 : decode prog_14_method_53_code 52 = .ok (.iload 4, 2) := by decide +kernel
theorem d_Model_moverTo_54 : decode prog_14_method_53_code 54 = .ok (.imul, 1) := by decide +kernel
theorem d_Model_moverTo_55 : decode prog_14_method_53_code 55 = .ok (.iconst 1, 1) := by decide +kernel
theorem d_Model_moverTo_56 : decode prog_14_method_53_code 56 = .ok (.iadd, 1) := by decide +kernel
theorem d_Model_moverTo_57 : decode prog_14_method_53_code 57 = .ok (.iaload, 1) := by decide +kernel
theorem d_Model_moverTo_58 : decode prog_14_method_53_code 58 = .ok (.isub, 1) := by decide +kernel
theorem d_Model_moverTo_59 : decode prog_14_method_53_code 59 = .ok (.istore 5, 2) := by decide +kernel
theorem d_Model_moverTo_61 : decode prog_14_method_53_code 61 = .ok (.iload_n 3, 1) := by decide +kernel
theorem d_Model_moverTo_62 : decode prog_14_method_53_code 62 = .ok (.iconst (-1), 1) := by decide +kernel
theorem d_Model_moverTo_63 : decode prog_14_method_53_code 63 = .ok (.if_icmp .eq 26, 3) := by decide +kernel
theorem d_Model_moverTo_66 : decode prog_14_method_53_code 66 = .ok (.iload 5, 2) := by decide +kernel
theorem d_Model_moverTo_68 : decode prog_14_method_53_code 68 = .ok (.ifCond .ne 21, 3) := by decide +kernel
theorem d_Model_moverTo_71 : decode prog_14_method_53_code 71 = .ok (.aload_n 0, 1) := by decide +kernel
theorem d_Model_moverTo_72 : decode prog_14_method_53_code 72 = .ok (.aload_n 1, 1) := by decide +kernel
theorem d_Model_moverTo_73 : decode prog_14_method_53_code 73 = .ok (.iload 4, 2) := by decide +kernel
theorem d_Model_moverTo_75 : decode prog_14_method_53_code 75 = .ok (.iload_n 2, 1) := by decide +kernel
theorem d_Model_moverTo_76 : decode prog_14_method_53_code 76 = .ok (.invokevirtual 371, 3) := by decide +kernel
theorem d_Model_moverTo_79 : decode prog_14_method_53_code 79 = .ok (.aload_n 0, 1) := by decide +kernel
theorem d_Model_moverTo_80 : decode prog_14_method_53_code 80 = .ok (.aload_n 1, 1) := by decide +kernel
theorem d_Model_moverTo_81 : decode prog_14_method_53_code 81 = .ok (.iload_n 3, 1) := by decide +kernel
theorem d_Model_moverTo_82 : decode prog_14_method_53_code 82 = .ok (.iload_n 2, 1) := by decide +kernel
theorem d_Model_moverTo_83 : decode prog_14_method_53_code 83 = .ok (.invokevirtual 371, 3) := by decide +kernel
theorem d_Model_moverTo_86 : decode prog_14_method_53_code 86 = .ok (.isub, 1) := by decide +kernel
theorem d_Model_moverTo_87 : decode prog_14_method_53_code 87 = .ok (.istore 5, 2) := by decide +kernel
theorem d_Model_moverTo_89 : decode prog_14_method_53_code 89 = .ok (.iload 5, 2) := by decide +kernel
theorem d_Model_moverTo_91 : decode prog_14_method_53_code 91 = .ok (.ifCond .ge 6, 3) := by decide +kernel
theorem d_Model_moverTo_94 : decode prog_14_method_53_code 94 = .ok (.iload 4, 2) := by decide +kernel
theorem d_Model_moverTo_96 : decode prog_14_method_53_code 96 = .ok (.istore_n 3, 1) := by decide +kernel
theorem d_Model_moverTo_97 : decode prog_14_method_53_code 97 = .ok (.iinc 4 1, 3) := by decide +kernel
theorem d_Model_moverTo_100 : decode prog_14_method_53_code 100 = .ok (.goto (-95), 3) := by decide +kernel
theorem d_Model_moverTo_103 : decode prog_14_method_53_code 103 = .ok (.iload_n 3, 1) := by decide +kernel
theorem d_Model_moverTo_104 : decode prog_14_method_53_code 104 = .ok (.ireturn, 1) := by decide +kernel
def s_Model_moverTo_97 (p0 : Nat) (p1 : Int32) (rec5 : Int32 → Int32 → LH → Option (Int32 × LH)) (y3 : Int32) (y4 : Int32) (σ : LH) : Option (Int32 × LH) :=
  xl ((y4 + 1) : Int32) fun x6 =>
  rec5 y3 x6 σ
theorem b_Model_moverTo_97 {G : XG} {l : Launch} {p : Program} {e : Env} {R : Room} {s : State} {m : MethodId} {args : Array Value} {below : List Frame} {meth : Method} {c : Code} (C : XC G 570 598 p s m args c prog_14_method_53_code 6 R_Model) (hr : meth.sig.returnType = (some .int)) (hk : meth.locks = false) {d : Nat} (hd : 120 ≤ d + 1) (hR : xroom R (d + 1)) {p0 : Nat} {p1 : Int32} (hp0 : xin 570 598 p0 (2, 290, 0)) {rec5 : Int32 → Int32 → LH → Option (Int32 × LH)} {σ' : LH} {r : Int32} (hrec5 : ∀ (y3 : Int32) (y4 : Int32) (σ : LH), rec5 y3 y4 σ = some (r, σ') → XJ G 570 598 p l e R s m args below meth c 6 (XQ G 570 598 below args s (some (.int r)) σ') 0 0 5 [(0, .ref (G.2.2.1 + 570)), (1, .ref (G.2.2.1 + p0)), (2, .int p1), (3, .int y3), (4, .int y4)] [] σ) {y3 : Int32} {y4 : Int32} {σ : LH} (h0 : s_Model_moverTo_97 p0 p1 rec5 y3 y4 σ = some (r, σ')) : XJ G 570 598 p l e R s m args below meth c 6 (XQ G 570 598 below args s (some (.int r)) σ') 0 0 97 [(0, .ref (G.2.2.1 + 570)), (1, .ref (G.2.2.1 + p0)), (2, .int p1), (3, .int y3), (4, .int y4)] [] σ := by
  replace h0 := (show _ = _ from h0)
  unfold s_Model_moverTo_97 at h0
  obtain ⟨x6, ex6, h0⟩ := xlet h0
  refine x_iinc (lv' := [(4, .int x6), (0, .ref (G.2.2.1 + 570)), (1, .ref (G.2.2.1 + p0)), (2, .int p1), (3, .int y3)]) C d_Model_moverTo_97 4 rfl ex6 (by decide) rfl ?_
  refine x_goto C 5 d_Model_moverTo_100 (by decide) ?_
  exact x_lv C [1, 2, 3, 4, 0] rfl (hrec5 _ _ _ h0)
def s_Model_moverTo_89 (p0 : Nat) (p1 : Int32) (rec5 : Int32 → Int32 → LH → Option (Int32 × LH)) (y3 : Int32) (y4 : Int32) (y5 : Int32) (σ : LH) : Option (Int32 × LH) :=
  if 0 ≤ y5 then (
   s_Model_moverTo_97 p0 p1 rec5 y3 y4 σ)
  else (
   s_Model_moverTo_97 p0 p1 rec5 y4 y4 σ)
theorem b_Model_moverTo_89 {G : XG} {l : Launch} {p : Program} {e : Env} {R : Room} {s : State} {m : MethodId} {args : Array Value} {below : List Frame} {meth : Method} {c : Code} (C : XC G 570 598 p s m args c prog_14_method_53_code 6 R_Model) (hr : meth.sig.returnType = (some .int)) (hk : meth.locks = false) {d : Nat} (hd : 120 ≤ d + 1) (hR : xroom R (d + 1)) {p0 : Nat} {p1 : Int32} (hp0 : xin 570 598 p0 (2, 290, 0)) {rec5 : Int32 → Int32 → LH → Option (Int32 × LH)} {σ' : LH} {r : Int32} (hrec5 : ∀ (y3 : Int32) (y4 : Int32) (σ : LH), rec5 y3 y4 σ = some (r, σ') → XJ G 570 598 p l e R s m args below meth c 6 (XQ G 570 598 below args s (some (.int r)) σ') 0 0 5 [(0, .ref (G.2.2.1 + 570)), (1, .ref (G.2.2.1 + p0)), (2, .int p1), (3, .int y3), (4, .int y4)] [] σ) {y3 : Int32} {y4 : Int32} {y5 : Int32} {σ : LH} (h0 : s_Model_moverTo_89 p0 p1 rec5 y3 y4 y5 σ = some (r, σ')) : XJ G 570 598 p l e R s m args below meth c 6 (XQ G 570 598 below args s (some (.int r)) σ') 0 0 89 [(0, .ref (G.2.2.1 + 570)), (1, .ref (G.2.2.1 + p0)), (2, .int p1), (3, .int y3), (4, .int y4), (5, .int y5)] [] σ := by
  replace h0 := (show _ = _ from h0)
  unfold s_Model_moverTo_89 at h0
  refine x_iload C d_Model_moverTo_89 5 rfl ?_
  refine x_if_ge C 97 d_Model_moverTo_91 (by decide) (fun q9 => ?_) (fun q9 => ?_)
  · replace h0 := xit q9 h0
    exact x_lv C [0, 1, 2, 3, 4] rfl (b_Model_moverTo_97 C hr hk hd hR hp0 hrec5 h0)
  · replace h0 := xif q9 h0
    refine x_iload C d_Model_moverTo_94 4 rfl ?_
    refine x_istore_n (lv' := [(3, .int y4), (0, .ref (G.2.2.1 + 570)), (1, .ref (G.2.2.1 + p0)), (2, .int p1), (4, .int y4), (5, .int y5)]) C d_Model_moverTo_96 rfl (by decide) rfl ?_
    exact x_lv C [1, 2, 3, 0, 4] rfl (b_Model_moverTo_97 C hr hk hd hR hp0 hrec5 h0)
def s_Model_moverTo_59 (p0 : Nat) (p1 : Int32) (rec5 : Int32 → Int32 → LH → Option (Int32 × LH)) (y3 : Int32) (y4 : Int32) (z0 : Int32) (σ : LH) : Option (Int32 × LH) :=
  if y3 = (-1) then (
   s_Model_moverTo_89 p0 p1 rec5 y3 y4 z0 σ)
  else (
   if z0 = 0 then (
    xb2 (s_Model_farFrom p0 y4 p1 σ) fun r12 σ13 =>
    xb2 (s_Model_farFrom p0 y3 p1 σ13) fun r15 σ16 =>
    xl (((r12 - r15)) : Int32) fun x17 =>
    s_Model_moverTo_89 p0 p1 rec5 y3 y4 x17 σ16)
   else (
    s_Model_moverTo_89 p0 p1 rec5 y3 y4 z0 σ))
theorem b_Model_moverTo_59 {G : XG} {l : Launch} {p : Program} {e : Env} {R : Room} {s : State} {m : MethodId} {args : Array Value} {below : List Frame} {meth : Method} {c : Code} (C : XC G 570 598 p s m args c prog_14_method_53_code 6 R_Model) (hr : meth.sig.returnType = (some .int)) (hk : meth.locks = false) {d : Nat} (hd : 120 ≤ d + 1) (hR : xroom R (d + 1)) {p0 : Nat} {p1 : Int32} (hp0 : xin 570 598 p0 (2, 290, 0)) {rec5 : Int32 → Int32 → LH → Option (Int32 × LH)} {σ' : LH} {r : Int32} (hrec5 : ∀ (y3 : Int32) (y4 : Int32) (σ : LH), rec5 y3 y4 σ = some (r, σ') → XJ G 570 598 p l e R s m args below meth c 6 (XQ G 570 598 below args s (some (.int r)) σ') 0 0 5 [(0, .ref (G.2.2.1 + 570)), (1, .ref (G.2.2.1 + p0)), (2, .int p1), (3, .int y3), (4, .int y4)] [] σ) {y3 : Int32} {y4 : Int32} {z0 : Int32} {σ : LH} (h0 : s_Model_moverTo_59 p0 p1 rec5 y3 y4 z0 σ = some (r, σ')) : XJ G 570 598 p l e R s m args below meth c 6 (XQ G 570 598 below args s (some (.int r)) σ') 0 0 59 [(0, .ref (G.2.2.1 + 570)), (1, .ref (G.2.2.1 + p0)), (2, .int p1), (3, .int y3), (4, .int y4)] [.int z0] σ := by
  replace h0 := (show _ = _ from h0)
  unfold s_Model_moverTo_59 at h0
  refine x_istore (lv' := [(5, .int z0), (0, .ref (G.2.2.1 + 570)), (1, .ref (G.2.2.1 + p0)), (2, .int p1), (3, .int y3), (4, .int y4)]) C d_Model_moverTo_59 (by decide) rfl ?_
  refine x_iload_n C d_Model_moverTo_61 4 rfl ?_
  refine x_iconst (v := (-1)) C d_Model_moverTo_62 (by decide) ?_
  refine x_icmp_eq C 89 d_Model_moverTo_63 (by decide) (fun q8 => ?_) (fun q8 => ?_)
  · replace h0 := xit q8 h0
    exact x_lv C [1, 2, 3, 4, 5, 0] rfl (b_Model_moverTo_89 C hr hk hd hR hp0 hrec5 h0)
  · replace h0 := xif q8 h0
    refine x_iload C d_Model_moverTo_66 0 rfl ?_
    refine x_if_ne C 89 d_Model_moverTo_68 (by decide) (fun q10 => ?_) (fun q10 => ?_)
    · replace h0 := xif q10 h0
      exact x_lv C [1, 2, 3, 4, 5, 0] rfl (b_Model_moverTo_89 C hr hk hd hR hp0 hrec5 h0)
    · replace h0 := xit q10 h0
      refine x_aload_n C d_Model_moverTo_71 1 rfl ?_
      refine x_aload_n C d_Model_moverTo_72 2 rfl ?_
      refine x_iload C d_Model_moverTo_73 5 rfl ?_
      refine x_iload_n C d_Model_moverTo_75 3 rfl ?_
      obtain ⟨r12, σ13, k11, h0⟩ := xbind2 h0
      refine x_callVi C hR (c_Model_farFrom (d := d) (by omega) hp0 k11) cw_Model_371 k_570 rfl rfl rfl (Nat.le_of_ble_eq_true rfl) ⟨Nat.zero_le _, Nat.zero_le _⟩ d_Model_moverTo_76 ?_
      refine x_aload_n C d_Model_moverTo_79 1 rfl ?_
      refine x_aload_n C d_Model_moverTo_80 2 rfl ?_
      refine x_iload_n C d_Model_moverTo_81 4 rfl ?_
      refine x_iload_n C d_Model_moverTo_82 3 rfl ?_
      obtain ⟨r15, σ16, k14, h0⟩ := xbind2 h0
      refine x_callVi C hR (c_Model_farFrom (d := d) (by omega) hp0 k14) cw_Model_371 k_570 rfl rfl rfl (Nat.le_of_ble_eq_true rfl) ⟨Nat.zero_le _, Nat.zero_le _⟩ d_Model_moverTo_83 ?_
      refine x_isub C d_Model_moverTo_86 ?_
      obtain ⟨x17, ex17, h0⟩ := xlet h0
      refine x_name C ex17 ?_
      refine x_istore (lv' := [(5, .int x17), (0, .ref (G.2.2.1 + 570)), (1, .ref (G.2.2.1 + p0)), (2, .int p1), (3, .int y3), (4, .int y4)]) C d_Model_moverTo_87 (by decide) rfl ?_
      exact x_lv C [1, 2, 3, 4, 5, 0] rfl (b_Model_moverTo_89 C hr hk hd hR hp0 hrec5 h0)
def s_Model_moverTo_5_b (p0 : Nat) (p1 : Int32) (rec5 : Int32 → Int32 → LH → Option (Int32 × LH)) (y3 : Int32) (y4 : Int32) (σ : LH) : Option (Int32 × LH) :=
  if (σ.1 570 27) ≤ y4 then (
   some (y3, σ))
  else (
   xb2 (s_Model_wouldMove p0 y4 p1 σ) fun r3 σ4 =>
   if r3 = 0 then (
    s_Model_moverTo_97 p0 p1 rec5 y3 y4 σ4)
   else (
    if y3 = (-1) then (
     s_Model_moverTo_59 p0 p1 rec5 y3 y4 (-1) σ4)
    else (
     if ib ((4 * y3) + 1) 32 then (
     if ib ((4 * y4) + 1) 32 then (
     s_Model_moverTo_59 p0 p1 rec5 y3 y4 ((σ4.1 577 (Int32.toNatClampNeg ((4 * y3) + 1))) - (σ4.1 577 (Int32.toNatClampNeg ((4 * y4) + 1)))) σ4) else none) else none)))
def s_Model_moverTo_5 (p0 : Nat) (p1 : Int32) : Nat → Int32 → Int32 → LH → Option (Int32 × LH)
  | 0, _, _, _ => none
  | n + 1, y3, y4, σ => s_Model_moverTo_5_b p0 p1 (s_Model_moverTo_5 p0 p1 n) y3 y4 σ
theorem bb_Model_moverTo_5 {G : XG} {l : Launch} {p : Program} {e : Env} {R : Room} {s : State} {m : MethodId} {args : Array Value} {below : List Frame} {meth : Method} {c : Code} (C : XC G 570 598 p s m args c prog_14_method_53_code 6 R_Model) (hr : meth.sig.returnType = (some .int)) (hk : meth.locks = false) {d : Nat} (hd : 120 ≤ d + 1) (hR : xroom R (d + 1)) {p0 : Nat} {p1 : Int32} (hp0 : xin 570 598 p0 (2, 290, 0)) {rec5 : Int32 → Int32 → LH → Option (Int32 × LH)} {σ' : LH} {r : Int32} (hrec5 : ∀ (y3 : Int32) (y4 : Int32) (σ : LH), rec5 y3 y4 σ = some (r, σ') → XJ G 570 598 p l e R s m args below meth c 6 (XQ G 570 598 below args s (some (.int r)) σ') 0 0 5 [(0, .ref (G.2.2.1 + 570)), (1, .ref (G.2.2.1 + p0)), (2, .int p1), (3, .int y3), (4, .int y4)] [] σ) {y3 : Int32} {y4 : Int32} {σ : LH} (h0 : s_Model_moverTo_5_b p0 p1 rec5 y3 y4 σ = some (r, σ')) : XJ G 570 598 p l e R s m args below meth c 6 (XQ G 570 598 below args s (some (.int r)) σ') 0 0 5 [(0, .ref (G.2.2.1 + 570)), (1, .ref (G.2.2.1 + p0)), (2, .int p1), (3, .int y3), (4, .int y4)] [] σ := by
  replace h0 := (show _ = _ from h0)
  unfold s_Model_moverTo_5_b at h0
  refine x_iload C d_Model_moverTo_5 4 rfl ?_
  refine x_aload_n C d_Model_moverTo_7 0 rfl ?_
  refine x_getI (y := 0) C fg_Model_305 k_570 rfl d_Model_moverTo_8 ?_
  refine x_icmp_ge C 103 d_Model_moverTo_11 (by decide) (fun q1 => ?_) (fun q1 => ?_)
  · replace h0 := xit q1 h0
    refine x_iload_n C d_Model_moverTo_103 3 rfl ?_
    exact x_iret C hr hk h0 d_Model_moverTo_104
  · replace h0 := xif q1 h0
    refine x_aload_n C d_Model_moverTo_14 0 rfl ?_
    refine x_aload_n C d_Model_moverTo_15 1 rfl ?_
    refine x_iload C d_Model_moverTo_16 4 rfl ?_
    refine x_iload_n C d_Model_moverTo_18 2 rfl ?_
    obtain ⟨r3, σ4, k2, h0⟩ := xbind2 h0
    refine x_callVi C hR (c_Model_wouldMove (d := d) (by omega) hp0 k2) cw_Model_367 k_570 rfl rfl rfl (Nat.le_of_ble_eq_true rfl) ⟨Nat.zero_le _, Nat.zero_le _⟩ d_Model_moverTo_19 ?_
    refine x_if_ne C 28 d_Model_moverTo_22 (by decide) (fun q5 => ?_) (fun q5 => ?_)
    · replace h0 := xif q5 h0
      refine x_iload_n C d_Model_moverTo_28 3 rfl ?_
      refine x_iconst (v := (-1)) C d_Model_moverTo_29 (by decide) ?_
      refine x_icmp_ne C 37 d_Model_moverTo_30 (by decide) (fun q7 => ?_) (fun q7 => ?_)
      · replace h0 := xif q7 h0
        refine x_aload_n C d_Model_moverTo_37 0 rfl ?_
        refine x_getA (y := 577) C fg_Model_43 k_570 rfl d_Model_moverTo_38 ?_
        refine x_iconst (v := 4) C d_Model_moverTo_41 (by decide) ?_
        refine x_iload_n C d_Model_moverTo_42 3 rfl ?_
        refine x_imul C d_Model_moverTo_43 ?_
        refine x_iconst (v := 1) C d_Model_moverTo_44 (by decide) ?_
        refine x_iadd C d_Model_moverTo_45 ?_
        obtain ⟨g18, h0⟩ := xgo h0
        refine x_iald C k_577 (ib_in g18) d_Model_moverTo_46 ?_
        refine x_aload_n C d_Model_moverTo_47 0 rfl ?_
        refine x_getA (y := 577) C fg_Model_43 k_570 rfl d_Model_moverTo_48 ?_
        refine x_iconst (v := 4) C d_Model_moverTo_51 (by decide) ?_
        refine x_iload C d_Model_moverTo_52 4 rfl ?_
        refine x_imul C d_Model_moverTo_54 ?_
        refine x_iconst (v := 1) C d_Model_moverTo_55 (by decide) ?_
        refine x_iadd C d_Model_moverTo_56 ?_
        obtain ⟨g19, h0⟩ := xgo h0
        refine x_iald C k_577 (ib_in g19) d_Model_moverTo_57 ?_
        refine x_isub C d_Model_moverTo_58 ?_
        exact x_lv C [0, 1, 2, 3, 4] rfl (b_Model_moverTo_59 C hr hk hd hR hp0 hrec5 h0)
      · replace h0 := xit q7 h0
        refine x_iconst (v := (-1)) C d_Model_moverTo_33 (by decide) ?_
        refine x_goto C 59 d_Model_moverTo_34 (by decide) ?_
        exact x_lv C [0, 1, 2, 3, 4] rfl (b_Model_moverTo_59 C hr hk hd hR hp0 hrec5 h0)
    · replace h0 := xit q5 h0
      refine x_goto C 97 d_Model_moverTo_25 (by decide) ?_
      exact x_lv C [0, 1, 2, 3, 4] rfl (b_Model_moverTo_97 C hr hk hd hR hp0 hrec5 h0)
theorem b_Model_moverTo_5 {G : XG} {l : Launch} {p : Program} {e : Env} {R : Room} {s : State} {m : MethodId} {args : Array Value} {below : List Frame} {meth : Method} {c : Code} (C : XC G 570 598 p s m args c prog_14_method_53_code 6 R_Model) (hr : meth.sig.returnType = (some .int)) (hk : meth.locks = false) {d : Nat} (hd : 120 ≤ d + 1) (hR : xroom R (d + 1)) {p0 : Nat} {p1 : Int32} (hp0 : xin 570 598 p0 (2, 290, 0)) {σ' : LH} {r : Int32} : ∀ (n : Nat) (y3 : Int32) (y4 : Int32) (σ : LH), s_Model_moverTo_5 p0 p1 n y3 y4 σ = some (r, σ') → XJ G 570 598 p l e R s m args below meth c 6 (XQ G 570 598 below args s (some (.int r)) σ') 0 0 5 [(0, .ref (G.2.2.1 + 570)), (1, .ref (G.2.2.1 + p0)), (2, .int p1), (3, .int y3), (4, .int y4)] [] σ := by
  intro n
  induction n with
  | zero => intro y3 y4 σ h0; cases h0
  | succ n ih => intro y3 y4 σ h0; exact bb_Model_moverTo_5 C hr hk hd hR hp0 ih h0
def s_Model_moverTo (p0 : Nat) (p1 : Int32) (σ : LH) : Option (Int32 × LH) :=
  s_Model_moverTo_5 p0 p1 FUEL (-1) 0 σ
theorem c_Model_moverTo {G : XG} {l : Launch} {d : Nat} (hd : 120 ≤ d) {p0 : Nat} {p1 : Int32} (hp0 : xin 570 598 p0 (2, 290, 0)) {σ σ' : LH} {r : Int32} (h0 : s_Model_moverTo p0 p1 σ = some (r, σ')) : xM G 570 598 l y_Model_moverTo prog_14_method_53_code 6 (some .int) d [.ref (G.2.2.1 + 570), .ref (G.2.2.1 + p0), .int p1] σ (some (.int r)) σ' := by
  obtain ⟨d, rfl⟩ : ∃ q, d = q + 1 := ⟨d - 1, by omega⟩
  refine x_met R_Model rfl (by decide +kernel) (Nat.le_of_ble_eq_true rfl) fun p e s m below meth c C hr hk hR => ?_
  refine x_lv (lv' := [(0, .ref (G.2.2.1 + 570)), (1, .ref (G.2.2.1 + p0)), (2, .int p1)]) C [0, 1, 2] rfl ?_
  generalize xrm (d + 1) = R at hR ⊢
  unfold s_Model_moverTo at h0
  refine x_iconst (v := (-1)) C d_Model_moverTo_0 (by decide) ?_
  refine x_istore_n (lv' := [(3, .int (-1)), (0, .ref (G.2.2.1 + 570)), (1, .ref (G.2.2.1 + p0)), (2, .int p1)]) C d_Model_moverTo_1 rfl (by decide) rfl ?_
  refine x_iconst (v := 0) C d_Model_moverTo_2 (by decide) ?_
  refine x_istore (lv' := [(4, .int 0), (3, .int (-1)), (0, .ref (G.2.2.1 + 570)), (1, .ref (G.2.2.1 + p0)), (2, .int p1)]) C d_Model_moverTo_3 (by decide) rfl ?_
  exact x_lv C [2, 3, 4, 1, 0] rfl (b_Model_moverTo_5 C hr hk hd hR hp0 FUEL _ _ _ h0)
-- LostPlacesModel.moves([III)V
theorem d_Model_moves_0 : decode prog_14_method_54_code 0 = .ok (.aload_n 1, 1) := by decide +kernel
theorem d_Model_moves_1 : decode prog_14_method_54_code 1 = .ok (.bipush 49, 2) := by decide +kernel
theorem d_Model_moves_3 : decode prog_14_method_54_code 3 = .ok (.iaload, 1) := by decide +kernel
theorem d_Model_moves_4 : decode prog_14_method_54_code 4 = .ok (.bipush 60, 2) := by decide +kernel
theorem d_Model_moves_6 : decode prog_14_method_54_code 6 = .ok (.if_icmp .ne 44, 3) := by decide +kernel
theorem d_Model_moves_9 : decode prog_14_method_54_code 9 = .ok (.iconst 1, 1) := by decide +kernel
theorem d_Model_moves_10 : decode prog_14_method_54_code 10 = .ok (.istore 4, 2) := by decide +kernel
theorem d_Model_moves_12 : decode prog_14_method_54_code 12 = .ok (.iload 4, 2) := by decide +kernel
theorem d_Model_moves_14 : decode prog_14_method_54_code 14 = .ok (.sipush 236, 3) := by decide +kernel
theorem d_Model_moves_17 : decode prog_14_method_54_code 17 = .ok (.if_icmp .gt 25, 3) := by decide +kernel
theorem d_Model_moves_20 : decode prog_14_method_54_code 20 = .ok (.aload_n 1, 1) := by decide +kernel
theorem d_Model_moves_21 : decode prog_14_method_54_code 21 = .ok (.bipush 49, 2) := by decide +kernel
theorem d_Model_moves_23 : decode prog_14_method_54_code 23 = .ok (.iload 4, 2) := by decide +kernel
theorem d_Model_moves_25 : decode prog_14_method_54_code 25 = .ok (.iadd, 1) := by decide +kernel
theorem d_Model_moves_26 : decode prog_14_method_54_code 26 = .ok (.aload_n 1, 1) := by decide +kernel
theorem d_Model_moves_27 : decode prog_14_method_54_code 27 = .ok (.bipush 49, 2) := by decide +kernel
theorem d_Model_moves_29 : decode prog_14_method_54_code 29 = .ok (.iload 4, 2) := by decide +kernel
theorem d_Model_moves_31 : decode prog_14_method_54_code 31 = .ok (.iadd, 1) := by decide +kernel
theorem d_Model_moves_32 : decode prog_14_method_54_code 32 = .ok (.iconst 4, 1) := by decide +kernel
theorem d_Model_moves_33 : decode prog_14_method_54_code 33 = .ok (.iadd, 1) := by decide +kernel
theorem d_Model_moves_34 : decode prog_14_method_54_code 34 = .ok (.iaload, 1) := by decide +kernel
theorem d_Model_moves_35 : decode prog_14_method_54_code 35 = .ok (.iastore, 1) := by decide +kernel
theorem d_Model_moves_36 : decode prog_14_method_54_code 36 = .ok (.iinc 4 1, 3) := by decide +kernel
theorem d_Model_moves_39 : decode prog_14_method_54_code 39 = .ok (.goto (-27), 3) := by decide +kernel
theorem d_Model_moves_42 : decode prog_14_method_54_code 42 = .ok (.aload_n 1, 1) := by decide +kernel
theorem d_Model_moves_43 : decode prog_14_method_54_code 43 = .ok (.bipush 49, 2) := by decide +kernel
theorem d_Model_moves_45 : decode prog_14_method_54_code 45 = .ok (.dup2, 1) := by decide +kernel
theorem d_Model_moves_46 : decode prog_14_method_54_code 46 = .ok (.iaload, 1) := by decide +kernel
theorem d_Model_moves_47 : decode prog_14_method_54_code 47 = .ok (.iconst 1, 1) := by decide +kernel
theorem d_Model_moves_48 : decode prog_14_method_54_code 48 = .ok (.isub, 1) := by decide +kernel
theorem d_Model_moves_49 : decode prog_14_method_54_code 49 = .ok (.iastore, 1) := by decide +kernel
theorem d_Model_moves_50 : decode prog_14_method_54_code 50 = .ok (.bipush 50, 2) := by decide +kernel
theorem d_Model_moves_52 : decode prog_14_method_54_code 52 = .ok (.iconst 4, 1) := by decide +kernel
theorem d_Model_moves_53 : decode prog_14_method_54_code 53 = .ok (.aload_n 1, 1) := by decide +kernel
theorem d_Model_moves_54 : decode prog_14_method_54_code 54 = .ok (.bipush 49, 2) := by decide +kernel
theorem d_Model_moves_56 : decode prog_14_method_54_code 56 = .ok (.iaload, 1) := by decide +kernel
theorem d_Model_moves_57 : decode prog_14_method_54_code 57 = .ok (.imul, 1) := by decide +kernel
theorem d_Model_moves_58 : decode prog_14_method_54_code 58 = .ok (.iadd, 1) := by decide +kernel
theorem d_Model_moves_59 : decode prog_14_method_54_code 59 = .ok (.istore 4, 2) := by decide +kernel
theorem d_Model_moves_61 : decode prog_14_method_54_code 61 = .ok (.aload_n 1, 1) := by decide +kernel
theorem d_Model_moves_62 : decode prog_14_method_54_code 62 = .ok (.iload 4, 2) := by decide +kernel
theorem d_Model_moves_64 : decode prog_14_method_54_code 64 = .ok (.iload_n 2, 1) := by decide +kernel
theorem d_Model_moves_65 : decode prog_14_method_54_code 65 = .ok (.iastore, 1) := by decide +kernel
theorem d_Model_moves_66 : decode prog_14_method_54_code 66 = .ok (.aload_n 1, 1) := by decide +kernel
theorem d_Model_moves_67 : decode prog_14_method_54_code 67 = .ok (.iload 4, 2) := by decide +kernel
theorem d_Model_moves_69 : decode prog_14_method_54_code 69 = .ok (.iconst 1, 1) := by decide +kernel
theorem d_Model_moves_70 : decode prog_14_method_54_code 70 = .ok (.iadd, 1) := by decide +kernel
theorem d_Model_moves_71 : decode prog_14_method_54_code 71 = .ok (.aload_n 1, 1) := by decide +kernel
theorem d_Model_moves_72 : decode prog_14_method_54_code 72 = .ok (.iconst 4, 1) := by decide +kernel
theorem d_Model_moves_73 : decode prog_14_method_54_code 73 = .ok (.iload_n 2, 1) := by decide +kernel
theorem d_Model_moves_74 : decode prog_14_method_54_code 74 = .ok (.imul, 1) := by decide +kernel
theorem d_Model_moves_75 : decode prog_14_method_54_code 75 = .ok (.iaload, 1) := by decide +kernel
theorem d_Model_moves_76 : decode prog_14_method_54_code 76 = .ok (.iastore, 1) := by decide +kernel
theorem d_Model_moves_77 : decode prog_14_method_54_code 77 = .ok (.aload_n 1, 1) := by decide +kernel
theorem d_Model_moves_78 : decode prog_14_method_54_code 78 = .ok (.iload 4, 2) := by decide +kernel
theorem d_Model_moves_80 : decode prog_14_method_54_code 80 = .ok (.iconst 2, 1) := by decide +kernel
theorem d_Model_moves_81 : decode prog_14_method_54_code 81 = .ok (.iadd, 1) := by decide +kernel
theorem d_Model_moves_82 : decode prog_14_method_54_code 82 = .ok (.iload_n 3, 1) := by decide +kernel
theorem d_Model_moves_83 : decode prog_14_method_54_code 83 = .ok (.iastore, 1) := by decide +kernel
theorem d_Model_moves_84 : decode prog_14_method_54_code 84 = .ok (.aload_n 1, 1) := by decide +kernel
theorem d_Model_moves_85 : decode prog_14_method_54_code 85 = .ok (.iload 4, 2) := by decide +kernel
theorem d_Model_moves_87 : decode prog_14_method_54_code 87 = .ok (.iconst 3, 1) := by decide +kernel
theorem d_Model_moves_88 : decode prog_14_method_54_code 88 = .ok (.iadd, 1) := by decide +kernel
theorem d_Model_moves_89 : decode prog_14_method_54_code 89 = .ok (.aload_n 1, 1) := by decide +kernel
theorem d_Model_moves_90 : decode prog_14_method_54_code 90 = .ok (.bipush 48, 2) := by decide +kernel
theorem d_Model_moves_92 : decode prog_14_method_54_code 92 = .ok (.iaload, 1) := by decide +kernel
theorem d_Model_moves_93 : decode prog_14_method_54_code 93 = .ok (.iastore, 1) := by decide +kernel
theorem d_Model_moves_94 : decode prog_14_method_54_code 94 = .ok (.aload_n 1, 1) := by decide +kernel
theorem d_Model_moves_95 : decode prog_14_method_54_code 95 = .ok (.bipush 49, 2) := by decide +kernel
theorem d_Model_moves_97 : decode prog_14_method_54_code 97 = .ok (.dup2, 1) := by decide +kernel
theorem d_Model_moves_98 : decode prog_14_method_54_code 98 = .ok (.iaload, 1) := by decide +kernel
theorem d_Model_moves_99 : decode prog_14_method_54_code 99 = .ok (.iconst 1, 1) := by decide +kernel
theorem d_Model_moves_100 : decode prog_14_method_54_code 100 = .ok (.iadd, 1) := by decide +kernel
theorem d_Model_moves_101 : decode prog_14_method_54_code 101 = .ok (.iastore, 1) := by decide +kernel
theorem d_Model_moves_102 : decode prog_14_method_54_code 102 = .ok (.aload_n 1, 1) := by decide +kernel
theorem d_Model_moves_103 : decode prog_14_method_54_code 103 = .ok (.iconst 4, 1) := by decide +kernel
theorem d_Model_moves_104 : decode prog_14_method_54_code 104 = .ok (.iload_n 2, 1) := by decide +kernel
theorem d_Model_moves_105 : decode prog_14_method_54_code 105 = .ok (.imul, 1) := by decide +kernel
theorem d_Model_moves_106 : decode prog_14_method_54_code 106 = .ok (.iload_n 3, 1) := by decide +kernel
theorem d_Model_moves_107 : decode prog_14_method_54_code 107 = .ok (.iastore, 1) := by decide +kernel
theorem d_Model_moves_108 : decode prog_14_method_54_code 108 = .ok (.aload_n 0, 1) := by decide +kernel
theorem d_Model_moves_109 : decode prog_14_method_54_code 109 = .ok (.dup, 1) := by decide +kernel
theorem d_Model_moves_110 : decode prog_14_method_54_code 110 = .ok (.getfield 374, 3) := by decide +kernel
theorem d_Model_moves_113 : decode prog_14_method_54_code 113 = .ok (.iconst 1, 1) := by decide +kernel
theorem d_Model_moves_114 : decode prog_14_method_54_code 114 = .ok (.iadd, 1) := by decide +kernel
theorem d_Model_moves_115 : decode prog_14_method_54_code 115 = .ok (.putfield 374, 3) := by decide +kernel
theorem d_Model_moves_118 : decode prog_14_method_54_code 118 = .ok (.return_, 1) := by decide +kernel
def s_Model_moves_50 (p0 : Nat) (p1 : Int32) (p2 : Int32) (σ : LH) : Option (LH) :=
  if ib 49 290 then (
  xl (((50 + (4 * (σ.1 p0 (Int32.toNatClampNeg 49))))) : Int32) fun x8 =>
  if ib x8 290 then (
  xl ((stI σ p0 (Int32.toNatClampNeg x8) p1) : LH) fun σ10 =>
  if ib (4 * p1) 290 then (
  if ib (x8 + 1) 290 then (
  xl ((stI σ10 p0 (Int32.toNatClampNeg (x8 + 1)) (σ10.1 p0 (Int32.toNatClampNeg (4 * p1)))) : LH) fun σ13 =>
  if ib (x8 + 2) 290 then (
  xl ((stI σ13 p0 (Int32.toNatClampNeg (x8 + 2)) p2) : LH) fun σ15 =>
  if ib 48 290 then (
  if ib (x8 + 3) 290 then (
  xl ((stI σ15 p0 (Int32.toNatClampNeg (x8 + 3)) (σ15.1 p0 (Int32.toNatClampNeg 48))) : LH) fun σ18 =>
  if ib 49 290 then (
  if ib 49 290 then (
  xl ((stI σ18 p0 (Int32.toNatClampNeg 49) ((σ18.1 p0 (Int32.toNatClampNeg 49)) + 1)) : LH) fun σ21 =>
  if ib (4 * p1) 290 then (
  xl ((stI σ21 p0 (Int32.toNatClampNeg (4 * p1)) p2) : LH) fun σ23 =>
  xl ((stI σ23 570 41 ((σ23.1 570 41) + 1)) : LH) fun σ24 =>
  some σ24) else none) else none) else none) else none) else none) else none) else none) else none) else none) else none
theorem b_Model_moves_50 {G : XG} {l : Launch} {p : Program} {e : Env} {R : Room} {s : State} {m : MethodId} {args : Array Value} {below : List Frame} {meth : Method} {c : Code} (C : XC G 570 598 p s m args c prog_14_method_54_code 5 R_Model) (hr : meth.sig.returnType = none) (hk : meth.locks = false) {d : Nat} (hd : 1 ≤ d + 1) (hR : xroom R (d + 1)) {p0 : Nat} {p1 : Int32} {p2 : Int32} (hp0 : xin 570 598 p0 (2, 290, 0)) {σ' : LH} {σ : LH} (h0 : s_Model_moves_50 p0 p1 p2 σ = some σ') : XJ G 570 598 p l e R s m args below meth c 5 (XQ G 570 598 below args s none σ') 0 0 50 [(0, .ref (G.2.2.1 + 570)), (1, .ref (G.2.2.1 + p0)), (2, .int p1), (3, .int p2)] [] σ := by
  replace h0 := (show _ = _ from h0)
  unfold s_Model_moves_50 at h0
  refine x_bipush (v := 50) C d_Model_moves_50 (by decide) ?_
  refine x_iconst (v := 4) C d_Model_moves_52 (by decide) ?_
  refine x_aload_n C d_Model_moves_53 1 rfl ?_
  refine x_bipush (v := 49) C d_Model_moves_54 (by decide) ?_
  obtain ⟨g7, h0⟩ := xgo h0
  refine x_iald C hp0 (ib_in g7) d_Model_moves_56 ?_
  refine x_imul C d_Model_moves_57 ?_
  refine x_iadd C d_Model_moves_58 ?_
  obtain ⟨x8, ex8, h0⟩ := xlet h0
  refine x_name C ex8 ?_
  refine x_istore (lv' := [(4, .int x8), (0, .ref (G.2.2.1 + 570)), (1, .ref (G.2.2.1 + p0)), (2, .int p1), (3, .int p2)]) C d_Model_moves_59 (by decide) rfl ?_
  refine x_aload_n C d_Model_moves_61 2 rfl ?_
  refine x_iload C d_Model_moves_62 0 rfl ?_
  refine x_iload_n C d_Model_moves_64 3 rfl ?_
  obtain ⟨g9, h0⟩ := xgo h0
  refine x_iast C hp0 (ib_in g9) d_Model_moves_65 ?_
  obtain ⟨σ10, eσ10, h0⟩ := xlet h0
  refine x_sig C eσ10 ?_
  refine x_aload_n C d_Model_moves_66 2 rfl ?_
  refine x_iload C d_Model_moves_67 0 rfl ?_
  refine x_iconst (v := 1) C d_Model_moves_69 (by decide) ?_
  refine x_iadd C d_Model_moves_70 ?_
  refine x_aload_n C d_Model_moves_71 2 rfl ?_
  refine x_iconst (v := 4) C d_Model_moves_72 (by decide) ?_
  refine x_iload_n C d_Model_moves_73 3 rfl ?_
  refine x_imul C d_Model_moves_74 ?_
  obtain ⟨g11, h0⟩ := xgo h0
  refine x_iald C hp0 (ib_in g11) d_Model_moves_75 ?_
  obtain ⟨g12, h0⟩ := xgo h0
  refine x_iast C hp0 (ib_in g12) d_Model_moves_76 ?_
  obtain ⟨σ13, eσ13, h0⟩ := xlet h0
  refine x_sig C eσ13 ?_
  refine x_aload_n C d_Model_moves_77 2 rfl ?_
  refine x_iload C d_Model_moves_78 0 rfl ?_
  refine x_iconst (v := 2) C d_Model_moves_80 (by decide) ?_
  refine x_iadd C d_Model_moves_81 ?_
  refine x_iload_n C d_Model_moves_82 4 rfl ?_
  obtain ⟨g14, h0⟩ := xgo h0
  refine x_iast C hp0 (ib_in g14) d_Model_moves_83 ?_
  obtain ⟨σ15, eσ15, h0⟩ := xlet h0
  refine x_sig C eσ15 ?_
  refine x_aload_n C d_Model_moves_84 2 rfl ?_
  refine x_iload C d_Model_moves_85 0 rfl ?_
  refine x_iconst (v := 3) C d_Model_moves_87 (by decide) ?_
  refine x_iadd C d_Model_moves_88 ?_
  refine x_aload_n C d_Model_moves_89 2 rfl ?_
  refine x_bipush (v := 48) C d_Model_moves_90 (by decide) ?_
  obtain ⟨g16, h0⟩ := xgo h0
  refine x_iald C hp0 (ib_in g16) d_Model_moves_92 ?_
  obtain ⟨g17, h0⟩ := xgo h0
  refine x_iast C hp0 (ib_in g17) d_Model_moves_93 ?_
  obtain ⟨σ18, eσ18, h0⟩ := xlet h0
  refine x_sig C eσ18 ?_
  refine x_aload_n C d_Model_moves_94 2 rfl ?_
  refine x_bipush (v := 49) C d_Model_moves_95 (by decide) ?_
  refine x_dup2 C d_Model_moves_97 rfl rfl ?_
  obtain ⟨g19, h0⟩ := xgo h0
  refine x_iald C hp0 (ib_in g19) d_Model_moves_98 ?_
  refine x_iconst (v := 1) C d_Model_moves_99 (by decide) ?_
  refine x_iadd C d_Model_moves_100 ?_
  obtain ⟨g20, h0⟩ := xgo h0
  refine x_iast C hp0 (ib_in g20) d_Model_moves_101 ?_
  obtain ⟨σ21, eσ21, h0⟩ := xlet h0
  refine x_sig C eσ21 ?_
  refine x_aload_n C d_Model_moves_102 2 rfl ?_
  refine x_iconst (v := 4) C d_Model_moves_103 (by decide) ?_
  refine x_iload_n C d_Model_moves_104 3 rfl ?_
  refine x_imul C d_Model_moves_105 ?_
  refine x_iload_n C d_Model_moves_106 4 rfl ?_
  obtain ⟨g22, h0⟩ := xgo h0
  refine x_iast C hp0 (ib_in g22) d_Model_moves_107 ?_
  obtain ⟨σ23, eσ23, h0⟩ := xlet h0
  refine x_sig C eσ23 ?_
  refine x_aload_n C d_Model_moves_108 1 rfl ?_
  refine x_dup C d_Model_moves_109 rfl ?_
  refine x_getI (y := 0) C fg_Model_374 k_570 rfl d_Model_moves_110 ?_
  refine x_iconst (v := 1) C d_Model_moves_113 (by decide) ?_
  refine x_iadd C d_Model_moves_114 ?_
  refine x_putI (y := 0) C fp_Model_374 k_570 rfl rfl rfl d_Model_moves_115 ?_
  obtain ⟨σ24, eσ24, h0⟩ := xlet h0
  refine x_sig C eσ24 ?_
  exact x_vret C hr hk h0 d_Model_moves_118
def s_Model_moves_12_b (p0 : Nat) (p1 : Int32) (p2 : Int32) (rec12 : Int32 → LH → Option (LH)) (y4 : Int32) (σ : LH) : Option (LH) :=
  if 236 < y4 then (
   if ib 49 290 then (
   if ib 49 290 then (
   xl ((stI σ p0 (Int32.toNatClampNeg 49) ((σ.1 p0 (Int32.toNatClampNeg 49)) - 1)) : LH) fun σ6 =>
   s_Model_moves_50 p0 p1 p2 σ6) else none) else none)
  else (
   if ib ((49 + y4) + 4) 290 then (
   if ib (49 + y4) 290 then (
   xl ((stI σ p0 (Int32.toNatClampNeg (49 + y4)) (σ.1 p0 (Int32.toNatClampNeg ((49 + y4) + 4)))) : LH) fun σ27 =>
   xl ((y4 + 1) : Int32) fun x28 =>
   rec12 x28 σ27) else none) else none)
def s_Model_moves_12 (p0 : Nat) (p1 : Int32) (p2 : Int32) : Nat → Int32 → LH → Option (LH)
  | 0, _, _ => none
  | n + 1, y4, σ => s_Model_moves_12_b p0 p1 p2 (s_Model_moves_12 p0 p1 p2 n) y4 σ
theorem bb_Model_moves_12 {G : XG} {l : Launch} {p : Program} {e : Env} {R : Room} {s : State} {m : MethodId} {args : Array Value} {below : List Frame} {meth : Method} {c : Code} (C : XC G 570 598 p s m args c prog_14_method_54_code 5 R_Model) (hr : meth.sig.returnType = none) (hk : meth.locks = false) {d : Nat} (hd : 1 ≤ d + 1) (hR : xroom R (d + 1)) {p0 : Nat} {p1 : Int32} {p2 : Int32} (hp0 : xin 570 598 p0 (2, 290, 0)) {rec12 : Int32 → LH → Option (LH)} {σ' : LH} (hrec12 : ∀ (y4 : Int32) (σ : LH), rec12 y4 σ = some σ' → XJ G 570 598 p l e R s m args below meth c 5 (XQ G 570 598 below args s none σ') 0 0 12 [(0, .ref (G.2.2.1 + 570)), (1, .ref (G.2.2.1 + p0)), (2, .int p1), (3, .int p2), (4, .int y4)] [] σ) {y4 : Int32} {σ : LH} (h0 : s_Model_moves_12_b p0 p1 p2 rec12 y4 σ = some σ') : XJ G 570 598 p l e R s m args below meth c 5 (XQ G 570 598 below args s none σ') 0 0 12 [(0, .ref (G.2.2.1 + 570)), (1, .ref (G.2.2.1 + p0)), (2, .int p1), (3, .int p2), (4, .int y4)] [] σ := by
  replace h0 := (show _ = _ from h0)
  unfold s_Model_moves_12_b at h0
  refine x_iload C d_Model_moves_12 4 rfl ?_
  refine x_sipush (v := 236) C d_Model_moves_14 (by decide) ?_
  refine x_icmp_gt C 42 d_Model_moves_17 (by decide) (fun q3 => ?_) (fun q3 => ?_)
  · replace h0 := xit q3 h0
    refine x_aload_n C d_Model_moves_42 1 rfl ?_
    refine x_bipush (v := 49) C d_Model_moves_43 (by decide) ?_
    refine x_dup2 C d_Model_moves_45 rfl rfl ?_
    obtain ⟨g4, h0⟩ := xgo h0
    refine x_iald C hp0 (ib_in g4) d_Model_moves_46 ?_
    refine x_iconst (v := 1) C d_Model_moves_47 (by decide) ?_
    refine x_isub C d_Model_moves_48 ?_
    obtain ⟨g5, h0⟩ := xgo h0
    refine x_iast C hp0 (ib_in g5) d_Model_moves_49 ?_
    obtain ⟨σ6, eσ6, h0⟩ := xlet h0
    refine x_sig C eσ6 ?_
    exact x_lv C [0, 1, 2, 3] rfl (b_Model_moves_50 C hr hk hd hR hp0 h0)
  · replace h0 := xif q3 h0
    refine x_aload_n C d_Model_moves_20 1 rfl ?_
    refine x_bipush (v := 49) C d_Model_moves_21 (by decide) ?_
    refine x_iload C d_Model_moves_23 4 rfl ?_
    refine x_iadd C d_Model_moves_25 ?_
    refine x_aload_n C d_Model_moves_26 1 rfl ?_
    refine x_bipush (v := 49) C d_Model_moves_27 (by decide) ?_
    refine x_iload C d_Model_moves_29 4 rfl ?_
    refine x_iadd C d_Model_moves_31 ?_
    refine x_iconst (v := 4) C d_Model_moves_32 (by decide) ?_
    refine x_iadd C d_Model_moves_33 ?_
    obtain ⟨g25, h0⟩ := xgo h0
    refine x_iald C hp0 (ib_in g25) d_Model_moves_34 ?_
    obtain ⟨g26, h0⟩ := xgo h0
    refine x_iast C hp0 (ib_in g26) d_Model_moves_35 ?_
    obtain ⟨σ27, eσ27, h0⟩ := xlet h0
    refine x_sig C eσ27 ?_
    obtain ⟨x28, ex28, h0⟩ := xlet h0
    refine x_iinc (lv' := [(4, .int x28), (0, .ref (G.2.2.1 + 570)), (1, .ref (G.2.2.1 + p0)), (2, .int p1), (3, .int p2)]) C d_Model_moves_36 4 rfl ex28 (by decide) rfl ?_
    refine x_goto C 12 d_Model_moves_39 (by decide) ?_
    exact x_lv C [1, 2, 3, 4, 0] rfl (hrec12 _ _ h0)
theorem b_Model_moves_12 {G : XG} {l : Launch} {p : Program} {e : Env} {R : Room} {s : State} {m : MethodId} {args : Array Value} {below : List Frame} {meth : Method} {c : Code} (C : XC G 570 598 p s m args c prog_14_method_54_code 5 R_Model) (hr : meth.sig.returnType = none) (hk : meth.locks = false) {d : Nat} (hd : 1 ≤ d + 1) (hR : xroom R (d + 1)) {p0 : Nat} {p1 : Int32} {p2 : Int32} (hp0 : xin 570 598 p0 (2, 290, 0)) {σ' : LH} : ∀ (n : Nat) (y4 : Int32) (σ : LH), s_Model_moves_12 p0 p1 p2 n y4 σ = some σ' → XJ G 570 598 p l e R s m args below meth c 5 (XQ G 570 598 below args s none σ') 0 0 12 [(0, .ref (G.2.2.1 + 570)), (1, .ref (G.2.2.1 + p0)), (2, .int p1), (3, .int p2), (4, .int y4)] [] σ := by
  intro n
  induction n with
  | zero => intro y4 σ h0; cases h0
  | succ n ih => intro y4 σ h0; exact bb_Model_moves_12 C hr hk hd hR hp0 ih h0
def s_Model_moves (p0 : Nat) (p1 : Int32) (p2 : Int32) (σ : LH) : Option (LH) :=
  if ib 49 290 then (
  if (σ.1 p0 (Int32.toNatClampNeg 49)) = 60 then (
   s_Model_moves_12 p0 p1 p2 FUEL 1 σ)
  else (
   s_Model_moves_50 p0 p1 p2 σ)) else none
theorem c_Model_moves {G : XG} {l : Launch} {d : Nat} (hd : 1 ≤ d) {p0 : Nat} {p1 : Int32} {p2 : Int32} (hp0 : xin 570 598 p0 (2, 290, 0)) {σ σ' : LH} (h0 : s_Model_moves p0 p1 p2 σ = some σ') : xM G 570 598 l y_Model_moves prog_14_method_54_code 5 none d [.ref (G.2.2.1 + 570), .ref (G.2.2.1 + p0), .int p1, .int p2] σ none σ' := by
  obtain ⟨d, rfl⟩ : ∃ q, d = q + 1 := ⟨d - 1, by omega⟩
  refine x_met R_Model rfl (by decide +kernel) (Nat.le_of_ble_eq_true rfl) fun p e s m below meth c C hr hk hR => ?_
  refine x_lv (lv' := [(0, .ref (G.2.2.1 + 570)), (1, .ref (G.2.2.1 + p0)), (2, .int p1), (3, .int p2)]) C [0, 1, 2, 3] rfl ?_
  generalize xrm (d + 1) = R at hR ⊢
  unfold s_Model_moves at h0
  refine x_aload_n C d_Model_moves_0 1 rfl ?_
  refine x_bipush (v := 49) C d_Model_moves_1 (by decide) ?_
  obtain ⟨g1, h0⟩ := xgo h0
  refine x_iald C hp0 (ib_in g1) d_Model_moves_3 ?_
  refine x_bipush (v := 60) C d_Model_moves_4 (by decide) ?_
  refine x_icmp_ne C 50 d_Model_moves_6 (by decide) (fun q2 => ?_) (fun q2 => ?_)
  · replace h0 := xif q2 h0
    exact x_lv C [0, 1, 2, 3] rfl (b_Model_moves_50 C hr hk hd hR hp0 h0)
  · replace h0 := xit q2 h0
    refine x_iconst (v := 1) C d_Model_moves_9 (by decide) ?_
    refine x_istore (lv' := [(4, .int 1), (0, .ref (G.2.2.1 + 570)), (1, .ref (G.2.2.1 + p0)), (2, .int p1), (3, .int p2)]) C d_Model_moves_10 (by decide) rfl ?_
    exact x_lv C [1, 2, 3, 4, 0] rfl (b_Model_moves_12 C hr hk hd hR hp0 FUEL _ _ h0)
-- LostPlacesModel.movesUp([I)V
theorem d_Model_movesUp_0 : decode prog_14_method_55_code 0 = .ok (.iconst 1, 1) := by decide +kernel
theorem d_Model_movesUp_1 : decode prog_14_method_55_code 1 = .ok (.istore_n 2, 1) := by decide +kernel
theorem d_Model_movesUp_2 : decode prog_14_method_55_code 2 = .ok (.iload_n 2, 1) := by decide +kernel
theorem d_Model_movesUp_3 : decode prog_14_method_55_code 3 = .ok (.ifCond .eq 102, 3) := by decide +kernel
theorem d_Model_movesUp_6 : decode prog_14_method_55_code 6 = .ok (.iconst (-1), 1) := by decide +kernel
theorem d_Model_movesUp_7 : decode prog_14_method_55_code 7 = .ok (.istore_n 3, 1) := by decide +kernel
theorem d_Model_movesUp_8 : decode prog_14_method_55_code 8 = .ok (.iconst 0, 1) := by decide +kernel
theorem d_Model_movesUp_9 : decode prog_14_method_55_code 9 = .ok (.istore 4, 2) := by decide +kernel
theorem d_Model_movesUp_11 : decode prog_14_method_55_code 11 = .ok (.iload 4, 2) := by decide +kernel
theorem d_Model_movesUp_13 : decode prog_14_method_55_code 13 = .ok (.aload_n 0, 1) := by decide +kernel
theorem d_Model_movesUp_14 : decode prog_14_method_55_code 14 = .ok (.getfield 302, 3) := by decide +kernel
theorem d_Model_movesUp_17 : decode prog_14_method_55_code 17 = .ok (.if_icmp .ge 58, 3) := by decide +kernel
theorem d_Model_movesUp_20 : decode prog_14_method_55_code 20 = .ok (.aload_n 0, 1) := by decide +kernel
theorem d_Model_movesUp_21 : decode prog_14_method_55_code 21 = .ok (.aload_n 1, 1) := by decide +kernel
theorem d_Model_movesUp_22 : decode prog_14_method_55_code 22 = .ok (.iload 4, 2) := by decide +kernel
theorem d_Model_movesUp_24 : decode prog_14_method_55_code 24 = .ok (.invokevirtual 353, 3) := by decide +kernel
theorem d_Model_movesUp_27 : decode prog_14_method_55_code 27 = .ok (.ifCond .eq 42, 3) := by decide +kernel
theorem d_Model_movesUp_30 : decode prog_14_method_55_code 30 = .ok (.iload_n 3, 1) := by decide +kernel
theorem d_Model_movesUp_31 : decode prog_14_method_55_code 31 = .ok (.iconst (-1), 1) := by decide +kernel
theorem d_Model_movesUp_32 : decode prog_14_method_55_code 32 = .ok (.if_icmp .eq 23, 3) := by decide +kernel
theorem d_Model_movesUp_35 : decode prog_14_method_55_code 35 = .ok (.aload_n 0, 1) := by decide +kernel
theorem d_Model_movesUp_36 : decode prog_14_method_55_code 36 = .ok (.getfield 37, 3) := by decide +kernel
theorem d_Model_movesUp_39 : decode prog_14_method_55_code 39 = .ok (.iconst 3, 1) := by decide +kernel
theorem d_Model_movesUp_40 : decode prog_14_method_55_code 40 = .ok (.iload 4, 2) := by decide +kernel
theorem d_Model_movesUp_42 : decode prog_14_method_55_code 42 = .ok (.imul, 1) := by decide +kernel
theorem d_Model_movesUp_43 : decode prog_14_method_55_code 43 = .ok (.iaload, 1) := by decide +kernel
theorem d_Model_movesUp_44 : decode prog_14_method_55_code 44 = .ok (.aload_n 0, 1) := by decide +kernel
theorem d_Model_movesUp_45 : decode prog_14_method_55_code 45 = .ok (.getfield 37, 3) := by decide +kernel
theorem d_Model_movesUp_48 : decode prog_14_method_55_code 48 = .ok (.iconst 3, 1) := by decide +kernel
theorem d_Model_movesUp_49 : decode prog_14_method_55_code 49 = .ok (.iload_n 3, 1) := by decide +kernel
theorem d_Model_movesUp_50 : decode prog_14_method_55_code 50 = .ok (.imul, 1) := by decide +kernel
theorem d_Model_movesUp_51 : decode prog_14_method_55_code 51 = .ok (.iaload, 1) := by decide +kernel
theorem d_Model_movesUp_52 : decode prog_14_method_55_code 52 = .ok (.if_icmp .le 17, 3) := by decide +kernel
theorem d_Model_movesUp_55 : decode prog_14_method_55_code 55 = .ok (.aload_n 0, 1) := by decide +kernel
theorem d_Model_movesUp_56 : decode prog_14_method_55_code 56 = .ok (.aload_n 1, 1) := by decide +kernel
theorem d_Model_movesUp_57 : decode prog_14_method_55_code 57 = .ok (.iload 4, 2) := by decide +kernel
theorem d_Model_movesUp_59 : decode prog_14_method_55_code 59 = .ok (.invokevirtual 377, 3) := by decide +kernel
theorem d_Model_movesUp_62 : decode prog_14_method_55_code 62 = .ok (.iconst (-1), 1) := by decide +kernel
theorem d_Model_movesUp_63 : decode prog_14_method_55_code 63 = .ok (.if_icmp .eq 6, 3) := by decide +kernel
theorem d_Model_movesUp_66 : decode prog_14_method_55_code 66 = .ok (.iload 4, 2) := by decide +kernel
theorem d_Model_movesUp_68 : decode prog_14_method_55_code 68 = .ok (.istore_n 3, 1) := by decide +kernel
theorem d_Model_movesUp_69 : decode prog_14_method_55_code 69 = .ok (.iinc 4 1, 3) := by decide +kernel
theorem d_Model_movesUp_72 : decode prog_14_method_55_code 72 = .ok (.goto (-61), 3) := by decide +kernel
theorem d_Model_movesUp_75 : decode prog_14_method_55_code 75 = .ok (.iload_n 3, 1) := by decide +kernel
theorem d_Model_movesUp_76 : decode prog_14_method_55_code 76 = .ok (.iconst (-1), 1) := by decide +kernel
theorem d_Model_movesUp_77 : decode prog_14_method_55_code 77 = .ok (.if_icmp .eq 7, 3) := by decide +kernel
theorem d_Model_movesUp_80 : decode prog_14_method_55_code 80 = .ok (.iconst 1, 1) := by decide +kernel
theorem d_Model_movesUp_81 : decode prog_14_method_55_code 81 = .ok (.goto 4, 3) := by decide +kernel
theorem d_Model_movesUp_84 : decode prog_14_method_55_code 84 = .ok (.iconst 0, 1) := by decide +kernel
theorem d_Model_movesUp_85 : decode prog_14_method_55_code 85 = .ok (.istore_n 2, 1) := by decide +kernel
theorem d_Model_movesUp_86 : decode prog_14_method_55_code 86 = .ok (.iload_n 2, 1) := by decide +kernel
theorem d_Model_movesUp_87 : decode prog_14_method_55_code 87 = .ok (.ifCond .eq 15, 3) := by decide +kernel
theorem d_Model_movesUp_90 : decode prog_14_method_55_code 90 = .ok (.aload_n 0, 1) := by decide +kernel
theorem d_Model_movesUp_91 : decode prog_14_method_55_code 91 = .ok (.aload_n 1, 1) := by decide +kernel
theorem d_Model_movesUp_92 : decode prog_14_method_55_code 92 = .ok (.aload_n 0, 1) := by decide +kernel
theorem d_Model_movesUp_93 : decode prog_14_method_55_code 93 = .ok (.aload_n 1, 1) := by decide +kernel
theorem d_Model_movesUp_94 : decode prog_14_method_55_code 94 = .ok (.iload_n 3, 1) := by decide +kernel
theorem d_Model_movesUp_95 : decode prog_14_method_55_code 95 = .ok (.invokevirtual 377, 3) := by decide +kernel
theorem d_Model_movesUp_98 : decode prog_14_method_55_code 98 = .ok (.iload_n 3, 1) := by decide +kernel
theorem d_Model_movesUp_99 : decode prog_14_method_55_code 99 = .ok (.invokevirtual 380, 3) := by decide +kernel
theorem d_Model_movesUp_102 : decode prog_14_method_55_code 102 = .ok (.goto (-100), 3) := by decide +kernel
theorem d_Model_movesUp_105 : decode prog_14_method_55_code 105 = .ok (.return_, 1) := by decide +kernel
def s_Model_movesUp_102 (p0 : Nat) (rec2 : Int32 → LH → Option (LH)) (y2 : Int32) (σ : LH) : Option (LH) :=
  rec2 y2 σ
theorem b_Model_movesUp_102 {G : XG} {l : Launch} {p : Program} {e : Env} {R : Room} {s : State} {m : MethodId} {args : Array Value} {below : List Frame} {meth : Method} {c : Code} (C : XC G 570 598 p s m args c prog_14_method_55_code 5 R_Model) (hr : meth.sig.returnType = none) (hk : meth.locks = false) {d : Nat} (hd : 121 ≤ d + 1) (hR : xroom R (d + 1)) {p0 : Nat} (hp0 : xin 570 598 p0 (2, 290, 0)) {rec2 : Int32 → LH → Option (LH)} {σ' : LH} (hrec2 : ∀ (y2 : Int32) (σ : LH), rec2 y2 σ = some σ' → XJ G 570 598 p l e R s m args below meth c 5 (XQ G 570 598 below args s none σ') 0 0 2 [(0, .ref (G.2.2.1 + 570)), (1, .ref (G.2.2.1 + p0)), (2, .int y2)] [] σ) {y2 : Int32} {σ : LH} (h0 : s_Model_movesUp_102 p0 rec2 y2 σ = some σ') : XJ G 570 598 p l e R s m args below meth c 5 (XQ G 570 598 below args s none σ') 0 0 102 [(0, .ref (G.2.2.1 + 570)), (1, .ref (G.2.2.1 + p0)), (2, .int y2)] [] σ := by
  replace h0 := (show _ = _ from h0)
  unfold s_Model_movesUp_102 at h0
  refine x_goto C 2 d_Model_movesUp_102 (by decide) ?_
  exact x_lv C [0, 1, 2] rfl (hrec2 _ _ h0)
def s_Model_movesUp_85 (p0 : Nat) (rec2 : Int32 → LH → Option (LH)) (y3 : Int32) (z0 : Int32) (σ : LH) : Option (LH) :=
  if z0 = 0 then (
   s_Model_movesUp_102 p0 rec2 z0 σ)
  else (
   xb2 (s_Model_moverTo p0 y3 σ) fun r6 σ7 =>
   xb1 (s_Model_moves p0 r6 y3 σ7) fun σ9 =>
   s_Model_movesUp_102 p0 rec2 z0 σ9)
theorem b_Model_movesUp_85 {G : XG} {l : Launch} {p : Program} {e : Env} {R : Room} {s : State} {m : MethodId} {args : Array Value} {below : List Frame} {meth : Method} {c : Code} (C : XC G 570 598 p s m args c prog_14_method_55_code 5 R_Model) (hr : meth.sig.returnType = none) (hk : meth.locks = false) {d : Nat} (hd : 121 ≤ d + 1) (hR : xroom R (d + 1)) {p0 : Nat} (hp0 : xin 570 598 p0 (2, 290, 0)) {rec2 : Int32 → LH → Option (LH)} {σ' : LH} (hrec2 : ∀ (y2 : Int32) (σ : LH), rec2 y2 σ = some σ' → XJ G 570 598 p l e R s m args below meth c 5 (XQ G 570 598 below args s none σ') 0 0 2 [(0, .ref (G.2.2.1 + 570)), (1, .ref (G.2.2.1 + p0)), (2, .int y2)] [] σ) {y3 : Int32} {z0 : Int32} {σ : LH} (h0 : s_Model_movesUp_85 p0 rec2 y3 z0 σ = some σ') : XJ G 570 598 p l e R s m args below meth c 5 (XQ G 570 598 below args s none σ') 0 0 85 [(0, .ref (G.2.2.1 + 570)), (1, .ref (G.2.2.1 + p0)), (3, .int y3)] [.int z0] σ := by
  replace h0 := (show _ = _ from h0)
  unfold s_Model_movesUp_85 at h0
  refine x_istore_n (lv' := [(2, .int z0), (0, .ref (G.2.2.1 + 570)), (1, .ref (G.2.2.1 + p0)), (3, .int y3)]) C d_Model_movesUp_85 rfl (by decide) rfl ?_
  refine x_iload_n C d_Model_movesUp_86 0 rfl ?_
  refine x_if_eq C 102 d_Model_movesUp_87 (by decide) (fun q4 => ?_) (fun q4 => ?_)
  · replace h0 := xit q4 h0
    exact x_lv C [1, 2, 0] rfl (b_Model_movesUp_102 C hr hk hd hR hp0 hrec2 h0)
  · replace h0 := xif q4 h0
    refine x_aload_n C d_Model_movesUp_90 1 rfl ?_
    refine x_aload_n C d_Model_movesUp_91 2 rfl ?_
    refine x_aload_n C d_Model_movesUp_92 1 rfl ?_
    refine x_aload_n C d_Model_movesUp_93 2 rfl ?_
    refine x_iload_n C d_Model_movesUp_94 3 rfl ?_
    obtain ⟨r6, σ7, k5, h0⟩ := xbind2 h0
    refine x_callVi C hR (c_Model_moverTo (d := d) (by omega) hp0 k5) cw_Model_377 k_570 rfl rfl rfl (Nat.le_of_ble_eq_true rfl) ⟨Nat.zero_le _, Nat.zero_le _⟩ d_Model_movesUp_95 ?_
    refine x_iload_n C d_Model_movesUp_98 3 rfl ?_
    obtain ⟨σ9, k8, h0⟩ := xbind1 h0
    refine x_callVv C hR (c_Model_moves (d := d) (by omega) hp0 k8) cw_Model_380 k_570 rfl rfl rfl (Nat.le_of_ble_eq_true rfl) ⟨Nat.zero_le _, Nat.zero_le _⟩ d_Model_movesUp_99 ?_
    exact x_lv C [1, 2, 0] rfl (b_Model_movesUp_102 C hr hk hd hR hp0 hrec2 h0)
def s_Model_movesUp_69 (p0 : Nat) (rec11 : Int32 → Int32 → LH → Option (LH)) (y3 : Int32) (y4 : Int32) (σ : LH) : Option (LH) :=
  xl ((y4 + 1) : Int32) fun x14 =>
  rec11 y3 x14 σ
theorem b_Model_movesUp_69 {G : XG} {l : Launch} {p : Program} {e : Env} {R : Room} {s : State} {m : MethodId} {args : Array Value} {below : List Frame} {meth : Method} {c : Code} (C : XC G 570 598 p s m args c prog_14_method_55_code 5 R_Model) (hr : meth.sig.returnType = none) (hk : meth.locks = false) {d : Nat} (hd : 121 ≤ d + 1) (hR : xroom R (d + 1)) {p0 : Nat} (hp0 : xin 570 598 p0 (2, 290, 0)) {rec11 : Int32 → Int32 → LH → Option (LH)} {σ' : LH} (hrec11 : ∀ (y3 : Int32) (y4 : Int32) (σ : LH), rec11 y3 y4 σ = some σ' → XJ G 570 598 p l e R s m args below meth c 5 (XQ G 570 598 below args s none σ') 0 0 11 [(0, .ref (G.2.2.1 + 570)), (1, .ref (G.2.2.1 + p0)), (3, .int y3), (4, .int y4)] [] σ) {y3 : Int32} {y4 : Int32} {σ : LH} (h0 : s_Model_movesUp_69 p0 rec11 y3 y4 σ = some σ') : XJ G 570 598 p l e R s m args below meth c 5 (XQ G 570 598 below args s none σ') 0 0 69 [(0, .ref (G.2.2.1 + 570)), (1, .ref (G.2.2.1 + p0)), (3, .int y3), (4, .int y4)] [] σ := by
  replace h0 := (show _ = _ from h0)
  unfold s_Model_movesUp_69 at h0
  obtain ⟨x14, ex14, h0⟩ := xlet h0
  refine x_iinc (lv' := [(4, .int x14), (0, .ref (G.2.2.1 + 570)), (1, .ref (G.2.2.1 + p0)), (3, .int y3)]) C d_Model_movesUp_69 3 rfl ex14 (by decide) rfl ?_
  refine x_goto C 11 d_Model_movesUp_72 (by decide) ?_
  exact x_lv C [1, 2, 3, 0] rfl (hrec11 _ _ _ h0)
def s_Model_movesUp_55 (p0 : Nat) (rec11 : Int32 → Int32 → LH → Option (LH)) (y3 : Int32) (y4 : Int32) (σ : LH) : Option (LH) :=
  xb2 (s_Model_moverTo p0 y4 σ) fun r17 σ18 =>
  if r17 = (-1) then (
   s_Model_movesUp_69 p0 rec11 y3 y4 σ18)
  else (
   s_Model_movesUp_69 p0 rec11 y4 y4 σ18)
theorem b_Model_movesUp_55 {G : XG} {l : Launch} {p : Program} {e : Env} {R : Room} {s : State} {m : MethodId} {args : Array Value} {below : List Frame} {meth : Method} {c : Code} (C : XC G 570 598 p s m args c prog_14_method_55_code 5 R_Model) (hr : meth.sig.returnType = none) (hk : meth.locks = false) {d : Nat} (hd : 121 ≤ d + 1) (hR : xroom R (d + 1)) {p0 : Nat} (hp0 : xin 570 598 p0 (2, 290, 0)) {rec11 : Int32 → Int32 → LH → Option (LH)} {σ' : LH} (hrec11 : ∀ (y3 : Int32) (y4 : Int32) (σ : LH), rec11 y3 y4 σ = some σ' → XJ G 570 598 p l e R s m args below meth c 5 (XQ G 570 598 below args s none σ') 0 0 11 [(0, .ref (G.2.2.1 + 570)), (1, .ref (G.2.2.1 + p0)), (3, .int y3), (4, .int y4)] [] σ) {y3 : Int32} {y4 : Int32} {σ : LH} (h0 : s_Model_movesUp_55 p0 rec11 y3 y4 σ = some σ') : XJ G 570 598 p l e R s m args below meth c 5 (XQ G 570 598 below args s none σ') 0 0 55 [(0, .ref (G.2.2.1 + 570)), (1, .ref (G.2.2.1 + p0)), (3, .int y3), (4, .int y4)] [] σ := by
  replace h0 := (show _ = _ from h0)
  unfold s_Model_movesUp_55 at h0
  refine x_aload_n C d_Model_movesUp_55 0 rfl ?_
  refine x_aload_n C d_Model_movesUp_56 1 rfl ?_
  refine x_iload C d_Model_movesUp_57 3 rfl ?_
  obtain ⟨r17, σ18, k16, h0⟩ := xbind2 h0
  refine x_callVi C hR (c_Model_moverTo (d := d) (by omega) hp0 k16) cw_Model_377 k_570 rfl rfl rfl (Nat.le_of_ble_eq_true rfl) ⟨Nat.zero_le _, Nat.zero_le _⟩ d_Model_movesUp_59 ?_
  refine x_iconst (v := (-1)) C d_Model_movesUp_62 (by decide) ?_
  refine x_icmp_eq C 69 d_Model_movesUp_63 (by decide) (fun q19 => ?_) (fun q19 => ?_)
  · replace h0 := xit q19 h0
    exact x_lv C [0, 1, 2, 3] rfl (b_Model_movesUp_69 C hr hk hd hR hp0 hrec11 h0)
  · replace h0 := xif q19 h0
    refine x_iload C d_Model_movesUp_66 3 rfl ?_
    refine x_istore_n (lv' := [(3, .int y4), (0, .ref (G.2.2.1 + 570)), (1, .ref (G.2.2.1 + p0)), (4, .int y4)]) C d_Model_movesUp_68 rfl (by decide) rfl ?_
    exact x_lv C [1, 2, 0, 3] rfl (b_Model_movesUp_69 C hr hk hd hR hp0 hrec11 h0)
def s_Model_movesUp_11_b (p0 : Nat) (rec2 : Int32 → LH → Option (LH)) (rec11 : Int32 → Int32 → LH → Option (LH)) (y3 : Int32) (y4 : Int32) (σ : LH) : Option (LH) :=
  if (σ.1 570 26) ≤ y4 then (
   if y3 = (-1) then (
    s_Model_movesUp_85 p0 rec2 y3 0 σ)
   else (
    s_Model_movesUp_85 p0 rec2 y3 1 σ))
  else (
   xb2 (s_Model_isFree p0 y4 σ) fun r11 σ12 =>
   if r11 = 0 then (
    s_Model_movesUp_69 p0 rec11 y3 y4 σ12)
   else (
    if y3 = (-1) then (
     s_Model_movesUp_55 p0 rec11 y3 y4 σ12)
    else (
     if ib (3 * y4) 24 then (
     if ib (3 * y3) 24 then (
     if (σ12.1 575 (Int32.toNatClampNeg (3 * y4))) ≤ (σ12.1 575 (Int32.toNatClampNeg (3 * y3))) then (
      s_Model_movesUp_69 p0 rec11 y3 y4 σ12)
     else (
      s_Model_movesUp_55 p0 rec11 y3 y4 σ12)) else none) else none)))
def s_Model_movesUp_11 (p0 : Nat) (rec2 : Int32 → LH → Option (LH)) : Nat → Int32 → Int32 → LH → Option (LH)
  | 0, _, _, _ => none
  | n + 1, y3, y4, σ => s_Model_movesUp_11_b p0 rec2 (s_Model_movesUp_11 p0 rec2 n) y3 y4 σ
theorem bb_Model_movesUp_11 {G : XG} {l : Launch} {p : Program} {e : Env} {R : Room} {s : State} {m : MethodId} {args : Array Value} {below : List Frame} {meth : Method} {c : Code} (C : XC G 570 598 p s m args c prog_14_method_55_code 5 R_Model) (hr : meth.sig.returnType = none) (hk : meth.locks = false) {d : Nat} (hd : 121 ≤ d + 1) (hR : xroom R (d + 1)) {p0 : Nat} (hp0 : xin 570 598 p0 (2, 290, 0)) {rec2 : Int32 → LH → Option (LH)} {rec11 : Int32 → Int32 → LH → Option (LH)} {σ' : LH} (hrec2 : ∀ (y2 : Int32) (σ : LH), rec2 y2 σ = some σ' → XJ G 570 598 p l e R s m args below meth c 5 (XQ G 570 598 below args s none σ') 0 0 2 [(0, .ref (G.2.2.1 + 570)), (1, .ref (G.2.2.1 + p0)), (2, .int y2)] [] σ) (hrec11 : ∀ (y3 : Int32) (y4 : Int32) (σ : LH), rec11 y3 y4 σ = some σ' → XJ G 570 598 p l e R s m args below meth c 5 (XQ G 570 598 below args s none σ') 0 0 11 [(0, .ref (G.2.2.1 + 570)), (1, .ref (G.2.2.1 + p0)), (3, .int y3), (4, .int y4)] [] σ) {y3 : Int32} {y4 : Int32} {σ : LH} (h0 : s_Model_movesUp_11_b p0 rec2 rec11 y3 y4 σ = some σ') : XJ G 570 598 p l e R s m args below meth c 5 (XQ G 570 598 below args s none σ') 0 0 11 [(0, .ref (G.2.2.1 + 570)), (1, .ref (G.2.2.1 + p0)), (3, .int y3), (4, .int y4)] [] σ := by
  replace h0 := (show _ = _ from h0)
  unfold s_Model_movesUp_11_b at h0
  refine x_iload C d_Model_movesUp_11 3 rfl ?_
  refine x_aload_n C d_Model_movesUp_13 0 rfl ?_
  refine x_getI (y := 0) C fg_Model_302 k_570 rfl d_Model_movesUp_14 ?_
  refine x_icmp_ge C 75 d_Model_movesUp_17 (by decide) (fun q2 => ?_) (fun q2 => ?_)
  · replace h0 := xit q2 h0
    refine x_iload_n C d_Model_movesUp_75 2 rfl ?_
    refine x_iconst (v := (-1)) C d_Model_movesUp_76 (by decide) ?_
    refine x_icmp_eq C 84 d_Model_movesUp_77 (by decide) (fun q3 => ?_) (fun q3 => ?_)
    · replace h0 := xit q3 h0
      refine x_iconst (v := 0) C d_Model_movesUp_84 (by decide) ?_
      exact x_lv C [0, 1, 2] rfl (b_Model_movesUp_85 C hr hk hd hR hp0 hrec2 h0)
    · replace h0 := xif q3 h0
      refine x_iconst (v := 1) C d_Model_movesUp_80 (by decide) ?_
      refine x_goto C 85 d_Model_movesUp_81 (by decide) ?_
      exact x_lv C [0, 1, 2] rfl (b_Model_movesUp_85 C hr hk hd hR hp0 hrec2 h0)
  · replace h0 := xif q2 h0
    refine x_aload_n C d_Model_movesUp_20 0 rfl ?_
    refine x_aload_n C d_Model_movesUp_21 1 rfl ?_
    refine x_iload C d_Model_movesUp_22 3 rfl ?_
    obtain ⟨r11, σ12, k10, h0⟩ := xbind2 h0
    refine x_callVi C hR (c_Model_isFree (d := d) (by omega) hp0 k10) cw_Model_353 k_570 rfl rfl rfl (Nat.le_of_ble_eq_true rfl) ⟨Nat.zero_le _, Nat.zero_le _⟩ d_Model_movesUp_24 ?_
    refine x_if_eq C 69 d_Model_movesUp_27 (by decide) (fun q13 => ?_) (fun q13 => ?_)
    · replace h0 := xit q13 h0
      exact x_lv C [0, 1, 2, 3] rfl (b_Model_movesUp_69 C hr hk hd hR hp0 hrec11 h0)
    · replace h0 := xif q13 h0
      refine x_iload_n C d_Model_movesUp_30 2 rfl ?_
      refine x_iconst (v := (-1)) C d_Model_movesUp_31 (by decide) ?_
      refine x_icmp_eq C 55 d_Model_movesUp_32 (by decide) (fun q15 => ?_) (fun q15 => ?_)
      · replace h0 := xit q15 h0
        exact x_lv C [0, 1, 2, 3] rfl (b_Model_movesUp_55 C hr hk hd hR hp0 hrec11 h0)
      · replace h0 := xif q15 h0
        refine x_aload_n C d_Model_movesUp_35 0 rfl ?_
        refine x_getA (y := 575) C fg_Model_37 k_570 rfl d_Model_movesUp_36 ?_
        refine x_iconst (v := 3) C d_Model_movesUp_39 (by decide) ?_
        refine x_iload C d_Model_movesUp_40 3 rfl ?_
        refine x_imul C d_Model_movesUp_42 ?_
        obtain ⟨g20, h0⟩ := xgo h0
        refine x_iald C k_575 (ib_in g20) d_Model_movesUp_43 ?_
        refine x_aload_n C d_Model_movesUp_44 0 rfl ?_
        refine x_getA (y := 575) C fg_Model_37 k_570 rfl d_Model_movesUp_45 ?_
        refine x_iconst (v := 3) C d_Model_movesUp_48 (by decide) ?_
        refine x_iload_n C d_Model_movesUp_49 2 rfl ?_
        refine x_imul C d_Model_movesUp_50 ?_
        obtain ⟨g21, h0⟩ := xgo h0
        refine x_iald C k_575 (ib_in g21) d_Model_movesUp_51 ?_
        refine x_icmp_le C 69 d_Model_movesUp_52 (by decide) (fun q22 => ?_) (fun q22 => ?_)
        · replace h0 := xit q22 h0
          exact x_lv C [0, 1, 2, 3] rfl (b_Model_movesUp_69 C hr hk hd hR hp0 hrec11 h0)
        · replace h0 := xif q22 h0
          exact x_lv C [0, 1, 2, 3] rfl (b_Model_movesUp_55 C hr hk hd hR hp0 hrec11 h0)
theorem b_Model_movesUp_11 {G : XG} {l : Launch} {p : Program} {e : Env} {R : Room} {s : State} {m : MethodId} {args : Array Value} {below : List Frame} {meth : Method} {c : Code} (C : XC G 570 598 p s m args c prog_14_method_55_code 5 R_Model) (hr : meth.sig.returnType = none) (hk : meth.locks = false) {d : Nat} (hd : 121 ≤ d + 1) (hR : xroom R (d + 1)) {p0 : Nat} (hp0 : xin 570 598 p0 (2, 290, 0)) {rec2 : Int32 → LH → Option (LH)} {σ' : LH} (hrec2 : ∀ (y2 : Int32) (σ : LH), rec2 y2 σ = some σ' → XJ G 570 598 p l e R s m args below meth c 5 (XQ G 570 598 below args s none σ') 0 0 2 [(0, .ref (G.2.2.1 + 570)), (1, .ref (G.2.2.1 + p0)), (2, .int y2)] [] σ) : ∀ (n : Nat) (y3 : Int32) (y4 : Int32) (σ : LH), s_Model_movesUp_11 p0 rec2 n y3 y4 σ = some σ' → XJ G 570 598 p l e R s m args below meth c 5 (XQ G 570 598 below args s none σ') 0 0 11 [(0, .ref (G.2.2.1 + 570)), (1, .ref (G.2.2.1 + p0)), (3, .int y3), (4, .int y4)] [] σ := by
  intro n
  induction n with
  | zero => intro y3 y4 σ h0; cases h0
  | succ n ih => intro y3 y4 σ h0; exact bb_Model_movesUp_11 C hr hk hd hR hp0 hrec2 ih h0
def s_Model_movesUp_2_b (p0 : Nat) (rec2 : Int32 → LH → Option (LH)) (y2 : Int32) (σ : LH) : Option (LH) :=
  if y2 = 0 then (
   some σ)
  else (
   s_Model_movesUp_11 p0 rec2 FUEL (-1) 0 σ)
def s_Model_movesUp_2 (p0 : Nat) : Nat → Int32 → LH → Option (LH)
  | 0, _, _ => none
  | n + 1, y2, σ => s_Model_movesUp_2_b p0 (s_Model_movesUp_2 p0 n) y2 σ
theorem bb_Model_movesUp_2 {G : XG} {l : Launch} {p : Program} {e : Env} {R : Room} {s : State} {m : MethodId} {args : Array Value} {below : List Frame} {meth : Method} {c : Code} (C : XC G 570 598 p s m args c prog_14_method_55_code 5 R_Model) (hr : meth.sig.returnType = none) (hk : meth.locks = false) {d : Nat} (hd : 121 ≤ d + 1) (hR : xroom R (d + 1)) {p0 : Nat} (hp0 : xin 570 598 p0 (2, 290, 0)) {rec2 : Int32 → LH → Option (LH)} {σ' : LH} (hrec2 : ∀ (y2 : Int32) (σ : LH), rec2 y2 σ = some σ' → XJ G 570 598 p l e R s m args below meth c 5 (XQ G 570 598 below args s none σ') 0 0 2 [(0, .ref (G.2.2.1 + 570)), (1, .ref (G.2.2.1 + p0)), (2, .int y2)] [] σ) {y2 : Int32} {σ : LH} (h0 : s_Model_movesUp_2_b p0 rec2 y2 σ = some σ') : XJ G 570 598 p l e R s m args below meth c 5 (XQ G 570 598 below args s none σ') 0 0 2 [(0, .ref (G.2.2.1 + 570)), (1, .ref (G.2.2.1 + p0)), (2, .int y2)] [] σ := by
  replace h0 := (show _ = _ from h0)
  unfold s_Model_movesUp_2_b at h0
  refine x_iload_n C d_Model_movesUp_2 2 rfl ?_
  refine x_if_eq C 105 d_Model_movesUp_3 (by decide) (fun q1 => ?_) (fun q1 => ?_)
  · replace h0 := xit q1 h0
    exact x_vret C hr hk h0 d_Model_movesUp_105
  · replace h0 := xif q1 h0
    refine x_iconst (v := (-1)) C d_Model_movesUp_6 (by decide) ?_
    refine x_istore_n (lv' := [(3, .int (-1)), (0, .ref (G.2.2.1 + 570)), (1, .ref (G.2.2.1 + p0)), (2, .int y2)]) C d_Model_movesUp_7 rfl (by decide) rfl ?_
    refine x_iconst (v := 0) C d_Model_movesUp_8 (by decide) ?_
    refine x_istore (lv' := [(4, .int 0), (3, .int (-1)), (0, .ref (G.2.2.1 + 570)), (1, .ref (G.2.2.1 + p0)), (2, .int y2)]) C d_Model_movesUp_9 (by decide) rfl ?_
    exact x_lv C [2, 3, 1, 0] rfl (b_Model_movesUp_11 C hr hk hd hR hp0 hrec2 FUEL _ _ _ h0)
theorem b_Model_movesUp_2 {G : XG} {l : Launch} {p : Program} {e : Env} {R : Room} {s : State} {m : MethodId} {args : Array Value} {below : List Frame} {meth : Method} {c : Code} (C : XC G 570 598 p s m args c prog_14_method_55_code 5 R_Model) (hr : meth.sig.returnType = none) (hk : meth.locks = false) {d : Nat} (hd : 121 ≤ d + 1) (hR : xroom R (d + 1)) {p0 : Nat} (hp0 : xin 570 598 p0 (2, 290, 0)) {σ' : LH} : ∀ (n : Nat) (y2 : Int32) (σ : LH), s_Model_movesUp_2 p0 n y2 σ = some σ' → XJ G 570 598 p l e R s m args below meth c 5 (XQ G 570 598 below args s none σ') 0 0 2 [(0, .ref (G.2.2.1 + 570)), (1, .ref (G.2.2.1 + p0)), (2, .int y2)] [] σ := by
  intro n
  induction n with
  | zero => intro y2 σ h0; cases h0
  | succ n ih => intro y2 σ h0; exact bb_Model_movesUp_2 C hr hk hd hR hp0 ih h0
def s_Model_movesUp (p0 : Nat) (σ : LH) : Option (LH) :=
  s_Model_movesUp_2 p0 FUEL 1 σ
theorem c_Model_movesUp {G : XG} {l : Launch} {d : Nat} (hd : 121 ≤ d) {p0 : Nat} (hp0 : xin 570 598 p0 (2, 290, 0)) {σ σ' : LH} (h0 : s_Model_movesUp p0 σ = some σ') : xM G 570 598 l y_Model_movesUp prog_14_method_55_code 5 none d [.ref (G.2.2.1 + 570), .ref (G.2.2.1 + p0)] σ none σ' := by
  obtain ⟨d, rfl⟩ : ∃ q, d = q + 1 := ⟨d - 1, by omega⟩
  refine x_met R_Model rfl (by decide +kernel) (Nat.le_of_ble_eq_true rfl) fun p e s m below meth c C hr hk hR => ?_
  refine x_lv (lv' := [(0, .ref (G.2.2.1 + 570)), (1, .ref (G.2.2.1 + p0))]) C [0, 1] rfl ?_
  generalize xrm (d + 1) = R at hR ⊢
  unfold s_Model_movesUp at h0
  refine x_iconst (v := 1) C d_Model_movesUp_0 (by decide) ?_
  refine x_istore_n (lv' := [(2, .int 1), (0, .ref (G.2.2.1 + 570)), (1, .ref (G.2.2.1 + p0))]) C d_Model_movesUp_1 rfl (by decide) rfl ?_
  exact x_lv C [1, 2, 0] rfl (b_Model_movesUp_2 C hr hk hd hR hp0 FUEL _ _ h0)
-- LostPlacesModel.backs([I)V
theorem d_Model_backs_0 : decode prog_14_method_56_code 0 = .ok (.bipush 9, 2) := by decide +kernel
theorem d_Model_backs_2 : decode prog_14_method_56_code 2 = .ok (.istore_n 2, 1) := by decide +kernel
theorem d_Model_backs_3 : decode prog_14_method_56_code 3 = .ok (.iload_n 2, 1) := by decide +kernel
theorem d_Model_backs_4 : decode prog_14_method_56_code 4 = .ok (.ifCond .lt 67, 3) := by decide +kernel
theorem d_Model_backs_7 : decode prog_14_method_56_code 7 = .ok (.iconst 0, 1) := by decide +kernel
theorem d_Model_backs_8 : decode prog_14_method_56_code 8 = .ok (.istore_n 3, 1) := by decide +kernel
theorem d_Model_backs_9 : decode prog_14_method_56_code 9 = .ok (.iload_n 3, 1) := by decide +kernel
theorem d_Model_backs_10 : decode prog_14_method_56_code 10 = .ok (.aload_n 0, 1) := by decide +kernel
theorem d_Model_backs_11 : decode prog_14_method_56_code 11 = .ok (.getfield 305, 3) := by decide +kernel
theorem d_Model_backs_14 : decode prog_14_method_56_code 14 = .ok (.if_icmp .ge 51, 3) := by decide +kernel
theorem d_Model_backs_17 : decode prog_14_method_56_code 17 = .ok (.aload_n 1, 1) := by decide +kernel
theorem d_Model_backs_18 : decode prog_14_method_56_code 18 = .ok (.iload_n 3, 1) := by decide +kernel
theorem d_Model_backs_19 : decode prog_14_method_56_code 19 = .ok (.invokestatic 361, 3) := by decide +kernel
theorem d_Model_backs_22 : decode prog_14_method_56_code 22 = .ok (.ifCond .ne 37, 3) := by decide +kernel
theorem d_Model_backs_25 : decode prog_14_method_56_code 25 = .ok (.aload_n 1, 1) := by decide +kernel
theorem d_Model_backs_26 : decode prog_14_method_56_code 26 = .ok (.iconst 4, 1) := by decide +kernel
theorem d_Model_backs_27 : decode prog_14_method_56_code 27 = .ok (.iload_n 3, 1) := by decide +kernel
theorem d_Model_backs_28 : decode prog_14_method_56_code 28 = .ok (.imul, 1) := by decide +kernel
theorem d_Model_backs_29 : decode prog_14_method_56_code 29 = .ok (.iconst 1, 1) := by decide +kernel
theorem d_Model_backs_30 : decode prog_14_method_56_code 30 = .ok (.iadd, 1) := by decide +kernel
theorem d_Model_backs_31 : decode prog_14_method_56_code 31 = .ok (.iaload, 1) := by decide +kernel
theorem d_Model_backs_32 : decode prog_14_method_56_code 32 = .ok (.aload_n 1, 1) := by decide +kernel
theorem d_Model_backs_33 : decode prog_14_method_56_code 33 = .ok (.bipush 48, 2) := by decide +kernel
theorem d_Model_backs_35 : decode prog_14_method_56_code 35 = .ok (.iaload, 1) := by decide +kernel
theorem d_Model_backs_36 : decode prog_14_method_56_code 36 = .ok (.if_icmp .ne 23, 3) := by decide +kernel
theorem d_Model_backs_39 : decode prog_14_method_56_code 39 = .ok (.aload_n 0, 1) := by decide +kernel
theorem d_Model_backs_40 : decode prog_14_method_56_code 40 = .ok (.getfield 43, 3) := by decide +kernel
theorem d_Model_backs_43 : decode prog_14_method_56_code 43 = .ok (.iconst 4, 1) := by decide +kernel
theorem d_Model_backs_44 : decode prog_14_method_56_code 44 = .ok (.iload_n 3, 1) := by decide +kernel
theorem d_Model_backs_45 : decode prog_14_method_56_code 45 = .ok (.imul, 1) := by decide +kernel
theorem d_Model_backs_46 : decode prog_14_method_56_code 46 = .ok (.iconst 1, 1) := by decide +kernel
theorem d_Model_backs_47 : decode prog_14_method_56_code 47 = .ok (.iadd, 1) := by decide +kernel
theorem d_Model_backs_48 : decode prog_14_method_56_code 48 = .ok (.iaload, 1) := by decide +kernel
theorem d_Model_backs_49 : decode prog_14_method_56_code 49 = .ok (.iload_n 2, 1) := by decide +kernel
theorem d_Model_backs_50 : decode prog_14_method_56_code 50 = .ok (.if_icmp .ne 9, 3) := by decide +kernel
theorem d_Model_backs_53 : decode prog_14_method_56_code 53 = .ok (.aload_n 0, 1) := by decide +kernel
theorem d_Model_backs_54 : decode prog_14_method_56_code 54 = .ok (.aload_n 1, 1) := by decide +kernel
theorem d_Model_backs_55 : decode prog_14_method_56_code 55 = .ok (.iload_n 3, 1) := by decide +kernel
theorem d_Model_backs_56 : decode prog_14_method_56_code 56 = .ok (.invokevirtual 384, 3) := by decide +kernel
theorem d_Model_backs_59 : decode prog_14_method_56_code 59 = .ok (.iinc 3 1, 3) := by decide +kernel
theorem d_Model_backs_62 : decode prog_14_method_56_code 62 = .ok (.goto (-53), 3) := by decide +kernel
theorem d_Model_backs_65 : decode prog_14_method_56_code 65 = .ok (.iinc 2 (-1), 3) := by decide +kernel
theorem d_Model_backs_68 : decode prog_14_method_56_code 68 = .ok (.goto (-65), 3) := by decide +kernel
theorem d_Model_backs_71 : decode prog_14_method_56_code 71 = .ok (.return_, 1) := by decide +kernel
def s_Model_backs_59 (p0 : Nat) (rec9 : Int32 → Int32 → LH → Option (LH)) (y2 : Int32) (y3 : Int32) (σ : LH) : Option (LH) :=
  xl ((y3 + 1) : Int32) fun x15 =>
  rec9 y2 x15 σ
theorem b_Model_backs_59 {G : XG} {l : Launch} {p : Program} {e : Env} {R : Room} {s : State} {m : MethodId} {args : Array Value} {below : List Frame} {meth : Method} {c : Code} (C : XC G 570 598 p s m args c prog_14_method_56_code 4 R_Model) (hr : meth.sig.returnType = none) (hk : meth.locks = false) {d : Nat} (hd : 120 ≤ d + 1) (hR : xroom R (d + 1)) {p0 : Nat} (hp0 : xin 570 598 p0 (2, 290, 0)) {rec9 : Int32 → Int32 → LH → Option (LH)} {σ' : LH} (hrec9 : ∀ (y2 : Int32) (y3 : Int32) (σ : LH), rec9 y2 y3 σ = some σ' → XJ G 570 598 p l e R s m args below meth c 4 (XQ G 570 598 below args s none σ') 0 0 9 [(0, .ref (G.2.2.1 + 570)), (1, .ref (G.2.2.1 + p0)), (2, .int y2), (3, .int y3)] [] σ) {y2 : Int32} {y3 : Int32} {σ : LH} (h0 : s_Model_backs_59 p0 rec9 y2 y3 σ = some σ') : XJ G 570 598 p l e R s m args below meth c 4 (XQ G 570 598 below args s none σ') 0 0 59 [(0, .ref (G.2.2.1 + 570)), (1, .ref (G.2.2.1 + p0)), (2, .int y2), (3, .int y3)] [] σ := by
  replace h0 := (show _ = _ from h0)
  unfold s_Model_backs_59 at h0
  obtain ⟨x15, ex15, h0⟩ := xlet h0
  refine x_iinc (lv' := [(3, .int x15), (0, .ref (G.2.2.1 + 570)), (1, .ref (G.2.2.1 + p0)), (2, .int y2)]) C d_Model_backs_59 3 rfl ex15 (by decide) rfl ?_
  refine x_goto C 9 d_Model_backs_62 (by decide) ?_
  exact x_lv C [1, 2, 3, 0] rfl (hrec9 _ _ _ h0)
def s_Model_backs_9_b (p0 : Nat) (rec3 : Int32 → LH → Option (LH)) (rec9 : Int32 → Int32 → LH → Option (LH)) (y2 : Int32) (y3 : Int32) (σ : LH) : Option (LH) :=
  if (σ.1 570 27) ≤ y3 then (
   xl ((y2 + (-1)) : Int32) fun x3 =>
   rec3 x3 σ)
  else (
   xb2 (s_Model_isHere p0 y3 σ) fun r5 σ6 =>
   if r5 = 0 then (
    if ib ((4 * y3) + 1) 290 then (
    if ib 48 290 then (
    if (σ6.1 p0 (Int32.toNatClampNeg ((4 * y3) + 1))) = (σ6.1 p0 (Int32.toNatClampNeg 48)) then (
     if ib ((4 * y3) + 1) 32 then (
     if (σ6.1 577 (Int32.toNatClampNeg ((4 * y3) + 1))) = y2 then (
      xb1 (s_Model_comesBack p0 y3 σ6) fun σ14 =>
      s_Model_backs_59 p0 rec9 y2 y3 σ14)
     else (
      s_Model_backs_59 p0 rec9 y2 y3 σ6)) else none)
    else (
     s_Model_backs_59 p0 rec9 y2 y3 σ6)) else none) else none)
   else (
    s_Model_backs_59 p0 rec9 y2 y3 σ6))
def s_Model_backs_9 (p0 : Nat) (rec3 : Int32 → LH → Option (LH)) : Nat → Int32 → Int32 → LH → Option (LH)
  | 0, _, _, _ => none
  | n + 1, y2, y3, σ => s_Model_backs_9_b p0 rec3 (s_Model_backs_9 p0 rec3 n) y2 y3 σ
theorem bb_Model_backs_9 {G : XG} {l : Launch} {p : Program} {e : Env} {R : Room} {s : State} {m : MethodId} {args : Array Value} {below : List Frame} {meth : Method} {c : Code} (C : XC G 570 598 p s m args c prog_14_method_56_code 4 R_Model) (hr : meth.sig.returnType = none) (hk : meth.locks = false) {d : Nat} (hd : 120 ≤ d + 1) (hR : xroom R (d + 1)) {p0 : Nat} (hp0 : xin 570 598 p0 (2, 290, 0)) {rec3 : Int32 → LH → Option (LH)} {rec9 : Int32 → Int32 → LH → Option (LH)} {σ' : LH} (hrec3 : ∀ (y2 : Int32) (σ : LH), rec3 y2 σ = some σ' → XJ G 570 598 p l e R s m args below meth c 4 (XQ G 570 598 below args s none σ') 0 0 3 [(0, .ref (G.2.2.1 + 570)), (1, .ref (G.2.2.1 + p0)), (2, .int y2)] [] σ) (hrec9 : ∀ (y2 : Int32) (y3 : Int32) (σ : LH), rec9 y2 y3 σ = some σ' → XJ G 570 598 p l e R s m args below meth c 4 (XQ G 570 598 below args s none σ') 0 0 9 [(0, .ref (G.2.2.1 + 570)), (1, .ref (G.2.2.1 + p0)), (2, .int y2), (3, .int y3)] [] σ) {y2 : Int32} {y3 : Int32} {σ : LH} (h0 : s_Model_backs_9_b p0 rec3 rec9 y2 y3 σ = some σ') : XJ G 570 598 p l e R s m args below meth c 4 (XQ G 570 598 below args s none σ') 0 0 9 [(0, .ref (G.2.2.1 + 570)), (1, .ref (G.2.2.1 + p0)), (2, .int y2), (3, .int y3)] [] σ := by
  replace h0 := (show _ = _ from h0)
  unfold s_Model_backs_9_b at h0
  refine x_iload_n C d_Model_backs_9 3 rfl ?_
  refine x_aload_n C d_Model_backs_10 0 rfl ?_
  refine x_getI (y := 0) C fg_Model_305 k_570 rfl d_Model_backs_11 ?_
  refine x_icmp_ge C 65 d_Model_backs_14 (by decide) (fun q2 => ?_) (fun q2 => ?_)
  · replace h0 := xit q2 h0
    obtain ⟨x3, ex3, h0⟩ := xlet h0
    refine x_iinc (lv' := [(2, .int x3), (0, .ref (G.2.2.1 + 570)), (1, .ref (G.2.2.1 + p0)), (3, .int y3)]) C d_Model_backs_65 2 rfl ex3 (by decide) rfl ?_
    refine x_goto C 3 d_Model_backs_68 (by decide) ?_
    exact x_lv C [1, 2, 0] rfl (hrec3 _ _ h0)
  · replace h0 := xif q2 h0
    refine x_aload_n C d_Model_backs_17 1 rfl ?_
    refine x_iload_n C d_Model_backs_18 3 rfl ?_
    obtain ⟨r5, σ6, k4, h0⟩ := xbind2 h0
    refine x_callSi C hR (c_Model_isHere (d := d) (by omega) hp0 k4) cw_Model_361 w_1905 rfl rfl (Nat.le_of_ble_eq_true rfl) ⟨Nat.zero_le _, Nat.zero_le _⟩ d_Model_backs_19 ?_
    refine x_if_ne C 59 d_Model_backs_22 (by decide) (fun q7 => ?_) (fun q7 => ?_)
    · replace h0 := xif q7 h0
      exact x_lv C [0, 1, 2, 3] rfl (b_Model_backs_59 C hr hk hd hR hp0 hrec9 h0)
    · replace h0 := xit q7 h0
      refine x_aload_n C d_Model_backs_25 1 rfl ?_
      refine x_iconst (v := 4) C d_Model_backs_26 (by decide) ?_
      refine x_iload_n C d_Model_backs_27 3 rfl ?_
      refine x_imul C d_Model_backs_28 ?_
      refine x_iconst (v := 1) C d_Model_backs_29 (by decide) ?_
      refine x_iadd C d_Model_backs_30 ?_
      obtain ⟨g8, h0⟩ := xgo h0
      refine x_iald C hp0 (ib_in g8) d_Model_backs_31 ?_
      refine x_aload_n C d_Model_backs_32 1 rfl ?_
      refine x_bipush (v := 48) C d_Model_backs_33 (by decide) ?_
      obtain ⟨g9, h0⟩ := xgo h0
      refine x_iald C hp0 (ib_in g9) d_Model_backs_35 ?_
      refine x_icmp_ne C 59 d_Model_backs_36 (by decide) (fun q10 => ?_) (fun q10 => ?_)
      · replace h0 := xif q10 h0
        exact x_lv C [0, 1, 2, 3] rfl (b_Model_backs_59 C hr hk hd hR hp0 hrec9 h0)
      · replace h0 := xit q10 h0
        refine x_aload_n C d_Model_backs_39 0 rfl ?_
        refine x_getA (y := 577) C fg_Model_43 k_570 rfl d_Model_backs_40 ?_
        refine x_iconst (v := 4) C d_Model_backs_43 (by decide) ?_
        refine x_iload_n C d_Model_backs_44 3 rfl ?_
        refine x_imul C d_Model_backs_45 ?_
        refine x_iconst (v := 1) C d_Model_backs_46 (by decide) ?_
        refine x_iadd C d_Model_backs_47 ?_
        obtain ⟨g11, h0⟩ := xgo h0
        refine x_iald C k_577 (ib_in g11) d_Model_backs_48 ?_
        refine x_iload_n C d_Model_backs_49 2 rfl ?_
        refine x_icmp_ne C 59 d_Model_backs_50 (by decide) (fun q12 => ?_) (fun q12 => ?_)
        · replace h0 := xif q12 h0
          exact x_lv C [0, 1, 2, 3] rfl (b_Model_backs_59 C hr hk hd hR hp0 hrec9 h0)
        · replace h0 := xit q12 h0
          refine x_aload_n C d_Model_backs_53 0 rfl ?_
          refine x_aload_n C d_Model_backs_54 1 rfl ?_
          refine x_iload_n C d_Model_backs_55 3 rfl ?_
          obtain ⟨σ14, k13, h0⟩ := xbind1 h0
          refine x_callVv C hR (c_Model_comesBack (d := d) (by omega) hp0 k13) cw_Model_384 k_570 rfl rfl rfl (Nat.le_of_ble_eq_true rfl) ⟨Nat.zero_le _, Nat.zero_le _⟩ d_Model_backs_56 ?_
          exact x_lv C [0, 1, 2, 3] rfl (b_Model_backs_59 C hr hk hd hR hp0 hrec9 h0)
theorem b_Model_backs_9 {G : XG} {l : Launch} {p : Program} {e : Env} {R : Room} {s : State} {m : MethodId} {args : Array Value} {below : List Frame} {meth : Method} {c : Code} (C : XC G 570 598 p s m args c prog_14_method_56_code 4 R_Model) (hr : meth.sig.returnType = none) (hk : meth.locks = false) {d : Nat} (hd : 120 ≤ d + 1) (hR : xroom R (d + 1)) {p0 : Nat} (hp0 : xin 570 598 p0 (2, 290, 0)) {rec3 : Int32 → LH → Option (LH)} {σ' : LH} (hrec3 : ∀ (y2 : Int32) (σ : LH), rec3 y2 σ = some σ' → XJ G 570 598 p l e R s m args below meth c 4 (XQ G 570 598 below args s none σ') 0 0 3 [(0, .ref (G.2.2.1 + 570)), (1, .ref (G.2.2.1 + p0)), (2, .int y2)] [] σ) : ∀ (n : Nat) (y2 : Int32) (y3 : Int32) (σ : LH), s_Model_backs_9 p0 rec3 n y2 y3 σ = some σ' → XJ G 570 598 p l e R s m args below meth c 4 (XQ G 570 598 below args s none σ') 0 0 9 [(0, .ref (G.2.2.1 + 570)), (1, .ref (G.2.2.1 + p0)), (2, .int y2), (3, .int y3)] [] σ := by
  intro n
  induction n with
  | zero => intro y2 y3 σ h0; cases h0
  | succ n ih => intro y2 y3 σ h0; exact bb_Model_backs_9 C hr hk hd hR hp0 hrec3 ih h0
def s_Model_backs_3_b (p0 : Nat) (rec3 : Int32 → LH → Option (LH)) (y2 : Int32) (σ : LH) : Option (LH) :=
  if y2 < 0 then (
   some σ)
  else (
   s_Model_backs_9 p0 rec3 FUEL y2 0 σ)
def s_Model_backs_3 (p0 : Nat) : Nat → Int32 → LH → Option (LH)
  | 0, _, _ => none
  | n + 1, y2, σ => s_Model_backs_3_b p0 (s_Model_backs_3 p0 n) y2 σ
theorem bb_Model_backs_3 {G : XG} {l : Launch} {p : Program} {e : Env} {R : Room} {s : State} {m : MethodId} {args : Array Value} {below : List Frame} {meth : Method} {c : Code} (C : XC G 570 598 p s m args c prog_14_method_56_code 4 R_Model) (hr : meth.sig.returnType = none) (hk : meth.locks = false) {d : Nat} (hd : 120 ≤ d + 1) (hR : xroom R (d + 1)) {p0 : Nat} (hp0 : xin 570 598 p0 (2, 290, 0)) {rec3 : Int32 → LH → Option (LH)} {σ' : LH} (hrec3 : ∀ (y2 : Int32) (σ : LH), rec3 y2 σ = some σ' → XJ G 570 598 p l e R s m args below meth c 4 (XQ G 570 598 below args s none σ') 0 0 3 [(0, .ref (G.2.2.1 + 570)), (1, .ref (G.2.2.1 + p0)), (2, .int y2)] [] σ) {y2 : Int32} {σ : LH} (h0 : s_Model_backs_3_b p0 rec3 y2 σ = some σ') : XJ G 570 598 p l e R s m args below meth c 4 (XQ G 570 598 below args s none σ') 0 0 3 [(0, .ref (G.2.2.1 + 570)), (1, .ref (G.2.2.1 + p0)), (2, .int y2)] [] σ := by
  replace h0 := (show _ = _ from h0)
  unfold s_Model_backs_3_b at h0
  refine x_iload_n C d_Model_backs_3 2 rfl ?_
  refine x_if_lt C 71 d_Model_backs_4 (by decide) (fun q1 => ?_) (fun q1 => ?_)
  · replace h0 := xit q1 h0
    exact x_vret C hr hk h0 d_Model_backs_71
  · replace h0 := xif q1 h0
    refine x_iconst (v := 0) C d_Model_backs_7 (by decide) ?_
    refine x_istore_n (lv' := [(3, .int 0), (0, .ref (G.2.2.1 + 570)), (1, .ref (G.2.2.1 + p0)), (2, .int y2)]) C d_Model_backs_8 rfl (by decide) rfl ?_
    exact x_lv C [1, 2, 3, 0] rfl (b_Model_backs_9 C hr hk hd hR hp0 hrec3 FUEL _ _ _ h0)
theorem b_Model_backs_3 {G : XG} {l : Launch} {p : Program} {e : Env} {R : Room} {s : State} {m : MethodId} {args : Array Value} {below : List Frame} {meth : Method} {c : Code} (C : XC G 570 598 p s m args c prog_14_method_56_code 4 R_Model) (hr : meth.sig.returnType = none) (hk : meth.locks = false) {d : Nat} (hd : 120 ≤ d + 1) (hR : xroom R (d + 1)) {p0 : Nat} (hp0 : xin 570 598 p0 (2, 290, 0)) {σ' : LH} : ∀ (n : Nat) (y2 : Int32) (σ : LH), s_Model_backs_3 p0 n y2 σ = some σ' → XJ G 570 598 p l e R s m args below meth c 4 (XQ G 570 598 below args s none σ') 0 0 3 [(0, .ref (G.2.2.1 + 570)), (1, .ref (G.2.2.1 + p0)), (2, .int y2)] [] σ := by
  intro n
  induction n with
  | zero => intro y2 σ h0; cases h0
  | succ n ih => intro y2 σ h0; exact bb_Model_backs_3 C hr hk hd hR hp0 ih h0
def s_Model_backs (p0 : Nat) (σ : LH) : Option (LH) :=
  s_Model_backs_3 p0 FUEL 9 σ
theorem c_Model_backs {G : XG} {l : Launch} {d : Nat} (hd : 120 ≤ d) {p0 : Nat} (hp0 : xin 570 598 p0 (2, 290, 0)) {σ σ' : LH} (h0 : s_Model_backs p0 σ = some σ') : xM G 570 598 l y_Model_backs prog_14_method_56_code 4 none d [.ref (G.2.2.1 + 570), .ref (G.2.2.1 + p0)] σ none σ' := by
  obtain ⟨d, rfl⟩ : ∃ q, d = q + 1 := ⟨d - 1, by omega⟩
  refine x_met R_Model rfl (by decide +kernel) (Nat.le_of_ble_eq_true rfl) fun p e s m below meth c C hr hk hR => ?_
  refine x_lv (lv' := [(0, .ref (G.2.2.1 + 570)), (1, .ref (G.2.2.1 + p0))]) C [0, 1] rfl ?_
  generalize xrm (d + 1) = R at hR ⊢
  unfold s_Model_backs at h0
  refine x_bipush (v := 9) C d_Model_backs_0 (by decide) ?_
  refine x_istore_n (lv' := [(2, .int 9), (0, .ref (G.2.2.1 + 570)), (1, .ref (G.2.2.1 + p0))]) C d_Model_backs_2 rfl (by decide) rfl ?_
  exact x_lv C [1, 2, 0] rfl (b_Model_backs_3 C hr hk hd hR hp0 FUEL _ _ h0)
-- LostPlacesModel.halfMinute([I)V
theorem d_Model_halfMinute_0 : decode prog_14_method_57_code 0 = .ok (.aload_n 1, 1) := by decide +kernel
theorem d_Model_halfMinute_1 : decode prog_14_method_57_code 1 = .ok (.bipush 48, 2) := by decide +kernel
theorem d_Model_halfMinute_3 : decode prog_14_method_57_code 3 = .ok (.iaload, 1) := by decide +kernel
theorem d_Model_halfMinute_4 : decode prog_14_method_57_code 4 = .ok (.istore_n 2, 1) := by decide +kernel
theorem d_Model_halfMinute_5 : decode prog_14_method_57_code 5 = .ok (.iconst 0, 1) := by decide +kernel
theorem d_Model_halfMinute_6 : decode prog_14_method_57_code 6 = .ok (.istore_n 3, 1) := by decide +kernel
theorem d_Model_halfMinute_7 : decode prog_14_method_57_code 7 = .ok (.iload_n 3, 1) := by decide +kernel
theorem d_Model_halfMinute_8 : decode prog_14_method_57_code 8 = .ok (.aload_n 0, 1) := by decide +kernel
theorem d_Model_halfMinute_9 : decode prog_14_method_57_code 9 = .ok (.getfield 302, 3) := by decide +kernel
theorem d_Model_halfMinute_12 : decode prog_14_method_57_code 12 = .ok (.if_icmp .ge 29, 3) := by decide +kernel
theorem d_Model_halfMinute_15 : decode prog_14_method_57_code 15 = .ok (.aload_n 1, 1) := by decide +kernel
theorem d_Model_halfMinute_16 : decode prog_14_method_57_code 16 = .ok (.bipush 32, 2) := by decide +kernel
theorem d_Model_halfMinute_18 : decode prog_14_method_57_code 18 = .ok (.iconst 2, 1) := by decide +kernel
theorem d_Model_halfMinute_19 : decode prog_14_method_57_code 19 = .ok (.iload_n 3, 1) := by decide +kernel
theorem d_Model_halfMinute_20 : decode prog_14_method_57_code 20 = .ok (.imul, 1) := by decide +kernel
theorem d_Model_halfMinute_21 : decode prog_14_method_57_code 21 = .ok (.iadd, 1) := by decide +kernel
theorem d_Model_halfMinute_22 : decode prog_14_method_57_code 22 = .ok (.iconst 1, 1) := by decide +kernel
theorem d_Model_halfMinute_23 : decode prog_14_method_57_code 23 = .ok (.iadd, 1) := by decide +kernel
theorem d_Model_halfMinute_24 : decode prog_14_method_57_code 24 = .ok (.iaload, 1) := by decide +kernel
theorem d_Model_halfMinute_25 : decode prog_14_method_57_code 25 = .ok (.iload_n 2, 1) := by decide +kernel
theorem d_Model_halfMinute_26 : decode prog_14_method_57_code 26 = .ok (.if_icmp .ne 9, 3) := by decide +kernel
theorem d_Model_halfMinute_29 : decode prog_14_method_57_code 29 = .ok (.aload_n 0, 1) := by decide +kernel
theorem d_Model_halfMinute_30 : decode prog_14_method_57_code 30 = .ok (.aload_n 1, 1) := by decide +kernel
theorem d_Model_halfMinute_31 : decode prog_14_method_57_code 31 = .ok (.iload_n 3, 1) := by decide +kernel
theorem d_Model_halfMinute_32 : decode prog_14_method_57_code 32 = .ok (.invokevirtual 349, 3) := by decide +kernel
theorem d_Model_halfMinute_35 : decode prog_14_method_57_code 35 = .ok (.iinc 3 1, 3) := by decide +kernel
theorem d_Model_halfMinute_38 : decode prog_14_method_57_code 38 = .ok (.goto (-31), 3) := by decide +kernel
theorem d_Model_halfMinute_41 : decode prog_14_method_57_code 41 = .ok (.iconst 0, 1) := by decide +kernel
theorem d_Model_halfMinute_42 : decode prog_14_method_57_code 42 = .ok (.istore_n 3, 1) := by decide +kernel
theorem d_Model_halfMinute_43 : decode prog_14_method_57_code 43 = .ok (.iload_n 3, 1) := by decide +kernel
theorem d_Model_halfMinute_44 : decode prog_14_method_57_code 44 = .ok (.aload_n 0, 1) := by decide +kernel
theorem d_Model_halfMinute_45 : decode prog_14_method_57_code 45 = .ok (.getfield 308, 3) := by decide +kernel
theorem d_Model_halfMinute_48 : decode prog_14_method_57_code 48 = .ok (.if_icmp .ge 73, 3) := by decide +kernel
theorem d_Model_halfMinute_51 : decode prog_14_method_57_code 51 = .ok (.aload_n 0, 1) := by decide +kernel
theorem d_Model_halfMinute_52 : decode prog_14_method_57_code 52 = .ok (.getfield 78, 3) := by decide +kernel
theorem d_Model_halfMinute_55 : decode prog_14_method_57_code 55 = .ok (.iload_n 3, 1) := by decide +kernel
theorem d_Model_halfMinute_56 : decode prog_14_method_57_code 56 = .ok (.invokestatic 247, 3) := by decide +kernel
theorem d_Model_halfMinute_59 : decode prog_14_method_57_code 59 = .ok (.ifCond .eq 56, 3) := by decide +kernel
theorem d_Model_halfMinute_62 : decode prog_14_method_57_code 62 = .ok (.aload_n 0, 1) := by decide +kernel
theorem d_Model_halfMinute_63 : decode prog_14_method_57_code 63 = .ok (.getfield 49, 3) := by decide +kernel
theorem d_Model_halfMinute_66 : decode prog_14_method_57_code 66 = .ok (.iconst 3, 1) := by decide +kernel
theorem d_Model_halfMinute_67 : decode prog_14_method_57_code 67 = .ok (.iload_n 3, 1) := by decide +kernel
theorem d_Model_halfMinute_68 : decode prog_14_method_57_code 68 = .ok (.imul, 1) := by decide +kernel
theorem d_Model_halfMinute_69 : decode prog_14_method_57_code 69 = .ok (.iconst 1, 1) := by decide +kernel
theorem d_Model_halfMinute_70 : decode prog_14_method_57_code 70 = .ok (.iadd, 1) := by decide +kernel
theorem d_Model_halfMinute_71 : decode prog_14_method_57_code 71 = .ok (.iaload, 1) := by decide +kernel
theorem d_Model_halfMinute_72 : decode prog_14_method_57_code 72 = .ok (.iload_n 2, 1) := by decide +kernel
theorem d_Model_halfMinute_73 : decode prog_14_method_57_code 73 = .ok (.if_icmp .ne 42, 3) := by decide +kernel
theorem d_Model_halfMinute_76 : decode prog_14_method_57_code 76 = .ok (.aload_n 1, 1) := by decide +kernel
theorem d_Model_halfMinute_77 : decode prog_14_method_57_code 77 = .ok (.aload_n 0, 1) := by decide +kernel
theorem d_Model_halfMinute_78 : decode prog_14_method_57_code 78 = .ok (.getfield 49, 3) := by decide +kernel
theorem d_Model_halfMinute_81 : decode prog_14_method_57_code 81 = .ok (.iconst 3, 1) := by decide +kernel
theorem d_Model_halfMinute_82 : decode prog_14_method_57_code 82 = .ok (.iload_n 3, 1) := by decide +kernel
theorem d_Model_halfMinute_83 : decode prog_14_method_57_code 83 = .ok (.imul, 1) := by decide +kernel
theorem d_Model_halfMinute_84 : decode prog_14_method_57_code 84 = .ok (.iaload, 1) := by decide +kernel
theorem d_Model_halfMinute_85 : decode prog_14_method_57_code 85 = .ok (.invokestatic 361, 3) := by decide +kernel
theorem d_Model_halfMinute_88 : decode prog_14_method_57_code 88 = .ok (.ifCond .eq 27, 3) := by decide +kernel
theorem d_Model_halfMinute_91 : decode prog_14_method_57_code 91 = .ok (.aload_n 0, 1) := by decide +kernel
theorem d_Model_halfMinute_92 : decode prog_14_method_57_code 92 = .ok (.aload_n 1, 1) := by decide +kernel
theorem d_Model_halfMinute_93 : decode prog_14_method_57_code 93 = .ok (.aload_n 0, 1) := by decide +kernel
theorem d_Model_halfMinute_94 : decode prog_14_method_57_code 94 = .ok (.getfield 49, 3) := by decide +kernel
theorem d_Model_halfMinute_97 : decode prog_14_method_57_code 97 = .ok (.iconst 3, 1) := by decide +kernel
theorem d_Model_halfMinute_98 : decode prog_14_method_57_code 98 = .ok (.iload_n 3, 1) := by decide +kernel
theorem d_Model_halfMinute_99 : decode prog_14_method_57_code 99 = .ok (.imul, 1) := by decide +kernel
theorem d_Model_halfMinute_100 : decode prog_14_method_57_code 100 = .ok (.iaload, 1) := by decide +kernel
theorem d_Model_halfMinute_101 : decode prog_14_method_57_code 101 = .ok (.aload_n 0, 1) := by decide +kernel
theorem d_Model_halfMinute_102 : decode prog_14_method_57_code 102 = .ok (.getfield 49, 3) := by decide +kernel
theorem d_Model_halfMinute_105 : decode prog_14_method_57_code 105 = .ok (.iconst 3, 1) := by decide +kernel
theorem d_Model_halfMinute_106 : decode prog_14_method_57_code 106 = .ok (.iload_n 3, 1) := by decide +kernel
theorem d_Model_halfMinute_107 : decode prog_14_method_57_code 107 = .ok (.imul, 1) := by decide +kernel
theorem d_Model_halfMinute_108 : decode prog_14_method_57_code 108 = .ok (.iconst 2, 1) := by decide +kernel
theorem d_Model_halfMinute_109 : decode prog_14_method_57_code 109 = .ok (.iadd, 1) := by decide +kernel
theorem d_Model_halfMinute_110 : decode prog_14_method_57_code 110 = .ok (.iaload, 1) := by decide +kernel
theorem d_Model_halfMinute_111 : decode prog_14_method_57_code 111 = .ok (.iconst 1, 1) := by decide +kernel
theorem d_Model_halfMinute_112 : decode prog_14_method_57_code 112 = .ok (.invokevirtual 387, 3) := by decide +kernel
theorem d_Model_halfMinute_115 : decode prog_14_method_57_code 115 = .ok (.iinc 3 1, 3) := by decide +kernel
theorem d_Model_halfMinute_118 : decode prog_14_method_57_code 118 = .ok (.goto (-75), 3) := by decide +kernel
theorem d_Model_halfMinute_121 : decode prog_14_method_57_code 121 = .ok (.iconst 0, 1) := by decide +kernel
theorem d_Model_halfMinute_122 : decode prog_14_method_57_code 122 = .ok (.istore_n 3, 1) := by decide +kernel
theorem d_Model_halfMinute_123 : decode prog_14_method_57_code 123 = .ok (.iload_n 3, 1) := by decide +kernel
theorem d_Model_halfMinute_124 : decode prog_14_method_57_code 124 = .ok (.aload_n 0, 1) := by decide +kernel
theorem d_Model_halfMinute_125 : decode prog_14_method_57_code 125 = .ok (.getfield 391, 3) := by decide +kernel
theorem d_Model_halfMinute_128 : decode prog_14_method_57_code 128 = .ok (.if_icmp .ge 50, 3) := by decide +kernel
theorem d_Model_halfMinute_131 : decode prog_14_method_57_code 131 = .ok (.aload_n 0, 1) := by decide +kernel
theorem d_Model_halfMinute_132 : decode prog_14_method_57_code 132 = .ok (.getfield 84, 3) := by decide +kernel
theorem d_Model_halfMinute_135 : decode prog_14_method_57_code 135 = .ok (.iload_n 3, 1) := by decide +kernel
theorem d_Model_halfMinute_136 : decode prog_14_method_57_code 136 = .ok (.iaload, 1) := by decide +kernel
theorem d_Model_halfMinute_137 : decode prog_14_method_57_code 137 = .ok (.iload_n 2, 1) := by decide +kernel
theorem d_Model_halfMinute_138 : decode prog_14_method_57_code 138 = .ok (.if_icmp .ne 34, 3) := by decide +kernel
theorem d_Model_halfMinute_141 : decode prog_14_method_57_code 141 = .ok (.aload_n 1, 1) := by decide +kernel
theorem d_Model_halfMinute_142 : decode prog_14_method_57_code 142 = .ok (.aload_n 0, 1) := by decide +kernel
theorem d_Model_halfMinute_143 : decode prog_14_method_57_code 143 = .ok (.getfield 81, 3) := by decide +kernel
theorem d_Model_halfMinute_146 : decode prog_14_method_57_code 146 = .ok (.iload_n 3, 1) := by decide +kernel
theorem d_Model_halfMinute_147 : decode prog_14_method_57_code 147 = .ok (.iaload, 1) := by decide +kernel
theorem d_Model_halfMinute_148 : decode prog_14_method_57_code 148 = .ok (.invokestatic 361, 3) := by decide +kernel
theorem d_Model_halfMinute_151 : decode prog_14_method_57_code 151 = .ok (.ifCond .eq 21, 3) := by decide +kernel
theorem d_Model_halfMinute_154 : decode prog_14_method_57_code 154 = .ok (.aload_n 0, 1) := by decide +kernel
theorem d_Model_halfMinute_155 : decode prog_14_method_57_code 155 = .ok (.aload_n 1, 1) := by decide +kernel
theorem d_Model_halfMinute_156 : decode prog_14_method_57_code 156 = .ok (.aload_n 0, 1) := by decide +kernel
theorem d_Model_halfMinute_157 : decode prog_14_method_57_code 157 = .ok (.getfield 81, 3) := by decide +kernel
theorem d_Model_halfMinute_160 : decode prog_14_method_57_code 160 = .ok (.iload_n 3, 1) := by decide +kernel
theorem d_Model_halfMinute_161 : decode prog_14_method_57_code 161 = .ok (.iaload, 1) := by decide +kernel
theorem d_Model_halfMinute_162 : decode prog_14_method_57_code 162 = .ok (.aload_n 0, 1) := by decide +kernel
theorem d_Model_halfMinute_163 : decode prog_14_method_57_code 163 = .ok (.getfield 87, 3) := by decide +kernel
theorem d_Model_halfMinute_166 : decode prog_14_method_57_code 166 = .ok (.iload_n 3, 1) := by decide +kernel
theorem d_Model_halfMinute_167 : decode prog_14_method_57_code 167 = .ok (.iaload, 1) := by decide +kernel
theorem d_Model_halfMinute_168 : decode prog_14_method_57_code 168 = .ok (.iconst 1, 1) := by decide +kernel
theorem d_Model_halfMinute_169 : decode prog_14_method_57_code 169 = .ok (.invokevirtual 387, 3) := by decide +kernel
theorem d_Model_halfMinute_172 : decode prog_14_method_57_code 172 = .ok (.iinc 3 1, 3) := by decide +kernel
theorem d_Model_halfMinute_175 : decode prog_14_method_57_code 175 = .ok (.goto (-52), 3) := by decide +kernel
theorem d_Model_halfMinute_178 : decode prog_14_method_57_code 178 = .ok (.aload_n 0, 1) := by decide +kernel
theorem d_Model_halfMinute_179 : decode prog_14_method_57_code 179 = .ok (.aload_n 1, 1) := by decide +kernel
theorem d_Model_halfMinute_180 : decode prog_14_method_57_code 180 = .ok (.invokevirtual 394, 3) := by decide +kernel
theorem d_Model_halfMinute_183 : decode prog_14_method_57_code 183 = .ok (.aload_n 0, 1) := by decide +kernel
theorem d_Model_halfMinute_184 : decode prog_14_method_57_code 184 = .ok (.aload_n 1, 1) := by decide +kernel
theorem d_Model_halfMinute_185 : decode prog_14_method_57_code 185 = .ok (.invokevirtual 398, 3) := by decide +kernel
theorem d_Model_halfMinute_188 : decode prog_14_method_57_code 188 = .ok (.return_, 1) := by decide +kernel
def s_Model_halfMinute_172 (p0 : Nat) (rec123 : Int32 → Int32 → LH → Option (LH)) (y2 : Int32) (y3 : Int32) (σ : LH) : Option (LH) :=
  xl ((y3 + 1) : Int32) fun x17 =>
  rec123 y2 x17 σ
theorem b_Model_halfMinute_172 {G : XG} {l : Launch} {p : Program} {e : Env} {R : Room} {s : State} {m : MethodId} {args : Array Value} {below : List Frame} {meth : Method} {c : Code} (C : XC G 570 598 p s m args c prog_14_method_57_code 4 R_Model) (hr : meth.sig.returnType = none) (hk : meth.locks = false) {d : Nat} (hd : 122 ≤ d + 1) (hR : xroom R (d + 1)) {p0 : Nat} (hp0 : xin 570 598 p0 (2, 290, 0)) {rec123 : Int32 → Int32 → LH → Option (LH)} {σ' : LH} (hrec123 : ∀ (y2 : Int32) (y3 : Int32) (σ : LH), rec123 y2 y3 σ = some σ' → XJ G 570 598 p l e R s m args below meth c 4 (XQ G 570 598 below args s none σ') 0 0 123 [(0, .ref (G.2.2.1 + 570)), (1, .ref (G.2.2.1 + p0)), (2, .int y2), (3, .int y3)] [] σ) {y2 : Int32} {y3 : Int32} {σ : LH} (h0 : s_Model_halfMinute_172 p0 rec123 y2 y3 σ = some σ') : XJ G 570 598 p l e R s m args below meth c 4 (XQ G 570 598 below args s none σ') 0 0 172 [(0, .ref (G.2.2.1 + 570)), (1, .ref (G.2.2.1 + p0)), (2, .int y2), (3, .int y3)] [] σ := by
  replace h0 := (show _ = _ from h0)
  unfold s_Model_halfMinute_172 at h0
  obtain ⟨x17, ex17, h0⟩ := xlet h0
  refine x_iinc (lv' := [(3, .int x17), (0, .ref (G.2.2.1 + 570)), (1, .ref (G.2.2.1 + p0)), (2, .int y2)]) C d_Model_halfMinute_172 3 rfl ex17 (by decide) rfl ?_
  refine x_goto C 123 d_Model_halfMinute_175 (by decide) ?_
  exact x_lv C [1, 2, 3, 0] rfl (hrec123 _ _ _ h0)
def s_Model_halfMinute_123_b (p0 : Nat) (rec123 : Int32 → Int32 → LH → Option (LH)) (y2 : Int32) (y3 : Int32) (σ : LH) : Option (LH) :=
  if (σ.1 570 40) ≤ y3 then (
   xb1 (s_Model_backs p0 σ) fun σ7 =>
   xb1 (s_Model_movesUp p0 σ7) fun σ9 =>
   some σ9)
  else (
   if ib y3 8 then (
   if (σ.1 588 (Int32.toNatClampNeg y3)) = y2 then (
    if ib y3 8 then (
    xb2 (s_Model_isHere p0 (σ.1 587 (Int32.toNatClampNeg y3)) σ) fun r14 σ15 =>
    if r14 = 0 then (
     s_Model_halfMinute_172 p0 rec123 y2 y3 σ15)
    else (
     if ib y3 8 then (
     if ib y3 8 then (
     xb1 (s_Model_goesUp p0 (σ15.1 587 (Int32.toNatClampNeg y3)) (σ15.1 589 (Int32.toNatClampNeg y3)) 1 σ15) fun σ21 =>
     s_Model_halfMinute_172 p0 rec123 y2 y3 σ21) else none) else none)) else none)
   else (
    s_Model_halfMinute_172 p0 rec123 y2 y3 σ)) else none)
def s_Model_halfMinute_123 (p0 : Nat) : Nat → Int32 → Int32 → LH → Option (LH)
  | 0, _, _, _ => none
  | n + 1, y2, y3, σ => s_Model_halfMinute_123_b p0 (s_Model_halfMinute_123 p0 n) y2 y3 σ
theorem bb_Model_halfMinute_123 {G : XG} {l : Launch} {p : Program} {e : Env} {R : Room} {s : State} {m : MethodId} {args : Array Value} {below : List Frame} {meth : Method} {c : Code} (C : XC G 570 598 p s m args c prog_14_method_57_code 4 R_Model) (hr : meth.sig.returnType = none) (hk : meth.locks = false) {d : Nat} (hd : 122 ≤ d + 1) (hR : xroom R (d + 1)) {p0 : Nat} (hp0 : xin 570 598 p0 (2, 290, 0)) {rec123 : Int32 → Int32 → LH → Option (LH)} {σ' : LH} (hrec123 : ∀ (y2 : Int32) (y3 : Int32) (σ : LH), rec123 y2 y3 σ = some σ' → XJ G 570 598 p l e R s m args below meth c 4 (XQ G 570 598 below args s none σ') 0 0 123 [(0, .ref (G.2.2.1 + 570)), (1, .ref (G.2.2.1 + p0)), (2, .int y2), (3, .int y3)] [] σ) {y2 : Int32} {y3 : Int32} {σ : LH} (h0 : s_Model_halfMinute_123_b p0 rec123 y2 y3 σ = some σ') : XJ G 570 598 p l e R s m args below meth c 4 (XQ G 570 598 below args s none σ') 0 0 123 [(0, .ref (G.2.2.1 + 570)), (1, .ref (G.2.2.1 + p0)), (2, .int y2), (3, .int y3)] [] σ := by
  replace h0 := (show _ = _ from h0)
  unfold s_Model_halfMinute_123_b at h0
  refine x_iload_n C d_Model_halfMinute_123 3 rfl ?_
  refine x_aload_n C d_Model_halfMinute_124 0 rfl ?_
  refine x_getI (y := 0) C fg_Model_391 k_570 rfl d_Model_halfMinute_125 ?_
  refine x_icmp_ge C 178 d_Model_halfMinute_128 (by decide) (fun q5 => ?_) (fun q5 => ?_)
  · replace h0 := xit q5 h0
    refine x_aload_n C d_Model_halfMinute_178 0 rfl ?_
    refine x_aload_n C d_Model_halfMinute_179 1 rfl ?_
    obtain ⟨σ7, k6, h0⟩ := xbind1 h0
    refine x_callVv C hR (c_Model_backs (d := d) (by omega) hp0 k6) cw_Model_394 k_570 rfl rfl rfl (Nat.le_of_ble_eq_true rfl) ⟨Nat.zero_le _, Nat.zero_le _⟩ d_Model_halfMinute_180 ?_
    refine x_aload_n C d_Model_halfMinute_183 0 rfl ?_
    refine x_aload_n C d_Model_halfMinute_184 1 rfl ?_
    obtain ⟨σ9, k8, h0⟩ := xbind1 h0
    refine x_callVv C hR (c_Model_movesUp (d := d) (by omega) hp0 k8) cw_Model_398 k_570 rfl rfl rfl (Nat.le_of_ble_eq_true rfl) ⟨Nat.zero_le _, Nat.zero_le _⟩ d_Model_halfMinute_185 ?_
    exact x_vret C hr hk h0 d_Model_halfMinute_188
  · replace h0 := xif q5 h0
    refine x_aload_n C d_Model_halfMinute_131 0 rfl ?_
    refine x_getA (y := 588) C fg_Model_84 k_570 rfl d_Model_halfMinute_132 ?_
    refine x_iload_n C d_Model_halfMinute_135 3 rfl ?_
    obtain ⟨g10, h0⟩ := xgo h0
    refine x_iald C k_588 (ib_in g10) d_Model_halfMinute_136 ?_
    refine x_iload_n C d_Model_halfMinute_137 2 rfl ?_
    refine x_icmp_ne C 172 d_Model_halfMinute_138 (by decide) (fun q11 => ?_) (fun q11 => ?_)
    · replace h0 := xif q11 h0
      exact x_lv C [0, 1, 2, 3] rfl (b_Model_halfMinute_172 C hr hk hd hR hp0 hrec123 h0)
    · replace h0 := xit q11 h0
      refine x_aload_n C d_Model_halfMinute_141 1 rfl ?_
      refine x_aload_n C d_Model_halfMinute_142 0 rfl ?_
      refine x_getA (y := 587) C fg_Model_81 k_570 rfl d_Model_halfMinute_143 ?_
      refine x_iload_n C d_Model_halfMinute_146 3 rfl ?_
      obtain ⟨g12, h0⟩ := xgo h0
      refine x_iald C k_587 (ib_in g12) d_Model_halfMinute_147 ?_
      obtain ⟨r14, σ15, k13, h0⟩ := xbind2 h0
      refine x_callSi C hR (c_Model_isHere (d := d) (by omega) hp0 k13) cw_Model_361 w_1905 rfl rfl (Nat.le_of_ble_eq_true rfl) ⟨Nat.zero_le _, Nat.zero_le _⟩ d_Model_halfMinute_148 ?_
      refine x_if_eq C 172 d_Model_halfMinute_151 (by decide) (fun q16 => ?_) (fun q16 => ?_)
      · replace h0 := xit q16 h0
        exact x_lv C [0, 1, 2, 3] rfl (b_Model_halfMinute_172 C hr hk hd hR hp0 hrec123 h0)
      · replace h0 := xif q16 h0
        refine x_aload_n C d_Model_halfMinute_154 0 rfl ?_
        refine x_aload_n C d_Model_halfMinute_155 1 rfl ?_
        refine x_aload_n C d_Model_halfMinute_156 0 rfl ?_
        refine x_getA (y := 587) C fg_Model_81 k_570 rfl d_Model_halfMinute_157 ?_
        refine x_iload_n C d_Model_halfMinute_160 3 rfl ?_
        obtain ⟨g18, h0⟩ := xgo h0
        refine x_iald C k_587 (ib_in g18) d_Model_halfMinute_161 ?_
        refine x_aload_n C d_Model_halfMinute_162 0 rfl ?_
        refine x_getA (y := 589) C fg_Model_87 k_570 rfl d_Model_halfMinute_163 ?_
        refine x_iload_n C d_Model_halfMinute_166 3 rfl ?_
        obtain ⟨g19, h0⟩ := xgo h0
        refine x_iald C k_589 (ib_in g19) d_Model_halfMinute_167 ?_
        refine x_iconst (v := 1) C d_Model_halfMinute_168 (by decide) ?_
        obtain ⟨σ21, k20, h0⟩ := xbind1 h0
        refine x_callVv C hR (c_Model_goesUp (d := d) (by omega) hp0 k20) cw_Model_387 k_570 rfl rfl rfl (Nat.le_of_ble_eq_true rfl) ⟨Nat.zero_le _, Nat.zero_le _⟩ d_Model_halfMinute_169 ?_
        exact x_lv C [0, 1, 2, 3] rfl (b_Model_halfMinute_172 C hr hk hd hR hp0 hrec123 h0)
theorem b_Model_halfMinute_123 {G : XG} {l : Launch} {p : Program} {e : Env} {R : Room} {s : State} {m : MethodId} {args : Array Value} {below : List Frame} {meth : Method} {c : Code} (C : XC G 570 598 p s m args c prog_14_method_57_code 4 R_Model) (hr : meth.sig.returnType = none) (hk : meth.locks = false) {d : Nat} (hd : 122 ≤ d + 1) (hR : xroom R (d + 1)) {p0 : Nat} (hp0 : xin 570 598 p0 (2, 290, 0)) {σ' : LH} : ∀ (n : Nat) (y2 : Int32) (y3 : Int32) (σ : LH), s_Model_halfMinute_123 p0 n y2 y3 σ = some σ' → XJ G 570 598 p l e R s m args below meth c 4 (XQ G 570 598 below args s none σ') 0 0 123 [(0, .ref (G.2.2.1 + 570)), (1, .ref (G.2.2.1 + p0)), (2, .int y2), (3, .int y3)] [] σ := by
  intro n
  induction n with
  | zero => intro y2 y3 σ h0; cases h0
  | succ n ih => intro y2 y3 σ h0; exact bb_Model_halfMinute_123 C hr hk hd hR hp0 ih h0
def s_Model_halfMinute_115 (p0 : Nat) (rec43 : Int32 → Int32 → LH → Option (LH)) (y2 : Int32) (y3 : Int32) (σ : LH) : Option (LH) :=
  xl ((y3 + 1) : Int32) fun x26 =>
  rec43 y2 x26 σ
theorem b_Model_halfMinute_115 {G : XG} {l : Launch} {p : Program} {e : Env} {R : Room} {s : State} {m : MethodId} {args : Array Value} {below : List Frame} {meth : Method} {c : Code} (C : XC G 570 598 p s m args c prog_14_method_57_code 4 R_Model) (hr : meth.sig.returnType = none) (hk : meth.locks = false) {d : Nat} (hd : 122 ≤ d + 1) (hR : xroom R (d + 1)) {p0 : Nat} (hp0 : xin 570 598 p0 (2, 290, 0)) {rec43 : Int32 → Int32 → LH → Option (LH)} {σ' : LH} (hrec43 : ∀ (y2 : Int32) (y3 : Int32) (σ : LH), rec43 y2 y3 σ = some σ' → XJ G 570 598 p l e R s m args below meth c 4 (XQ G 570 598 below args s none σ') 0 0 43 [(0, .ref (G.2.2.1 + 570)), (1, .ref (G.2.2.1 + p0)), (2, .int y2), (3, .int y3)] [] σ) {y2 : Int32} {y3 : Int32} {σ : LH} (h0 : s_Model_halfMinute_115 p0 rec43 y2 y3 σ = some σ') : XJ G 570 598 p l e R s m args below meth c 4 (XQ G 570 598 below args s none σ') 0 0 115 [(0, .ref (G.2.2.1 + 570)), (1, .ref (G.2.2.1 + p0)), (2, .int y2), (3, .int y3)] [] σ := by
  replace h0 := (show _ = _ from h0)
  unfold s_Model_halfMinute_115 at h0
  obtain ⟨x26, ex26, h0⟩ := xlet h0
  refine x_iinc (lv' := [(3, .int x26), (0, .ref (G.2.2.1 + 570)), (1, .ref (G.2.2.1 + p0)), (2, .int y2)]) C d_Model_halfMinute_115 3 rfl ex26 (by decide) rfl ?_
  refine x_goto C 43 d_Model_halfMinute_118 (by decide) ?_
  exact x_lv C [1, 2, 3, 0] rfl (hrec43 _ _ _ h0)
def s_Model_halfMinute_43_b (p0 : Nat) (rec43 : Int32 → Int32 → LH → Option (LH)) (y2 : Int32) (y3 : Int32) (σ : LH) : Option (LH) :=
  if (σ.1 570 28) ≤ y3 then (
   s_Model_halfMinute_123 p0 FUEL y2 0 σ)
  else (
   xb2 (s_Model_has (σ.1 570 39) y3 σ) fun r23 σ24 =>
   if r23 = 0 then (
    s_Model_halfMinute_115 p0 rec43 y2 y3 σ24)
   else (
    if ib ((3 * y3) + 1) 30 then (
    if (σ24.1 579 (Int32.toNatClampNeg ((3 * y3) + 1))) = y2 then (
     if ib (3 * y3) 30 then (
     xb2 (s_Model_isHere p0 (σ24.1 579 (Int32.toNatClampNeg (3 * y3))) σ24) fun r31 σ32 =>
     if r31 = 0 then (
      s_Model_halfMinute_115 p0 rec43 y2 y3 σ32)
     else (
      if ib (3 * y3) 30 then (
      if ib ((3 * y3) + 2) 30 then (
      xb1 (s_Model_goesUp p0 (σ32.1 579 (Int32.toNatClampNeg (3 * y3))) (σ32.1 579 (Int32.toNatClampNeg ((3 * y3) + 2))) 1 σ32) fun σ37 =>
      s_Model_halfMinute_115 p0 rec43 y2 y3 σ37) else none) else none)) else none)
    else (
     s_Model_halfMinute_115 p0 rec43 y2 y3 σ24)) else none))
def s_Model_halfMinute_43 (p0 : Nat) : Nat → Int32 → Int32 → LH → Option (LH)
  | 0, _, _, _ => none
  | n + 1, y2, y3, σ => s_Model_halfMinute_43_b p0 (s_Model_halfMinute_43 p0 n) y2 y3 σ
theorem bb_Model_halfMinute_43 {G : XG} {l : Launch} {p : Program} {e : Env} {R : Room} {s : State} {m : MethodId} {args : Array Value} {below : List Frame} {meth : Method} {c : Code} (C : XC G 570 598 p s m args c prog_14_method_57_code 4 R_Model) (hr : meth.sig.returnType = none) (hk : meth.locks = false) {d : Nat} (hd : 122 ≤ d + 1) (hR : xroom R (d + 1)) {p0 : Nat} (hp0 : xin 570 598 p0 (2, 290, 0)) {rec43 : Int32 → Int32 → LH → Option (LH)} {σ' : LH} (hrec43 : ∀ (y2 : Int32) (y3 : Int32) (σ : LH), rec43 y2 y3 σ = some σ' → XJ G 570 598 p l e R s m args below meth c 4 (XQ G 570 598 below args s none σ') 0 0 43 [(0, .ref (G.2.2.1 + 570)), (1, .ref (G.2.2.1 + p0)), (2, .int y2), (3, .int y3)] [] σ) {y2 : Int32} {y3 : Int32} {σ : LH} (h0 : s_Model_halfMinute_43_b p0 rec43 y2 y3 σ = some σ') : XJ G 570 598 p l e R s m args below meth c 4 (XQ G 570 598 below args s none σ') 0 0 43 [(0, .ref (G.2.2.1 + 570)), (1, .ref (G.2.2.1 + p0)), (2, .int y2), (3, .int y3)] [] σ := by
  replace h0 := (show _ = _ from h0)
  unfold s_Model_halfMinute_43_b at h0
  refine x_iload_n C d_Model_halfMinute_43 3 rfl ?_
  refine x_aload_n C d_Model_halfMinute_44 0 rfl ?_
  refine x_getI (y := 0) C fg_Model_308 k_570 rfl d_Model_halfMinute_45 ?_
  refine x_icmp_ge C 121 d_Model_halfMinute_48 (by decide) (fun q4 => ?_) (fun q4 => ?_)
  · replace h0 := xit q4 h0
    refine x_iconst (v := 0) C d_Model_halfMinute_121 (by decide) ?_
    refine x_istore_n (lv' := [(3, .int 0), (0, .ref (G.2.2.1 + 570)), (1, .ref (G.2.2.1 + p0)), (2, .int y2)]) C d_Model_halfMinute_122 rfl (by decide) rfl ?_
    exact x_lv C [1, 2, 3, 0] rfl (b_Model_halfMinute_123 C hr hk hd hR hp0 FUEL _ _ _ h0)
  · replace h0 := xif q4 h0
    refine x_aload_n C d_Model_halfMinute_51 0 rfl ?_
    refine x_getI (y := 0) C fg_Model_78 k_570 rfl d_Model_halfMinute_52 ?_
    refine x_iload_n C d_Model_halfMinute_55 3 rfl ?_
    obtain ⟨r23, σ24, k22, h0⟩ := xbind2 h0
    refine x_callSi C hR (c_Model_has (d := d) (by omega) k22) cw_Model_247 w_1750 rfl rfl (Nat.le_of_ble_eq_true rfl) ⟨Nat.zero_le _, Nat.zero_le _⟩ d_Model_halfMinute_56 ?_
    refine x_if_eq C 115 d_Model_halfMinute_59 (by decide) (fun q25 => ?_) (fun q25 => ?_)
    · replace h0 := xit q25 h0
      exact x_lv C [0, 1, 2, 3] rfl (b_Model_halfMinute_115 C hr hk hd hR hp0 hrec43 h0)
    · replace h0 := xif q25 h0
      refine x_aload_n C d_Model_halfMinute_62 0 rfl ?_
      refine x_getA (y := 579) C fg_Model_49 k_570 rfl d_Model_halfMinute_63 ?_
      refine x_iconst (v := 3) C d_Model_halfMinute_66 (by decide) ?_
      refine x_iload_n C d_Model_halfMinute_67 3 rfl ?_
      refine x_imul C d_Model_halfMinute_68 ?_
      refine x_iconst (v := 1) C d_Model_halfMinute_69 (by decide) ?_
      refine x_iadd C d_Model_halfMinute_70 ?_
      obtain ⟨g27, h0⟩ := xgo h0
      refine x_iald C k_579 (ib_in g27) d_Model_halfMinute_71 ?_
      refine x_iload_n C d_Model_halfMinute_72 2 rfl ?_
      refine x_icmp_ne C 115 d_Model_halfMinute_73 (by decide) (fun q28 => ?_) (fun q28 => ?_)
      · replace h0 := xif q28 h0
        exact x_lv C [0, 1, 2, 3] rfl (b_Model_halfMinute_115 C hr hk hd hR hp0 hrec43 h0)
      · replace h0 := xit q28 h0
        refine x_aload_n C d_Model_halfMinute_76 1 rfl ?_
        refine x_aload_n C d_Model_halfMinute_77 0 rfl ?_
        refine x_getA (y := 579) C fg_Model_49 k_570 rfl d_Model_halfMinute_78 ?_
        refine x_iconst (v := 3) C d_Model_halfMinute_81 (by decide) ?_
        refine x_iload_n C d_Model_halfMinute_82 3 rfl ?_
        refine x_imul C d_Model_halfMinute_83 ?_
        obtain ⟨g29, h0⟩ := xgo h0
        refine x_iald C k_579 (ib_in g29) d_Model_halfMinute_84 ?_
        obtain ⟨r31, σ32, k30, h0⟩ := xbind2 h0
        refine x_callSi C hR (c_Model_isHere (d := d) (by omega) hp0 k30) cw_Model_361 w_1905 rfl rfl (Nat.le_of_ble_eq_true rfl) ⟨Nat.zero_le _, Nat.zero_le _⟩ d_Model_halfMinute_85 ?_
        refine x_if_eq C 115 d_Model_halfMinute_88 (by decide) (fun q33 => ?_) (fun q33 => ?_)
        · replace h0 := xit q33 h0
          exact x_lv C [0, 1, 2, 3] rfl (b_Model_halfMinute_115 C hr hk hd hR hp0 hrec43 h0)
        · replace h0 := xif q33 h0
          refine x_aload_n C d_Model_halfMinute_91 0 rfl ?_
          refine x_aload_n C d_Model_halfMinute_92 1 rfl ?_
          refine x_aload_n C d_Model_halfMinute_93 0 rfl ?_
          refine x_getA (y := 579) C fg_Model_49 k_570 rfl d_Model_halfMinute_94 ?_
          refine x_iconst (v := 3) C d_Model_halfMinute_97 (by decide) ?_
          refine x_iload_n C d_Model_halfMinute_98 3 rfl ?_
          refine x_imul C d_Model_halfMinute_99 ?_
          obtain ⟨g34, h0⟩ := xgo h0
          refine x_iald C k_579 (ib_in g34) d_Model_halfMinute_100 ?_
          refine x_aload_n C d_Model_halfMinute_101 0 rfl ?_
          refine x_getA (y := 579) C fg_Model_49 k_570 rfl d_Model_halfMinute_102 ?_
          refine x_iconst (v := 3) C d_Model_halfMinute_105 (by decide) ?_
          refine x_iload_n C d_Model_halfMinute_106 3 rfl ?_
          refine x_imul C d_Model_halfMinute_107 ?_
          refine x_iconst (v := 2) C d_Model_halfMinute_108 (by decide) ?_
          refine x_iadd C d_Model_halfMinute_109 ?_
          obtain ⟨g35, h0⟩ := xgo h0
          refine x_iald C k_579 (ib_in g35) d_Model_halfMinute_110 ?_
          refine x_iconst (v := 1) C d_Model_halfMinute_111 (by decide) ?_
          obtain ⟨σ37, k36, h0⟩ := xbind1 h0
          refine x_callVv C hR (c_Model_goesUp (d := d) (by omega) hp0 k36) cw_Model_387 k_570 rfl rfl rfl (Nat.le_of_ble_eq_true rfl) ⟨Nat.zero_le _, Nat.zero_le _⟩ d_Model_halfMinute_112 ?_
          exact x_lv C [0, 1, 2, 3] rfl (b_Model_halfMinute_115 C hr hk hd hR hp0 hrec43 h0)
theorem b_Model_halfMinute_43 {G : XG} {l : Launch} {p : Program} {e : Env} {R : Room} {s : State} {m : MethodId} {args : Array Value} {below : List Frame} {meth : Method} {c : Code} (C : XC G 570 598 p s m args c prog_14_method_57_code 4 R_Model) (hr : meth.sig.returnType = none) (hk : meth.locks = false) {d : Nat} (hd : 122 ≤ d + 1) (hR : xroom R (d + 1)) {p0 : Nat} (hp0 : xin 570 598 p0 (2, 290, 0)) {σ' : LH} : ∀ (n : Nat) (y2 : Int32) (y3 : Int32) (σ : LH), s_Model_halfMinute_43 p0 n y2 y3 σ = some σ' → XJ G 570 598 p l e R s m args below meth c 4 (XQ G 570 598 below args s none σ') 0 0 43 [(0, .ref (G.2.2.1 + 570)), (1, .ref (G.2.2.1 + p0)), (2, .int y2), (3, .int y3)] [] σ := by
  intro n
  induction n with
  | zero => intro y2 y3 σ h0; cases h0
  | succ n ih => intro y2 y3 σ h0; exact bb_Model_halfMinute_43 C hr hk hd hR hp0 ih h0
def s_Model_halfMinute_35 (p0 : Nat) (rec7 : Int32 → Int32 → LH → Option (LH)) (y2 : Int32) (y3 : Int32) (σ : LH) : Option (LH) :=
  xl ((y3 + 1) : Int32) fun x42 =>
  rec7 y2 x42 σ
theorem b_Model_halfMinute_35 {G : XG} {l : Launch} {p : Program} {e : Env} {R : Room} {s : State} {m : MethodId} {args : Array Value} {below : List Frame} {meth : Method} {c : Code} (C : XC G 570 598 p s m args c prog_14_method_57_code 4 R_Model) (hr : meth.sig.returnType = none) (hk : meth.locks = false) {d : Nat} (hd : 122 ≤ d + 1) (hR : xroom R (d + 1)) {p0 : Nat} (hp0 : xin 570 598 p0 (2, 290, 0)) {rec7 : Int32 → Int32 → LH → Option (LH)} {σ' : LH} (hrec7 : ∀ (y2 : Int32) (y3 : Int32) (σ : LH), rec7 y2 y3 σ = some σ' → XJ G 570 598 p l e R s m args below meth c 4 (XQ G 570 598 below args s none σ') 0 0 7 [(0, .ref (G.2.2.1 + 570)), (1, .ref (G.2.2.1 + p0)), (2, .int y2), (3, .int y3)] [] σ) {y2 : Int32} {y3 : Int32} {σ : LH} (h0 : s_Model_halfMinute_35 p0 rec7 y2 y3 σ = some σ') : XJ G 570 598 p l e R s m args below meth c 4 (XQ G 570 598 below args s none σ') 0 0 35 [(0, .ref (G.2.2.1 + 570)), (1, .ref (G.2.2.1 + p0)), (2, .int y2), (3, .int y3)] [] σ := by
  replace h0 := (show _ = _ from h0)
  unfold s_Model_halfMinute_35 at h0
  obtain ⟨x42, ex42, h0⟩ := xlet h0
  refine x_iinc (lv' := [(3, .int x42), (0, .ref (G.2.2.1 + 570)), (1, .ref (G.2.2.1 + p0)), (2, .int y2)]) C d_Model_halfMinute_35 3 rfl ex42 (by decide) rfl ?_
  refine x_goto C 7 d_Model_halfMinute_38 (by decide) ?_
  exact x_lv C [1, 2, 3, 0] rfl (hrec7 _ _ _ h0)
def s_Model_halfMinute_7_b (p0 : Nat) (rec7 : Int32 → Int32 → LH → Option (LH)) (y2 : Int32) (y3 : Int32) (σ : LH) : Option (LH) :=
  if (σ.1 570 26) ≤ y3 then (
   s_Model_halfMinute_43 p0 FUEL y2 0 σ)
  else (
   if ib ((32 + (2 * y3)) + 1) 290 then (
   if (σ.1 p0 (Int32.toNatClampNeg ((32 + (2 * y3)) + 1))) = y2 then (
    xb1 (s_Model_frees p0 y3 σ) fun σ41 =>
    s_Model_halfMinute_35 p0 rec7 y2 y3 σ41)
   else (
    s_Model_halfMinute_35 p0 rec7 y2 y3 σ)) else none)
def s_Model_halfMinute_7 (p0 : Nat) : Nat → Int32 → Int32 → LH → Option (LH)
  | 0, _, _, _ => none
  | n + 1, y2, y3, σ => s_Model_halfMinute_7_b p0 (s_Model_halfMinute_7 p0 n) y2 y3 σ
theorem bb_Model_halfMinute_7 {G : XG} {l : Launch} {p : Program} {e : Env} {R : Room} {s : State} {m : MethodId} {args : Array Value} {below : List Frame} {meth : Method} {c : Code} (C : XC G 570 598 p s m args c prog_14_method_57_code 4 R_Model) (hr : meth.sig.returnType = none) (hk : meth.locks = false) {d : Nat} (hd : 122 ≤ d + 1) (hR : xroom R (d + 1)) {p0 : Nat} (hp0 : xin 570 598 p0 (2, 290, 0)) {rec7 : Int32 → Int32 → LH → Option (LH)} {σ' : LH} (hrec7 : ∀ (y2 : Int32) (y3 : Int32) (σ : LH), rec7 y2 y3 σ = some σ' → XJ G 570 598 p l e R s m args below meth c 4 (XQ G 570 598 below args s none σ') 0 0 7 [(0, .ref (G.2.2.1 + 570)), (1, .ref (G.2.2.1 + p0)), (2, .int y2), (3, .int y3)] [] σ) {y2 : Int32} {y3 : Int32} {σ : LH} (h0 : s_Model_halfMinute_7_b p0 rec7 y2 y3 σ = some σ') : XJ G 570 598 p l e R s m args below meth c 4 (XQ G 570 598 below args s none σ') 0 0 7 [(0, .ref (G.2.2.1 + 570)), (1, .ref (G.2.2.1 + p0)), (2, .int y2), (3, .int y3)] [] σ := by
  replace h0 := (show _ = _ from h0)
  unfold s_Model_halfMinute_7_b at h0
  refine x_iload_n C d_Model_halfMinute_7 3 rfl ?_
  refine x_aload_n C d_Model_halfMinute_8 0 rfl ?_
  refine x_getI (y := 0) C fg_Model_302 k_570 rfl d_Model_halfMinute_9 ?_
  refine x_icmp_ge C 41 d_Model_halfMinute_12 (by decide) (fun q3 => ?_) (fun q3 => ?_)
  · replace h0 := xit q3 h0
    refine x_iconst (v := 0) C d_Model_halfMinute_41 (by decide) ?_
    refine x_istore_n (lv' := [(3, .int 0), (0, .ref (G.2.2.1 + 570)), (1, .ref (G.2.2.1 + p0)), (2, .int y2)]) C d_Model_halfMinute_42 rfl (by decide) rfl ?_
    exact x_lv C [1, 2, 3, 0] rfl (b_Model_halfMinute_43 C hr hk hd hR hp0 FUEL _ _ _ h0)
  · replace h0 := xif q3 h0
    refine x_aload_n C d_Model_halfMinute_15 1 rfl ?_
    refine x_bipush (v := 32) C d_Model_halfMinute_16 (by decide) ?_
    refine x_iconst (v := 2) C d_Model_halfMinute_18 (by decide) ?_
    refine x_iload_n C d_Model_halfMinute_19 3 rfl ?_
    refine x_imul C d_Model_halfMinute_20 ?_
    refine x_iadd C d_Model_halfMinute_21 ?_
    refine x_iconst (v := 1) C d_Model_halfMinute_22 (by decide) ?_
    refine x_iadd C d_Model_halfMinute_23 ?_
    obtain ⟨g38, h0⟩ := xgo h0
    refine x_iald C hp0 (ib_in g38) d_Model_halfMinute_24 ?_
    refine x_iload_n C d_Model_halfMinute_25 2 rfl ?_
    refine x_icmp_ne C 35 d_Model_halfMinute_26 (by decide) (fun q39 => ?_) (fun q39 => ?_)
    · replace h0 := xif q39 h0
      exact x_lv C [0, 1, 2, 3] rfl (b_Model_halfMinute_35 C hr hk hd hR hp0 hrec7 h0)
    · replace h0 := xit q39 h0
      refine x_aload_n C d_Model_halfMinute_29 0 rfl ?_
      refine x_aload_n C d_Model_halfMinute_30 1 rfl ?_
      refine x_iload_n C d_Model_halfMinute_31 3 rfl ?_
      obtain ⟨σ41, k40, h0⟩ := xbind1 h0
      refine x_callVv C hR (c_Model_frees (d := d) (by omega) hp0 k40) cw_Model_349 k_570 rfl rfl rfl (Nat.le_of_ble_eq_true rfl) ⟨Nat.zero_le _, Nat.zero_le _⟩ d_Model_halfMinute_32 ?_
      exact x_lv C [0, 1, 2, 3] rfl (b_Model_halfMinute_35 C hr hk hd hR hp0 hrec7 h0)
theorem b_Model_halfMinute_7 {G : XG} {l : Launch} {p : Program} {e : Env} {R : Room} {s : State} {m : MethodId} {args : Array Value} {below : List Frame} {meth : Method} {c : Code} (C : XC G 570 598 p s m args c prog_14_method_57_code 4 R_Model) (hr : meth.sig.returnType = none) (hk : meth.locks = false) {d : Nat} (hd : 122 ≤ d + 1) (hR : xroom R (d + 1)) {p0 : Nat} (hp0 : xin 570 598 p0 (2, 290, 0)) {σ' : LH} : ∀ (n : Nat) (y2 : Int32) (y3 : Int32) (σ : LH), s_Model_halfMinute_7 p0 n y2 y3 σ = some σ' → XJ G 570 598 p l e R s m args below meth c 4 (XQ G 570 598 below args s none σ') 0 0 7 [(0, .ref (G.2.2.1 + 570)), (1, .ref (G.2.2.1 + p0)), (2, .int y2), (3, .int y3)] [] σ := by
  intro n
  induction n with
  | zero => intro y2 y3 σ h0; cases h0
  | succ n ih => intro y2 y3 σ h0; exact bb_Model_halfMinute_7 C hr hk hd hR hp0 ih h0
def s_Model_halfMinute (p0 : Nat) (σ : LH) : Option (LH) :=
  if ib 48 290 then (
  xl (((σ.1 p0 (Int32.toNatClampNeg 48))) : Int32) fun x2 =>
  s_Model_halfMinute_7 p0 FUEL x2 0 σ) else none
theorem c_Model_halfMinute {G : XG} {l : Launch} {d : Nat} (hd : 122 ≤ d) {p0 : Nat} (hp0 : xin 570 598 p0 (2, 290, 0)) {σ σ' : LH} (h0 : s_Model_halfMinute p0 σ = some σ') : xM G 570 598 l y_Model_halfMinute prog_14_method_57_code 4 none d [.ref (G.2.2.1 + 570), .ref (G.2.2.1 + p0)] σ none σ' := by
  obtain ⟨d, rfl⟩ : ∃ q, d = q + 1 := ⟨d - 1, by omega⟩
  refine x_met R_Model rfl (by decide +kernel) (Nat.le_of_ble_eq_true rfl) fun p e s m below meth c C hr hk hR => ?_
  refine x_lv (lv' := [(0, .ref (G.2.2.1 + 570)), (1, .ref (G.2.2.1 + p0))]) C [0, 1] rfl ?_
  generalize xrm (d + 1) = R at hR ⊢
  unfold s_Model_halfMinute at h0
  refine x_aload_n C d_Model_halfMinute_0 1 rfl ?_
  refine x_bipush (v := 48) C d_Model_halfMinute_1 (by decide) ?_
  obtain ⟨g1, h0⟩ := xgo h0
  refine x_iald C hp0 (ib_in g1) d_Model_halfMinute_3 ?_
  obtain ⟨x2, ex2, h0⟩ := xlet h0
  refine x_name C ex2 ?_
  refine x_istore_n (lv' := [(2, .int x2), (0, .ref (G.2.2.1 + 570)), (1, .ref (G.2.2.1 + p0))]) C d_Model_halfMinute_4 rfl (by decide) rfl ?_
  refine x_iconst (v := 0) C d_Model_halfMinute_5 (by decide) ?_
  refine x_istore_n (lv' := [(3, .int 0), (2, .int x2), (0, .ref (G.2.2.1 + 570)), (1, .ref (G.2.2.1 + p0))]) C d_Model_halfMinute_6 rfl (by decide) rfl ?_
  exact x_lv C [2, 3, 1, 0] rfl (b_Model_halfMinute_7 C hr hk hd hR hp0 FUEL _ _ _ h0)
-- LostPlacesModel.goMinute([I)V
theorem d_Model_goMinute_0 : decode prog_14_method_58_code 0 = .ok (.aload_n 0, 1) := by decide +kernel
theorem d_Model_goMinute_1 : decode prog_14_method_58_code 1 = .ok (.aload_n 1, 1) := by decide +kernel
theorem d_Model_goMinute_2 : decode prog_14_method_58_code 2 = .ok (.invokevirtual 401, 3) := by decide +kernel
theorem d_Model_goMinute_5 : decode prog_14_method_58_code 5 = .ok (.iconst 0, 1) := by decide +kernel
theorem d_Model_goMinute_6 : decode prog_14_method_58_code 6 = .ok (.istore_n 2, 1) := by decide +kernel
theorem d_Model_goMinute_7 : decode prog_14_method_58_code 7 = .ok (.iload_n 2, 1) := by decide +kernel
theorem d_Model_goMinute_8 : decode prog_14_method_58_code 8 = .ok (.aload_n 0, 1) := by decide +kernel
theorem d_Model_goMinute_9 : decode prog_14_method_58_code 9 = .ok (.getfield 305, 3) := by decide +kernel
theorem d_Model_goMinute_12 : decode prog_14_method_58_code 12 = .ok (.if_icmp .ge 38, 3) := by decide +kernel
theorem d_Model_goMinute_15 : decode prog_14_method_58_code 15 = .ok (.aload_n 1, 1) := by decide +kernel
theorem d_Model_goMinute_16 : decode prog_14_method_58_code 16 = .ok (.iload_n 2, 1) := by decide +kernel
theorem d_Model_goMinute_17 : decode prog_14_method_58_code 17 = .ok (.invokestatic 361, 3) := by decide +kernel
theorem d_Model_goMinute_20 : decode prog_14_method_58_code 20 = .ok (.ifCond .eq 24, 3) := by decide +kernel
theorem d_Model_goMinute_23 : decode prog_14_method_58_code 23 = .ok (.aload_n 1, 1) := by decide +kernel
theorem d_Model_goMinute_24 : decode prog_14_method_58_code 24 = .ok (.iconst 4, 1) := by decide +kernel
theorem d_Model_goMinute_25 : decode prog_14_method_58_code 25 = .ok (.iload_n 2, 1) := by decide +kernel
theorem d_Model_goMinute_26 : decode prog_14_method_58_code 26 = .ok (.imul, 1) := by decide +kernel
theorem d_Model_goMinute_27 : decode prog_14_method_58_code 27 = .ok (.iconst 3, 1) := by decide +kernel
theorem d_Model_goMinute_28 : decode prog_14_method_58_code 28 = .ok (.iadd, 1) := by decide +kernel
theorem d_Model_goMinute_29 : decode prog_14_method_58_code 29 = .ok (.dup2, 1) := by decide +kernel
theorem d_Model_goMinute_30 : decode prog_14_method_58_code 30 = .ok (.iaload, 1) := by decide +kernel
theorem d_Model_goMinute_31 : decode prog_14_method_58_code 31 = .ok (.aload_n 0, 1) := by decide +kernel
theorem d_Model_goMinute_32 : decode prog_14_method_58_code 32 = .ok (.aload_n 1, 1) := by decide +kernel
theorem d_Model_goMinute_33 : decode prog_14_method_58_code 33 = .ok (.iload_n 2, 1) := by decide +kernel
theorem d_Model_goMinute_34 : decode prog_14_method_58_code 34 = .ok (.aload_n 1, 1) := by decide +kernel
theorem d_Model_goMinute_35 : decode prog_14_method_58_code 35 = .ok (.iconst 4, 1) := by decide +kernel
theorem d_Model_goMinute_36 : decode prog_14_method_58_code 36 = .ok (.iload_n 2, 1) := by decide +kernel
theorem d_Model_goMinute_37 : decode prog_14_method_58_code 37 = .ok (.imul, 1) := by decide +kernel
theorem d_Model_goMinute_38 : decode prog_14_method_58_code 38 = .ok (.iaload, 1) := by decide +kernel
theorem d_Model_goMinute_39 : decode prog_14_method_58_code 39 = .ok (.invokevirtual 357, 3) := by decide +kernel
theorem d_Model_goMinute_42 : decode prog_14_method_58_code 42 = .ok (.iadd, 1) := by decide +kernel
theorem d_Model_goMinute_43 : decode prog_14_method_58_code 43 = .ok (.iastore, 1) := by decide +kernel
theorem d_Model_goMinute_44 : decode prog_14_method_58_code 44 = .ok (.iinc 2 1, 3) := by decide +kernel
theorem d_Model_goMinute_47 : decode prog_14_method_58_code 47 = .ok (.goto (-40), 3) := by decide +kernel
theorem d_Model_goMinute_50 : decode prog_14_method_58_code 50 = .ok (.aload_n 1, 1) := by decide +kernel
theorem d_Model_goMinute_51 : decode prog_14_method_58_code 51 = .ok (.bipush 48, 2) := by decide +kernel
theorem d_Model_goMinute_53 : decode prog_14_method_58_code 53 = .ok (.dup2, 1) := by decide +kernel
theorem d_Model_goMinute_54 : decode prog_14_method_58_code 54 = .ok (.iaload, 1) := by decide +kernel
theorem d_Model_goMinute_55 : decode prog_14_method_58_code 55 = .ok (.iconst 1, 1) := by decide +kernel
theorem d_Model_goMinute_56 : decode prog_14_method_58_code 56 = .ok (.iadd, 1) := by decide +kernel
theorem d_Model_goMinute_57 : decode prog_14_method_58_code 57 = .ok (.iastore, 1) := by decide +kernel
theorem d_Model_goMinute_58 : decode prog_14_method_58_code 58 = .ok (.return_, 1) := by decide +kernel
def s_Model_goMinute_44 (p0 : Nat) (rec7 : Int32 → LH → Option (LH)) (y2 : Int32) (σ : LH) : Option (LH) :=
  xl ((y2 + 1) : Int32) fun x11 =>
  rec7 x11 σ
theorem b_Model_goMinute_44 {G : XG} {l : Launch} {p : Program} {e : Env} {R : Room} {s : State} {m : MethodId} {args : Array Value} {below : List Frame} {meth : Method} {c : Code} (C : XC G 570 598 p s m args c prog_14_method_58_code 3 R_Model) (hr : meth.sig.returnType = none) (hk : meth.locks = false) {d : Nat} (hd : 123 ≤ d + 1) (hR : xroom R (d + 1)) {p0 : Nat} (hp0 : xin 570 598 p0 (2, 290, 0)) {rec7 : Int32 → LH → Option (LH)} {σ' : LH} (hrec7 : ∀ (y2 : Int32) (σ : LH), rec7 y2 σ = some σ' → XJ G 570 598 p l e R s m args below meth c 3 (XQ G 570 598 below args s none σ') 0 0 7 [(0, .ref (G.2.2.1 + 570)), (1, .ref (G.2.2.1 + p0)), (2, .int y2)] [] σ) {y2 : Int32} {σ : LH} (h0 : s_Model_goMinute_44 p0 rec7 y2 σ = some σ') : XJ G 570 598 p l e R s m args below meth c 3 (XQ G 570 598 below args s none σ') 0 0 44 [(0, .ref (G.2.2.1 + 570)), (1, .ref (G.2.2.1 + p0)), (2, .int y2)] [] σ := by
  replace h0 := (show _ = _ from h0)
  unfold s_Model_goMinute_44 at h0
  obtain ⟨x11, ex11, h0⟩ := xlet h0
  refine x_iinc (lv' := [(2, .int x11), (0, .ref (G.2.2.1 + 570)), (1, .ref (G.2.2.1 + p0))]) C d_Model_goMinute_44 2 rfl ex11 (by decide) rfl ?_
  refine x_goto C 7 d_Model_goMinute_47 (by decide) ?_
  exact x_lv C [1, 2, 0] rfl (hrec7 _ _ h0)
def s_Model_goMinute_7_b (p0 : Nat) (rec7 : Int32 → LH → Option (LH)) (y2 : Int32) (σ : LH) : Option (LH) :=
  if (σ.1 570 27) ≤ y2 then (
   if ib 48 290 then (
   if ib 48 290 then (
   xl ((stI σ p0 (Int32.toNatClampNeg 48) ((σ.1 p0 (Int32.toNatClampNeg 48)) + 1)) : LH) fun σ6 =>
   some σ6) else none) else none)
  else (
   xb2 (s_Model_isHere p0 y2 σ) fun r8 σ9 =>
   if r8 = 0 then (
    s_Model_goMinute_44 p0 rec7 y2 σ9)
   else (
    if ib ((4 * y2) + 3) 290 then (
    if ib (4 * y2) 290 then (
    xb2 (s_Model_likesIn p0 y2 (σ9.1 p0 (Int32.toNatClampNeg (4 * y2))) σ9) fun r15 σ16 =>
    if ib ((4 * y2) + 3) 290 then (
    xl ((stI σ16 p0 (Int32.toNatClampNeg ((4 * y2) + 3)) ((σ9.1 p0 (Int32.toNatClampNeg ((4 * y2) + 3))) + r15)) : LH) fun σ18 =>
    s_Model_goMinute_44 p0 rec7 y2 σ18) else none) else none) else none))
def s_Model_goMinute_7 (p0 : Nat) : Nat → Int32 → LH → Option (LH)
  | 0, _, _ => none
  | n + 1, y2, σ => s_Model_goMinute_7_b p0 (s_Model_goMinute_7 p0 n) y2 σ
theorem bb_Model_goMinute_7 {G : XG} {l : Launch} {p : Program} {e : Env} {R : Room} {s : State} {m : MethodId} {args : Array Value} {below : List Frame} {meth : Method} {c : Code} (C : XC G 570 598 p s m args c prog_14_method_58_code 3 R_Model) (hr : meth.sig.returnType = none) (hk : meth.locks = false) {d : Nat} (hd : 123 ≤ d + 1) (hR : xroom R (d + 1)) {p0 : Nat} (hp0 : xin 570 598 p0 (2, 290, 0)) {rec7 : Int32 → LH → Option (LH)} {σ' : LH} (hrec7 : ∀ (y2 : Int32) (σ : LH), rec7 y2 σ = some σ' → XJ G 570 598 p l e R s m args below meth c 3 (XQ G 570 598 below args s none σ') 0 0 7 [(0, .ref (G.2.2.1 + 570)), (1, .ref (G.2.2.1 + p0)), (2, .int y2)] [] σ) {y2 : Int32} {σ : LH} (h0 : s_Model_goMinute_7_b p0 rec7 y2 σ = some σ') : XJ G 570 598 p l e R s m args below meth c 3 (XQ G 570 598 below args s none σ') 0 0 7 [(0, .ref (G.2.2.1 + 570)), (1, .ref (G.2.2.1 + p0)), (2, .int y2)] [] σ := by
  replace h0 := (show _ = _ from h0)
  unfold s_Model_goMinute_7_b at h0
  refine x_iload_n C d_Model_goMinute_7 2 rfl ?_
  refine x_aload_n C d_Model_goMinute_8 0 rfl ?_
  refine x_getI (y := 0) C fg_Model_305 k_570 rfl d_Model_goMinute_9 ?_
  refine x_icmp_ge C 50 d_Model_goMinute_12 (by decide) (fun q3 => ?_) (fun q3 => ?_)
  · replace h0 := xit q3 h0
    refine x_aload_n C d_Model_goMinute_50 1 rfl ?_
    refine x_bipush (v := 48) C d_Model_goMinute_51 (by decide) ?_
    refine x_dup2 C d_Model_goMinute_53 rfl rfl ?_
    obtain ⟨g4, h0⟩ := xgo h0
    refine x_iald C hp0 (ib_in g4) d_Model_goMinute_54 ?_
    refine x_iconst (v := 1) C d_Model_goMinute_55 (by decide) ?_
    refine x_iadd C d_Model_goMinute_56 ?_
    obtain ⟨g5, h0⟩ := xgo h0
    refine x_iast C hp0 (ib_in g5) d_Model_goMinute_57 ?_
    obtain ⟨σ6, eσ6, h0⟩ := xlet h0
    refine x_sig C eσ6 ?_
    exact x_vret C hr hk h0 d_Model_goMinute_58
  · replace h0 := xif q3 h0
    refine x_aload_n C d_Model_goMinute_15 1 rfl ?_
    refine x_iload_n C d_Model_goMinute_16 2 rfl ?_
    obtain ⟨r8, σ9, k7, h0⟩ := xbind2 h0
    refine x_callSi C hR (c_Model_isHere (d := d) (by omega) hp0 k7) cw_Model_361 w_1905 rfl rfl (Nat.le_of_ble_eq_true rfl) ⟨Nat.zero_le _, Nat.zero_le _⟩ d_Model_goMinute_17 ?_
    refine x_if_eq C 44 d_Model_goMinute_20 (by decide) (fun q10 => ?_) (fun q10 => ?_)
    · replace h0 := xit q10 h0
      exact x_lv C [0, 1, 2] rfl (b_Model_goMinute_44 C hr hk hd hR hp0 hrec7 h0)
    · replace h0 := xif q10 h0
      refine x_aload_n C d_Model_goMinute_23 1 rfl ?_
      refine x_iconst (v := 4) C d_Model_goMinute_24 (by decide) ?_
      refine x_iload_n C d_Model_goMinute_25 2 rfl ?_
      refine x_imul C d_Model_goMinute_26 ?_
      refine x_iconst (v := 3) C d_Model_goMinute_27 (by decide) ?_
      refine x_iadd C d_Model_goMinute_28 ?_
      refine x_dup2 C d_Model_goMinute_29 rfl rfl ?_
      obtain ⟨g12, h0⟩ := xgo h0
      refine x_iald C hp0 (ib_in g12) d_Model_goMinute_30 ?_
      refine x_aload_n C d_Model_goMinute_31 0 rfl ?_
      refine x_aload_n C d_Model_goMinute_32 1 rfl ?_
      refine x_iload_n C d_Model_goMinute_33 2 rfl ?_
      refine x_aload_n C d_Model_goMinute_34 1 rfl ?_
      refine x_iconst (v := 4) C d_Model_goMinute_35 (by decide) ?_
      refine x_iload_n C d_Model_goMinute_36 2 rfl ?_
      refine x_imul C d_Model_goMinute_37 ?_
      obtain ⟨g13, h0⟩ := xgo h0
      refine x_iald C hp0 (ib_in g13) d_Model_goMinute_38 ?_
      obtain ⟨r15, σ16, k14, h0⟩ := xbind2 h0
      refine x_callVi C hR (c_Model_likesIn (d := d) (by omega) hp0 k14) cw_Model_357 k_570 rfl rfl rfl (Nat.le_of_ble_eq_true rfl) ⟨Nat.zero_le _, Nat.zero_le _⟩ d_Model_goMinute_39 ?_
      refine x_iadd C d_Model_goMinute_42 ?_
      obtain ⟨g17, h0⟩ := xgo h0
      refine x_iast C hp0 (ib_in g17) d_Model_goMinute_43 ?_
      obtain ⟨σ18, eσ18, h0⟩ := xlet h0
      refine x_sig C eσ18 ?_
      exact x_lv C [0, 1, 2] rfl (b_Model_goMinute_44 C hr hk hd hR hp0 hrec7 h0)
theorem b_Model_goMinute_7 {G : XG} {l : Launch} {p : Program} {e : Env} {R : Room} {s : State} {m : MethodId} {args : Array Value} {below : List Frame} {meth : Method} {c : Code} (C : XC G 570 598 p s m args c prog_14_method_58_code 3 R_Model) (hr : meth.sig.returnType = none) (hk : meth.locks = false) {d : Nat} (hd : 123 ≤ d + 1) (hR : xroom R (d + 1)) {p0 : Nat} (hp0 : xin 570 598 p0 (2, 290, 0)) {σ' : LH} : ∀ (n : Nat) (y2 : Int32) (σ : LH), s_Model_goMinute_7 p0 n y2 σ = some σ' → XJ G 570 598 p l e R s m args below meth c 3 (XQ G 570 598 below args s none σ') 0 0 7 [(0, .ref (G.2.2.1 + 570)), (1, .ref (G.2.2.1 + p0)), (2, .int y2)] [] σ := by
  intro n
  induction n with
  | zero => intro y2 σ h0; cases h0
  | succ n ih => intro y2 σ h0; exact bb_Model_goMinute_7 C hr hk hd hR hp0 ih h0
def s_Model_goMinute (p0 : Nat) (σ : LH) : Option (LH) :=
  xb1 (s_Model_halfMinute p0 σ) fun σ2 =>
  s_Model_goMinute_7 p0 FUEL 0 σ2
theorem c_Model_goMinute {G : XG} {l : Launch} {d : Nat} (hd : 123 ≤ d) {p0 : Nat} (hp0 : xin 570 598 p0 (2, 290, 0)) {σ σ' : LH} (h0 : s_Model_goMinute p0 σ = some σ') : xM G 570 598 l y_Model_goMinute prog_14_method_58_code 3 none d [.ref (G.2.2.1 + 570), .ref (G.2.2.1 + p0)] σ none σ' := by
  obtain ⟨d, rfl⟩ : ∃ q, d = q + 1 := ⟨d - 1, by omega⟩
  refine x_met R_Model rfl (by decide +kernel) (Nat.le_of_ble_eq_true rfl) fun p e s m below meth c C hr hk hR => ?_
  refine x_lv (lv' := [(0, .ref (G.2.2.1 + 570)), (1, .ref (G.2.2.1 + p0))]) C [0, 1] rfl ?_
  generalize xrm (d + 1) = R at hR ⊢
  unfold s_Model_goMinute at h0
  refine x_aload_n C d_Model_goMinute_0 0 rfl ?_
  refine x_aload_n C d_Model_goMinute_1 1 rfl ?_
  obtain ⟨σ2, k1, h0⟩ := xbind1 h0
  refine x_callVv C hR (c_Model_halfMinute (d := d) (by omega) hp0 k1) cw_Model_401 k_570 rfl rfl rfl (Nat.le_of_ble_eq_true rfl) ⟨Nat.zero_le _, Nat.zero_le _⟩ d_Model_goMinute_2 ?_
  refine x_iconst (v := 0) C d_Model_goMinute_5 (by decide) ?_
  refine x_istore_n (lv' := [(2, .int 0), (0, .ref (G.2.2.1 + 570)), (1, .ref (G.2.2.1 + p0))]) C d_Model_goMinute_6 rfl (by decide) rfl ?_
  exact x_lv C [1, 2, 0] rfl (b_Model_goMinute_7 C hr hk hd hR hp0 FUEL _ _ h0)
-- LostPlacesModel.toEnd([I)V
theorem d_Model_toEnd_0 : decode prog_14_method_59_code 0 = .ok (.aload_n 0, 1) := by decide +kernel
theorem d_Model_toEnd_1 : decode prog_14_method_59_code 1 = .ok (.iconst 0, 1) := by decide +kernel
theorem d_Model_toEnd_2 : decode prog_14_method_59_code 2 = .ok (.putfield 374, 3) := by decide +kernel
theorem d_Model_toEnd_5 : decode prog_14_method_59_code 5 = .ok (.aload_n 1, 1) := by decide +kernel
theorem d_Model_toEnd_6 : decode prog_14_method_59_code 6 = .ok (.bipush 48, 2) := by decide +kernel
theorem d_Model_toEnd_8 : decode prog_14_method_59_code 8 = .ok (.iaload, 1) := by decide +kernel
theorem d_Model_toEnd_9 : decode prog_14_method_59_code 9 = .ok (.aload_n 0, 1) := by decide +kernel
theorem d_Model_toEnd_10 : decode prog_14_method_59_code 10 = .ok (.getfield 55, 3) := by decide +kernel
theorem d_Model_toEnd_13 : decode prog_14_method_59_code 13 = .ok (.iconst 1, 1) := by decide +kernel
theorem d_Model_toEnd_14 : decode prog_14_method_59_code 14 = .ok (.iaload, 1) := by decide +kernel
theorem d_Model_toEnd_15 : decode prog_14_method_59_code 15 = .ok (.if_icmp .ge 11, 3) := by decide +kernel
theorem d_Model_toEnd_18 : decode prog_14_method_59_code 18 = .ok (.aload_n 0, 1) := by decide +kernel
theorem d_Model_toEnd_19 : decode prog_14_method_59_code 19 = .ok (.aload_n 1, 1) := by decide +kernel
theorem d_Model_toEnd_20 : decode prog_14_method_59_code 20 = .ok (.invokevirtual 404, 3) := by decide +kernel
theorem d_Model_toEnd_23 : decode prog_14_method_59_code 23 = .ok (.goto (-18), 3) := by decide +kernel
theorem d_Model_toEnd_26 : decode prog_14_method_59_code 26 = .ok (.return_, 1) := by decide +kernel
def s_Model_toEnd_5_b (p0 : Nat) (rec5 : LH → Option (LH)) (σ : LH) : Option (LH) :=
  if ib 48 290 then (
  if ib 1 2 then (
  if (σ.1 581 (Int32.toNatClampNeg 1)) ≤ (σ.1 p0 (Int32.toNatClampNeg 48)) then (
   some σ)
  else (
   xb1 (s_Model_goMinute p0 σ) fun σ6 =>
   rec5 σ6)) else none) else none
def s_Model_toEnd_5 (p0 : Nat) : Nat → LH → Option (LH)
  | 0, _ => none
  | n + 1, σ => s_Model_toEnd_5_b p0 (s_Model_toEnd_5 p0 n) σ
theorem bb_Model_toEnd_5 {G : XG} {l : Launch} {p : Program} {e : Env} {R : Room} {s : State} {m : MethodId} {args : Array Value} {below : List Frame} {meth : Method} {c : Code} (C : XC G 570 598 p s m args c prog_14_method_59_code 2 R_Model) (hr : meth.sig.returnType = none) (hk : meth.locks = false) {d : Nat} (hd : 124 ≤ d + 1) (hR : xroom R (d + 1)) {p0 : Nat} (hp0 : xin 570 598 p0 (2, 290, 0)) {rec5 : LH → Option (LH)} {σ' : LH} (hrec5 : ∀ (σ : LH), rec5 σ = some σ' → XJ G 570 598 p l e R s m args below meth c 2 (XQ G 570 598 below args s none σ') 0 0 5 [(0, .ref (G.2.2.1 + 570)), (1, .ref (G.2.2.1 + p0))] [] σ) {σ : LH} (h0 : s_Model_toEnd_5_b p0 rec5 σ = some σ') : XJ G 570 598 p l e R s m args below meth c 2 (XQ G 570 598 below args s none σ') 0 0 5 [(0, .ref (G.2.2.1 + 570)), (1, .ref (G.2.2.1 + p0))] [] σ := by
  replace h0 := (show _ = _ from h0)
  unfold s_Model_toEnd_5_b at h0
  refine x_aload_n C d_Model_toEnd_5 1 rfl ?_
  refine x_bipush (v := 48) C d_Model_toEnd_6 (by decide) ?_
  obtain ⟨g2, h0⟩ := xgo h0
  refine x_iald C hp0 (ib_in g2) d_Model_toEnd_8 ?_
  refine x_aload_n C d_Model_toEnd_9 0 rfl ?_
  refine x_getA (y := 581) C fg_Model_55 k_570 rfl d_Model_toEnd_10 ?_
  refine x_iconst (v := 1) C d_Model_toEnd_13 (by decide) ?_
  obtain ⟨g3, h0⟩ := xgo h0
  refine x_iald C k_581 (ib_in g3) d_Model_toEnd_14 ?_
  refine x_icmp_ge C 26 d_Model_toEnd_15 (by decide) (fun q4 => ?_) (fun q4 => ?_)
  · replace h0 := xit q4 h0
    exact x_vret C hr hk h0 d_Model_toEnd_26
  · replace h0 := xif q4 h0
    refine x_aload_n C d_Model_toEnd_18 0 rfl ?_
    refine x_aload_n C d_Model_toEnd_19 1 rfl ?_
    obtain ⟨σ6, k5, h0⟩ := xbind1 h0
    refine x_callVv C hR (c_Model_goMinute (d := d) (by omega) hp0 k5) cw_Model_404 k_570 rfl rfl rfl (Nat.le_of_ble_eq_true rfl) ⟨Nat.zero_le _, Nat.zero_le _⟩ d_Model_toEnd_20 ?_
    refine x_goto C 5 d_Model_toEnd_23 (by decide) ?_
    exact x_lv C [0, 1] rfl (hrec5 _ h0)
theorem b_Model_toEnd_5 {G : XG} {l : Launch} {p : Program} {e : Env} {R : Room} {s : State} {m : MethodId} {args : Array Value} {below : List Frame} {meth : Method} {c : Code} (C : XC G 570 598 p s m args c prog_14_method_59_code 2 R_Model) (hr : meth.sig.returnType = none) (hk : meth.locks = false) {d : Nat} (hd : 124 ≤ d + 1) (hR : xroom R (d + 1)) {p0 : Nat} (hp0 : xin 570 598 p0 (2, 290, 0)) {σ' : LH} : ∀ (n : Nat) (σ : LH), s_Model_toEnd_5 p0 n σ = some σ' → XJ G 570 598 p l e R s m args below meth c 2 (XQ G 570 598 below args s none σ') 0 0 5 [(0, .ref (G.2.2.1 + 570)), (1, .ref (G.2.2.1 + p0))] [] σ := by
  intro n
  induction n with
  | zero => intro σ h0; cases h0
  | succ n ih => intro σ h0; exact bb_Model_toEnd_5 C hr hk hd hR hp0 ih h0
def s_Model_toEnd (p0 : Nat) (σ : LH) : Option (LH) :=
  xl ((stI σ 570 41 0) : LH) fun σ1 =>
  s_Model_toEnd_5 p0 FUEL σ1
theorem c_Model_toEnd {G : XG} {l : Launch} {d : Nat} (hd : 124 ≤ d) {p0 : Nat} (hp0 : xin 570 598 p0 (2, 290, 0)) {σ σ' : LH} (h0 : s_Model_toEnd p0 σ = some σ') : xM G 570 598 l y_Model_toEnd prog_14_method_59_code 2 none d [.ref (G.2.2.1 + 570), .ref (G.2.2.1 + p0)] σ none σ' := by
  obtain ⟨d, rfl⟩ : ∃ q, d = q + 1 := ⟨d - 1, by omega⟩
  refine x_met R_Model rfl (by decide +kernel) (Nat.le_of_ble_eq_true rfl) fun p e s m below meth c C hr hk hR => ?_
  refine x_lv (lv' := [(0, .ref (G.2.2.1 + 570)), (1, .ref (G.2.2.1 + p0))]) C [0, 1] rfl ?_
  generalize xrm (d + 1) = R at hR ⊢
  unfold s_Model_toEnd at h0
  refine x_aload_n C d_Model_toEnd_0 0 rfl ?_
  refine x_iconst (v := 0) C d_Model_toEnd_1 (by decide) ?_
  refine x_putI (y := 0) C fp_Model_374 k_570 rfl rfl rfl d_Model_toEnd_2 ?_
  obtain ⟨σ1, eσ1, h0⟩ := xlet h0
  refine x_sig C eσ1 ?_
  exact x_lv C [0, 1] rfl (b_Model_toEnd_5 C hr hk hd hR hp0 FUEL _ h0)
-- LostPlacesModel.seat(II)I
theorem d_Model_seat_0 : decode prog_14_method_60_code 0 = .ok (.aload_n 0, 1) := by decide +kernel
theorem d_Model_seat_1 : decode prog_14_method_60_code 1 = .ok (.iconst 0, 1) := by decide +kernel
theorem d_Model_seat_2 : decode prog_14_method_60_code 2 = .ok (.putfield 114, 3) := by decide +kernel
theorem d_Model_seat_5 : decode prog_14_method_60_code 5 = .ok (.aload_n 0, 1) := by decide +kernel
theorem d_Model_seat_6 : decode prog_14_method_60_code 6 = .ok (.iload_n 1, 1) := by decide +kernel
theorem d_Model_seat_7 : decode prog_14_method_60_code 7 = .ok (.invokevirtual 407, 3) := by decide +kernel
theorem d_Model_seat_10 : decode prog_14_method_60_code 10 = .ok (.ifCond .eq 15, 3) := by decide +kernel
theorem d_Model_seat_13 : decode prog_14_method_60_code 13 = .ok (.iload_n 2, 1) := by decide +kernel
theorem d_Model_seat_14 : decode prog_14_method_60_code 14 = .ok (.i2l, 1) := by decide +kernel
theorem d_Model_seat_15 : decode prog_14_method_60_code 15 = .ok (.lconst 0, 1) := by decide +kernel
theorem d_Model_seat_16 : decode prog_14_method_60_code 16 = .ok (.ldc2_w 410, 3) := by decide +kernel
theorem d_Model_seat_19 : decode prog_14_method_60_code 19 = .ok (.invokestatic 235, 3) := by decide +kernel
theorem d_Model_seat_22 : decode prog_14_method_60_code 22 = .ok (.ifCond .ne 5, 3) := by decide +kernel
theorem d_Model_seat_25 : decode prog_14_method_60_code 25 = .ok (.iconst (-1), 1) := by decide +kernel
theorem d_Model_seat_26 : decode prog_14_method_60_code 26 = .ok (.ireturn, 1) := by decide +kernel
theorem d_Model_seat_27 : decode prog_14_method_60_code 27 = .ok (.iload_n 2, 1) := by decide +kernel
theorem d_Model_seat_28 : decode prog_14_method_60_code 28 = .ok (.iconst 3, 1) := by decide +kernel
theorem d_Model_seat_29 : decode prog_14_method_60_code 29 = .ok (.if_icmp .ge 16, 3) := by decide +kernel
theorem d_Model_seat_32 : decode prog_14_method_60_code 32 = .ok (.aload_n 0, 1) := by decide +kernel
theorem d_Model_seat_33 : decode prog_14_method_60_code 33 = .ok (.getfield 37, 3) := by decide +kernel
theorem d_Model_seat_36 : decode prog_14_method_60_code 36 = .ok (.iconst 3, 1) := by decide +kernel
theorem d_Model_seat_37 : decode prog_14_method_60_code 37 = .ok (.iload_n 1, 1) := by decide +kernel
theorem d_Model_seat_38 : decode prog_14_method_60_code 38 = .ok (.imul, 1) := by decide +kernel
theorem d_Model_seat_39 : decode prog_14_method_60_code 39 = .ok (.iload_n 2, 1) := by decide +kernel
theorem d_Model_seat_40 : decode prog_14_method_60_code 40 = .ok (.iadd, 1) := by decide +kernel
theorem d_Model_seat_41 : decode prog_14_method_60_code 41 = .ok (.iaload, 1) := by decide +kernel
theorem d_Model_seat_42 : decode prog_14_method_60_code 42 = .ok (.goto 35, 3) := by decide +kernel
theorem d_Model_seat_45 : decode prog_14_method_60_code 45 = .ok (.iload_n 2, 1) := by decide +kernel
theorem d_Model_seat_46 : decode prog_14_method_60_code 46 = .ok (.iconst 3, 1) := by decide +kernel
theorem d_Model_seat_47 : decode prog_14_method_60_code 47 = .ok (.if_icmp .ne 15, 3) := by decide +kernel
theorem d_Model_seat_50 : decode prog_14_method_60_code 50 = .ok (.aload_n 0, 1) := by decide +kernel
theorem d_Model_seat_51 : decode prog_14_method_60_code 51 = .ok (.aload_n 0, 1) := by decide +kernel
theorem d_Model_seat_52 : decode prog_14_method_60_code 52 = .ok (.getfield 61, 3) := by decide +kernel
theorem d_Model_seat_55 : decode prog_14_method_60_code 55 = .ok (.iload_n 1, 1) := by decide +kernel
theorem d_Model_seat_56 : decode prog_14_method_60_code 56 = .ok (.invokevirtual 320, 3) := by decide +kernel
theorem d_Model_seat_59 : decode prog_14_method_60_code 59 = .ok (.goto 18, 3) := by decide +kernel
theorem d_Model_seat_62 : decode prog_14_method_60_code 62 = .ok (.aload_n 0, 1) := by decide +kernel
theorem d_Model_seat_63 : decode prog_14_method_60_code 63 = .ok (.getfield 61, 3) := by decide +kernel
theorem d_Model_seat_66 : decode prog_14_method_60_code 66 = .ok (.bipush 32, 2) := by decide +kernel
theorem d_Model_seat_68 : decode prog_14_method_60_code 68 = .ok (.iconst 2, 1) := by decide +kernel
theorem d_Model_seat_69 : decode prog_14_method_60_code 69 = .ok (.iload_n 1, 1) := by decide +kernel
theorem d_Model_seat_70 : decode prog_14_method_60_code 70 = .ok (.imul, 1) := by decide +kernel
theorem d_Model_seat_71 : decode prog_14_method_60_code 71 = .ok (.iadd, 1) := by decide +kernel
theorem d_Model_seat_72 : decode prog_14_method_60_code 72 = .ok (.iload_n 2, 1) := by decide +kernel
theorem d_Model_seat_73 : decode prog_14_method_60_code 73 = .ok (.iadd, 1) := by decide +kernel
theorem d_Model_seat_74 : decode prog_14_method_60_code 74 = .ok (.iconst 4, 1) := by decide +kernel
theorem d_Model_seat_75 : decode prog_14_method_60_code 75 = .ok (.isub, 1) := by decide +kernel
theorem d_Model_seat_76 : decode prog_14_method_60_code 76 = .ok (.iaload, 1) := by decide +kernel
theorem d_Model_seat_77 : decode prog_14_method_60_code 77 = .ok (.ireturn, 1) := by decide +kernel
def s_Model_seat_25 (p0 : Int32) (p1 : Int32) (σ : LH) : Option (Int32 × LH) :=
  some ((-1), σ)
theorem b_Model_seat_25 {G : XG} {l : Launch} {p : Program} {e : Env} {R : Room} {s : State} {m : MethodId} {args : Array Value} {below : List Frame} {meth : Method} {c : Code} (C : XC G 570 598 p s m args c prog_14_method_60_code 3 R_Model) (hr : meth.sig.returnType = (some .int)) (hk : meth.locks = false) {d : Nat} (hd : 2 ≤ d + 1) (hR : xroom R (d + 1)) {p0 : Int32} {p1 : Int32} {σ' : LH} {r : Int32} {σ : LH} (h0 : s_Model_seat_25 p0 p1 σ = some (r, σ')) : XJ G 570 598 p l e R s m args below meth c 3 (XQ G 570 598 below args s (some (.int r)) σ') 0 0 25 [] [] σ := by
  replace h0 := (show _ = _ from h0)
  unfold s_Model_seat_25 at h0
  refine x_iconst (v := (-1)) C d_Model_seat_25 (by decide) ?_
  exact x_iret C hr hk h0 d_Model_seat_26
def s_Model_seat_77 (p0 : Int32) (p1 : Int32) (z0 : Int32) (σ : LH) : Option (Int32 × LH) :=
  some (z0, σ)
theorem b_Model_seat_77 {G : XG} {l : Launch} {p : Program} {e : Env} {R : Room} {s : State} {m : MethodId} {args : Array Value} {below : List Frame} {meth : Method} {c : Code} (C : XC G 570 598 p s m args c prog_14_method_60_code 3 R_Model) (hr : meth.sig.returnType = (some .int)) (hk : meth.locks = false) {d : Nat} (hd : 2 ≤ d + 1) (hR : xroom R (d + 1)) {p0 : Int32} {p1 : Int32} {σ' : LH} {r : Int32} {z0 : Int32} {σ : LH} (h0 : s_Model_seat_77 p0 p1 z0 σ = some (r, σ')) : XJ G 570 598 p l e R s m args below meth c 3 (XQ G 570 598 below args s (some (.int r)) σ') 0 0 77 [] [.int z0] σ := by
  replace h0 := (show _ = _ from h0)
  unfold s_Model_seat_77 at h0
  exact x_iret C hr hk h0 d_Model_seat_77
def s_Model_seat (p0 : Int32) (p1 : Int32) (σ : LH) : Option (Int32 × LH) :=
  xl ((stI σ 570 0 0) : LH) fun σ1 =>
  xb2 (s_Model_isSeat p0 σ1) fun r3 σ4 =>
  if r3 = 0 then (
   s_Model_seat_25 p0 p1 σ4)
  else (
   xb2 (s_Model_isIn (Int32.toInt64 p1) 0 5 σ4) fun r7 σ8 =>
   if r7 = 0 then (
    s_Model_seat_25 p0 p1 σ8)
   else (
    if 3 ≤ p1 then (
     if p1 = 3 then (
      xb2 (s_Model_sitsOn 583 p0 σ8) fun r13 σ14 =>
      s_Model_seat_77 p0 p1 r13 σ14)
     else (
      if ib (((32 + (2 * p0)) + p1) - 4) 290 then (
      s_Model_seat_77 p0 p1 (σ8.1 583 (Int32.toNatClampNeg (((32 + (2 * p0)) + p1) - 4))) σ8) else none))
    else (
     if ib ((3 * p0) + p1) 24 then (
     s_Model_seat_77 p0 p1 (σ8.1 575 (Int32.toNatClampNeg ((3 * p0) + p1))) σ8) else none)))
theorem c_Model_seat {G : XG} {l : Launch} {d : Nat} (hd : 2 ≤ d) {p0 : Int32} {p1 : Int32} {σ σ' : LH} {r : Int32} (h0 : s_Model_seat p0 p1 σ = some (r, σ')) : xM G 570 598 l y_Model_seat prog_14_method_60_code 3 (some .int) d [.ref (G.2.2.1 + 570), .int p0, .int p1] σ (some (.int r)) σ' := by
  obtain ⟨d, rfl⟩ : ∃ q, d = q + 1 := ⟨d - 1, by omega⟩
  refine x_met R_Model rfl (by decide +kernel) (Nat.le_of_ble_eq_true rfl) fun p e s m below meth c C hr hk hR => ?_
  refine x_lv (lv' := [(0, .ref (G.2.2.1 + 570)), (1, .int p0), (2, .int p1)]) C [0, 1, 2] rfl ?_
  generalize xrm (d + 1) = R at hR ⊢
  unfold s_Model_seat at h0
  refine x_aload_n C d_Model_seat_0 0 rfl ?_
  refine x_iconst (v := 0) C d_Model_seat_1 (by decide) ?_
  refine x_putI (y := 0) C fp_Model_114 k_570 rfl rfl rfl d_Model_seat_2 ?_
  obtain ⟨σ1, eσ1, h0⟩ := xlet h0
  refine x_sig C eσ1 ?_
  refine x_aload_n C d_Model_seat_5 0 rfl ?_
  refine x_iload_n C d_Model_seat_6 1 rfl ?_
  obtain ⟨r3, σ4, k2, h0⟩ := xbind2 h0
  refine x_callVi C hR (c_Model_isSeat (d := d) (by omega) k2) cw_Model_407 k_570 rfl rfl rfl (Nat.le_of_ble_eq_true rfl) ⟨Nat.zero_le _, Nat.zero_le _⟩ d_Model_seat_7 ?_
  refine x_if_eq C 25 d_Model_seat_10 (by decide) (fun q5 => ?_) (fun q5 => ?_)
  · replace h0 := xit q5 h0
    exact x_lv C [] rfl (b_Model_seat_25 C hr hk hd hR h0)
  · replace h0 := xif q5 h0
    refine x_iload_n C d_Model_seat_13 2 rfl ?_
    refine x_i2l C d_Model_seat_14 ?_
    refine x_lconst (v := 0) C d_Model_seat_15 (by decide) ?_
    refine x_ldc2 (v := 5) C w_1851 d_Model_seat_16 ?_
    obtain ⟨r7, σ8, k6, h0⟩ := xbind2 h0
    refine x_callSi C hR (c_Model_isIn (d := d) (by omega) k6) cw_Model_235 w_1695 rfl rfl (Nat.le_of_ble_eq_true rfl) ⟨Nat.zero_le _, Nat.zero_le _⟩ d_Model_seat_19 ?_
    refine x_if_ne C 27 d_Model_seat_22 (by decide) (fun q9 => ?_) (fun q9 => ?_)
    · replace h0 := xif q9 h0
      refine x_iload_n C d_Model_seat_27 2 rfl ?_
      refine x_iconst (v := 3) C d_Model_seat_28 (by decide) ?_
      refine x_icmp_ge C 45 d_Model_seat_29 (by decide) (fun q10 => ?_) (fun q10 => ?_)
      · replace h0 := xit q10 h0
        refine x_iload_n C d_Model_seat_45 2 rfl ?_
        refine x_iconst (v := 3) C d_Model_seat_46 (by decide) ?_
        refine x_icmp_ne C 62 d_Model_seat_47 (by decide) (fun q11 => ?_) (fun q11 => ?_)
        · replace h0 := xif q11 h0
          refine x_aload_n C d_Model_seat_62 0 rfl ?_
          refine x_getA (y := 583) C fg_Model_61 k_570 rfl d_Model_seat_63 ?_
          refine x_bipush (v := 32) C d_Model_seat_66 (by decide) ?_
          refine x_iconst (v := 2) C d_Model_seat_68 (by decide) ?_
          refine x_iload_n C d_Model_seat_69 1 rfl ?_
          refine x_imul C d_Model_seat_70 ?_
          refine x_iadd C d_Model_seat_71 ?_
          refine x_iload_n C d_Model_seat_72 2 rfl ?_
          refine x_iadd C d_Model_seat_73 ?_
          refine x_iconst (v := 4) C d_Model_seat_74 (by decide) ?_
          refine x_isub C d_Model_seat_75 ?_
          obtain ⟨g15, h0⟩ := xgo h0
          refine x_iald C k_583 (ib_in g15) d_Model_seat_76 ?_
          exact x_lv C [] rfl (b_Model_seat_77 C hr hk hd hR h0)
        · replace h0 := xit q11 h0
          refine x_aload_n C d_Model_seat_50 0 rfl ?_
          refine x_aload_n C d_Model_seat_51 0 rfl ?_
          refine x_getA (y := 583) C fg_Model_61 k_570 rfl d_Model_seat_52 ?_
          refine x_iload_n C d_Model_seat_55 1 rfl ?_
          obtain ⟨r13, σ14, k12, h0⟩ := xbind2 h0
          refine x_callVi C hR (c_Model_sitsOn (d := d) (by omega) k_583 k12) cw_Model_320 k_570 rfl rfl rfl (Nat.le_of_ble_eq_true rfl) ⟨Nat.zero_le _, Nat.zero_le _⟩ d_Model_seat_56 ?_
          refine x_goto C 77 d_Model_seat_59 (by decide) ?_
          exact x_lv C [] rfl (b_Model_seat_77 C hr hk hd hR h0)
      · replace h0 := xif q10 h0
        refine x_aload_n C d_Model_seat_32 0 rfl ?_
        refine x_getA (y := 575) C fg_Model_37 k_570 rfl d_Model_seat_33 ?_
        refine x_iconst (v := 3) C d_Model_seat_36 (by decide) ?_
        refine x_iload_n C d_Model_seat_37 1 rfl ?_
        refine x_imul C d_Model_seat_38 ?_
        refine x_iload_n C d_Model_seat_39 2 rfl ?_
        refine x_iadd C d_Model_seat_40 ?_
        obtain ⟨g16, h0⟩ := xgo h0
        refine x_iald C k_575 (ib_in g16) d_Model_seat_41 ?_
        refine x_goto C 77 d_Model_seat_42 (by decide) ?_
        exact x_lv C [] rfl (b_Model_seat_77 C hr hk hd hR h0)
    · replace h0 := xit q9 h0
      exact x_lv C [] rfl (b_Model_seat_25 C hr hk hd hR h0)
-- LostPlacesModel.sitter(II)I
theorem d_Model_sitter_0 : decode prog_14_method_61_code 0 = .ok (.aload_n 0, 1) := by decide +kernel
theorem d_Model_sitter_1 : decode prog_14_method_61_code 1 = .ok (.aload_n 0, 1) := by decide +kernel
theorem d_Model_sitter_2 : decode prog_14_method_61_code 2 = .ok (.iload_n 1, 1) := by decide +kernel
theorem d_Model_sitter_3 : decode prog_14_method_61_code 3 = .ok (.invokevirtual 412, 3) := by decide +kernel
theorem d_Model_sitter_6 : decode prog_14_method_61_code 6 = .ok (.ifCond .eq 19, 3) := by decide +kernel
theorem d_Model_sitter_9 : decode prog_14_method_61_code 9 = .ok (.iload_n 2, 1) := by decide +kernel
theorem d_Model_sitter_10 : decode prog_14_method_61_code 10 = .ok (.i2l, 1) := by decide +kernel
theorem d_Model_sitter_11 : decode prog_14_method_61_code 11 = .ok (.lconst 0, 1) := by decide +kernel
theorem d_Model_sitter_12 : decode prog_14_method_61_code 12 = .ok (.ldc2_w 410, 3) := by decide +kernel
theorem d_Model_sitter_15 : decode prog_14_method_61_code 15 = .ok (.invokestatic 235, 3) := by decide +kernel
theorem d_Model_sitter_18 : decode prog_14_method_61_code 18 = .ok (.ifCond .eq 7, 3) := by decide +kernel
theorem d_Model_sitter_21 : decode prog_14_method_61_code 21 = .ok (.iconst 0, 1) := by decide +kernel
theorem d_Model_sitter_22 : decode prog_14_method_61_code 22 = .ok (.goto 4, 3) := by decide +kernel
theorem d_Model_sitter_25 : decode prog_14_method_61_code 25 = .ok (.iconst 1, 1) := by decide +kernel
theorem d_Model_sitter_26 : decode prog_14_method_61_code 26 = .ok (.putfield 114, 3) := by decide +kernel
theorem d_Model_sitter_29 : decode prog_14_method_61_code 29 = .ok (.aload_n 0, 1) := by decide +kernel
theorem d_Model_sitter_30 : decode prog_14_method_61_code 30 = .ok (.getfield 114, 3) := by decide +kernel
theorem d_Model_sitter_33 : decode prog_14_method_61_code 33 = .ok (.ifCond .le 5, 3) := by decide +kernel
theorem d_Model_sitter_36 : decode prog_14_method_61_code 36 = .ok (.iconst 0, 1) := by decide +kernel
theorem d_Model_sitter_37 : decode prog_14_method_61_code 37 = .ok (.ireturn, 1) := by decide +kernel
theorem d_Model_sitter_38 : decode prog_14_method_61_code 38 = .ok (.iload_n 2, 1) := by decide +kernel
theorem d_Model_sitter_39 : decode prog_14_method_61_code 39 = .ok (.iconst 2, 1) := by decide +kernel
theorem d_Model_sitter_40 : decode prog_14_method_61_code 40 = .ok (.if_icmp .ge 14, 3) := by decide +kernel
theorem d_Model_sitter_43 : decode prog_14_method_61_code 43 = .ok (.aload_n 0, 1) := by decide +kernel
theorem d_Model_sitter_44 : decode prog_14_method_61_code 44 = .ok (.getfield 61, 3) := by decide +kernel
theorem d_Model_sitter_47 : decode prog_14_method_61_code 47 = .ok (.iconst 4, 1) := by decide +kernel
theorem d_Model_sitter_48 : decode prog_14_method_61_code 48 = .ok (.iload_n 1, 1) := by decide +kernel
theorem d_Model_sitter_49 : decode prog_14_method_61_code 49 = .ok (.imul, 1) := by decide +kernel
theorem d_Model_sitter_50 : decode prog_14_method_61_code 50 = .ok (.iload_n 2, 1) := by decide +kernel
theorem d_Model_sitter_51 : decode prog_14_method_61_code 51 = .ok (.iadd, 1) := by decide +kernel
theorem d_Model_sitter_52 : decode prog_14_method_61_code 52 = .ok (.iaload, 1) := by decide +kernel
theorem d_Model_sitter_53 : decode prog_14_method_61_code 53 = .ok (.ireturn, 1) := by decide +kernel
theorem d_Model_sitter_54 : decode prog_14_method_61_code 54 = .ok (.iload_n 2, 1) := by decide +kernel
theorem d_Model_sitter_55 : decode prog_14_method_61_code 55 = .ok (.iconst 4, 1) := by decide +kernel
theorem d_Model_sitter_56 : decode prog_14_method_61_code 56 = .ok (.if_icmp .ge 18, 3) := by decide +kernel
theorem d_Model_sitter_59 : decode prog_14_method_61_code 59 = .ok (.aload_n 0, 1) := by decide +kernel
theorem d_Model_sitter_60 : decode prog_14_method_61_code 60 = .ok (.getfield 43, 3) := by decide +kernel
theorem d_Model_sitter_63 : decode prog_14_method_61_code 63 = .ok (.iconst 4, 1) := by decide +kernel
theorem d_Model_sitter_64 : decode prog_14_method_61_code 64 = .ok (.iload_n 1, 1) := by decide +kernel
theorem d_Model_sitter_65 : decode prog_14_method_61_code 65 = .ok (.imul, 1) := by decide +kernel
theorem d_Model_sitter_66 : decode prog_14_method_61_code 66 = .ok (.iload_n 2, 1) := by decide +kernel
theorem d_Model_sitter_67 : decode prog_14_method_61_code 67 = .ok (.iadd, 1) := by decide +kernel
theorem d_Model_sitter_68 : decode prog_14_method_61_code 68 = .ok (.iconst 1, 1) := by decide +kernel
theorem d_Model_sitter_69 : decode prog_14_method_61_code 69 = .ok (.isub, 1) := by decide +kernel
theorem d_Model_sitter_70 : decode prog_14_method_61_code 70 = .ok (.iaload, 1) := by decide +kernel
theorem d_Model_sitter_71 : decode prog_14_method_61_code 71 = .ok (.goto 15, 3) := by decide +kernel
theorem d_Model_sitter_74 : decode prog_14_method_61_code 74 = .ok (.aload_n 0, 1) := by decide +kernel
theorem d_Model_sitter_75 : decode prog_14_method_61_code 75 = .ok (.getfield 61, 3) := by decide +kernel
theorem d_Model_sitter_78 : decode prog_14_method_61_code 78 = .ok (.iconst 4, 1) := by decide +kernel
theorem d_Model_sitter_79 : decode prog_14_method_61_code 79 = .ok (.iload_n 1, 1) := by decide +kernel
theorem d_Model_sitter_80 : decode prog_14_method_61_code 80 = .ok (.imul, 1) := by decide +kernel
theorem d_Model_sitter_81 : decode prog_14_method_61_code 81 = .ok (.iload_n 2, 1) := by decide +kernel
theorem d_Model_sitter_82 : decode prog_14_method_61_code 82 = .ok (.iadd, 1) := by decide +kernel
theorem d_Model_sitter_83 : decode prog_14_method_61_code 83 = .ok (.iconst 2, 1) := by decide +kernel
theorem d_Model_sitter_84 : decode prog_14_method_61_code 84 = .ok (.isub, 1) := by decide +kernel
theorem d_Model_sitter_85 : decode prog_14_method_61_code 85 = .ok (.iaload, 1) := by decide +kernel
theorem d_Model_sitter_86 : decode prog_14_method_61_code 86 = .ok (.ireturn, 1) := by decide +kernel
def s_Model_sitter_86 (p0 : Int32) (p1 : Int32) (z0 : Int32) (σ : LH) : Option (Int32 × LH) :=
  some (z0, σ)
theorem b_Model_sitter_86 {G : XG} {l : Launch} {p : Program} {e : Env} {R : Room} {s : State} {m : MethodId} {args : Array Value} {below : List Frame} {meth : Method} {c : Code} (C : XC G 570 598 p s m args c prog_14_method_61_code 3 R_Model) (hr : meth.sig.returnType = (some .int)) (hk : meth.locks = false) {d : Nat} (hd : 2 ≤ d + 1) (hR : xroom R (d + 1)) {p0 : Int32} {p1 : Int32} {σ' : LH} {r : Int32} {z0 : Int32} {σ : LH} (h0 : s_Model_sitter_86 p0 p1 z0 σ = some (r, σ')) : XJ G 570 598 p l e R s m args below meth c 3 (XQ G 570 598 below args s (some (.int r)) σ') 0 0 86 [] [.int z0] σ := by
  replace h0 := (show _ = _ from h0)
  unfold s_Model_sitter_86 at h0
  exact x_iret C hr hk h0 d_Model_sitter_86
def s_Model_sitter_26 (p0 : Int32) (p1 : Int32) (z1 : Int32) (σ : LH) : Option (Int32 × LH) :=
  xl ((stI σ 570 0 z1) : LH) fun σ5 =>
  if (σ5.1 570 0) ≤ 0 then (
   if 2 ≤ p1 then (
    if 4 ≤ p1 then (
     if ib (((4 * p0) + p1) - 2) 290 then (
     s_Model_sitter_86 p0 p1 (σ5.1 583 (Int32.toNatClampNeg (((4 * p0) + p1) - 2))) σ5) else none)
    else (
     if ib (((4 * p0) + p1) - 1) 32 then (
     s_Model_sitter_86 p0 p1 (σ5.1 577 (Int32.toNatClampNeg (((4 * p0) + p1) - 1))) σ5) else none))
   else (
    if ib ((4 * p0) + p1) 290 then (
    some ((σ5.1 583 (Int32.toNatClampNeg ((4 * p0) + p1))), σ5)) else none))
  else (
   some (0, σ5))
theorem b_Model_sitter_26 {G : XG} {l : Launch} {p : Program} {e : Env} {R : Room} {s : State} {m : MethodId} {args : Array Value} {below : List Frame} {meth : Method} {c : Code} (C : XC G 570 598 p s m args c prog_14_method_61_code 3 R_Model) (hr : meth.sig.returnType = (some .int)) (hk : meth.locks = false) {d : Nat} (hd : 2 ≤ d + 1) (hR : xroom R (d + 1)) {p0 : Int32} {p1 : Int32} {σ' : LH} {r : Int32} {z1 : Int32} {σ : LH} (h0 : s_Model_sitter_26 p0 p1 z1 σ = some (r, σ')) : XJ G 570 598 p l e R s m args below meth c 3 (XQ G 570 598 below args s (some (.int r)) σ') 0 0 26 [(0, .ref (G.2.2.1 + 570)), (1, .int p0), (2, .int p1)] [.int z1, .ref (G.2.2.1 + 570)] σ := by
  replace h0 := (show _ = _ from h0)
  unfold s_Model_sitter_26 at h0
  refine x_putI (y := 0) C fp_Model_114 k_570 rfl rfl rfl d_Model_sitter_26 ?_
  obtain ⟨σ5, eσ5, h0⟩ := xlet h0
  refine x_sig C eσ5 ?_
  refine x_aload_n C d_Model_sitter_29 0 rfl ?_
  refine x_getI (y := 0) C fg_Model_114 k_570 rfl d_Model_sitter_30 ?_
  refine x_if_le C 38 d_Model_sitter_33 (by decide) (fun q6 => ?_) (fun q6 => ?_)
  · replace h0 := xit q6 h0
    refine x_iload_n C d_Model_sitter_38 2 rfl ?_
    refine x_iconst (v := 2) C d_Model_sitter_39 (by decide) ?_
    refine x_icmp_ge C 54 d_Model_sitter_40 (by decide) (fun q7 => ?_) (fun q7 => ?_)
    · replace h0 := xit q7 h0
      refine x_iload_n C d_Model_sitter_54 2 rfl ?_
      refine x_iconst (v := 4) C d_Model_sitter_55 (by decide) ?_
      refine x_icmp_ge C 74 d_Model_sitter_56 (by decide) (fun q8 => ?_) (fun q8 => ?_)
      · replace h0 := xit q8 h0
        refine x_aload_n C d_Model_sitter_74 0 rfl ?_
        refine x_getA (y := 583) C fg_Model_61 k_570 rfl d_Model_sitter_75 ?_
        refine x_iconst (v := 4) C d_Model_sitter_78 (by decide) ?_
        refine x_iload_n C d_Model_sitter_79 1 rfl ?_
        refine x_imul C d_Model_sitter_80 ?_
        refine x_iload_n C d_Model_sitter_81 2 rfl ?_
        refine x_iadd C d_Model_sitter_82 ?_
        refine x_iconst (v := 2) C d_Model_sitter_83 (by decide) ?_
        refine x_isub C d_Model_sitter_84 ?_
        obtain ⟨g9, h0⟩ := xgo h0
        refine x_iald C k_583 (ib_in g9) d_Model_sitter_85 ?_
        exact x_lv C [] rfl (b_Model_sitter_86 C hr hk hd hR h0)
      · replace h0 := xif q8 h0
        refine x_aload_n C d_Model_sitter_59 0 rfl ?_
        refine x_getA (y := 577) C fg_Model_43 k_570 rfl d_Model_sitter_60 ?_
        refine x_iconst (v := 4) C d_Model_sitter_63 (by decide) ?_
        refine x_iload_n C d_Model_sitter_64 1 rfl ?_
        refine x_imul C d_Model_sitter_65 ?_
        refine x_iload_n C d_Model_sitter_66 2 rfl ?_
        refine x_iadd C d_Model_sitter_67 ?_
        refine x_iconst (v := 1) C d_Model_sitter_68 (by decide) ?_
        refine x_isub C d_Model_sitter_69 ?_
        obtain ⟨g10, h0⟩ := xgo h0
        refine x_iald C k_577 (ib_in g10) d_Model_sitter_70 ?_
        refine x_goto C 86 d_Model_sitter_71 (by decide) ?_
        exact x_lv C [] rfl (b_Model_sitter_86 C hr hk hd hR h0)
    · replace h0 := xif q7 h0
      refine x_aload_n C d_Model_sitter_43 0 rfl ?_
      refine x_getA (y := 583) C fg_Model_61 k_570 rfl d_Model_sitter_44 ?_
      refine x_iconst (v := 4) C d_Model_sitter_47 (by decide) ?_
      refine x_iload_n C d_Model_sitter_48 1 rfl ?_
      refine x_imul C d_Model_sitter_49 ?_
      refine x_iload_n C d_Model_sitter_50 2 rfl ?_
      refine x_iadd C d_Model_sitter_51 ?_
      obtain ⟨g11, h0⟩ := xgo h0
      refine x_iald C k_583 (ib_in g11) d_Model_sitter_52 ?_
      exact x_iret C hr hk h0 d_Model_sitter_53
  · replace h0 := xif q6 h0
    refine x_iconst (v := 0) C d_Model_sitter_36 (by decide) ?_
    exact x_iret C hr hk h0 d_Model_sitter_37
def s_Model_sitter_25 (p0 : Int32) (p1 : Int32) (σ : LH) : Option (Int32 × LH) :=
  s_Model_sitter_26 p0 p1 1 σ
theorem b_Model_sitter_25 {G : XG} {l : Launch} {p : Program} {e : Env} {R : Room} {s : State} {m : MethodId} {args : Array Value} {below : List Frame} {meth : Method} {c : Code} (C : XC G 570 598 p s m args c prog_14_method_61_code 3 R_Model) (hr : meth.sig.returnType = (some .int)) (hk : meth.locks = false) {d : Nat} (hd : 2 ≤ d + 1) (hR : xroom R (d + 1)) {p0 : Int32} {p1 : Int32} {σ' : LH} {r : Int32} {σ : LH} (h0 : s_Model_sitter_25 p0 p1 σ = some (r, σ')) : XJ G 570 598 p l e R s m args below meth c 3 (XQ G 570 598 below args s (some (.int r)) σ') 0 0 25 [(0, .ref (G.2.2.1 + 570)), (1, .int p0), (2, .int p1)] [.ref (G.2.2.1 + 570)] σ := by
  replace h0 := (show _ = _ from h0)
  unfold s_Model_sitter_25 at h0
  refine x_iconst (v := 1) C d_Model_sitter_25 (by decide) ?_
  exact x_lv C [0, 1, 2] rfl (b_Model_sitter_26 C hr hk hd hR h0)
def s_Model_sitter (p0 : Int32) (p1 : Int32) (σ : LH) : Option (Int32 × LH) :=
  xb2 (s_Model_isSitter p0 σ) fun r2 σ3 =>
  if r2 = 0 then (
   s_Model_sitter_25 p0 p1 σ3)
  else (
   xb2 (s_Model_isIn (Int32.toInt64 p1) 0 5 σ3) fun r13 σ14 =>
   if r13 = 0 then (
    s_Model_sitter_25 p0 p1 σ14)
   else (
    s_Model_sitter_26 p0 p1 0 σ14))
theorem c_Model_sitter {G : XG} {l : Launch} {d : Nat} (hd : 2 ≤ d) {p0 : Int32} {p1 : Int32} {σ σ' : LH} {r : Int32} (h0 : s_Model_sitter p0 p1 σ = some (r, σ')) : xM G 570 598 l y_Model_sitter prog_14_method_61_code 3 (some .int) d [.ref (G.2.2.1 + 570), .int p0, .int p1] σ (some (.int r)) σ' := by
  obtain ⟨d, rfl⟩ : ∃ q, d = q + 1 := ⟨d - 1, by omega⟩
  refine x_met R_Model rfl (by decide +kernel) (Nat.le_of_ble_eq_true rfl) fun p e s m below meth c C hr hk hR => ?_
  refine x_lv (lv' := [(0, .ref (G.2.2.1 + 570)), (1, .int p0), (2, .int p1)]) C [0, 1, 2] rfl ?_
  generalize xrm (d + 1) = R at hR ⊢
  unfold s_Model_sitter at h0
  refine x_aload_n C d_Model_sitter_0 0 rfl ?_
  refine x_aload_n C d_Model_sitter_1 0 rfl ?_
  refine x_iload_n C d_Model_sitter_2 1 rfl ?_
  obtain ⟨r2, σ3, k1, h0⟩ := xbind2 h0
  refine x_callVi C hR (c_Model_isSitter (d := d) (by omega) k1) cw_Model_412 k_570 rfl rfl rfl (Nat.le_of_ble_eq_true rfl) ⟨Nat.zero_le _, Nat.zero_le _⟩ d_Model_sitter_3 ?_
  refine x_if_eq C 25 d_Model_sitter_6 (by decide) (fun q4 => ?_) (fun q4 => ?_)
  · replace h0 := xit q4 h0
    exact x_lv C [0, 1, 2] rfl (b_Model_sitter_25 C hr hk hd hR h0)
  · replace h0 := xif q4 h0
    refine x_iload_n C d_Model_sitter_9 2 rfl ?_
    refine x_i2l C d_Model_sitter_10 ?_
    refine x_lconst (v := 0) C d_Model_sitter_11 (by decide) ?_
    refine x_ldc2 (v := 5) C w_1851 d_Model_sitter_12 ?_
    obtain ⟨r13, σ14, k12, h0⟩ := xbind2 h0
    refine x_callSi C hR (c_Model_isIn (d := d) (by omega) k12) cw_Model_235 w_1695 rfl rfl (Nat.le_of_ble_eq_true rfl) ⟨Nat.zero_le _, Nat.zero_le _⟩ d_Model_sitter_15 ?_
    refine x_if_eq C 25 d_Model_sitter_18 (by decide) (fun q15 => ?_) (fun q15 => ?_)
    · replace h0 := xit q15 h0
      exact x_lv C [0, 1, 2] rfl (b_Model_sitter_25 C hr hk hd hR h0)
    · replace h0 := xif q15 h0
      refine x_iconst (v := 0) C d_Model_sitter_21 (by decide) ?_
      refine x_goto C 26 d_Model_sitter_22 (by decide) ?_
      exact x_lv C [0, 1, 2] rfl (b_Model_sitter_26 C hr hk hd hR h0)
