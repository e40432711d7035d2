-- LostPlaces.remember()V
theorem d_Main_remember_0 : decode prog_1_method_25_code 0 = .ok (.aload_n 0, 1) := by decide +kernel
theorem d_Main_remember_1 : decode prog_1_method_25_code 1 = .ok (.aload_n 0, 1) := by decide +kernel
theorem d_Main_remember_2 : decode prog_1_method_25_code 2 = .ok (.getfield 90, 3) := by decide +kernel
theorem d_Main_remember_5 : decode prog_1_method_25_code 5 = .ok (.iconst 1, 1) := by decide +kernel
theorem d_Main_remember_6 : decode prog_1_method_25_code 6 = .ok (.iadd, 1) := by decide +kernel
theorem d_Main_remember_7 : decode prog_1_method_25_code 7 = .ok (.aload_n 0, 1) := by decide +kernel
theorem d_Main_remember_8 : decode prog_1_method_25_code 8 = .ok (.getfield 83, 3) := by decide +kernel
theorem d_Main_remember_11 : decode prog_1_method_25_code 11 = .ok (.arraylength, 1) := by decide +kernel
theorem d_Main_remember_12 : decode prog_1_method_25_code 12 = .ok (.if_icmp .ge 12, 3) := by decide +kernel
theorem d_Main_remember_15 : decode prog_1_method_25_code 15 = .ok (.aload_n 0, 1) := by decide +kernel
theorem d_Main_remember_16 : decode prog_1_method_25_code 16 = .ok (.getfield 90, 3) := by decide +kernel
theorem d_Main_remember_19 : decode prog_1_method_25_code 19 = .ok (.iconst 1, 1) := by decide +kernel
theorem d_Main_remember_20 : decode prog_1_method_25_code 20 = .ok (.iadd, 1) := by decide +kernel
theorem d_Main_remember_21 : decode prog_1_method_25_code 21 = .ok (.goto 4, 3) := by decide +kernel
theorem d_Main_remember_24 : decode prog_1_method_25_code 24 = .ok (.iconst 0, 1) := by decide +kernel
theorem d_Main_remember_25 : decode prog_1_method_25_code 25 = .ok (.putfield 90, 3) := by decide +kernel
theorem d_Main_remember_28 : decode prog_1_method_25_code 28 = .ok (.aload_n 0, 1) := by decide +kernel
theorem d_Main_remember_29 : decode prog_1_method_25_code 29 = .ok (.getfield 90, 3) := by decide +kernel
theorem d_Main_remember_32 : decode prog_1_method_25_code 32 = .ok (.ifCond .lt 31, 3) := by decide +kernel
theorem d_Main_remember_35 : decode prog_1_method_25_code 35 = .ok (.aload_n 0, 1) := by decide +kernel
theorem d_Main_remember_36 : decode prog_1_method_25_code 36 = .ok (.getfield 90, 3) := by decide +kernel
theorem d_Main_remember_39 : decode prog_1_method_25_code 39 = .ok (.aload_n 0, 1) := by decide +kernel
theorem d_Main_remember_40 : decode prog_1_method_25_code 40 = .ok (.getfield 83, 3) := by decide +kernel
theorem d_Main_remember_43 : decode prog_1_method_25_code 43 = .ok (.arraylength, 1) := by decide +kernel
theorem d_Main_remember_44 : decode prog_1_method_25_code 44 = .ok (.if_icmp .ge 19, 3) := by decide +kernel
theorem d_Main_remember_47 : decode prog_1_method_25_code 47 = .ok (.aload_n 0, 1) := by decide +kernel
theorem d_Main_remember_48 : decode prog_1_method_25_code 48 = .ok (.getfield 83, 3) := by decide +kernel
theorem d_Main_remember_51 : decode prog_1_method_25_code 51 = .ok (.aload_n 0, 1) := by decide +kernel
theorem d_Main_remember_52 : decode prog_1_method_25_code 52 = .ok (.getfield 90, 3) := by decide +kernel
theorem d_Main_remember_55 : decode prog_1_method_25_code 55 = .ok (.aaload, 1) := by decide +kernel
theorem d_Main_remember_56 : decode prog_1_method_25_code 56 = .ok (.aload_n 0, 1) := by decide +kernel
theorem d_Main_remember_57 : decode prog_1_method_25_code 57 = .ok (.getfield 79, 3) := by decide +kernel
theorem d_Main_remember_60 : decode prog_1_method_25_code 60 = .ok (.invokevirtual 273, 3) := by decide +kernel
theorem d_Main_remember_63 : decode prog_1_method_25_code 63 = .ok (.aload_n 0, 1) := by decide +kernel
theorem d_Main_remember_64 : decode prog_1_method_25_code 64 = .ok (.getfield 87, 3) := by decide +kernel
theorem d_Main_remember_67 : decode prog_1_method_25_code 67 = .ok (.bipush 40, 2) := by decide +kernel
theorem d_Main_remember_69 : decode prog_1_method_25_code 69 = .ok (.if_icmp .ge 13, 3) := by decide +kernel
theorem d_Main_remember_72 : decode prog_1_method_25_code 72 = .ok (.aload_n 0, 1) := by decide +kernel
theorem d_Main_remember_73 : decode prog_1_method_25_code 73 = .ok (.dup, 1) := by decide +kernel
theorem d_Main_remember_74 : decode prog_1_method_25_code 74 = .ok (.getfield 87, 3) := by decide +kernel
theorem d_Main_remember_77 : decode prog_1_method_25_code 77 = .ok (.iconst 1, 1) := by decide +kernel
theorem d_Main_remember_78 : decode prog_1_method_25_code 78 = .ok (.iadd, 1) := by decide +kernel
theorem d_Main_remember_79 : decode prog_1_method_25_code 79 = .ok (.putfield 87, 3) := by decide +kernel
theorem d_Main_remember_82 : decode prog_1_method_25_code 82 = .ok (.return_, 1) := by decide +kernel
def s_Main_remember_82 (σ : LH) : Option (LH) :=
  some σ
theorem b_Main_remember_82 {G : XG} {l : Launch} {p : Program} {e : Env} {R : Room} {s : State} {m : MethodId} {args : Array Value} {below : List Frame} {meth : Method} {c : Code} (C : XC G 1 570 p s m args c prog_1_method_25_code 1 R_Main) (hr : meth.sig.returnType = none) (hk : meth.locks = false) {d : Nat} (hd : 4 ≤ d + 1) (hR : xroom R (d + 1)) {σ' : LH} {σ : LH} (h0 : s_Main_remember_82 σ = some σ') : XJ G 1 570 p l e R s m args below meth c 1 (XQ G 1 570 below args s none σ') 0 0 82 [] [] σ := by
  replace h0 := (show _ = _ from h0)
  unfold s_Main_remember_82 at h0
  exact x_vret C hr hk h0 d_Main_remember_82
def s_Main_remember_63 (σ : LH) : Option (LH) :=
  if 40 ≤ (σ.1 1 13) then (
   s_Main_remember_82 σ)
  else (
   xl ((stI σ 1 13 ((σ.1 1 13) + 1)) : LH) fun σ5 =>
   s_Main_remember_82 σ5)
theorem b_Main_remember_63 {G : XG} {l : Launch} {p : Program} {e : Env} {R : Room} {s : State} {m : MethodId} {args : Array Value} {below : List Frame} {meth : Method} {c : Code} (C : XC G 1 570 p s m args c prog_1_method_25_code 1 R_Main) (hr : meth.sig.returnType = none) (hk : meth.locks = false) {d : Nat} (hd : 4 ≤ d + 1) (hR : xroom R (d + 1)) {σ' : LH} {σ : LH} (h0 : s_Main_remember_63 σ = some σ') : XJ G 1 570 p l e R s m args below meth c 1 (XQ G 1 570 below args s none σ') 0 0 63 [(0, .ref (G.2.2.1 + 1))] [] σ := by
  replace h0 := (show _ = _ from h0)
  unfold s_Main_remember_63 at h0
  refine x_aload_n C d_Main_remember_63 0 rfl ?_
  refine x_getI (y := 0) C fg_Main_87 k_1 rfl d_Main_remember_64 ?_
  refine x_bipush (v := 40) C d_Main_remember_67 (by decide) ?_
  refine x_icmp_ge C 82 d_Main_remember_69 (by decide) (fun q4 => ?_) (fun q4 => ?_)
  · replace h0 := xit q4 h0
    exact x_lv C [] rfl (b_Main_remember_82 C hr hk hd hR h0)
  · replace h0 := xif q4 h0
    refine x_aload_n C d_Main_remember_72 0 rfl ?_
    refine x_dup C d_Main_remember_73 rfl ?_
    refine x_getI (y := 0) C fg_Main_87 k_1 rfl d_Main_remember_74 ?_
    refine x_iconst (v := 1) C d_Main_remember_77 (by decide) ?_
    refine x_iadd C d_Main_remember_78 ?_
    refine x_putI (y := 0) C fp_Main_87 k_1 rfl rfl rfl d_Main_remember_79 ?_
    obtain ⟨σ5, eσ5, h0⟩ := xlet h0
    refine x_sig C eσ5 ?_
    exact x_lv C [] rfl (b_Main_remember_82 C hr hk hd hR h0)
def s_Main_remember_25 (z1 : Int32) (σ : LH) : Option (LH) :=
  xl ((stI σ 1 14 z1) : LH) fun σ2 =>
  if (σ2.1 1 14) < 0 then (
   s_Main_remember_63 σ2)
  else (
   if 40 ≤ (σ2.1 1 14) then (
    s_Main_remember_63 σ2)
   else (
    if ib (σ2.1 1 14) 40 then (
    xl ((210 + 9 * (Int32.toNatClampNeg (σ2.1 1 14))) : Nat) fun h8 =>
    xb1 (s_Hall_copyFrom h8 39 σ2) fun σ10 =>
    s_Main_remember_63 σ10) else none))
theorem b_Main_remember_25 {G : XG} {l : Launch} {p : Program} {e : Env} {R : Room} {s : State} {m : MethodId} {args : Array Value} {below : List Frame} {meth : Method} {c : Code} (C : XC G 1 570 p s m args c prog_1_method_25_code 1 R_Main) (hr : meth.sig.returnType = none) (hk : meth.locks = false) {d : Nat} (hd : 4 ≤ d + 1) (hR : xroom R (d + 1)) {σ' : LH} {z1 : Int32} {σ : LH} (h0 : s_Main_remember_25 z1 σ = some σ') : XJ G 1 570 p l e R s m args below meth c 1 (XQ G 1 570 below args s none σ') 0 0 25 [(0, .ref (G.2.2.1 + 1))] [.int z1, .ref (G.2.2.1 + 1)] σ := by
  replace h0 := (show _ = _ from h0)
  unfold s_Main_remember_25 at h0
  refine x_putI (y := 0) C fp_Main_90 k_1 rfl rfl rfl d_Main_remember_25 ?_
  obtain ⟨σ2, eσ2, h0⟩ := xlet h0
  refine x_sig C eσ2 ?_
  refine x_aload_n C d_Main_remember_28 0 rfl ?_
  refine x_getI (y := 0) C fg_Main_90 k_1 rfl d_Main_remember_29 ?_
  refine x_if_lt C 63 d_Main_remember_32 (by decide) (fun q3 => ?_) (fun q3 => ?_)
  · replace h0 := xit q3 h0
    exact x_lv C [0] rfl (b_Main_remember_63 C hr hk hd hR h0)
  · replace h0 := xif q3 h0
    refine x_aload_n C d_Main_remember_35 0 rfl ?_
    refine x_getI (y := 0) C fg_Main_90 k_1 rfl d_Main_remember_36 ?_
    refine x_aload_n C d_Main_remember_39 0 rfl ?_
    refine x_getA (y := 48) C fg_Main_83 k_1 rfl d_Main_remember_40 ?_
    refine x_hlen (v := 40) C k_48 rfl d_Main_remember_43 ?_
    refine x_icmp_ge C 63 d_Main_remember_44 (by decide) (fun q6 => ?_) (fun q6 => ?_)
    · replace h0 := xit q6 h0
      exact x_lv C [0] rfl (b_Main_remember_63 C hr hk hd hR h0)
    · replace h0 := xif q6 h0
      refine x_aload_n C d_Main_remember_47 0 rfl ?_
      refine x_getA (y := 48) C fg_Main_83 k_1 rfl d_Main_remember_48 ?_
      refine x_aload_n C d_Main_remember_51 0 rfl ?_
      refine x_getI (y := 0) C fg_Main_90 k_1 rfl d_Main_remember_52 ?_
      obtain ⟨g7, h0⟩ := xgo h0
      refine x_hald C k_48 (ib_in g7) d_Main_remember_55 ?_
      obtain ⟨h8, eh8, h0⟩ := xlet h0
      refine x_nameR C eh8 ?_
      have hh8 : h8 ∈ xHalls := by rw [eh8]; exact past_in g7
      refine x_aload_n C d_Main_remember_56 0 rfl ?_
      refine x_getA (y := 39) C fg_Main_79 k_1 rfl d_Main_remember_57 ?_
      obtain ⟨σ10, k9, h0⟩ := xbind1 h0
      refine x_callVv C hR (c_Hall_copyFrom (d := d) (by omega) hh8 (show 39 ∈ xHalls by decide) k9) cw_Main_273 (hl_0 hh8) rfl rfl rfl (Nat.le_of_ble_eq_true rfl) ⟨Nat.zero_le _, Nat.zero_le _⟩ d_Main_remember_60 ?_
      exact x_lv C [0] rfl (b_Main_remember_63 C hr hk hd hR h0)
def s_Main_remember (σ : LH) : Option (LH) :=
  if 40 ≤ ((σ.1 1 14) + 1) then (
   s_Main_remember_25 0 σ)
  else (
   s_Main_remember_25 ((σ.1 1 14) + 1) σ)
theorem c_Main_remember {G : XG} {l : Launch} {d : Nat} (hd : 4 ≤ d) {σ σ' : LH} (h0 : s_Main_remember σ = some σ') : xM G 1 570 l y_Main_remember prog_1_method_25_code 1 none d [.ref (G.2.2.1 + 1)] σ none σ' := by
  obtain ⟨d, rfl⟩ : ∃ q, d = q + 1 := ⟨d - 1, by omega⟩
  refine x_met R_Main rfl (by decide +kernel) (Nat.le_of_ble_eq_true rfl) fun p e s m below meth c C hr hk hR => ?_
  refine x_lv (lv' := [(0, .ref (G.2.2.1 + 1))]) C [0] rfl ?_
  generalize xrm (d + 1) = R at hR ⊢
  unfold s_Main_remember at h0
  refine x_aload_n C d_Main_remember_0 0 rfl ?_
  refine x_aload_n C d_Main_remember_1 0 rfl ?_
  refine x_getI (y := 0) C fg_Main_90 k_1 rfl d_Main_remember_2 ?_
  refine x_iconst (v := 1) C d_Main_remember_5 (by decide) ?_
  refine x_iadd C d_Main_remember_6 ?_
  refine x_aload_n C d_Main_remember_7 0 rfl ?_
  refine x_getA (y := 48) C fg_Main_83 k_1 rfl d_Main_remember_8 ?_
  refine x_hlen (v := 40) C k_48 rfl d_Main_remember_11 ?_
  refine x_icmp_ge C 24 d_Main_remember_12 (by decide) (fun q1 => ?_) (fun q1 => ?_)
  · replace h0 := xit q1 h0
    refine x_iconst (v := 0) C d_Main_remember_24 (by decide) ?_
    exact x_lv C [0] rfl (b_Main_remember_25 C hr hk hd hR h0)
  · replace h0 := xif q1 h0
    refine x_aload_n C d_Main_remember_15 0 rfl ?_
    refine x_getI (y := 0) C fg_Main_90 k_1 rfl d_Main_remember_16 ?_
    refine x_iconst (v := 1) C d_Main_remember_19 (by decide) ?_
    refine x_iadd C d_Main_remember_20 ?_
    refine x_goto C 25 d_Main_remember_21 (by decide) ?_
    exact x_lv C [0] rfl (b_Main_remember_25 C hr hk hd hR h0)
-- LostPlaces$Hall.isSitter(I)Z
theorem d_Hall_isSitter_0 : decode prog_6_method_6_code 0 = .ok (.iload_n 0, 1) := by decide +kernel
theorem d_Hall_isSitter_1 : decode prog_6_method_6_code 1 = .ok (.ifCond .lt 13, 3) := by decide +kernel
theorem d_Hall_isSitter_4 : decode prog_6_method_6_code 4 = .ok (.iload_n 0, 1) := by decide +kernel
theorem d_Hall_isSitter_5 : decode prog_6_method_6_code 5 = .ok (.bipush 8, 2) := by decide +kernel
theorem d_Hall_isSitter_7 : decode prog_6_method_6_code 7 = .ok (.if_icmp .ge 7, 3) := by decide +kernel
theorem d_Hall_isSitter_10 : decode prog_6_method_6_code 10 = .ok (.iconst 1, 1) := by decide +kernel
theorem d_Hall_isSitter_11 : decode prog_6_method_6_code 11 = .ok (.goto 4, 3) := by decide +kernel
theorem d_Hall_isSitter_14 : decode prog_6_method_6_code 14 = .ok (.iconst 0, 1) := by decide +kernel
theorem d_Hall_isSitter_15 : decode prog_6_method_6_code 15 = .ok (.ireturn, 1) := by decide +kernel
def s_Hall_isSitter_15 (p0 : Int32) (z0 : Int32) (σ : LH) : Option (Int32 × LH) :=
  if zb z0 then (
  some (z0, σ)) else none
theorem b_Hall_isSitter_15 {G : XG} {l : Launch} {p : Program} {e : Env} {R : Room} {s : State} {m : MethodId} {args : Array Value} {below : List Frame} {meth : Method} {c : Code} (C : XC G 1 570 p s m args c prog_6_method_6_code 1 R_Hall) (hr : meth.sig.returnType = (some .boolean)) (hk : meth.locks = false) {d : Nat} (hd : 1 ≤ d + 1) (hR : xroom R (d + 1)) {p0 : Int32} {σ' : LH} {r : Int32} {z0 : Int32} {σ : LH} (h0 : s_Hall_isSitter_15 p0 z0 σ = some (r, σ')) : XJ G 1 570 p l e R s m args below meth c 1 (XQ G 1 570 below args s (some (.int r)) σ') 0 0 15 [] [.int z0] σ := by
  replace h0 := (show _ = _ from h0)
  unfold s_Hall_isSitter_15 at h0
  obtain ⟨g2, h0⟩ := xgo h0
  exact x_zret C hr hk g2 h0 d_Hall_isSitter_15
def s_Hall_isSitter_14 (p0 : Int32) (σ : LH) : Option (Int32 × LH) :=
  s_Hall_isSitter_15 p0 0 σ
theorem b_Hall_isSitter_14 {G : XG} {l : Launch} {p : Program} {e : Env} {R : Room} {s : State} {m : MethodId} {args : Array Value} {below : List Frame} {meth : Method} {c : Code} (C : XC G 1 570 p s m args c prog_6_method_6_code 1 R_Hall) (hr : meth.sig.returnType = (some .boolean)) (hk : meth.locks = false) {d : Nat} (hd : 1 ≤ d + 1) (hR : xroom R (d + 1)) {p0 : Int32} {σ' : LH} {r : Int32} {σ : LH} (h0 : s_Hall_isSitter_14 p0 σ = some (r, σ')) : XJ G 1 570 p l e R s m args below meth c 1 (XQ G 1 570 below args s (some (.int r)) σ') 0 0 14 [] [] σ := by
  replace h0 := (show _ = _ from h0)
  unfold s_Hall_isSitter_14 at h0
  refine x_iconst (v := 0) C d_Hall_isSitter_14 (by decide) ?_
  exact x_lv C [] rfl (b_Hall_isSitter_15 C hr hk hd hR h0)
def s_Hall_isSitter (p0 : Int32) (σ : LH) : Option (Int32 × LH) :=
  if p0 < 0 then (
   s_Hall_isSitter_14 p0 σ)
  else (
   if 8 ≤ p0 then (
    s_Hall_isSitter_14 p0 σ)
   else (
    s_Hall_isSitter_15 p0 1 σ))
theorem c_Hall_isSitter {G : XG} {l : Launch} {d : Nat} (hd : 1 ≤ d) {p0 : Int32} {σ σ' : LH} {r : Int32} (h0 : s_Hall_isSitter p0 σ = some (r, σ')) : xM G 1 570 l y_Hall_isSitter prog_6_method_6_code 1 (some .boolean) d [.int p0] σ (some (.int r)) σ' := by
  obtain ⟨d, rfl⟩ : ∃ q, d = q + 1 := ⟨d - 1, by omega⟩
  refine x_met R_Hall rfl (by decide +kernel) (Nat.le_of_ble_eq_true rfl) fun p e s m below meth c C hr hk hR => ?_
  refine x_lv (lv' := [(0, .int p0)]) C [0] rfl ?_
  generalize xrm (d + 1) = R at hR ⊢
  unfold s_Hall_isSitter at h0
  refine x_iload_n C d_Hall_isSitter_0 0 rfl ?_
  refine x_if_lt C 14 d_Hall_isSitter_1 (by decide) (fun q1 => ?_) (fun q1 => ?_)
  · replace h0 := xit q1 h0
    exact x_lv C [] rfl (b_Hall_isSitter_14 C hr hk hd hR h0)
  · replace h0 := xif q1 h0
    refine x_iload_n C d_Hall_isSitter_4 0 rfl ?_
    refine x_bipush (v := 8) C d_Hall_isSitter_5 (by decide) ?_
    refine x_icmp_ge C 14 d_Hall_isSitter_7 (by decide) (fun q3 => ?_) (fun q3 => ?_)
    · replace h0 := xit q3 h0
      exact x_lv C [] rfl (b_Hall_isSitter_14 C hr hk hd hR h0)
    · replace h0 := xif q3 h0
      refine x_iconst (v := 1) C d_Hall_isSitter_10 (by decide) ?_
      refine x_goto C 15 d_Hall_isSitter_11 (by decide) ?_
      exact x_lv C [] rfl (b_Hall_isSitter_15 C hr hk hd hR h0)
-- LostPlaces$Hall.isSeat(I)Z
theorem d_Hall_isSeat_0 : decode prog_6_method_7_code 0 = .ok (.iload_n 0, 1) := by decide +kernel
theorem d_Hall_isSeat_1 : decode prog_6_method_7_code 1 = .ok (.ifCond .lt 13, 3) := by decide +kernel
theorem d_Hall_isSeat_4 : decode prog_6_method_7_code 4 = .ok (.iload_n 0, 1) := by decide +kernel
theorem d_Hall_isSeat_5 : decode prog_6_method_7_code 5 = .ok (.bipush 8, 2) := by decide +kernel
theorem d_Hall_isSeat_7 : decode prog_6_method_7_code 7 = .ok (.if_icmp .ge 7, 3) := by decide +kernel
theorem d_Hall_isSeat_10 : decode prog_6_method_7_code 10 = .ok (.iconst 1, 1) := by decide +kernel
theorem d_Hall_isSeat_11 : decode prog_6_method_7_code 11 = .ok (.goto 4, 3) := by decide +kernel
theorem d_Hall_isSeat_14 : decode prog_6_method_7_code 14 = .ok (.iconst 0, 1) := by decide +kernel
theorem d_Hall_isSeat_15 : decode prog_6_method_7_code 15 = .ok (.ireturn, 1) := by decide +kernel
def s_Hall_isSeat_15 (p0 : Int32) (z0 : Int32) (σ : LH) : Option (Int32 × LH) :=
  if zb z0 then (
  some (z0, σ)) else none
theorem b_Hall_isSeat_15 {G : XG} {l : Launch} {p : Program} {e : Env} {R : Room} {s : State} {m : MethodId} {args : Array Value} {below : List Frame} {meth : Method} {c : Code} (C : XC G 1 570 p s m args c prog_6_method_7_code 1 R_Hall) (hr : meth.sig.returnType = (some .boolean)) (hk : meth.locks = false) {d : Nat} (hd : 1 ≤ d + 1) (hR : xroom R (d + 1)) {p0 : Int32} {σ' : LH} {r : Int32} {z0 : Int32} {σ : LH} (h0 : s_Hall_isSeat_15 p0 z0 σ = some (r, σ')) : XJ G 1 570 p l e R s m args below meth c 1 (XQ G 1 570 below args s (some (.int r)) σ') 0 0 15 [] [.int z0] σ := by
  replace h0 := (show _ = _ from h0)
  unfold s_Hall_isSeat_15 at h0
  obtain ⟨g2, h0⟩ := xgo h0
  exact x_zret C hr hk g2 h0 d_Hall_isSeat_15
def s_Hall_isSeat_14 (p0 : Int32) (σ : LH) : Option (Int32 × LH) :=
  s_Hall_isSeat_15 p0 0 σ
theorem b_Hall_isSeat_14 {G : XG} {l : Launch} {p : Program} {e : Env} {R : Room} {s : State} {m : MethodId} {args : Array Value} {below : List Frame} {meth : Method} {c : Code} (C : XC G 1 570 p s m args c prog_6_method_7_code 1 R_Hall) (hr : meth.sig.returnType = (some .boolean)) (hk : meth.locks = false) {d : Nat} (hd : 1 ≤ d + 1) (hR : xroom R (d + 1)) {p0 : Int32} {σ' : LH} {r : Int32} {σ : LH} (h0 : s_Hall_isSeat_14 p0 σ = some (r, σ')) : XJ G 1 570 p l e R s m args below meth c 1 (XQ G 1 570 below args s (some (.int r)) σ') 0 0 14 [] [] σ := by
  replace h0 := (show _ = _ from h0)
  unfold s_Hall_isSeat_14 at h0
  refine x_iconst (v := 0) C d_Hall_isSeat_14 (by decide) ?_
  exact x_lv C [] rfl (b_Hall_isSeat_15 C hr hk hd hR h0)
def s_Hall_isSeat (p0 : Int32) (σ : LH) : Option (Int32 × LH) :=
  if p0 < 0 then (
   s_Hall_isSeat_14 p0 σ)
  else (
   if 8 ≤ p0 then (
    s_Hall_isSeat_14 p0 σ)
   else (
    s_Hall_isSeat_15 p0 1 σ))
theorem c_Hall_isSeat {G : XG} {l : Launch} {d : Nat} (hd : 1 ≤ d) {p0 : Int32} {σ σ' : LH} {r : Int32} (h0 : s_Hall_isSeat p0 σ = some (r, σ')) : xM G 1 570 l y_Hall_isSeat prog_6_method_7_code 1 (some .boolean) d [.int p0] σ (some (.int r)) σ' := by
  obtain ⟨d, rfl⟩ : ∃ q, d = q + 1 := ⟨d - 1, by omega⟩
  refine x_met R_Hall rfl (by decide +kernel) (Nat.le_of_ble_eq_true rfl) fun p e s m below meth c C hr hk hR => ?_
  refine x_lv (lv' := [(0, .int p0)]) C [0] rfl ?_
  generalize xrm (d + 1) = R at hR ⊢
  unfold s_Hall_isSeat at h0
  refine x_iload_n C d_Hall_isSeat_0 0 rfl ?_
  refine x_if_lt C 14 d_Hall_isSeat_1 (by decide) (fun q1 => ?_) (fun q1 => ?_)
  · replace h0 := xit q1 h0
    exact x_lv C [] rfl (b_Hall_isSeat_14 C hr hk hd hR h0)
  · replace h0 := xif q1 h0
    refine x_iload_n C d_Hall_isSeat_4 0 rfl ?_
    refine x_bipush (v := 8) C d_Hall_isSeat_5 (by decide) ?_
    refine x_icmp_ge C 14 d_Hall_isSeat_7 (by decide) (fun q3 => ?_) (fun q3 => ?_)
    · replace h0 := xit q3 h0
      exact x_lv C [] rfl (b_Hall_isSeat_14 C hr hk hd hR h0)
    · replace h0 := xif q3 h0
      refine x_iconst (v := 1) C d_Hall_isSeat_10 (by decide) ?_
      refine x_goto C 15 d_Hall_isSeat_11 (by decide) ?_
      exact x_lv C [] rfl (b_Hall_isSeat_15 C hr hk hd hR h0)
-- LostPlaces$Hall.getUp(IIZ)V
theorem d_Hall_getUp_0 : decode prog_6_method_10_code 0 = .ok (.iload_n 1, 1) := by decide +kernel
theorem d_Hall_getUp_1 : decode prog_6_method_10_code 1 = .ok (.invokestatic 76, 3) := by decide +kernel
theorem d_Hall_getUp_4 : decode prog_6_method_10_code 4 = .ok (.ifCond .ne 4, 3) := by decide +kernel
theorem d_Hall_getUp_7 : decode prog_6_method_10_code 7 = .ok (.return_, 1) := by decide +kernel
theorem d_Hall_getUp_8 : decode prog_6_method_10_code 8 = .ok (.aload_n 0, 1) := by decide +kernel
theorem d_Hall_getUp_9 : decode prog_6_method_10_code 9 = .ok (.getfield 9, 3) := by decide +kernel
theorem d_Hall_getUp_12 : decode prog_6_method_10_code 12 = .ok (.iload_n 1, 1) := by decide +kernel
theorem d_Hall_getUp_13 : decode prog_6_method_10_code 13 = .ok (.iaload, 1) := by decide +kernel
theorem d_Hall_getUp_14 : decode prog_6_method_10_code 14 = .ok (.istore 4, 2) := by decide +kernel
theorem d_Hall_getUp_16 : decode prog_6_method_10_code 16 = .ok (.aload_n 0, 1) := by decide +kernel
theorem d_Hall_getUp_17 : decode prog_6_method_10_code 17 = .ok (.iload_n 1, 1) := by decide +kernel
theorem d_Hall_getUp_18 : decode prog_6_method_10_code 18 = .ok (.bipush (-2), 2) := by decide +kernel
theorem d_Hall_getUp_20 : decode prog_6_method_10_code 20 = .ok (.invokevirtual 58, 3) := by decide +kernel
theorem d_Hall_getUp_23 : decode prog_6_method_10_code 23 = .ok (.aload_n 0, 1) := by decide +kernel
theorem d_Hall_getUp_24 : decode prog_6_method_10_code 24 = .ok (.getfield 15, 3) := by decide +kernel
theorem d_Hall_getUp_27 : decode prog_6_method_10_code 27 = .ok (.iload_n 1, 1) := by decide +kernel
theorem d_Hall_getUp_28 : decode prog_6_method_10_code 28 = .ok (.aload_n 0, 1) := by decide +kernel
theorem d_Hall_getUp_29 : decode prog_6_method_10_code 29 = .ok (.getfield 33, 3) := by decide +kernel
theorem d_Hall_getUp_32 : decode prog_6_method_10_code 32 = .ok (.iload_n 2, 1) := by decide +kernel
theorem d_Hall_getUp_33 : decode prog_6_method_10_code 33 = .ok (.iadd, 1) := by decide +kernel
theorem d_Hall_getUp_34 : decode prog_6_method_10_code 34 = .ok (.iastore, 1) := by decide +kernel
theorem d_Hall_getUp_35 : decode prog_6_method_10_code 35 = .ok (.iload_n 3, 1) := by decide +kernel
theorem d_Hall_getUp_36 : decode prog_6_method_10_code 36 = .ok (.ifCond .eq 46, 3) := by decide +kernel
theorem d_Hall_getUp_39 : decode prog_6_method_10_code 39 = .ok (.aload_n 0, 1) := by decide +kernel
theorem d_Hall_getUp_40 : decode prog_6_method_10_code 40 = .ok (.getfield 18, 3) := by decide +kernel
theorem d_Hall_getUp_43 : decode prog_6_method_10_code 43 = .ok (.iload_n 1, 1) := by decide +kernel
theorem d_Hall_getUp_44 : decode prog_6_method_10_code 44 = .ok (.iaload, 1) := by decide +kernel
theorem d_Hall_getUp_45 : decode prog_6_method_10_code 45 = .ok (.ifCond .le 37, 3) := by decide +kernel
theorem d_Hall_getUp_48 : decode prog_6_method_10_code 48 = .ok (.iload 4, 2) := by decide +kernel
theorem d_Hall_getUp_50 : decode prog_6_method_10_code 50 = .ok (.invokestatic 72, 3) := by decide +kernel
theorem d_Hall_getUp_53 : decode prog_6_method_10_code 53 = .ok (.ifCond .eq 29, 3) := by decide +kernel
theorem d_Hall_getUp_56 : decode prog_6_method_10_code 56 = .ok (.aload_n 0, 1) := by decide +kernel
theorem d_Hall_getUp_57 : decode prog_6_method_10_code 57 = .ok (.getfield 27, 3) := by decide +kernel
theorem d_Hall_getUp_60 : decode prog_6_method_10_code 60 = .ok (.iload 4, 2) := by decide +kernel
theorem d_Hall_getUp_62 : decode prog_6_method_10_code 62 = .ok (.iload_n 1, 1) := by decide +kernel
theorem d_Hall_getUp_63 : decode prog_6_method_10_code 63 = .ok (.iastore, 1) := by decide +kernel
theorem d_Hall_getUp_64 : decode prog_6_method_10_code 64 = .ok (.aload_n 0, 1) := by decide +kernel
theorem d_Hall_getUp_65 : decode prog_6_method_10_code 65 = .ok (.getfield 30, 3) := by decide +kernel
theorem d_Hall_getUp_68 : decode prog_6_method_10_code 68 = .ok (.iload 4, 2) := by decide +kernel
theorem d_Hall_getUp_70 : decode prog_6_method_10_code 70 = .ok (.aload_n 0, 1) := by decide +kernel
theorem d_Hall_getUp_71 : decode prog_6_method_10_code 71 = .ok (.getfield 33, 3) := by decide +kernel
theorem d_Hall_getUp_74 : decode prog_6_method_10_code 74 = .ok (.aload_n 0, 1) := by decide +kernel
theorem d_Hall_getUp_75 : decode prog_6_method_10_code 75 = .ok (.getfield 18, 3) := by decide +kernel
theorem d_Hall_getUp_78 : decode prog_6_method_10_code 78 = .ok (.iload_n 1, 1) := by decide +kernel
theorem d_Hall_getUp_79 : decode prog_6_method_10_code 79 = .ok (.iaload, 1) := by decide +kernel
theorem d_Hall_getUp_80 : decode prog_6_method_10_code 80 = .ok (.iadd, 1) := by decide +kernel
theorem d_Hall_getUp_81 : decode prog_6_method_10_code 81 = .ok (.iastore, 1) := by decide +kernel
theorem d_Hall_getUp_82 : decode prog_6_method_10_code 82 = .ok (.return_, 1) := by decide +kernel
def s_Hall_getUp_82 (h : Nat) (p0 : Int32) (p1 : Int32) (p2 : Int32) (σ : LH) : Option (LH) :=
  some σ
theorem b_Hall_getUp_82 {G : XG} {l : Launch} {p : Program} {e : Env} {R : Room} {s : State} {m : MethodId} {args : Array Value} {below : List Frame} {meth : Method} {c : Code} (C : XC G 1 570 p s m args c prog_6_method_10_code 5 R_Hall) (hr : meth.sig.returnType = none) (hk : meth.locks = false) {d : Nat} (hd : 2 ≤ d + 1) (hR : xroom R (d + 1)) {h : Nat} {p0 : Int32} {p1 : Int32} {p2 : Int32} (hh : h ∈ xHalls) {σ' : LH} {σ : LH} (h0 : s_Hall_getUp_82 h p0 p1 p2 σ = some σ') : XJ G 1 570 p l e R s m args below meth c 5 (XQ G 1 570 below args s none σ') 0 0 82 [] [] σ := by
  replace h0 := (show _ = _ from h0)
  unfold s_Hall_getUp_82 at h0
  exact x_vret C hr hk h0 d_Hall_getUp_82
def s_Hall_getUp (h : Nat) (p0 : Int32) (p1 : Int32) (p2 : Int32) (σ : LH) : Option (LH) :=
  xb2 (s_Hall_isSitter p0 σ) fun r2 σ3 =>
  if r2 = 0 then (
   some σ3)
  else (
   if ib p0 8 then (
   xl (((σ3.1 (h + 1) (Int32.toNatClampNeg p0))) : Int32) fun x6 =>
   xb1 (s_Hall_put h p0 (-2) σ3) fun σ8 =>
   if ib p0 8 then (
   xl ((stI σ8 (h + 2) (Int32.toNatClampNeg p0) ((σ8.1 h 7) + p1)) : LH) fun σ10 =>
   if p2 = 0 then (
    s_Hall_getUp_82 h p0 p1 p2 σ10)
   else (
    if ib p0 8 then (
    if (σ10.1 (h + 3) (Int32.toNatClampNeg p0)) ≤ 0 then (
     s_Hall_getUp_82 h p0 p1 p2 σ10)
    else (
     xb2 (s_Hall_isSeat x6 σ10) fun r15 σ16 =>
     if r15 = 0 then (
      s_Hall_getUp_82 h p0 p1 p2 σ16)
     else (
      if ib x6 8 then (
      xl ((stI σ16 (h + 6) (Int32.toNatClampNeg x6) p0) : LH) fun σ19 =>
      if ib p0 8 then (
      if ib x6 8 then (
      xl ((stI σ19 (h + 7) (Int32.toNatClampNeg x6) ((σ19.1 h 7) + (σ19.1 (h + 3) (Int32.toNatClampNeg p0)))) : LH) fun σ22 =>
      s_Hall_getUp_82 h p0 p1 p2 σ22) else none) else none) else none))) else none)) else none) else none)
theorem c_Hall_getUp {G : XG} {l : Launch} {d : Nat} (hd : 2 ≤ d) {h : Nat} {p0 : Int32} {p1 : Int32} {p2 : Int32} (hh : h ∈ xHalls) {σ σ' : LH} (h0 : s_Hall_getUp h p0 p1 p2 σ = some σ') : xM G 1 570 l y_Hall_getUp prog_6_method_10_code 5 none d [.ref (G.2.2.1 + h), .int p0, .int p1, .int p2] σ none σ' := by
  obtain ⟨d, rfl⟩ : ∃ q, d = q + 1 := ⟨d - 1, by omega⟩
  refine x_met R_Hall rfl (by decide +kernel) (Nat.le_of_ble_eq_true rfl) fun p e s m below meth c C hr hk hR => ?_
  refine x_lv (lv' := [(0, .ref (G.2.2.1 + h)), (1, .int p0), (2, .int p1), (3, .int p2)]) C [0, 1, 2, 3] rfl ?_
  generalize xrm (d + 1) = R at hR ⊢
  unfold s_Hall_getUp at h0
  refine x_iload_n C d_Hall_getUp_0 1 rfl ?_
  obtain ⟨r2, σ3, k1, h0⟩ := xbind2 h0
  refine x_callSi C hR (c_Hall_isSitter (d := d) (by omega) k1) cw_Hall_76 w_1020 rfl rfl (Nat.le_of_ble_eq_true rfl) ⟨Nat.zero_le _, Nat.zero_le _⟩ d_Hall_getUp_1 ?_
  refine x_if_ne C 8 d_Hall_getUp_4 (by decide) (fun q4 => ?_) (fun q4 => ?_)
  · replace h0 := xif q4 h0
    refine x_aload_n C d_Hall_getUp_8 0 rfl ?_
    refine x_getR (y := 1) C fg_Hall_9 (hl_0 hh) rfl d_Hall_getUp_9 ?_
    refine x_iload_n C d_Hall_getUp_12 1 rfl ?_
    obtain ⟨g5, h0⟩ := xgo h0
    refine x_iald C (hl_1 hh) (ib_in g5) d_Hall_getUp_13 ?_
    obtain ⟨x6, ex6, h0⟩ := xlet h0
    refine x_name C ex6 ?_
    refine x_istore (lv' := [(4, .int x6), (0, .ref (G.2.2.1 + h)), (1, .int p0), (2, .int p1), (3, .int p2)]) C d_Hall_getUp_14 (by decide) rfl ?_
    refine x_aload_n C d_Hall_getUp_16 1 rfl ?_
    refine x_iload_n C d_Hall_getUp_17 2 rfl ?_
    refine x_bipush (v := (-2)) C d_Hall_getUp_18 (by decide) ?_
    obtain ⟨σ8, k7, h0⟩ := xbind1 h0
    refine x_callVv C hR (c_Hall_put (d := d) (by omega) hh k7) cw_Hall_58 (hl_0 hh) rfl rfl rfl (Nat.le_of_ble_eq_true rfl) ⟨Nat.zero_le _, Nat.zero_le _⟩ d_Hall_getUp_20 ?_
    refine x_aload_n C d_Hall_getUp_23 1 rfl ?_
    refine x_getR (y := 2) C fg_Hall_15 (hl_0 hh) rfl d_Hall_getUp_24 ?_
    refine x_iload_n C d_Hall_getUp_27 2 rfl ?_
    refine x_aload_n C d_Hall_getUp_28 1 rfl ?_
    refine x_getI (y := 0) C fg_Hall_33 (hl_0 hh) rfl d_Hall_getUp_29 ?_
    refine x_iload_n C d_Hall_getUp_32 3 rfl ?_
    refine x_iadd C d_Hall_getUp_33 ?_
    obtain ⟨g9, h0⟩ := xgo h0
    refine x_iast C (hl_2 hh) (ib_in g9) d_Hall_getUp_34 ?_
    obtain ⟨σ10, eσ10, h0⟩ := xlet h0
    refine x_sig C eσ10 ?_
    refine x_iload_n C d_Hall_getUp_35 4 rfl ?_
    refine x_if_eq C 82 d_Hall_getUp_36 (by decide) (fun q11 => ?_) (fun q11 => ?_)
    · replace h0 := xit q11 h0
      exact x_lv C [] rfl (b_Hall_getUp_82 C hr hk hd hR hh h0)
    · replace h0 := xif q11 h0
      refine x_aload_n C d_Hall_getUp_39 1 rfl ?_
      refine x_getR (y := 3) C fg_Hall_18 (hl_0 hh) rfl d_Hall_getUp_40 ?_
      refine x_iload_n C d_Hall_getUp_43 2 rfl ?_
      obtain ⟨g12, h0⟩ := xgo h0
      refine x_iald C (hl_3 hh) (ib_in g12) d_Hall_getUp_44 ?_
      refine x_if_le C 82 d_Hall_getUp_45 (by decide) (fun q13 => ?_) (fun q13 => ?_)
      · replace h0 := xit q13 h0
        exact x_lv C [] rfl (b_Hall_getUp_82 C hr hk hd hR hh h0)
      · replace h0 := xif q13 h0
        refine x_iload C d_Hall_getUp_48 0 rfl ?_
        obtain ⟨r15, σ16, k14, h0⟩ := xbind2 h0
        refine x_callSi C hR (c_Hall_isSeat (d := d) (by omega) k14) cw_Hall_72 w_1023 rfl rfl (Nat.le_of_ble_eq_true rfl) ⟨Nat.zero_le _, Nat.zero_le _⟩ d_Hall_getUp_50 ?_
        refine x_if_eq C 82 d_Hall_getUp_53 (by decide) (fun q17 => ?_) (fun q17 => ?_)
        · replace h0 := xit q17 h0
          exact x_lv C [] rfl (b_Hall_getUp_82 C hr hk hd hR hh h0)
        · replace h0 := xif q17 h0
          refine x_aload_n C d_Hall_getUp_56 1 rfl ?_
          refine x_getR (y := 6) C fg_Hall_27 (hl_0 hh) rfl d_Hall_getUp_57 ?_
          refine x_iload C d_Hall_getUp_60 0 rfl ?_
          refine x_iload_n C d_Hall_getUp_62 2 rfl ?_
          obtain ⟨g18, h0⟩ := xgo h0
          refine x_iast C (hl_6 hh) (ib_in g18) d_Hall_getUp_63 ?_
          obtain ⟨σ19, eσ19, h0⟩ := xlet h0
          refine x_sig C eσ19 ?_
          refine x_aload_n C d_Hall_getUp_64 1 rfl ?_
          refine x_getR (y := 7) C fg_Hall_30 (hl_0 hh) rfl d_Hall_getUp_65 ?_
          refine x_iload C d_Hall_getUp_68 0 rfl ?_
          refine x_aload_n C d_Hall_getUp_70 1 rfl ?_
          refine x_getI (y := 0) C fg_Hall_33 (hl_0 hh) rfl d_Hall_getUp_71 ?_
          refine x_aload_n C d_Hall_getUp_74 1 rfl ?_
          refine x_getR (y := 3) C fg_Hall_18 (hl_0 hh) rfl d_Hall_getUp_75 ?_
          refine x_iload_n C d_Hall_getUp_78 2 rfl ?_
          obtain ⟨g20, h0⟩ := xgo h0
          refine x_iald C (hl_3 hh) (ib_in g20) d_Hall_getUp_79 ?_
          refine x_iadd C d_Hall_getUp_80 ?_
          obtain ⟨g21, h0⟩ := xgo h0
          refine x_iast C (hl_7 hh) (ib_in g21) d_Hall_getUp_81 ?_
          obtain ⟨σ22, eσ22, h0⟩ := xlet h0
          refine x_sig C eσ22 ?_
          exact x_lv C [] rfl (b_Hall_getUp_82 C hr hk hd hR hh h0)
  · replace h0 := xit q4 h0
    exact x_vret C hr hk h0 d_Hall_getUp_7
-- LostPlaces.up(II)I
theorem d_Main_up_0 : decode prog_1_method_20_code 0 = .ok (.aload_n 0, 1) := by decide +kernel
theorem d_Main_up_1 : decode prog_1_method_20_code 1 = .ok (.iload_n 1, 1) := by decide +kernel
theorem d_Main_up_2 : decode prog_1_method_20_code 2 = .ok (.invokevirtual 244, 3) := by decide +kernel
theorem d_Main_up_5 : decode prog_1_method_20_code 5 = .ok (.ifCond .eq 22, 3) := by decide +kernel
theorem d_Main_up_8 : decode prog_1_method_20_code 8 = .ok (.iload_n 2, 1) := by decide +kernel
theorem d_Main_up_9 : decode prog_1_method_20_code 9 = .ok (.iconst 1, 1) := by decide +kernel
theorem d_Main_up_10 : decode prog_1_method_20_code 10 = .ok (.if_icmp .lt 17, 3) := by decide +kernel
theorem d_Main_up_13 : decode prog_1_method_20_code 13 = .ok (.iload_n 2, 1) := by decide +kernel
theorem d_Main_up_14 : decode prog_1_method_20_code 14 = .ok (.bipush 9, 2) := by decide +kernel
theorem d_Main_up_16 : decode prog_1_method_20_code 16 = .ok (.if_icmp .gt 11, 3) := by decide +kernel
theorem d_Main_up_19 : decode prog_1_method_20_code 19 = .ok (.aload_n 0, 1) := by decide +kernel
theorem d_Main_up_20 : decode prog_1_method_20_code 20 = .ok (.invokevirtual 247, 3) := by decide +kernel
theorem d_Main_up_23 : decode prog_1_method_20_code 23 = .ok (.iconst 1, 1) := by decide +kernel
theorem d_Main_up_24 : decode prog_1_method_20_code 24 = .ok (.if_icmp .ge 5, 3) := by decide +kernel
theorem d_Main_up_27 : decode prog_1_method_20_code 27 = .ok (.iconst (-1), 1) := by decide +kernel
theorem d_Main_up_28 : decode prog_1_method_20_code 28 = .ok (.ireturn, 1) := by decide +kernel
theorem d_Main_up_29 : decode prog_1_method_20_code 29 = .ok (.aload_n 0, 1) := by decide +kernel
theorem d_Main_up_30 : decode prog_1_method_20_code 30 = .ok (.invokevirtual 250, 3) := by decide +kernel
theorem d_Main_up_33 : decode prog_1_method_20_code 33 = .ok (.aload_n 0, 1) := by decide +kernel
theorem d_Main_up_34 : decode prog_1_method_20_code 34 = .ok (.getfield 79, 3) := by decide +kernel
theorem d_Main_up_37 : decode prog_1_method_20_code 37 = .ok (.iload_n 1, 1) := by decide +kernel
theorem d_Main_up_38 : decode prog_1_method_20_code 38 = .ok (.iload_n 2, 1) := by decide +kernel
theorem d_Main_up_39 : decode prog_1_method_20_code 39 = .ok (.iconst 1, 1) := by decide +kernel
theorem d_Main_up_40 : decode prog_1_method_20_code 40 = .ok (.invokevirtual 253, 3) := by decide +kernel
theorem d_Main_up_43 : decode prog_1_method_20_code 43 = .ok (.aload_n 0, 1) := by decide +kernel
theorem d_Main_up_44 : decode prog_1_method_20_code 44 = .ok (.getfield 79, 3) := by decide +kernel
theorem d_Main_up_47 : decode prog_1_method_20_code 47 = .ok (.getfield 199, 3) := by decide +kernel
theorem d_Main_up_50 : decode prog_1_method_20_code 50 = .ok (.iload_n 1, 1) := by decide +kernel
theorem d_Main_up_51 : decode prog_1_method_20_code 51 = .ok (.iaload, 1) := by decide +kernel
theorem d_Main_up_52 : decode prog_1_method_20_code 52 = .ok (.ireturn, 1) := by decide +kernel
def s_Main_up_27 (p0 : Int32) (p1 : Int32) (σ : LH) : Option (Int32 × LH) :=
  some ((-1), σ)
theorem b_Main_up_27 {G : XG} {l : Launch} {p : Program} {e : Env} {R : Room} {s : State} {m : MethodId} {args : Array Value} {below : List Frame} {meth : Method} {c : Code} (C : XC G 1 570 p s m args c prog_1_method_20_code 3 R_Main) (hr : meth.sig.returnType = (some .int)) (hk : meth.locks = false) {d : Nat} (hd : 5 ≤ d + 1) (hR : xroom R (d + 1)) {p0 : Int32} {p1 : Int32} {σ' : LH} {r : Int32} {σ : LH} (h0 : s_Main_up_27 p0 p1 σ = some (r, σ')) : XJ G 1 570 p l e R s m args below meth c 3 (XQ G 1 570 below args s (some (.int r)) σ') 0 0 27 [] [] σ := by
  replace h0 := (show _ = _ from h0)
  unfold s_Main_up_27 at h0
  refine x_iconst (v := (-1)) C d_Main_up_27 (by decide) ?_
  exact x_iret C hr hk h0 d_Main_up_28
def s_Main_up (p0 : Int32) (p1 : Int32) (σ : LH) : Option (Int32 × LH) :=
  xb2 (s_Main_isHere p0 σ) fun r2 σ3 =>
  if r2 = 0 then (
   s_Main_up_27 p0 p1 σ3)
  else (
   if p1 < 1 then (
    s_Main_up_27 p0 p1 σ3)
   else (
    if 9 < p1 then (
     s_Main_up_27 p0 p1 σ3)
    else (
     xb2 (s_Main_minutesLeft σ3) fun r8 σ9 =>
     if 1 ≤ r8 then (
      xb1 (s_Main_remember σ9) fun σ12 =>
      xb1 (s_Hall_getUp 39 p0 p1 1 σ12) fun σ14 =>
      if ib p0 8 then (
      some ((σ14.1 41 (Int32.toNatClampNeg p0)), σ14)) else none)
     else (
      s_Main_up_27 p0 p1 σ9))))
theorem c_Main_up {G : XG} {l : Launch} {d : Nat} (hd : 5 ≤ d) {p0 : Int32} {p1 : Int32} {σ σ' : LH} {r : Int32} (h0 : s_Main_up p0 p1 σ = some (r, σ')) : xM G 1 570 l y_Main_up prog_1_method_20_code 3 (some .int) d [.ref (G.2.2.1 + 1), .int p0, .int p1] σ (some (.int r)) σ' := by
  obtain ⟨d, rfl⟩ : ∃ q, d = q + 1 := ⟨d - 1, by omega⟩
  refine x_met R_Main rfl (by decide +kernel) (Nat.le_of_ble_eq_true rfl) fun p e s m below meth c C hr hk hR => ?_
  refine x_lv (lv' := [(0, .ref (G.2.2.1 + 1)), (1, .int p0), (2, .int p1)]) C [0, 1, 2] rfl ?_
  generalize xrm (d + 1) = R at hR ⊢
  unfold s_Main_up at h0
  refine x_aload_n C d_Main_up_0 0 rfl ?_
  refine x_iload_n C d_Main_up_1 1 rfl ?_
  obtain ⟨r2, σ3, k1, h0⟩ := xbind2 h0
  refine x_callVi C hR (c_Main_isHere (d := d) (by omega) k1) cw_Main_244 k_1 rfl rfl rfl (Nat.le_of_ble_eq_true rfl) ⟨Nat.zero_le _, Nat.zero_le _⟩ d_Main_up_2 ?_
  refine x_if_eq C 27 d_Main_up_5 (by decide) (fun q4 => ?_) (fun q4 => ?_)
  · replace h0 := xit q4 h0
    exact x_lv C [] rfl (b_Main_up_27 C hr hk hd hR h0)
  · replace h0 := xif q4 h0
    refine x_iload_n C d_Main_up_8 2 rfl ?_
    refine x_iconst (v := 1) C d_Main_up_9 (by decide) ?_
    refine x_icmp_lt C 27 d_Main_up_10 (by decide) (fun q5 => ?_) (fun q5 => ?_)
    · replace h0 := xit q5 h0
      exact x_lv C [] rfl (b_Main_up_27 C hr hk hd hR h0)
    · replace h0 := xif q5 h0
      refine x_iload_n C d_Main_up_13 2 rfl ?_
      refine x_bipush (v := 9) C d_Main_up_14 (by decide) ?_
      refine x_icmp_gt C 27 d_Main_up_16 (by decide) (fun q6 => ?_) (fun q6 => ?_)
      · replace h0 := xit q6 h0
        exact x_lv C [] rfl (b_Main_up_27 C hr hk hd hR h0)
      · replace h0 := xif q6 h0
        refine x_aload_n C d_Main_up_19 0 rfl ?_
        obtain ⟨r8, σ9, k7, h0⟩ := xbind2 h0
        refine x_callVi C hR (c_Main_minutesLeft (d := d) (by omega) k7) cw_Main_247 k_1 rfl rfl rfl (Nat.le_of_ble_eq_true rfl) ⟨Nat.zero_le _, Nat.zero_le _⟩ d_Main_up_20 ?_
        refine x_iconst (v := 1) C d_Main_up_23 (by decide) ?_
        refine x_icmp_ge C 29 d_Main_up_24 (by decide) (fun q10 => ?_) (fun q10 => ?_)
        · replace h0 := xit q10 h0
          refine x_aload_n C d_Main_up_29 0 rfl ?_
          obtain ⟨σ12, k11, h0⟩ := xbind1 h0
          refine x_callVv C hR (c_Main_remember (d := d) (by omega) k11) cw_Main_250 k_1 rfl rfl rfl (Nat.le_of_ble_eq_true rfl) ⟨Nat.zero_le _, Nat.zero_le _⟩ d_Main_up_30 ?_
          refine x_aload_n C d_Main_up_33 0 rfl ?_
          refine x_getA (y := 39) C fg_Main_79 k_1 rfl d_Main_up_34 ?_
          refine x_iload_n C d_Main_up_37 1 rfl ?_
          refine x_iload_n C d_Main_up_38 2 rfl ?_
          refine x_iconst (v := 1) C d_Main_up_39 (by decide) ?_
          obtain ⟨σ14, k13, h0⟩ := xbind1 h0
          refine x_callVv C hR (c_Hall_getUp (d := d) (by omega) (show 39 ∈ xHalls by decide) k13) cw_Main_253 k_39 rfl rfl rfl (Nat.le_of_ble_eq_true rfl) ⟨Nat.zero_le _, Nat.zero_le _⟩ d_Main_up_40 ?_
          refine x_aload_n C d_Main_up_43 0 rfl ?_
          refine x_getA (y := 39) C fg_Main_79 k_1 rfl d_Main_up_44 ?_
          refine x_getR (y := 2) C fg_Main_199 k_39 rfl d_Main_up_47 ?_
          show XJ _ _ _ _ _ _ _ _ _ _ _ _ _ _ _ _ _ _ _ (.ref (G.2.2.1 + 41) :: _) _
          refine x_iload_n C d_Main_up_50 1 rfl ?_
          obtain ⟨g15, h0⟩ := xgo h0
          refine x_iald C k_41 (ib_in g15) d_Main_up_51 ?_
          exact x_iret C hr hk h0 d_Main_up_52
        · replace h0 := xif q10 h0
          exact x_lv C [] rfl (b_Main_up_27 C hr hk hd hR h0)
-- LostPlaces.keeps(II)I
theorem d_Main_keeps_0 : decode prog_1_method_21_code 0 = .ok (.aload_n 0, 1) := by decide +kernel
theorem d_Main_keeps_1 : decode prog_1_method_21_code 1 = .ok (.iload_n 1, 1) := by decide +kernel
theorem d_Main_keeps_2 : decode prog_1_method_21_code 2 = .ok (.invokevirtual 186, 3) := by decide +kernel
theorem d_Main_keeps_5 : decode prog_1_method_21_code 5 = .ok (.ifCond .eq 26, 3) := by decide +kernel
theorem d_Main_keeps_8 : decode prog_1_method_21_code 8 = .ok (.iload_n 2, 1) := by decide +kernel
theorem d_Main_keeps_9 : decode prog_1_method_21_code 9 = .ok (.ifCond .lt 22, 3) := by decide +kernel
theorem d_Main_keeps_12 : decode prog_1_method_21_code 12 = .ok (.iload_n 2, 1) := by decide +kernel
theorem d_Main_keeps_13 : decode prog_1_method_21_code 13 = .ok (.bipush 9, 2) := by decide +kernel
theorem d_Main_keeps_15 : decode prog_1_method_21_code 15 = .ok (.if_icmp .gt 16, 3) := by decide +kernel
theorem d_Main_keeps_18 : decode prog_1_method_21_code 18 = .ok (.aload_n 0, 1) := by decide +kernel
theorem d_Main_keeps_19 : decode prog_1_method_21_code 19 = .ok (.getfield 79, 3) := by decide +kernel
theorem d_Main_keeps_22 : decode prog_1_method_21_code 22 = .ok (.getfield 208, 3) := by decide +kernel
theorem d_Main_keeps_25 : decode prog_1_method_21_code 25 = .ok (.iload_n 1, 1) := by decide +kernel
theorem d_Main_keeps_26 : decode prog_1_method_21_code 26 = .ok (.iaload, 1) := by decide +kernel
theorem d_Main_keeps_27 : decode prog_1_method_21_code 27 = .ok (.iload_n 2, 1) := by decide +kernel
theorem d_Main_keeps_28 : decode prog_1_method_21_code 28 = .ok (.if_icmp .ne 5, 3) := by decide +kernel
theorem d_Main_keeps_31 : decode prog_1_method_21_code 31 = .ok (.iconst (-1), 1) := by decide +kernel
theorem d_Main_keeps_32 : decode prog_1_method_21_code 32 = .ok (.ireturn, 1) := by decide +kernel
theorem d_Main_keeps_33 : decode prog_1_method_21_code 33 = .ok (.aload_n 0, 1) := by decide +kernel
theorem d_Main_keeps_34 : decode prog_1_method_21_code 34 = .ok (.invokevirtual 250, 3) := by decide +kernel
theorem d_Main_keeps_37 : decode prog_1_method_21_code 37 = .ok (.aload_n 0, 1) := by decide +kernel
theorem d_Main_keeps_38 : decode prog_1_method_21_code 38 = .ok (.getfield 79, 3) := by decide +kernel
theorem d_Main_keeps_41 : decode prog_1_method_21_code 41 = .ok (.getfield 208, 3) := by decide +kernel
theorem d_Main_keeps_44 : decode prog_1_method_21_code 44 = .ok (.iload_n 1, 1) := by decide +kernel
theorem d_Main_keeps_45 : decode prog_1_method_21_code 45 = .ok (.iload_n 2, 1) := by decide +kernel
theorem d_Main_keeps_46 : decode prog_1_method_21_code 46 = .ok (.iastore, 1) := by decide +kernel
theorem d_Main_keeps_47 : decode prog_1_method_21_code 47 = .ok (.aload_n 0, 1) := by decide +kernel
theorem d_Main_keeps_48 : decode prog_1_method_21_code 48 = .ok (.getfield 87, 3) := by decide +kernel
theorem d_Main_keeps_51 : decode prog_1_method_21_code 51 = .ok (.ireturn, 1) := by decide +kernel
def s_Main_keeps_31 (p0 : Int32) (p1 : Int32) (σ : LH) : Option (Int32 × LH) :=
  some ((-1), σ)
theorem b_Main_keeps_31 {G : XG} {l : Launch} {p : Program} {e : Env} {R : Room} {s : State} {m : MethodId} {args : Array Value} {below : List Frame} {meth : Method} {c : Code} (C : XC G 1 570 p s m args c prog_1_method_21_code 3 R_Main) (hr : meth.sig.returnType = (some .int)) (hk : meth.locks = false) {d : Nat} (hd : 5 ≤ d + 1) (hR : xroom R (d + 1)) {p0 : Int32} {p1 : Int32} {σ' : LH} {r : Int32} {σ : LH} (h0 : s_Main_keeps_31 p0 p1 σ = some (r, σ')) : XJ G 1 570 p l e R s m args below meth c 3 (XQ G 1 570 below args s (some (.int r)) σ') 0 0 31 [] [] σ := by
  replace h0 := (show _ = _ from h0)
  unfold s_Main_keeps_31 at h0
  refine x_iconst (v := (-1)) C d_Main_keeps_31 (by decide) ?_
  exact x_iret C hr hk h0 d_Main_keeps_32
def s_Main_keeps (p0 : Int32) (p1 : Int32) (σ : LH) : Option (Int32 × LH) :=
  xb2 (s_Main_isSitter p0 σ) fun r2 σ3 =>
  if r2 = 0 then (
   s_Main_keeps_31 p0 p1 σ3)
  else (
   if p1 < 0 then (
    s_Main_keeps_31 p0 p1 σ3)
   else (
    if 9 < p1 then (
     s_Main_keeps_31 p0 p1 σ3)
    else (
     if ib p0 8 then (
     if (σ3.1 42 (Int32.toNatClampNeg p0)) = p1 then (
      s_Main_keeps_31 p0 p1 σ3)
     else (
      xb1 (s_Main_remember σ3) fun σ10 =>
      if ib p0 8 then (
      xl ((stI σ10 42 (Int32.toNatClampNeg p0) p1) : LH) fun σ12 =>
      some ((σ12.1 1 13), σ12)) else none)) else none)))
theorem c_Main_keeps {G : XG} {l : Launch} {d : Nat} (hd : 5 ≤ d) {p0 : Int32} {p1 : Int32} {σ σ' : LH} {r : Int32} (h0 : s_Main_keeps p0 p1 σ = some (r, σ')) : xM G 1 570 l y_Main_keeps prog_1_method_21_code 3 (some .int) d [.ref (G.2.2.1 + 1), .int p0, .int p1] σ (some (.int r)) σ' := by
  obtain ⟨d, rfl⟩ : ∃ q, d = q + 1 := ⟨d - 1, by omega⟩
  refine x_met R_Main rfl (by decide +kernel) (Nat.le_of_ble_eq_true rfl) fun p e s m below meth c C hr hk hR => ?_
  refine x_lv (lv' := [(0, .ref (G.2.2.1 + 1)), (1, .int p0), (2, .int p1)]) C [0, 1, 2] rfl ?_
  generalize xrm (d + 1) = R at hR ⊢
  unfold s_Main_keeps at h0
  refine x_aload_n C d_Main_keeps_0 0 rfl ?_
  refine x_iload_n C d_Main_keeps_1 1 rfl ?_
  obtain ⟨r2, σ3, k1, h0⟩ := xbind2 h0
  refine x_callVi C hR (c_Main_isSitter (d := d) (by omega) k1) cw_Main_186 k_1 rfl rfl rfl (Nat.le_of_ble_eq_true rfl) ⟨Nat.zero_le _, Nat.zero_le _⟩ d_Main_keeps_2 ?_
  refine x_if_eq C 31 d_Main_keeps_5 (by decide) (fun q4 => ?_) (fun q4 => ?_)
  · replace h0 := xit q4 h0
    exact x_lv C [] rfl (b_Main_keeps_31 C hr hk hd hR h0)
  · replace h0 := xif q4 h0
    refine x_iload_n C d_Main_keeps_8 2 rfl ?_
    refine x_if_lt C 31 d_Main_keeps_9 (by decide) (fun q5 => ?_) (fun q5 => ?_)
    · replace h0 := xit q5 h0
      exact x_lv C [] rfl (b_Main_keeps_31 C hr hk hd hR h0)
    · replace h0 := xif q5 h0
      refine x_iload_n C d_Main_keeps_12 2 rfl ?_
      refine x_bipush (v := 9) C d_Main_keeps_13 (by decide) ?_
      refine x_icmp_gt C 31 d_Main_keeps_15 (by decide) (fun q6 => ?_) (fun q6 => ?_)
      · replace h0 := xit q6 h0
        exact x_lv C [] rfl (b_Main_keeps_31 C hr hk hd hR h0)
      · replace h0 := xif q6 h0
        refine x_aload_n C d_Main_keeps_18 0 rfl ?_
        refine x_getA (y := 39) C fg_Main_79 k_1 rfl d_Main_keeps_19 ?_
        refine x_getR (y := 3) C fg_Main_208 k_39 rfl d_Main_keeps_22 ?_
        show XJ _ _ _ _ _ _ _ _ _ _ _ _ _ _ _ _ _ _ _ (.ref (G.2.2.1 + 42) :: _) _
        refine x_iload_n C d_Main_keeps_25 1 rfl ?_
        obtain ⟨g7, h0⟩ := xgo h0
        refine x_iald C k_42 (ib_in g7) d_Main_keeps_26 ?_
        refine x_iload_n C d_Main_keeps_27 2 rfl ?_
        refine x_icmp_ne C 33 d_Main_keeps_28 (by decide) (fun q8 => ?_) (fun q8 => ?_)
        · replace h0 := xif q8 h0
          refine x_aload_n C d_Main_keeps_33 0 rfl ?_
          obtain ⟨σ10, k9, h0⟩ := xbind1 h0
          refine x_callVv C hR (c_Main_remember (d := d) (by omega) k9) cw_Main_250 k_1 rfl rfl rfl (Nat.le_of_ble_eq_true rfl) ⟨Nat.zero_le _, Nat.zero_le _⟩ d_Main_keeps_34 ?_
          refine x_aload_n C d_Main_keeps_37 0 rfl ?_
          refine x_getA (y := 39) C fg_Main_79 k_1 rfl d_Main_keeps_38 ?_
          refine x_getR (y := 3) C fg_Main_208 k_39 rfl d_Main_keeps_41 ?_
          show XJ _ _ _ _ _ _ _ _ _ _ _ _ _ _ _ _ _ _ _ (.ref (G.2.2.1 + 42) :: _) _
          refine x_iload_n C d_Main_keeps_44 1 rfl ?_
          refine x_iload_n C d_Main_keeps_45 2 rfl ?_
          obtain ⟨g11, h0⟩ := xgo h0
          refine x_iast C k_42 (ib_in g11) d_Main_keeps_46 ?_
          obtain ⟨σ12, eσ12, h0⟩ := xlet h0
          refine x_sig C eσ12 ?_
          refine x_aload_n C d_Main_keeps_47 0 rfl ?_
          refine x_getI (y := 0) C fg_Main_87 k_1 rfl d_Main_keeps_48 ?_
          exact x_iret C hr hk h0 d_Main_keeps_51
        · replace h0 := xit q8 h0
          exact x_lv C [] rfl (b_Main_keeps_31 C hr hk hd hR h0)
-- LostPlaces$Hall.change(II)V
theorem d_Hall_change_0 : decode prog_6_method_11_code 0 = .ok (.iload_n 1, 1) := by decide +kernel
theorem d_Hall_change_1 : decode prog_6_method_11_code 1 = .ok (.invokestatic 76, 3) := by decide +kernel
theorem d_Hall_change_4 : decode prog_6_method_11_code 4 = .ok (.ifCond .eq 10, 3) := by decide +kernel
theorem d_Hall_change_7 : decode prog_6_method_11_code 7 = .ok (.iload_n 2, 1) := by decide +kernel
theorem d_Hall_change_8 : decode prog_6_method_11_code 8 = .ok (.invokestatic 76, 3) := by decide +kernel
theorem d_Hall_change_11 : decode prog_6_method_11_code 11 = .ok (.ifCond .ne 4, 3) := by decide +kernel
theorem d_Hall_change_14 : decode prog_6_method_11_code 14 = .ok (.return_, 1) := by decide +kernel
theorem d_Hall_change_15 : decode prog_6_method_11_code 15 = .ok (.aload_n 0, 1) := by decide +kernel
theorem d_Hall_change_16 : decode prog_6_method_11_code 16 = .ok (.getfield 9, 3) := by decide +kernel
theorem d_Hall_change_19 : decode prog_6_method_11_code 19 = .ok (.iload_n 1, 1) := by decide +kernel
theorem d_Hall_change_20 : decode prog_6_method_11_code 20 = .ok (.iaload, 1) := by decide +kernel
theorem d_Hall_change_21 : decode prog_6_method_11_code 21 = .ok (.istore_n 3, 1) := by decide +kernel
theorem d_Hall_change_22 : decode prog_6_method_11_code 22 = .ok (.aload_n 0, 1) := by decide +kernel
theorem d_Hall_change_23 : decode prog_6_method_11_code 23 = .ok (.getfield 9, 3) := by decide +kernel
theorem d_Hall_change_26 : decode prog_6_method_11_code 26 = .ok (.iload_n 2, 1) := by decide +kernel
theorem d_Hall_change_27 : decode prog_6_method_11_code 27 = .ok (.iaload, 1) := by decide +kernel
theorem d_Hall_change_28 : decode prog_6_method_11_code 28 = .ok (.istore 4, 2) := by decide +kernel
theorem d_Hall_change_30 : decode prog_6_method_11_code 30 = .ok (.aload_n 0, 1) := by decide +kernel
theorem d_Hall_change_31 : decode prog_6_method_11_code 31 = .ok (.iload_n 1, 1) := by decide +kernel
theorem d_Hall_change_32 : decode prog_6_method_11_code 32 = .ok (.iconst (-1), 1) := by decide +kernel
theorem d_Hall_change_33 : decode prog_6_method_11_code 33 = .ok (.invokevirtual 58, 3) := by decide +kernel
theorem d_Hall_change_36 : decode prog_6_method_11_code 36 = .ok (.aload_n 0, 1) := by decide +kernel
theorem d_Hall_change_37 : decode prog_6_method_11_code 37 = .ok (.iload_n 2, 1) := by decide +kernel
theorem d_Hall_change_38 : decode prog_6_method_11_code 38 = .ok (.iload_n 3, 1) := by decide +kernel
theorem d_Hall_change_39 : decode prog_6_method_11_code 39 = .ok (.invokevirtual 58, 3) := by decide +kernel
theorem d_Hall_change_42 : decode prog_6_method_11_code 42 = .ok (.aload_n 0, 1) := by decide +kernel
theorem d_Hall_change_43 : decode prog_6_method_11_code 43 = .ok (.iload_n 1, 1) := by decide +kernel
theorem d_Hall_change_44 : decode prog_6_method_11_code 44 = .ok (.iload 4, 2) := by decide +kernel
theorem d_Hall_change_46 : decode prog_6_method_11_code 46 = .ok (.invokevirtual 58, 3) := by decide +kernel
theorem d_Hall_change_49 : decode prog_6_method_11_code 49 = .ok (.return_, 1) := by decide +kernel
def s_Hall_change_14 (h : Nat) (p0 : Int32) (p1 : Int32) (σ : LH) : Option (LH) :=
  some σ
theorem b_Hall_change_14 {G : XG} {l : Launch} {p : Program} {e : Env} {R : Room} {s : State} {m : MethodId} {args : Array Value} {below : List Frame} {meth : Method} {c : Code} (C : XC G 1 570 p s m args c prog_6_method_11_code 5 R_Hall) (hr : meth.sig.returnType = none) (hk : meth.locks = false) {d : Nat} (hd : 2 ≤ d + 1) (hR : xroom R (d + 1)) {h : Nat} {p0 : Int32} {p1 : Int32} (hh : h ∈ xHalls) {σ' : LH} {σ : LH} (h0 : s_Hall_change_14 h p0 p1 σ = some σ') : XJ G 1 570 p l e R s m args below meth c 5 (XQ G 1 570 below args s none σ') 0 0 14 [] [] σ := by
  replace h0 := (show _ = _ from h0)
  unfold s_Hall_change_14 at h0
  exact x_vret C hr hk h0 d_Hall_change_14
def s_Hall_change (h : Nat) (p0 : Int32) (p1 : Int32) (σ : LH) : Option (LH) :=
  xb2 (s_Hall_isSitter p0 σ) fun r2 σ3 =>
  if r2 = 0 then (
   s_Hall_change_14 h p0 p1 σ3)
  else (
   xb2 (s_Hall_isSitter p1 σ3) fun r6 σ7 =>
   if r6 = 0 then (
    s_Hall_change_14 h p0 p1 σ7)
   else (
    if ib p0 8 then (
    xl (((σ7.1 (h + 1) (Int32.toNatClampNeg p0))) : Int32) fun x10 =>
    if ib p1 8 then (
    xl (((σ7.1 (h + 1) (Int32.toNatClampNeg p1))) : Int32) fun x12 =>
    xb1 (s_Hall_put h p0 (-1) σ7) fun σ14 =>
    xb1 (s_Hall_put h p1 x10 σ14) fun σ16 =>
    xb1 (s_Hall_put h p0 x12 σ16) fun σ18 =>
    some σ18) else none) else none))
theorem c_Hall_change {G : XG} {l : Launch} {d : Nat} (hd : 2 ≤ d) {h : Nat} {p0 : Int32} {p1 : Int32} (hh : h ∈ xHalls) {σ σ' : LH} (h0 : s_Hall_change h p0 p1 σ = some σ') : xM G 1 570 l y_Hall_change prog_6_method_11_code 5 none d [.ref (G.2.2.1 + h), .int p0, .int p1] σ none σ' := by
  obtain ⟨d, rfl⟩ : ∃ q, d = q + 1 := ⟨d - 1, by omega⟩
  refine x_met R_Hall rfl (by decide +kernel) (Nat.le_of_ble_eq_true rfl) fun p e s m below meth c C hr hk hR => ?_
  refine x_lv (lv' := [(0, .ref (G.2.2.1 + h)), (1, .int p0), (2, .int p1)]) C [0, 1, 2] rfl ?_
  generalize xrm (d + 1) = R at hR ⊢
  unfold s_Hall_change at h0
  refine x_iload_n C d_Hall_change_0 1 rfl ?_
  obtain ⟨r2, σ3, k1, h0⟩ := xbind2 h0
  refine x_callSi C hR (c_Hall_isSitter (d := d) (by omega) k1) cw_Hall_76 w_1020 rfl rfl (Nat.le_of_ble_eq_true rfl) ⟨Nat.zero_le _, Nat.zero_le _⟩ d_Hall_change_1 ?_
  refine x_if_eq C 14 d_Hall_change_4 (by decide) (fun q4 => ?_) (fun q4 => ?_)
  · replace h0 := xit q4 h0
    exact x_lv C [] rfl (b_Hall_change_14 C hr hk hd hR hh h0)
  · replace h0 := xif q4 h0
    refine x_iload_n C d_Hall_change_7 2 rfl ?_
    obtain ⟨r6, σ7, k5, h0⟩ := xbind2 h0
    refine x_callSi C hR (c_Hall_isSitter (d := d) (by omega) k5) cw_Hall_76 w_1020 rfl rfl (Nat.le_of_ble_eq_true rfl) ⟨Nat.zero_le _, Nat.zero_le _⟩ d_Hall_change_8 ?_
    refine x_if_ne C 15 d_Hall_change_11 (by decide) (fun q8 => ?_) (fun q8 => ?_)
    · replace h0 := xif q8 h0
      refine x_aload_n C d_Hall_change_15 0 rfl ?_
      refine x_getR (y := 1) C fg_Hall_9 (hl_0 hh) rfl d_Hall_change_16 ?_
      refine x_iload_n C d_Hall_change_19 1 rfl ?_
      obtain ⟨g9, h0⟩ := xgo h0
      refine x_iald C (hl_1 hh) (ib_in g9) d_Hall_change_20 ?_
      obtain ⟨x10, ex10, h0⟩ := xlet h0
      refine x_name C ex10 ?_
      refine x_istore_n (lv' := [(3, .int x10), (0, .ref (G.2.2.1 + h)), (1, .int p0), (2, .int p1)]) C d_Hall_change_21 rfl (by decide) rfl ?_
      refine x_aload_n C d_Hall_change_22 1 rfl ?_
      refine x_getR (y := 1) C fg_Hall_9 (hl_0 hh) rfl d_Hall_change_23 ?_
      refine x_iload_n C d_Hall_change_26 3 rfl ?_
      obtain ⟨g11, h0⟩ := xgo h0
      refine x_iald C (hl_1 hh) (ib_in g11) d_Hall_change_27 ?_
      obtain ⟨x12, ex12, h0⟩ := xlet h0
      refine x_name C ex12 ?_
      refine x_istore (lv' := [(4, .int x12), (3, .int x10), (0, .ref (G.2.2.1 + h)), (1, .int p0), (2, .int p1)]) C d_Hall_change_28 (by decide) rfl ?_
      refine x_aload_n C d_Hall_change_30 2 rfl ?_
      refine x_iload_n C d_Hall_change_31 3 rfl ?_
      refine x_iconst (v := (-1)) C d_Hall_change_32 (by decide) ?_
      obtain ⟨σ14, k13, h0⟩ := xbind1 h0
      refine x_callVv C hR (c_Hall_put (d := d) (by omega) hh k13) cw_Hall_58 (hl_0 hh) rfl rfl rfl (Nat.le_of_ble_eq_true rfl) ⟨Nat.zero_le _, Nat.zero_le _⟩ d_Hall_change_33 ?_
      refine x_aload_n C d_Hall_change_36 2 rfl ?_
      refine x_iload_n C d_Hall_change_37 4 rfl ?_
      refine x_iload_n C d_Hall_change_38 1 rfl ?_
      obtain ⟨σ16, k15, h0⟩ := xbind1 h0
      refine x_callVv C hR (c_Hall_put (d := d) (by omega) hh k15) cw_Hall_58 (hl_0 hh) rfl rfl rfl (Nat.le_of_ble_eq_true rfl) ⟨Nat.zero_le _, Nat.zero_le _⟩ d_Hall_change_39 ?_
      refine x_aload_n C d_Hall_change_42 2 rfl ?_
      refine x_iload_n C d_Hall_change_43 3 rfl ?_
      refine x_iload C d_Hall_change_44 0 rfl ?_
      obtain ⟨σ18, k17, h0⟩ := xbind1 h0
      refine x_callVv C hR (c_Hall_put (d := d) (by omega) hh k17) cw_Hall_58 (hl_0 hh) rfl rfl rfl (Nat.le_of_ble_eq_true rfl) ⟨Nat.zero_le _, Nat.zero_le _⟩ d_Hall_change_46 ?_
      exact x_vret C hr hk h0 d_Hall_change_49
    · replace h0 := xit q8 h0
      exact x_lv C [] rfl (b_Hall_change_14 C hr hk hd hR hh h0)
-- LostPlaces.swap(II)I
theorem d_Main_swap_0 : decode prog_1_method_22_code 0 = .ok (.aload_n 0, 1) := by decide +kernel
theorem d_Main_swap_1 : decode prog_1_method_22_code 1 = .ok (.iload_n 1, 1) := by decide +kernel
theorem d_Main_swap_2 : decode prog_1_method_22_code 2 = .ok (.invokevirtual 244, 3) := by decide +kernel
theorem d_Main_swap_5 : decode prog_1_method_22_code 5 = .ok (.ifCond .eq 16, 3) := by decide +kernel
theorem d_Main_swap_8 : decode prog_1_method_22_code 8 = .ok (.aload_n 0, 1) := by decide +kernel
theorem d_Main_swap_9 : decode prog_1_method_22_code 9 = .ok (.iload_n 2, 1) := by decide +kernel
theorem d_Main_swap_10 : decode prog_1_method_22_code 10 = .ok (.invokevirtual 244, 3) := by decide +kernel
theorem d_Main_swap_13 : decode prog_1_method_22_code 13 = .ok (.ifCond .eq 8, 3) := by decide +kernel
theorem d_Main_swap_16 : decode prog_1_method_22_code 16 = .ok (.iload_n 1, 1) := by decide +kernel
theorem d_Main_swap_17 : decode prog_1_method_22_code 17 = .ok (.iload_n 2, 1) := by decide +kernel
theorem d_Main_swap_18 : decode prog_1_method_22_code 18 = .ok (.if_icmp .ne 5, 3) := by decide +kernel
theorem d_Main_swap_21 : decode prog_1_method_22_code 21 = .ok (.iconst (-1), 1) := by decide +kernel
theorem d_Main_swap_22 : decode prog_1_method_22_code 22 = .ok (.ireturn, 1) := by decide +kernel
theorem d_Main_swap_23 : decode prog_1_method_22_code 23 = .ok (.aload_n 0, 1) := by decide +kernel
theorem d_Main_swap_24 : decode prog_1_method_22_code 24 = .ok (.getfield 79, 3) := by decide +kernel
theorem d_Main_swap_27 : decode prog_1_method_22_code 27 = .ok (.getfield 196, 3) := by decide +kernel
theorem d_Main_swap_30 : decode prog_1_method_22_code 30 = .ok (.iload_n 1, 1) := by decide +kernel
theorem d_Main_swap_31 : decode prog_1_method_22_code 31 = .ok (.iaload, 1) := by decide +kernel
theorem d_Main_swap_32 : decode prog_1_method_22_code 32 = .ok (.iconst (-1), 1) := by decide +kernel
theorem d_Main_swap_33 : decode prog_1_method_22_code 33 = .ok (.if_icmp .ne 18, 3) := by decide +kernel
theorem d_Main_swap_36 : decode prog_1_method_22_code 36 = .ok (.aload_n 0, 1) := by decide +kernel
theorem d_Main_swap_37 : decode prog_1_method_22_code 37 = .ok (.getfield 79, 3) := by decide +kernel
theorem d_Main_swap_40 : decode prog_1_method_22_code 40 = .ok (.getfield 196, 3) := by decide +kernel
theorem d_Main_swap_43 : decode prog_1_method_22_code 43 = .ok (.iload_n 2, 1) := by decide +kernel
theorem d_Main_swap_44 : decode prog_1_method_22_code 44 = .ok (.iaload, 1) := by decide +kernel
theorem d_Main_swap_45 : decode prog_1_method_22_code 45 = .ok (.iconst (-1), 1) := by decide +kernel
theorem d_Main_swap_46 : decode prog_1_method_22_code 46 = .ok (.if_icmp .ne 5, 3) := by decide +kernel
theorem d_Main_swap_49 : decode prog_1_method_22_code 49 = .ok (.iconst (-1), 1) := by decide +kernel
theorem d_Main_swap_50 : decode prog_1_method_22_code 50 = .ok (.ireturn, 1) := by decide +kernel
theorem d_Main_swap_51 : decode prog_1_method_22_code 51 = .ok (.aload_n 0, 1) := by decide +kernel
theorem d_Main_swap_52 : decode prog_1_method_22_code 52 = .ok (.invokevirtual 250, 3) := by decide +kernel
theorem d_Main_swap_55 : decode prog_1_method_22_code 55 = .ok (.aload_n 0, 1) := by decide +kernel
theorem d_Main_swap_56 : decode prog_1_method_22_code 56 = .ok (.getfield 79, 3) := by decide +kernel
theorem d_Main_swap_59 : decode prog_1_method_22_code 59 = .ok (.iload_n 1, 1) := by decide +kernel
theorem d_Main_swap_60 : decode prog_1_method_22_code 60 = .ok (.iload_n 2, 1) := by decide +kernel
theorem d_Main_swap_61 : decode prog_1_method_22_code 61 = .ok (.invokevirtual 257, 3) := by decide +kernel
theorem d_Main_swap_64 : decode prog_1_method_22_code 64 = .ok (.aload_n 0, 1) := by decide +kernel
theorem d_Main_swap_65 : decode prog_1_method_22_code 65 = .ok (.getfield 87, 3) := by decide +kernel
theorem d_Main_swap_68 : decode prog_1_method_22_code 68 = .ok (.ireturn, 1) := by decide +kernel
def s_Main_swap_21 (p0 : Int32) (p1 : Int32) (σ : LH) : Option (Int32 × LH) :=
  some ((-1), σ)
theorem b_Main_swap_21 {G : XG} {l : Launch} {p : Program} {e : Env} {R : Room} {s : State} {m : MethodId} {args : Array Value} {below : List Frame} {meth : Method} {c : Code} (C : XC G 1 570 p s m args c prog_1_method_22_code 3 R_Main) (hr : meth.sig.returnType = (some .int)) (hk : meth.locks = false) {d : Nat} (hd : 5 ≤ d + 1) (hR : xroom R (d + 1)) {p0 : Int32} {p1 : Int32} {σ' : LH} {r : Int32} {σ : LH} (h0 : s_Main_swap_21 p0 p1 σ = some (r, σ')) : XJ G 1 570 p l e R s m args below meth c 3 (XQ G 1 570 below args s (some (.int r)) σ') 0 0 21 [] [] σ := by
  replace h0 := (show _ = _ from h0)
  unfold s_Main_swap_21 at h0
  refine x_iconst (v := (-1)) C d_Main_swap_21 (by decide) ?_
  exact x_iret C hr hk h0 d_Main_swap_22
def s_Main_swap_51 (p0 : Int32) (p1 : Int32) (σ : LH) : Option (Int32 × LH) :=
  xb1 (s_Main_remember σ) fun σ15 =>
  xb1 (s_Hall_change 39 p0 p1 σ15) fun σ17 =>
  some ((σ17.1 1 13), σ17)
theorem b_Main_swap_51 {G : XG} {l : Launch} {p : Program} {e : Env} {R : Room} {s : State} {m : MethodId} {args : Array Value} {below : List Frame} {meth : Method} {c : Code} (C : XC G 1 570 p s m args c prog_1_method_22_code 3 R_Main) (hr : meth.sig.returnType = (some .int)) (hk : meth.locks = false) {d : Nat} (hd : 5 ≤ d + 1) (hR : xroom R (d + 1)) {p0 : Int32} {p1 : Int32} {σ' : LH} {r : Int32} {σ : LH} (h0 : s_Main_swap_51 p0 p1 σ = some (r, σ')) : XJ G 1 570 p l e R s m args below meth c 3 (XQ G 1 570 below args s (some (.int r)) σ') 0 0 51 [(0, .ref (G.2.2.1 + 1)), (1, .int p0), (2, .int p1)] [] σ := by
  replace h0 := (show _ = _ from h0)
  unfold s_Main_swap_51 at h0
  refine x_aload_n C d_Main_swap_51 0 rfl ?_
  obtain ⟨σ15, k14, h0⟩ := xbind1 h0
  refine x_callVv C hR (c_Main_remember (d := d) (by omega) k14) cw_Main_250 k_1 rfl rfl rfl (Nat.le_of_ble_eq_true rfl) ⟨Nat.zero_le _, Nat.zero_le _⟩ d_Main_swap_52 ?_
  refine x_aload_n C d_Main_swap_55 0 rfl ?_
  refine x_getA (y := 39) C fg_Main_79 k_1 rfl d_Main_swap_56 ?_
  refine x_iload_n C d_Main_swap_59 1 rfl ?_
  refine x_iload_n C d_Main_swap_60 2 rfl ?_
  obtain ⟨σ17, k16, h0⟩ := xbind1 h0
  refine x_callVv C hR (c_Hall_change (d := d) (by omega) (show 39 ∈ xHalls by decide) k16) cw_Main_257 k_39 rfl rfl rfl (Nat.le_of_ble_eq_true rfl) ⟨Nat.zero_le _, Nat.zero_le _⟩ d_Main_swap_61 ?_
  refine x_aload_n C d_Main_swap_64 0 rfl ?_
  refine x_getI (y := 0) C fg_Main_87 k_1 rfl d_Main_swap_65 ?_
  exact x_iret C hr hk h0 d_Main_swap_68
def s_Main_swap (p0 : Int32) (p1 : Int32) (σ : LH) : Option (Int32 × LH) :=
  xb2 (s_Main_isHere p0 σ) fun r2 σ3 =>
  if r2 = 0 then (
   s_Main_swap_21 p0 p1 σ3)
  else (
   xb2 (s_Main_isHere p1 σ3) fun r6 σ7 =>
   if r6 = 0 then (
    s_Main_swap_21 p0 p1 σ7)
   else (
    if p0 = p1 then (
     s_Main_swap_21 p0 p1 σ7)
    else (
     if ib p0 8 then (
     if (σ7.1 40 (Int32.toNatClampNeg p0)) = (-1) then (
      if ib p1 8 then (
      if (σ7.1 40 (Int32.toNatClampNeg p1)) = (-1) then (
       some ((-1), σ7))
      else (
       s_Main_swap_51 p0 p1 σ7)) else none)
     else (
      s_Main_swap_51 p0 p1 σ7)) else none)))
theorem c_Main_swap {G : XG} {l : Launch} {d : Nat} (hd : 5 ≤ d) {p0 : Int32} {p1 : Int32} {σ σ' : LH} {r : Int32} (h0 : s_Main_swap p0 p1 σ = some (r, σ')) : xM G 1 570 l y_Main_swap prog_1_method_22_code 3 (some .int) d [.ref (G.2.2.1 + 1), .int p0, .int p1] σ (some (.int r)) σ' := by
  obtain ⟨d, rfl⟩ : ∃ q, d = q + 1 := ⟨d - 1, by omega⟩
  refine x_met R_Main rfl (by decide +kernel) (Nat.le_of_ble_eq_true rfl) fun p e s m below meth c C hr hk hR => ?_
  refine x_lv (lv' := [(0, .ref (G.2.2.1 + 1)), (1, .int p0), (2, .int p1)]) C [0, 1, 2] rfl ?_
  generalize xrm (d + 1) = R at hR ⊢
  unfold s_Main_swap at h0
  refine x_aload_n C d_Main_swap_0 0 rfl ?_
  refine x_iload_n C d_Main_swap_1 1 rfl ?_
  obtain ⟨r2, σ3, k1, h0⟩ := xbind2 h0
  refine x_callVi C hR (c_Main_isHere (d := d) (by omega) k1) cw_Main_244 k_1 rfl rfl rfl (Nat.le_of_ble_eq_true rfl) ⟨Nat.zero_le _, Nat.zero_le _⟩ d_Main_swap_2 ?_
  refine x_if_eq C 21 d_Main_swap_5 (by decide) (fun q4 => ?_) (fun q4 => ?_)
  · replace h0 := xit q4 h0
    exact x_lv C [] rfl (b_Main_swap_21 C hr hk hd hR h0)
  · replace h0 := xif q4 h0
    refine x_aload_n C d_Main_swap_8 0 rfl ?_
    refine x_iload_n C d_Main_swap_9 2 rfl ?_
    obtain ⟨r6, σ7, k5, h0⟩ := xbind2 h0
    refine x_callVi C hR (c_Main_isHere (d := d) (by omega) k5) cw_Main_244 k_1 rfl rfl rfl (Nat.le_of_ble_eq_true rfl) ⟨Nat.zero_le _, Nat.zero_le _⟩ d_Main_swap_10 ?_
    refine x_if_eq C 21 d_Main_swap_13 (by decide) (fun q8 => ?_) (fun q8 => ?_)
    · replace h0 := xit q8 h0
      exact x_lv C [] rfl (b_Main_swap_21 C hr hk hd hR h0)
    · replace h0 := xif q8 h0
      refine x_iload_n C d_Main_swap_16 1 rfl ?_
      refine x_iload_n C d_Main_swap_17 2 rfl ?_
      refine x_icmp_ne C 23 d_Main_swap_18 (by decide) (fun q9 => ?_) (fun q9 => ?_)
      · replace h0 := xif q9 h0
        refine x_aload_n C d_Main_swap_23 0 rfl ?_
        refine x_getA (y := 39) C fg_Main_79 k_1 rfl d_Main_swap_24 ?_
        refine x_getR (y := 1) C fg_Main_196 k_39 rfl d_Main_swap_27 ?_
        show XJ _ _ _ _ _ _ _ _ _ _ _ _ _ _ _ _ _ _ _ (.ref (G.2.2.1 + 40) :: _) _
        refine x_iload_n C d_Main_swap_30 1 rfl ?_
        obtain ⟨g10, h0⟩ := xgo h0
        refine x_iald C k_40 (ib_in g10) d_Main_swap_31 ?_
        refine x_iconst (v := (-1)) C d_Main_swap_32 (by decide) ?_
        refine x_icmp_ne C 51 d_Main_swap_33 (by decide) (fun q11 => ?_) (fun q11 => ?_)
        · replace h0 := xif q11 h0
          exact x_lv C [0, 1, 2] rfl (b_Main_swap_51 C hr hk hd hR h0)
        · replace h0 := xit q11 h0
          refine x_aload_n C d_Main_swap_36 0 rfl ?_
          refine x_getA (y := 39) C fg_Main_79 k_1 rfl d_Main_swap_37 ?_
          refine x_getR (y := 1) C fg_Main_196 k_39 rfl d_Main_swap_40 ?_
          show XJ _ _ _ _ _ _ _ _ _ _ _ _ _ _ _ _ _ _ _ (.ref (G.2.2.1 + 40) :: _) _
          refine x_iload_n C d_Main_swap_43 2 rfl ?_
          obtain ⟨g12, h0⟩ := xgo h0
          refine x_iald C k_40 (ib_in g12) d_Main_swap_44 ?_
          refine x_iconst (v := (-1)) C d_Main_swap_45 (by decide) ?_
          refine x_icmp_ne C 51 d_Main_swap_46 (by decide) (fun q13 => ?_) (fun q13 => ?_)
          · replace h0 := xif q13 h0
            exact x_lv C [0, 1, 2] rfl (b_Main_swap_51 C hr hk hd hR h0)
          · replace h0 := xit q13 h0
            refine x_iconst (v := (-1)) C d_Main_swap_49 (by decide) ?_
            exact x_iret C hr hk h0 d_Main_swap_50
      · replace h0 := xit q9 h0
        exact x_lv C [] rfl (b_Main_swap_21 C hr hk hd hR h0)
-- LostPlaces$Hall.release(I)V
theorem d_Hall_release_0 : decode prog_6_method_13_code 0 = .ok (.iload_n 1, 1) := by decide +kernel
theorem d_Hall_release_1 : decode prog_6_method_13_code 1 = .ok (.ifCond .lt 9, 3) := by decide +kernel
theorem d_Hall_release_4 : decode prog_6_method_13_code 4 = .ok (.iload_n 1, 1) := by decide +kernel
theorem d_Hall_release_5 : decode prog_6_method_13_code 5 = .ok (.bipush 8, 2) := by decide +kernel
theorem d_Hall_release_7 : decode prog_6_method_13_code 7 = .ok (.if_icmp .lt 4, 3) := by decide +kernel
theorem d_Hall_release_10 : decode prog_6_method_13_code 10 = .ok (.return_, 1) := by decide +kernel
theorem d_Hall_release_11 : decode prog_6_method_13_code 11 = .ok (.aload_n 0, 1) := by decide +kernel
theorem d_Hall_release_12 : decode prog_6_method_13_code 12 = .ok (.getfield 27, 3) := by decide +kernel
theorem d_Hall_release_15 : decode prog_6_method_13_code 15 = .ok (.iload_n 1, 1) := by decide +kernel
theorem d_Hall_release_16 : decode prog_6_method_13_code 16 = .ok (.iconst (-1), 1) := by decide +kernel
theorem d_Hall_release_17 : decode prog_6_method_13_code 17 = .ok (.iastore, 1) := by decide +kernel
theorem d_Hall_release_18 : decode prog_6_method_13_code 18 = .ok (.aload_n 0, 1) := by decide +kernel
theorem d_Hall_release_19 : decode prog_6_method_13_code 19 = .ok (.getfield 30, 3) := by decide +kernel
theorem d_Hall_release_22 : decode prog_6_method_13_code 22 = .ok (.iload_n 1, 1) := by decide +kernel
theorem d_Hall_release_23 : decode prog_6_method_13_code 23 = .ok (.iconst (-1), 1) := by decide +kernel
theorem d_Hall_release_24 : decode prog_6_method_13_code 24 = .ok (.iastore, 1) := by decide +kernel
theorem d_Hall_release_25 : decode prog_6_method_13_code 25 = .ok (.aload_n 0, 1) := by decide +kernel
theorem d_Hall_release_26 : decode prog_6_method_13_code 26 = .ok (.iconst (-1), 1) := by decide +kernel
theorem d_Hall_release_27 : decode prog_6_method_13_code 27 = .ok (.putfield 43, 3) := by decide +kernel
theorem d_Hall_release_30 : decode prog_6_method_13_code 30 = .ok (.return_, 1) := by decide +kernel
def s_Hall_release_10 (h : Nat) (p0 : Int32) (σ : LH) : Option (LH) :=
  some σ
theorem b_Hall_release_10 {G : XG} {l : Launch} {p : Program} {e : Env} {R : Room} {s : State} {m : MethodId} {args : Array Value} {below : List Frame} {meth : Method} {c : Code} (C : XC G 1 570 p s m args c prog_6_method_13_code 2 R_Hall) (hr : meth.sig.returnType = none) (hk : meth.locks = false) {d : Nat} (hd : 1 ≤ d + 1) (hR : xroom R (d + 1)) {h : Nat} {p0 : Int32} (hh : h ∈ xHalls) {σ' : LH} {σ : LH} (h0 : s_Hall_release_10 h p0 σ = some σ') : XJ G 1 570 p l e R s m args below meth c 2 (XQ G 1 570 below args s none σ') 0 0 10 [] [] σ := by
  replace h0 := (show _ = _ from h0)
  unfold s_Hall_release_10 at h0
  exact x_vret C hr hk h0 d_Hall_release_10
def s_Hall_release (h : Nat) (p0 : Int32) (σ : LH) : Option (LH) :=
  if p0 < 0 then (
   s_Hall_release_10 h p0 σ)
  else (
   if p0 < 8 then (
    if ib p0 8 then (
    xl ((stI σ (h + 6) (Int32.toNatClampNeg p0) (-1)) : LH) fun σ4 =>
    if ib p0 8 then (
    xl ((stI σ4 (h + 7) (Int32.toNatClampNeg p0) (-1)) : LH) fun σ6 =>
    xl ((stI σ6 h 10 (-1)) : LH) fun σ7 =>
    some σ7) else none) else none)
   else (
    s_Hall_release_10 h p0 σ))
theorem c_Hall_release {G : XG} {l : Launch} {d : Nat} (hd : 1 ≤ d) {h : Nat} {p0 : Int32} (hh : h ∈ xHalls) {σ σ' : LH} (h0 : s_Hall_release h p0 σ = some σ') : xM G 1 570 l y_Hall_release prog_6_method_13_code 2 none d [.ref (G.2.2.1 + h), .int p0] σ none σ' := by
  obtain ⟨d, rfl⟩ : ∃ q, d = q + 1 := ⟨d - 1, by omega⟩
  refine x_met R_Hall rfl (by decide +kernel) (Nat.le_of_ble_eq_true rfl) fun p e s m below meth c C hr hk hR => ?_
  refine x_lv (lv' := [(0, .ref (G.2.2.1 + h)), (1, .int p0)]) C [0, 1] rfl ?_
  generalize xrm (d + 1) = R at hR ⊢
  unfold s_Hall_release at h0
  refine x_iload_n C d_Hall_release_0 1 rfl ?_
  refine x_if_lt C 10 d_Hall_release_1 (by decide) (fun q1 => ?_) (fun q1 => ?_)
  · replace h0 := xit q1 h0
    exact x_lv C [] rfl (b_Hall_release_10 C hr hk hd hR hh h0)
  · replace h0 := xif q1 h0
    refine x_iload_n C d_Hall_release_4 1 rfl ?_
    refine x_bipush (v := 8) C d_Hall_release_5 (by decide) ?_
    refine x_icmp_lt C 11 d_Hall_release_7 (by decide) (fun q2 => ?_) (fun q2 => ?_)
    · replace h0 := xit q2 h0
      refine x_aload_n C d_Hall_release_11 0 rfl ?_
      refine x_getR (y := 6) C fg_Hall_27 (hl_0 hh) rfl d_Hall_release_12 ?_
      refine x_iload_n C d_Hall_release_15 1 rfl ?_
      refine x_iconst (v := (-1)) C d_Hall_release_16 (by decide) ?_
      obtain ⟨g3, h0⟩ := xgo h0
      refine x_iast C (hl_6 hh) (ib_in g3) d_Hall_release_17 ?_
      obtain ⟨σ4, eσ4, h0⟩ := xlet h0
      refine x_sig C eσ4 ?_
      refine x_aload_n C d_Hall_release_18 0 rfl ?_
      refine x_getR (y := 7) C fg_Hall_30 (hl_0 hh) rfl d_Hall_release_19 ?_
      refine x_iload_n C d_Hall_release_22 1 rfl ?_
      refine x_iconst (v := (-1)) C d_Hall_release_23 (by decide) ?_
      obtain ⟨g5, h0⟩ := xgo h0
      refine x_iast C (hl_7 hh) (ib_in g5) d_Hall_release_24 ?_
      obtain ⟨σ6, eσ6, h0⟩ := xlet h0
      refine x_sig C eσ6 ?_
      refine x_aload_n C d_Hall_release_25 0 rfl ?_
      refine x_iconst (v := (-1)) C d_Hall_release_26 (by decide) ?_
      refine x_putI (y := 0) C fp_Hall_43 (hl_0 hh) rfl rfl rfl d_Hall_release_27 ?_
      obtain ⟨σ7, eσ7, h0⟩ := xlet h0
      refine x_sig C eσ7 ?_
      exact x_vret C hr hk h0 d_Hall_release_30
    · replace h0 := xif q2 h0
      exact x_lv C [] rfl (b_Hall_release_10 C hr hk hd hR hh h0)
-- LostPlaces$Evening.release(LLostPlaces$Hall;)V
theorem d_Evening_release_0 : decode prog_3_method_12_code 0 = .ok (.iconst 0, 1) := by decide +kernel
theorem d_Evening_release_1 : decode prog_3_method_12_code 1 = .ok (.istore_n 2, 1) := by decide +kernel
theorem d_Evening_release_2 : decode prog_3_method_12_code 2 = .ok (.iload_n 2, 1) := by decide +kernel
theorem d_Evening_release_3 : decode prog_3_method_12_code 3 = .ok (.aload_n 0, 1) := by decide +kernel
theorem d_Evening_release_4 : decode prog_3_method_12_code 4 = .ok (.getfield 28, 3) := by decide +kernel
theorem d_Evening_release_7 : decode prog_3_method_12_code 7 = .ok (.getfield 113, 3) := by decide +kernel
theorem d_Evening_release_10 : decode prog_3_method_12_code 10 = .ok (.if_icmp .ge 37, 3) := by decide +kernel
theorem d_Evening_release_13 : decode prog_3_method_12_code 13 = .ok (.aload_n 1, 1) := by decide +kernel
theorem d_Evening_release_14 : decode prog_3_method_12_code 14 = .ok (.getfield 127, 3) := by decide +kernel
theorem d_Evening_release_17 : decode prog_3_method_12_code 17 = .ok (.iload_n 2, 1) := by decide +kernel
theorem d_Evening_release_18 : decode prog_3_method_12_code 18 = .ok (.iaload, 1) := by decide +kernel
theorem d_Evening_release_19 : decode prog_3_method_12_code 19 = .ok (.iconst (-1), 1) := by decide +kernel
theorem d_Evening_release_20 : decode prog_3_method_12_code 20 = .ok (.if_icmp .eq 21, 3) := by decide +kernel
theorem d_Evening_release_23 : decode prog_3_method_12_code 23 = .ok (.aload_n 1, 1) := by decide +kernel
theorem d_Evening_release_24 : decode prog_3_method_12_code 24 = .ok (.getfield 116, 3) := by decide +kernel
theorem d_Evening_release_27 : decode prog_3_method_12_code 27 = .ok (.iload_n 2, 1) := by decide +kernel
theorem d_Evening_release_28 : decode prog_3_method_12_code 28 = .ok (.iaload, 1) := by decide +kernel
theorem d_Evening_release_29 : decode prog_3_method_12_code 29 = .ok (.aload_n 1, 1) := by decide +kernel
theorem d_Evening_release_30 : decode prog_3_method_12_code 30 = .ok (.getfield 62, 3) := by decide +kernel
theorem d_Evening_release_33 : decode prog_3_method_12_code 33 = .ok (.if_icmp .gt 8, 3) := by decide +kernel
theorem d_Evening_release_36 : decode prog_3_method_12_code 36 = .ok (.aload_n 1, 1) := by decide +kernel
theorem d_Evening_release_37 : decode prog_3_method_12_code 37 = .ok (.iload_n 2, 1) := by decide +kernel
theorem d_Evening_release_38 : decode prog_3_method_12_code 38 = .ok (.invokevirtual 130, 3) := by decide +kernel
theorem d_Evening_release_41 : decode prog_3_method_12_code 41 = .ok (.iinc 2 1, 3) := by decide +kernel
theorem d_Evening_release_44 : decode prog_3_method_12_code 44 = .ok (.goto (-42), 3) := by decide +kernel
theorem d_Evening_release_47 : decode prog_3_method_12_code 47 = .ok (.return_, 1) := by decide +kernel
def s_Evening_release_41 (p0 : Nat) (rec2 : Int32 → LH → Option (LH)) (y2 : Int32) (σ : LH) : Option (LH) :=
  xl ((y2 + 1) : Int32) fun x4 =>
  rec2 x4 σ
theorem b_Evening_release_41 {G : XG} {l : Launch} {p : Program} {e : Env} {R : Room} {s : State} {m : MethodId} {args : Array Value} {below : List Frame} {meth : Method} {c : Code} (C : XC G 1 570 p s m args c prog_3_method_12_code 3 R_Evening) (hr : meth.sig.returnType = none) (hk : meth.locks = false) {d : Nat} (hd : 2 ≤ d + 1) (hR : xroom R (d + 1)) {p0 : Nat} (hp0 : p0 ∈ xHalls) {rec2 : Int32 → LH → Option (LH)} {σ' : LH} (hrec2 : ∀ (y2 : Int32) (σ : LH), rec2 y2 σ = some σ' → XJ G 1 570 p l e R s m args below meth c 3 (XQ G 1 570 below args s none σ') 0 0 2 [(0, .ref (G.2.2.1 + 38)), (1, .ref (G.2.2.1 + p0)), (2, .int y2)] [] σ) {y2 : Int32} {σ : LH} (h0 : s_Evening_release_41 p0 rec2 y2 σ = some σ') : XJ G 1 570 p l e R s m args below meth c 3 (XQ G 1 570 below args s none σ') 0 0 41 [(0, .ref (G.2.2.1 + 38)), (1, .ref (G.2.2.1 + p0)), (2, .int y2)] [] σ := by
  replace h0 := (show _ = _ from h0)
  unfold s_Evening_release_41 at h0
  obtain ⟨x4, ex4, h0⟩ := xlet h0
  refine x_iinc (lv' := [(2, .int x4), (0, .ref (G.2.2.1 + 38)), (1, .ref (G.2.2.1 + p0))]) C d_Evening_release_41 2 rfl ex4 (by decide) rfl ?_
  refine x_goto C 2 d_Evening_release_44 (by decide) ?_
  exact x_lv C [1, 2, 0] rfl (hrec2 _ _ h0)
def s_Evening_release_2_b (p0 : Nat) (rec2 : Int32 → LH → Option (LH)) (y2 : Int32) (σ : LH) : Option (LH) :=
  if (σ.1 4 0) ≤ y2 then (
   some σ)
  else (
   if ib y2 8 then (
   if (σ.1 (p0 + 6) (Int32.toNatClampNeg y2)) = (-1) then (
    s_Evening_release_41 p0 rec2 y2 σ)
   else (
    if ib y2 8 then (
    if (σ.1 p0 7) < (σ.1 (p0 + 7) (Int32.toNatClampNeg y2)) then (
     s_Evening_release_41 p0 rec2 y2 σ)
    else (
     xb1 (s_Hall_release p0 y2 σ) fun σ8 =>
     s_Evening_release_41 p0 rec2 y2 σ8)) else none)) else none)
def s_Evening_release_2 (p0 : Nat) : Nat → Int32 → LH → Option (LH)
  | 0, _, _ => none
  | n + 1, y2, σ => s_Evening_release_2_b p0 (s_Evening_release_2 p0 n) y2 σ
theorem bb_Evening_release_2 {G : XG} {l : Launch} {p : Program} {e : Env} {R : Room} {s : State} {m : MethodId} {args : Array Value} {below : List Frame} {meth : Method} {c : Code} (C : XC G 1 570 p s m args c prog_3_method_12_code 3 R_Evening) (hr : meth.sig.returnType = none) (hk : meth.locks = false) {d : Nat} (hd : 2 ≤ d + 1) (hR : xroom R (d + 1)) {p0 : Nat} (hp0 : p0 ∈ xHalls) {rec2 : Int32 → LH → Option (LH)} {σ' : LH} (hrec2 : ∀ (y2 : Int32) (σ : LH), rec2 y2 σ = some σ' → XJ G 1 570 p l e R s m args below meth c 3 (XQ G 1 570 below args s none σ') 0 0 2 [(0, .ref (G.2.2.1 + 38)), (1, .ref (G.2.2.1 + p0)), (2, .int y2)] [] σ) {y2 : Int32} {σ : LH} (h0 : s_Evening_release_2_b p0 rec2 y2 σ = some σ') : XJ G 1 570 p l e R s m args below meth c 3 (XQ G 1 570 below args s none σ') 0 0 2 [(0, .ref (G.2.2.1 + 38)), (1, .ref (G.2.2.1 + p0)), (2, .int y2)] [] σ := by
  replace h0 := (show _ = _ from h0)
  unfold s_Evening_release_2_b at h0
  refine x_iload_n C d_Evening_release_2 2 rfl ?_
  refine x_aload_n C d_Evening_release_3 0 rfl ?_
  refine x_getA (y := 4) C fg_Evening_28 k_38 rfl d_Evening_release_4 ?_
  refine x_getI (y := 0) C fg_Evening_113 k_4 rfl d_Evening_release_7 ?_
  refine x_icmp_ge C 47 d_Evening_release_10 (by decide) (fun q1 => ?_) (fun q1 => ?_)
  · replace h0 := xit q1 h0
    exact x_vret C hr hk h0 d_Evening_release_47
  · replace h0 := xif q1 h0
    refine x_aload_n C d_Evening_release_13 1 rfl ?_
    refine x_getR (y := 6) C fg_Evening_127 (hl_0 hp0) rfl d_Evening_release_14 ?_
    refine x_iload_n C d_Evening_release_17 2 rfl ?_
    obtain ⟨g2, h0⟩ := xgo h0
    refine x_iald C (hl_6 hp0) (ib_in g2) d_Evening_release_18 ?_
    refine x_iconst (v := (-1)) C d_Evening_release_19 (by decide) ?_
    refine x_icmp_eq C 41 d_Evening_release_20 (by decide) (fun q3 => ?_) (fun q3 => ?_)
    · replace h0 := xit q3 h0
      exact x_lv C [0, 1, 2] rfl (b_Evening_release_41 C hr hk hd hR hp0 hrec2 h0)
    · replace h0 := xif q3 h0
      refine x_aload_n C d_Evening_release_23 1 rfl ?_
      refine x_getR (y := 7) C fg_Evening_116 (hl_0 hp0) rfl d_Evening_release_24 ?_
      refine x_iload_n C d_Evening_release_27 2 rfl ?_
      obtain ⟨g5, h0⟩ := xgo h0
      refine x_iald C (hl_7 hp0) (ib_in g5) d_Evening_release_28 ?_
      refine x_aload_n C d_Evening_release_29 1 rfl ?_
      refine x_getI (y := 0) C fg_Evening_62 (hl_0 hp0) rfl d_Evening_release_30 ?_
      refine x_icmp_gt C 41 d_Evening_release_33 (by decide) (fun q6 => ?_) (fun q6 => ?_)
      · replace h0 := xit q6 h0
        exact x_lv C [0, 1, 2] rfl (b_Evening_release_41 C hr hk hd hR hp0 hrec2 h0)
      · replace h0 := xif q6 h0
        refine x_aload_n C d_Evening_release_36 1 rfl ?_
        refine x_iload_n C d_Evening_release_37 2 rfl ?_
        obtain ⟨σ8, k7, h0⟩ := xbind1 h0
        refine x_callVv C hR (c_Hall_release (d := d) (by omega) hp0 k7) cw_Evening_130 (hl_0 hp0) rfl rfl rfl (Nat.le_of_ble_eq_true rfl) ⟨Nat.zero_le _, Nat.zero_le _⟩ d_Evening_release_38 ?_
        exact x_lv C [0, 1, 2] rfl (b_Evening_release_41 C hr hk hd hR hp0 hrec2 h0)
theorem b_Evening_release_2 {G : XG} {l : Launch} {p : Program} {e : Env} {R : Room} {s : State} {m : MethodId} {args : Array Value} {below : List Frame} {meth : Method} {c : Code} (C : XC G 1 570 p s m args c prog_3_method_12_code 3 R_Evening) (hr : meth.sig.returnType = none) (hk : meth.locks = false) {d : Nat} (hd : 2 ≤ d + 1) (hR : xroom R (d + 1)) {p0 : Nat} (hp0 : p0 ∈ xHalls) {σ' : LH} : ∀ (n : Nat) (y2 : Int32) (σ : LH), s_Evening_release_2 p0 n y2 σ = some σ' → XJ G 1 570 p l e R s m args below meth c 3 (XQ G 1 570 below args s none σ') 0 0 2 [(0, .ref (G.2.2.1 + 38)), (1, .ref (G.2.2.1 + p0)), (2, .int y2)] [] σ := by
  intro n
  induction n with
  | zero => intro y2 σ h0; cases h0
  | succ n ih => intro y2 σ h0; exact bb_Evening_release_2 C hr hk hd hR hp0 ih h0
def s_Evening_release (p0 : Nat) (σ : LH) : Option (LH) :=
  s_Evening_release_2 p0 FUEL 0 σ
theorem c_Evening_release {G : XG} {l : Launch} {d : Nat} (hd : 2 ≤ d) {p0 : Nat} (hp0 : p0 ∈ xHalls) {σ σ' : LH} (h0 : s_Evening_release p0 σ = some σ') : xM G 1 570 l y_Evening_release prog_3_method_12_code 3 none d [.ref (G.2.2.1 + 38), .ref (G.2.2.1 + p0)] σ none σ' := by
  obtain ⟨d, rfl⟩ : ∃ q, d = q + 1 := ⟨d - 1, by omega⟩
  refine x_met R_Evening rfl (by decide +kernel) (Nat.le_of_ble_eq_true rfl) fun p e s m below meth c C hr hk hR => ?_
  refine x_lv (lv' := [(0, .ref (G.2.2.1 + 38)), (1, .ref (G.2.2.1 + p0))]) C [0, 1] rfl ?_
  generalize xrm (d + 1) = R at hR ⊢
  unfold s_Evening_release at h0
  refine x_iconst (v := 0) C d_Evening_release_0 (by decide) ?_
  refine x_istore_n (lv' := [(2, .int 0), (0, .ref (G.2.2.1 + 38)), (1, .ref (G.2.2.1 + p0))]) C d_Evening_release_1 rfl (by decide) rfl ?_
  exact x_lv C [1, 2, 0] rfl (b_Evening_release_2 C hr hk hd hR hp0 FUEL _ _ h0)
-- LostPlaces$Evening.isHere(LLostPlaces$Hall;I)Z
theorem d_Evening_isHere_0 : decode prog_3_method_14_code 0 = .ok (.iload_n 2, 1) := by decide +kernel
theorem d_Evening_isHere_1 : decode prog_3_method_14_code 1 = .ok (.ifCond .lt 29, 3) := by decide +kernel
theorem d_Evening_isHere_4 : decode prog_3_method_14_code 4 = .ok (.iload_n 2, 1) := by decide +kernel
theorem d_Evening_isHere_5 : decode prog_3_method_14_code 5 = .ok (.aload_n 0, 1) := by decide +kernel
theorem d_Evening_isHere_6 : decode prog_3_method_14_code 6 = .ok (.getfield 28, 3) := by decide +kernel
theorem d_Evening_isHere_9 : decode prog_3_method_14_code 9 = .ok (.getfield 40, 3) := by decide +kernel
theorem d_Evening_isHere_12 : decode prog_3_method_14_code 12 = .ok (.if_icmp .ge 18, 3) := by decide +kernel
theorem d_Evening_isHere_15 : decode prog_3_method_14_code 15 = .ok (.aload_n 1, 1) := by decide +kernel
theorem d_Evening_isHere_16 : decode prog_3_method_14_code 16 = .ok (.getfield 45, 3) := by decide +kernel
theorem d_Evening_isHere_19 : decode prog_3_method_14_code 19 = .ok (.iload_n 2, 1) := by decide +kernel
theorem d_Evening_isHere_20 : decode prog_3_method_14_code 20 = .ok (.iaload, 1) := by decide +kernel
theorem d_Evening_isHere_21 : decode prog_3_method_14_code 21 = .ok (.bipush (-2), 2) := by decide +kernel
theorem d_Evening_isHere_23 : decode prog_3_method_14_code 23 = .ok (.if_icmp .eq 7, 3) := by decide +kernel
theorem d_Evening_isHere_26 : decode prog_3_method_14_code 26 = .ok (.iconst 1, 1) := by decide +kernel
theorem d_Evening_isHere_27 : decode prog_3_method_14_code 27 = .ok (.goto 4, 3) := by decide +kernel
theorem d_Evening_isHere_30 : decode prog_3_method_14_code 30 = .ok (.iconst 0, 1) := by decide +kernel
theorem d_Evening_isHere_31 : decode prog_3_method_14_code 31 = .ok (.ireturn, 1) := by decide +kernel
def s_Evening_isHere_31 (p0 : Nat) (p1 : Int32) (z0 : Int32) (σ : LH) : Option (Int32 × LH) :=
  if zb z0 then (
  some (z0, σ)) else none
theorem b_Evening_isHere_31 {G : XG} {l : Launch} {p : Program} {e : Env} {R : Room} {s : State} {m : MethodId} {args : Array Value} {below : List Frame} {meth : Method} {c : Code} (C : XC G 1 570 p s m args c prog_3_method_14_code 3 R_Evening) (hr : meth.sig.returnType = (some .boolean)) (hk : meth.locks = false) {d : Nat} (hd : 1 ≤ d + 1) (hR : xroom R (d + 1)) {p0 : Nat} {p1 : Int32} (hp0 : p0 ∈ xHalls) {σ' : LH} {r : Int32} {z0 : Int32} {σ : LH} (h0 : s_Evening_isHere_31 p0 p1 z0 σ = some (r, σ')) : XJ G 1 570 p l e R s m args below meth c 3 (XQ G 1 570 below args s (some (.int r)) σ') 0 0 31 [] [.int z0] σ := by
  replace h0 := (show _ = _ from h0)
  unfold s_Evening_isHere_31 at h0
  obtain ⟨g2, h0⟩ := xgo h0
  exact x_zret C hr hk g2 h0 d_Evening_isHere_31
def s_Evening_isHere_30 (p0 : Nat) (p1 : Int32) (σ : LH) : Option (Int32 × LH) :=
  s_Evening_isHere_31 p0 p1 0 σ
theorem b_Evening_isHere_30 {G : XG} {l : Launch} {p : Program} {e : Env} {R : Room} {s : State} {m : MethodId} {args : Array Value} {below : List Frame} {meth : Method} {c : Code} (C : XC G 1 570 p s m args c prog_3_method_14_code 3 R_Evening) (hr : meth.sig.returnType = (some .boolean)) (hk : meth.locks = false) {d : Nat} (hd : 1 ≤ d + 1) (hR : xroom R (d + 1)) {p0 : Nat} {p1 : Int32} (hp0 : p0 ∈ xHalls) {σ' : LH} {r : Int32} {σ : LH} (h0 : s_Evening_isHere_30 p0 p1 σ = some (r, σ')) : XJ G 1 570 p l e R s m args below meth c 3 (XQ G 1 570 below args s (some (.int r)) σ') 0 0 30 [] [] σ := by
  replace h0 := (show _ = _ from h0)
  unfold s_Evening_isHere_30 at h0
  refine x_iconst (v := 0) C d_Evening_isHere_30 (by decide) ?_
  exact x_lv C [] rfl (b_Evening_isHere_31 C hr hk hd hR hp0 h0)
def s_Evening_isHere (p0 : Nat) (p1 : Int32) (σ : LH) : Option (Int32 × LH) :=
  if p1 < 0 then (
   s_Evening_isHere_30 p0 p1 σ)
  else (
   if (σ.1 4 1) ≤ p1 then (
    s_Evening_isHere_30 p0 p1 σ)
   else (
    if ib p1 8 then (
    if (σ.1 (p0 + 1) (Int32.toNatClampNeg p1)) = (-2) then (
     s_Evening_isHere_30 p0 p1 σ)
    else (
     s_Evening_isHere_31 p0 p1 1 σ)) else none))
theorem c_Evening_isHere {G : XG} {l : Launch} {d : Nat} (hd : 1 ≤ d) {p0 : Nat} {p1 : Int32} (hp0 : p0 ∈ xHalls) {σ σ' : LH} {r : Int32} (h0 : s_Evening_isHere p0 p1 σ = some (r, σ')) : xM G 1 570 l y_Evening_isHere prog_3_method_14_code 3 (some .boolean) d [.ref (G.2.2.1 + 38), .ref (G.2.2.1 + p0), .int p1] σ (some (.int r)) σ' := by
  obtain ⟨d, rfl⟩ : ∃ q, d = q + 1 := ⟨d - 1, by omega⟩
  refine x_met R_Evening rfl (by decide +kernel) (Nat.le_of_ble_eq_true rfl) fun p e s m below meth c C hr hk hR => ?_
  refine x_lv (lv' := [(0, .ref (G.2.2.1 + 38)), (1, .ref (G.2.2.1 + p0)), (2, .int p1)]) C [0, 1, 2] rfl ?_
  generalize xrm (d + 1) = R at hR ⊢
  unfold s_Evening_isHere at h0
  refine x_iload_n C d_Evening_isHere_0 2 rfl ?_
  refine x_if_lt C 30 d_Evening_isHere_1 (by decide) (fun q1 => ?_) (fun q1 => ?_)
  · replace h0 := xit q1 h0
    exact x_lv C [] rfl (b_Evening_isHere_30 C hr hk hd hR hp0 h0)
  · replace h0 := xif q1 h0
    refine x_iload_n C d_Evening_isHere_4 2 rfl ?_
    refine x_aload_n C d_Evening_isHere_5 0 rfl ?_
    refine x_getA (y := 4) C fg_Evening_28 k_38 rfl d_Evening_isHere_6 ?_
    refine x_getI (y := 0) C fg_Evening_40 k_4 rfl d_Evening_isHere_9 ?_
    refine x_icmp_ge C 30 d_Evening_isHere_12 (by decide) (fun q3 => ?_) (fun q3 => ?_)
    · replace h0 := xit q3 h0
      exact x_lv C [] rfl (b_Evening_isHere_30 C hr hk hd hR hp0 h0)
    · replace h0 := xif q3 h0
      refine x_aload_n C d_Evening_isHere_15 1 rfl ?_
      refine x_getR (y := 1) C fg_Evening_45 (hl_0 hp0) rfl d_Evening_isHere_16 ?_
      refine x_iload_n C d_Evening_isHere_19 2 rfl ?_
      obtain ⟨g4, h0⟩ := xgo h0
      refine x_iald C (hl_1 hp0) (ib_in g4) d_Evening_isHere_20 ?_
      refine x_bipush (v := (-2)) C d_Evening_isHere_21 (by decide) ?_
      refine x_icmp_eq C 30 d_Evening_isHere_23 (by decide) (fun q5 => ?_) (fun q5 => ?_)
      · replace h0 := xit q5 h0
        exact x_lv C [] rfl (b_Evening_isHere_30 C hr hk hd hR hp0 h0)
      · replace h0 := xif q5 h0
        refine x_iconst (v := 1) C d_Evening_isHere_26 (by decide) ?_
        refine x_goto C 31 d_Evening_isHere_27 (by decide) ?_
        exact x_lv C [] rfl (b_Evening_isHere_31 C hr hk hd hR hp0 h0)
-- LostPlaces$Evening.sendOut(LLostPlaces$Hall;)V
theorem d_Evening_sendOut_0 : decode prog_3_method_13_code 0 = .ok (.iconst 0, 1) := by decide +kernel
theorem d_Evening_sendOut_1 : decode prog_3_method_13_code 1 = .ok (.istore_n 2, 1) := by decide +kernel
theorem d_Evening_sendOut_2 : decode prog_3_method_13_code 2 = .ok (.iload_n 2, 1) := by decide +kernel
theorem d_Evening_sendOut_3 : decode prog_3_method_13_code 3 = .ok (.aload_n 0, 1) := by decide +kernel
theorem d_Evening_sendOut_4 : decode prog_3_method_13_code 4 = .ok (.getfield 28, 3) := by decide +kernel
theorem d_Evening_sendOut_7 : decode prog_3_method_13_code 7 = .ok (.getfield 121, 3) := by decide +kernel
theorem d_Evening_sendOut_10 : decode prog_3_method_13_code 10 = .ok (.if_icmp .ge 86, 3) := by decide +kernel
theorem d_Evening_sendOut_13 : decode prog_3_method_13_code 13 = .ok (.aload_n 0, 1) := by decide +kernel
theorem d_Evening_sendOut_14 : decode prog_3_method_13_code 14 = .ok (.getfield 28, 3) := by decide +kernel
theorem d_Evening_sendOut_17 : decode prog_3_method_13_code 17 = .ok (.getfield 124, 3) := by decide +kernel
theorem d_Evening_sendOut_20 : decode prog_3_method_13_code 20 = .ok (.iload_n 2, 1) := by decide +kernel
theorem d_Evening_sendOut_21 : decode prog_3_method_13_code 21 = .ok (.iaload, 1) := by decide +kernel
theorem d_Evening_sendOut_22 : decode prog_3_method_13_code 22 = .ok (.aload_n 1, 1) := by decide +kernel
theorem d_Evening_sendOut_23 : decode prog_3_method_13_code 23 = .ok (.getfield 62, 3) := by decide +kernel
theorem d_Evening_sendOut_26 : decode prog_3_method_13_code 26 = .ok (.if_icmp .ne 18, 3) := by decide +kernel
theorem d_Evening_sendOut_29 : decode prog_3_method_13_code 29 = .ok (.aload_n 0, 1) := by decide +kernel
theorem d_Evening_sendOut_30 : decode prog_3_method_13_code 30 = .ok (.getfield 11, 3) := by decide +kernel
theorem d_Evening_sendOut_33 : decode prog_3_method_13_code 33 = .ok (.iload_n 2, 1) := by decide +kernel
theorem d_Evening_sendOut_34 : decode prog_3_method_13_code 34 = .ok (.ishr, 1) := by decide +kernel
theorem d_Evening_sendOut_35 : decode prog_3_method_13_code 35 = .ok (.iconst 1, 1) := by decide +kernel
theorem d_Evening_sendOut_36 : decode prog_3_method_13_code 36 = .ok (.iand, 1) := by decide +kernel
theorem d_Evening_sendOut_37 : decode prog_3_method_13_code 37 = .ok (.ifCond .eq 7, 3) := by decide +kernel
theorem d_Evening_sendOut_40 : decode prog_3_method_13_code 40 = .ok (.iconst 1, 1) := by decide +kernel
theorem d_Evening_sendOut_41 : decode prog_3_method_13_code 41 = .ok (.goto 4, 3) := by decide +kernel
theorem d_Evening_sendOut_44 : decode prog_3_method_13_code 44 = .ok (.iconst 0, 1) := by decide +kernel
theorem d_Evening_sendOut_45 : decode prog_3_method_13_code 45 = .ok (.istore_n 3, 1) := by decide +kernel
theorem d_Evening_sendOut_46 : decode prog_3_method_13_code 46 = .ok (.iload_n 3, 1) := by decide +kernel
theorem d_Evening_sendOut_47 : decode prog_3_method_13_code 47 = .ok (.ifCond .eq 43, 3) := by decide +kernel
theorem d_Evening_sendOut_50 : decode prog_3_method_13_code 50 = .ok (.aload_n 0, 1) := by decide +kernel
theorem d_Evening_sendOut_51 : decode prog_3_method_13_code 51 = .ok (.aload_n 1, 1) := by decide +kernel
theorem d_Evening_sendOut_52 : decode prog_3_method_13_code 52 = .ok (.aload_n 0, 1) := by decide +kernel
theorem d_Evening_sendOut_53 : decode prog_3_method_13_code 53 = .ok (.getfield 28, 3) := by decide +kernel
theorem d_Evening_sendOut_56 : decode prog_3_method_13_code 56 = .ok (.getfield 133, 3) := by decide +kernel
theorem d_Evening_sendOut_59 : decode prog_3_method_13_code 59 = .ok (.iload_n 2, 1) := by decide +kernel
theorem d_Evening_sendOut_60 : decode prog_3_method_13_code 60 = .ok (.iaload, 1) := by decide +kernel
theorem d_Evening_sendOut_61 : decode prog_3_method_13_code 61 = .ok (.invokevirtual 136, 3) := by decide +kernel
theorem d_Evening_sendOut_64 : decode prog_3_method_13_code 64 = .ok (.ifCond .eq 26, 3) := by decide +kernel
theorem d_Evening_sendOut_67 : decode prog_3_method_13_code 67 = .ok (.aload_n 1, 1) := by decide +kernel
theorem d_Evening_sendOut_68 : decode prog_3_method_13_code 68 = .ok (.aload_n 0, 1) := by decide +kernel
theorem d_Evening_sendOut_69 : decode prog_3_method_13_code 69 = .ok (.getfield 28, 3) := by decide +kernel
theorem d_Evening_sendOut_72 : decode prog_3_method_13_code 72 = .ok (.getfield 133, 3) := by decide +kernel
theorem d_Evening_sendOut_75 : decode prog_3_method_13_code 75 = .ok (.iload_n 2, 1) := by decide +kernel
theorem d_Evening_sendOut_76 : decode prog_3_method_13_code 76 = .ok (.iaload, 1) := by decide +kernel
theorem d_Evening_sendOut_77 : decode prog_3_method_13_code 77 = .ok (.aload_n 0, 1) := by decide +kernel
theorem d_Evening_sendOut_78 : decode prog_3_method_13_code 78 = .ok (.getfield 28, 3) := by decide +kernel
theorem d_Evening_sendOut_81 : decode prog_3_method_13_code 81 = .ok (.getfield 140, 3) := by decide +kernel
theorem d_Evening_sendOut_84 : decode prog_3_method_13_code 84 = .ok (.iload_n 2, 1) := by decide +kernel
theorem d_Evening_sendOut_85 : decode prog_3_method_13_code 85 = .ok (.iaload, 1) := by decide +kernel
theorem d_Evening_sendOut_86 : decode prog_3_method_13_code 86 = .ok (.iconst 1, 1) := by decide +kernel
theorem d_Evening_sendOut_87 : decode prog_3_method_13_code 87 = .ok (.invokevirtual 55, 3) := by decide +kernel
theorem d_Evening_sendOut_90 : decode prog_3_method_13_code 90 = .ok (.iinc 2 1, 3) := by decide +kernel
theorem d_Evening_sendOut_93 : decode prog_3_method_13_code 93 = .ok (.goto (-91), 3) := by decide +kernel
theorem d_Evening_sendOut_96 : decode prog_3_method_13_code 96 = .ok (.aload_n 0, 1) := by decide +kernel
theorem d_Evening_sendOut_97 : decode prog_3_method_13_code 97 = .ok (.getfield 15, 3) := by decide +kernel
theorem d_Evening_sendOut_100 : decode prog_3_method_13_code 100 = .ok (.iconst (-1), 1) := by decide +kernel
theorem d_Evening_sendOut_101 : decode prog_3_method_13_code 101 = .ok (.if_icmp .eq 18, 3) := by decide +kernel
theorem d_Evening_sendOut_104 : decode prog_3_method_13_code 104 = .ok (.aload_n 0, 1) := by decide +kernel
theorem d_Evening_sendOut_105 : decode prog_3_method_13_code 105 = .ok (.getfield 18, 3) := by decide +kernel
theorem d_Evening_sendOut_108 : decode prog_3_method_13_code 108 = .ok (.aload_n 1, 1) := by decide +kernel
theorem d_Evening_sendOut_109 : decode prog_3_method_13_code 109 = .ok (.getfield 62, 3) := by decide +kernel
theorem d_Evening_sendOut_112 : decode prog_3_method_13_code 112 = .ok (.if_icmp .ne 7, 3) := by decide +kernel
theorem d_Evening_sendOut_115 : decode prog_3_method_13_code 115 = .ok (.iconst 1, 1) := by decide +kernel
theorem d_Evening_sendOut_116 : decode prog_3_method_13_code 116 = .ok (.goto 4, 3) := by decide +kernel
theorem d_Evening_sendOut_119 : decode prog_3_method_13_code 119 = .ok (.iconst 0, 1) := by decide +kernel
theorem d_Evening_sendOut_120 : decode prog_3_method_13_code 120 = .ok (.istore_n 2, 1) := by decide +kernel
theorem d_Evening_sendOut_121 : decode prog_3_method_13_code 121 = .ok (.iload_n 2, 1) := by decide +kernel
theorem d_Evening_sendOut_122 : decode prog_3_method_13_code 122 = .ok (.ifCond .eq 28, 3) := by decide +kernel
theorem d_Evening_sendOut_125 : decode prog_3_method_13_code 125 = .ok (.aload_n 0, 1) := by decide +kernel
theorem d_Evening_sendOut_126 : decode prog_3_method_13_code 126 = .ok (.aload_n 1, 1) := by decide +kernel
theorem d_Evening_sendOut_127 : decode prog_3_method_13_code 127 = .ok (.aload_n 0, 1) := by decide +kernel
theorem d_Evening_sendOut_128 : decode prog_3_method_13_code 128 = .ok (.getfield 15, 3) := by decide +kernel
theorem d_Evening_sendOut_131 : decode prog_3_method_13_code 131 = .ok (.invokevirtual 136, 3) := by decide +kernel
theorem d_Evening_sendOut_134 : decode prog_3_method_13_code 134 = .ok (.ifCond .eq 16, 3) := by decide +kernel
theorem d_Evening_sendOut_137 : decode prog_3_method_13_code 137 = .ok (.aload_n 1, 1) := by decide +kernel
theorem d_Evening_sendOut_138 : decode prog_3_method_13_code 138 = .ok (.aload_n 0, 1) := by decide +kernel
theorem d_Evening_sendOut_139 : decode prog_3_method_13_code 139 = .ok (.getfield 15, 3) := by decide +kernel
theorem d_Evening_sendOut_142 : decode prog_3_method_13_code 142 = .ok (.aload_n 0, 1) := by decide +kernel
theorem d_Evening_sendOut_143 : decode prog_3_method_13_code 143 = .ok (.getfield 21, 3) := by decide +kernel
theorem d_Evening_sendOut_146 : decode prog_3_method_13_code 146 = .ok (.iconst 1, 1) := by decide +kernel
theorem d_Evening_sendOut_147 : decode prog_3_method_13_code 147 = .ok (.invokevirtual 55, 3) := by decide +kernel
theorem d_Evening_sendOut_150 : decode prog_3_method_13_code 150 = .ok (.return_, 1) := by decide +kernel
def s_Evening_sendOut_150 (p0 : Nat) (σ : LH) : Option (LH) :=
  some σ
theorem b_Evening_sendOut_150 {G : XG} {l : Launch} {p : Program} {e : Env} {R : Room} {s : State} {m : MethodId} {args : Array Value} {below : List Frame} {meth : Method} {c : Code} (C : XC G 1 570 p s m args c prog_3_method_13_code 4 R_Evening) (hr : meth.sig.returnType = none) (hk : meth.locks = false) {d : Nat} (hd : 3 ≤ d + 1) (hR : xroom R (d + 1)) {p0 : Nat} (hp0 : p0 ∈ xHalls) {σ' : LH} {σ : LH} (h0 : s_Evening_sendOut_150 p0 σ = some σ') : XJ G 1 570 p l e R s m args below meth c 4 (XQ G 1 570 below args s none σ') 0 0 150 [] [] σ := by
  replace h0 := (show _ = _ from h0)
  unfold s_Evening_sendOut_150 at h0
  exact x_vret C hr hk h0 d_Evening_sendOut_150
def s_Evening_sendOut_120 (p0 : Nat) (z0 : Int32) (σ : LH) : Option (LH) :=
  if z0 = 0 then (
   s_Evening_sendOut_150 p0 σ)
  else (
   xb2 (s_Evening_isHere p0 (σ.1 38 3) σ) fun r5 σ6 =>
   if r5 = 0 then (
    s_Evening_sendOut_150 p0 σ6)
   else (
    xb1 (s_Hall_getUp p0 (σ6.1 38 3) (σ6.1 38 5) 1 σ6) fun σ9 =>
    s_Evening_sendOut_150 p0 σ9))
theorem b_Evening_sendOut_120 {G : XG} {l : Launch} {p : Program} {e : Env} {R : Room} {s : State} {m : MethodId} {args : Array Value} {below : List Frame} {meth : Method} {c : Code} (C : XC G 1 570 p s m args c prog_3_method_13_code 4 R_Evening) (hr : meth.sig.returnType = none) (hk : meth.locks = false) {d : Nat} (hd : 3 ≤ d + 1) (hR : xroom R (d + 1)) {p0 : Nat} (hp0 : p0 ∈ xHalls) {σ' : LH} {z0 : Int32} {σ : LH} (h0 : s_Evening_sendOut_120 p0 z0 σ = some σ') : XJ G 1 570 p l e R s m args below meth c 4 (XQ G 1 570 below args s none σ') 0 0 120 [(0, .ref (G.2.2.1 + 38)), (1, .ref (G.2.2.1 + p0))] [.int z0] σ := by
  replace h0 := (show _ = _ from h0)
  unfold s_Evening_sendOut_120 at h0
  refine x_istore_n (lv' := [(2, .int z0), (0, .ref (G.2.2.1 + 38)), (1, .ref (G.2.2.1 + p0))]) C d_Evening_sendOut_120 rfl (by decide) rfl ?_
  refine x_iload_n C d_Evening_sendOut_121 0 rfl ?_
  refine x_if_eq C 150 d_Evening_sendOut_122 (by decide) (fun q3 => ?_) (fun q3 => ?_)
  · replace h0 := xit q3 h0
    exact x_lv C [] rfl (b_Evening_sendOut_150 C hr hk hd hR hp0 h0)
  · replace h0 := xif q3 h0
    refine x_aload_n C d_Evening_sendOut_125 1 rfl ?_
    refine x_aload_n C d_Evening_sendOut_126 2 rfl ?_
    refine x_aload_n C d_Evening_sendOut_127 1 rfl ?_
    refine x_getI (y := 0) C fg_Evening_15 k_38 rfl d_Evening_sendOut_128 ?_
    obtain ⟨r5, σ6, k4, h0⟩ := xbind2 h0
    refine x_callVi C hR (c_Evening_isHere (d := d) (by omega) hp0 k4) cw_Evening_136 k_38 rfl rfl rfl (Nat.le_of_ble_eq_true rfl) ⟨Nat.zero_le _, Nat.zero_le _⟩ d_Evening_sendOut_131 ?_
    refine x_if_eq C 150 d_Evening_sendOut_134 (by decide) (fun q7 => ?_) (fun q7 => ?_)
    · replace h0 := xit q7 h0
      exact x_lv C [] rfl (b_Evening_sendOut_150 C hr hk hd hR hp0 h0)
    · replace h0 := xif q7 h0
      refine x_aload_n C d_Evening_sendOut_137 2 rfl ?_
      refine x_aload_n C d_Evening_sendOut_138 1 rfl ?_
      refine x_getI (y := 0) C fg_Evening_15 k_38 rfl d_Evening_sendOut_139 ?_
      refine x_aload_n C d_Evening_sendOut_142 1 rfl ?_
      refine x_getI (y := 0) C fg_Evening_21 k_38 rfl d_Evening_sendOut_143 ?_
      refine x_iconst (v := 1) C d_Evening_sendOut_146 (by decide) ?_
      obtain ⟨σ9, k8, h0⟩ := xbind1 h0
      refine x_callVv C hR (c_Hall_getUp (d := d) (by omega) hp0 k8) cw_Evening_55 (hl_0 hp0) rfl rfl rfl (Nat.le_of_ble_eq_true rfl) ⟨Nat.zero_le _, Nat.zero_le _⟩ d_Evening_sendOut_147 ?_
      exact x_lv C [] rfl (b_Evening_sendOut_150 C hr hk hd hR hp0 h0)
def s_Evening_sendOut_119 (p0 : Nat) (σ : LH) : Option (LH) :=
  s_Evening_sendOut_120 p0 0 σ
theorem b_Evening_sendOut_119 {G : XG} {l : Launch} {p : Program} {e : Env} {R : Room} {s : State} {m : MethodId} {args : Array Value} {below : List Frame} {meth : Method} {c : Code} (C : XC G 1 570 p s m args c prog_3_method_13_code 4 R_Evening) (hr : meth.sig.returnType = none) (hk : meth.locks = false) {d : Nat} (hd : 3 ≤ d + 1) (hR : xroom R (d + 1)) {p0 : Nat} (hp0 : p0 ∈ xHalls) {σ' : LH} {σ : LH} (h0 : s_Evening_sendOut_119 p0 σ = some σ') : XJ G 1 570 p l e R s m args below meth c 4 (XQ G 1 570 below args s none σ') 0 0 119 [(0, .ref (G.2.2.1 + 38)), (1, .ref (G.2.2.1 + p0))] [] σ := by
  replace h0 := (show _ = _ from h0)
  unfold s_Evening_sendOut_119 at h0
  refine x_iconst (v := 0) C d_Evening_sendOut_119 (by decide) ?_
  exact x_lv C [0, 1] rfl (b_Evening_sendOut_120 C hr hk hd hR hp0 h0)
def s_Evening_sendOut_90 (p0 : Nat) (rec2 : Int32 → LH → Option (LH)) (y2 : Int32) (σ : LH) : Option (LH) :=
  xl ((y2 + 1) : Int32) fun x15 =>
  rec2 x15 σ
theorem b_Evening_sendOut_90 {G : XG} {l : Launch} {p : Program} {e : Env} {R : Room} {s : State} {m : MethodId} {args : Array Value} {below : List Frame} {meth : Method} {c : Code} (C : XC G 1 570 p s m args c prog_3_method_13_code 4 R_Evening) (hr : meth.sig.returnType = none) (hk : meth.locks = false) {d : Nat} (hd : 3 ≤ d + 1) (hR : xroom R (d + 1)) {p0 : Nat} (hp0 : p0 ∈ xHalls) {rec2 : Int32 → LH → Option (LH)} {σ' : LH} (hrec2 : ∀ (y2 : Int32) (σ : LH), rec2 y2 σ = some σ' → XJ G 1 570 p l e R s m args below meth c 4 (XQ G 1 570 below args s none σ') 0 0 2 [(0, .ref (G.2.2.1 + 38)), (1, .ref (G.2.2.1 + p0)), (2, .int y2)] [] σ) {y2 : Int32} {σ : LH} (h0 : s_Evening_sendOut_90 p0 rec2 y2 σ = some σ') : XJ G 1 570 p l e R s m args below meth c 4 (XQ G 1 570 below args s none σ') 0 0 90 [(0, .ref (G.2.2.1 + 38)), (1, .ref (G.2.2.1 + p0)), (2, .int y2)] [] σ := by
  replace h0 := (show _ = _ from h0)
  unfold s_Evening_sendOut_90 at h0
  obtain ⟨x15, ex15, h0⟩ := xlet h0
  refine x_iinc (lv' := [(2, .int x15), (0, .ref (G.2.2.1 + 38)), (1, .ref (G.2.2.1 + p0))]) C d_Evening_sendOut_90 2 rfl ex15 (by decide) rfl ?_
  refine x_goto C 2 d_Evening_sendOut_93 (by decide) ?_
  exact x_lv C [1, 2, 0] rfl (hrec2 _ _ h0)
def s_Evening_sendOut_45 (p0 : Nat) (rec2 : Int32 → LH → Option (LH)) (y2 : Int32) (z0 : Int32) (σ : LH) : Option (LH) :=
  if z0 = 0 then (
   s_Evening_sendOut_90 p0 rec2 y2 σ)
  else (
   if ib y2 10 then (
   xb2 (s_Evening_isHere p0 (σ.1 12 (Int32.toNatClampNeg y2)) σ) fun r18 σ19 =>
   if r18 = 0 then (
    s_Evening_sendOut_90 p0 rec2 y2 σ19)
   else (
    if ib y2 10 then (
    if ib y2 10 then (
    xb1 (s_Hall_getUp p0 (σ19.1 12 (Int32.toNatClampNeg y2)) (σ19.1 14 (Int32.toNatClampNeg y2)) 1 σ19) fun σ24 =>
    s_Evening_sendOut_90 p0 rec2 y2 σ24) else none) else none)) else none)
theorem b_Evening_sendOut_45 {G : XG} {l : Launch} {p : Program} {e : Env} {R : Room} {s : State} {m : MethodId} {args : Array Value} {below : List Frame} {meth : Method} {c : Code} (C : XC G 1 570 p s m args c prog_3_method_13_code 4 R_Evening) (hr : meth.sig.returnType = none) (hk : meth.locks = false) {d : Nat} (hd : 3 ≤ d + 1) (hR : xroom R (d + 1)) {p0 : Nat} (hp0 : p0 ∈ xHalls) {rec2 : Int32 → LH → Option (LH)} {σ' : LH} (hrec2 : ∀ (y2 : Int32) (σ : LH), rec2 y2 σ = some σ' → XJ G 1 570 p l e R s m args below meth c 4 (XQ G 1 570 below args s none σ') 0 0 2 [(0, .ref (G.2.2.1 + 38)), (1, .ref (G.2.2.1 + p0)), (2, .int y2)] [] σ) {y2 : Int32} {z0 : Int32} {σ : LH} (h0 : s_Evening_sendOut_45 p0 rec2 y2 z0 σ = some σ') : XJ G 1 570 p l e R s m args below meth c 4 (XQ G 1 570 below args s none σ') 0 0 45 [(0, .ref (G.2.2.1 + 38)), (1, .ref (G.2.2.1 + p0)), (2, .int y2)] [.int z0] σ := by
  replace h0 := (show _ = _ from h0)
  unfold s_Evening_sendOut_45 at h0
  refine x_istore_n (lv' := [(3, .int z0), (0, .ref (G.2.2.1 + 38)), (1, .ref (G.2.2.1 + p0)), (2, .int y2)]) C d_Evening_sendOut_45 rfl (by decide) rfl ?_
  refine x_iload_n C d_Evening_sendOut_46 0 rfl ?_
  refine x_if_eq C 90 d_Evening_sendOut_47 (by decide) (fun q14 => ?_) (fun q14 => ?_)
  · replace h0 := xit q14 h0
    exact x_lv C [1, 2, 3] rfl (b_Evening_sendOut_90 C hr hk hd hR hp0 hrec2 h0)
  · replace h0 := xif q14 h0
    refine x_aload_n C d_Evening_sendOut_50 1 rfl ?_
    refine x_aload_n C d_Evening_sendOut_51 2 rfl ?_
    refine x_aload_n C d_Evening_sendOut_52 1 rfl ?_
    refine x_getA (y := 4) C fg_Evening_28 k_38 rfl d_Evening_sendOut_53 ?_
    refine x_getR (y := 8) C fg_Evening_133 k_4 rfl d_Evening_sendOut_56 ?_
    show XJ _ _ _ _ _ _ _ _ _ _ _ _ _ _ _ _ _ _ _ (.ref (G.2.2.1 + 12) :: _) _
    refine x_iload_n C d_Evening_sendOut_59 3 rfl ?_
    obtain ⟨g16, h0⟩ := xgo h0
    refine x_iald C k_12 (ib_in g16) d_Evening_sendOut_60 ?_
    obtain ⟨r18, σ19, k17, h0⟩ := xbind2 h0
    refine x_callVi C hR (c_Evening_isHere (d := d) (by omega) hp0 k17) cw_Evening_136 k_38 rfl rfl rfl (Nat.le_of_ble_eq_true rfl) ⟨Nat.zero_le _, Nat.zero_le _⟩ d_Evening_sendOut_61 ?_
    refine x_if_eq C 90 d_Evening_sendOut_64 (by decide) (fun q20 => ?_) (fun q20 => ?_)
    · replace h0 := xit q20 h0
      exact x_lv C [1, 2, 3] rfl (b_Evening_sendOut_90 C hr hk hd hR hp0 hrec2 h0)
    · replace h0 := xif q20 h0
      refine x_aload_n C d_Evening_sendOut_67 2 rfl ?_
      refine x_aload_n C d_Evening_sendOut_68 1 rfl ?_
      refine x_getA (y := 4) C fg_Evening_28 k_38 rfl d_Evening_sendOut_69 ?_
      refine x_getR (y := 8) C fg_Evening_133 k_4 rfl d_Evening_sendOut_72 ?_
      show XJ _ _ _ _ _ _ _ _ _ _ _ _ _ _ _ _ _ _ _ (.ref (G.2.2.1 + 12) :: _) _
      refine x_iload_n C d_Evening_sendOut_75 3 rfl ?_
      obtain ⟨g21, h0⟩ := xgo h0
      refine x_iald C k_12 (ib_in g21) d_Evening_sendOut_76 ?_
      refine x_aload_n C d_Evening_sendOut_77 1 rfl ?_
      refine x_getA (y := 4) C fg_Evening_28 k_38 rfl d_Evening_sendOut_78 ?_
      refine x_getR (y := 10) C fg_Evening_140 k_4 rfl d_Evening_sendOut_81 ?_
      show XJ _ _ _ _ _ _ _ _ _ _ _ _ _ _ _ _ _ _ _ (.ref (G.2.2.1 + 14) :: _) _
      refine x_iload_n C d_Evening_sendOut_84 3 rfl ?_
      obtain ⟨g22, h0⟩ := xgo h0
      refine x_iald C k_14 (ib_in g22) d_Evening_sendOut_85 ?_
      refine x_iconst (v := 1) C d_Evening_sendOut_86 (by decide) ?_
      obtain ⟨σ24, k23, h0⟩ := xbind1 h0
      refine x_callVv C hR (c_Hall_getUp (d := d) (by omega) hp0 k23) cw_Evening_55 (hl_0 hp0) rfl rfl rfl (Nat.le_of_ble_eq_true rfl) ⟨Nat.zero_le _, Nat.zero_le _⟩ d_Evening_sendOut_87 ?_
      exact x_lv C [1, 2, 3] rfl (b_Evening_sendOut_90 C hr hk hd hR hp0 hrec2 h0)
def s_Evening_sendOut_44 (p0 : Nat) (rec2 : Int32 → LH → Option (LH)) (y2 : Int32) (σ : LH) : Option (LH) :=
  s_Evening_sendOut_45 p0 rec2 y2 0 σ
theorem b_Evening_sendOut_44 {G : XG} {l : Launch} {p : Program} {e : Env} {R : Room} {s : State} {m : MethodId} {args : Array Value} {below : List Frame} {meth : Method} {c : Code} (C : XC G 1 570 p s m args c prog_3_method_13_code 4 R_Evening) (hr : meth.sig.returnType = none) (hk : meth.locks = false) {d : Nat} (hd : 3 ≤ d + 1) (hR : xroom R (d + 1)) {p0 : Nat} (hp0 : p0 ∈ xHalls) {rec2 : Int32 → LH → Option (LH)} {σ' : LH} (hrec2 : ∀ (y2 : Int32) (σ : LH), rec2 y2 σ = some σ' → XJ G 1 570 p l e R s m args below meth c 4 (XQ G 1 570 below args s none σ') 0 0 2 [(0, .ref (G.2.2.1 + 38)), (1, .ref (G.2.2.1 + p0)), (2, .int y2)] [] σ) {y2 : Int32} {σ : LH} (h0 : s_Evening_sendOut_44 p0 rec2 y2 σ = some σ') : XJ G 1 570 p l e R s m args below meth c 4 (XQ G 1 570 below args s none σ') 0 0 44 [(0, .ref (G.2.2.1 + 38)), (1, .ref (G.2.2.1 + p0)), (2, .int y2)] [] σ := by
  replace h0 := (show _ = _ from h0)
  unfold s_Evening_sendOut_44 at h0
  refine x_iconst (v := 0) C d_Evening_sendOut_44 (by decide) ?_
  exact x_lv C [0, 1, 2] rfl (b_Evening_sendOut_45 C hr hk hd hR hp0 hrec2 h0)
def s_Evening_sendOut_2_b (p0 : Nat) (rec2 : Int32 → LH → Option (LH)) (y2 : Int32) (σ : LH) : Option (LH) :=
  if (σ.1 4 2) ≤ y2 then (
   if (σ.1 38 3) = (-1) then (
    s_Evening_sendOut_119 p0 σ)
   else (
    if (σ.1 38 4) = (σ.1 p0 7) then (
     s_Evening_sendOut_120 p0 1 σ)
    else (
     s_Evening_sendOut_119 p0 σ)))
  else (
   if ib y2 10 then (
   if (σ.1 13 (Int32.toNatClampNeg y2)) = (σ.1 p0 7) then (
    if (((σ.1 38 2) >>> (y2 &&& 31)) &&& 1) = 0 then (
     s_Evening_sendOut_44 p0 rec2 y2 σ)
    else (
     s_Evening_sendOut_45 p0 rec2 y2 1 σ))
   else (
    s_Evening_sendOut_44 p0 rec2 y2 σ)) else none)
def s_Evening_sendOut_2 (p0 : Nat) : Nat → Int32 → LH → Option (LH)
  | 0, _, _ => none
  | n + 1, y2, σ => s_Evening_sendOut_2_b p0 (s_Evening_sendOut_2 p0 n) y2 σ
theorem bb_Evening_sendOut_2 {G : XG} {l : Launch} {p : Program} {e : Env} {R : Room} {s : State} {m : MethodId} {args : Array Value} {below : List Frame} {meth : Method} {c : Code} (C : XC G 1 570 p s m args c prog_3_method_13_code 4 R_Evening) (hr : meth.sig.returnType = none) (hk : meth.locks = false) {d : Nat} (hd : 3 ≤ d + 1) (hR : xroom R (d + 1)) {p0 : Nat} (hp0 : p0 ∈ xHalls) {rec2 : Int32 → LH → Option (LH)} {σ' : LH} (hrec2 : ∀ (y2 : Int32) (σ : LH), rec2 y2 σ = some σ' → XJ G 1 570 p l e R s m args below meth c 4 (XQ G 1 570 below args s none σ') 0 0 2 [(0, .ref (G.2.2.1 + 38)), (1, .ref (G.2.2.1 + p0)), (2, .int y2)] [] σ) {y2 : Int32} {σ : LH} (h0 : s_Evening_sendOut_2_b p0 rec2 y2 σ = some σ') : XJ G 1 570 p l e R s m args below meth c 4 (XQ G 1 570 below args s none σ') 0 0 2 [(0, .ref (G.2.2.1 + 38)), (1, .ref (G.2.2.1 + p0)), (2, .int y2)] [] σ := by
  replace h0 := (show _ = _ from h0)
  unfold s_Evening_sendOut_2_b at h0
  refine x_iload_n C d_Evening_sendOut_2 2 rfl ?_
  refine x_aload_n C d_Evening_sendOut_3 0 rfl ?_
  refine x_getA (y := 4) C fg_Evening_28 k_38 rfl d_Evening_sendOut_4 ?_
  refine x_getI (y := 0) C fg_Evening_121 k_4 rfl d_Evening_sendOut_7 ?_
  refine x_icmp_ge C 96 d_Evening_sendOut_10 (by decide) (fun q1 => ?_) (fun q1 => ?_)
  · replace h0 := xit q1 h0
    refine x_aload_n C d_Evening_sendOut_96 0 rfl ?_
    refine x_getI (y := 0) C fg_Evening_15 k_38 rfl d_Evening_sendOut_97 ?_
    refine x_iconst (v := (-1)) C d_Evening_sendOut_100 (by decide) ?_
    refine x_icmp_eq C 119 d_Evening_sendOut_101 (by decide) (fun q2 => ?_) (fun q2 => ?_)
    · replace h0 := xit q2 h0
      exact x_lv C [0, 1] rfl (b_Evening_sendOut_119 C hr hk hd hR hp0 h0)
    · replace h0 := xif q2 h0
      refine x_aload_n C d_Evening_sendOut_104 0 rfl ?_
      refine x_getI (y := 0) C fg_Evening_18 k_38 rfl d_Evening_sendOut_105 ?_
      refine x_aload_n C d_Evening_sendOut_108 1 rfl ?_
      refine x_getI (y := 0) C fg_Evening_62 (hl_0 hp0) rfl d_Evening_sendOut_109 ?_
      refine x_icmp_ne C 119 d_Evening_sendOut_112 (by decide) (fun q10 => ?_) (fun q10 => ?_)
      · replace h0 := xif q10 h0
        exact x_lv C [0, 1] rfl (b_Evening_sendOut_119 C hr hk hd hR hp0 h0)
      · replace h0 := xit q10 h0
        refine x_iconst (v := 1) C d_Evening_sendOut_115 (by decide) ?_
        refine x_goto C 120 d_Evening_sendOut_116 (by decide) ?_
        exact x_lv C [0, 1] rfl (b_Evening_sendOut_120 C hr hk hd hR hp0 h0)
  · replace h0 := xif q1 h0
    refine x_aload_n C d_Evening_sendOut_13 0 rfl ?_
    refine x_getA (y := 4) C fg_Evening_28 k_38 rfl d_Evening_sendOut_14 ?_
    refine x_getR (y := 9) C fg_Evening_124 k_4 rfl d_Evening_sendOut_17 ?_
    show XJ _ _ _ _ _ _ _ _ _ _ _ _ _ _ _ _ _ _ _ (.ref (G.2.2.1 + 13) :: _) _
    refine x_iload_n C d_Evening_sendOut_20 2 rfl ?_
    obtain ⟨g11, h0⟩ := xgo h0
    refine x_iald C k_13 (ib_in g11) d_Evening_sendOut_21 ?_
    refine x_aload_n C d_Evening_sendOut_22 1 rfl ?_
    refine x_getI (y := 0) C fg_Evening_62 (hl_0 hp0) rfl d_Evening_sendOut_23 ?_
    refine x_icmp_ne C 44 d_Evening_sendOut_26 (by decide) (fun q12 => ?_) (fun q12 => ?_)
    · replace h0 := xif q12 h0
      exact x_lv C [0, 1, 2] rfl (b_Evening_sendOut_44 C hr hk hd hR hp0 hrec2 h0)
    · replace h0 := xit q12 h0
      refine x_aload_n C d_Evening_sendOut_29 0 rfl ?_
      refine x_getI (y := 0) C fg_Evening_11 k_38 rfl d_Evening_sendOut_30 ?_
      refine x_iload_n C d_Evening_sendOut_33 2 rfl ?_
      refine x_ishr C d_Evening_sendOut_34 ?_
      refine x_iconst (v := 1) C d_Evening_sendOut_35 (by decide) ?_
      refine x_iand C d_Evening_sendOut_36 ?_
      refine x_if_eq C 44 d_Evening_sendOut_37 (by decide) (fun q13 => ?_) (fun q13 => ?_)
      · replace h0 := xit q13 h0
        exact x_lv C [0, 1, 2] rfl (b_Evening_sendOut_44 C hr hk hd hR hp0 hrec2 h0)
      · replace h0 := xif q13 h0
        refine x_iconst (v := 1) C d_Evening_sendOut_40 (by decide) ?_
        refine x_goto C 45 d_Evening_sendOut_41 (by decide) ?_
        exact x_lv C [0, 1, 2] rfl (b_Evening_sendOut_45 C hr hk hd hR hp0 hrec2 h0)
theorem b_Evening_sendOut_2 {G : XG} {l : Launch} {p : Program} {e : Env} {R : Room} {s : State} {m : MethodId} {args : Array Value} {below : List Frame} {meth : Method} {c : Code} (C : XC G 1 570 p s m args c prog_3_method_13_code 4 R_Evening) (hr : meth.sig.returnType = none) (hk : meth.locks = false) {d : Nat} (hd : 3 ≤ d + 1) (hR : xroom R (d + 1)) {p0 : Nat} (hp0 : p0 ∈ xHalls) {σ' : LH} : ∀ (n : Nat) (y2 : Int32) (σ : LH), s_Evening_sendOut_2 p0 n y2 σ = some σ' → XJ G 1 570 p l e R s m args below meth c 4 (XQ G 1 570 below args s none σ') 0 0 2 [(0, .ref (G.2.2.1 + 38)), (1, .ref (G.2.2.1 + p0)), (2, .int y2)] [] σ := by
  intro n
  induction n with
  | zero => intro y2 σ h0; cases h0
  | succ n ih => intro y2 σ h0; exact bb_Evening_sendOut_2 C hr hk hd hR hp0 ih h0
def s_Evening_sendOut (p0 : Nat) (σ : LH) : Option (LH) :=
  s_Evening_sendOut_2 p0 FUEL 0 σ
theorem c_Evening_sendOut {G : XG} {l : Launch} {d : Nat} (hd : 3 ≤ d) {p0 : Nat} (hp0 : p0 ∈ xHalls) {σ σ' : LH} (h0 : s_Evening_sendOut p0 σ = some σ') : xM G 1 570 l y_Evening_sendOut prog_3_method_13_code 4 none d [.ref (G.2.2.1 + 38), .ref (G.2.2.1 + p0)] σ none σ' := by
  obtain ⟨d, rfl⟩ : ∃ q, d = q + 1 := ⟨d - 1, by omega⟩
  refine x_met R_Evening rfl (by decide +kernel) (Nat.le_of_ble_eq_true rfl) fun p e s m below meth c C hr hk hR => ?_
  refine x_lv (lv' := [(0, .ref (G.2.2.1 + 38)), (1, .ref (G.2.2.1 + p0))]) C [0, 1] rfl ?_
  generalize xrm (d + 1) = R at hR ⊢
  unfold s_Evening_sendOut at h0
  refine x_iconst (v := 0) C d_Evening_sendOut_0 (by decide) ?_
  refine x_istore_n (lv' := [(2, .int 0), (0, .ref (G.2.2.1 + 38)), (1, .ref (G.2.2.1 + p0))]) C d_Evening_sendOut_1 rfl (by decide) rfl ?_
  exact x_lv C [1, 2, 0] rfl (b_Evening_sendOut_2 C hr hk hd hR hp0 FUEL _ _ h0)
-- LostPlaces$Hall.isFree(I)Z
theorem d_Hall_isFree_0 : decode prog_6_method_12_code 0 = .ok (.iload_n 1, 1) := by decide +kernel
theorem d_Hall_isFree_1 : decode prog_6_method_12_code 1 = .ok (.ifCond .lt 33, 3) := by decide +kernel
theorem d_Hall_isFree_4 : decode prog_6_method_12_code 4 = .ok (.iload_n 1, 1) := by decide +kernel
theorem d_Hall_isFree_5 : decode prog_6_method_12_code 5 = .ok (.bipush 8, 2) := by decide +kernel
theorem d_Hall_isFree_7 : decode prog_6_method_12_code 7 = .ok (.if_icmp .ge 27, 3) := by decide +kernel
theorem d_Hall_isFree_10 : decode prog_6_method_12_code 10 = .ok (.aload_n 0, 1) := by decide +kernel
theorem d_Hall_isFree_11 : decode prog_6_method_12_code 11 = .ok (.getfield 24, 3) := by decide +kernel
theorem d_Hall_isFree_14 : decode prog_6_method_12_code 14 = .ok (.iload_n 1, 1) := by decide +kernel
theorem d_Hall_isFree_15 : decode prog_6_method_12_code 15 = .ok (.iaload, 1) := by decide +kernel
theorem d_Hall_isFree_16 : decode prog_6_method_12_code 16 = .ok (.iconst (-1), 1) := by decide +kernel
theorem d_Hall_isFree_17 : decode prog_6_method_12_code 17 = .ok (.if_icmp .ne 17, 3) := by decide +kernel
theorem d_Hall_isFree_20 : decode prog_6_method_12_code 20 = .ok (.aload_n 0, 1) := by decide +kernel
theorem d_Hall_isFree_21 : decode prog_6_method_12_code 21 = .ok (.getfield 27, 3) := by decide +kernel
theorem d_Hall_isFree_24 : decode prog_6_method_12_code 24 = .ok (.iload_n 1, 1) := by decide +kernel
theorem d_Hall_isFree_25 : decode prog_6_method_12_code 25 = .ok (.iaload, 1) := by decide +kernel
theorem d_Hall_isFree_26 : decode prog_6_method_12_code 26 = .ok (.iconst (-1), 1) := by decide +kernel
theorem d_Hall_isFree_27 : decode prog_6_method_12_code 27 = .ok (.if_icmp .ne 7, 3) := by decide +kernel
theorem d_Hall_isFree_30 : decode prog_6_method_12_code 30 = .ok (.iconst 1, 1) := by decide +kernel
theorem d_Hall_isFree_31 : decode prog_6_method_12_code 31 = .ok (.goto 4, 3) := by decide +kernel
theorem d_Hall_isFree_34 : decode prog_6_method_12_code 34 = .ok (.iconst 0, 1) := by decide +kernel
theorem d_Hall_isFree_35 : decode prog_6_method_12_code 35 = .ok (.ireturn, 1) := by decide +kernel
def s_Hall_isFree_35 (h : Nat) (p0 : Int32) (z0 : Int32) (σ : LH) : Option (Int32 × LH) :=
  if zb z0 then (
  some (z0, σ)) else none
theorem b_Hall_isFree_35 {G : XG} {l : Launch} {p : Program} {e : Env} {R : Room} {s : State} {m : MethodId} {args : Array Value} {below : List Frame} {meth : Method} {c : Code} (C : XC G 1 570 p s m args c prog_6_method_12_code 2 R_Hall) (hr : meth.sig.returnType = (some .boolean)) (hk : meth.locks = false) {d : Nat} (hd : 1 ≤ d + 1) (hR : xroom R (d + 1)) {h : Nat} {p0 : Int32} (hh : h ∈ xHalls) {σ' : LH} {r : Int32} {z0 : Int32} {σ : LH} (h0 : s_Hall_isFree_35 h p0 z0 σ = some (r, σ')) : XJ G 1 570 p l e R s m args below meth c 2 (XQ G 1 570 below args s (some (.int r)) σ') 0 0 35 [] [.int z0] σ := by
  replace h0 := (show _ = _ from h0)
  unfold s_Hall_isFree_35 at h0
  obtain ⟨g2, h0⟩ := xgo h0
  exact x_zret C hr hk g2 h0 d_Hall_isFree_35
def s_Hall_isFree_34 (h : Nat) (p0 : Int32) (σ : LH) : Option (Int32 × LH) :=
  s_Hall_isFree_35 h p0 0 σ
theorem b_Hall_isFree_34 {G : XG} {l : Launch} {p : Program} {e : Env} {R : Room} {s : State} {m : MethodId} {args : Array Value} {below : List Frame} {meth : Method} {c : Code} (C : XC G 1 570 p s m args c prog_6_method_12_code 2 R_Hall) (hr : meth.sig.returnType = (some .boolean)) (hk : meth.locks = false) {d : Nat} (hd : 1 ≤ d + 1) (hR : xroom R (d + 1)) {h : Nat} {p0 : Int32} (hh : h ∈ xHalls) {σ' : LH} {r : Int32} {σ : LH} (h0 : s_Hall_isFree_34 h p0 σ = some (r, σ')) : XJ G 1 570 p l e R s m args below meth c 2 (XQ G 1 570 below args s (some (.int r)) σ') 0 0 34 [] [] σ := by
  replace h0 := (show _ = _ from h0)
  unfold s_Hall_isFree_34 at h0
  refine x_iconst (v := 0) C d_Hall_isFree_34 (by decide) ?_
  exact x_lv C [] rfl (b_Hall_isFree_35 C hr hk hd hR hh h0)
def s_Hall_isFree (h : Nat) (p0 : Int32) (σ : LH) : Option (Int32 × LH) :=
  if p0 < 0 then (
   s_Hall_isFree_34 h p0 σ)
  else (
   if 8 ≤ p0 then (
    s_Hall_isFree_34 h p0 σ)
   else (
    if ib p0 8 then (
    if (σ.1 (h + 5) (Int32.toNatClampNeg p0)) = (-1) then (
     if ib p0 8 then (
     if (σ.1 (h + 6) (Int32.toNatClampNeg p0)) = (-1) then (
      s_Hall_isFree_35 h p0 1 σ)
     else (
      s_Hall_isFree_34 h p0 σ)) else none)
    else (
     s_Hall_isFree_34 h p0 σ)) else none))
theorem c_Hall_isFree {G : XG} {l : Launch} {d : Nat} (hd : 1 ≤ d) {h : Nat} {p0 : Int32} (hh : h ∈ xHalls) {σ σ' : LH} {r : Int32} (h0 : s_Hall_isFree h p0 σ = some (r, σ')) : xM G 1 570 l y_Hall_isFree prog_6_method_12_code 2 (some .boolean) d [.ref (G.2.2.1 + h), .int p0] σ (some (.int r)) σ' := by
  obtain ⟨d, rfl⟩ : ∃ q, d = q + 1 := ⟨d - 1, by omega⟩
  refine x_met R_Hall rfl (by decide +kernel) (Nat.le_of_ble_eq_true rfl) fun p e s m below meth c C hr hk hR => ?_
  refine x_lv (lv' := [(0, .ref (G.2.2.1 + h)), (1, .int p0)]) C [0, 1] rfl ?_
  generalize xrm (d + 1) = R at hR ⊢
  unfold s_Hall_isFree at h0
  refine x_iload_n C d_Hall_isFree_0 1 rfl ?_
  refine x_if_lt C 34 d_Hall_isFree_1 (by decide) (fun q1 => ?_) (fun q1 => ?_)
  · replace h0 := xit q1 h0
    exact x_lv C [] rfl (b_Hall_isFree_34 C hr hk hd hR hh h0)
  · replace h0 := xif q1 h0
    refine x_iload_n C d_Hall_isFree_4 1 rfl ?_
    refine x_bipush (v := 8) C d_Hall_isFree_5 (by decide) ?_
    refine x_icmp_ge C 34 d_Hall_isFree_7 (by decide) (fun q3 => ?_) (fun q3 => ?_)
    · replace h0 := xit q3 h0
      exact x_lv C [] rfl (b_Hall_isFree_34 C hr hk hd hR hh h0)
    · replace h0 := xif q3 h0
      refine x_aload_n C d_Hall_isFree_10 0 rfl ?_
      refine x_getR (y := 5) C fg_Hall_24 (hl_0 hh) rfl d_Hall_isFree_11 ?_
      refine x_iload_n C d_Hall_isFree_14 1 rfl ?_
      obtain ⟨g4, h0⟩ := xgo h0
      refine x_iald C (hl_5 hh) (ib_in g4) d_Hall_isFree_15 ?_
      refine x_iconst (v := (-1)) C d_Hall_isFree_16 (by decide) ?_
      refine x_icmp_ne C 34 d_Hall_isFree_17 (by decide) (fun q5 => ?_) (fun q5 => ?_)
      · replace h0 := xif q5 h0
        exact x_lv C [] rfl (b_Hall_isFree_34 C hr hk hd hR hh h0)
      · replace h0 := xit q5 h0
        refine x_aload_n C d_Hall_isFree_20 0 rfl ?_
        refine x_getR (y := 6) C fg_Hall_27 (hl_0 hh) rfl d_Hall_isFree_21 ?_
        refine x_iload_n C d_Hall_isFree_24 1 rfl ?_
        obtain ⟨g6, h0⟩ := xgo h0
        refine x_iald C (hl_6 hh) (ib_in g6) d_Hall_isFree_25 ?_
        refine x_iconst (v := (-1)) C d_Hall_isFree_26 (by decide) ?_
        refine x_icmp_ne C 34 d_Hall_isFree_27 (by decide) (fun q7 => ?_) (fun q7 => ?_)
        · replace h0 := xif q7 h0
          exact x_lv C [] rfl (b_Hall_isFree_34 C hr hk hd hR hh h0)
        · replace h0 := xit q7 h0
          refine x_iconst (v := 1) C d_Hall_isFree_30 (by decide) ?_
          refine x_goto C 35 d_Hall_isFree_31 (by decide) ?_
          exact x_lv C [] rfl (b_Hall_isFree_35 C hr hk hd hR hh h0)
-- LostPlaces$Evening.placeFor(LLostPlaces$Hall;II)I
theorem d_Evening_placeFor_0 : decode prog_3_method_16_code 0 = .ok (.iconst (-1), 1) := by decide +kernel
theorem d_Evening_placeFor_1 : decode prog_3_method_16_code 1 = .ok (.istore 4, 2) := by decide +kernel
theorem d_Evening_placeFor_3 : decode prog_3_method_16_code 3 = .ok (.iconst 0, 1) := by decide +kernel
theorem d_Evening_placeFor_4 : decode prog_3_method_16_code 4 = .ok (.istore 5, 2) := by decide +kernel
theorem d_Evening_placeFor_6 : decode prog_3_method_16_code 6 = .ok (.iconst 0, 1) := by decide +kernel
theorem d_Evening_placeFor_7 : decode prog_3_method_16_code 7 = .ok (.istore 6, 2) := by decide +kernel
theorem d_Evening_placeFor_9 : decode prog_3_method_16_code 9 = .ok (.iload 6, 2) := by decide +kernel
theorem d_Evening_placeFor_11 : decode prog_3_method_16_code 11 = .ok (.aload_n 0, 1) := by decide +kernel
theorem d_Evening_placeFor_12 : decode prog_3_method_16_code 12 = .ok (.getfield 28, 3) := by decide +kernel
theorem d_Evening_placeFor_15 : decode prog_3_method_16_code 15 = .ok (.getfield 113, 3) := by decide +kernel
theorem d_Evening_placeFor_18 : decode prog_3_method_16_code 18 = .ok (.if_icmp .ge 66, 3) := by decide +kernel
theorem d_Evening_placeFor_21 : decode prog_3_method_16_code 21 = .ok (.aload_n 1, 1) := by decide +kernel
theorem d_Evening_placeFor_22 : decode prog_3_method_16_code 22 = .ok (.getfield 127, 3) := by decide +kernel
theorem d_Evening_placeFor_25 : decode prog_3_method_16_code 25 = .ok (.iload 6, 2) := by decide +kernel
theorem d_Evening_placeFor_27 : decode prog_3_method_16_code 27 = .ok (.iaload, 1) := by decide +kernel
theorem d_Evening_placeFor_28 : decode prog_3_method_16_code 28 = .ok (.iload_n 3, 1) := by decide +kernel
theorem d_Evening_placeFor_29 : decode prog_3_method_16_code 29 = .ok (.if_icmp .ne 12, 3) := by decide +kernel
theorem d_Evening_placeFor_32 : decode prog_3_method_16_code 32 = .ok (.aload_n 1, 1) := by decide +kernel
theorem d_Evening_placeFor_33 : decode prog_3_method_16_code 33 = .ok (.iload 6, 2) := by decide +kernel
theorem d_Evening_placeFor_35 : decode prog_3_method_16_code 35 = .ok (.invokevirtual 130, 3) := by decide +kernel
theorem d_Evening_placeFor_38 : decode prog_3_method_16_code 38 = .ok (.iload 6, 2) := by decide +kernel
theorem d_Evening_placeFor_40 : decode prog_3_method_16_code 40 = .ok (.ireturn, 1) := by decide +kernel
theorem d_Evening_placeFor_41 : decode prog_3_method_16_code 41 = .ok (.aload_n 0, 1) := by decide +kernel
theorem d_Evening_placeFor_42 : decode prog_3_method_16_code 42 = .ok (.getfield 32, 3) := by decide +kernel
theorem d_Evening_placeFor_45 : decode prog_3_method_16_code 45 = .ok (.iload_n 2, 1) := by decide +kernel
theorem d_Evening_placeFor_46 : decode prog_3_method_16_code 46 = .ok (.iload_n 3, 1) := by decide +kernel
theorem d_Evening_placeFor_47 : decode prog_3_method_16_code 47 = .ok (.iload 6, 2) := by decide +kernel
theorem d_Evening_placeFor_49 : decode prog_3_method_16_code 49 = .ok (.invokevirtual 97, 3) := by decide +kernel
theorem d_Evening_placeFor_52 : decode prog_3_method_16_code 52 = .ok (.istore 7, 2) := by decide +kernel
theorem d_Evening_placeFor_54 : decode prog_3_method_16_code 54 = .ok (.aload_n 1, 1) := by decide +kernel
theorem d_Evening_placeFor_55 : decode prog_3_method_16_code 55 = .ok (.iload 6, 2) := by decide +kernel
theorem d_Evening_placeFor_57 : decode prog_3_method_16_code 57 = .ok (.invokevirtual 154, 3) := by decide +kernel
theorem d_Evening_placeFor_60 : decode prog_3_method_16_code 60 = .ok (.ifCond .eq 18, 3) := by decide +kernel
theorem d_Evening_placeFor_63 : decode prog_3_method_16_code 63 = .ok (.iload 7, 2) := by decide +kernel
theorem d_Evening_placeFor_65 : decode prog_3_method_16_code 65 = .ok (.iload 5, 2) := by decide +kernel
theorem d_Evening_placeFor_67 : decode prog_3_method_16_code 67 = .ok (.if_icmp .le 11, 3) := by decide +kernel
theorem d_Evening_placeFor_70 : decode prog_3_method_16_code 70 = .ok (.iload 6, 2) := by decide +kernel
theorem d_Evening_placeFor_72 : decode prog_3_method_16_code 72 = .ok (.istore 4, 2) := by decide +kernel
theorem d_Evening_placeFor_74 : decode prog_3_method_16_code 74 = .ok (.iload 7, 2) := by decide +kernel
theorem d_Evening_placeFor_76 : decode prog_3_method_16_code 76 = .ok (.istore 5, 2) := by decide +kernel
theorem d_Evening_placeFor_78 : decode prog_3_method_16_code 78 = .ok (.iinc 6 1, 3) := by decide +kernel
theorem d_Evening_placeFor_81 : decode prog_3_method_16_code 81 = .ok (.goto (-72), 3) := by decide +kernel
theorem d_Evening_placeFor_84 : decode prog_3_method_16_code 84 = .ok (.iload 4, 2) := by decide +kernel
theorem d_Evening_placeFor_86 : decode prog_3_method_16_code 86 = .ok (.ireturn, 1) := by decide +kernel
def s_Evening_placeFor_78 (p0 : Nat) (p1 : Int32) (p2 : Int32) (rec9 : Int32 → Int32 → Int32 → LH → Option (Int32 × LH)) (y4 : Int32) (y5 : Int32) (y6 : Int32) (σ : LH) : Option (Int32 × LH) :=
  xl ((y6 + 1) : Int32) fun x13 =>
  rec9 y4 y5 x13 σ
theorem b_Evening_placeFor_78 {G : XG} {l : Launch} {p : Program} {e : Env} {R : Room} {s : State} {m : MethodId} {args : Array Value} {below : List Frame} {meth : Method} {c : Code} (C : XC G 1 570 p s m args c prog_3_method_16_code 8 R_Evening) (hr : meth.sig.returnType = (some .int)) (hk : meth.locks = false) {d : Nat} (hd : 2 ≤ d + 1) (hR : xroom R (d + 1)) {p0 : Nat} {p1 : Int32} {p2 : Int32} (hp0 : p0 ∈ xHalls) {rec9 : Int32 → Int32 → Int32 → LH → Option (Int32 × LH)} {σ' : LH} {r : Int32} (hrec9 : ∀ (y4 : Int32) (y5 : Int32) (y6 : Int32) (σ : LH), rec9 y4 y5 y6 σ = some (r, σ') → XJ G 1 570 p l e R s m args below meth c 8 (XQ G 1 570 below args s (some (.int r)) σ') 0 0 9 [(0, .ref (G.2.2.1 + 38)), (1, .ref (G.2.2.1 + p0)), (2, .int p1), (3, .int p2), (4, .int y4), (5, .int y5), (6, .int y6)] [] σ) {y4 : Int32} {y5 : Int32} {y6 : Int32} {σ : LH} (h0 : s_Evening_placeFor_78 p0 p1 p2 rec9 y4 y5 y6 σ = some (r, σ')) : XJ G 1 570 p l e R s m args below meth c 8 (XQ G 1 570 below args s (some (.int r)) σ') 0 0 78 [(0, .ref (G.2.2.1 + 38)), (1, .ref (G.2.2.1 + p0)), (2, .int p1), (3, .int p2), (4, .int y4), (5, .int y5), (6, .int y6)] [] σ := by
  replace h0 := (show _ = _ from h0)
  unfold s_Evening_placeFor_78 at h0
  obtain ⟨x13, ex13, h0⟩ := xlet h0
  refine x_iinc (lv' := [(6, .int x13), (0, .ref (G.2.2.1 + 38)), (1, .ref (G.2.2.1 + p0)), (2, .int p1), (3, .int p2), (4, .int y4), (5, .int y5)]) C d_Evening_placeFor_78 6 rfl ex13 (by decide) rfl ?_
  refine x_goto C 9 d_Evening_placeFor_81 (by decide) ?_
  exact x_lv C [1, 2, 3, 4, 5, 6, 0] rfl (hrec9 _ _ _ _ h0)
def s_Evening_placeFor_9_b (p0 : Nat) (p1 : Int32) (p2 : Int32) (rec9 : Int32 → Int32 → Int32 → LH → Option (Int32 × LH)) (y4 : Int32) (y5 : Int32) (y6 : Int32) (σ : LH) : Option (Int32 × LH) :=
  if (σ.1 4 0) ≤ y6 then (
   some (y4, σ))
  else (
   if ib y6 8 then (
   if (σ.1 (p0 + 6) (Int32.toNatClampNeg y6)) = p2 then (
    xb1 (s_Hall_release p0 y6 σ) fun σ5 =>
    some (y6, σ5))
   else (
    xb2 (s_Likings_at p1 p2 y6 σ) fun r7 σ8 =>
    xb2 (s_Hall_isFree p0 y6 σ8) fun r10 σ11 =>
    if r10 = 0 then (
     s_Evening_placeFor_78 p0 p1 p2 rec9 y4 y5 y6 σ11)
    else (
     if r7 ≤ y5 then (
      s_Evening_placeFor_78 p0 p1 p2 rec9 y4 y5 y6 σ11)
     else (
      s_Evening_placeFor_78 p0 p1 p2 rec9 y6 r7 y6 σ11)))) else none)
def s_Evening_placeFor_9 (p0 : Nat) (p1 : Int32) (p2 : Int32) : Nat → Int32 → Int32 → Int32 → LH → Option (Int32 × LH)
  | 0, _, _, _, _ => none
  | n + 1, y4, y5, y6, σ => s_Evening_placeFor_9_b p0 p1 p2 (s_Evening_placeFor_9 p0 p1 p2 n) y4 y5 y6 σ
theorem bb_Evening_placeFor_9 {G : XG} {l : Launch} {p : Program} {e : Env} {R : Room} {s : State} {m : MethodId} {args : Array Value} {below : List Frame} {meth : Method} {c : Code} (C : XC G 1 570 p s m args c prog_3_method_16_code 8 R_Evening) (hr : meth.sig.returnType = (some .int)) (hk : meth.locks = false) {d : Nat} (hd : 2 ≤ d + 1) (hR : xroom R (d + 1)) {p0 : Nat} {p1 : Int32} {p2 : Int32} (hp0 : p0 ∈ xHalls) {rec9 : Int32 → Int32 → Int32 → LH → Option (Int32 × LH)} {σ' : LH} {r : Int32} (hrec9 : ∀ (y4 : Int32) (y5 : Int32) (y6 : Int32) (σ : LH), rec9 y4 y5 y6 σ = some (r, σ') → XJ G 1 570 p l e R s m args below meth c 8 (XQ G 1 570 below args s (some (.int r)) σ') 0 0 9 [(0, .ref (G.2.2.1 + 38)), (1, .ref (G.2.2.1 + p0)), (2, .int p1), (3, .int p2), (4, .int y4), (5, .int y5), (6, .int y6)] [] σ) {y4 : Int32} {y5 : Int32} {y6 : Int32} {σ : LH} (h0 : s_Evening_placeFor_9_b p0 p1 p2 rec9 y4 y5 y6 σ = some (r, σ')) : XJ G 1 570 p l e R s m args below meth c 8 (XQ G 1 570 below args s (some (.int r)) σ') 0 0 9 [(0, .ref (G.2.2.1 + 38)), (1, .ref (G.2.2.1 + p0)), (2, .int p1), (3, .int p2), (4, .int y4), (5, .int y5), (6, .int y6)] [] σ := by
  replace h0 := (show _ = _ from h0)
  unfold s_Evening_placeFor_9_b at h0
  refine x_iload C d_Evening_placeFor_9 6 rfl ?_
  refine x_aload_n C d_Evening_placeFor_11 0 rfl ?_
  refine x_getA (y := 4) C fg_Evening_28 k_38 rfl d_Evening_placeFor_12 ?_
  refine x_getI (y := 0) C fg_Evening_113 k_4 rfl d_Evening_placeFor_15 ?_
  refine x_icmp_ge C 84 d_Evening_placeFor_18 (by decide) (fun q1 => ?_) (fun q1 => ?_)
  · replace h0 := xit q1 h0
    refine x_iload C d_Evening_placeFor_84 4 rfl ?_
    exact x_iret C hr hk h0 d_Evening_placeFor_86
  · replace h0 := xif q1 h0
    refine x_aload_n C d_Evening_placeFor_21 1 rfl ?_
    refine x_getR (y := 6) C fg_Evening_127 (hl_0 hp0) rfl d_Evening_placeFor_22 ?_
    refine x_iload C d_Evening_placeFor_25 6 rfl ?_
    obtain ⟨g2, h0⟩ := xgo h0
    refine x_iald C (hl_6 hp0) (ib_in g2) d_Evening_placeFor_27 ?_
    refine x_iload_n C d_Evening_placeFor_28 3 rfl ?_
    refine x_icmp_ne C 41 d_Evening_placeFor_29 (by decide) (fun q3 => ?_) (fun q3 => ?_)
    · replace h0 := xif q3 h0
      refine x_aload_n C d_Evening_placeFor_41 0 rfl ?_
      refine x_getA (y := 33) C fg_Evening_32 k_38 rfl d_Evening_placeFor_42 ?_
      refine x_iload_n C d_Evening_placeFor_45 2 rfl ?_
      refine x_iload_n C d_Evening_placeFor_46 3 rfl ?_
      refine x_iload C d_Evening_placeFor_47 6 rfl ?_
      obtain ⟨r7, σ8, k6, h0⟩ := xbind2 h0
      refine x_callVi C hR (c_Likings_at (d := d) (by omega) k6) cw_Evening_97 k_33 rfl rfl rfl (Nat.le_of_ble_eq_true rfl) ⟨Nat.zero_le _, Nat.zero_le _⟩ d_Evening_placeFor_49 ?_
      refine x_istore (lv' := [(7, .int r7), (0, .ref (G.2.2.1 + 38)), (1, .ref (G.2.2.1 + p0)), (2, .int p1), (3, .int p2), (4, .int y4), (5, .int y5), (6, .int y6)]) C d_Evening_placeFor_52 (by decide) rfl ?_
      refine x_aload_n C d_Evening_placeFor_54 2 rfl ?_
      refine x_iload C d_Evening_placeFor_55 7 rfl ?_
      obtain ⟨r10, σ11, k9, h0⟩ := xbind2 h0
      refine x_callVi C hR (c_Hall_isFree (d := d) (by omega) hp0 k9) cw_Evening_154 (hl_0 hp0) rfl rfl rfl (Nat.le_of_ble_eq_true rfl) ⟨Nat.zero_le _, Nat.zero_le _⟩ d_Evening_placeFor_57 ?_
      refine x_if_eq C 78 d_Evening_placeFor_60 (by decide) (fun q12 => ?_) (fun q12 => ?_)
      · replace h0 := xit q12 h0
        exact x_lv C [1, 2, 3, 4, 5, 6, 7] rfl (b_Evening_placeFor_78 C hr hk hd hR hp0 hrec9 h0)
      · replace h0 := xif q12 h0
        refine x_iload C d_Evening_placeFor_63 0 rfl ?_
        refine x_iload C d_Evening_placeFor_65 6 rfl ?_
        refine x_icmp_le C 78 d_Evening_placeFor_67 (by decide) (fun q14 => ?_) (fun q14 => ?_)
        · replace h0 := xit q14 h0
          exact x_lv C [1, 2, 3, 4, 5, 6, 7] rfl (b_Evening_placeFor_78 C hr hk hd hR hp0 hrec9 h0)
        · replace h0 := xif q14 h0
          refine x_iload C d_Evening_placeFor_70 7 rfl ?_
          refine x_istore (lv' := [(4, .int y6), (7, .int r7), (0, .ref (G.2.2.1 + 38)), (1, .ref (G.2.2.1 + p0)), (2, .int p1), (3, .int p2), (5, .int y5), (6, .int y6)]) C d_Evening_placeFor_72 (by decide) rfl ?_
          refine x_iload C d_Evening_placeFor_74 1 rfl ?_
          refine x_istore (lv' := [(5, .int r7), (4, .int y6), (7, .int r7), (0, .ref (G.2.2.1 + 38)), (1, .ref (G.2.2.1 + p0)), (2, .int p1), (3, .int p2), (6, .int y6)]) C d_Evening_placeFor_76 (by decide) rfl ?_
          exact x_lv C [3, 4, 5, 6, 1, 0, 7] rfl (b_Evening_placeFor_78 C hr hk hd hR hp0 hrec9 h0)
    · replace h0 := xit q3 h0
      refine x_aload_n C d_Evening_placeFor_32 1 rfl ?_
      refine x_iload C d_Evening_placeFor_33 6 rfl ?_
      obtain ⟨σ5, k4, h0⟩ := xbind1 h0
      refine x_callVv C hR (c_Hall_release (d := d) (by omega) hp0 k4) cw_Evening_130 (hl_0 hp0) rfl rfl rfl (Nat.le_of_ble_eq_true rfl) ⟨Nat.zero_le _, Nat.zero_le _⟩ d_Evening_placeFor_35 ?_
      refine x_iload C d_Evening_placeFor_38 6 rfl ?_
      exact x_iret C hr hk h0 d_Evening_placeFor_40
theorem b_Evening_placeFor_9 {G : XG} {l : Launch} {p : Program} {e : Env} {R : Room} {s : State} {m : MethodId} {args : Array Value} {below : List Frame} {meth : Method} {c : Code} (C : XC G 1 570 p s m args c prog_3_method_16_code 8 R_Evening) (hr : meth.sig.returnType = (some .int)) (hk : meth.locks = false) {d : Nat} (hd : 2 ≤ d + 1) (hR : xroom R (d + 1)) {p0 : Nat} {p1 : Int32} {p2 : Int32} (hp0 : p0 ∈ xHalls) {σ' : LH} {r : Int32} : ∀ (n : Nat) (y4 : Int32) (y5 : Int32) (y6 : Int32) (σ : LH), s_Evening_placeFor_9 p0 p1 p2 n y4 y5 y6 σ = some (r, σ') → XJ G 1 570 p l e R s m args below meth c 8 (XQ G 1 570 below args s (some (.int r)) σ') 0 0 9 [(0, .ref (G.2.2.1 + 38)), (1, .ref (G.2.2.1 + p0)), (2, .int p1), (3, .int p2), (4, .int y4), (5, .int y5), (6, .int y6)] [] σ := by
  intro n
  induction n with
  | zero => intro y4 y5 y6 σ h0; cases h0
  | succ n ih => intro y4 y5 y6 σ h0; exact bb_Evening_placeFor_9 C hr hk hd hR hp0 ih h0
def s_Evening_placeFor (p0 : Nat) (p1 : Int32) (p2 : Int32) (σ : LH) : Option (Int32 × LH) :=
  s_Evening_placeFor_9 p0 p1 p2 FUEL (-1) 0 0 σ
theorem c_Evening_placeFor {G : XG} {l : Launch} {d : Nat} (hd : 2 ≤ d) {p0 : Nat} {p1 : Int32} {p2 : Int32} (hp0 : p0 ∈ xHalls) {σ σ' : LH} {r : Int32} (h0 : s_Evening_placeFor p0 p1 p2 σ = some (r, σ')) : xM G 1 570 l y_Evening_placeFor prog_3_method_16_code 8 (some .int) d [.ref (G.2.2.1 + 38), .ref (G.2.2.1 + p0), .int p1, .int p2] σ (some (.int r)) σ' := by
  obtain ⟨d, rfl⟩ : ∃ q, d = q + 1 := ⟨d - 1, by omega⟩
  refine x_met R_Evening rfl (by decide +kernel) (Nat.le_of_ble_eq_true rfl) fun p e s m below meth c C hr hk hR => ?_
  refine x_lv (lv' := [(0, .ref (G.2.2.1 + 38)), (1, .ref (G.2.2.1 + p0)), (2, .int p1), (3, .int p2)]) C [0, 1, 2, 3] rfl ?_
  generalize xrm (d + 1) = R at hR ⊢
  unfold s_Evening_placeFor at h0
  refine x_iconst (v := (-1)) C d_Evening_placeFor_0 (by decide) ?_
  refine x_istore (lv' := [(4, .int (-1)), (0, .ref (G.2.2.1 + 38)), (1, .ref (G.2.2.1 + p0)), (2, .int p1), (3, .int p2)]) C d_Evening_placeFor_1 (by decide) rfl ?_
  refine x_iconst (v := 0) C d_Evening_placeFor_3 (by decide) ?_
  refine x_istore (lv' := [(5, .int 0), (4, .int (-1)), (0, .ref (G.2.2.1 + 38)), (1, .ref (G.2.2.1 + p0)), (2, .int p1), (3, .int p2)]) C d_Evening_placeFor_4 (by decide) rfl ?_
  refine x_iconst (v := 0) C d_Evening_placeFor_6 (by decide) ?_
  refine x_istore (lv' := [(6, .int 0), (5, .int 0), (4, .int (-1)), (0, .ref (G.2.2.1 + 38)), (1, .ref (G.2.2.1 + p0)), (2, .int p1), (3, .int p2)]) C d_Evening_placeFor_7 (by decide) rfl ?_
  exact x_lv C [3, 4, 5, 6, 2, 1, 0] rfl (b_Evening_placeFor_9 C hr hk hd hR hp0 FUEL _ _ _ _ h0)
-- LostPlaces$Evening.takeBack(LLostPlaces$Hall;I)V
theorem d_Evening_takeBack_0 : decode prog_3_method_15_code 0 = .ok (.iconst 0, 1) := by decide +kernel
theorem d_Evening_takeBack_1 : decode prog_3_method_15_code 1 = .ok (.istore_n 3, 1) := by decide +kernel
theorem d_Evening_takeBack_2 : decode prog_3_method_15_code 2 = .ok (.iload_n 3, 1) := by decide +kernel
theorem d_Evening_takeBack_3 : decode prog_3_method_15_code 3 = .ok (.bipush 8, 2) := by decide +kernel
theorem d_Evening_takeBack_5 : decode prog_3_method_15_code 5 = .ok (.if_icmp .ge 125, 3) := by decide +kernel
theorem d_Evening_takeBack_8 : decode prog_3_method_15_code 8 = .ok (.iconst (-1), 1) := by decide +kernel
theorem d_Evening_takeBack_9 : decode prog_3_method_15_code 9 = .ok (.istore 4, 2) := by decide +kernel
theorem d_Evening_takeBack_11 : decode prog_3_method_15_code 11 = .ok (.iconst 0, 1) := by decide +kernel
theorem d_Evening_takeBack_12 : decode prog_3_method_15_code 12 = .ok (.istore 5, 2) := by decide +kernel
theorem d_Evening_takeBack_14 : decode prog_3_method_15_code 14 = .ok (.iload 5, 2) := by decide +kernel
theorem d_Evening_takeBack_16 : decode prog_3_method_15_code 16 = .ok (.aload_n 0, 1) := by decide +kernel
theorem d_Evening_takeBack_17 : decode prog_3_method_15_code 17 = .ok (.getfield 28, 3) := by decide +kernel
theorem d_Evening_takeBack_20 : decode prog_3_method_15_code 20 = .ok (.getfield 40, 3) := by decide +kernel
theorem d_Evening_takeBack_23 : decode prog_3_method_15_code 23 = .ok (.if_icmp .ge 80, 3) := by decide +kernel
theorem d_Evening_takeBack_26 : decode prog_3_method_15_code 26 = .ok (.aload_n 1, 1) := by decide +kernel
theorem d_Evening_takeBack_27 : decode prog_3_method_15_code 27 = .ok (.getfield 45, 3) := by decide +kernel
theorem d_Evening_takeBack_30 : decode prog_3_method_15_code 30 = .ok (.iload 5, 2) := by decide +kernel
theorem d_Evening_takeBack_32 : decode prog_3_method_15_code 32 = .ok (.iaload, 1) := by decide +kernel
theorem d_Evening_takeBack_33 : decode prog_3_method_15_code 33 = .ok (.bipush (-2), 2) := by decide +kernel
theorem d_Evening_takeBack_35 : decode prog_3_method_15_code 35 = .ok (.if_icmp .ne 21, 3) := by decide +kernel
theorem d_Evening_takeBack_38 : decode prog_3_method_15_code 38 = .ok (.aload_n 1, 1) := by decide +kernel
theorem d_Evening_takeBack_39 : decode prog_3_method_15_code 39 = .ok (.getfield 119, 3) := by decide +kernel
theorem d_Evening_takeBack_42 : decode prog_3_method_15_code 42 = .ok (.iload 5, 2) := by decide +kernel
theorem d_Evening_takeBack_44 : decode prog_3_method_15_code 44 = .ok (.iaload, 1) := by decide +kernel
theorem d_Evening_takeBack_45 : decode prog_3_method_15_code 45 = .ok (.aload_n 1, 1) := by decide +kernel
theorem d_Evening_takeBack_46 : decode prog_3_method_15_code 46 = .ok (.getfield 62, 3) := by decide +kernel
theorem d_Evening_takeBack_49 : decode prog_3_method_15_code 49 = .ok (.if_icmp .gt 7, 3) := by decide +kernel
theorem d_Evening_takeBack_52 : decode prog_3_method_15_code 52 = .ok (.iconst 1, 1) := by decide +kernel
theorem d_Evening_takeBack_53 : decode prog_3_method_15_code 53 = .ok (.goto 4, 3) := by decide +kernel
theorem d_Evening_takeBack_56 : decode prog_3_method_15_code 56 = .ok (.iconst 0, 1) := by decide +kernel
theorem d_Evening_takeBack_57 : decode prog_3_method_15_code 57 = .ok (.istore 6, 2) := by decide +kernel
theorem d_Evening_takeBack_59 : decode prog_3_method_15_code 59 = .ok (.iload 6, 2) := by decide +kernel
theorem d_Evening_takeBack_61 : decode prog_3_method_15_code 61 = .ok (.ifCond .eq 36, 3) := by decide +kernel
theorem d_Evening_takeBack_64 : decode prog_3_method_15_code 64 = .ok (.iload 4, 2) := by decide +kernel
theorem d_Evening_takeBack_66 : decode prog_3_method_15_code 66 = .ok (.iconst (-1), 1) := by decide +kernel
theorem d_Evening_takeBack_67 : decode prog_3_method_15_code 67 = .ok (.if_icmp .eq 26, 3) := by decide +kernel
theorem d_Evening_takeBack_70 : decode prog_3_method_15_code 70 = .ok (.aload_n 0, 1) := by decide +kernel
theorem d_Evening_takeBack_71 : decode prog_3_method_15_code 71 = .ok (.getfield 28, 3) := by decide +kernel
theorem d_Evening_takeBack_74 : decode prog_3_method_15_code 74 = .ok (.getfield 143, 3) := by decide +kernel
theorem d_Evening_takeBack_77 : decode prog_3_method_15_code 77 = .ok (.iload 5, 2) := by decide +kernel
theorem d_Evening_takeBack_79 : decode prog_3_method_15_code 79 = .ok (.iaload, 1) := by decide +kernel
theorem d_Evening_takeBack_80 : decode prog_3_method_15_code 80 = .ok (.aload_n 0, 1) := by decide +kernel
theorem d_Evening_takeBack_81 : decode prog_3_method_15_code 81 = .ok (.getfield 28, 3) := by decide +kernel
theorem d_Evening_takeBack_84 : decode prog_3_method_15_code 84 = .ok (.getfield 143, 3) := by decide +kernel
theorem d_Evening_takeBack_87 : decode prog_3_method_15_code 87 = .ok (.iload 4, 2) := by decide +kernel
theorem d_Evening_takeBack_89 : decode prog_3_method_15_code 89 = .ok (.iaload, 1) := by decide +kernel
theorem d_Evening_takeBack_90 : decode prog_3_method_15_code 90 = .ok (.if_icmp .le 7, 3) := by decide +kernel
theorem d_Evening_takeBack_93 : decode prog_3_method_15_code 93 = .ok (.iload 5, 2) := by decide +kernel
theorem d_Evening_takeBack_95 : decode prog_3_method_15_code 95 = .ok (.istore 4, 2) := by decide +kernel
theorem d_Evening_takeBack_97 : decode prog_3_method_15_code 97 = .ok (.iinc 5 1, 3) := by decide +kernel
theorem d_Evening_takeBack_100 : decode prog_3_method_15_code 100 = .ok (.goto (-86), 3) := by decide +kernel
theorem d_Evening_takeBack_103 : decode prog_3_method_15_code 103 = .ok (.iload 4, 2) := by decide +kernel
theorem d_Evening_takeBack_105 : decode prog_3_method_15_code 105 = .ok (.iconst (-1), 1) := by decide +kernel
theorem d_Evening_takeBack_106 : decode prog_3_method_15_code 106 = .ok (.if_icmp .ne 4, 3) := by decide +kernel
theorem d_Evening_takeBack_109 : decode prog_3_method_15_code 109 = .ok (.return_, 1) := by decide +kernel
theorem d_Evening_takeBack_110 : decode prog_3_method_15_code 110 = .ok (.aload_n 1, 1) := by decide +kernel
theorem d_Evening_takeBack_111 : decode prog_3_method_15_code 111 = .ok (.iload 4, 2) := by decide +kernel
theorem d_Evening_takeBack_113 : decode prog_3_method_15_code 113 = .ok (.aload_n 0, 1) := by decide +kernel
theorem d_Evening_takeBack_114 : decode prog_3_method_15_code 114 = .ok (.aload_n 1, 1) := by decide +kernel
theorem d_Evening_takeBack_115 : decode prog_3_method_15_code 115 = .ok (.iload_n 2, 1) := by decide +kernel
theorem d_Evening_takeBack_116 : decode prog_3_method_15_code 116 = .ok (.iload 4, 2) := by decide +kernel
theorem d_Evening_takeBack_118 : decode prog_3_method_15_code 118 = .ok (.invokevirtual 146, 3) := by decide +kernel
theorem d_Evening_takeBack_121 : decode prog_3_method_15_code 121 = .ok (.invokevirtual 150, 3) := by decide +kernel
theorem d_Evening_takeBack_124 : decode prog_3_method_15_code 124 = .ok (.iinc 3 1, 3) := by decide +kernel
theorem d_Evening_takeBack_127 : decode prog_3_method_15_code 127 = .ok (.goto (-125), 3) := by decide +kernel
theorem d_Evening_takeBack_130 : decode prog_3_method_15_code 130 = .ok (.return_, 1) := by decide +kernel
def s_Evening_takeBack_97 (p0 : Nat) (p1 : Int32) (rec14 : Int32 → Int32 → Int32 → LH → Option (LH)) (y3 : Int32) (y4 : Int32) (y5 : Int32) (σ : LH) : Option (LH) :=
  xl ((y5 + 1) : Int32) fun x15 =>
  rec14 y3 y4 x15 σ
theorem b_Evening_takeBack_97 {G : XG} {l : Launch} {p : Program} {e : Env} {R : Room} {s : State} {m : MethodId} {args : Array Value} {below : List Frame} {meth : Method} {c : Code} (C : XC G 1 570 p s m args c prog_3_method_15_code 7 R_Evening) (hr : meth.sig.returnType = none) (hk : meth.locks = false) {d : Nat} (hd : 3 ≤ d + 1) (hR : xroom R (d + 1)) {p0 : Nat} {p1 : Int32} (hp0 : p0 ∈ xHalls) {rec14 : Int32 → Int32 → Int32 → LH → Option (LH)} {σ' : LH} (hrec14 : ∀ (y3 : Int32) (y4 : Int32) (y5 : Int32) (σ : LH), rec14 y3 y4 y5 σ = some σ' → XJ G 1 570 p l e R s m args below meth c 7 (XQ G 1 570 below args s none σ') 0 0 14 [(0, .ref (G.2.2.1 + 38)), (1, .ref (G.2.2.1 + p0)), (2, .int p1), (3, .int y3), (4, .int y4), (5, .int y5)] [] σ) {y3 : Int32} {y4 : Int32} {y5 : Int32} {σ : LH} (h0 : s_Evening_takeBack_97 p0 p1 rec14 y3 y4 y5 σ = some σ') : XJ G 1 570 p l e R s m args below meth c 7 (XQ G 1 570 below args s none σ') 0 0 97 [(0, .ref (G.2.2.1 + 38)), (1, .ref (G.2.2.1 + p0)), (2, .int p1), (3, .int y3), (4, .int y4), (5, .int y5)] [] σ := by
  replace h0 := (show _ = _ from h0)
  unfold s_Evening_takeBack_97 at h0
  obtain ⟨x15, ex15, h0⟩ := xlet h0
  refine x_iinc (lv' := [(5, .int x15), (0, .ref (G.2.2.1 + 38)), (1, .ref (G.2.2.1 + p0)), (2, .int p1), (3, .int y3), (4, .int y4)]) C d_Evening_takeBack_97 5 rfl ex15 (by decide) rfl ?_
  refine x_goto C 14 d_Evening_takeBack_100 (by decide) ?_
  exact x_lv C [1, 2, 3, 4, 5, 0] rfl (hrec14 _ _ _ _ h0)
def s_Evening_takeBack_93 (p0 : Nat) (p1 : Int32) (rec14 : Int32 → Int32 → Int32 → LH → Option (LH)) (y3 : Int32) (y5 : Int32) (σ : LH) : Option (LH) :=
  s_Evening_takeBack_97 p0 p1 rec14 y3 y5 y5 σ
theorem b_Evening_takeBack_93 {G : XG} {l : Launch} {p : Program} {e : Env} {R : Room} {s : State} {m : MethodId} {args : Array Value} {below : List Frame} {meth : Method} {c : Code} (C : XC G 1 570 p s m args c prog_3_method_15_code 7 R_Evening) (hr : meth.sig.returnType = none) (hk : meth.locks = false) {d : Nat} (hd : 3 ≤ d + 1) (hR : xroom R (d + 1)) {p0 : Nat} {p1 : Int32} (hp0 : p0 ∈ xHalls) {rec14 : Int32 → Int32 → Int32 → LH → Option (LH)} {σ' : LH} (hrec14 : ∀ (y3 : Int32) (y4 : Int32) (y5 : Int32) (σ : LH), rec14 y3 y4 y5 σ = some σ' → XJ G 1 570 p l e R s m args below meth c 7 (XQ G 1 570 below args s none σ') 0 0 14 [(0, .ref (G.2.2.1 + 38)), (1, .ref (G.2.2.1 + p0)), (2, .int p1), (3, .int y3), (4, .int y4), (5, .int y5)] [] σ) {y3 : Int32} {y5 : Int32} {σ : LH} (h0 : s_Evening_takeBack_93 p0 p1 rec14 y3 y5 σ = some σ') : XJ G 1 570 p l e R s m args below meth c 7 (XQ G 1 570 below args s none σ') 0 0 93 [(0, .ref (G.2.2.1 + 38)), (1, .ref (G.2.2.1 + p0)), (2, .int p1), (3, .int y3), (5, .int y5)] [] σ := by
  replace h0 := (show _ = _ from h0)
  unfold s_Evening_takeBack_93 at h0
  refine x_iload C d_Evening_takeBack_93 4 rfl ?_
  refine x_istore (lv' := [(4, .int y5), (0, .ref (G.2.2.1 + 38)), (1, .ref (G.2.2.1 + p0)), (2, .int p1), (3, .int y3), (5, .int y5)]) C d_Evening_takeBack_95 (by decide) rfl ?_
  exact x_lv C [1, 2, 3, 4, 0, 5] rfl (b_Evening_takeBack_97 C hr hk hd hR hp0 hrec14 h0)
def s_Evening_takeBack_57 (p0 : Nat) (p1 : Int32) (rec14 : Int32 → Int32 → Int32 → LH → Option (LH)) (y3 : Int32) (y4 : Int32) (y5 : Int32) (z0 : Int32) (σ : LH) : Option (LH) :=
  if z0 = 0 then (
   s_Evening_takeBack_97 p0 p1 rec14 y3 y4 y5 σ)
  else (
   if y4 = (-1) then (
    s_Evening_takeBack_93 p0 p1 rec14 y3 y5 σ)
   else (
    if ib y5 8 then (
    if ib y4 8 then (
    if (σ.1 9 (Int32.toNatClampNeg y5)) ≤ (σ.1 9 (Int32.toNatClampNeg y4)) then (
     s_Evening_takeBack_97 p0 p1 rec14 y3 y4 y5 σ)
    else (
     s_Evening_takeBack_93 p0 p1 rec14 y3 y5 σ)) else none) else none))
theorem b_Evening_takeBack_57 {G : XG} {l : Launch} {p : Program} {e : Env} {R : Room} {s : State} {m : MethodId} {args : Array Value} {below : List Frame} {meth : Method} {c : Code} (C : XC G 1 570 p s m args c prog_3_method_15_code 7 R_Evening) (hr : meth.sig.returnType = none) (hk : meth.locks = false) {d : Nat} (hd : 3 ≤ d + 1) (hR : xroom R (d + 1)) {p0 : Nat} {p1 : Int32} (hp0 : p0 ∈ xHalls) {rec14 : Int32 → Int32 → Int32 → LH → Option (LH)} {σ' : LH} (hrec14 : ∀ (y3 : Int32) (y4 : Int32) (y5 : Int32) (σ : LH), rec14 y3 y4 y5 σ = some σ' → XJ G 1 570 p l e R s m args below meth c 7 (XQ G 1 570 below args s none σ') 0 0 14 [(0, .ref (G.2.2.1 + 38)), (1, .ref (G.2.2.1 + p0)), (2, .int p1), (3, .int y3), (4, .int y4), (5, .int y5)] [] σ) {y3 : Int32} {y4 : Int32} {y5 : Int32} {z0 : Int32} {σ : LH} (h0 : s_Evening_takeBack_57 p0 p1 rec14 y3 y4 y5 z0 σ = some σ') : XJ G 1 570 p l e R s m args below meth c 7 (XQ G 1 570 below args s none σ') 0 0 57 [(0, .ref (G.2.2.1 + 38)), (1, .ref (G.2.2.1 + p0)), (2, .int p1), (3, .int y3), (4, .int y4), (5, .int y5)] [.int z0] σ := by
  replace h0 := (show _ = _ from h0)
  unfold s_Evening_takeBack_57 at h0
  refine x_istore (lv' := [(6, .int z0), (0, .ref (G.2.2.1 + 38)), (1, .ref (G.2.2.1 + p0)), (2, .int p1), (3, .int y3), (4, .int y4), (5, .int y5)]) C d_Evening_takeBack_57 (by decide) rfl ?_
  refine x_iload C d_Evening_takeBack_59 0 rfl ?_
  refine x_if_eq C 97 d_Evening_takeBack_61 (by decide) (fun q14 => ?_) (fun q14 => ?_)
  · replace h0 := xit q14 h0
    exact x_lv C [1, 2, 3, 4, 5, 6] rfl (b_Evening_takeBack_97 C hr hk hd hR hp0 hrec14 h0)
  · replace h0 := xif q14 h0
    refine x_iload C d_Evening_takeBack_64 5 rfl ?_
    refine x_iconst (v := (-1)) C d_Evening_takeBack_66 (by decide) ?_
    refine x_icmp_eq C 93 d_Evening_takeBack_67 (by decide) (fun q16 => ?_) (fun q16 => ?_)
    · replace h0 := xit q16 h0
      exact x_lv C [1, 2, 3, 4, 6] rfl (b_Evening_takeBack_93 C hr hk hd hR hp0 hrec14 h0)
    · replace h0 := xif q16 h0
      refine x_aload_n C d_Evening_takeBack_70 1 rfl ?_
      refine x_getA (y := 4) C fg_Evening_28 k_38 rfl d_Evening_takeBack_71 ?_
      refine x_getR (y := 5) C fg_Evening_143 k_4 rfl d_Evening_takeBack_74 ?_
      show XJ _ _ _ _ _ _ _ _ _ _ _ _ _ _ _ _ _ _ _ (.ref (G.2.2.1 + 9) :: _) _
      refine x_iload C d_Evening_takeBack_77 6 rfl ?_
      obtain ⟨g17, h0⟩ := xgo h0
      refine x_iald C k_9 (ib_in g17) d_Evening_takeBack_79 ?_
      refine x_aload_n C d_Evening_takeBack_80 1 rfl ?_
      refine x_getA (y := 4) C fg_Evening_28 k_38 rfl d_Evening_takeBack_81 ?_
      refine x_getR (y := 5) C fg_Evening_143 k_4 rfl d_Evening_takeBack_84 ?_
      show XJ _ _ _ _ _ _ _ _ _ _ _ _ _ _ _ _ _ _ _ (.ref (G.2.2.1 + 9) :: _) _
      refine x_iload C d_Evening_takeBack_87 5 rfl ?_
      obtain ⟨g18, h0⟩ := xgo h0
      refine x_iald C k_9 (ib_in g18) d_Evening_takeBack_89 ?_
      refine x_icmp_le C 97 d_Evening_takeBack_90 (by decide) (fun q19 => ?_) (fun q19 => ?_)
      · replace h0 := xit q19 h0
        exact x_lv C [1, 2, 3, 4, 5, 6] rfl (b_Evening_takeBack_97 C hr hk hd hR hp0 hrec14 h0)
      · replace h0 := xif q19 h0
        exact x_lv C [1, 2, 3, 4, 6] rfl (b_Evening_takeBack_93 C hr hk hd hR hp0 hrec14 h0)
def s_Evening_takeBack_56 (p0 : Nat) (p1 : Int32) (rec14 : Int32 → Int32 → Int32 → LH → Option (LH)) (y3 : Int32) (y4 : Int32) (y5 : Int32) (σ : LH) : Option (LH) :=
  s_Evening_takeBack_57 p0 p1 rec14 y3 y4 y5 0 σ
theorem b_Evening_takeBack_56 {G : XG} {l : Launch} {p : Program} {e : Env} {R : Room} {s : State} {m : MethodId} {args : Array Value} {below : List Frame} {meth : Method} {c : Code} (C : XC G 1 570 p s m args c prog_3_method_15_code 7 R_Evening) (hr : meth.sig.returnType = none) (hk : meth.locks = false) {d : Nat} (hd : 3 ≤ d + 1) (hR : xroom R (d + 1)) {p0 : Nat} {p1 : Int32} (hp0 : p0 ∈ xHalls) {rec14 : Int32 → Int32 → Int32 → LH → Option (LH)} {σ' : LH} (hrec14 : ∀ (y3 : Int32) (y4 : Int32) (y5 : Int32) (σ : LH), rec14 y3 y4 y5 σ = some σ' → XJ G 1 570 p l e R s m args below meth c 7 (XQ G 1 570 below args s none σ') 0 0 14 [(0, .ref (G.2.2.1 + 38)), (1, .ref (G.2.2.1 + p0)), (2, .int p1), (3, .int y3), (4, .int y4), (5, .int y5)] [] σ) {y3 : Int32} {y4 : Int32} {y5 : Int32} {σ : LH} (h0 : s_Evening_takeBack_56 p0 p1 rec14 y3 y4 y5 σ = some σ') : XJ G 1 570 p l e R s m args below meth c 7 (XQ G 1 570 below args s none σ') 0 0 56 [(0, .ref (G.2.2.1 + 38)), (1, .ref (G.2.2.1 + p0)), (2, .int p1), (3, .int y3), (4, .int y4), (5, .int y5)] [] σ := by
  replace h0 := (show _ = _ from h0)
  unfold s_Evening_takeBack_56 at h0
  refine x_iconst (v := 0) C d_Evening_takeBack_56 (by decide) ?_
  exact x_lv C [0, 1, 2, 3, 4, 5] rfl (b_Evening_takeBack_57 C hr hk hd hR hp0 hrec14 h0)
def s_Evening_takeBack_14_b (p0 : Nat) (p1 : Int32) (rec2 : Int32 → LH → Option (LH)) (rec14 : Int32 → Int32 → Int32 → LH → Option (LH)) (y3 : Int32) (y4 : Int32) (y5 : Int32) (σ : LH) : Option (LH) :=
  if (σ.1 4 1) ≤ y5 then (
   if y4 = (-1) then (
    some σ)
   else (
    xb2 (s_Evening_placeFor p0 p1 y4 σ) fun r5 σ6 =>
    xb1 (s_Hall_put p0 y4 r5 σ6) fun σ8 =>
    xl ((y3 + 1) : Int32) fun x9 =>
    rec2 x9 σ8))
  else (
   if ib y5 8 then (
   if (σ.1 (p0 + 1) (Int32.toNatClampNeg y5)) = (-2) then (
    if ib y5 8 then (
    if (σ.1 p0 7) < (σ.1 (p0 + 2) (Int32.toNatClampNeg y5)) then (
     s_Evening_takeBack_56 p0 p1 rec14 y3 y4 y5 σ)
    else (
     s_Evening_takeBack_57 p0 p1 rec14 y3 y4 y5 1 σ)) else none)
   else (
    s_Evening_takeBack_56 p0 p1 rec14 y3 y4 y5 σ)) else none)
def s_Evening_takeBack_14 (p0 : Nat) (p1 : Int32) (rec2 : Int32 → LH → Option (LH)) : Nat → Int32 → Int32 → Int32 → LH → Option (LH)
  | 0, _, _, _, _ => none
  | n + 1, y3, y4, y5, σ => s_Evening_takeBack_14_b p0 p1 rec2 (s_Evening_takeBack_14 p0 p1 rec2 n) y3 y4 y5 σ
theorem bb_Evening_takeBack_14 {G : XG} {l : Launch} {p : Program} {e : Env} {R : Room} {s : State} {m : MethodId} {args : Array Value} {below : List Frame} {meth : Method} {c : Code} (C : XC G 1 570 p s m args c prog_3_method_15_code 7 R_Evening) (hr : meth.sig.returnType = none) (hk : meth.locks = false) {d : Nat} (hd : 3 ≤ d + 1) (hR : xroom R (d + 1)) {p0 : Nat} {p1 : Int32} (hp0 : p0 ∈ xHalls) {rec2 : Int32 → LH → Option (LH)} {rec14 : Int32 → Int32 → Int32 → LH → Option (LH)} {σ' : LH} (hrec2 : ∀ (y3 : Int32) (σ : LH), rec2 y3 σ = some σ' → XJ G 1 570 p l e R s m args below meth c 7 (XQ G 1 570 below args s none σ') 0 0 2 [(0, .ref (G.2.2.1 + 38)), (1, .ref (G.2.2.1 + p0)), (2, .int p1), (3, .int y3)] [] σ) (hrec14 : ∀ (y3 : Int32) (y4 : Int32) (y5 : Int32) (σ : LH), rec14 y3 y4 y5 σ = some σ' → XJ G 1 570 p l e R s m args below meth c 7 (XQ G 1 570 below args s none σ') 0 0 14 [(0, .ref (G.2.2.1 + 38)), (1, .ref (G.2.2.1 + p0)), (2, .int p1), (3, .int y3), (4, .int y4), (5, .int y5)] [] σ) {y3 : Int32} {y4 : Int32} {y5 : Int32} {σ : LH} (h0 : s_Evening_takeBack_14_b p0 p1 rec2 rec14 y3 y4 y5 σ = some σ') : XJ G 1 570 p l e R s m args below meth c 7 (XQ G 1 570 below args s none σ') 0 0 14 [(0, .ref (G.2.2.1 + 38)), (1, .ref (G.2.2.1 + p0)), (2, .int p1), (3, .int y3), (4, .int y4), (5, .int y5)] [] σ := by
  replace h0 := (show _ = _ from h0)
  unfold s_Evening_takeBack_14_b at h0
  refine x_iload C d_Evening_takeBack_14 5 rfl ?_
  refine x_aload_n C d_Evening_takeBack_16 0 rfl ?_
  refine x_getA (y := 4) C fg_Evening_28 k_38 rfl d_Evening_takeBack_17 ?_
  refine x_getI (y := 0) C fg_Evening_40 k_4 rfl d_Evening_takeBack_20 ?_
  refine x_icmp_ge C 103 d_Evening_takeBack_23 (by decide) (fun q2 => ?_) (fun q2 => ?_)
  · replace h0 := xit q2 h0
    refine x_iload C d_Evening_takeBack_103 4 rfl ?_
    refine x_iconst (v := (-1)) C d_Evening_takeBack_105 (by decide) ?_
    refine x_icmp_ne C 110 d_Evening_takeBack_106 (by decide) (fun q3 => ?_) (fun q3 => ?_)
    · replace h0 := xif q3 h0
      refine x_aload_n C d_Evening_takeBack_110 1 rfl ?_
      refine x_iload C d_Evening_takeBack_111 4 rfl ?_
      refine x_aload_n C d_Evening_takeBack_113 0 rfl ?_
      refine x_aload_n C d_Evening_takeBack_114 1 rfl ?_
      refine x_iload_n C d_Evening_takeBack_115 2 rfl ?_
      refine x_iload C d_Evening_takeBack_116 4 rfl ?_
      obtain ⟨r5, σ6, k4, h0⟩ := xbind2 h0
      refine x_callVi C hR (c_Evening_placeFor (d := d) (by omega) hp0 k4) cw_Evening_146 k_38 rfl rfl rfl (Nat.le_of_ble_eq_true rfl) ⟨Nat.zero_le _, Nat.zero_le _⟩ d_Evening_takeBack_118 ?_
      obtain ⟨σ8, k7, h0⟩ := xbind1 h0
      refine x_callVv C hR (c_Hall_put (d := d) (by omega) hp0 k7) cw_Evening_150 (hl_0 hp0) rfl rfl rfl (Nat.le_of_ble_eq_true rfl) ⟨Nat.zero_le _, Nat.zero_le _⟩ d_Evening_takeBack_121 ?_
      obtain ⟨x9, ex9, h0⟩ := xlet h0
      refine x_iinc (lv' := [(3, .int x9), (0, .ref (G.2.2.1 + 38)), (1, .ref (G.2.2.1 + p0)), (2, .int p1), (4, .int y4), (5, .int y5)]) C d_Evening_takeBack_124 3 rfl ex9 (by decide) rfl ?_
      refine x_goto C 2 d_Evening_takeBack_127 (by decide) ?_
      exact x_lv C [1, 2, 3, 0] rfl (hrec2 _ _ h0)
    · replace h0 := xit q3 h0
      exact x_vret C hr hk h0 d_Evening_takeBack_109
  · replace h0 := xif q2 h0
    refine x_aload_n C d_Evening_takeBack_26 1 rfl ?_
    refine x_getR (y := 1) C fg_Evening_45 (hl_0 hp0) rfl d_Evening_takeBack_27 ?_
    refine x_iload C d_Evening_takeBack_30 5 rfl ?_
    obtain ⟨g10, h0⟩ := xgo h0
    refine x_iald C (hl_1 hp0) (ib_in g10) d_Evening_takeBack_32 ?_
    refine x_bipush (v := (-2)) C d_Evening_takeBack_33 (by decide) ?_
    refine x_icmp_ne C 56 d_Evening_takeBack_35 (by decide) (fun q11 => ?_) (fun q11 => ?_)
    · replace h0 := xif q11 h0
      exact x_lv C [0, 1, 2, 3, 4, 5] rfl (b_Evening_takeBack_56 C hr hk hd hR hp0 hrec14 h0)
    · replace h0 := xit q11 h0
      refine x_aload_n C d_Evening_takeBack_38 1 rfl ?_
      refine x_getR (y := 2) C fg_Evening_119 (hl_0 hp0) rfl d_Evening_takeBack_39 ?_
      refine x_iload C d_Evening_takeBack_42 5 rfl ?_
      obtain ⟨g12, h0⟩ := xgo h0
      refine x_iald C (hl_2 hp0) (ib_in g12) d_Evening_takeBack_44 ?_
      refine x_aload_n C d_Evening_takeBack_45 1 rfl ?_
      refine x_getI (y := 0) C fg_Evening_62 (hl_0 hp0) rfl d_Evening_takeBack_46 ?_
      refine x_icmp_gt C 56 d_Evening_takeBack_49 (by decide) (fun q13 => ?_) (fun q13 => ?_)
      · replace h0 := xit q13 h0
        exact x_lv C [0, 1, 2, 3, 4, 5] rfl (b_Evening_takeBack_56 C hr hk hd hR hp0 hrec14 h0)
      · replace h0 := xif q13 h0
        refine x_iconst (v := 1) C d_Evening_takeBack_52 (by decide) ?_
        refine x_goto C 57 d_Evening_takeBack_53 (by decide) ?_
        exact x_lv C [0, 1, 2, 3, 4, 5] rfl (b_Evening_takeBack_57 C hr hk hd hR hp0 hrec14 h0)
theorem b_Evening_takeBack_14 {G : XG} {l : Launch} {p : Program} {e : Env} {R : Room} {s : State} {m : MethodId} {args : Array Value} {below : List Frame} {meth : Method} {c : Code} (C : XC G 1 570 p s m args c prog_3_method_15_code 7 R_Evening) (hr : meth.sig.returnType = none) (hk : meth.locks = false) {d : Nat} (hd : 3 ≤ d + 1) (hR : xroom R (d + 1)) {p0 : Nat} {p1 : Int32} (hp0 : p0 ∈ xHalls) {rec2 : Int32 → LH → Option (LH)} {σ' : LH} (hrec2 : ∀ (y3 : Int32) (σ : LH), rec2 y3 σ = some σ' → XJ G 1 570 p l e R s m args below meth c 7 (XQ G 1 570 below args s none σ') 0 0 2 [(0, .ref (G.2.2.1 + 38)), (1, .ref (G.2.2.1 + p0)), (2, .int p1), (3, .int y3)] [] σ) : ∀ (n : Nat) (y3 : Int32) (y4 : Int32) (y5 : Int32) (σ : LH), s_Evening_takeBack_14 p0 p1 rec2 n y3 y4 y5 σ = some σ' → XJ G 1 570 p l e R s m args below meth c 7 (XQ G 1 570 below args s none σ') 0 0 14 [(0, .ref (G.2.2.1 + 38)), (1, .ref (G.2.2.1 + p0)), (2, .int p1), (3, .int y3), (4, .int y4), (5, .int y5)] [] σ := by
  intro n
  induction n with
  | zero => intro y3 y4 y5 σ h0; cases h0
  | succ n ih => intro y3 y4 y5 σ h0; exact bb_Evening_takeBack_14 C hr hk hd hR hp0 hrec2 ih h0
def s_Evening_takeBack_2_b (p0 : Nat) (p1 : Int32) (rec2 : Int32 → LH → Option (LH)) (y3 : Int32) (σ : LH) : Option (LH) :=
  if 8 ≤ y3 then (
   some σ)
  else (
   s_Evening_takeBack_14 p0 p1 rec2 FUEL y3 (-1) 0 σ)
def s_Evening_takeBack_2 (p0 : Nat) (p1 : Int32) : Nat → Int32 → LH → Option (LH)
  | 0, _, _ => none
  | n + 1, y3, σ => s_Evening_takeBack_2_b p0 p1 (s_Evening_takeBack_2 p0 p1 n) y3 σ
theorem bb_Evening_takeBack_2 {G : XG} {l : Launch} {p : Program} {e : Env} {R : Room} {s : State} {m : MethodId} {args : Array Value} {below : List Frame} {meth : Method} {c : Code} (C : XC G 1 570 p s m args c prog_3_method_15_code 7 R_Evening) (hr : meth.sig.returnType = none) (hk : meth.locks = false) {d : Nat} (hd : 3 ≤ d + 1) (hR : xroom R (d + 1)) {p0 : Nat} {p1 : Int32} (hp0 : p0 ∈ xHalls) {rec2 : Int32 → LH → Option (LH)} {σ' : LH} (hrec2 : ∀ (y3 : Int32) (σ : LH), rec2 y3 σ = some σ' → XJ G 1 570 p l e R s m args below meth c 7 (XQ G 1 570 below args s none σ') 0 0 2 [(0, .ref (G.2.2.1 + 38)), (1, .ref (G.2.2.1 + p0)), (2, .int p1), (3, .int y3)] [] σ) {y3 : Int32} {σ : LH} (h0 : s_Evening_takeBack_2_b p0 p1 rec2 y3 σ = some σ') : XJ G 1 570 p l e R s m args below meth c 7 (XQ G 1 570 below args s none σ') 0 0 2 [(0, .ref (G.2.2.1 + 38)), (1, .ref (G.2.2.1 + p0)), (2, .int p1), (3, .int y3)] [] σ := by
  replace h0 := (show _ = _ from h0)
  unfold s_Evening_takeBack_2_b at h0
  refine x_iload_n C d_Evening_takeBack_2 3 rfl ?_
  refine x_bipush (v := 8) C d_Evening_takeBack_3 (by decide) ?_
  refine x_icmp_ge C 130 d_Evening_takeBack_5 (by decide) (fun q1 => ?_) (fun q1 => ?_)
  · replace h0 := xit q1 h0
    exact x_vret C hr hk h0 d_Evening_takeBack_130
  · replace h0 := xif q1 h0
    refine x_iconst (v := (-1)) C d_Evening_takeBack_8 (by decide) ?_
    refine x_istore (lv' := [(4, .int (-1)), (0, .ref (G.2.2.1 + 38)), (1, .ref (G.2.2.1 + p0)), (2, .int p1), (3, .int y3)]) C d_Evening_takeBack_9 (by decide) rfl ?_
    refine x_iconst (v := 0) C d_Evening_takeBack_11 (by decide) ?_
    refine x_istore (lv' := [(5, .int 0), (4, .int (-1)), (0, .ref (G.2.2.1 + 38)), (1, .ref (G.2.2.1 + p0)), (2, .int p1), (3, .int y3)]) C d_Evening_takeBack_12 (by decide) rfl ?_
    exact x_lv C [2, 3, 4, 5, 1, 0] rfl (b_Evening_takeBack_14 C hr hk hd hR hp0 hrec2 FUEL _ _ _ _ h0)
theorem b_Evening_takeBack_2 {G : XG} {l : Launch} {p : Program} {e : Env} {R : Room} {s : State} {m : MethodId} {args : Array Value} {below : List Frame} {meth : Method} {c : Code} (C : XC G 1 570 p s m args c prog_3_method_15_code 7 R_Evening) (hr : meth.sig.returnType = none) (hk : meth.locks = false) {d : Nat} (hd : 3 ≤ d + 1) (hR : xroom R (d + 1)) {p0 : Nat} {p1 : Int32} (hp0 : p0 ∈ xHalls) {σ' : LH} : ∀ (n : Nat) (y3 : Int32) (σ : LH), s_Evening_takeBack_2 p0 p1 n y3 σ = some σ' → XJ G 1 570 p l e R s m args below meth c 7 (XQ G 1 570 below args s none σ') 0 0 2 [(0, .ref (G.2.2.1 + 38)), (1, .ref (G.2.2.1 + p0)), (2, .int p1), (3, .int y3)] [] σ := by
  intro n
  induction n with
  | zero => intro y3 σ h0; cases h0
  | succ n ih => intro y3 σ h0; exact bb_Evening_takeBack_2 C hr hk hd hR hp0 ih h0
def s_Evening_takeBack (p0 : Nat) (p1 : Int32) (σ : LH) : Option (LH) :=
  s_Evening_takeBack_2 p0 p1 FUEL 0 σ
theorem c_Evening_takeBack {G : XG} {l : Launch} {d : Nat} (hd : 3 ≤ d) {p0 : Nat} {p1 : Int32} (hp0 : p0 ∈ xHalls) {σ σ' : LH} (h0 : s_Evening_takeBack p0 p1 σ = some σ') : xM G 1 570 l y_Evening_takeBack prog_3_method_15_code 7 none d [.ref (G.2.2.1 + 38), .ref (G.2.2.1 + p0), .int p1] σ none σ' := by
  obtain ⟨d, rfl⟩ : ∃ q, d = q + 1 := ⟨d - 1, by omega⟩
  refine x_met R_Evening rfl (by decide +kernel) (Nat.le_of_ble_eq_true rfl) fun p e s m below meth c C hr hk hR => ?_
  refine x_lv (lv' := [(0, .ref (G.2.2.1 + 38)), (1, .ref (G.2.2.1 + p0)), (2, .int p1)]) C [0, 1, 2] rfl ?_
  generalize xrm (d + 1) = R at hR ⊢
  unfold s_Evening_takeBack at h0
  refine x_iconst (v := 0) C d_Evening_takeBack_0 (by decide) ?_
  refine x_istore_n (lv' := [(3, .int 0), (0, .ref (G.2.2.1 + 38)), (1, .ref (G.2.2.1 + p0)), (2, .int p1)]) C d_Evening_takeBack_1 rfl (by decide) rfl ?_
  exact x_lv C [1, 2, 3, 0] rfl (b_Evening_takeBack_2 C hr hk hd hR hp0 FUEL _ _ h0)
-- LostPlaces$Likings.mark(I)I
theorem d_Likings_mark_0 : decode prog_7_method_7_code 0 = .ok (.aload_n 0, 1) := by decide +kernel
theorem d_Likings_mark_1 : decode prog_7_method_7_code 1 = .ok (.getfield 34, 3) := by decide +kernel
theorem d_Likings_mark_4 : decode prog_7_method_7_code 4 = .ok (.sipush 128, 3) := by decide +kernel
theorem d_Likings_mark_7 : decode prog_7_method_7_code 7 = .ok (.imul, 1) := by decide +kernel
theorem d_Likings_mark_8 : decode prog_7_method_7_code 8 = .ok (.iload_n 1, 1) := by decide +kernel
theorem d_Likings_mark_9 : decode prog_7_method_7_code 9 = .ok (.iadd, 1) := by decide +kernel
theorem d_Likings_mark_10 : decode prog_7_method_7_code 10 = .ok (.ireturn, 1) := by decide +kernel
def s_Likings_mark (p0 : Int32) (σ : LH) : Option (Int32 × LH) :=
  some ((((σ.1 33 5) * 128) + p0), σ)
theorem c_Likings_mark {G : XG} {l : Launch} {d : Nat} (hd : 1 ≤ d) {p0 : Int32} {σ σ' : LH} {r : Int32} (h0 : s_Likings_mark p0 σ = some (r, σ')) : xM G 1 570 l y_Likings_mark prog_7_method_7_code 2 (some .int) d [.ref (G.2.2.1 + 33), .int p0] σ (some (.int r)) σ' := by
  obtain ⟨d, rfl⟩ : ∃ q, d = q + 1 := ⟨d - 1, by omega⟩
  refine x_met R_Likings rfl (by decide +kernel) (Nat.le_of_ble_eq_true rfl) fun p e s m below meth c C hr hk hR => ?_
  refine x_lv (lv' := [(0, .ref (G.2.2.1 + 33)), (1, .int p0)]) C [0, 1] rfl ?_
  generalize xrm (d + 1) = R at hR ⊢
  unfold s_Likings_mark at h0
  refine x_aload_n C d_Likings_mark_0 0 rfl ?_
  refine x_getI (y := 0) C fg_Likings_34 k_33 rfl d_Likings_mark_1 ?_
  refine x_sipush (v := 128) C d_Likings_mark_4 (by decide) ?_
  refine x_imul C d_Likings_mark_7 ?_
  refine x_iload_n C d_Likings_mark_8 1 rfl ?_
  refine x_iadd C d_Likings_mark_9 ?_
  exact x_iret C hr hk h0 d_Likings_mark_10
-- LostPlaces$Evening.wayTo(II)I
theorem d_Evening_wayTo_0 : decode prog_3_method_19_code 0 = .ok (.iload_n 2, 1) := by decide +kernel
theorem d_Evening_wayTo_1 : decode prog_3_method_19_code 1 = .ok (.ifCond .lt 9, 3) := by decide +kernel
theorem d_Evening_wayTo_4 : decode prog_3_method_19_code 4 = .ok (.iload_n 2, 1) := by decide +kernel
theorem d_Evening_wayTo_5 : decode prog_3_method_19_code 5 = .ok (.bipush 8, 2) := by decide +kernel
theorem d_Evening_wayTo_7 : decode prog_3_method_19_code 7 = .ok (.if_icmp .lt 6, 3) := by decide +kernel
theorem d_Evening_wayTo_10 : decode prog_3_method_19_code 10 = .ok (.bipush 99, 2) := by decide +kernel
theorem d_Evening_wayTo_12 : decode prog_3_method_19_code 12 = .ok (.ireturn, 1) := by decide +kernel
theorem d_Evening_wayTo_13 : decode prog_3_method_19_code 13 = .ok (.aload_n 0, 1) := by decide +kernel
theorem d_Evening_wayTo_14 : decode prog_3_method_19_code 14 = .ok (.getfield 28, 3) := by decide +kernel
theorem d_Evening_wayTo_17 : decode prog_3_method_19_code 17 = .ok (.getfield 176, 3) := by decide +kernel
theorem d_Evening_wayTo_20 : decode prog_3_method_19_code 20 = .ok (.iload_n 1, 1) := by decide +kernel
theorem d_Evening_wayTo_21 : decode prog_3_method_19_code 21 = .ok (.iaload, 1) := by decide +kernel
theorem d_Evening_wayTo_22 : decode prog_3_method_19_code 22 = .ok (.aload_n 0, 1) := by decide +kernel
theorem d_Evening_wayTo_23 : decode prog_3_method_19_code 23 = .ok (.getfield 28, 3) := by decide +kernel
theorem d_Evening_wayTo_26 : decode prog_3_method_19_code 26 = .ok (.getfield 176, 3) := by decide +kernel
theorem d_Evening_wayTo_29 : decode prog_3_method_19_code 29 = .ok (.iload_n 2, 1) := by decide +kernel
theorem d_Evening_wayTo_30 : decode prog_3_method_19_code 30 = .ok (.iaload, 1) := by decide +kernel
theorem d_Evening_wayTo_31 : decode prog_3_method_19_code 31 = .ok (.isub, 1) := by decide +kernel
theorem d_Evening_wayTo_32 : decode prog_3_method_19_code 32 = .ok (.istore_n 3, 1) := by decide +kernel
theorem d_Evening_wayTo_33 : decode prog_3_method_19_code 33 = .ok (.iload_n 3, 1) := by decide +kernel
theorem d_Evening_wayTo_34 : decode prog_3_method_19_code 34 = .ok (.ifCond .ge 8, 3) := by decide +kernel
theorem d_Evening_wayTo_37 : decode prog_3_method_19_code 37 = .ok (.iload_n 3, 1) := by decide +kernel
theorem d_Evening_wayTo_38 : decode prog_3_method_19_code 38 = .ok (.ineg, 1) := by decide +kernel
theorem d_Evening_wayTo_39 : decode prog_3_method_19_code 39 = .ok (.goto 4, 3) := by decide +kernel
theorem d_Evening_wayTo_42 : decode prog_3_method_19_code 42 = .ok (.iload_n 3, 1) := by decide +kernel
theorem d_Evening_wayTo_43 : decode prog_3_method_19_code 43 = .ok (.ireturn, 1) := by decide +kernel
def s_Evening_wayTo_10 (p0 : Int32) (p1 : Int32) (σ : LH) : Option (Int32 × LH) :=
  some (99, σ)
theorem b_Evening_wayTo_10 {G : XG} {l : Launch} {p : Program} {e : Env} {R : Room} {s : State} {m : MethodId} {args : Array Value} {below : List Frame} {meth : Method} {c : Code} (C : XC G 1 570 p s m args c prog_3_method_19_code 4 R_Evening) (hr : meth.sig.returnType = (some .int)) (hk : meth.locks = false) {d : Nat} (hd : 1 ≤ d + 1) (hR : xroom R (d + 1)) {p0 : Int32} {p1 : Int32} {σ' : LH} {r : Int32} {σ : LH} (h0 : s_Evening_wayTo_10 p0 p1 σ = some (r, σ')) : XJ G 1 570 p l e R s m args below meth c 4 (XQ G 1 570 below args s (some (.int r)) σ') 0 0 10 [] [] σ := by
  replace h0 := (show _ = _ from h0)
  unfold s_Evening_wayTo_10 at h0
  refine x_bipush (v := 99) C d_Evening_wayTo_10 (by decide) ?_
  exact x_iret C hr hk h0 d_Evening_wayTo_12
def s_Evening_wayTo_43 (p0 : Int32) (p1 : Int32) (z0 : Int32) (σ : LH) : Option (Int32 × LH) :=
  some (z0, σ)
theorem b_Evening_wayTo_43 {G : XG} {l : Launch} {p : Program} {e : Env} {R : Room} {s : State} {m : MethodId} {args : Array Value} {below : List Frame} {meth : Method} {c : Code} (C : XC G 1 570 p s m args c prog_3_method_19_code 4 R_Evening) (hr : meth.sig.returnType = (some .int)) (hk : meth.locks = false) {d : Nat} (hd : 1 ≤ d + 1) (hR : xroom R (d + 1)) {p0 : Int32} {p1 : Int32} {σ' : LH} {r : Int32} {z0 : Int32} {σ : LH} (h0 : s_Evening_wayTo_43 p0 p1 z0 σ = some (r, σ')) : XJ G 1 570 p l e R s m args below meth c 4 (XQ G 1 570 below args s (some (.int r)) σ') 0 0 43 [] [.int z0] σ := by
  replace h0 := (show _ = _ from h0)
  unfold s_Evening_wayTo_43 at h0
  exact x_iret C hr hk h0 d_Evening_wayTo_43
def s_Evening_wayTo (p0 : Int32) (p1 : Int32) (σ : LH) : Option (Int32 × LH) :=
  if p1 < 0 then (
   s_Evening_wayTo_10 p0 p1 σ)
  else (
   if p1 < 8 then (
    if ib p0 8 then (
    if ib p1 8 then (
    xl ((((σ.1 7 (Int32.toNatClampNeg p0)) - (σ.1 7 (Int32.toNatClampNeg p1)))) : Int32) fun x5 =>
    if 0 ≤ x5 then (
     s_Evening_wayTo_43 p0 p1 x5 σ)
    else (
     s_Evening_wayTo_43 p0 p1 (-x5) σ)) else none) else none)
   else (
    s_Evening_wayTo_10 p0 p1 σ))
theorem c_Evening_wayTo {G : XG} {l : Launch} {d : Nat} (hd : 1 ≤ d) {p0 : Int32} {p1 : Int32} {σ σ' : LH} {r : Int32} (h0 : s_Evening_wayTo p0 p1 σ = some (r, σ')) : xM G 1 570 l y_Evening_wayTo prog_3_method_19_code 4 (some .int) d [.ref (G.2.2.1 + 38), .int p0, .int p1] σ (some (.int r)) σ' := by
  obtain ⟨d, rfl⟩ : ∃ q, d = q + 1 := ⟨d - 1, by omega⟩
  refine x_met R_Evening rfl (by decide +kernel) (Nat.le_of_ble_eq_true rfl) fun p e s m below meth c C hr hk hR => ?_
  refine x_lv (lv' := [(0, .ref (G.2.2.1 + 38)), (1, .int p0), (2, .int p1)]) C [0, 1, 2] rfl ?_
  generalize xrm (d + 1) = R at hR ⊢
  unfold s_Evening_wayTo at h0
  refine x_iload_n C d_Evening_wayTo_0 2 rfl ?_
  refine x_if_lt C 10 d_Evening_wayTo_1 (by decide) (fun q1 => ?_) (fun q1 => ?_)
  · replace h0 := xit q1 h0
    exact x_lv C [] rfl (b_Evening_wayTo_10 C hr hk hd hR h0)
  · replace h0 := xif q1 h0
    refine x_iload_n C d_Evening_wayTo_4 2 rfl ?_
    refine x_bipush (v := 8) C d_Evening_wayTo_5 (by decide) ?_
    refine x_icmp_lt C 13 d_Evening_wayTo_7 (by decide) (fun q2 => ?_) (fun q2 => ?_)
    · replace h0 := xit q2 h0
      refine x_aload_n C d_Evening_wayTo_13 0 rfl ?_
      refine x_getA (y := 4) C fg_Evening_28 k_38 rfl d_Evening_wayTo_14 ?_
      refine x_getR (y := 3) C fg_Evening_176 k_4 rfl d_Evening_wayTo_17 ?_
      show XJ _ _ _ _ _ _ _ _ _ _ _ _ _ _ _ _ _ _ _ (.ref (G.2.2.1 + 7) :: _) _
      refine x_iload_n C d_Evening_wayTo_20 1 rfl ?_
      obtain ⟨g3, h0⟩ := xgo h0
      refine x_iald C k_7 (ib_in g3) d_Evening_wayTo_21 ?_
      refine x_aload_n C d_Evening_wayTo_22 0 rfl ?_
      refine x_getA (y := 4) C fg_Evening_28 k_38 rfl d_Evening_wayTo_23 ?_
      refine x_getR (y := 3) C fg_Evening_176 k_4 rfl d_Evening_wayTo_26 ?_
      show XJ _ _ _ _ _ _ _ _ _ _ _ _ _ _ _ _ _ _ _ (.ref (G.2.2.1 + 7) :: _) _
      refine x_iload_n C d_Evening_wayTo_29 2 rfl ?_
      obtain ⟨g4, h0⟩ := xgo h0
      refine x_iald C k_7 (ib_in g4) d_Evening_wayTo_30 ?_
      refine x_isub C d_Evening_wayTo_31 ?_
      obtain ⟨x5, ex5, h0⟩ := xlet h0
      refine x_name C ex5 ?_
      refine x_istore_n (lv' := [(3, .int x5), (0, .ref (G.2.2.1 + 38)), (1, .int p0), (2, .int p1)]) C d_Evening_wayTo_32 rfl (by decide) rfl ?_
      refine x_iload_n C d_Evening_wayTo_33 0 rfl ?_
      refine x_if_ge C 42 d_Evening_wayTo_34 (by decide) (fun q6 => ?_) (fun q6 => ?_)
      · replace h0 := xit q6 h0
        refine x_iload_n C d_Evening_wayTo_42 0 rfl ?_
        exact x_lv C [] rfl (b_Evening_wayTo_43 C hr hk hd hR h0)
      · replace h0 := xif q6 h0
        refine x_iload_n C d_Evening_wayTo_37 0 rfl ?_
        refine x_ineg C d_Evening_wayTo_38 ?_
        refine x_goto C 43 d_Evening_wayTo_39 (by decide) ?_
        exact x_lv C [] rfl (b_Evening_wayTo_43 C hr hk hd hR h0)
    · replace h0 := xif q2 h0
      exact x_lv C [] rfl (b_Evening_wayTo_10 C hr hk hd hR h0)
-- LostPlaces$Evening.takerOf(LLostPlaces$Hall;II)I
theorem d_Evening_takerOf_0 : decode prog_3_method_18_code 0 = .ok (.iconst (-1), 1) := by decide +kernel
theorem d_Evening_takerOf_1 : decode prog_3_method_18_code 1 = .ok (.istore 4, 2) := by decide +kernel
theorem d_Evening_takerOf_3 : decode prog_3_method_18_code 3 = .ok (.iconst 0, 1) := by decide +kernel
theorem d_Evening_takerOf_4 : decode prog_3_method_18_code 4 = .ok (.istore 5, 2) := by decide +kernel
theorem d_Evening_takerOf_6 : decode prog_3_method_18_code 6 = .ok (.iconst 0, 1) := by decide +kernel
theorem d_Evening_takerOf_7 : decode prog_3_method_18_code 7 = .ok (.istore 6, 2) := by decide +kernel
theorem d_Evening_takerOf_9 : decode prog_3_method_18_code 9 = .ok (.iload 6, 2) := by decide +kernel
theorem d_Evening_takerOf_11 : decode prog_3_method_18_code 11 = .ok (.aload_n 0, 1) := by decide +kernel
theorem d_Evening_takerOf_12 : decode prog_3_method_18_code 12 = .ok (.getfield 28, 3) := by decide +kernel
theorem d_Evening_takerOf_15 : decode prog_3_method_18_code 15 = .ok (.getfield 40, 3) := by decide +kernel
theorem d_Evening_takerOf_18 : decode prog_3_method_18_code 18 = .ok (.if_icmp .ge 159, 3) := by decide +kernel
theorem d_Evening_takerOf_21 : decode prog_3_method_18_code 21 = .ok (.aload_n 1, 1) := by decide +kernel
theorem d_Evening_takerOf_22 : decode prog_3_method_18_code 22 = .ok (.getfield 45, 3) := by decide +kernel
theorem d_Evening_takerOf_25 : decode prog_3_method_18_code 25 = .ok (.iload 6, 2) := by decide +kernel
theorem d_Evening_takerOf_27 : decode prog_3_method_18_code 27 = .ok (.iaload, 1) := by decide +kernel
theorem d_Evening_takerOf_28 : decode prog_3_method_18_code 28 = .ok (.istore 7, 2) := by decide +kernel
theorem d_Evening_takerOf_30 : decode prog_3_method_18_code 30 = .ok (.iload 7, 2) := by decide +kernel
theorem d_Evening_takerOf_32 : decode prog_3_method_18_code 32 = .ok (.bipush (-2), 2) := by decide +kernel
theorem d_Evening_takerOf_34 : decode prog_3_method_18_code 34 = .ok (.if_icmp .ne 6, 3) := by decide +kernel
theorem d_Evening_takerOf_37 : decode prog_3_method_18_code 37 = .ok (.goto 134, 3) := by decide +kernel
theorem d_Evening_takerOf_40 : decode prog_3_method_18_code 40 = .ok (.aload_n 0, 1) := by decide +kernel
theorem d_Evening_takerOf_41 : decode prog_3_method_18_code 41 = .ok (.getfield 32, 3) := by decide +kernel
theorem d_Evening_takerOf_44 : decode prog_3_method_18_code 44 = .ok (.iload_n 2, 1) := by decide +kernel
theorem d_Evening_takerOf_45 : decode prog_3_method_18_code 45 = .ok (.iload 6, 2) := by decide +kernel
theorem d_Evening_takerOf_47 : decode prog_3_method_18_code 47 = .ok (.iload_n 3, 1) := by decide +kernel
theorem d_Evening_takerOf_48 : decode prog_3_method_18_code 48 = .ok (.invokevirtual 97, 3) := by decide +kernel
theorem d_Evening_takerOf_51 : decode prog_3_method_18_code 51 = .ok (.aload_n 0, 1) := by decide +kernel
theorem d_Evening_takerOf_52 : decode prog_3_method_18_code 52 = .ok (.getfield 32, 3) := by decide +kernel
theorem d_Evening_takerOf_55 : decode prog_3_method_18_code 55 = .ok (.iload_n 2, 1) := by decide +kernel
theorem d_Evening_takerOf_56 : decode prog_3_method_18_code 56 = .ok (.iload 6, 2) := by decide +kernel
theorem d_Evening_takerOf_58 : decode prog_3_method_18_code 58 = .ok (.iload 7, 2) := by decide +kernel
theorem d_Evening_takerOf_60 : decode prog_3_method_18_code 60 = .ok (.invokevirtual 97, 3) := by decide +kernel
theorem d_Evening_takerOf_63 : decode prog_3_method_18_code 63 = .ok (.isub, 1) := by decide +kernel
theorem d_Evening_takerOf_64 : decode prog_3_method_18_code 64 = .ok (.aload_n 0, 1) := by decide +kernel
theorem d_Evening_takerOf_65 : decode prog_3_method_18_code 65 = .ok (.getfield 28, 3) := by decide +kernel
theorem d_Evening_takerOf_68 : decode prog_3_method_18_code 68 = .ok (.getfield 169, 3) := by decide +kernel
theorem d_Evening_takerOf_71 : decode prog_3_method_18_code 71 = .ok (.iload 6, 2) := by decide +kernel
theorem d_Evening_takerOf_73 : decode prog_3_method_18_code 73 = .ok (.iaload, 1) := by decide +kernel
theorem d_Evening_takerOf_74 : decode prog_3_method_18_code 74 = .ok (.if_icmp .ge 6, 3) := by decide +kernel
theorem d_Evening_takerOf_77 : decode prog_3_method_18_code 77 = .ok (.goto 94, 3) := by decide +kernel
theorem d_Evening_takerOf_80 : decode prog_3_method_18_code 80 = .ok (.aload_n 0, 1) := by decide +kernel
theorem d_Evening_takerOf_81 : decode prog_3_method_18_code 81 = .ok (.iload_n 3, 1) := by decide +kernel
theorem d_Evening_takerOf_82 : decode prog_3_method_18_code 82 = .ok (.iload 7, 2) := by decide +kernel
theorem d_Evening_takerOf_84 : decode prog_3_method_18_code 84 = .ok (.invokevirtual 172, 3) := by decide +kernel
theorem d_Evening_takerOf_87 : decode prog_3_method_18_code 87 = .ok (.istore 8, 2) := by decide +kernel
theorem d_Evening_takerOf_89 : decode prog_3_method_18_code 89 = .ok (.iload 4, 2) := by decide +kernel
theorem d_Evening_takerOf_91 : decode prog_3_method_18_code 91 = .ok (.iconst (-1), 1) := by decide +kernel
theorem d_Evening_takerOf_92 : decode prog_3_method_18_code 92 = .ok (.if_icmp .eq 56, 3) := by decide +kernel
theorem d_Evening_takerOf_95 : decode prog_3_method_18_code 95 = .ok (.aload_n 0, 1) := by decide +kernel
theorem d_Evening_takerOf_96 : decode prog_3_method_18_code 96 = .ok (.getfield 28, 3) := by decide +kernel
theorem d_Evening_takerOf_99 : decode prog_3_method_18_code 99 = .ok (.getfield 143, 3) := by decide +kernel
theorem d_Evening_takerOf_102 : decode prog_3_method_18_code 102 = .ok (.iload 6, 2) := by decide +kernel
theorem d_Evening_takerOf_104 : decode prog_3_method_18_code 104 = .ok (.iaload, 1) := by decide +kernel
theorem d_Evening_takerOf_105 : decode prog_3_method_18_code 105 = .ok (.aload_n 0, 1) := by decide +kernel
theorem d_Evening_takerOf_106 : decode prog_3_method_18_code 106 = .ok (.getfield 28, 3) := by decide +kernel
theorem d_Evening_takerOf_109 : decode prog_3_method_18_code 109 = .ok (.getfield 143, 3) := by decide +kernel
theorem d_Evening_takerOf_112 : decode prog_3_method_18_code 112 = .ok (.iload 4, 2) := by decide +kernel
theorem d_Evening_takerOf_114 : decode prog_3_method_18_code 114 = .ok (.iaload, 1) := by decide +kernel
theorem d_Evening_takerOf_115 : decode prog_3_method_18_code 115 = .ok (.if_icmp .gt 33, 3) := by decide +kernel
theorem d_Evening_takerOf_118 : decode prog_3_method_18_code 118 = .ok (.aload_n 0, 1) := by decide +kernel
theorem d_Evening_takerOf_119 : decode prog_3_method_18_code 119 = .ok (.getfield 28, 3) := by decide +kernel
theorem d_Evening_takerOf_122 : decode prog_3_method_18_code 122 = .ok (.getfield 143, 3) := by decide +kernel
theorem d_Evening_takerOf_125 : decode prog_3_method_18_code 125 = .ok (.iload 6, 2) := by decide +kernel
theorem d_Evening_takerOf_127 : decode prog_3_method_18_code 127 = .ok (.iaload, 1) := by decide +kernel
theorem d_Evening_takerOf_128 : decode prog_3_method_18_code 128 = .ok (.aload_n 0, 1) := by decide +kernel
theorem d_Evening_takerOf_129 : decode prog_3_method_18_code 129 = .ok (.getfield 28, 3) := by decide +kernel
theorem d_Evening_takerOf_132 : decode prog_3_method_18_code 132 = .ok (.getfield 143, 3) := by decide +kernel
theorem d_Evening_takerOf_135 : decode prog_3_method_18_code 135 = .ok (.iload 4, 2) := by decide +kernel
theorem d_Evening_takerOf_137 : decode prog_3_method_18_code 137 = .ok (.iaload, 1) := by decide +kernel
theorem d_Evening_takerOf_138 : decode prog_3_method_18_code 138 = .ok (.if_icmp .ne 14, 3) := by decide +kernel
theorem d_Evening_takerOf_141 : decode prog_3_method_18_code 141 = .ok (.iload 8, 2) := by decide +kernel
theorem d_Evening_takerOf_143 : decode prog_3_method_18_code 143 = .ok (.iload 5, 2) := by decide +kernel
theorem d_Evening_takerOf_145 : decode prog_3_method_18_code 145 = .ok (.if_icmp .ge 7, 3) := by decide +kernel
theorem d_Evening_takerOf_148 : decode prog_3_method_18_code 148 = .ok (.iconst 1, 1) := by decide +kernel
theorem d_Evening_takerOf_149 : decode prog_3_method_18_code 149 = .ok (.goto 4, 3) := by decide +kernel
theorem d_Evening_takerOf_152 : decode prog_3_method_18_code 152 = .ok (.iconst 0, 1) := by decide +kernel
theorem d_Evening_takerOf_153 : decode prog_3_method_18_code 153 = .ok (.istore 9, 2) := by decide +kernel
theorem d_Evening_takerOf_155 : decode prog_3_method_18_code 155 = .ok (.iload 9, 2) := by decide +kernel
theorem d_Evening_takerOf_157 : decode prog_3_method_18_code 157 = .ok (.ifCond .ne 6, 3) := by decide +kernel
theorem d_Evening_takerOf_160 : decode prog_3_method_18_code 160 = .ok (.goto 11, 3) := by decide +kernel
theorem d_Evening_takerOf_163 : decode prog_3_method_18_code 163 = .ok (.iload 6, 2) := by decide +kernel
theorem d_Evening_takerOf_165 : decode prog_3_method_18_code 165 = .ok (.istore 4, 2) := by decide +kernel
theorem d_Evening_takerOf_167 : decode prog_3_method_18_code 167 = .ok (.iload 8, 2) := by decide +kernel
theorem d_Evening_takerOf_169 : decode prog_3_method_18_code 169 = .ok (.istore 5, 2) := by decide +kernel
theorem d_Evening_takerOf_171 : decode prog_3_method_18_code 171 = .ok (.iinc 6 1, 3) := by decide +kernel
theorem d_Evening_takerOf_174 : decode prog_3_method_18_code 174 = .ok (.goto (-165), 3) := by decide +kernel
theorem d_Evening_takerOf_177 : decode prog_3_method_18_code 177 = .ok (.iload 4, 2) := by decide +kernel
theorem d_Evening_takerOf_179 : decode prog_3_method_18_code 179 = .ok (.ireturn, 1) := by decide +kernel
def s_Evening_takerOf_171 (p0 : Nat) (p1 : Int32) (p2 : Int32) (rec9 : Int32 → Int32 → Int32 → LH → Option (Int32 × LH)) (y4 : Int32) (y5 : Int32) (y6 : Int32) (σ : LH) : Option (Int32 × LH) :=
  xl ((y6 + 1) : Int32) fun x5 =>
  rec9 y4 y5 x5 σ
theorem b_Evening_takerOf_171 {G : XG} {l : Launch} {p : Program} {e : Env} {R : Room} {s : State} {m : MethodId} {args : Array Value} {below : List Frame} {meth : Method} {c : Code} (C : XC G 1 570 p s m args c prog_3_method_18_code 10 R_Evening) (hr : meth.sig.returnType = (some .int)) (hk : meth.locks = false) {d : Nat} (hd : 2 ≤ d + 1) (hR : xroom R (d + 1)) {p0 : Nat} {p1 : Int32} {p2 : Int32} (hp0 : p0 ∈ xHalls) {rec9 : Int32 → Int32 → Int32 → LH → Option (Int32 × LH)} {σ' : LH} {r : Int32} (hrec9 : ∀ (y4 : Int32) (y5 : Int32) (y6 : Int32) (σ : LH), rec9 y4 y5 y6 σ = some (r, σ') → XJ G 1 570 p l e R s m args below meth c 10 (XQ G 1 570 below args s (some (.int r)) σ') 0 0 9 [(0, .ref (G.2.2.1 + 38)), (1, .ref (G.2.2.1 + p0)), (2, .int p1), (3, .int p2), (4, .int y4), (5, .int y5), (6, .int y6)] [] σ) {y4 : Int32} {y5 : Int32} {y6 : Int32} {σ : LH} (h0 : s_Evening_takerOf_171 p0 p1 p2 rec9 y4 y5 y6 σ = some (r, σ')) : XJ G 1 570 p l e R s m args below meth c 10 (XQ G 1 570 below args s (some (.int r)) σ') 0 0 171 [(0, .ref (G.2.2.1 + 38)), (1, .ref (G.2.2.1 + p0)), (2, .int p1), (3, .int p2), (4, .int y4), (5, .int y5), (6, .int y6)] [] σ := by
  replace h0 := (show _ = _ from h0)
  unfold s_Evening_takerOf_171 at h0
  obtain ⟨x5, ex5, h0⟩ := xlet h0
  refine x_iinc (lv' := [(6, .int x5), (0, .ref (G.2.2.1 + 38)), (1, .ref (G.2.2.1 + p0)), (2, .int p1), (3, .int p2), (4, .int y4), (5, .int y5)]) C d_Evening_takerOf_171 6 rfl ex5 (by decide) rfl ?_
  refine x_goto C 9 d_Evening_takerOf_174 (by decide) ?_
  exact x_lv C [1, 2, 3, 4, 5, 6, 0] rfl (hrec9 _ _ _ _ h0)
def s_Evening_takerOf_153 (p0 : Nat) (p1 : Int32) (p2 : Int32) (rec9 : Int32 → Int32 → Int32 → LH → Option (Int32 × LH)) (y4 : Int32) (y5 : Int32) (y6 : Int32) (y8 : Int32) (z0 : Int32) (σ : LH) : Option (Int32 × LH) :=
  if z0 = 0 then (
   s_Evening_takerOf_171 p0 p1 p2 rec9 y4 y5 y6 σ)
  else (
   s_Evening_takerOf_171 p0 p1 p2 rec9 y6 y8 y6 σ)
theorem b_Evening_takerOf_153 {G : XG} {l : Launch} {p : Program} {e : Env} {R : Room} {s : State} {m : MethodId} {args : Array Value} {below : List Frame} {meth : Method} {c : Code} (C : XC G 1 570 p s m args c prog_3_method_18_code 10 R_Evening) (hr : meth.sig.returnType = (some .int)) (hk : meth.locks = false) {d : Nat} (hd : 2 ≤ d + 1) (hR : xroom R (d + 1)) {p0 : Nat} {p1 : Int32} {p2 : Int32} (hp0 : p0 ∈ xHalls) {rec9 : Int32 → Int32 → Int32 → LH → Option (Int32 × LH)} {σ' : LH} {r : Int32} (hrec9 : ∀ (y4 : Int32) (y5 : Int32) (y6 : Int32) (σ : LH), rec9 y4 y5 y6 σ = some (r, σ') → XJ G 1 570 p l e R s m args below meth c 10 (XQ G 1 570 below args s (some (.int r)) σ') 0 0 9 [(0, .ref (G.2.2.1 + 38)), (1, .ref (G.2.2.1 + p0)), (2, .int p1), (3, .int p2), (4, .int y4), (5, .int y5), (6, .int y6)] [] σ) {y4 : Int32} {y5 : Int32} {y6 : Int32} {y8 : Int32} {z0 : Int32} {σ : LH} (h0 : s_Evening_takerOf_153 p0 p1 p2 rec9 y4 y5 y6 y8 z0 σ = some (r, σ')) : XJ G 1 570 p l e R s m args below meth c 10 (XQ G 1 570 below args s (some (.int r)) σ') 0 0 153 [(0, .ref (G.2.2.1 + 38)), (1, .ref (G.2.2.1 + p0)), (2, .int p1), (3, .int p2), (4, .int y4), (5, .int y5), (6, .int y6), (8, .int y8)] [.int z0] σ := by
  replace h0 := (show _ = _ from h0)
  unfold s_Evening_takerOf_153 at h0
  refine x_istore (lv' := [(9, .int z0), (0, .ref (G.2.2.1 + 38)), (1, .ref (G.2.2.1 + p0)), (2, .int p1), (3, .int p2), (4, .int y4), (5, .int y5), (6, .int y6), (8, .int y8)]) C d_Evening_takerOf_153 (by decide) rfl ?_
  refine x_iload C d_Evening_takerOf_155 0 rfl ?_
  refine x_if_ne C 163 d_Evening_takerOf_157 (by decide) (fun q18 => ?_) (fun q18 => ?_)
  · replace h0 := xif q18 h0
    refine x_iload C d_Evening_takerOf_163 7 rfl ?_
    refine x_istore (lv' := [(4, .int y6), (9, .int z0), (0, .ref (G.2.2.1 + 38)), (1, .ref (G.2.2.1 + p0)), (2, .int p1), (3, .int p2), (5, .int y5), (6, .int y6), (8, .int y8)]) C d_Evening_takerOf_165 (by decide) rfl ?_
    refine x_iload C d_Evening_takerOf_167 8 rfl ?_
    refine x_istore (lv' := [(5, .int y8), (4, .int y6), (9, .int z0), (0, .ref (G.2.2.1 + 38)), (1, .ref (G.2.2.1 + p0)), (2, .int p1), (3, .int p2), (6, .int y6), (8, .int y8)]) C d_Evening_takerOf_169 (by decide) rfl ?_
    exact x_lv C [3, 4, 5, 6, 1, 0, 7] rfl (b_Evening_takerOf_171 C hr hk hd hR hp0 hrec9 h0)
  · replace h0 := xit q18 h0
    refine x_goto C 171 d_Evening_takerOf_160 (by decide) ?_
    exact x_lv C [1, 2, 3, 4, 5, 6, 7] rfl (b_Evening_takerOf_171 C hr hk hd hR hp0 hrec9 h0)
def s_Evening_takerOf_148 (p0 : Nat) (p1 : Int32) (p2 : Int32) (rec9 : Int32 → Int32 → Int32 → LH → Option (Int32 × LH)) (y4 : Int32) (y5 : Int32) (y6 : Int32) (y8 : Int32) (σ : LH) : Option (Int32 × LH) :=
  s_Evening_takerOf_153 p0 p1 p2 rec9 y4 y5 y6 y8 1 σ
theorem b_Evening_takerOf_148 {G : XG} {l : Launch} {p : Program} {e : Env} {R : Room} {s : State} {m : MethodId} {args : Array Value} {below : List Frame} {meth : Method} {c : Code} (C : XC G 1 570 p s m args c prog_3_method_18_code 10 R_Evening) (hr : meth.sig.returnType = (some .int)) (hk : meth.locks = false) {d : Nat} (hd : 2 ≤ d + 1) (hR : xroom R (d + 1)) {p0 : Nat} {p1 : Int32} {p2 : Int32} (hp0 : p0 ∈ xHalls) {rec9 : Int32 → Int32 → Int32 → LH → Option (Int32 × LH)} {σ' : LH} {r : Int32} (hrec9 : ∀ (y4 : Int32) (y5 : Int32) (y6 : Int32) (σ : LH), rec9 y4 y5 y6 σ = some (r, σ') → XJ G 1 570 p l e R s m args below meth c 10 (XQ G 1 570 below args s (some (.int r)) σ') 0 0 9 [(0, .ref (G.2.2.1 + 38)), (1, .ref (G.2.2.1 + p0)), (2, .int p1), (3, .int p2), (4, .int y4), (5, .int y5), (6, .int y6)] [] σ) {y4 : Int32} {y5 : Int32} {y6 : Int32} {y8 : Int32} {σ : LH} (h0 : s_Evening_takerOf_148 p0 p1 p2 rec9 y4 y5 y6 y8 σ = some (r, σ')) : XJ G 1 570 p l e R s m args below meth c 10 (XQ G 1 570 below args s (some (.int r)) σ') 0 0 148 [(0, .ref (G.2.2.1 + 38)), (1, .ref (G.2.2.1 + p0)), (2, .int p1), (3, .int p2), (4, .int y4), (5, .int y5), (6, .int y6), (8, .int y8)] [] σ := by
  replace h0 := (show _ = _ from h0)
  unfold s_Evening_takerOf_148 at h0
  refine x_iconst (v := 1) C d_Evening_takerOf_148 (by decide) ?_
  refine x_goto C 153 d_Evening_takerOf_149 (by decide) ?_
  exact x_lv C [0, 1, 2, 3, 4, 5, 6, 7] rfl (b_Evening_takerOf_153 C hr hk hd hR hp0 hrec9 h0)
def s_Evening_takerOf_152 (p0 : Nat) (p1 : Int32) (p2 : Int32) (rec9 : Int32 → Int32 → Int32 → LH → Option (Int32 × LH)) (y4 : Int32) (y5 : Int32) (y6 : Int32) (y8 : Int32) (σ : LH) : Option (Int32 × LH) :=
  s_Evening_takerOf_153 p0 p1 p2 rec9 y4 y5 y6 y8 0 σ
theorem b_Evening_takerOf_152 {G : XG} {l : Launch} {p : Program} {e : Env} {R : Room} {s : State} {m : MethodId} {args : Array Value} {below : List Frame} {meth : Method} {c : Code} (C : XC G 1 570 p s m args c prog_3_method_18_code 10 R_Evening) (hr : meth.sig.returnType = (some .int)) (hk : meth.locks = false) {d : Nat} (hd : 2 ≤ d + 1) (hR : xroom R (d + 1)) {p0 : Nat} {p1 : Int32} {p2 : Int32} (hp0 : p0 ∈ xHalls) {rec9 : Int32 → Int32 → Int32 → LH → Option (Int32 × LH)} {σ' : LH} {r : Int32} (hrec9 : ∀ (y4 : Int32) (y5 : Int32) (y6 : Int32) (σ : LH), rec9 y4 y5 y6 σ = some (r, σ') → XJ G 1 570 p l e R s m args below meth c 10 (XQ G 1 570 below args s (some (.int r)) σ') 0 0 9 [(0, .ref (G.2.2.1 + 38)), (1, .ref (G.2.2.1 + p0)), (2, .int p1), (3, .int p2), (4, .int y4), (5, .int y5), (6, .int y6)] [] σ) {y4 : Int32} {y5 : Int32} {y6 : Int32} {y8 : Int32} {σ : LH} (h0 : s_Evening_takerOf_152 p0 p1 p2 rec9 y4 y5 y6 y8 σ = some (r, σ')) : XJ G 1 570 p l e R s m args below meth c 10 (XQ G 1 570 below args s (some (.int r)) σ') 0 0 152 [(0, .ref (G.2.2.1 + 38)), (1, .ref (G.2.2.1 + p0)), (2, .int p1), (3, .int p2), (4, .int y4), (5, .int y5), (6, .int y6), (8, .int y8)] [] σ := by
  replace h0 := (show _ = _ from h0)
  unfold s_Evening_takerOf_152 at h0
  refine x_iconst (v := 0) C d_Evening_takerOf_152 (by decide) ?_
  exact x_lv C [0, 1, 2, 3, 4, 5, 6, 7] rfl (b_Evening_takerOf_153 C hr hk hd hR hp0 hrec9 h0)
def s_Evening_takerOf_9_b (p0 : Nat) (p1 : Int32) (p2 : Int32) (rec9 : Int32 → Int32 → Int32 → LH → Option (Int32 × LH)) (y4 : Int32) (y5 : Int32) (y6 : Int32) (σ : LH) : Option (Int32 × LH) :=
  if (σ.1 4 1) ≤ y6 then (
   some (y4, σ))
  else (
   if ib y6 8 then (
   xl (((σ.1 (p0 + 1) (Int32.toNatClampNeg y6))) : Int32) fun x3 =>
   if x3 = (-2) then (
    s_Evening_takerOf_171 p0 p1 p2 rec9 y4 y5 y6 σ)
   else (
    xb2 (s_Likings_at p1 y6 p2 σ) fun r7 σ8 =>
    xb2 (s_Likings_at p1 y6 x3 σ8) fun r10 σ11 =>
    if ib y6 8 then (
    if (σ11.1 10 (Int32.toNatClampNeg y6)) ≤ (r7 - r10) then (
     xb2 (s_Evening_wayTo p2 x3 σ11) fun r15 σ16 =>
     if y4 = (-1) then (
      s_Evening_takerOf_148 p0 p1 p2 rec9 y4 y5 y6 r15 σ16)
     else (
      if ib y6 8 then (
      if ib y4 8 then (
      if (σ16.1 9 (Int32.toNatClampNeg y4)) < (σ16.1 9 (Int32.toNatClampNeg y6)) then (
       s_Evening_takerOf_148 p0 p1 p2 rec9 y4 y5 y6 r15 σ16)
      else (
       if ib y6 8 then (
       if ib y4 8 then (
       if (σ16.1 9 (Int32.toNatClampNeg y6)) = (σ16.1 9 (Int32.toNatClampNeg y4)) then (
        if y5 ≤ r15 then (
         s_Evening_takerOf_152 p0 p1 p2 rec9 y4 y5 y6 r15 σ16)
        else (
         s_Evening_takerOf_148 p0 p1 p2 rec9 y4 y5 y6 r15 σ16))
       else (
        s_Evening_takerOf_152 p0 p1 p2 rec9 y4 y5 y6 r15 σ16)) else none) else none)) else none) else none))
    else (
     s_Evening_takerOf_171 p0 p1 p2 rec9 y4 y5 y6 σ11)) else none)) else none)
def s_Evening_takerOf_9 (p0 : Nat) (p1 : Int32) (p2 : Int32) : Nat → Int32 → Int32 → Int32 → LH → Option (Int32 × LH)
  | 0, _, _, _, _ => none
  | n + 1, y4, y5, y6, σ => s_Evening_takerOf_9_b p0 p1 p2 (s_Evening_takerOf_9 p0 p1 p2 n) y4 y5 y6 σ
theorem bb_Evening_takerOf_9 {G : XG} {l : Launch} {p : Program} {e : Env} {R : Room} {s : State} {m : MethodId} {args : Array Value} {below : List Frame} {meth : Method} {c : Code} (C : XC G 1 570 p s m args c prog_3_method_18_code 10 R_Evening) (hr : meth.sig.returnType = (some .int)) (hk : meth.locks = false) {d : Nat} (hd : 2 ≤ d + 1) (hR : xroom R (d + 1)) {p0 : Nat} {p1 : Int32} {p2 : Int32} (hp0 : p0 ∈ xHalls) {rec9 : Int32 → Int32 → Int32 → LH → Option (Int32 × LH)} {σ' : LH} {r : Int32} (hrec9 : ∀ (y4 : Int32) (y5 : Int32) (y6 : Int32) (σ : LH), rec9 y4 y5 y6 σ = some (r, σ') → XJ G 1 570 p l e R s m args below meth c 10 (XQ G 1 570 below args s (some (.int r)) σ') 0 0 9 [(0, .ref (G.2.2.1 + 38)), (1, .ref (G.2.2.1 + p0)), (2, .int p1), (3, .int p2), (4, .int y4), (5, .int y5), (6, .int y6)] [] σ) {y4 : Int32} {y5 : Int32} {y6 : Int32} {σ : LH} (h0 : s_Evening_takerOf_9_b p0 p1 p2 rec9 y4 y5 y6 σ = some (r, σ')) : XJ G 1 570 p l e R s m args below meth c 10 (XQ G 1 570 below args s (some (.int r)) σ') 0 0 9 [(0, .ref (G.2.2.1 + 38)), (1, .ref (G.2.2.1 + p0)), (2, .int p1), (3, .int p2), (4, .int y4), (5, .int y5), (6, .int y6)] [] σ := by
  replace h0 := (show _ = _ from h0)
  unfold s_Evening_takerOf_9_b at h0
  refine x_iload C d_Evening_takerOf_9 6 rfl ?_
  refine x_aload_n C d_Evening_takerOf_11 0 rfl ?_
  refine x_getA (y := 4) C fg_Evening_28 k_38 rfl d_Evening_takerOf_12 ?_
  refine x_getI (y := 0) C fg_Evening_40 k_4 rfl d_Evening_takerOf_15 ?_
  refine x_icmp_ge C 177 d_Evening_takerOf_18 (by decide) (fun q1 => ?_) (fun q1 => ?_)
  · replace h0 := xit q1 h0
    refine x_iload C d_Evening_takerOf_177 4 rfl ?_
    exact x_iret C hr hk h0 d_Evening_takerOf_179
  · replace h0 := xif q1 h0
    refine x_aload_n C d_Evening_takerOf_21 1 rfl ?_
    refine x_getR (y := 1) C fg_Evening_45 (hl_0 hp0) rfl d_Evening_takerOf_22 ?_
    refine x_iload C d_Evening_takerOf_25 6 rfl ?_
    obtain ⟨g2, h0⟩ := xgo h0
    refine x_iald C (hl_1 hp0) (ib_in g2) d_Evening_takerOf_27 ?_
    obtain ⟨x3, ex3, h0⟩ := xlet h0
    refine x_name C ex3 ?_
    refine x_istore (lv' := [(7, .int x3), (0, .ref (G.2.2.1 + 38)), (1, .ref (G.2.2.1 + p0)), (2, .int p1), (3, .int p2), (4, .int y4), (5, .int y5), (6, .int y6)]) C d_Evening_takerOf_28 (by decide) rfl ?_
    refine x_iload C d_Evening_takerOf_30 0 rfl ?_
    refine x_bipush (v := (-2)) C d_Evening_takerOf_32 (by decide) ?_
    refine x_icmp_ne C 40 d_Evening_takerOf_34 (by decide) (fun q4 => ?_) (fun q4 => ?_)
    · replace h0 := xif q4 h0
      refine x_aload_n C d_Evening_takerOf_40 1 rfl ?_
      refine x_getA (y := 33) C fg_Evening_32 k_38 rfl d_Evening_takerOf_41 ?_
      refine x_iload_n C d_Evening_takerOf_44 3 rfl ?_
      refine x_iload C d_Evening_takerOf_45 7 rfl ?_
      refine x_iload_n C d_Evening_takerOf_47 4 rfl ?_
      obtain ⟨r7, σ8, k6, h0⟩ := xbind2 h0
      refine x_callVi C hR (c_Likings_at (d := d) (by omega) k6) cw_Evening_97 k_33 rfl rfl rfl (Nat.le_of_ble_eq_true rfl) ⟨Nat.zero_le _, Nat.zero_le _⟩ d_Evening_takerOf_48 ?_
      refine x_aload_n C d_Evening_takerOf_51 1 rfl ?_
      refine x_getA (y := 33) C fg_Evening_32 k_38 rfl d_Evening_takerOf_52 ?_
      refine x_iload_n C d_Evening_takerOf_55 3 rfl ?_
      refine x_iload C d_Evening_takerOf_56 7 rfl ?_
      refine x_iload C d_Evening_takerOf_58 0 rfl ?_
      obtain ⟨r10, σ11, k9, h0⟩ := xbind2 h0
      refine x_callVi C hR (c_Likings_at (d := d) (by omega) k9) cw_Evening_97 k_33 rfl rfl rfl (Nat.le_of_ble_eq_true rfl) ⟨Nat.zero_le _, Nat.zero_le _⟩ d_Evening_takerOf_60 ?_
      refine x_isub C d_Evening_takerOf_63 ?_
      refine x_aload_n C d_Evening_takerOf_64 1 rfl ?_
      refine x_getA (y := 4) C fg_Evening_28 k_38 rfl d_Evening_takerOf_65 ?_
      refine x_getR (y := 6) C fg_Evening_169 k_4 rfl d_Evening_takerOf_68 ?_
      show XJ _ _ _ _ _ _ _ _ _ _ _ _ _ _ _ _ _ _ _ (.ref (G.2.2.1 + 10) :: _) _
      refine x_iload C d_Evening_takerOf_71 7 rfl ?_
      obtain ⟨g12, h0⟩ := xgo h0
      refine x_iald C k_10 (ib_in g12) d_Evening_takerOf_73 ?_
      refine x_icmp_ge C 80 d_Evening_takerOf_74 (by decide) (fun q13 => ?_) (fun q13 => ?_)
      · replace h0 := xit q13 h0
        refine x_aload_n C d_Evening_takerOf_80 1 rfl ?_
        refine x_iload_n C d_Evening_takerOf_81 4 rfl ?_
        refine x_iload C d_Evening_takerOf_82 0 rfl ?_
        obtain ⟨r15, σ16, k14, h0⟩ := xbind2 h0
        refine x_callVi C hR (c_Evening_wayTo (d := d) (by omega) k14) cw_Evening_172 k_38 rfl rfl rfl (Nat.le_of_ble_eq_true rfl) ⟨Nat.zero_le _, Nat.zero_le _⟩ d_Evening_takerOf_84 ?_
        refine x_istore (lv' := [(8, .int r15), (7, .int x3), (0, .ref (G.2.2.1 + 38)), (1, .ref (G.2.2.1 + p0)), (2, .int p1), (3, .int p2), (4, .int y4), (5, .int y5), (6, .int y6)]) C d_Evening_takerOf_87 (by decide) rfl ?_
        refine x_iload C d_Evening_takerOf_89 6 rfl ?_
        refine x_iconst (v := (-1)) C d_Evening_takerOf_91 (by decide) ?_
        refine x_icmp_eq C 148 d_Evening_takerOf_92 (by decide) (fun q17 => ?_) (fun q17 => ?_)
        · replace h0 := xit q17 h0
          exact x_lv C [2, 3, 4, 5, 6, 7, 8, 0] rfl (b_Evening_takerOf_148 C hr hk hd hR hp0 hrec9 h0)
        · replace h0 := xif q17 h0
          refine x_aload_n C d_Evening_takerOf_95 2 rfl ?_
          refine x_getA (y := 4) C fg_Evening_28 k_38 rfl d_Evening_takerOf_96 ?_
          refine x_getR (y := 5) C fg_Evening_143 k_4 rfl d_Evening_takerOf_99 ?_
          show XJ _ _ _ _ _ _ _ _ _ _ _ _ _ _ _ _ _ _ _ (.ref (G.2.2.1 + 9) :: _) _
          refine x_iload C d_Evening_takerOf_102 8 rfl ?_
          obtain ⟨g19, h0⟩ := xgo h0
          refine x_iald C k_9 (ib_in g19) d_Evening_takerOf_104 ?_
          refine x_aload_n C d_Evening_takerOf_105 2 rfl ?_
          refine x_getA (y := 4) C fg_Evening_28 k_38 rfl d_Evening_takerOf_106 ?_
          refine x_getR (y := 5) C fg_Evening_143 k_4 rfl d_Evening_takerOf_109 ?_
          show XJ _ _ _ _ _ _ _ _ _ _ _ _ _ _ _ _ _ _ _ (.ref (G.2.2.1 + 9) :: _) _
          refine x_iload C d_Evening_takerOf_112 6 rfl ?_
          obtain ⟨g20, h0⟩ := xgo h0
          refine x_iald C k_9 (ib_in g20) d_Evening_takerOf_114 ?_
          refine x_icmp_gt C 148 d_Evening_takerOf_115 (by decide) (fun q21 => ?_) (fun q21 => ?_)
          · replace h0 := xit q21 h0
            exact x_lv C [2, 3, 4, 5, 6, 7, 8, 0] rfl (b_Evening_takerOf_148 C hr hk hd hR hp0 hrec9 h0)
          · replace h0 := xif q21 h0
            refine x_aload_n C d_Evening_takerOf_118 2 rfl ?_
            refine x_getA (y := 4) C fg_Evening_28 k_38 rfl d_Evening_takerOf_119 ?_
            refine x_getR (y := 5) C fg_Evening_143 k_4 rfl d_Evening_takerOf_122 ?_
            show XJ _ _ _ _ _ _ _ _ _ _ _ _ _ _ _ _ _ _ _ (.ref (G.2.2.1 + 9) :: _) _
            refine x_iload C d_Evening_takerOf_125 8 rfl ?_
            obtain ⟨g22, h0⟩ := xgo h0
            refine x_iald C k_9 (ib_in g22) d_Evening_takerOf_127 ?_
            refine x_aload_n C d_Evening_takerOf_128 2 rfl ?_
            refine x_getA (y := 4) C fg_Evening_28 k_38 rfl d_Evening_takerOf_129 ?_
            refine x_getR (y := 5) C fg_Evening_143 k_4 rfl d_Evening_takerOf_132 ?_
            show XJ _ _ _ _ _ _ _ _ _ _ _ _ _ _ _ _ _ _ _ (.ref (G.2.2.1 + 9) :: _) _
            refine x_iload C d_Evening_takerOf_135 6 rfl ?_
            obtain ⟨g23, h0⟩ := xgo h0
            refine x_iald C k_9 (ib_in g23) d_Evening_takerOf_137 ?_
            refine x_icmp_ne C 152 d_Evening_takerOf_138 (by decide) (fun q24 => ?_) (fun q24 => ?_)
            · replace h0 := xif q24 h0
              exact x_lv C [2, 3, 4, 5, 6, 7, 8, 0] rfl (b_Evening_takerOf_152 C hr hk hd hR hp0 hrec9 h0)
            · replace h0 := xit q24 h0
              refine x_iload C d_Evening_takerOf_141 0 rfl ?_
              refine x_iload C d_Evening_takerOf_143 7 rfl ?_
              refine x_icmp_ge C 152 d_Evening_takerOf_145 (by decide) (fun q25 => ?_) (fun q25 => ?_)
              · replace h0 := xit q25 h0
                exact x_lv C [2, 3, 4, 5, 6, 7, 8, 0] rfl (b_Evening_takerOf_152 C hr hk hd hR hp0 hrec9 h0)
              · replace h0 := xif q25 h0
                exact x_lv C [2, 3, 4, 5, 6, 7, 8, 0] rfl (b_Evening_takerOf_148 C hr hk hd hR hp0 hrec9 h0)
      · replace h0 := xif q13 h0
        refine x_goto C 171 d_Evening_takerOf_77 (by decide) ?_
        exact x_lv C [1, 2, 3, 4, 5, 6, 7] rfl (b_Evening_takerOf_171 C hr hk hd hR hp0 hrec9 h0)
    · replace h0 := xit q4 h0
      refine x_goto C 171 d_Evening_takerOf_37 (by decide) ?_
      exact x_lv C [1, 2, 3, 4, 5, 6, 7] rfl (b_Evening_takerOf_171 C hr hk hd hR hp0 hrec9 h0)
theorem b_Evening_takerOf_9 {G : XG} {l : Launch} {p : Program} {e : Env} {R : Room} {s : State} {m : MethodId} {args : Array Value} {below : List Frame} {meth : Method} {c : Code} (C : XC G 1 570 p s m args c prog_3_method_18_code 10 R_Evening) (hr : meth.sig.returnType = (some .int)) (hk : meth.locks = false) {d : Nat} (hd : 2 ≤ d + 1) (hR : xroom R (d + 1)) {p0 : Nat} {p1 : Int32} {p2 : Int32} (hp0 : p0 ∈ xHalls) {σ' : LH} {r : Int32} : ∀ (n : Nat) (y4 : Int32) (y5 : Int32) (y6 : Int32) (σ : LH), s_Evening_takerOf_9 p0 p1 p2 n y4 y5 y6 σ = some (r, σ') → XJ G 1 570 p l e R s m args below meth c 10 (XQ G 1 570 below args s (some (.int r)) σ') 0 0 9 [(0, .ref (G.2.2.1 + 38)), (1, .ref (G.2.2.1 + p0)), (2, .int p1), (3, .int p2), (4, .int y4), (5, .int y5), (6, .int y6)] [] σ := by
  intro n
  induction n with
  | zero => intro y4 y5 y6 σ h0; cases h0
  | succ n ih => intro y4 y5 y6 σ h0; exact bb_Evening_takerOf_9 C hr hk hd hR hp0 ih h0
def s_Evening_takerOf (p0 : Nat) (p1 : Int32) (p2 : Int32) (σ : LH) : Option (Int32 × LH) :=
  s_Evening_takerOf_9 p0 p1 p2 FUEL (-1) 0 0 σ
theorem c_Evening_takerOf {G : XG} {l : Launch} {d : Nat} (hd : 2 ≤ d) {p0 : Nat} {p1 : Int32} {p2 : Int32} (hp0 : p0 ∈ xHalls) {σ σ' : LH} {r : Int32} (h0 : s_Evening_takerOf p0 p1 p2 σ = some (r, σ')) : xM G 1 570 l y_Evening_takerOf prog_3_method_18_code 10 (some .int) d [.ref (G.2.2.1 + 38), .ref (G.2.2.1 + p0), .int p1, .int p2] σ (some (.int r)) σ' := by
  obtain ⟨d, rfl⟩ : ∃ q, d = q + 1 := ⟨d - 1, by omega⟩
  refine x_met R_Evening rfl (by decide +kernel) (Nat.le_of_ble_eq_true rfl) fun p e s m below meth c C hr hk hR => ?_
  refine x_lv (lv' := [(0, .ref (G.2.2.1 + 38)), (1, .ref (G.2.2.1 + p0)), (2, .int p1), (3, .int p2)]) C [0, 1, 2, 3] rfl ?_
  generalize xrm (d + 1) = R at hR ⊢
  unfold s_Evening_takerOf at h0
  refine x_iconst (v := (-1)) C d_Evening_takerOf_0 (by decide) ?_
  refine x_istore (lv' := [(4, .int (-1)), (0, .ref (G.2.2.1 + 38)), (1, .ref (G.2.2.1 + p0)), (2, .int p1), (3, .int p2)]) C d_Evening_takerOf_1 (by decide) rfl ?_
  refine x_iconst (v := 0) C d_Evening_takerOf_3 (by decide) ?_
  refine x_istore (lv' := [(5, .int 0), (4, .int (-1)), (0, .ref (G.2.2.1 + 38)), (1, .ref (G.2.2.1 + p0)), (2, .int p1), (3, .int p2)]) C d_Evening_takerOf_4 (by decide) rfl ?_
  refine x_iconst (v := 0) C d_Evening_takerOf_6 (by decide) ?_
  refine x_istore (lv' := [(6, .int 0), (5, .int 0), (4, .int (-1)), (0, .ref (G.2.2.1 + 38)), (1, .ref (G.2.2.1 + p0)), (2, .int p1), (3, .int p2)]) C d_Evening_takerOf_7 (by decide) rfl ?_
  exact x_lv C [3, 4, 5, 6, 2, 1, 0] rfl (b_Evening_takerOf_9 C hr hk hd hR hp0 FUEL _ _ _ _ h0)
-- LostPlaces$Hall.moveUp(II)V
theorem d_Hall_moveUp_0 : decode prog_6_method_14_code 0 = .ok (.iload_n 1, 1) := by decide +kernel
theorem d_Hall_moveUp_1 : decode prog_6_method_14_code 1 = .ok (.invokestatic 76, 3) := by decide +kernel
theorem d_Hall_moveUp_4 : decode prog_6_method_14_code 4 = .ok (.ifCond .ne 4, 3) := by decide +kernel
theorem d_Hall_moveUp_7 : decode prog_6_method_14_code 7 = .ok (.return_, 1) := by decide +kernel
theorem d_Hall_moveUp_8 : decode prog_6_method_14_code 8 = .ok (.aload_n 0, 1) := by decide +kernel
theorem d_Hall_moveUp_9 : decode prog_6_method_14_code 9 = .ok (.getfield 37, 3) := by decide +kernel
theorem d_Hall_moveUp_12 : decode prog_6_method_14_code 12 = .ok (.bipush 60, 2) := by decide +kernel
theorem d_Hall_moveUp_14 : decode prog_6_method_14_code 14 = .ok (.irem, 1) := by decide +kernel
theorem d_Hall_moveUp_15 : decode prog_6_method_14_code 15 = .ok (.iconst 4, 1) := by decide +kernel
theorem d_Hall_moveUp_16 : decode prog_6_method_14_code 16 = .ok (.imul, 1) := by decide +kernel
theorem d_Hall_moveUp_17 : decode prog_6_method_14_code 17 = .ok (.istore_n 3, 1) := by decide +kernel
theorem d_Hall_moveUp_18 : decode prog_6_method_14_code 18 = .ok (.iload_n 3, 1) := by decide +kernel
theorem d_Hall_moveUp_19 : decode prog_6_method_14_code 19 = .ok (.ifCond .lt 56, 3) := by decide +kernel
theorem d_Hall_moveUp_22 : decode prog_6_method_14_code 22 = .ok (.iload_n 3, 1) := by decide +kernel
theorem d_Hall_moveUp_23 : decode prog_6_method_14_code 23 = .ok (.iconst 4, 1) := by decide +kernel
theorem d_Hall_moveUp_24 : decode prog_6_method_14_code 24 = .ok (.iadd, 1) := by decide +kernel
theorem d_Hall_moveUp_25 : decode prog_6_method_14_code 25 = .ok (.aload_n 0, 1) := by decide +kernel
theorem d_Hall_moveUp_26 : decode prog_6_method_14_code 26 = .ok (.getfield 40, 3) := by decide +kernel
theorem d_Hall_moveUp_29 : decode prog_6_method_14_code 29 = .ok (.arraylength, 1) := by decide +kernel
theorem d_Hall_moveUp_30 : decode prog_6_method_14_code 30 = .ok (.if_icmp .gt 45, 3) := by decide +kernel
theorem d_Hall_moveUp_33 : decode prog_6_method_14_code 33 = .ok (.aload_n 0, 1) := by decide +kernel
theorem d_Hall_moveUp_34 : decode prog_6_method_14_code 34 = .ok (.getfield 40, 3) := by decide +kernel
theorem d_Hall_moveUp_37 : decode prog_6_method_14_code 37 = .ok (.iload_n 3, 1) := by decide +kernel
theorem d_Hall_moveUp_38 : decode prog_6_method_14_code 38 = .ok (.iload_n 1, 1) := by decide +kernel
theorem d_Hall_moveUp_39 : decode prog_6_method_14_code 39 = .ok (.iastore, 1) := by decide +kernel
theorem d_Hall_moveUp_40 : decode prog_6_method_14_code 40 = .ok (.aload_n 0, 1) := by decide +kernel
theorem d_Hall_moveUp_41 : decode prog_6_method_14_code 41 = .ok (.getfield 40, 3) := by decide +kernel
theorem d_Hall_moveUp_44 : decode prog_6_method_14_code 44 = .ok (.iload_n 3, 1) := by decide +kernel
theorem d_Hall_moveUp_45 : decode prog_6_method_14_code 45 = .ok (.iconst 1, 1) := by decide +kernel
theorem d_Hall_moveUp_46 : decode prog_6_method_14_code 46 = .ok (.iadd, 1) := by decide +kernel
theorem d_Hall_moveUp_47 : decode prog_6_method_14_code 47 = .ok (.aload_n 0, 1) := by decide +kernel
theorem d_Hall_moveUp_48 : decode prog_6_method_14_code 48 = .ok (.getfield 9, 3) := by decide +kernel
theorem d_Hall_moveUp_51 : decode prog_6_method_14_code 51 = .ok (.iload_n 1, 1) := by decide +kernel
theorem d_Hall_moveUp_52 : decode prog_6_method_14_code 52 = .ok (.iaload, 1) := by decide +kernel
theorem d_Hall_moveUp_53 : decode prog_6_method_14_code 53 = .ok (.iastore, 1) := by decide +kernel
theorem d_Hall_moveUp_54 : decode prog_6_method_14_code 54 = .ok (.aload_n 0, 1) := by decide +kernel
theorem d_Hall_moveUp_55 : decode prog_6_method_14_code 55 = .ok (.getfield 40, 3) := by decide +kernel
theorem d_Hall_moveUp_58 : decode prog_6_method_14_code 58 = .ok (.iload_n 3, 1) := by decide +kernel
theorem d_Hall_moveUp_59 : decode prog_6_method_14_code 59 = .ok (.iconst 2, 1) := by decide +kernel
theorem d_Hall_moveUp_60 : decode prog_6_method_14_code 60 = .ok (.iadd, 1) := by decide +kernel
theorem d_Hall_moveUp_61 : decode prog_6_method_14_code 61 = .ok (.iload_n 2, 1) := by decide +kernel
theorem d_Hall_moveUp_62 : decode prog_6_method_14_code 62 = .ok (.iastore, 1) := by decide +kernel
theorem d_Hall_moveUp_63 : decode prog_6_method_14_code 63 = .ok (.aload_n 0, 1) := by decide +kernel
theorem d_Hall_moveUp_64 : decode prog_6_method_14_code 64 = .ok (.getfield 40, 3) := by decide +kernel
theorem d_Hall_moveUp_67 : decode prog_6_method_14_code 67 = .ok (.iload_n 3, 1) := by decide +kernel
theorem d_Hall_moveUp_68 : decode prog_6_method_14_code 68 = .ok (.iconst 3, 1) := by decide +kernel
theorem d_Hall_moveUp_69 : decode prog_6_method_14_code 69 = .ok (.iadd, 1) := by decide +kernel
theorem d_Hall_moveUp_70 : decode prog_6_method_14_code 70 = .ok (.aload_n 0, 1) := by decide +kernel
theorem d_Hall_moveUp_71 : decode prog_6_method_14_code 71 = .ok (.getfield 33, 3) := by decide +kernel
theorem d_Hall_moveUp_74 : decode prog_6_method_14_code 74 = .ok (.iastore, 1) := by decide +kernel
theorem d_Hall_moveUp_75 : decode prog_6_method_14_code 75 = .ok (.aload_n 0, 1) := by decide +kernel
theorem d_Hall_moveUp_76 : decode prog_6_method_14_code 76 = .ok (.dup, 1) := by decide +kernel
theorem d_Hall_moveUp_77 : decode prog_6_method_14_code 77 = .ok (.getfield 37, 3) := by decide +kernel
theorem d_Hall_moveUp_80 : decode prog_6_method_14_code 80 = .ok (.iconst 1, 1) := by decide +kernel
theorem d_Hall_moveUp_81 : decode prog_6_method_14_code 81 = .ok (.iadd, 1) := by decide +kernel
theorem d_Hall_moveUp_82 : decode prog_6_method_14_code 82 = .ok (.putfield 37, 3) := by decide +kernel
theorem d_Hall_moveUp_85 : decode prog_6_method_14_code 85 = .ok (.aload_n 0, 1) := by decide +kernel
theorem d_Hall_moveUp_86 : decode prog_6_method_14_code 86 = .ok (.iload_n 1, 1) := by decide +kernel
theorem d_Hall_moveUp_87 : decode prog_6_method_14_code 87 = .ok (.iload_n 2, 1) := by decide +kernel
theorem d_Hall_moveUp_88 : decode prog_6_method_14_code 88 = .ok (.invokevirtual 58, 3) := by decide +kernel
theorem d_Hall_moveUp_91 : decode prog_6_method_14_code 91 = .ok (.return_, 1) := by decide +kernel
def s_Hall_moveUp_75 (h : Nat) (p0 : Int32) (p1 : Int32) (σ : LH) : Option (LH) :=
  xl ((stI σ h 8 ((σ.1 h 8) + 1)) : LH) fun σ7 =>
  xb1 (s_Hall_put h p0 p1 σ7) fun σ9 =>
  some σ9
theorem b_Hall_moveUp_75 {G : XG} {l : Launch} {p : Program} {e : Env} {R : Room} {s : State} {m : MethodId} {args : Array Value} {below : List Frame} {meth : Method} {c : Code} (C : XC G 1 570 p s m args c prog_6_method_14_code 4 R_Hall) (hr : meth.sig.returnType = none) (hk : meth.locks = false) {d : Nat} (hd : 2 ≤ d + 1) (hR : xroom R (d + 1)) {h : Nat} {p0 : Int32} {p1 : Int32} (hh : h ∈ xHalls) {σ' : LH} {σ : LH} (h0 : s_Hall_moveUp_75 h p0 p1 σ = some σ') : XJ G 1 570 p l e R s m args below meth c 4 (XQ G 1 570 below args s none σ') 0 0 75 [(0, .ref (G.2.2.1 + h)), (1, .int p0), (2, .int p1)] [] σ := by
  replace h0 := (show _ = _ from h0)
  unfold s_Hall_moveUp_75 at h0
  refine x_aload_n C d_Hall_moveUp_75 0 rfl ?_
  refine x_dup C d_Hall_moveUp_76 rfl ?_
  refine x_getI (y := 0) C fg_Hall_37 (hl_0 hh) rfl d_Hall_moveUp_77 ?_
  refine x_iconst (v := 1) C d_Hall_moveUp_80 (by decide) ?_
  refine x_iadd C d_Hall_moveUp_81 ?_
  refine x_putI (y := 0) C fp_Hall_37 (hl_0 hh) rfl rfl rfl d_Hall_moveUp_82 ?_
  obtain ⟨σ7, eσ7, h0⟩ := xlet h0
  refine x_sig C eσ7 ?_
  refine x_aload_n C d_Hall_moveUp_85 0 rfl ?_
  refine x_iload_n C d_Hall_moveUp_86 1 rfl ?_
  refine x_iload_n C d_Hall_moveUp_87 2 rfl ?_
  obtain ⟨σ9, k8, h0⟩ := xbind1 h0
  refine x_callVv C hR (c_Hall_put (d := d) (by omega) hh k8) cw_Hall_58 (hl_0 hh) rfl rfl rfl (Nat.le_of_ble_eq_true rfl) ⟨Nat.zero_le _, Nat.zero_le _⟩ d_Hall_moveUp_88 ?_
  exact x_vret C hr hk h0 d_Hall_moveUp_91
def s_Hall_moveUp (h : Nat) (p0 : Int32) (p1 : Int32) (σ : LH) : Option (LH) :=
  xb2 (s_Hall_isSitter p0 σ) fun r2 σ3 =>
  if r2 = 0 then (
   some σ3)
  else (
   xl (((((σ3.1 h 8) - (σ3.1 h 8) / 60 * 60) * 4)) : Int32) fun x5 =>
   if x5 < 0 then (
    s_Hall_moveUp_75 h p0 p1 σ3)
   else (
    if 240 < (x5 + 4) then (
     s_Hall_moveUp_75 h p0 p1 σ3)
    else (
     if ib x5 240 then (
     xl ((stI σ3 (h + 8) (Int32.toNatClampNeg x5) p0) : LH) fun σ12 =>
     if ib p0 8 then (
     if ib (x5 + 1) 240 then (
     xl ((stI σ12 (h + 8) (Int32.toNatClampNeg (x5 + 1)) (σ12.1 (h + 1) (Int32.toNatClampNeg p0))) : LH) fun σ15 =>
     if ib (x5 + 2) 240 then (
     xl ((stI σ15 (h + 8) (Int32.toNatClampNeg (x5 + 2)) p1) : LH) fun σ17 =>
     if ib (x5 + 3) 240 then (
     xl ((stI σ17 (h + 8) (Int32.toNatClampNeg (x5 + 3)) (σ17.1 h 7)) : LH) fun σ19 =>
     s_Hall_moveUp_75 h p0 p1 σ19) else none) else none) else none) else none) else none)))
theorem c_Hall_moveUp {G : XG} {l : Launch} {d : Nat} (hd : 2 ≤ d) {h : Nat} {p0 : Int32} {p1 : Int32} (hh : h ∈ xHalls) {σ σ' : LH} (h0 : s_Hall_moveUp h p0 p1 σ = some σ') : xM G 1 570 l y_Hall_moveUp prog_6_method_14_code 4 none d [.ref (G.2.2.1 + h), .int p0, .int p1] σ none σ' := by
  obtain ⟨d, rfl⟩ : ∃ q, d = q + 1 := ⟨d - 1, by omega⟩
  refine x_met R_Hall rfl (by decide +kernel) (Nat.le_of_ble_eq_true rfl) fun p e s m below meth c C hr hk hR => ?_
  refine x_lv (lv' := [(0, .ref (G.2.2.1 + h)), (1, .int p0), (2, .int p1)]) C [0, 1, 2] rfl ?_
  generalize xrm (d + 1) = R at hR ⊢
  unfold s_Hall_moveUp at h0
  refine x_iload_n C d_Hall_moveUp_0 1 rfl ?_
  obtain ⟨r2, σ3, k1, h0⟩ := xbind2 h0
  refine x_callSi C hR (c_Hall_isSitter (d := d) (by omega) k1) cw_Hall_76 w_1020 rfl rfl (Nat.le_of_ble_eq_true rfl) ⟨Nat.zero_le _, Nat.zero_le _⟩ d_Hall_moveUp_1 ?_
  refine x_if_ne C 8 d_Hall_moveUp_4 (by decide) (fun q4 => ?_) (fun q4 => ?_)
  · replace h0 := xif q4 h0
    refine x_aload_n C d_Hall_moveUp_8 0 rfl ?_
    refine x_getI (y := 0) C fg_Hall_37 (hl_0 hh) rfl d_Hall_moveUp_9 ?_
    refine x_bipush (v := 60) C d_Hall_moveUp_12 (by decide) ?_
    refine x_irem C d_Hall_moveUp_14 (by decide) ?_
    refine x_iconst (v := 4) C d_Hall_moveUp_15 (by decide) ?_
    refine x_imul C d_Hall_moveUp_16 ?_
    obtain ⟨x5, ex5, h0⟩ := xlet h0
    refine x_name C ex5 ?_
    refine x_istore_n (lv' := [(3, .int x5), (0, .ref (G.2.2.1 + h)), (1, .int p0), (2, .int p1)]) C d_Hall_moveUp_17 rfl (by decide) rfl ?_
    refine x_iload_n C d_Hall_moveUp_18 0 rfl ?_
    refine x_if_lt C 75 d_Hall_moveUp_19 (by decide) (fun q6 => ?_) (fun q6 => ?_)
    · replace h0 := xit q6 h0
      exact x_lv C [1, 2, 3] rfl (b_Hall_moveUp_75 C hr hk hd hR hh h0)
    · replace h0 := xif q6 h0
      refine x_iload_n C d_Hall_moveUp_22 0 rfl ?_
      refine x_iconst (v := 4) C d_Hall_moveUp_23 (by decide) ?_
      refine x_iadd C d_Hall_moveUp_24 ?_
      refine x_aload_n C d_Hall_moveUp_25 1 rfl ?_
      refine x_getR (y := 8) C fg_Hall_40 (hl_0 hh) rfl d_Hall_moveUp_26 ?_
      refine x_ilen (v := 240) C (hl_8 hh) rfl d_Hall_moveUp_29 ?_
      refine x_icmp_gt C 75 d_Hall_moveUp_30 (by decide) (fun q10 => ?_) (fun q10 => ?_)
      · replace h0 := xit q10 h0
        exact x_lv C [1, 2, 3] rfl (b_Hall_moveUp_75 C hr hk hd hR hh h0)
      · replace h0 := xif q10 h0
        refine x_aload_n C d_Hall_moveUp_33 1 rfl ?_
        refine x_getR (y := 8) C fg_Hall_40 (hl_0 hh) rfl d_Hall_moveUp_34 ?_
        refine x_iload_n C d_Hall_moveUp_37 0 rfl ?_
        refine x_iload_n C d_Hall_moveUp_38 2 rfl ?_
        obtain ⟨g11, h0⟩ := xgo h0
        refine x_iast C (hl_8 hh) (ib_in g11) d_Hall_moveUp_39 ?_
        obtain ⟨σ12, eσ12, h0⟩ := xlet h0
        refine x_sig C eσ12 ?_
        refine x_aload_n C d_Hall_moveUp_40 1 rfl ?_
        refine x_getR (y := 8) C fg_Hall_40 (hl_0 hh) rfl d_Hall_moveUp_41 ?_
        refine x_iload_n C d_Hall_moveUp_44 0 rfl ?_
        refine x_iconst (v := 1) C d_Hall_moveUp_45 (by decide) ?_
        refine x_iadd C d_Hall_moveUp_46 ?_
        refine x_aload_n C d_Hall_moveUp_47 1 rfl ?_
        refine x_getR (y := 1) C fg_Hall_9 (hl_0 hh) rfl d_Hall_moveUp_48 ?_
        refine x_iload_n C d_Hall_moveUp_51 2 rfl ?_
        obtain ⟨g13, h0⟩ := xgo h0
        refine x_iald C (hl_1 hh) (ib_in g13) d_Hall_moveUp_52 ?_
        obtain ⟨g14, h0⟩ := xgo h0
        refine x_iast C (hl_8 hh) (ib_in g14) d_Hall_moveUp_53 ?_
        obtain ⟨σ15, eσ15, h0⟩ := xlet h0
        refine x_sig C eσ15 ?_
        refine x_aload_n C d_Hall_moveUp_54 1 rfl ?_
        refine x_getR (y := 8) C fg_Hall_40 (hl_0 hh) rfl d_Hall_moveUp_55 ?_
        refine x_iload_n C d_Hall_moveUp_58 0 rfl ?_
        refine x_iconst (v := 2) C d_Hall_moveUp_59 (by decide) ?_
        refine x_iadd C d_Hall_moveUp_60 ?_
        refine x_iload_n C d_Hall_moveUp_61 3 rfl ?_
        obtain ⟨g16, h0⟩ := xgo h0
        refine x_iast C (hl_8 hh) (ib_in g16) d_Hall_moveUp_62 ?_
        obtain ⟨σ17, eσ17, h0⟩ := xlet h0
        refine x_sig C eσ17 ?_
        refine x_aload_n C d_Hall_moveUp_63 1 rfl ?_
        refine x_getR (y := 8) C fg_Hall_40 (hl_0 hh) rfl d_Hall_moveUp_64 ?_
        refine x_iload_n C d_Hall_moveUp_67 0 rfl ?_
        refine x_iconst (v := 3) C d_Hall_moveUp_68 (by decide) ?_
        refine x_iadd C d_Hall_moveUp_69 ?_
        refine x_aload_n C d_Hall_moveUp_70 1 rfl ?_
        refine x_getI (y := 0) C fg_Hall_33 (hl_0 hh) rfl d_Hall_moveUp_71 ?_
        obtain ⟨g18, h0⟩ := xgo h0
        refine x_iast C (hl_8 hh) (ib_in g18) d_Hall_moveUp_74 ?_
        obtain ⟨σ19, eσ19, h0⟩ := xlet h0
        refine x_sig C eσ19 ?_
        exact x_lv C [1, 2, 3] rfl (b_Hall_moveUp_75 C hr hk hd hR hh h0)
  · replace h0 := xit q4 h0
    exact x_vret C hr hk h0 d_Hall_moveUp_7
-- LostPlaces$Evening.moveUp(LLostPlaces$Hall;I)I
theorem d_Evening_moveUp_0 : decode prog_3_method_17_code 0 = .ok (.aload_n 0, 1) := by decide +kernel
theorem d_Evening_moveUp_1 : decode prog_3_method_17_code 1 = .ok (.getfield 32, 3) := by decide +kernel
theorem d_Evening_moveUp_4 : decode prog_3_method_17_code 4 = .ok (.iload_n 2, 1) := by decide +kernel
theorem d_Evening_moveUp_5 : decode prog_3_method_17_code 5 = .ok (.invokevirtual 104, 3) := by decide +kernel
theorem d_Evening_moveUp_8 : decode prog_3_method_17_code 8 = .ok (.istore_n 3, 1) := by decide +kernel
theorem d_Evening_moveUp_9 : decode prog_3_method_17_code 9 = .ok (.aload_n 1, 1) := by decide +kernel
theorem d_Evening_moveUp_10 : decode prog_3_method_17_code 10 = .ok (.getfield 101, 3) := by decide +kernel
theorem d_Evening_moveUp_13 : decode prog_3_method_17_code 13 = .ok (.iload_n 3, 1) := by decide +kernel
theorem d_Evening_moveUp_14 : decode prog_3_method_17_code 14 = .ok (.if_icmp .ne 5, 3) := by decide +kernel
theorem d_Evening_moveUp_17 : decode prog_3_method_17_code 17 = .ok (.iconst 0, 1) := by decide +kernel
theorem d_Evening_moveUp_18 : decode prog_3_method_17_code 18 = .ok (.ireturn, 1) := by decide +kernel
theorem d_Evening_moveUp_19 : decode prog_3_method_17_code 19 = .ok (.aload_n 1, 1) := by decide +kernel
theorem d_Evening_moveUp_20 : decode prog_3_method_17_code 20 = .ok (.getfield 158, 3) := by decide +kernel
theorem d_Evening_moveUp_23 : decode prog_3_method_17_code 23 = .ok (.istore 4, 2) := by decide +kernel
theorem d_Evening_moveUp_25 : decode prog_3_method_17_code 25 = .ok (.iconst 0, 1) := by decide +kernel
theorem d_Evening_moveUp_26 : decode prog_3_method_17_code 26 = .ok (.istore 5, 2) := by decide +kernel
theorem d_Evening_moveUp_28 : decode prog_3_method_17_code 28 = .ok (.iload 5, 2) := by decide +kernel
theorem d_Evening_moveUp_30 : decode prog_3_method_17_code 30 = .ok (.sipush 1000, 3) := by decide +kernel
theorem d_Evening_moveUp_33 : decode prog_3_method_17_code 33 = .ok (.if_icmp .ge 121, 3) := by decide +kernel
theorem d_Evening_moveUp_36 : decode prog_3_method_17_code 36 = .ok (.iconst (-1), 1) := by decide +kernel
theorem d_Evening_moveUp_37 : decode prog_3_method_17_code 37 = .ok (.istore 6, 2) := by decide +kernel
theorem d_Evening_moveUp_39 : decode prog_3_method_17_code 39 = .ok (.iconst (-1), 1) := by decide +kernel
theorem d_Evening_moveUp_40 : decode prog_3_method_17_code 40 = .ok (.istore 7, 2) := by decide +kernel
theorem d_Evening_moveUp_42 : decode prog_3_method_17_code 42 = .ok (.iconst 0, 1) := by decide +kernel
theorem d_Evening_moveUp_43 : decode prog_3_method_17_code 43 = .ok (.istore 8, 2) := by decide +kernel
theorem d_Evening_moveUp_45 : decode prog_3_method_17_code 45 = .ok (.iload 8, 2) := by decide +kernel
theorem d_Evening_moveUp_47 : decode prog_3_method_17_code 47 = .ok (.aload_n 0, 1) := by decide +kernel
theorem d_Evening_moveUp_48 : decode prog_3_method_17_code 48 = .ok (.getfield 28, 3) := by decide +kernel
theorem d_Evening_moveUp_51 : decode prog_3_method_17_code 51 = .ok (.getfield 113, 3) := by decide +kernel
theorem d_Evening_moveUp_54 : decode prog_3_method_17_code 54 = .ok (.if_icmp .ge 77, 3) := by decide +kernel
theorem d_Evening_moveUp_57 : decode prog_3_method_17_code 57 = .ok (.aload_n 1, 1) := by decide +kernel
theorem d_Evening_moveUp_58 : decode prog_3_method_17_code 58 = .ok (.iload 8, 2) := by decide +kernel
theorem d_Evening_moveUp_60 : decode prog_3_method_17_code 60 = .ok (.invokevirtual 154, 3) := by decide +kernel
theorem d_Evening_moveUp_63 : decode prog_3_method_17_code 63 = .ok (.ifCond .eq 62, 3) := by decide +kernel
theorem d_Evening_moveUp_66 : decode prog_3_method_17_code 66 = .ok (.iload 6, 2) := by decide +kernel
theorem d_Evening_moveUp_68 : decode prog_3_method_17_code 68 = .ok (.iconst (-1), 1) := by decide +kernel
theorem d_Evening_moveUp_69 : decode prog_3_method_17_code 69 = .ok (.if_icmp .eq 29, 3) := by decide +kernel
theorem d_Evening_moveUp_72 : decode prog_3_method_17_code 72 = .ok (.aload_n 0, 1) := by decide +kernel
theorem d_Evening_moveUp_73 : decode prog_3_method_17_code 73 = .ok (.getfield 28, 3) := by decide +kernel
theorem d_Evening_moveUp_76 : decode prog_3_method_17_code 76 = .ok (.getfield 161, 3) := by decide +kernel
theorem d_Evening_moveUp_79 : decode prog_3_method_17_code 79 = .ok (.iload 8, 2) := by decide +kernel
theorem d_Evening_moveUp_81 : decode prog_3_method_17_code 81 = .ok (.iaload, 1) := by decide +kernel
theorem d_Evening_moveUp_82 : decode prog_3_method_17_code 82 = .ok (.aload_n 0, 1) := by decide +kernel
theorem d_Evening_moveUp_83 : decode prog_3_method_17_code 83 = .ok (.getfield 28, 3) := by decide +kernel
theorem d_Evening_moveUp_86 : decode prog_3_method_17_code 86 = .ok (.getfield 161, 3) := by decide +kernel
theorem d_Evening_moveUp_89 : decode prog_3_method_17_code 89 = .ok (.iload 6, 2) := by decide +kernel
theorem d_Evening_moveUp_91 : decode prog_3_method_17_code 91 = .ok (.iaload, 1) := by decide +kernel
theorem d_Evening_moveUp_92 : decode prog_3_method_17_code 92 = .ok (.if_icmp .gt 6, 3) := by decide +kernel
theorem d_Evening_moveUp_95 : decode prog_3_method_17_code 95 = .ok (.goto 30, 3) := by decide +kernel
theorem d_Evening_moveUp_98 : decode prog_3_method_17_code 98 = .ok (.aload_n 0, 1) := by decide +kernel
theorem d_Evening_moveUp_99 : decode prog_3_method_17_code 99 = .ok (.aload_n 1, 1) := by decide +kernel
theorem d_Evening_moveUp_100 : decode prog_3_method_17_code 100 = .ok (.iload_n 2, 1) := by decide +kernel
theorem d_Evening_moveUp_101 : decode prog_3_method_17_code 101 = .ok (.iload 8, 2) := by decide +kernel
theorem d_Evening_moveUp_103 : decode prog_3_method_17_code 103 = .ok (.invokevirtual 164, 3) := by decide +kernel
theorem d_Evening_moveUp_106 : decode prog_3_method_17_code 106 = .ok (.istore 9, 2) := by decide +kernel
theorem d_Evening_moveUp_108 : decode prog_3_method_17_code 108 = .ok (.iload 9, 2) := by decide +kernel
theorem d_Evening_moveUp_110 : decode prog_3_method_17_code 110 = .ok (.iconst (-1), 1) := by decide +kernel
theorem d_Evening_moveUp_111 : decode prog_3_method_17_code 111 = .ok (.if_icmp .ne 6, 3) := by decide +kernel
theorem d_Evening_moveUp_114 : decode prog_3_method_17_code 114 = .ok (.goto 11, 3) := by decide +kernel
theorem d_Evening_moveUp_117 : decode prog_3_method_17_code 117 = .ok (.iload 8, 2) := by decide +kernel
theorem d_Evening_moveUp_119 : decode prog_3_method_17_code 119 = .ok (.istore 6, 2) := by decide +kernel
theorem d_Evening_moveUp_121 : decode prog_3_method_17_code 121 = .ok (.iload 9, 2) := by decide +kernel
theorem d_Evening_moveUp_123 : decode prog_3_method_17_code 123 = .ok (.istore 7, 2) := by decide +kernel
theorem d_Evening_moveUp_125 : decode prog_3_method_17_code 125 = .ok (.iinc 8 1, 3) := by decide +kernel
theorem d_Evening_moveUp_128 : decode prog_3_method_17_code 128 = .ok (.goto (-83), 3) := by decide +kernel
theorem d_Evening_moveUp_131 : decode prog_3_method_17_code 131 = .ok (.iload 7, 2) := by decide +kernel
theorem d_Evening_moveUp_133 : decode prog_3_method_17_code 133 = .ok (.iconst (-1), 1) := by decide +kernel
theorem d_Evening_moveUp_134 : decode prog_3_method_17_code 134 = .ok (.if_icmp .ne 6, 3) := by decide +kernel
theorem d_Evening_moveUp_137 : decode prog_3_method_17_code 137 = .ok (.goto 17, 3) := by decide +kernel
theorem d_Evening_moveUp_140 : decode prog_3_method_17_code 140 = .ok (.aload_n 1, 1) := by decide +kernel
theorem d_Evening_moveUp_141 : decode prog_3_method_17_code 141 = .ok (.iload 7, 2) := by decide +kernel
theorem d_Evening_moveUp_143 : decode prog_3_method_17_code 143 = .ok (.iload 6, 2) := by decide +kernel
theorem d_Evening_moveUp_145 : decode prog_3_method_17_code 145 = .ok (.invokevirtual 167, 3) := by decide +kernel
theorem d_Evening_moveUp_148 : decode prog_3_method_17_code 148 = .ok (.iinc 5 1, 3) := by decide +kernel
theorem d_Evening_moveUp_151 : decode prog_3_method_17_code 151 = .ok (.goto (-123), 3) := by decide +kernel
theorem d_Evening_moveUp_154 : decode prog_3_method_17_code 154 = .ok (.aload_n 1, 1) := by decide +kernel
theorem d_Evening_moveUp_155 : decode prog_3_method_17_code 155 = .ok (.iload_n 3, 1) := by decide +kernel
theorem d_Evening_moveUp_156 : decode prog_3_method_17_code 156 = .ok (.putfield 101, 3) := by decide +kernel
theorem d_Evening_moveUp_159 : decode prog_3_method_17_code 159 = .ok (.aload_n 1, 1) := by decide +kernel
theorem d_Evening_moveUp_160 : decode prog_3_method_17_code 160 = .ok (.getfield 158, 3) := by decide +kernel
theorem d_Evening_moveUp_163 : decode prog_3_method_17_code 163 = .ok (.iload 4, 2) := by decide +kernel
theorem d_Evening_moveUp_165 : decode prog_3_method_17_code 165 = .ok (.isub, 1) := by decide +kernel
theorem d_Evening_moveUp_166 : decode prog_3_method_17_code 166 = .ok (.ireturn, 1) := by decide +kernel
def s_Evening_moveUp_154 (p0 : Nat) (p1 : Int32) (y3 : Int32) (y4 : Int32) (σ : LH) : Option (Int32 × LH) :=
  xl ((stI σ p0 10 y3) : LH) fun σ7 =>
  some (((σ7.1 p0 8) - y4), σ7)
theorem b_Evening_moveUp_154 {G : XG} {l : Launch} {p : Program} {e : Env} {R : Room} {s : State} {m : MethodId} {args : Array Value} {below : List Frame} {meth : Method} {c : Code} (C : XC G 1 570 p s m args c prog_3_method_17_code 10 R_Evening) (hr : meth.sig.returnType = (some .int)) (hk : meth.locks = false) {d : Nat} (hd : 3 ≤ d + 1) (hR : xroom R (d + 1)) {p0 : Nat} {p1 : Int32} (hp0 : p0 ∈ xHalls) {σ' : LH} {r : Int32} {y3 : Int32} {y4 : Int32} {σ : LH} (h0 : s_Evening_moveUp_154 p0 p1 y3 y4 σ = some (r, σ')) : XJ G 1 570 p l e R s m args below meth c 10 (XQ G 1 570 below args s (some (.int r)) σ') 0 0 154 [(1, .ref (G.2.2.1 + p0)), (3, .int y3), (4, .int y4)] [] σ := by
  replace h0 := (show _ = _ from h0)
  unfold s_Evening_moveUp_154 at h0
  refine x_aload_n C d_Evening_moveUp_154 0 rfl ?_
  refine x_iload_n C d_Evening_moveUp_155 1 rfl ?_
  refine x_putI (y := 0) C fp_Evening_101 (hl_0 hp0) rfl rfl rfl d_Evening_moveUp_156 ?_
  obtain ⟨σ7, eσ7, h0⟩ := xlet h0
  refine x_sig C eσ7 ?_
  refine x_aload_n C d_Evening_moveUp_159 0 rfl ?_
  refine x_getI (y := 0) C fg_Evening_158 (hl_0 hp0) rfl d_Evening_moveUp_160 ?_
  refine x_iload C d_Evening_moveUp_163 2 rfl ?_
  refine x_isub C d_Evening_moveUp_165 ?_
  exact x_iret C hr hk h0 d_Evening_moveUp_166
def s_Evening_moveUp_125 (p0 : Nat) (p1 : Int32) (rec45 : Int32 → Int32 → Int32 → Int32 → Int32 → Int32 → LH → Option (Int32 × LH)) (y3 : Int32) (y4 : Int32) (y5 : Int32) (y6 : Int32) (y7 : Int32) (y8 : Int32) (σ : LH) : Option (Int32 × LH) :=
  xl ((y8 + 1) : Int32) fun x17 =>
  rec45 y3 y4 y5 y6 y7 x17 σ
theorem b_Evening_moveUp_125 {G : XG} {l : Launch} {p : Program} {e : Env} {R : Room} {s : State} {m : MethodId} {args : Array Value} {below : List Frame} {meth : Method} {c : Code} (C : XC G 1 570 p s m args c prog_3_method_17_code 10 R_Evening) (hr : meth.sig.returnType = (some .int)) (hk : meth.locks = false) {d : Nat} (hd : 3 ≤ d + 1) (hR : xroom R (d + 1)) {p0 : Nat} {p1 : Int32} (hp0 : p0 ∈ xHalls) {rec45 : Int32 → Int32 → Int32 → Int32 → Int32 → Int32 → LH → Option (Int32 × LH)} {σ' : LH} {r : Int32} (hrec45 : ∀ (y3 : Int32) (y4 : Int32) (y5 : Int32) (y6 : Int32) (y7 : Int32) (y8 : Int32) (σ : LH), rec45 y3 y4 y5 y6 y7 y8 σ = some (r, σ') → XJ G 1 570 p l e R s m args below meth c 10 (XQ G 1 570 below args s (some (.int r)) σ') 0 0 45 [(0, .ref (G.2.2.1 + 38)), (1, .ref (G.2.2.1 + p0)), (2, .int p1), (3, .int y3), (4, .int y4), (5, .int y5), (6, .int y6), (7, .int y7), (8, .int y8)] [] σ) {y3 : Int32} {y4 : Int32} {y5 : Int32} {y6 : Int32} {y7 : Int32} {y8 : Int32} {σ : LH} (h0 : s_Evening_moveUp_125 p0 p1 rec45 y3 y4 y5 y6 y7 y8 σ = some (r, σ')) : XJ G 1 570 p l e R s m args below meth c 10 (XQ G 1 570 below args s (some (.int r)) σ') 0 0 125 [(0, .ref (G.2.2.1 + 38)), (1, .ref (G.2.2.1 + p0)), (2, .int p1), (3, .int y3), (4, .int y4), (5, .int y5), (6, .int y6), (7, .int y7), (8, .int y8)] [] σ := by
  replace h0 := (show _ = _ from h0)
  unfold s_Evening_moveUp_125 at h0
  obtain ⟨x17, ex17, h0⟩ := xlet h0
  refine x_iinc (lv' := [(8, .int x17), (0, .ref (G.2.2.1 + 38)), (1, .ref (G.2.2.1 + p0)), (2, .int p1), (3, .int y3), (4, .int y4), (5, .int y5), (6, .int y6), (7, .int y7)]) C d_Evening_moveUp_125 8 rfl ex17 (by decide) rfl ?_
  refine x_goto C 45 d_Evening_moveUp_128 (by decide) ?_
  exact x_lv C [1, 2, 3, 4, 5, 6, 7, 8, 0] rfl (hrec45 _ _ _ _ _ _ _ h0)
def s_Evening_moveUp_98 (p0 : Nat) (p1 : Int32) (rec45 : Int32 → Int32 → Int32 → Int32 → Int32 → Int32 → LH → Option (Int32 × LH)) (y3 : Int32) (y4 : Int32) (y5 : Int32) (y6 : Int32) (y7 : Int32) (y8 : Int32) (σ : LH) : Option (Int32 × LH) :=
  xb2 (s_Evening_takerOf p0 p1 y8 σ) fun r20 σ21 =>
  if r20 = (-1) then (
   s_Evening_moveUp_125 p0 p1 rec45 y3 y4 y5 y6 y7 y8 σ21)
  else (
   s_Evening_moveUp_125 p0 p1 rec45 y3 y4 y5 y8 r20 y8 σ21)
theorem b_Evening_moveUp_98 {G : XG} {l : Launch} {p : Program} {e : Env} {R : Room} {s : State} {m : MethodId} {args : Array Value} {below : List Frame} {meth : Method} {c : Code} (C : XC G 1 570 p s m args c prog_3_method_17_code 10 R_Evening) (hr : meth.sig.returnType = (some .int)) (hk : meth.locks = false) {d : Nat} (hd : 3 ≤ d + 1) (hR : xroom R (d + 1)) {p0 : Nat} {p1 : Int32} (hp0 : p0 ∈ xHalls) {rec45 : Int32 → Int32 → Int32 → Int32 → Int32 → Int32 → LH → Option (Int32 × LH)} {σ' : LH} {r : Int32} (hrec45 : ∀ (y3 : Int32) (y4 : Int32) (y5 : Int32) (y6 : Int32) (y7 : Int32) (y8 : Int32) (σ : LH), rec45 y3 y4 y5 y6 y7 y8 σ = some (r, σ') → XJ G 1 570 p l e R s m args below meth c 10 (XQ G 1 570 below args s (some (.int r)) σ') 0 0 45 [(0, .ref (G.2.2.1 + 38)), (1, .ref (G.2.2.1 + p0)), (2, .int p1), (3, .int y3), (4, .int y4), (5, .int y5), (6, .int y6), (7, .int y7), (8, .int y8)] [] σ) {y3 : Int32} {y4 : Int32} {y5 : Int32} {y6 : Int32} {y7 : Int32} {y8 : Int32} {σ : LH} (h0 : s_Evening_moveUp_98 p0 p1 rec45 y3 y4 y5 y6 y7 y8 σ = some (r, σ')) : XJ G 1 570 p l e R s m args below meth c 10 (XQ G 1 570 below args s (some (.int r)) σ') 0 0 98 [(0, .ref (G.2.2.1 + 38)), (1, .ref (G.2.2.1 + p0)), (2, .int p1), (3, .int y3), (4, .int y4), (5, .int y5), (6, .int y6), (7, .int y7), (8, .int y8)] [] σ := by
  replace h0 := (show _ = _ from h0)
  unfold s_Evening_moveUp_98 at h0
  refine x_aload_n C d_Evening_moveUp_98 0 rfl ?_
  refine x_aload_n C d_Evening_moveUp_99 1 rfl ?_
  refine x_iload_n C d_Evening_moveUp_100 2 rfl ?_
  refine x_iload C d_Evening_moveUp_101 8 rfl ?_
  obtain ⟨r20, σ21, k19, h0⟩ := xbind2 h0
  refine x_callVi C hR (c_Evening_takerOf (d := d) (by omega) hp0 k19) cw_Evening_164 k_38 rfl rfl rfl (Nat.le_of_ble_eq_true rfl) ⟨Nat.zero_le _, Nat.zero_le _⟩ d_Evening_moveUp_103 ?_
  refine x_istore (lv' := [(9, .int r20), (0, .ref (G.2.2.1 + 38)), (1, .ref (G.2.2.1 + p0)), (2, .int p1), (3, .int y3), (4, .int y4), (5, .int y5), (6, .int y6), (7, .int y7), (8, .int y8)]) C d_Evening_moveUp_106 (by decide) rfl ?_
  refine x_iload C d_Evening_moveUp_108 0 rfl ?_
  refine x_iconst (v := (-1)) C d_Evening_moveUp_110 (by decide) ?_
  refine x_icmp_ne C 117 d_Evening_moveUp_111 (by decide) (fun q22 => ?_) (fun q22 => ?_)
  · replace h0 := xif q22 h0
    refine x_iload C d_Evening_moveUp_117 9 rfl ?_
    refine x_istore (lv' := [(6, .int y8), (9, .int r20), (0, .ref (G.2.2.1 + 38)), (1, .ref (G.2.2.1 + p0)), (2, .int p1), (3, .int y3), (4, .int y4), (5, .int y5), (7, .int y7), (8, .int y8)]) C d_Evening_moveUp_119 (by decide) rfl ?_
    refine x_iload C d_Evening_moveUp_121 1 rfl ?_
    refine x_istore (lv' := [(7, .int r20), (6, .int y8), (9, .int r20), (0, .ref (G.2.2.1 + 38)), (1, .ref (G.2.2.1 + p0)), (2, .int p1), (3, .int y3), (4, .int y4), (5, .int y5), (8, .int y8)]) C d_Evening_moveUp_123 (by decide) rfl ?_
    exact x_lv C [3, 4, 5, 6, 7, 8, 1, 0, 9] rfl (b_Evening_moveUp_125 C hr hk hd hR hp0 hrec45 h0)
  · replace h0 := xit q22 h0
    refine x_goto C 125 d_Evening_moveUp_114 (by decide) ?_
    exact x_lv C [1, 2, 3, 4, 5, 6, 7, 8, 9] rfl (b_Evening_moveUp_125 C hr hk hd hR hp0 hrec45 h0)
def s_Evening_moveUp_45_b (p0 : Nat) (p1 : Int32) (rec28 : Int32 → Int32 → Int32 → LH → Option (Int32 × LH)) (rec45 : Int32 → Int32 → Int32 → Int32 → Int32 → Int32 → LH → Option (Int32 × LH)) (y3 : Int32) (y4 : Int32) (y5 : Int32) (y6 : Int32) (y7 : Int32) (y8 : Int32) (σ : LH) : Option (Int32 × LH) :=
  if (σ.1 4 0) ≤ y8 then (
   if y7 = (-1) then (
    s_Evening_moveUp_154 p0 p1 y3 y4 σ)
   else (
    xb1 (s_Hall_moveUp p0 y7 y6 σ) fun σ11 =>
    xl ((y5 + 1) : Int32) fun x12 =>
    rec28 y3 y4 x12 σ11))
  else (
   xb2 (s_Hall_isFree p0 y8 σ) fun r14 σ15 =>
   if r14 = 0 then (
    s_Evening_moveUp_125 p0 p1 rec45 y3 y4 y5 y6 y7 y8 σ15)
   else (
    if y6 = (-1) then (
     s_Evening_moveUp_98 p0 p1 rec45 y3 y4 y5 y6 y7 y8 σ15)
    else (
     if ib y8 8 then (
     if ib y6 8 then (
     if (σ15.1 5 (Int32.toNatClampNeg y6)) < (σ15.1 5 (Int32.toNatClampNeg y8)) then (
      s_Evening_moveUp_98 p0 p1 rec45 y3 y4 y5 y6 y7 y8 σ15)
     else (
      s_Evening_moveUp_125 p0 p1 rec45 y3 y4 y5 y6 y7 y8 σ15)) else none) else none)))
def s_Evening_moveUp_45 (p0 : Nat) (p1 : Int32) (rec28 : Int32 → Int32 → Int32 → LH → Option (Int32 × LH)) : Nat → Int32 → Int32 → Int32 → Int32 → Int32 → Int32 → LH → Option (Int32 × LH)
  | 0, _, _, _, _, _, _, _ => none
  | n + 1, y3, y4, y5, y6, y7, y8, σ => s_Evening_moveUp_45_b p0 p1 rec28 (s_Evening_moveUp_45 p0 p1 rec28 n) y3 y4 y5 y6 y7 y8 σ
theorem bb_Evening_moveUp_45 {G : XG} {l : Launch} {p : Program} {e : Env} {R : Room} {s : State} {m : MethodId} {args : Array Value} {below : List Frame} {meth : Method} {c : Code} (C : XC G 1 570 p s m args c prog_3_method_17_code 10 R_Evening) (hr : meth.sig.returnType = (some .int)) (hk : meth.locks = false) {d : Nat} (hd : 3 ≤ d + 1) (hR : xroom R (d + 1)) {p0 : Nat} {p1 : Int32} (hp0 : p0 ∈ xHalls) {rec28 : Int32 → Int32 → Int32 → LH → Option (Int32 × LH)} {rec45 : Int32 → Int32 → Int32 → Int32 → Int32 → Int32 → LH → Option (Int32 × LH)} {σ' : LH} {r : Int32} (hrec28 : ∀ (y3 : Int32) (y4 : Int32) (y5 : Int32) (σ : LH), rec28 y3 y4 y5 σ = some (r, σ') → XJ G 1 570 p l e R s m args below meth c 10 (XQ G 1 570 below args s (some (.int r)) σ') 0 0 28 [(0, .ref (G.2.2.1 + 38)), (1, .ref (G.2.2.1 + p0)), (2, .int p1), (3, .int y3), (4, .int y4), (5, .int y5)] [] σ) (hrec45 : ∀ (y3 : Int32) (y4 : Int32) (y5 : Int32) (y6 : Int32) (y7 : Int32) (y8 : Int32) (σ : LH), rec45 y3 y4 y5 y6 y7 y8 σ = some (r, σ') → XJ G 1 570 p l e R s m args below meth c 10 (XQ G 1 570 below args s (some (.int r)) σ') 0 0 45 [(0, .ref (G.2.2.1 + 38)), (1, .ref (G.2.2.1 + p0)), (2, .int p1), (3, .int y3), (4, .int y4), (5, .int y5), (6, .int y6), (7, .int y7), (8, .int y8)] [] σ) {y3 : Int32} {y4 : Int32} {y5 : Int32} {y6 : Int32} {y7 : Int32} {y8 : Int32} {σ : LH} (h0 : s_Evening_moveUp_45_b p0 p1 rec28 rec45 y3 y4 y5 y6 y7 y8 σ = some (r, σ')) : XJ G 1 570 p l e R s m args below meth c 10 (XQ G 1 570 below args s (some (.int r)) σ') 0 0 45 [(0, .ref (G.2.2.1 + 38)), (1, .ref (G.2.2.1 + p0)), (2, .int p1), (3, .int y3), (4, .int y4), (5, .int y5), (6, .int y6), (7, .int y7), (8, .int y8)] [] σ := by
  replace h0 := (show _ = _ from h0)
  unfold s_Evening_moveUp_45_b at h0
  refine x_iload C d_Evening_moveUp_45 8 rfl ?_
  refine x_aload_n C d_Evening_moveUp_47 0 rfl ?_
  refine x_getA (y := 4) C fg_Evening_28 k_38 rfl d_Evening_moveUp_48 ?_
  refine x_getI (y := 0) C fg_Evening_113 k_4 rfl d_Evening_moveUp_51 ?_
  refine x_icmp_ge C 131 d_Evening_moveUp_54 (by decide) (fun q8 => ?_) (fun q8 => ?_)
  · replace h0 := xit q8 h0
    refine x_iload C d_Evening_moveUp_131 7 rfl ?_
    refine x_iconst (v := (-1)) C d_Evening_moveUp_133 (by decide) ?_
    refine x_icmp_ne C 140 d_Evening_moveUp_134 (by decide) (fun q9 => ?_) (fun q9 => ?_)
    · replace h0 := xif q9 h0
      refine x_aload_n C d_Evening_moveUp_140 1 rfl ?_
      refine x_iload C d_Evening_moveUp_141 7 rfl ?_
      refine x_iload C d_Evening_moveUp_143 6 rfl ?_
      obtain ⟨σ11, k10, h0⟩ := xbind1 h0
      refine x_callVv C hR (c_Hall_moveUp (d := d) (by omega) hp0 k10) cw_Evening_167 (hl_0 hp0) rfl rfl rfl (Nat.le_of_ble_eq_true rfl) ⟨Nat.zero_le _, Nat.zero_le _⟩ d_Evening_moveUp_145 ?_
      obtain ⟨x12, ex12, h0⟩ := xlet h0
      refine x_iinc (lv' := [(5, .int x12), (0, .ref (G.2.2.1 + 38)), (1, .ref (G.2.2.1 + p0)), (2, .int p1), (3, .int y3), (4, .int y4), (6, .int y6), (7, .int y7), (8, .int y8)]) C d_Evening_moveUp_148 5 rfl ex12 (by decide) rfl ?_
      refine x_goto C 28 d_Evening_moveUp_151 (by decide) ?_
      exact x_lv C [1, 2, 3, 4, 5, 0] rfl (hrec28 _ _ _ _ h0)
    · replace h0 := xit q9 h0
      refine x_goto C 154 d_Evening_moveUp_137 (by decide) ?_
      exact x_lv C [1, 3, 4] rfl (b_Evening_moveUp_154 C hr hk hd hR hp0 h0)
  · replace h0 := xif q8 h0
    refine x_aload_n C d_Evening_moveUp_57 1 rfl ?_
    refine x_iload C d_Evening_moveUp_58 8 rfl ?_
    obtain ⟨r14, σ15, k13, h0⟩ := xbind2 h0
    refine x_callVi C hR (c_Hall_isFree (d := d) (by omega) hp0 k13) cw_Evening_154 (hl_0 hp0) rfl rfl rfl (Nat.le_of_ble_eq_true rfl) ⟨Nat.zero_le _, Nat.zero_le _⟩ d_Evening_moveUp_60 ?_
    refine x_if_eq C 125 d_Evening_moveUp_63 (by decide) (fun q16 => ?_) (fun q16 => ?_)
    · replace h0 := xit q16 h0
      exact x_lv C [0, 1, 2, 3, 4, 5, 6, 7, 8] rfl (b_Evening_moveUp_125 C hr hk hd hR hp0 hrec45 h0)
    · replace h0 := xif q16 h0
      refine x_iload C d_Evening_moveUp_66 6 rfl ?_
      refine x_iconst (v := (-1)) C d_Evening_moveUp_68 (by decide) ?_
      refine x_icmp_eq C 98 d_Evening_moveUp_69 (by decide) (fun q18 => ?_) (fun q18 => ?_)
      · replace h0 := xit q18 h0
        exact x_lv C [0, 1, 2, 3, 4, 5, 6, 7, 8] rfl (b_Evening_moveUp_98 C hr hk hd hR hp0 hrec45 h0)
      · replace h0 := xif q18 h0
        refine x_aload_n C d_Evening_moveUp_72 0 rfl ?_
        refine x_getA (y := 4) C fg_Evening_28 k_38 rfl d_Evening_moveUp_73 ?_
        refine x_getR (y := 1) C fg_Evening_161 k_4 rfl d_Evening_moveUp_76 ?_
        show XJ _ _ _ _ _ _ _ _ _ _ _ _ _ _ _ _ _ _ _ (.ref (G.2.2.1 + 5) :: _) _
        refine x_iload C d_Evening_moveUp_79 8 rfl ?_
        obtain ⟨g23, h0⟩ := xgo h0
        refine x_iald C k_5 (ib_in g23) d_Evening_moveUp_81 ?_
        refine x_aload_n C d_Evening_moveUp_82 0 rfl ?_
        refine x_getA (y := 4) C fg_Evening_28 k_38 rfl d_Evening_moveUp_83 ?_
        refine x_getR (y := 1) C fg_Evening_161 k_4 rfl d_Evening_moveUp_86 ?_
        show XJ _ _ _ _ _ _ _ _ _ _ _ _ _ _ _ _ _ _ _ (.ref (G.2.2.1 + 5) :: _) _
        refine x_iload C d_Evening_moveUp_89 6 rfl ?_
        obtain ⟨g24, h0⟩ := xgo h0
        refine x_iald C k_5 (ib_in g24) d_Evening_moveUp_91 ?_
        refine x_icmp_gt C 98 d_Evening_moveUp_92 (by decide) (fun q25 => ?_) (fun q25 => ?_)
        · replace h0 := xit q25 h0
          exact x_lv C [0, 1, 2, 3, 4, 5, 6, 7, 8] rfl (b_Evening_moveUp_98 C hr hk hd hR hp0 hrec45 h0)
        · replace h0 := xif q25 h0
          refine x_goto C 125 d_Evening_moveUp_95 (by decide) ?_
          exact x_lv C [0, 1, 2, 3, 4, 5, 6, 7, 8] rfl (b_Evening_moveUp_125 C hr hk hd hR hp0 hrec45 h0)
theorem b_Evening_moveUp_45 {G : XG} {l : Launch} {p : Program} {e : Env} {R : Room} {s : State} {m : MethodId} {args : Array Value} {below : List Frame} {meth : Method} {c : Code} (C : XC G 1 570 p s m args c prog_3_method_17_code 10 R_Evening) (hr : meth.sig.returnType = (some .int)) (hk : meth.locks = false) {d : Nat} (hd : 3 ≤ d + 1) (hR : xroom R (d + 1)) {p0 : Nat} {p1 : Int32} (hp0 : p0 ∈ xHalls) {rec28 : Int32 → Int32 → Int32 → LH → Option (Int32 × LH)} {σ' : LH} {r : Int32} (hrec28 : ∀ (y3 : Int32) (y4 : Int32) (y5 : Int32) (σ : LH), rec28 y3 y4 y5 σ = some (r, σ') → XJ G 1 570 p l e R s m args below meth c 10 (XQ G 1 570 below args s (some (.int r)) σ') 0 0 28 [(0, .ref (G.2.2.1 + 38)), (1, .ref (G.2.2.1 + p0)), (2, .int p1), (3, .int y3), (4, .int y4), (5, .int y5)] [] σ) : ∀ (n : Nat) (y3 : Int32) (y4 : Int32) (y5 : Int32) (y6 : Int32) (y7 : Int32) (y8 : Int32) (σ : LH), s_Evening_moveUp_45 p0 p1 rec28 n y3 y4 y5 y6 y7 y8 σ = some (r, σ') → XJ G 1 570 p l e R s m args below meth c 10 (XQ G 1 570 below args s (some (.int r)) σ') 0 0 45 [(0, .ref (G.2.2.1 + 38)), (1, .ref (G.2.2.1 + p0)), (2, .int p1), (3, .int y3), (4, .int y4), (5, .int y5), (6, .int y6), (7, .int y7), (8, .int y8)] [] σ := by
  intro n
  induction n with
  | zero => intro y3 y4 y5 y6 y7 y8 σ h0; cases h0
  | succ n ih => intro y3 y4 y5 y6 y7 y8 σ h0; exact bb_Evening_moveUp_45 C hr hk hd hR hp0 hrec28 ih h0
def s_Evening_moveUp_28_b (p0 : Nat) (p1 : Int32) (rec28 : Int32 → Int32 → Int32 → LH → Option (Int32 × LH)) (y3 : Int32) (y4 : Int32) (y5 : Int32) (σ : LH) : Option (Int32 × LH) :=
  if 1000 ≤ y5 then (
   s_Evening_moveUp_154 p0 p1 y3 y4 σ)
  else (
   s_Evening_moveUp_45 p0 p1 rec28 FUEL y3 y4 y5 (-1) (-1) 0 σ)
def s_Evening_moveUp_28 (p0 : Nat) (p1 : Int32) : Nat → Int32 → Int32 → Int32 → LH → Option (Int32 × LH)
  | 0, _, _, _, _ => none
  | n + 1, y3, y4, y5, σ => s_Evening_moveUp_28_b p0 p1 (s_Evening_moveUp_28 p0 p1 n) y3 y4 y5 σ
theorem bb_Evening_moveUp_28 {G : XG} {l : Launch} {p : Program} {e : Env} {R : Room} {s : State} {m : MethodId} {args : Array Value} {below : List Frame} {meth : Method} {c : Code} (C : XC G 1 570 p s m args c prog_3_method_17_code 10 R_Evening) (hr : meth.sig.returnType = (some .int)) (hk : meth.locks = false) {d : Nat} (hd : 3 ≤ d + 1) (hR : xroom R (d + 1)) {p0 : Nat} {p1 : Int32} (hp0 : p0 ∈ xHalls) {rec28 : Int32 → Int32 → Int32 → LH → Option (Int32 × LH)} {σ' : LH} {r : Int32} (hrec28 : ∀ (y3 : Int32) (y4 : Int32) (y5 : Int32) (σ : LH), rec28 y3 y4 y5 σ = some (r, σ') → XJ G 1 570 p l e R s m args below meth c 10 (XQ G 1 570 below args s (some (.int r)) σ') 0 0 28 [(0, .ref (G.2.2.1 + 38)), (1, .ref (G.2.2.1 + p0)), (2, .int p1), (3, .int y3), (4, .int y4), (5, .int y5)] [] σ) {y3 : Int32} {y4 : Int32} {y5 : Int32} {σ : LH} (h0 : s_Evening_moveUp_28_b p0 p1 rec28 y3 y4 y5 σ = some (r, σ')) : XJ G 1 570 p l e R s m args below meth c 10 (XQ G 1 570 below args s (some (.int r)) σ') 0 0 28 [(0, .ref (G.2.2.1 + 38)), (1, .ref (G.2.2.1 + p0)), (2, .int p1), (3, .int y3), (4, .int y4), (5, .int y5)] [] σ := by
  replace h0 := (show _ = _ from h0)
  unfold s_Evening_moveUp_28_b at h0
  refine x_iload C d_Evening_moveUp_28 5 rfl ?_
  refine x_sipush (v := 1000) C d_Evening_moveUp_30 (by decide) ?_
  refine x_icmp_ge C 154 d_Evening_moveUp_33 (by decide) (fun q6 => ?_) (fun q6 => ?_)
  · replace h0 := xit q6 h0
    exact x_lv C [1, 3, 4] rfl (b_Evening_moveUp_154 C hr hk hd hR hp0 h0)
  · replace h0 := xif q6 h0
    refine x_iconst (v := (-1)) C d_Evening_moveUp_36 (by decide) ?_
    refine x_istore (lv' := [(6, .int (-1)), (0, .ref (G.2.2.1 + 38)), (1, .ref (G.2.2.1 + p0)), (2, .int p1), (3, .int y3), (4, .int y4), (5, .int y5)]) C d_Evening_moveUp_37 (by decide) rfl ?_
    refine x_iconst (v := (-1)) C d_Evening_moveUp_39 (by decide) ?_
    refine x_istore (lv' := [(7, .int (-1)), (6, .int (-1)), (0, .ref (G.2.2.1 + 38)), (1, .ref (G.2.2.1 + p0)), (2, .int p1), (3, .int y3), (4, .int y4), (5, .int y5)]) C d_Evening_moveUp_40 (by decide) rfl ?_
    refine x_iconst (v := 0) C d_Evening_moveUp_42 (by decide) ?_
    refine x_istore (lv' := [(8, .int 0), (7, .int (-1)), (6, .int (-1)), (0, .ref (G.2.2.1 + 38)), (1, .ref (G.2.2.1 + p0)), (2, .int p1), (3, .int y3), (4, .int y4), (5, .int y5)]) C d_Evening_moveUp_43 (by decide) rfl ?_
    exact x_lv C [3, 4, 5, 6, 7, 8, 2, 1, 0] rfl (b_Evening_moveUp_45 C hr hk hd hR hp0 hrec28 FUEL _ _ _ _ _ _ _ h0)
theorem b_Evening_moveUp_28 {G : XG} {l : Launch} {p : Program} {e : Env} {R : Room} {s : State} {m : MethodId} {args : Array Value} {below : List Frame} {meth : Method} {c : Code} (C : XC G 1 570 p s m args c prog_3_method_17_code 10 R_Evening) (hr : meth.sig.returnType = (some .int)) (hk : meth.locks = false) {d : Nat} (hd : 3 ≤ d + 1) (hR : xroom R (d + 1)) {p0 : Nat} {p1 : Int32} (hp0 : p0 ∈ xHalls) {σ' : LH} {r : Int32} : ∀ (n : Nat) (y3 : Int32) (y4 : Int32) (y5 : Int32) (σ : LH), s_Evening_moveUp_28 p0 p1 n y3 y4 y5 σ = some (r, σ') → XJ G 1 570 p l e R s m args below meth c 10 (XQ G 1 570 below args s (some (.int r)) σ') 0 0 28 [(0, .ref (G.2.2.1 + 38)), (1, .ref (G.2.2.1 + p0)), (2, .int p1), (3, .int y3), (4, .int y4), (5, .int y5)] [] σ := by
  intro n
  induction n with
  | zero => intro y3 y4 y5 σ h0; cases h0
  | succ n ih => intro y3 y4 y5 σ h0; exact bb_Evening_moveUp_28 C hr hk hd hR hp0 ih h0
def s_Evening_moveUp (p0 : Nat) (p1 : Int32) (σ : LH) : Option (Int32 × LH) :=
  xb2 (s_Likings_mark p1 σ) fun r2 σ3 =>
  if (σ3.1 p0 10) = r2 then (
   some (0, σ3))
  else (
   xl (((σ3.1 p0 8)) : Int32) fun x5 =>
   s_Evening_moveUp_28 p0 p1 FUEL r2 x5 0 σ3)
theorem c_Evening_moveUp {G : XG} {l : Launch} {d : Nat} (hd : 3 ≤ d) {p0 : Nat} {p1 : Int32} (hp0 : p0 ∈ xHalls) {σ σ' : LH} {r : Int32} (h0 : s_Evening_moveUp p0 p1 σ = some (r, σ')) : xM G 1 570 l y_Evening_moveUp prog_3_method_17_code 10 (some .int) d [.ref (G.2.2.1 + 38), .ref (G.2.2.1 + p0), .int p1] σ (some (.int r)) σ' := by
  obtain ⟨d, rfl⟩ : ∃ q, d = q + 1 := ⟨d - 1, by omega⟩
  refine x_met R_Evening rfl (by decide +kernel) (Nat.le_of_ble_eq_true rfl) fun p e s m below meth c C hr hk hR => ?_
  refine x_lv (lv' := [(0, .ref (G.2.2.1 + 38)), (1, .ref (G.2.2.1 + p0)), (2, .int p1)]) C [0, 1, 2] rfl ?_
  generalize xrm (d + 1) = R at hR ⊢
  unfold s_Evening_moveUp at h0
  refine x_aload_n C d_Evening_moveUp_0 0 rfl ?_
  refine x_getA (y := 33) C fg_Evening_32 k_38 rfl d_Evening_moveUp_1 ?_
  refine x_iload_n C d_Evening_moveUp_4 2 rfl ?_
  obtain ⟨r2, σ3, k1, h0⟩ := xbind2 h0
  refine x_callVi C hR (c_Likings_mark (d := d) (by omega) k1) cw_Evening_104 k_33 rfl rfl rfl (Nat.le_of_ble_eq_true rfl) ⟨Nat.zero_le _, Nat.zero_le _⟩ d_Evening_moveUp_5 ?_
  refine x_istore_n (lv' := [(3, .int r2), (0, .ref (G.2.2.1 + 38)), (1, .ref (G.2.2.1 + p0)), (2, .int p1)]) C d_Evening_moveUp_8 rfl (by decide) rfl ?_
  refine x_aload_n C d_Evening_moveUp_9 2 rfl ?_
  refine x_getI (y := 0) C fg_Evening_101 (hl_0 hp0) rfl d_Evening_moveUp_10 ?_
  refine x_iload_n C d_Evening_moveUp_13 0 rfl ?_
  refine x_icmp_ne C 19 d_Evening_moveUp_14 (by decide) (fun q4 => ?_) (fun q4 => ?_)
  · replace h0 := xif q4 h0
    refine x_aload_n C d_Evening_moveUp_19 2 rfl ?_
    refine x_getI (y := 0) C fg_Evening_158 (hl_0 hp0) rfl d_Evening_moveUp_20 ?_
    obtain ⟨x5, ex5, h0⟩ := xlet h0
    refine x_name C ex5 ?_
    refine x_istore (lv' := [(4, .int x5), (3, .int r2), (0, .ref (G.2.2.1 + 38)), (1, .ref (G.2.2.1 + p0)), (2, .int p1)]) C d_Evening_moveUp_23 (by decide) rfl ?_
    refine x_iconst (v := 0) C d_Evening_moveUp_25 (by decide) ?_
    refine x_istore (lv' := [(5, .int 0), (4, .int x5), (3, .int r2), (0, .ref (G.2.2.1 + 38)), (1, .ref (G.2.2.1 + p0)), (2, .int p1)]) C d_Evening_moveUp_26 (by decide) rfl ?_
    exact x_lv C [3, 4, 5, 2, 1, 0] rfl (b_Evening_moveUp_28 C hr hk hd hR hp0 FUEL _ _ _ _ h0)
  · replace h0 := xit q4 h0
    refine x_iconst (v := 0) C d_Evening_moveUp_17 (by decide) ?_
    exact x_iret C hr hk h0 d_Evening_moveUp_18
-- LostPlaces$Evening.enjoy(LLostPlaces$Hall;I)V
theorem d_Evening_enjoy_0 : decode prog_3_method_9_code 0 = .ok (.aload_n 0, 1) := by decide +kernel
theorem d_Evening_enjoy_1 : decode prog_3_method_9_code 1 = .ok (.getfield 32, 3) := by decide +kernel
theorem d_Evening_enjoy_4 : decode prog_3_method_9_code 4 = .ok (.aload_n 1, 1) := by decide +kernel
theorem d_Evening_enjoy_5 : decode prog_3_method_9_code 5 = .ok (.getfield 62, 3) := by decide +kernel
theorem d_Evening_enjoy_8 : decode prog_3_method_9_code 8 = .ok (.invokevirtual 77, 3) := by decide +kernel
theorem d_Evening_enjoy_11 : decode prog_3_method_9_code 11 = .ok (.istore_n 3, 1) := by decide +kernel
theorem d_Evening_enjoy_12 : decode prog_3_method_9_code 12 = .ok (.iload_n 2, 1) := by decide +kernel
theorem d_Evening_enjoy_13 : decode prog_3_method_9_code 13 = .ok (.aload_n 1, 1) := by decide +kernel
theorem d_Evening_enjoy_14 : decode prog_3_method_9_code 14 = .ok (.getfield 62, 3) := by decide +kernel
theorem d_Evening_enjoy_17 : decode prog_3_method_9_code 17 = .ok (.isub, 1) := by decide +kernel
theorem d_Evening_enjoy_18 : decode prog_3_method_9_code 18 = .ok (.istore 4, 2) := by decide +kernel
theorem d_Evening_enjoy_20 : decode prog_3_method_9_code 20 = .ok (.iconst 0, 1) := by decide +kernel
theorem d_Evening_enjoy_21 : decode prog_3_method_9_code 21 = .ok (.istore 5, 2) := by decide +kernel
theorem d_Evening_enjoy_23 : decode prog_3_method_9_code 23 = .ok (.iload 5, 2) := by decide +kernel
theorem d_Evening_enjoy_25 : decode prog_3_method_9_code 25 = .ok (.aload_n 0, 1) := by decide +kernel
theorem d_Evening_enjoy_26 : decode prog_3_method_9_code 26 = .ok (.getfield 28, 3) := by decide +kernel
theorem d_Evening_enjoy_29 : decode prog_3_method_9_code 29 = .ok (.getfield 40, 3) := by decide +kernel
theorem d_Evening_enjoy_32 : decode prog_3_method_9_code 32 = .ok (.if_icmp .ge 39, 3) := by decide +kernel
theorem d_Evening_enjoy_35 : decode prog_3_method_9_code 35 = .ok (.aload_n 1, 1) := by decide +kernel
theorem d_Evening_enjoy_36 : decode prog_3_method_9_code 36 = .ok (.getfield 94, 3) := by decide +kernel
theorem d_Evening_enjoy_39 : decode prog_3_method_9_code 39 = .ok (.iload 5, 2) := by decide +kernel
theorem d_Evening_enjoy_41 : decode prog_3_method_9_code 41 = .ok (.dup2, 1) := by decide +kernel
theorem d_Evening_enjoy_42 : decode prog_3_method_9_code 42 = .ok (.iaload, 1) := by decide +kernel
theorem d_Evening_enjoy_43 : decode prog_3_method_9_code 43 = .ok (.iload 4, 2) := by decide +kernel
theorem d_Evening_enjoy_45 : decode prog_3_method_9_code 45 = .ok (.aload_n 0, 1) := by decide +kernel
theorem d_Evening_enjoy_46 : decode prog_3_method_9_code 46 = .ok (.getfield 32, 3) := by decide +kernel
theorem d_Evening_enjoy_49 : decode prog_3_method_9_code 49 = .ok (.iload_n 3, 1) := by decide +kernel
theorem d_Evening_enjoy_50 : decode prog_3_method_9_code 50 = .ok (.iload 5, 2) := by decide +kernel
theorem d_Evening_enjoy_52 : decode prog_3_method_9_code 52 = .ok (.aload_n 1, 1) := by decide +kernel
theorem d_Evening_enjoy_53 : decode prog_3_method_9_code 53 = .ok (.getfield 45, 3) := by decide +kernel
theorem d_Evening_enjoy_56 : decode prog_3_method_9_code 56 = .ok (.iload 5, 2) := by decide +kernel
theorem d_Evening_enjoy_58 : decode prog_3_method_9_code 58 = .ok (.iaload, 1) := by decide +kernel
theorem d_Evening_enjoy_59 : decode prog_3_method_9_code 59 = .ok (.invokevirtual 97, 3) := by decide +kernel
theorem d_Evening_enjoy_62 : decode prog_3_method_9_code 62 = .ok (.imul, 1) := by decide +kernel
theorem d_Evening_enjoy_63 : decode prog_3_method_9_code 63 = .ok (.iadd, 1) := by decide +kernel
theorem d_Evening_enjoy_64 : decode prog_3_method_9_code 64 = .ok (.iastore, 1) := by decide +kernel
theorem d_Evening_enjoy_65 : decode prog_3_method_9_code 65 = .ok (.iinc 5 1, 3) := by decide +kernel
theorem d_Evening_enjoy_68 : decode prog_3_method_9_code 68 = .ok (.goto (-45), 3) := by decide +kernel
theorem d_Evening_enjoy_71 : decode prog_3_method_9_code 71 = .ok (.aload_n 1, 1) := by decide +kernel
theorem d_Evening_enjoy_72 : decode prog_3_method_9_code 72 = .ok (.iload_n 2, 1) := by decide +kernel
theorem d_Evening_enjoy_73 : decode prog_3_method_9_code 73 = .ok (.putfield 62, 3) := by decide +kernel
theorem d_Evening_enjoy_76 : decode prog_3_method_9_code 76 = .ok (.return_, 1) := by decide +kernel
def s_Evening_enjoy_23_b (p0 : Nat) (p1 : Int32) (rec23 : Int32 → Int32 → Int32 → LH → Option (LH)) (y3 : Int32) (y4 : Int32) (y5 : Int32) (σ : LH) : Option (LH) :=
  if (σ.1 4 1) ≤ y5 then (
   xl ((stI σ p0 7 p1) : LH) fun σ6 =>
   some σ6)
  else (
   if ib y5 8 then (
   if ib y5 8 then (
   xb2 (s_Likings_at y3 y5 (σ.1 (p0 + 1) (Int32.toNatClampNeg y5)) σ) fun r10 σ11 =>
   if ib y5 8 then (
   xl ((stI σ11 (p0 + 4) (Int32.toNatClampNeg y5) ((σ.1 (p0 + 4) (Int32.toNatClampNeg y5)) + (y4 * r10))) : LH) fun σ13 =>
   xl ((y5 + 1) : Int32) fun x14 =>
   rec23 y3 y4 x14 σ13) else none) else none) else none)
def s_Evening_enjoy_23 (p0 : Nat) (p1 : Int32) : Nat → Int32 → Int32 → Int32 → LH → Option (LH)
  | 0, _, _, _, _ => none
  | n + 1, y3, y4, y5, σ => s_Evening_enjoy_23_b p0 p1 (s_Evening_enjoy_23 p0 p1 n) y3 y4 y5 σ
theorem bb_Evening_enjoy_23 {G : XG} {l : Launch} {p : Program} {e : Env} {R : Room} {s : State} {m : MethodId} {args : Array Value} {below : List Frame} {meth : Method} {c : Code} (C : XC G 1 570 p s m args c prog_3_method_9_code 6 R_Evening) (hr : meth.sig.returnType = none) (hk : meth.locks = false) {d : Nat} (hd : 2 ≤ d + 1) (hR : xroom R (d + 1)) {p0 : Nat} {p1 : Int32} (hp0 : p0 ∈ xHalls) {rec23 : Int32 → Int32 → Int32 → LH → Option (LH)} {σ' : LH} (hrec23 : ∀ (y3 : Int32) (y4 : Int32) (y5 : Int32) (σ : LH), rec23 y3 y4 y5 σ = some σ' → XJ G 1 570 p l e R s m args below meth c 6 (XQ G 1 570 below args s none σ') 0 0 23 [(0, .ref (G.2.2.1 + 38)), (1, .ref (G.2.2.1 + p0)), (2, .int p1), (3, .int y3), (4, .int y4), (5, .int y5)] [] σ) {y3 : Int32} {y4 : Int32} {y5 : Int32} {σ : LH} (h0 : s_Evening_enjoy_23_b p0 p1 rec23 y3 y4 y5 σ = some σ') : XJ G 1 570 p l e R s m args below meth c 6 (XQ G 1 570 below args s none σ') 0 0 23 [(0, .ref (G.2.2.1 + 38)), (1, .ref (G.2.2.1 + p0)), (2, .int p1), (3, .int y3), (4, .int y4), (5, .int y5)] [] σ := by
  replace h0 := (show _ = _ from h0)
  unfold s_Evening_enjoy_23_b at h0
  refine x_iload C d_Evening_enjoy_23 5 rfl ?_
  refine x_aload_n C d_Evening_enjoy_25 0 rfl ?_
  refine x_getA (y := 4) C fg_Evening_28 k_38 rfl d_Evening_enjoy_26 ?_
  refine x_getI (y := 0) C fg_Evening_40 k_4 rfl d_Evening_enjoy_29 ?_
  refine x_icmp_ge C 71 d_Evening_enjoy_32 (by decide) (fun q5 => ?_) (fun q5 => ?_)
  · replace h0 := xit q5 h0
    refine x_aload_n C d_Evening_enjoy_71 1 rfl ?_
    refine x_iload_n C d_Evening_enjoy_72 2 rfl ?_
    refine x_putI (y := 0) C fp_Evening_62 (hl_0 hp0) rfl rfl rfl d_Evening_enjoy_73 ?_
    obtain ⟨σ6, eσ6, h0⟩ := xlet h0
    refine x_sig C eσ6 ?_
    exact x_vret C hr hk h0 d_Evening_enjoy_76
  · replace h0 := xif q5 h0
    refine x_aload_n C d_Evening_enjoy_35 1 rfl ?_
    refine x_getR (y := 4) C fg_Evening_94 (hl_0 hp0) rfl d_Evening_enjoy_36 ?_
    refine x_iload C d_Evening_enjoy_39 5 rfl ?_
    refine x_dup2 C d_Evening_enjoy_41 rfl rfl ?_
    obtain ⟨g7, h0⟩ := xgo h0
    refine x_iald C (hl_4 hp0) (ib_in g7) d_Evening_enjoy_42 ?_
    refine x_iload C d_Evening_enjoy_43 4 rfl ?_
    refine x_aload_n C d_Evening_enjoy_45 0 rfl ?_
    refine x_getA (y := 33) C fg_Evening_32 k_38 rfl d_Evening_enjoy_46 ?_
    refine x_iload_n C d_Evening_enjoy_49 3 rfl ?_
    refine x_iload C d_Evening_enjoy_50 5 rfl ?_
    refine x_aload_n C d_Evening_enjoy_52 1 rfl ?_
    refine x_getR (y := 1) C fg_Evening_45 (hl_0 hp0) rfl d_Evening_enjoy_53 ?_
    refine x_iload C d_Evening_enjoy_56 5 rfl ?_
    obtain ⟨g8, h0⟩ := xgo h0
    refine x_iald C (hl_1 hp0) (ib_in g8) d_Evening_enjoy_58 ?_
    obtain ⟨r10, σ11, k9, h0⟩ := xbind2 h0
    refine x_callVi C hR (c_Likings_at (d := d) (by omega) k9) cw_Evening_97 k_33 rfl rfl rfl (Nat.le_of_ble_eq_true rfl) ⟨Nat.zero_le _, Nat.zero_le _⟩ d_Evening_enjoy_59 ?_
    refine x_imul C d_Evening_enjoy_62 ?_
    refine x_iadd C d_Evening_enjoy_63 ?_
    obtain ⟨g12, h0⟩ := xgo h0
    refine x_iast C (hl_4 hp0) (ib_in g12) d_Evening_enjoy_64 ?_
    obtain ⟨σ13, eσ13, h0⟩ := xlet h0
    refine x_sig C eσ13 ?_
    obtain ⟨x14, ex14, h0⟩ := xlet h0
    refine x_iinc (lv' := [(5, .int x14), (0, .ref (G.2.2.1 + 38)), (1, .ref (G.2.2.1 + p0)), (2, .int p1), (3, .int y3), (4, .int y4)]) C d_Evening_enjoy_65 5 rfl ex14 (by decide) rfl ?_
    refine x_goto C 23 d_Evening_enjoy_68 (by decide) ?_
    exact x_lv C [1, 2, 3, 4, 5, 0] rfl (hrec23 _ _ _ _ h0)
theorem b_Evening_enjoy_23 {G : XG} {l : Launch} {p : Program} {e : Env} {R : Room} {s : State} {m : MethodId} {args : Array Value} {below : List Frame} {meth : Method} {c : Code} (C : XC G 1 570 p s m args c prog_3_method_9_code 6 R_Evening) (hr : meth.sig.returnType = none) (hk : meth.locks = false) {d : Nat} (hd : 2 ≤ d + 1) (hR : xroom R (d + 1)) {p0 : Nat} {p1 : Int32} (hp0 : p0 ∈ xHalls) {σ' : LH} : ∀ (n : Nat) (y3 : Int32) (y4 : Int32) (y5 : Int32) (σ : LH), s_Evening_enjoy_23 p0 p1 n y3 y4 y5 σ = some σ' → XJ G 1 570 p l e R s m args below meth c 6 (XQ G 1 570 below args s none σ') 0 0 23 [(0, .ref (G.2.2.1 + 38)), (1, .ref (G.2.2.1 + p0)), (2, .int p1), (3, .int y3), (4, .int y4), (5, .int y5)] [] σ := by
  intro n
  induction n with
  | zero => intro y3 y4 y5 σ h0; cases h0
  | succ n ih => intro y3 y4 y5 σ h0; exact bb_Evening_enjoy_23 C hr hk hd hR hp0 ih h0
def s_Evening_enjoy (p0 : Nat) (p1 : Int32) (σ : LH) : Option (LH) :=
  xb2 (s_Likings_row (σ.1 p0 7) σ) fun r2 σ3 =>
  xl (((p1 - (σ3.1 p0 7))) : Int32) fun x4 =>
  s_Evening_enjoy_23 p0 p1 FUEL r2 x4 0 σ3
theorem c_Evening_enjoy {G : XG} {l : Launch} {d : Nat} (hd : 2 ≤ d) {p0 : Nat} {p1 : Int32} (hp0 : p0 ∈ xHalls) {σ σ' : LH} (h0 : s_Evening_enjoy p0 p1 σ = some σ') : xM G 1 570 l y_Evening_enjoy prog_3_method_9_code 6 none d [.ref (G.2.2.1 + 38), .ref (G.2.2.1 + p0), .int p1] σ none σ' := by
  obtain ⟨d, rfl⟩ : ∃ q, d = q + 1 := ⟨d - 1, by omega⟩
  refine x_met R_Evening rfl (by decide +kernel) (Nat.le_of_ble_eq_true rfl) fun p e s m below meth c C hr hk hR => ?_
  refine x_lv (lv' := [(0, .ref (G.2.2.1 + 38)), (1, .ref (G.2.2.1 + p0)), (2, .int p1)]) C [0, 1, 2] rfl ?_
  generalize xrm (d + 1) = R at hR ⊢
  unfold s_Evening_enjoy at h0
  refine x_aload_n C d_Evening_enjoy_0 0 rfl ?_
  refine x_getA (y := 33) C fg_Evening_32 k_38 rfl d_Evening_enjoy_1 ?_
  refine x_aload_n C d_Evening_enjoy_4 1 rfl ?_
  refine x_getI (y := 0) C fg_Evening_62 (hl_0 hp0) rfl d_Evening_enjoy_5 ?_
  obtain ⟨r2, σ3, k1, h0⟩ := xbind2 h0
  refine x_callVi C hR (c_Likings_row (d := d) (by omega) k1) cw_Evening_77 k_33 rfl rfl rfl (Nat.le_of_ble_eq_true rfl) ⟨Nat.zero_le _, Nat.zero_le _⟩ d_Evening_enjoy_8 ?_
  refine x_istore_n (lv' := [(3, .int r2), (0, .ref (G.2.2.1 + 38)), (1, .ref (G.2.2.1 + p0)), (2, .int p1)]) C d_Evening_enjoy_11 rfl (by decide) rfl ?_
  refine x_iload_n C d_Evening_enjoy_12 3 rfl ?_
  refine x_aload_n C d_Evening_enjoy_13 2 rfl ?_
  refine x_getI (y := 0) C fg_Evening_62 (hl_0 hp0) rfl d_Evening_enjoy_14 ?_
  refine x_isub C d_Evening_enjoy_17 ?_
  obtain ⟨x4, ex4, h0⟩ := xlet h0
  refine x_name C ex4 ?_
  refine x_istore (lv' := [(4, .int x4), (3, .int r2), (0, .ref (G.2.2.1 + 38)), (1, .ref (G.2.2.1 + p0)), (2, .int p1)]) C d_Evening_enjoy_18 (by decide) rfl ?_
  refine x_iconst (v := 0) C d_Evening_enjoy_20 (by decide) ?_
  refine x_istore (lv' := [(5, .int 0), (4, .int x4), (3, .int r2), (0, .ref (G.2.2.1 + 38)), (1, .ref (G.2.2.1 + p0)), (2, .int p1)]) C d_Evening_enjoy_21 (by decide) rfl ?_
  exact x_lv C [3, 4, 5, 2, 1, 0] rfl (b_Evening_enjoy_23 C hr hk hd hR hp0 FUEL _ _ _ _ h0)
-- LostPlaces$Evening.pass(LLostPlaces$Hall;)V
theorem d_Evening_pass_0 : decode prog_3_method_8_code 0 = .ok (.aload_n 0, 1) := by decide +kernel
theorem d_Evening_pass_1 : decode prog_3_method_8_code 1 = .ok (.getfield 32, 3) := by decide +kernel
theorem d_Evening_pass_4 : decode prog_3_method_8_code 4 = .ok (.aload_n 1, 1) := by decide +kernel
theorem d_Evening_pass_5 : decode prog_3_method_8_code 5 = .ok (.getfield 62, 3) := by decide +kernel
theorem d_Evening_pass_8 : decode prog_3_method_8_code 8 = .ok (.invokevirtual 77, 3) := by decide +kernel
theorem d_Evening_pass_11 : decode prog_3_method_8_code 11 = .ok (.istore_n 2, 1) := by decide +kernel
theorem d_Evening_pass_12 : decode prog_3_method_8_code 12 = .ok (.aload_n 0, 1) := by decide +kernel
theorem d_Evening_pass_13 : decode prog_3_method_8_code 13 = .ok (.aload_n 1, 1) := by decide +kernel
theorem d_Evening_pass_14 : decode prog_3_method_8_code 14 = .ok (.invokevirtual 82, 3) := by decide +kernel
theorem d_Evening_pass_17 : decode prog_3_method_8_code 17 = .ok (.aload_n 0, 1) := by decide +kernel
theorem d_Evening_pass_18 : decode prog_3_method_8_code 18 = .ok (.aload_n 1, 1) := by decide +kernel
theorem d_Evening_pass_19 : decode prog_3_method_8_code 19 = .ok (.invokevirtual 85, 3) := by decide +kernel
theorem d_Evening_pass_22 : decode prog_3_method_8_code 22 = .ok (.aload_n 0, 1) := by decide +kernel
theorem d_Evening_pass_23 : decode prog_3_method_8_code 23 = .ok (.aload_n 1, 1) := by decide +kernel
theorem d_Evening_pass_24 : decode prog_3_method_8_code 24 = .ok (.iload_n 2, 1) := by decide +kernel
theorem d_Evening_pass_25 : decode prog_3_method_8_code 25 = .ok (.invokevirtual 88, 3) := by decide +kernel
theorem d_Evening_pass_28 : decode prog_3_method_8_code 28 = .ok (.aload_n 0, 1) := by decide +kernel
theorem d_Evening_pass_29 : decode prog_3_method_8_code 29 = .ok (.aload_n 1, 1) := by decide +kernel
theorem d_Evening_pass_30 : decode prog_3_method_8_code 30 = .ok (.iload_n 2, 1) := by decide +kernel
theorem d_Evening_pass_31 : decode prog_3_method_8_code 31 = .ok (.invokevirtual 91, 3) := by decide +kernel
theorem d_Evening_pass_34 : decode prog_3_method_8_code 34 = .ok (.pop, 1) := by decide +kernel
theorem d_Evening_pass_35 : decode prog_3_method_8_code 35 = .ok (.aload_n 0, 1) := by decide +kernel
theorem d_Evening_pass_36 : decode prog_3_method_8_code 36 = .ok (.aload_n 1, 1) := by decide +kernel
theorem d_Evening_pass_37 : decode prog_3_method_8_code 37 = .ok (.aload_n 1, 1) := by decide +kernel
theorem d_Evening_pass_38 : decode prog_3_method_8_code 38 = .ok (.getfield 62, 3) := by decide +kernel
theorem d_Evening_pass_41 : decode prog_3_method_8_code 41 = .ok (.iconst 1, 1) := by decide +kernel
theorem d_Evening_pass_42 : decode prog_3_method_8_code 42 = .ok (.iadd, 1) := by decide +kernel
theorem d_Evening_pass_43 : decode prog_3_method_8_code 43 = .ok (.invokevirtual 73, 3) := by decide +kernel
theorem d_Evening_pass_46 : decode prog_3_method_8_code 46 = .ok (.return_, 1) := by decide +kernel
def s_Evening_pass (p0 : Nat) (σ : LH) : Option (LH) :=
  xb2 (s_Likings_row (σ.1 p0 7) σ) fun r2 σ3 =>
  xb1 (s_Evening_release p0 σ3) fun σ5 =>
  xb1 (s_Evening_sendOut p0 σ5) fun σ7 =>
  xb1 (s_Evening_takeBack p0 r2 σ7) fun σ9 =>
  xb2 (s_Evening_moveUp p0 r2 σ9) fun r11 σ12 =>
  xb1 (s_Evening_enjoy p0 ((σ12.1 p0 7) + 1) σ12) fun σ14 =>
  some σ14
theorem c_Evening_pass {G : XG} {l : Launch} {d : Nat} (hd : 4 ≤ d) {p0 : Nat} (hp0 : p0 ∈ xHalls) {σ σ' : LH} (h0 : s_Evening_pass p0 σ = some σ') : xM G 1 570 l y_Evening_pass prog_3_method_8_code 3 none d [.ref (G.2.2.1 + 38), .ref (G.2.2.1 + p0)] σ none σ' := by
  obtain ⟨d, rfl⟩ : ∃ q, d = q + 1 := ⟨d - 1, by omega⟩
  refine x_met R_Evening rfl (by decide +kernel) (Nat.le_of_ble_eq_true rfl) fun p e s m below meth c C hr hk hR => ?_
  refine x_lv (lv' := [(0, .ref (G.2.2.1 + 38)), (1, .ref (G.2.2.1 + p0))]) C [0, 1] rfl ?_
  generalize xrm (d + 1) = R at hR ⊢
  unfold s_Evening_pass at h0
  refine x_aload_n C d_Evening_pass_0 0 rfl ?_
  refine x_getA (y := 33) C fg_Evening_32 k_38 rfl d_Evening_pass_1 ?_
  refine x_aload_n C d_Evening_pass_4 1 rfl ?_
  refine x_getI (y := 0) C fg_Evening_62 (hl_0 hp0) rfl d_Evening_pass_5 ?_
  obtain ⟨r2, σ3, k1, h0⟩ := xbind2 h0
  refine x_callVi C hR (c_Likings_row (d := d) (by omega) k1) cw_Evening_77 k_33 rfl rfl rfl (Nat.le_of_ble_eq_true rfl) ⟨Nat.zero_le _, Nat.zero_le _⟩ d_Evening_pass_8 ?_
  refine x_istore_n (lv' := [(2, .int r2), (0, .ref (G.2.2.1 + 38)), (1, .ref (G.2.2.1 + p0))]) C d_Evening_pass_11 rfl (by decide) rfl ?_
  refine x_aload_n C d_Evening_pass_12 1 rfl ?_
  refine x_aload_n C d_Evening_pass_13 2 rfl ?_
  obtain ⟨σ5, k4, h0⟩ := xbind1 h0
  refine x_callVv C hR (c_Evening_release (d := d) (by omega) hp0 k4) cw_Evening_82 k_38 rfl rfl rfl (Nat.le_of_ble_eq_true rfl) ⟨Nat.zero_le _, Nat.zero_le _⟩ d_Evening_pass_14 ?_
  refine x_aload_n C d_Evening_pass_17 1 rfl ?_
  refine x_aload_n C d_Evening_pass_18 2 rfl ?_
  obtain ⟨σ7, k6, h0⟩ := xbind1 h0
  refine x_callVv C hR (c_Evening_sendOut (d := d) (by omega) hp0 k6) cw_Evening_85 k_38 rfl rfl rfl (Nat.le_of_ble_eq_true rfl) ⟨Nat.zero_le _, Nat.zero_le _⟩ d_Evening_pass_19 ?_
  refine x_aload_n C d_Evening_pass_22 1 rfl ?_
  refine x_aload_n C d_Evening_pass_23 2 rfl ?_
  refine x_iload_n C d_Evening_pass_24 0 rfl ?_
  obtain ⟨σ9, k8, h0⟩ := xbind1 h0
  refine x_callVv C hR (c_Evening_takeBack (d := d) (by omega) hp0 k8) cw_Evening_88 k_38 rfl rfl rfl (Nat.le_of_ble_eq_true rfl) ⟨Nat.zero_le _, Nat.zero_le _⟩ d_Evening_pass_25 ?_
  refine x_aload_n C d_Evening_pass_28 1 rfl ?_
  refine x_aload_n C d_Evening_pass_29 2 rfl ?_
  refine x_iload_n C d_Evening_pass_30 0 rfl ?_
  obtain ⟨r11, σ12, k10, h0⟩ := xbind2 h0
  refine x_callVi C hR (c_Evening_moveUp (d := d) (by omega) hp0 k10) cw_Evening_91 k_38 rfl rfl rfl (Nat.le_of_ble_eq_true rfl) ⟨Nat.zero_le _, Nat.zero_le _⟩ d_Evening_pass_31 ?_
  refine x_pop C d_Evening_pass_34 rfl ?_
  refine x_aload_n C d_Evening_pass_35 1 rfl ?_
  refine x_aload_n C d_Evening_pass_36 2 rfl ?_
  refine x_aload_n C d_Evening_pass_37 2 rfl ?_
  refine x_getI (y := 0) C fg_Evening_62 (hl_0 hp0) rfl d_Evening_pass_38 ?_
  refine x_iconst (v := 1) C d_Evening_pass_41 (by decide) ?_
  refine x_iadd C d_Evening_pass_42 ?_
  obtain ⟨σ14, k13, h0⟩ := xbind1 h0
  refine x_callVv C hR (c_Evening_enjoy (d := d) (by omega) hp0 k13) cw_Evening_73 k_38 rfl rfl rfl (Nat.le_of_ble_eq_true rfl) ⟨Nat.zero_le _, Nat.zero_le _⟩ d_Evening_pass_43 ?_
  exact x_vret C hr hk h0 d_Evening_pass_46
