-- LostPlaces$Room.isWhole()Z
theorem d_Room_isWhole_0 : decode prog_8_method_7_code 0 = .ok (.aload_n 0, 1) := by decide +kernel
theorem d_Room_isWhole_1 : decode prog_8_method_7_code 1 = .ok (.getfield 9, 3) := by decide +kernel
theorem d_Room_isWhole_4 : decode prog_8_method_7_code 4 = .ok (.iconst 1, 1) := by decide +kernel
theorem d_Room_isWhole_5 : decode prog_8_method_7_code 5 = .ok (.if_icmp .lt 11, 3) := by decide +kernel
theorem d_Room_isWhole_8 : decode prog_8_method_7_code 8 = .ok (.aload_n 0, 1) := by decide +kernel
theorem d_Room_isWhole_9 : decode prog_8_method_7_code 9 = .ok (.getfield 15, 3) := by decide +kernel
theorem d_Room_isWhole_12 : decode prog_8_method_7_code 12 = .ok (.iconst 1, 1) := by decide +kernel
theorem d_Room_isWhole_13 : decode prog_8_method_7_code 13 = .ok (.if_icmp .ge 5, 3) := by decide +kernel
theorem d_Room_isWhole_16 : decode prog_8_method_7_code 16 = .ok (.iconst 0, 1) := by decide +kernel
theorem d_Room_isWhole_17 : decode prog_8_method_7_code 17 = .ok (.ireturn, 1) := by decide +kernel
theorem d_Room_isWhole_18 : decode prog_8_method_7_code 18 = .ok (.iconst 0, 1) := by decide +kernel
theorem d_Room_isWhole_19 : decode prog_8_method_7_code 19 = .ok (.istore_n 1, 1) := by decide +kernel
theorem d_Room_isWhole_20 : decode prog_8_method_7_code 20 = .ok (.iconst 0, 1) := by decide +kernel
theorem d_Room_isWhole_21 : decode prog_8_method_7_code 21 = .ok (.istore_n 2, 1) := by decide +kernel
theorem d_Room_isWhole_22 : decode prog_8_method_7_code 22 = .ok (.iload_n 2, 1) := by decide +kernel
theorem d_Room_isWhole_23 : decode prog_8_method_7_code 23 = .ok (.aload_n 0, 1) := by decide +kernel
theorem d_Room_isWhole_24 : decode prog_8_method_7_code 24 = .ok (.getfield 15, 3) := by decide +kernel
theorem d_Room_isWhole_27 : decode prog_8_method_7_code 27 = .ok (.if_icmp .ge 62, 3) := by decide +kernel
theorem d_Room_isWhole_30 : decode prog_8_method_7_code 30 = .ok (.aload_n 0, 1) := by decide +kernel
theorem d_Room_isWhole_31 : decode prog_8_method_7_code 31 = .ok (.getfield 34, 3) := by decide +kernel
theorem d_Room_isWhole_34 : decode prog_8_method_7_code 34 = .ok (.iload_n 2, 1) := by decide +kernel
theorem d_Room_isWhole_35 : decode prog_8_method_7_code 35 = .ok (.iaload, 1) := by decide +kernel
theorem d_Room_isWhole_36 : decode prog_8_method_7_code 36 = .ok (.bipush 8, 2) := by decide +kernel
theorem d_Room_isWhole_38 : decode prog_8_method_7_code 38 = .ok (.if_icmp .ne 6, 3) := by decide +kernel
theorem d_Room_isWhole_41 : decode prog_8_method_7_code 41 = .ok (.goto 42, 3) := by decide +kernel
theorem d_Room_isWhole_44 : decode prog_8_method_7_code 44 = .ok (.aload_n 0, 1) := by decide +kernel
theorem d_Room_isWhole_45 : decode prog_8_method_7_code 45 = .ok (.getfield 34, 3) := by decide +kernel
theorem d_Room_isWhole_48 : decode prog_8_method_7_code 48 = .ok (.iload_n 2, 1) := by decide +kernel
theorem d_Room_isWhole_49 : decode prog_8_method_7_code 49 = .ok (.iaload, 1) := by decide +kernel
theorem d_Room_isWhole_50 : decode prog_8_method_7_code 50 = .ok (.aload_n 0, 1) := by decide +kernel
theorem d_Room_isWhole_51 : decode prog_8_method_7_code 51 = .ok (.getfield 9, 3) := by decide +kernel
theorem d_Room_isWhole_54 : decode prog_8_method_7_code 54 = .ok (.if_icmp .ge 16, 3) := by decide +kernel
theorem d_Room_isWhole_57 : decode prog_8_method_7_code 57 = .ok (.iload_n 1, 1) := by decide +kernel
theorem d_Room_isWhole_58 : decode prog_8_method_7_code 58 = .ok (.aload_n 0, 1) := by decide +kernel
theorem d_Room_isWhole_59 : decode prog_8_method_7_code 59 = .ok (.getfield 34, 3) := by decide +kernel
theorem d_Room_isWhole_62 : decode prog_8_method_7_code 62 = .ok (.iload_n 2, 1) := by decide +kernel
theorem d_Room_isWhole_63 : decode prog_8_method_7_code 63 = .ok (.iaload, 1) := by decide +kernel
theorem d_Room_isWhole_64 : decode prog_8_method_7_code 64 = .ok (.ishr, 1) := by decide +kernel
theorem d_Room_isWhole_65 : decode prog_8_method_7_code 65 = .ok (.iconst 1, 1) := by decide +kernel
theorem d_Room_isWhole_66 : decode prog_8_method_7_code 66 = .ok (.iand, 1) := by decide +kernel
theorem d_Room_isWhole_67 : decode prog_8_method_7_code 67 = .ok (.ifCond .eq 5, 3) := by decide +kernel
theorem d_Room_isWhole_70 : decode prog_8_method_7_code 70 = .ok (.iconst 0, 1) := by decide +kernel
theorem d_Room_isWhole_71 : decode prog_8_method_7_code 71 = .ok (.ireturn, 1) := by decide +kernel
theorem d_Room_isWhole_72 : decode prog_8_method_7_code 72 = .ok (.iload_n 1, 1) := by decide +kernel
theorem d_Room_isWhole_73 : decode prog_8_method_7_code 73 = .ok (.iconst 1, 1) := by decide +kernel
theorem d_Room_isWhole_74 : decode prog_8_method_7_code 74 = .ok (.aload_n 0, 1) := by decide +kernel
theorem d_Room_isWhole_75 : decode prog_8_method_7_code 75 = .ok (.getfield 34, 3) := by decide +kernel
theorem d_Room_isWhole_78 : decode prog_8_method_7_code 78 = .ok (.iload_n 2, 1) := by decide +kernel
theorem d_Room_isWhole_79 : decode prog_8_method_7_code 79 = .ok (.iaload, 1) := by decide +kernel
theorem d_Room_isWhole_80 : decode prog_8_method_7_code 80 = .ok (.ishl, 1) := by decide +kernel
theorem d_Room_isWhole_81 : decode prog_8_method_7_code 81 = .ok (.ior, 1) := by decide +kernel
theorem d_Room_isWhole_82 : decode prog_8_method_7_code 82 = .ok (.istore_n 1, 1) := by decide +kernel
theorem d_Room_isWhole_83 : decode prog_8_method_7_code 83 = .ok (.iinc 2 1, 3) := by decide +kernel
theorem d_Room_isWhole_86 : decode prog_8_method_7_code 86 = .ok (.goto (-64), 3) := by decide +kernel
theorem d_Room_isWhole_89 : decode prog_8_method_7_code 89 = .ok (.iconst 0, 1) := by decide +kernel
theorem d_Room_isWhole_90 : decode prog_8_method_7_code 90 = .ok (.istore_n 2, 1) := by decide +kernel
theorem d_Room_isWhole_91 : decode prog_8_method_7_code 91 = .ok (.iload_n 2, 1) := by decide +kernel
theorem d_Room_isWhole_92 : decode prog_8_method_7_code 92 = .ok (.aload_n 0, 1) := by decide +kernel
theorem d_Room_isWhole_93 : decode prog_8_method_7_code 93 = .ok (.getfield 18, 3) := by decide +kernel
theorem d_Room_isWhole_96 : decode prog_8_method_7_code 96 = .ok (.if_icmp .ge 24, 3) := by decide +kernel
theorem d_Room_isWhole_99 : decode prog_8_method_7_code 99 = .ok (.aload_n 0, 1) := by decide +kernel
theorem d_Room_isWhole_100 : decode prog_8_method_7_code 100 = .ok (.getfield 46, 3) := by decide +kernel
theorem d_Room_isWhole_103 : decode prog_8_method_7_code 103 = .ok (.iload_n 2, 1) := by decide +kernel
theorem d_Room_isWhole_104 : decode prog_8_method_7_code 104 = .ok (.iaload, 1) := by decide +kernel
theorem d_Room_isWhole_105 : decode prog_8_method_7_code 105 = .ok (.aload_n 0, 1) := by decide +kernel
theorem d_Room_isWhole_106 : decode prog_8_method_7_code 106 = .ok (.getfield 15, 3) := by decide +kernel
theorem d_Room_isWhole_109 : decode prog_8_method_7_code 109 = .ok (.if_icmp .lt 5, 3) := by decide +kernel
theorem d_Room_isWhole_112 : decode prog_8_method_7_code 112 = .ok (.iconst 0, 1) := by decide +kernel
theorem d_Room_isWhole_113 : decode prog_8_method_7_code 113 = .ok (.ireturn, 1) := by decide +kernel
theorem d_Room_isWhole_114 : decode prog_8_method_7_code 114 = .ok (.iinc 2 1, 3) := by decide +kernel
theorem d_Room_isWhole_117 : decode prog_8_method_7_code 117 = .ok (.goto (-26), 3) := by decide +kernel
theorem d_Room_isWhole_120 : decode prog_8_method_7_code 120 = .ok (.iconst 1, 1) := by decide +kernel
theorem d_Room_isWhole_121 : decode prog_8_method_7_code 121 = .ok (.ireturn, 1) := by decide +kernel
def s_Room_isWhole_16 (rm : Nat) (σ : LH) : Option (Int32 × LH) :=
  some (0, σ)
theorem b_Room_isWhole_16 {G : XG} {l : Launch} {p : Program} {e : Env} {R : Room} {s : State} {m : MethodId} {args : Array Value} {below : List Frame} {meth : Method} {c : Code} (C : XC G 1 570 p s m args c prog_8_method_7_code 3 R_Room) (hr : meth.sig.returnType = (some .boolean)) (hk : meth.locks = false) {d : Nat} (hd : 1 ≤ d + 1) (hR : xroom R (d + 1)) {rm : Nat} (hrm : rm ∈ xRooms) {σ' : LH} {r : Int32} {σ : LH} (h0 : s_Room_isWhole_16 rm σ = some (r, σ')) : XJ G 1 570 p l e R s m args below meth c 3 (XQ G 1 570 below args s (some (.int r)) σ') 0 0 16 [] [] σ := by
  replace h0 := (show _ = _ from h0)
  unfold s_Room_isWhole_16 at h0
  refine x_iconst (v := 0) C d_Room_isWhole_16 (by decide) ?_
  exact x_zret C hr hk (by decide) h0 d_Room_isWhole_17
def s_Room_isWhole_91_b (rm : Nat) (rec91 : Int32 → LH → Option (Int32 × LH)) (y2 : Int32) (σ : LH) : Option (Int32 × LH) :=
  if (σ.1 rm 2) ≤ y2 then (
   some (1, σ))
  else (
   if ib y2 10 then (
   if (σ.1 (rm + 8) (Int32.toNatClampNeg y2)) < (σ.1 rm 1) then (
    xl ((y2 + 1) : Int32) fun x7 =>
    rec91 x7 σ)
   else (
    some (0, σ))) else none)
def s_Room_isWhole_91 (rm : Nat) : Nat → Int32 → LH → Option (Int32 × LH)
  | 0, _, _ => none
  | n + 1, y2, σ => s_Room_isWhole_91_b rm (s_Room_isWhole_91 rm n) y2 σ
theorem bb_Room_isWhole_91 {G : XG} {l : Launch} {p : Program} {e : Env} {R : Room} {s : State} {m : MethodId} {args : Array Value} {below : List Frame} {meth : Method} {c : Code} (C : XC G 1 570 p s m args c prog_8_method_7_code 3 R_Room) (hr : meth.sig.returnType = (some .boolean)) (hk : meth.locks = false) {d : Nat} (hd : 1 ≤ d + 1) (hR : xroom R (d + 1)) {rm : Nat} (hrm : rm ∈ xRooms) {rec91 : Int32 → LH → Option (Int32 × LH)} {σ' : LH} {r : Int32} (hrec91 : ∀ (y2 : Int32) (σ : LH), rec91 y2 σ = some (r, σ') → XJ G 1 570 p l e R s m args below meth c 3 (XQ G 1 570 below args s (some (.int r)) σ') 0 0 91 [(0, .ref (G.2.2.1 + rm)), (2, .int y2)] [] σ) {y2 : Int32} {σ : LH} (h0 : s_Room_isWhole_91_b rm rec91 y2 σ = some (r, σ')) : XJ G 1 570 p l e R s m args below meth c 3 (XQ G 1 570 below args s (some (.int r)) σ') 0 0 91 [(0, .ref (G.2.2.1 + rm)), (2, .int y2)] [] σ := by
  replace h0 := (show _ = _ from h0)
  unfold s_Room_isWhole_91_b at h0
  refine x_iload_n C d_Room_isWhole_91 1 rfl ?_
  refine x_aload_n C d_Room_isWhole_92 0 rfl ?_
  refine x_getI (y := 0) C fg_Room_18 (rm_0 hrm) rfl d_Room_isWhole_93 ?_
  refine x_icmp_ge C 120 d_Room_isWhole_96 (by decide) (fun q4 => ?_) (fun q4 => ?_)
  · replace h0 := xit q4 h0
    refine x_iconst (v := 1) C d_Room_isWhole_120 (by decide) ?_
    exact x_zret C hr hk (by decide) h0 d_Room_isWhole_121
  · replace h0 := xif q4 h0
    refine x_aload_n C d_Room_isWhole_99 0 rfl ?_
    refine x_getR (y := 8) C fg_Room_46 (rm_0 hrm) rfl d_Room_isWhole_100 ?_
    refine x_iload_n C d_Room_isWhole_103 1 rfl ?_
    obtain ⟨g5, h0⟩ := xgo h0
    refine x_iald C (rm_8 hrm) (ib_in g5) d_Room_isWhole_104 ?_
    refine x_aload_n C d_Room_isWhole_105 0 rfl ?_
    refine x_getI (y := 0) C fg_Room_15 (rm_0 hrm) rfl d_Room_isWhole_106 ?_
    refine x_icmp_lt C 114 d_Room_isWhole_109 (by decide) (fun q6 => ?_) (fun q6 => ?_)
    · replace h0 := xit q6 h0
      obtain ⟨x7, ex7, h0⟩ := xlet h0
      refine x_iinc (lv' := [(2, .int x7), (0, .ref (G.2.2.1 + rm))]) C d_Room_isWhole_114 1 rfl ex7 (by decide) rfl ?_
      refine x_goto C 91 d_Room_isWhole_117 (by decide) ?_
      exact x_lv C [1, 0] rfl (hrec91 _ _ h0)
    · replace h0 := xif q6 h0
      refine x_iconst (v := 0) C d_Room_isWhole_112 (by decide) ?_
      exact x_zret C hr hk (by decide) h0 d_Room_isWhole_113
theorem b_Room_isWhole_91 {G : XG} {l : Launch} {p : Program} {e : Env} {R : Room} {s : State} {m : MethodId} {args : Array Value} {below : List Frame} {meth : Method} {c : Code} (C : XC G 1 570 p s m args c prog_8_method_7_code 3 R_Room) (hr : meth.sig.returnType = (some .boolean)) (hk : meth.locks = false) {d : Nat} (hd : 1 ≤ d + 1) (hR : xroom R (d + 1)) {rm : Nat} (hrm : rm ∈ xRooms) {σ' : LH} {r : Int32} : ∀ (n : Nat) (y2 : Int32) (σ : LH), s_Room_isWhole_91 rm n y2 σ = some (r, σ') → XJ G 1 570 p l e R s m args below meth c 3 (XQ G 1 570 below args s (some (.int r)) σ') 0 0 91 [(0, .ref (G.2.2.1 + rm)), (2, .int y2)] [] σ := by
  intro n
  induction n with
  | zero => intro y2 σ h0; cases h0
  | succ n ih => intro y2 σ h0; exact bb_Room_isWhole_91 C hr hk hd hR hrm ih h0
def s_Room_isWhole_83 (rm : Nat) (rec22 : Int32 → Int32 → LH → Option (Int32 × LH)) (y1 : Int32) (y2 : Int32) (σ : LH) : Option (Int32 × LH) :=
  xl ((y2 + 1) : Int32) fun x10 =>
  rec22 y1 x10 σ
theorem b_Room_isWhole_83 {G : XG} {l : Launch} {p : Program} {e : Env} {R : Room} {s : State} {m : MethodId} {args : Array Value} {below : List Frame} {meth : Method} {c : Code} (C : XC G 1 570 p s m args c prog_8_method_7_code 3 R_Room) (hr : meth.sig.returnType = (some .boolean)) (hk : meth.locks = false) {d : Nat} (hd : 1 ≤ d + 1) (hR : xroom R (d + 1)) {rm : Nat} (hrm : rm ∈ xRooms) {rec22 : Int32 → Int32 → LH → Option (Int32 × LH)} {σ' : LH} {r : Int32} (hrec22 : ∀ (y1 : Int32) (y2 : Int32) (σ : LH), rec22 y1 y2 σ = some (r, σ') → XJ G 1 570 p l e R s m args below meth c 3 (XQ G 1 570 below args s (some (.int r)) σ') 0 0 22 [(0, .ref (G.2.2.1 + rm)), (1, .int y1), (2, .int y2)] [] σ) {y1 : Int32} {y2 : Int32} {σ : LH} (h0 : s_Room_isWhole_83 rm rec22 y1 y2 σ = some (r, σ')) : XJ G 1 570 p l e R s m args below meth c 3 (XQ G 1 570 below args s (some (.int r)) σ') 0 0 83 [(0, .ref (G.2.2.1 + rm)), (1, .int y1), (2, .int y2)] [] σ := by
  replace h0 := (show _ = _ from h0)
  unfold s_Room_isWhole_83 at h0
  obtain ⟨x10, ex10, h0⟩ := xlet h0
  refine x_iinc (lv' := [(2, .int x10), (0, .ref (G.2.2.1 + rm)), (1, .int y1)]) C d_Room_isWhole_83 2 rfl ex10 (by decide) rfl ?_
  refine x_goto C 22 d_Room_isWhole_86 (by decide) ?_
  exact x_lv C [1, 2, 0] rfl (hrec22 _ _ _ h0)
def s_Room_isWhole_70 (rm : Nat) (σ : LH) : Option (Int32 × LH) :=
  some (0, σ)
theorem b_Room_isWhole_70 {G : XG} {l : Launch} {p : Program} {e : Env} {R : Room} {s : State} {m : MethodId} {args : Array Value} {below : List Frame} {meth : Method} {c : Code} (C : XC G 1 570 p s m args c prog_8_method_7_code 3 R_Room) (hr : meth.sig.returnType = (some .boolean)) (hk : meth.locks = false) {d : Nat} (hd : 1 ≤ d + 1) (hR : xroom R (d + 1)) {rm : Nat} (hrm : rm ∈ xRooms) {σ' : LH} {r : Int32} {σ : LH} (h0 : s_Room_isWhole_70 rm σ = some (r, σ')) : XJ G 1 570 p l e R s m args below meth c 3 (XQ G 1 570 below args s (some (.int r)) σ') 0 0 70 [] [] σ := by
  replace h0 := (show _ = _ from h0)
  unfold s_Room_isWhole_70 at h0
  refine x_iconst (v := 0) C d_Room_isWhole_70 (by decide) ?_
  exact x_zret C hr hk (by decide) h0 d_Room_isWhole_71
def s_Room_isWhole_22_b (rm : Nat) (rec22 : Int32 → Int32 → LH → Option (Int32 × LH)) (y1 : Int32) (y2 : Int32) (σ : LH) : Option (Int32 × LH) :=
  if (σ.1 rm 1) ≤ y2 then (
   s_Room_isWhole_91 rm FUEL 0 σ)
  else (
   if ib y2 8 then (
   if (σ.1 (rm + 4) (Int32.toNatClampNeg y2)) = 8 then (
    s_Room_isWhole_83 rm rec22 y1 y2 σ)
   else (
    if ib y2 8 then (
    if (σ.1 rm 0) ≤ (σ.1 (rm + 4) (Int32.toNatClampNeg y2)) then (
     s_Room_isWhole_70 rm σ)
    else (
     if ib y2 8 then (
     if ((y1 >>> ((σ.1 (rm + 4) (Int32.toNatClampNeg y2)) &&& 31)) &&& 1) = 0 then (
      if ib y2 8 then (
      xl (((y1 ||| (1 <<< ((σ.1 (rm + 4) (Int32.toNatClampNeg y2)) &&& 31)))) : Int32) fun x16 =>
      s_Room_isWhole_83 rm rec22 x16 y2 σ) else none)
     else (
      s_Room_isWhole_70 rm σ)) else none)) else none)) else none)
def s_Room_isWhole_22 (rm : Nat) : Nat → Int32 → Int32 → LH → Option (Int32 × LH)
  | 0, _, _, _ => none
  | n + 1, y1, y2, σ => s_Room_isWhole_22_b rm (s_Room_isWhole_22 rm n) y1 y2 σ
theorem bb_Room_isWhole_22 {G : XG} {l : Launch} {p : Program} {e : Env} {R : Room} {s : State} {m : MethodId} {args : Array Value} {below : List Frame} {meth : Method} {c : Code} (C : XC G 1 570 p s m args c prog_8_method_7_code 3 R_Room) (hr : meth.sig.returnType = (some .boolean)) (hk : meth.locks = false) {d : Nat} (hd : 1 ≤ d + 1) (hR : xroom R (d + 1)) {rm : Nat} (hrm : rm ∈ xRooms) {rec22 : Int32 → Int32 → LH → Option (Int32 × LH)} {σ' : LH} {r : Int32} (hrec22 : ∀ (y1 : Int32) (y2 : Int32) (σ : LH), rec22 y1 y2 σ = some (r, σ') → XJ G 1 570 p l e R s m args below meth c 3 (XQ G 1 570 below args s (some (.int r)) σ') 0 0 22 [(0, .ref (G.2.2.1 + rm)), (1, .int y1), (2, .int y2)] [] σ) {y1 : Int32} {y2 : Int32} {σ : LH} (h0 : s_Room_isWhole_22_b rm rec22 y1 y2 σ = some (r, σ')) : XJ G 1 570 p l e R s m args below meth c 3 (XQ G 1 570 below args s (some (.int r)) σ') 0 0 22 [(0, .ref (G.2.2.1 + rm)), (1, .int y1), (2, .int y2)] [] σ := by
  replace h0 := (show _ = _ from h0)
  unfold s_Room_isWhole_22_b at h0
  refine x_iload_n C d_Room_isWhole_22 2 rfl ?_
  refine x_aload_n C d_Room_isWhole_23 0 rfl ?_
  refine x_getI (y := 0) C fg_Room_15 (rm_0 hrm) rfl d_Room_isWhole_24 ?_
  refine x_icmp_ge C 89 d_Room_isWhole_27 (by decide) (fun q3 => ?_) (fun q3 => ?_)
  · replace h0 := xit q3 h0
    refine x_iconst (v := 0) C d_Room_isWhole_89 (by decide) ?_
    refine x_istore_n (lv' := [(2, .int 0), (0, .ref (G.2.2.1 + rm)), (1, .int y1)]) C d_Room_isWhole_90 rfl (by decide) rfl ?_
    exact x_lv C [1, 0] rfl (b_Room_isWhole_91 C hr hk hd hR hrm FUEL _ _ h0)
  · replace h0 := xif q3 h0
    refine x_aload_n C d_Room_isWhole_30 0 rfl ?_
    refine x_getR (y := 4) C fg_Room_34 (rm_0 hrm) rfl d_Room_isWhole_31 ?_
    refine x_iload_n C d_Room_isWhole_34 2 rfl ?_
    obtain ⟨g8, h0⟩ := xgo h0
    refine x_iald C (rm_4 hrm) (ib_in g8) d_Room_isWhole_35 ?_
    refine x_bipush (v := 8) C d_Room_isWhole_36 (by decide) ?_
    refine x_icmp_ne C 44 d_Room_isWhole_38 (by decide) (fun q9 => ?_) (fun q9 => ?_)
    · replace h0 := xif q9 h0
      refine x_aload_n C d_Room_isWhole_44 0 rfl ?_
      refine x_getR (y := 4) C fg_Room_34 (rm_0 hrm) rfl d_Room_isWhole_45 ?_
      refine x_iload_n C d_Room_isWhole_48 2 rfl ?_
      obtain ⟨g11, h0⟩ := xgo h0
      refine x_iald C (rm_4 hrm) (ib_in g11) d_Room_isWhole_49 ?_
      refine x_aload_n C d_Room_isWhole_50 0 rfl ?_
      refine x_getI (y := 0) C fg_Room_9 (rm_0 hrm) rfl d_Room_isWhole_51 ?_
      refine x_icmp_ge C 70 d_Room_isWhole_54 (by decide) (fun q12 => ?_) (fun q12 => ?_)
      · replace h0 := xit q12 h0
        exact x_lv C [] rfl (b_Room_isWhole_70 C hr hk hd hR hrm h0)
      · replace h0 := xif q12 h0
        refine x_iload_n C d_Room_isWhole_57 1 rfl ?_
        refine x_aload_n C d_Room_isWhole_58 0 rfl ?_
        refine x_getR (y := 4) C fg_Room_34 (rm_0 hrm) rfl d_Room_isWhole_59 ?_
        refine x_iload_n C d_Room_isWhole_62 2 rfl ?_
        obtain ⟨g13, h0⟩ := xgo h0
        refine x_iald C (rm_4 hrm) (ib_in g13) d_Room_isWhole_63 ?_
        refine x_ishr C d_Room_isWhole_64 ?_
        refine x_iconst (v := 1) C d_Room_isWhole_65 (by decide) ?_
        refine x_iand C d_Room_isWhole_66 ?_
        refine x_if_eq C 72 d_Room_isWhole_67 (by decide) (fun q14 => ?_) (fun q14 => ?_)
        · replace h0 := xit q14 h0
          refine x_iload_n C d_Room_isWhole_72 1 rfl ?_
          refine x_iconst (v := 1) C d_Room_isWhole_73 (by decide) ?_
          refine x_aload_n C d_Room_isWhole_74 0 rfl ?_
          refine x_getR (y := 4) C fg_Room_34 (rm_0 hrm) rfl d_Room_isWhole_75 ?_
          refine x_iload_n C d_Room_isWhole_78 2 rfl ?_
          obtain ⟨g15, h0⟩ := xgo h0
          refine x_iald C (rm_4 hrm) (ib_in g15) d_Room_isWhole_79 ?_
          refine x_ishl C d_Room_isWhole_80 ?_
          refine x_ior C d_Room_isWhole_81 ?_
          obtain ⟨x16, ex16, h0⟩ := xlet h0
          refine x_name C ex16 ?_
          refine x_istore_n (lv' := [(1, .int x16), (0, .ref (G.2.2.1 + rm)), (2, .int y2)]) C d_Room_isWhole_82 rfl (by decide) rfl ?_
          exact x_lv C [1, 0, 2] rfl (b_Room_isWhole_83 C hr hk hd hR hrm hrec22 h0)
        · replace h0 := xif q14 h0
          exact x_lv C [] rfl (b_Room_isWhole_70 C hr hk hd hR hrm h0)
    · replace h0 := xit q9 h0
      refine x_goto C 83 d_Room_isWhole_41 (by decide) ?_
      exact x_lv C [0, 1, 2] rfl (b_Room_isWhole_83 C hr hk hd hR hrm hrec22 h0)
theorem b_Room_isWhole_22 {G : XG} {l : Launch} {p : Program} {e : Env} {R : Room} {s : State} {m : MethodId} {args : Array Value} {below : List Frame} {meth : Method} {c : Code} (C : XC G 1 570 p s m args c prog_8_method_7_code 3 R_Room) (hr : meth.sig.returnType = (some .boolean)) (hk : meth.locks = false) {d : Nat} (hd : 1 ≤ d + 1) (hR : xroom R (d + 1)) {rm : Nat} (hrm : rm ∈ xRooms) {σ' : LH} {r : Int32} : ∀ (n : Nat) (y1 : Int32) (y2 : Int32) (σ : LH), s_Room_isWhole_22 rm n y1 y2 σ = some (r, σ') → XJ G 1 570 p l e R s m args below meth c 3 (XQ G 1 570 below args s (some (.int r)) σ') 0 0 22 [(0, .ref (G.2.2.1 + rm)), (1, .int y1), (2, .int y2)] [] σ := by
  intro n
  induction n with
  | zero => intro y1 y2 σ h0; cases h0
  | succ n ih => intro y1 y2 σ h0; exact bb_Room_isWhole_22 C hr hk hd hR hrm ih h0
def s_Room_isWhole (rm : Nat) (σ : LH) : Option (Int32 × LH) :=
  if (σ.1 rm 0) < 1 then (
   s_Room_isWhole_16 rm σ)
  else (
   if 1 ≤ (σ.1 rm 1) then (
    s_Room_isWhole_22 rm FUEL 0 0 σ)
   else (
    s_Room_isWhole_16 rm σ))
theorem c_Room_isWhole {G : XG} {l : Launch} {d : Nat} (hd : 1 ≤ d) {rm : Nat} (hrm : rm ∈ xRooms) {σ σ' : LH} {r : Int32} (h0 : s_Room_isWhole rm σ = some (r, σ')) : xM G 1 570 l y_Room_isWhole prog_8_method_7_code 3 (some .boolean) d [.ref (G.2.2.1 + rm)] σ (some (.int r)) σ' := by
  obtain ⟨d, rfl⟩ : ∃ q, d = q + 1 := ⟨d - 1, by omega⟩
  refine x_met R_Room rfl (by decide +kernel) (Nat.le_of_ble_eq_true rfl) fun p e s m below meth c C hr hk hR => ?_
  refine x_lv (lv' := [(0, .ref (G.2.2.1 + rm))]) C [0] rfl ?_
  generalize xrm (d + 1) = R at hR ⊢
  unfold s_Room_isWhole at h0
  refine x_aload_n C d_Room_isWhole_0 0 rfl ?_
  refine x_getI (y := 0) C fg_Room_9 (rm_0 hrm) rfl d_Room_isWhole_1 ?_
  refine x_iconst (v := 1) C d_Room_isWhole_4 (by decide) ?_
  refine x_icmp_lt C 16 d_Room_isWhole_5 (by decide) (fun q1 => ?_) (fun q1 => ?_)
  · replace h0 := xit q1 h0
    exact x_lv C [] rfl (b_Room_isWhole_16 C hr hk hd hR hrm h0)
  · replace h0 := xif q1 h0
    refine x_aload_n C d_Room_isWhole_8 0 rfl ?_
    refine x_getI (y := 0) C fg_Room_15 (rm_0 hrm) rfl d_Room_isWhole_9 ?_
    refine x_iconst (v := 1) C d_Room_isWhole_12 (by decide) ?_
    refine x_icmp_ge C 18 d_Room_isWhole_13 (by decide) (fun q2 => ?_) (fun q2 => ?_)
    · replace h0 := xit q2 h0
      refine x_iconst (v := 0) C d_Room_isWhole_18 (by decide) ?_
      refine x_istore_n (lv' := [(1, .int 0), (0, .ref (G.2.2.1 + rm))]) C d_Room_isWhole_19 rfl (by decide) rfl ?_
      refine x_iconst (v := 0) C d_Room_isWhole_20 (by decide) ?_
      refine x_istore_n (lv' := [(2, .int 0), (1, .int 0), (0, .ref (G.2.2.1 + rm))]) C d_Room_isWhole_21 rfl (by decide) rfl ?_
      exact x_lv C [2, 1, 0] rfl (b_Room_isWhole_22 C hr hk hd hR hrm FUEL _ _ _ h0)
    · replace h0 := xif q2 h0
      exact x_lv C [] rfl (b_Room_isWhole_16 C hr hk hd hR hrm h0)
-- LostPlaces$RoomReader.read(LLostPlaces$Room;)I
theorem d_RoomReader_read_0 : decode prog_9_method_2_code 0 = .ok (.aload_n 0, 1) := by decide +kernel
theorem d_RoomReader_read_1 : decode prog_9_method_2_code 1 = .ok (.getfield 15, 3) := by decide +kernel
theorem d_RoomReader_read_4 : decode prog_9_method_2_code 4 = .ok (.invokevirtual 19, 3) := by decide +kernel
theorem d_RoomReader_read_7 : decode prog_9_method_2_code 7 = .ok (.aload_n 1, 1) := by decide +kernel
theorem d_RoomReader_read_8 : decode prog_9_method_2_code 8 = .ok (.invokevirtual 24, 3) := by decide +kernel
theorem d_RoomReader_read_11 : decode prog_9_method_2_code 11 = .ok (.aload_n 1, 1) := by decide +kernel
theorem d_RoomReader_read_12 : decode prog_9_method_2_code 12 = .ok (.getstatic 29, 3) := by decide +kernel
theorem d_RoomReader_read_15 : decode prog_9_method_2_code 15 = .ok (.bipush 12, 2) := by decide +kernel
theorem d_RoomReader_read_17 : decode prog_9_method_2_code 17 = .ok (.iaload, 1) := by decide +kernel
theorem d_RoomReader_read_18 : decode prog_9_method_2_code 18 = .ok (.getstatic 29, 3) := by decide +kernel
theorem d_RoomReader_read_21 : decode prog_9_method_2_code 21 = .ok (.bipush 13, 2) := by decide +kernel
theorem d_RoomReader_read_23 : decode prog_9_method_2_code 23 = .ok (.iaload, 1) := by decide +kernel
theorem d_RoomReader_read_24 : decode prog_9_method_2_code 24 = .ok (.invokevirtual 32, 3) := by decide +kernel
theorem d_RoomReader_read_27 : decode prog_9_method_2_code 27 = .ok (.iconst 1, 1) := by decide +kernel
theorem d_RoomReader_read_28 : decode prog_9_method_2_code 28 = .ok (.istore_n 2, 1) := by decide +kernel
theorem d_RoomReader_read_29 : decode prog_9_method_2_code 29 = .ok (.iconst 0, 1) := by decide +kernel
theorem d_RoomReader_read_30 : decode prog_9_method_2_code 30 = .ok (.istore_n 3, 1) := by decide +kernel
theorem d_RoomReader_read_31 : decode prog_9_method_2_code 31 = .ok (.iload_n 2, 1) := by decide +kernel
theorem d_RoomReader_read_32 : decode prog_9_method_2_code 32 = .ok (.ifCond .eq 22, 3) := by decide +kernel
theorem d_RoomReader_read_35 : decode prog_9_method_2_code 35 = .ok (.iload_n 3, 1) := by decide +kernel
theorem d_RoomReader_read_36 : decode prog_9_method_2_code 36 = .ok (.sipush 240, 3) := by decide +kernel
theorem d_RoomReader_read_39 : decode prog_9_method_2_code 39 = .ok (.if_icmp .ge 15, 3) := by decide +kernel
theorem d_RoomReader_read_42 : decode prog_9_method_2_code 42 = .ok (.aload_n 0, 1) := by decide +kernel
theorem d_RoomReader_read_43 : decode prog_9_method_2_code 43 = .ok (.aload_n 1, 1) := by decide +kernel
theorem d_RoomReader_read_44 : decode prog_9_method_2_code 44 = .ok (.invokevirtual 36, 3) := by decide +kernel
theorem d_RoomReader_read_47 : decode prog_9_method_2_code 47 = .ok (.istore_n 2, 1) := by decide +kernel
theorem d_RoomReader_read_48 : decode prog_9_method_2_code 48 = .ok (.iinc 3 1, 3) := by decide +kernel
theorem d_RoomReader_read_51 : decode prog_9_method_2_code 51 = .ok (.goto (-20), 3) := by decide +kernel
theorem d_RoomReader_read_54 : decode prog_9_method_2_code 54 = .ok (.aload_n 0, 1) := by decide +kernel
theorem d_RoomReader_read_55 : decode prog_9_method_2_code 55 = .ok (.getfield 15, 3) := by decide +kernel
theorem d_RoomReader_read_58 : decode prog_9_method_2_code 58 = .ok (.invokevirtual 40, 3) := by decide +kernel
theorem d_RoomReader_read_61 : decode prog_9_method_2_code 61 = .ok (.ifCond .eq 24, 3) := by decide +kernel
theorem d_RoomReader_read_64 : decode prog_9_method_2_code 64 = .ok (.aload_n 1, 1) := by decide +kernel
theorem d_RoomReader_read_65 : decode prog_9_method_2_code 65 = .ok (.invokevirtual 44, 3) := by decide +kernel
theorem d_RoomReader_read_68 : decode prog_9_method_2_code 68 = .ok (.ifCond .ne 17, 3) := by decide +kernel
theorem d_RoomReader_read_71 : decode prog_9_method_2_code 71 = .ok (.aload_n 0, 1) := by decide +kernel
theorem d_RoomReader_read_72 : decode prog_9_method_2_code 72 = .ok (.getfield 15, 3) := by decide +kernel
theorem d_RoomReader_read_75 : decode prog_9_method_2_code 75 = .ok (.aload_n 0, 1) := by decide +kernel
theorem d_RoomReader_read_76 : decode prog_9_method_2_code 76 = .ok (.getfield 15, 3) := by decide +kernel
theorem d_RoomReader_read_79 : decode prog_9_method_2_code 79 = .ok (.getfield 47, 3) := by decide +kernel
theorem d_RoomReader_read_82 : decode prog_9_method_2_code 82 = .ok (.invokevirtual 51, 3) := by decide +kernel
theorem d_RoomReader_read_85 : decode prog_9_method_2_code 85 = .ok (.aload_n 0, 1) := by decide +kernel
theorem d_RoomReader_read_86 : decode prog_9_method_2_code 86 = .ok (.getfield 15, 3) := by decide +kernel
theorem d_RoomReader_read_89 : decode prog_9_method_2_code 89 = .ok (.getfield 55, 3) := by decide +kernel
theorem d_RoomReader_read_92 : decode prog_9_method_2_code 92 = .ok (.ireturn, 1) := by decide +kernel
def s_RoomReader_read_85 (p0 : Nat) (σ : LH) : Option (Int32 × LH) :=
  some ((σ.1 2 3), σ)
theorem b_RoomReader_read_85 {G : XG} {l : Launch} {p : Program} {e : Env} {R : Room} {s : State} {m : MethodId} {args : Array Value} {below : List Frame} {meth : Method} {c : Code} (C : XC G 1 570 p s m args c prog_9_method_2_code 4 R_RoomReader) (hr : meth.sig.returnType = (some .int)) (hk : meth.locks = false) {d : Nat} (hd : 12 ≤ d + 1) (hR : xroom R (d + 1)) {p0 : Nat} (hp0 : p0 ∈ xRooms) {σ' : LH} {r : Int32} {σ : LH} (h0 : s_RoomReader_read_85 p0 σ = some (r, σ')) : XJ G 1 570 p l e R s m args below meth c 4 (XQ G 1 570 below args s (some (.int r)) σ') 0 0 85 [(0, .ref (G.2.2.1 + 26))] [] σ := by
  replace h0 := (show _ = _ from h0)
  unfold s_RoomReader_read_85 at h0
  refine x_aload_n C d_RoomReader_read_85 0 rfl ?_
  refine x_getA (y := 2) C fg_RoomReader_15 k_26 rfl d_RoomReader_read_86 ?_
  refine x_getI (y := 0) C fg_RoomReader_55 k_2 rfl d_RoomReader_read_89 ?_
  exact x_iret C hr hk h0 d_RoomReader_read_92
def s_RoomReader_read_54 (p0 : Nat) (σ : LH) : Option (Int32 × LH) :=
  xb2 (s_Tape_isFine σ) fun r11 σ12 =>
  if r11 = 0 then (
   s_RoomReader_read_85 p0 σ12)
  else (
   xb2 (s_Room_isWhole p0 σ12) fun r15 σ16 =>
   if r15 = 0 then (
    xb1 (s_Tape_fail (σ16.1 2 1) σ16) fun σ19 =>
    s_RoomReader_read_85 p0 σ19)
   else (
    s_RoomReader_read_85 p0 σ16))
theorem b_RoomReader_read_54 {G : XG} {l : Launch} {p : Program} {e : Env} {R : Room} {s : State} {m : MethodId} {args : Array Value} {below : List Frame} {meth : Method} {c : Code} (C : XC G 1 570 p s m args c prog_9_method_2_code 4 R_RoomReader) (hr : meth.sig.returnType = (some .int)) (hk : meth.locks = false) {d : Nat} (hd : 12 ≤ d + 1) (hR : xroom R (d + 1)) {p0 : Nat} (hp0 : p0 ∈ xRooms) {σ' : LH} {r : Int32} {σ : LH} (h0 : s_RoomReader_read_54 p0 σ = some (r, σ')) : XJ G 1 570 p l e R s m args below meth c 4 (XQ G 1 570 below args s (some (.int r)) σ') 0 0 54 [(0, .ref (G.2.2.1 + 26)), (1, .ref (G.2.2.1 + p0))] [] σ := by
  replace h0 := (show _ = _ from h0)
  unfold s_RoomReader_read_54 at h0
  refine x_aload_n C d_RoomReader_read_54 0 rfl ?_
  refine x_getA (y := 2) C fg_RoomReader_15 k_26 rfl d_RoomReader_read_55 ?_
  obtain ⟨r11, σ12, k10, h0⟩ := xbind2 h0
  refine x_callVi C hR (c_Tape_isFine (d := d) (by omega) k10) cw_RoomReader_40 k_2 rfl rfl rfl (Nat.le_of_ble_eq_true rfl) ⟨Nat.zero_le _, Nat.zero_le _⟩ d_RoomReader_read_58 ?_
  refine x_if_eq C 85 d_RoomReader_read_61 (by decide) (fun q13 => ?_) (fun q13 => ?_)
  · replace h0 := xit q13 h0
    exact x_lv C [0] rfl (b_RoomReader_read_85 C hr hk hd hR hp0 h0)
  · replace h0 := xif q13 h0
    refine x_aload_n C d_RoomReader_read_64 1 rfl ?_
    obtain ⟨r15, σ16, k14, h0⟩ := xbind2 h0
    refine x_callVi C hR (c_Room_isWhole (d := d) (by omega) hp0 k14) cw_RoomReader_44 (rm_0 hp0) rfl rfl rfl (Nat.le_of_ble_eq_true rfl) ⟨Nat.zero_le _, Nat.zero_le _⟩ d_RoomReader_read_65 ?_
    refine x_if_ne C 85 d_RoomReader_read_68 (by decide) (fun q17 => ?_) (fun q17 => ?_)
    · replace h0 := xif q17 h0
      exact x_lv C [0] rfl (b_RoomReader_read_85 C hr hk hd hR hp0 h0)
    · replace h0 := xit q17 h0
      refine x_aload_n C d_RoomReader_read_71 0 rfl ?_
      refine x_getA (y := 2) C fg_RoomReader_15 k_26 rfl d_RoomReader_read_72 ?_
      refine x_aload_n C d_RoomReader_read_75 0 rfl ?_
      refine x_getA (y := 2) C fg_RoomReader_15 k_26 rfl d_RoomReader_read_76 ?_
      refine x_getI (y := 0) C fg_RoomReader_47 k_2 rfl d_RoomReader_read_79 ?_
      obtain ⟨σ19, k18, h0⟩ := xbind1 h0
      refine x_callVv C hR (c_Tape_fail (d := d) (by omega) k18) cw_RoomReader_51 k_2 rfl rfl rfl (Nat.le_of_ble_eq_true rfl) ⟨Nat.zero_le _, Nat.zero_le _⟩ d_RoomReader_read_82 ?_
      exact x_lv C [0] rfl (b_RoomReader_read_85 C hr hk hd hR hp0 h0)
def s_RoomReader_read_31_b (p0 : Nat) (rec31 : Int32 → Int32 → LH → Option (Int32 × LH)) (y2 : Int32) (y3 : Int32) (σ : LH) : Option (Int32 × LH) :=
  if y2 = 0 then (
   s_RoomReader_read_54 p0 σ)
  else (
   if 240 ≤ y3 then (
    s_RoomReader_read_54 p0 σ)
   else (
    xb2 (s_RoomReader_readClause p0 σ) fun r22 σ23 =>
    xl ((y3 + 1) : Int32) fun x24 =>
    rec31 r22 x24 σ23))
def s_RoomReader_read_31 (p0 : Nat) : Nat → Int32 → Int32 → LH → Option (Int32 × LH)
  | 0, _, _, _ => none
  | n + 1, y2, y3, σ => s_RoomReader_read_31_b p0 (s_RoomReader_read_31 p0 n) y2 y3 σ
theorem bb_RoomReader_read_31 {G : XG} {l : Launch} {p : Program} {e : Env} {R : Room} {s : State} {m : MethodId} {args : Array Value} {below : List Frame} {meth : Method} {c : Code} (C : XC G 1 570 p s m args c prog_9_method_2_code 4 R_RoomReader) (hr : meth.sig.returnType = (some .int)) (hk : meth.locks = false) {d : Nat} (hd : 12 ≤ d + 1) (hR : xroom R (d + 1)) {p0 : Nat} (hp0 : p0 ∈ xRooms) {rec31 : Int32 → Int32 → LH → Option (Int32 × LH)} {σ' : LH} {r : Int32} (hrec31 : ∀ (y2 : Int32) (y3 : Int32) (σ : LH), rec31 y2 y3 σ = some (r, σ') → XJ G 1 570 p l e R s m args below meth c 4 (XQ G 1 570 below args s (some (.int r)) σ') 0 0 31 [(0, .ref (G.2.2.1 + 26)), (1, .ref (G.2.2.1 + p0)), (2, .int y2), (3, .int y3)] [] σ) {y2 : Int32} {y3 : Int32} {σ : LH} (h0 : s_RoomReader_read_31_b p0 rec31 y2 y3 σ = some (r, σ')) : XJ G 1 570 p l e R s m args below meth c 4 (XQ G 1 570 below args s (some (.int r)) σ') 0 0 31 [(0, .ref (G.2.2.1 + 26)), (1, .ref (G.2.2.1 + p0)), (2, .int y2), (3, .int y3)] [] σ := by
  replace h0 := (show _ = _ from h0)
  unfold s_RoomReader_read_31_b at h0
  refine x_iload_n C d_RoomReader_read_31 2 rfl ?_
  refine x_if_eq C 54 d_RoomReader_read_32 (by decide) (fun q9 => ?_) (fun q9 => ?_)
  · replace h0 := xit q9 h0
    exact x_lv C [0, 1] rfl (b_RoomReader_read_54 C hr hk hd hR hp0 h0)
  · replace h0 := xif q9 h0
    refine x_iload_n C d_RoomReader_read_35 3 rfl ?_
    refine x_sipush (v := 240) C d_RoomReader_read_36 (by decide) ?_
    refine x_icmp_ge C 54 d_RoomReader_read_39 (by decide) (fun q20 => ?_) (fun q20 => ?_)
    · replace h0 := xit q20 h0
      exact x_lv C [0, 1] rfl (b_RoomReader_read_54 C hr hk hd hR hp0 h0)
    · replace h0 := xif q20 h0
      refine x_aload_n C d_RoomReader_read_42 0 rfl ?_
      refine x_aload_n C d_RoomReader_read_43 1 rfl ?_
      obtain ⟨r22, σ23, k21, h0⟩ := xbind2 h0
      refine x_callVi C hR (c_RoomReader_readClause (d := d) (by omega) hp0 k21) cw_RoomReader_36 k_26 rfl rfl rfl (Nat.le_of_ble_eq_true rfl) ⟨Nat.zero_le _, Nat.zero_le _⟩ d_RoomReader_read_44 ?_
      refine x_istore_n (lv' := [(2, .int r22), (0, .ref (G.2.2.1 + 26)), (1, .ref (G.2.2.1 + p0)), (3, .int y3)]) C d_RoomReader_read_47 rfl (by decide) rfl ?_
      obtain ⟨x24, ex24, h0⟩ := xlet h0
      refine x_iinc (lv' := [(3, .int x24), (2, .int r22), (0, .ref (G.2.2.1 + 26)), (1, .ref (G.2.2.1 + p0))]) C d_RoomReader_read_48 3 rfl ex24 (by decide) rfl ?_
      refine x_goto C 31 d_RoomReader_read_51 (by decide) ?_
      exact x_lv C [2, 3, 1, 0] rfl (hrec31 _ _ _ h0)
theorem b_RoomReader_read_31 {G : XG} {l : Launch} {p : Program} {e : Env} {R : Room} {s : State} {m : MethodId} {args : Array Value} {below : List Frame} {meth : Method} {c : Code} (C : XC G 1 570 p s m args c prog_9_method_2_code 4 R_RoomReader) (hr : meth.sig.returnType = (some .int)) (hk : meth.locks = false) {d : Nat} (hd : 12 ≤ d + 1) (hR : xroom R (d + 1)) {p0 : Nat} (hp0 : p0 ∈ xRooms) {σ' : LH} {r : Int32} : ∀ (n : Nat) (y2 : Int32) (y3 : Int32) (σ : LH), s_RoomReader_read_31 p0 n y2 y3 σ = some (r, σ') → XJ G 1 570 p l e R s m args below meth c 4 (XQ G 1 570 below args s (some (.int r)) σ') 0 0 31 [(0, .ref (G.2.2.1 + 26)), (1, .ref (G.2.2.1 + p0)), (2, .int y2), (3, .int y3)] [] σ := by
  intro n
  induction n with
  | zero => intro y2 y3 σ h0; cases h0
  | succ n ih => intro y2 y3 σ h0; exact bb_RoomReader_read_31 C hr hk hd hR hp0 ih h0
def s_RoomReader_read (p0 : Nat) (σ : LH) : Option (Int32 × LH) :=
  xb1 (s_Tape_rewind σ) fun σ2 =>
  xb1 (s_Room_clear p0 σ2) fun σ4 =>
  if ib 12 16 then (
  if ib 13 16 then (
  xb1 (s_Room_setEvening p0 ((xtab.getD 2 []).getD (Int32.toNatClampNeg 12) 0) ((xtab.getD 2 []).getD (Int32.toNatClampNeg 13) 0) σ4) fun σ8 =>
  s_RoomReader_read_31 p0 FUEL 1 0 σ8) else none) else none
theorem c_RoomReader_read {G : XG} {l : Launch} {d : Nat} (hd : 12 ≤ d) {p0 : Nat} (hp0 : p0 ∈ xRooms) {σ σ' : LH} {r : Int32} (h0 : s_RoomReader_read p0 σ = some (r, σ')) : xM G 1 570 l y_RoomReader_read prog_9_method_2_code 4 (some .int) d [.ref (G.2.2.1 + 26), .ref (G.2.2.1 + p0)] σ (some (.int r)) σ' := by
  obtain ⟨d, rfl⟩ : ∃ q, d = q + 1 := ⟨d - 1, by omega⟩
  refine x_met R_RoomReader rfl (by decide +kernel) (Nat.le_of_ble_eq_true rfl) fun p e s m below meth c C hr hk hR => ?_
  refine x_lv (lv' := [(0, .ref (G.2.2.1 + 26)), (1, .ref (G.2.2.1 + p0))]) C [0, 1] rfl ?_
  generalize xrm (d + 1) = R at hR ⊢
  unfold s_RoomReader_read at h0
  refine x_aload_n C d_RoomReader_read_0 0 rfl ?_
  refine x_getA (y := 2) C fg_RoomReader_15 k_26 rfl d_RoomReader_read_1 ?_
  obtain ⟨σ2, k1, h0⟩ := xbind1 h0
  refine x_callVv C hR (c_Tape_rewind (d := d) (by omega) k1) cw_RoomReader_19 k_2 rfl rfl rfl (Nat.le_of_ble_eq_true rfl) ⟨Nat.zero_le _, Nat.zero_le _⟩ d_RoomReader_read_4 ?_
  refine x_aload_n C d_RoomReader_read_7 1 rfl ?_
  obtain ⟨σ4, k3, h0⟩ := xbind1 h0
  refine x_callVv C hR (c_Room_clear (d := d) (by omega) hp0 k3) cw_RoomReader_24 (rm_0 hp0) rfl rfl rfl (Nat.le_of_ble_eq_true rfl) ⟨Nat.zero_le _, Nat.zero_le _⟩ d_RoomReader_read_8 ?_
  refine x_aload_n C d_RoomReader_read_11 1 rfl ?_
  refine x_gets (k := 2) C (by decide) rfl w_674 d_RoomReader_read_12 ?_
  refine x_bipush (v := 12) C d_RoomReader_read_15 (by decide) ?_
  obtain ⟨g5, h0⟩ := xgo h0
  refine x_stald C (by decide) (ib_in g5) d_RoomReader_read_17 ?_
  refine x_gets (k := 2) C (by decide) rfl w_674 d_RoomReader_read_18 ?_
  refine x_bipush (v := 13) C d_RoomReader_read_21 (by decide) ?_
  obtain ⟨g6, h0⟩ := xgo h0
  refine x_stald C (by decide) (ib_in g6) d_RoomReader_read_23 ?_
  obtain ⟨σ8, k7, h0⟩ := xbind1 h0
  refine x_callVv C hR (c_Room_setEvening (d := d) (by omega) hp0 k7) cw_RoomReader_32 (rm_0 hp0) rfl rfl rfl (Nat.le_of_ble_eq_true rfl) ⟨Nat.zero_le _, Nat.zero_le _⟩ d_RoomReader_read_24 ?_
  refine x_iconst (v := 1) C d_RoomReader_read_27 (by decide) ?_
  refine x_istore_n (lv' := [(2, .int 1), (0, .ref (G.2.2.1 + 26)), (1, .ref (G.2.2.1 + p0))]) C d_RoomReader_read_28 rfl (by decide) rfl ?_
  refine x_iconst (v := 0) C d_RoomReader_read_29 (by decide) ?_
  refine x_istore_n (lv' := [(3, .int 0), (2, .int 1), (0, .ref (G.2.2.1 + 26)), (1, .ref (G.2.2.1 + p0))]) C d_RoomReader_read_30 rfl (by decide) rfl ?_
  exact x_lv C [2, 3, 1, 0] rfl (b_RoomReader_read_31 C hr hk hd hR hp0 FUEL _ _ _ h0)
-- LostPlaces.nextTaste()LLostPlaces$Taste;
theorem d_Main_nextTaste_0 : decode prog_1_method_6_code 0 = .ok (.aload_n 0, 1) := by decide +kernel
theorem d_Main_nextTaste_1 : decode prog_1_method_6_code 1 = .ok (.getfield 44, 3) := by decide +kernel
theorem d_Main_nextTaste_4 : decode prog_1_method_6_code 4 = .ok (.aload_n 0, 1) := by decide +kernel
theorem d_Main_nextTaste_5 : decode prog_1_method_6_code 5 = .ok (.getfield 48, 3) := by decide +kernel
theorem d_Main_nextTaste_8 : decode prog_1_method_6_code 8 = .ok (.ifCond .lt 22, 3) := by decide +kernel
theorem d_Main_nextTaste_11 : decode prog_1_method_6_code 11 = .ok (.aload_n 0, 1) := by decide +kernel
theorem d_Main_nextTaste_12 : decode prog_1_method_6_code 12 = .ok (.getfield 48, 3) := by decide +kernel
theorem d_Main_nextTaste_15 : decode prog_1_method_6_code 15 = .ok (.aload_n 0, 1) := by decide +kernel
theorem d_Main_nextTaste_16 : decode prog_1_method_6_code 16 = .ok (.getfield 44, 3) := by decide +kernel
theorem d_Main_nextTaste_19 : decode prog_1_method_6_code 19 = .ok (.arraylength, 1) := by decide +kernel
theorem d_Main_nextTaste_20 : decode prog_1_method_6_code 20 = .ok (.if_icmp .ge 10, 3) := by decide +kernel
theorem d_Main_nextTaste_23 : decode prog_1_method_6_code 23 = .ok (.aload_n 0, 1) := by decide +kernel
theorem d_Main_nextTaste_24 : decode prog_1_method_6_code 24 = .ok (.getfield 48, 3) := by decide +kernel
theorem d_Main_nextTaste_27 : decode prog_1_method_6_code 27 = .ok (.goto 10, 3) := by decide +kernel
theorem d_Main_nextTaste_30 : decode prog_1_method_6_code 30 = .ok (.aload_n 0, 1) := by decide +kernel
theorem d_Main_nextTaste_31 : decode prog_1_method_6_code 31 = .ok (.getfield 44, 3) := by decide +kernel
theorem d_Main_nextTaste_34 : decode prog_1_method_6_code 34 = .ok (.arraylength, 1) := by decide +kernel
theorem d_Main_nextTaste_35 : decode prog_1_method_6_code 35 = .ok (.iconst 1, 1) := by decide +kernel
theorem d_Main_nextTaste_36 : decode prog_1_method_6_code 36 = .ok (.isub, 1) := by decide +kernel
theorem d_Main_nextTaste_37 : decode prog_1_method_6_code 37 = .ok (.aaload, 1) := by decide +kernel
theorem d_Main_nextTaste_38 : decode prog_1_method_6_code 38 = .ok (.areturn, 1) := by decide +kernel
def s_Main_nextTaste_37 (z1 : Int32) (σ : LH) : Option (Nat × LH) :=
  if ib z1 5 then (
  xl ((195 + 3 * (Int32.toNatClampNeg z1)) : Nat) fun t3 =>
  some (t3, σ)) else none
theorem b_Main_nextTaste_37 {G : XG} {l : Launch} {p : Program} {e : Env} {R : Room} {s : State} {m : MethodId} {args : Array Value} {below : List Frame} {meth : Method} {c : Code} (C : XC G 1 570 p s m args c prog_1_method_6_code 1 R_Main) (hr : meth.sig.returnType = (some (.object "LostPlaces$Taste"))) (hk : meth.locks = false) {d : Nat} (hd : 1 ≤ d + 1) (hR : xroom R (d + 1)) {σ' : LH} {r : Nat} {z1 : Int32} {σ : LH} (h0 : s_Main_nextTaste_37 z1 σ = some (r, σ')) : XJ G 1 570 p l e R s m args below meth c 1 (XQ G 1 570 below args s (some (.ref (G.2.2.1 + r))) σ') 0 0 37 [] [.int z1, .ref (G.2.2.1 + 32)] σ := by
  replace h0 := (show _ = _ from h0)
  unfold s_Main_nextTaste_37 at h0
  obtain ⟨g2, h0⟩ := xgo h0
  refine x_tald C k_32 (ib_in g2) d_Main_nextTaste_37 ?_
  obtain ⟨t3, et3, h0⟩ := xlet h0
  refine x_nameR C et3 ?_
  have ht3 : t3 ∈ xTastes := by rw [et3]; exact tastes_in g2
  exact x_aretC C hr (Or.inl ⟨_, rfl⟩) hk h0 d_Main_nextTaste_38
def s_Main_nextTaste_30 (σ : LH) : Option (Nat × LH) :=
  s_Main_nextTaste_37 (5 - 1) σ
theorem b_Main_nextTaste_30 {G : XG} {l : Launch} {p : Program} {e : Env} {R : Room} {s : State} {m : MethodId} {args : Array Value} {below : List Frame} {meth : Method} {c : Code} (C : XC G 1 570 p s m args c prog_1_method_6_code 1 R_Main) (hr : meth.sig.returnType = (some (.object "LostPlaces$Taste"))) (hk : meth.locks = false) {d : Nat} (hd : 1 ≤ d + 1) (hR : xroom R (d + 1)) {σ' : LH} {r : Nat} {σ : LH} (h0 : s_Main_nextTaste_30 σ = some (r, σ')) : XJ G 1 570 p l e R s m args below meth c 1 (XQ G 1 570 below args s (some (.ref (G.2.2.1 + r))) σ') 0 0 30 [(0, .ref (G.2.2.1 + 1))] [.ref (G.2.2.1 + 32)] σ := by
  replace h0 := (show _ = _ from h0)
  unfold s_Main_nextTaste_30 at h0
  refine x_aload_n C d_Main_nextTaste_30 0 rfl ?_
  refine x_getA (y := 32) C fg_Main_44 k_1 rfl d_Main_nextTaste_31 ?_
  refine x_tlen (v := 5) C k_32 rfl d_Main_nextTaste_34 ?_
  refine x_iconst (v := 1) C d_Main_nextTaste_35 (by decide) ?_
  refine x_isub C d_Main_nextTaste_36 ?_
  exact x_lv C [] rfl (b_Main_nextTaste_37 C hr hk hd hR h0)
def s_Main_nextTaste (σ : LH) : Option (Nat × LH) :=
  if (σ.1 1 6) < 0 then (
   s_Main_nextTaste_30 σ)
  else (
   if 5 ≤ (σ.1 1 6) then (
    s_Main_nextTaste_30 σ)
   else (
    s_Main_nextTaste_37 (σ.1 1 6) σ))
theorem c_Main_nextTaste {G : XG} {l : Launch} {d : Nat} (hd : 1 ≤ d) {σ σ' : LH} {r : Nat} (h0 : s_Main_nextTaste σ = some (r, σ')) : xM G 1 570 l y_Main_nextTaste prog_1_method_6_code 1 (some (.object "LostPlaces$Taste")) d [.ref (G.2.2.1 + 1)] σ (some (.ref (G.2.2.1 + r))) σ' := by
  obtain ⟨d, rfl⟩ : ∃ q, d = q + 1 := ⟨d - 1, by omega⟩
  refine x_met R_Main rfl (by decide +kernel) (Nat.le_of_ble_eq_true rfl) fun p e s m below meth c C hr hk hR => ?_
  refine x_lv (lv' := [(0, .ref (G.2.2.1 + 1))]) C [0] rfl ?_
  generalize xrm (d + 1) = R at hR ⊢
  unfold s_Main_nextTaste at h0
  refine x_aload_n C d_Main_nextTaste_0 0 rfl ?_
  refine x_getA (y := 32) C fg_Main_44 k_1 rfl d_Main_nextTaste_1 ?_
  refine x_aload_n C d_Main_nextTaste_4 0 rfl ?_
  refine x_getI (y := 0) C fg_Main_48 k_1 rfl d_Main_nextTaste_5 ?_
  refine x_if_lt C 30 d_Main_nextTaste_8 (by decide) (fun q1 => ?_) (fun q1 => ?_)
  · replace h0 := xit q1 h0
    exact x_lv C [0] rfl (b_Main_nextTaste_30 C hr hk hd hR h0)
  · replace h0 := xif q1 h0
    refine x_aload_n C d_Main_nextTaste_11 0 rfl ?_
    refine x_getI (y := 0) C fg_Main_48 k_1 rfl d_Main_nextTaste_12 ?_
    refine x_aload_n C d_Main_nextTaste_15 0 rfl ?_
    refine x_getA (y := 32) C fg_Main_44 k_1 rfl d_Main_nextTaste_16 ?_
    refine x_tlen (v := 5) C k_32 rfl d_Main_nextTaste_19 ?_
    refine x_icmp_ge C 30 d_Main_nextTaste_20 (by decide) (fun q4 => ?_) (fun q4 => ?_)
    · replace h0 := xit q4 h0
      exact x_lv C [0] rfl (b_Main_nextTaste_30 C hr hk hd hR h0)
    · replace h0 := xif q4 h0
      refine x_aload_n C d_Main_nextTaste_23 0 rfl ?_
      refine x_getI (y := 0) C fg_Main_48 k_1 rfl d_Main_nextTaste_24 ?_
      refine x_goto C 37 d_Main_nextTaste_27 (by decide) ?_
      exact x_lv C [] rfl (b_Main_nextTaste_37 C hr hk hd hR h0)
theorem p_Main_nextTaste {σ σ' : LH} {r : Nat} (h : s_Main_nextTaste σ = some (r, σ')) : r ∈ xTastes := by
  have m : ∀ z1, s_Main_nextTaste_37 z1 σ = some (r, σ') → r ∈ xTastes := by
    intro z1 h
    unfold s_Main_nextTaste_37 at h
    obtain ⟨g, h⟩ := xgo h
    obtain ⟨t3, et3, h⟩ := xlet h
    have e : t3 = r := by
      injection h with h
      exact congrArg Prod.fst h
    rw [← e, et3]
    exact tastes_in g
  unfold s_Main_nextTaste s_Main_nextTaste_30 at h
  by_cases q1 : σ.1 1 6 < 0
  · rw [if_pos q1] at h
    exact m _ h
  · rw [if_neg q1] at h
    by_cases q2 : 5 ≤ σ.1 1 6
    · rw [if_pos q2] at h
      exact m _ h
    · rw [if_neg q2] at h
      exact m _ h
-- LostPlaces$Taste.clear()V
theorem d_Taste_clear_0 : decode prog_11_method_2_code 0 = .ok (.aload_n 0, 1) := by decide +kernel
theorem d_Taste_clear_1 : decode prog_11_method_2_code 1 = .ok (.iconst 0, 1) := by decide +kernel
theorem d_Taste_clear_2 : decode prog_11_method_2_code 2 = .ok (.putfield 15, 3) := by decide +kernel
theorem d_Taste_clear_5 : decode prog_11_method_2_code 5 = .ok (.aload_n 0, 1) := by decide +kernel
theorem d_Taste_clear_6 : decode prog_11_method_2_code 6 = .ok (.iconst 0, 1) := by decide +kernel
theorem d_Taste_clear_7 : decode prog_11_method_2_code 7 = .ok (.putfield 22, 3) := by decide +kernel
theorem d_Taste_clear_10 : decode prog_11_method_2_code 10 = .ok (.return_, 1) := by decide +kernel
def s_Taste_clear (t : Nat) (σ : LH) : Option (LH) :=
  xl ((stI σ t 1 0) : LH) fun σ1 =>
  xl ((stI σ1 t 3 0) : LH) fun σ2 =>
  some σ2
theorem c_Taste_clear {G : XG} {l : Launch} {d : Nat} (hd : 1 ≤ d) {t : Nat} (ht : t ∈ xTastes) {σ σ' : LH} (h0 : s_Taste_clear t σ = some σ') : xM G 1 570 l y_Taste_clear prog_11_method_2_code 1 none d [.ref (G.2.2.1 + t)] σ none σ' := by
  obtain ⟨d, rfl⟩ : ∃ q, d = q + 1 := ⟨d - 1, by omega⟩
  refine x_met R_Taste rfl (by decide +kernel) (Nat.le_of_ble_eq_true rfl) fun p e s m below meth c C hr hk hR => ?_
  refine x_lv (lv' := [(0, .ref (G.2.2.1 + t))]) C [0] rfl ?_
  generalize xrm (d + 1) = R at hR ⊢
  unfold s_Taste_clear at h0
  refine x_aload_n C d_Taste_clear_0 0 rfl ?_
  refine x_iconst (v := 0) C d_Taste_clear_1 (by decide) ?_
  refine x_putI (y := 0) C fp_Taste_15 (ta_0 ht) rfl rfl rfl d_Taste_clear_2 ?_
  obtain ⟨σ1, eσ1, h0⟩ := xlet h0
  refine x_sig C eσ1 ?_
  refine x_aload_n C d_Taste_clear_5 0 rfl ?_
  refine x_iconst (v := 0) C d_Taste_clear_6 (by decide) ?_
  refine x_putI (y := 0) C fp_Taste_22 (ta_0 ht) rfl rfl rfl d_Taste_clear_7 ?_
  obtain ⟨σ2, eσ2, h0⟩ := xlet h0
  refine x_sig C eσ2 ?_
  exact x_vret C hr hk h0 d_Taste_clear_10
-- LostPlaces$Tape.needs(C)V
theorem d_Tape_needs_0 : decode prog_10_method_9_code 0 = .ok (.aload_n 0, 1) := by decide +kernel
theorem d_Tape_needs_1 : decode prog_10_method_9_code 1 = .ok (.iload_n 1, 1) := by decide +kernel
theorem d_Tape_needs_2 : decode prog_10_method_9_code 2 = .ok (.invokevirtual 29, 3) := by decide +kernel
theorem d_Tape_needs_5 : decode prog_10_method_9_code 5 = .ok (.ifCond .ne 11, 3) := by decide +kernel
theorem d_Tape_needs_8 : decode prog_10_method_9_code 8 = .ok (.aload_n 0, 1) := by decide +kernel
theorem d_Tape_needs_9 : decode prog_10_method_9_code 9 = .ok (.aload_n 0, 1) := by decide +kernel
theorem d_Tape_needs_10 : decode prog_10_method_9_code 10 = .ok (.getfield 19, 3) := by decide +kernel
theorem d_Tape_needs_13 : decode prog_10_method_9_code 13 = .ok (.invokevirtual 33, 3) := by decide +kernel
theorem d_Tape_needs_16 : decode prog_10_method_9_code 16 = .ok (.return_, 1) := by decide +kernel
def s_Tape_needs_16 (p0 : Int32) (σ : LH) : Option (LH) :=
  some σ
theorem b_Tape_needs_16 {G : XG} {l : Launch} {p : Program} {e : Env} {R : Room} {s : State} {m : MethodId} {args : Array Value} {below : List Frame} {meth : Method} {c : Code} (C : XC G 1 570 p s m args c prog_10_method_9_code 2 R_Tape) (hr : meth.sig.returnType = none) (hk : meth.locks = false) {d : Nat} (hd : 3 ≤ d + 1) (hR : xroom R (d + 1)) {p0 : Int32} {σ' : LH} {σ : LH} (h0 : s_Tape_needs_16 p0 σ = some σ') : XJ G 1 570 p l e R s m args below meth c 2 (XQ G 1 570 below args s none σ') 0 0 16 [] [] σ := by
  replace h0 := (show _ = _ from h0)
  unfold s_Tape_needs_16 at h0
  exact x_vret C hr hk h0 d_Tape_needs_16
def s_Tape_needs (p0 : Int32) (σ : LH) : Option (LH) :=
  xb2 (s_Tape_takes p0 σ) fun r2 σ3 =>
  if r2 = 0 then (
   xb1 (s_Tape_fail (σ3.1 2 2) σ3) fun σ6 =>
   s_Tape_needs_16 p0 σ6)
  else (
   s_Tape_needs_16 p0 σ3)
theorem c_Tape_needs {G : XG} {l : Launch} {d : Nat} (hd : 3 ≤ d) {p0 : Int32} {σ σ' : LH} (h0 : s_Tape_needs p0 σ = some σ') : xM G 1 570 l y_Tape_needs prog_10_method_9_code 2 none d [.ref (G.2.2.1 + 2), .int p0] σ none σ' := by
  obtain ⟨d, rfl⟩ : ∃ q, d = q + 1 := ⟨d - 1, by omega⟩
  refine x_met R_Tape rfl (by decide +kernel) (Nat.le_of_ble_eq_true rfl) fun p e s m below meth c C hr hk hR => ?_
  refine x_lv (lv' := [(0, .ref (G.2.2.1 + 2)), (1, .int p0)]) C [0, 1] rfl ?_
  generalize xrm (d + 1) = R at hR ⊢
  unfold s_Tape_needs at h0
  refine x_aload_n C d_Tape_needs_0 0 rfl ?_
  refine x_iload_n C d_Tape_needs_1 1 rfl ?_
  obtain ⟨r2, σ3, k1, h0⟩ := xbind2 h0
  refine x_callVi C hR (c_Tape_takes (d := d) (by omega) k1) cw_Tape_29 k_2 rfl rfl rfl (Nat.le_of_ble_eq_true rfl) ⟨Nat.zero_le _, Nat.zero_le _⟩ d_Tape_needs_2 ?_
  refine x_if_ne C 16 d_Tape_needs_5 (by decide) (fun q4 => ?_) (fun q4 => ?_)
  · replace h0 := xif q4 h0
    exact x_lv C [] rfl (b_Tape_needs_16 C hr hk hd hR h0)
  · replace h0 := xit q4 h0
    refine x_aload_n C d_Tape_needs_8 0 rfl ?_
    refine x_aload_n C d_Tape_needs_9 0 rfl ?_
    refine x_getI (y := 0) C fg_Tape_19 k_2 rfl d_Tape_needs_10 ?_
    obtain ⟨σ6, k5, h0⟩ := xbind1 h0
    refine x_callVv C hR (c_Tape_fail (d := d) (by omega) k5) cw_Tape_33 k_2 rfl rfl rfl (Nat.le_of_ble_eq_true rfl) ⟨Nat.zero_le _, Nat.zero_le _⟩ d_Tape_needs_13 ?_
    exact x_lv C [] rfl (b_Tape_needs_16 C hr hk hd hR h0)
-- LostPlaces$Taste.put(I)I
theorem d_Taste_put_0 : decode prog_11_method_3_code 0 = .ok (.aload_n 0, 1) := by decide +kernel
theorem d_Taste_put_1 : decode prog_11_method_3_code 1 = .ok (.getfield 15, 3) := by decide +kernel
theorem d_Taste_put_4 : decode prog_11_method_3_code 4 = .ok (.ifCond .lt 15, 3) := by decide +kernel
theorem d_Taste_put_7 : decode prog_11_method_3_code 7 = .ok (.aload_n 0, 1) := by decide +kernel
theorem d_Taste_put_8 : decode prog_11_method_3_code 8 = .ok (.getfield 15, 3) := by decide +kernel
theorem d_Taste_put_11 : decode prog_11_method_3_code 11 = .ok (.aload_n 0, 1) := by decide +kernel
theorem d_Taste_put_12 : decode prog_11_method_3_code 12 = .ok (.getfield 11, 3) := by decide +kernel
theorem d_Taste_put_15 : decode prog_11_method_3_code 15 = .ok (.arraylength, 1) := by decide +kernel
theorem d_Taste_put_16 : decode prog_11_method_3_code 16 = .ok (.if_icmp .lt 5, 3) := by decide +kernel
theorem d_Taste_put_19 : decode prog_11_method_3_code 19 = .ok (.iconst (-1), 1) := by decide +kernel
theorem d_Taste_put_20 : decode prog_11_method_3_code 20 = .ok (.ireturn, 1) := by decide +kernel
theorem d_Taste_put_21 : decode prog_11_method_3_code 21 = .ok (.aload_n 0, 1) := by decide +kernel
theorem d_Taste_put_22 : decode prog_11_method_3_code 22 = .ok (.getfield 11, 3) := by decide +kernel
theorem d_Taste_put_25 : decode prog_11_method_3_code 25 = .ok (.aload_n 0, 1) := by decide +kernel
theorem d_Taste_put_26 : decode prog_11_method_3_code 26 = .ok (.getfield 15, 3) := by decide +kernel
theorem d_Taste_put_29 : decode prog_11_method_3_code 29 = .ok (.iload_n 1, 1) := by decide +kernel
theorem d_Taste_put_30 : decode prog_11_method_3_code 30 = .ok (.iastore, 1) := by decide +kernel
theorem d_Taste_put_31 : decode prog_11_method_3_code 31 = .ok (.aload_n 0, 1) := by decide +kernel
theorem d_Taste_put_32 : decode prog_11_method_3_code 32 = .ok (.dup, 1) := by decide +kernel
theorem d_Taste_put_33 : decode prog_11_method_3_code 33 = .ok (.getfield 15, 3) := by decide +kernel
theorem d_Taste_put_36 : decode prog_11_method_3_code 36 = .ok (.iconst 1, 1) := by decide +kernel
theorem d_Taste_put_37 : decode prog_11_method_3_code 37 = .ok (.iadd, 1) := by decide +kernel
theorem d_Taste_put_38 : decode prog_11_method_3_code 38 = .ok (.putfield 15, 3) := by decide +kernel
theorem d_Taste_put_41 : decode prog_11_method_3_code 41 = .ok (.aload_n 0, 1) := by decide +kernel
theorem d_Taste_put_42 : decode prog_11_method_3_code 42 = .ok (.getfield 15, 3) := by decide +kernel
theorem d_Taste_put_45 : decode prog_11_method_3_code 45 = .ok (.iconst 1, 1) := by decide +kernel
theorem d_Taste_put_46 : decode prog_11_method_3_code 46 = .ok (.isub, 1) := by decide +kernel
theorem d_Taste_put_47 : decode prog_11_method_3_code 47 = .ok (.ireturn, 1) := by decide +kernel
def s_Taste_put_19 (t : Nat) (p0 : Int32) (σ : LH) : Option (Int32 × LH) :=
  some ((-1), σ)
theorem b_Taste_put_19 {G : XG} {l : Launch} {p : Program} {e : Env} {R : Room} {s : State} {m : MethodId} {args : Array Value} {below : List Frame} {meth : Method} {c : Code} (C : XC G 1 570 p s m args c prog_11_method_3_code 2 R_Taste) (hr : meth.sig.returnType = (some .int)) (hk : meth.locks = false) {d : Nat} (hd : 1 ≤ d + 1) (hR : xroom R (d + 1)) {t : Nat} {p0 : Int32} (ht : t ∈ xTastes) {σ' : LH} {r : Int32} {σ : LH} (h0 : s_Taste_put_19 t p0 σ = some (r, σ')) : XJ G 1 570 p l e R s m args below meth c 2 (XQ G 1 570 below args s (some (.int r)) σ') 0 0 19 [] [] σ := by
  replace h0 := (show _ = _ from h0)
  unfold s_Taste_put_19 at h0
  refine x_iconst (v := (-1)) C d_Taste_put_19 (by decide) ?_
  exact x_iret C hr hk h0 d_Taste_put_20
def s_Taste_put (t : Nat) (p0 : Int32) (σ : LH) : Option (Int32 × LH) :=
  if (σ.1 t 1) < 0 then (
   s_Taste_put_19 t p0 σ)
  else (
   if (σ.1 t 1) < 480 then (
    if ib (σ.1 t 1) 480 then (
    xl ((stI σ (t + 1) (Int32.toNatClampNeg (σ.1 t 1)) p0) : LH) fun σ4 =>
    xl ((stI σ4 t 1 ((σ4.1 t 1) + 1)) : LH) fun σ5 =>
    some (((σ5.1 t 1) - 1), σ5)) else none)
   else (
    s_Taste_put_19 t p0 σ))
theorem c_Taste_put {G : XG} {l : Launch} {d : Nat} (hd : 1 ≤ d) {t : Nat} {p0 : Int32} (ht : t ∈ xTastes) {σ σ' : LH} {r : Int32} (h0 : s_Taste_put t p0 σ = some (r, σ')) : xM G 1 570 l y_Taste_put prog_11_method_3_code 2 (some .int) d [.ref (G.2.2.1 + t), .int p0] σ (some (.int r)) σ' := by
  obtain ⟨d, rfl⟩ : ∃ q, d = q + 1 := ⟨d - 1, by omega⟩
  refine x_met R_Taste rfl (by decide +kernel) (Nat.le_of_ble_eq_true rfl) fun p e s m below meth c C hr hk hR => ?_
  refine x_lv (lv' := [(0, .ref (G.2.2.1 + t)), (1, .int p0)]) C [0, 1] rfl ?_
  generalize xrm (d + 1) = R at hR ⊢
  unfold s_Taste_put at h0
  refine x_aload_n C d_Taste_put_0 0 rfl ?_
  refine x_getI (y := 0) C fg_Taste_15 (ta_0 ht) rfl d_Taste_put_1 ?_
  refine x_if_lt C 19 d_Taste_put_4 (by decide) (fun q1 => ?_) (fun q1 => ?_)
  · replace h0 := xit q1 h0
    exact x_lv C [] rfl (b_Taste_put_19 C hr hk hd hR ht h0)
  · replace h0 := xif q1 h0
    refine x_aload_n C d_Taste_put_7 0 rfl ?_
    refine x_getI (y := 0) C fg_Taste_15 (ta_0 ht) rfl d_Taste_put_8 ?_
    refine x_aload_n C d_Taste_put_11 0 rfl ?_
    refine x_getR (y := 1) C fg_Taste_11 (ta_0 ht) rfl d_Taste_put_12 ?_
    refine x_ilen (v := 480) C (ta_1 ht) rfl d_Taste_put_15 ?_
    refine x_icmp_lt C 21 d_Taste_put_16 (by decide) (fun q2 => ?_) (fun q2 => ?_)
    · replace h0 := xit q2 h0
      refine x_aload_n C d_Taste_put_21 0 rfl ?_
      refine x_getR (y := 1) C fg_Taste_11 (ta_0 ht) rfl d_Taste_put_22 ?_
      refine x_aload_n C d_Taste_put_25 0 rfl ?_
      refine x_getI (y := 0) C fg_Taste_15 (ta_0 ht) rfl d_Taste_put_26 ?_
      refine x_iload_n C d_Taste_put_29 1 rfl ?_
      obtain ⟨g3, h0⟩ := xgo h0
      refine x_iast C (ta_1 ht) (ib_in g3) d_Taste_put_30 ?_
      obtain ⟨σ4, eσ4, h0⟩ := xlet h0
      refine x_sig C eσ4 ?_
      refine x_aload_n C d_Taste_put_31 0 rfl ?_
      refine x_dup C d_Taste_put_32 rfl ?_
      refine x_getI (y := 0) C fg_Taste_15 (ta_0 ht) rfl d_Taste_put_33 ?_
      refine x_iconst (v := 1) C d_Taste_put_36 (by decide) ?_
      refine x_iadd C d_Taste_put_37 ?_
      refine x_putI (y := 0) C fp_Taste_15 (ta_0 ht) rfl rfl rfl d_Taste_put_38 ?_
      obtain ⟨σ5, eσ5, h0⟩ := xlet h0
      refine x_sig C eσ5 ?_
      refine x_aload_n C d_Taste_put_41 0 rfl ?_
      refine x_getI (y := 0) C fg_Taste_15 (ta_0 ht) rfl d_Taste_put_42 ?_
      refine x_iconst (v := 1) C d_Taste_put_45 (by decide) ?_
      refine x_isub C d_Taste_put_46 ?_
      exact x_iret C hr hk h0 d_Taste_put_47
    · replace h0 := xif q2 h0
      exact x_lv C [] rfl (b_Taste_put_19 C hr hk hd hR ht h0)
-- LostPlaces$Taste.putLetter(I)V
theorem d_Taste_putLetter_0 : decode prog_11_method_4_code 0 = .ok (.aload_n 0, 1) := by decide +kernel
theorem d_Taste_putLetter_1 : decode prog_11_method_4_code 1 = .ok (.iconst (-1), 1) := by decide +kernel
theorem d_Taste_putLetter_2 : decode prog_11_method_4_code 2 = .ok (.iload_n 1, 1) := by decide +kernel
theorem d_Taste_putLetter_3 : decode prog_11_method_4_code 3 = .ok (.isub, 1) := by decide +kernel
theorem d_Taste_putLetter_4 : decode prog_11_method_4_code 4 = .ok (.invokevirtual 26, 3) := by decide +kernel
theorem d_Taste_putLetter_7 : decode prog_11_method_4_code 7 = .ok (.pop, 1) := by decide +kernel
theorem d_Taste_putLetter_8 : decode prog_11_method_4_code 8 = .ok (.iload_n 1, 1) := by decide +kernel
theorem d_Taste_putLetter_9 : decode prog_11_method_4_code 9 = .ok (.iconst 4, 1) := by decide +kernel
theorem d_Taste_putLetter_10 : decode prog_11_method_4_code 10 = .ok (.if_icmp .ne 8, 3) := by decide +kernel
theorem d_Taste_putLetter_13 : decode prog_11_method_4_code 13 = .ok (.aload_n 0, 1) := by decide +kernel
theorem d_Taste_putLetter_14 : decode prog_11_method_4_code 14 = .ok (.iconst 1, 1) := by decide +kernel
theorem d_Taste_putLetter_15 : decode prog_11_method_4_code 15 = .ok (.putfield 22, 3) := by decide +kernel
theorem d_Taste_putLetter_18 : decode prog_11_method_4_code 18 = .ok (.return_, 1) := by decide +kernel
def s_Taste_putLetter_18 (t : Nat) (p0 : Int32) (σ : LH) : Option (LH) :=
  some σ
theorem b_Taste_putLetter_18 {G : XG} {l : Launch} {p : Program} {e : Env} {R : Room} {s : State} {m : MethodId} {args : Array Value} {below : List Frame} {meth : Method} {c : Code} (C : XC G 1 570 p s m args c prog_11_method_4_code 2 R_Taste) (hr : meth.sig.returnType = none) (hk : meth.locks = false) {d : Nat} (hd : 2 ≤ d + 1) (hR : xroom R (d + 1)) {t : Nat} {p0 : Int32} (ht : t ∈ xTastes) {σ' : LH} {σ : LH} (h0 : s_Taste_putLetter_18 t p0 σ = some σ') : XJ G 1 570 p l e R s m args below meth c 2 (XQ G 1 570 below args s none σ') 0 0 18 [] [] σ := by
  replace h0 := (show _ = _ from h0)
  unfold s_Taste_putLetter_18 at h0
  exact x_vret C hr hk h0 d_Taste_putLetter_18
def s_Taste_putLetter (t : Nat) (p0 : Int32) (σ : LH) : Option (LH) :=
  xb2 (s_Taste_put t ((-1) - p0) σ) fun r2 σ3 =>
  if p0 = 4 then (
   xl ((stI σ3 t 3 1) : LH) fun σ5 =>
   s_Taste_putLetter_18 t p0 σ5)
  else (
   s_Taste_putLetter_18 t p0 σ3)
theorem c_Taste_putLetter {G : XG} {l : Launch} {d : Nat} (hd : 2 ≤ d) {t : Nat} {p0 : Int32} (ht : t ∈ xTastes) {σ σ' : LH} (h0 : s_Taste_putLetter t p0 σ = some σ') : xM G 1 570 l y_Taste_putLetter prog_11_method_4_code 2 none d [.ref (G.2.2.1 + t), .int p0] σ none σ' := by
  obtain ⟨d, rfl⟩ : ∃ q, d = q + 1 := ⟨d - 1, by omega⟩
  refine x_met R_Taste rfl (by decide +kernel) (Nat.le_of_ble_eq_true rfl) fun p e s m below meth c C hr hk hR => ?_
  refine x_lv (lv' := [(0, .ref (G.2.2.1 + t)), (1, .int p0)]) C [0, 1] rfl ?_
  generalize xrm (d + 1) = R at hR ⊢
  unfold s_Taste_putLetter at h0
  refine x_aload_n C d_Taste_putLetter_0 0 rfl ?_
  refine x_iconst (v := (-1)) C d_Taste_putLetter_1 (by decide) ?_
  refine x_iload_n C d_Taste_putLetter_2 1 rfl ?_
  refine x_isub C d_Taste_putLetter_3 ?_
  obtain ⟨r2, σ3, k1, h0⟩ := xbind2 h0
  refine x_callVi C hR (c_Taste_put (d := d) (by omega) ht k1) cw_Taste_26 (ta_0 ht) rfl rfl rfl (Nat.le_of_ble_eq_true rfl) ⟨Nat.zero_le _, Nat.zero_le _⟩ d_Taste_putLetter_4 ?_
  refine x_pop C d_Taste_putLetter_7 rfl ?_
  refine x_iload_n C d_Taste_putLetter_8 1 rfl ?_
  refine x_iconst (v := 4) C d_Taste_putLetter_9 (by decide) ?_
  refine x_icmp_ne C 18 d_Taste_putLetter_10 (by decide) (fun q4 => ?_) (fun q4 => ?_)
  · replace h0 := xif q4 h0
    exact x_lv C [] rfl (b_Taste_putLetter_18 C hr hk hd hR ht h0)
  · replace h0 := xit q4 h0
    refine x_aload_n C d_Taste_putLetter_13 0 rfl ?_
    refine x_iconst (v := 1) C d_Taste_putLetter_14 (by decide) ?_
    refine x_putI (y := 0) C fp_Taste_22 (ta_0 ht) rfl rfl rfl d_Taste_putLetter_15 ?_
    obtain ⟨σ5, eσ5, h0⟩ := xlet h0
    refine x_sig C eσ5 ?_
    exact x_lv C [] rfl (b_Taste_putLetter_18 C hr hk hd hR ht h0)
-- LostPlaces$TasteReader.opens(CI)Z
theorem d_TasteReader_opens_0 : decode prog_12_method_7_code 0 = .ok (.aload_n 0, 1) := by decide +kernel
theorem d_TasteReader_opens_1 : decode prog_12_method_7_code 1 = .ok (.getfield 18, 3) := by decide +kernel
theorem d_TasteReader_opens_4 : decode prog_12_method_7_code 4 = .ok (.invokevirtual 52, 3) := by decide +kernel
theorem d_TasteReader_opens_7 : decode prog_12_method_7_code 7 = .ok (.ifCond .eq 14, 3) := by decide +kernel
theorem d_TasteReader_opens_10 : decode prog_12_method_7_code 10 = .ok (.aload_n 0, 1) := by decide +kernel
theorem d_TasteReader_opens_11 : decode prog_12_method_7_code 11 = .ok (.getfield 18, 3) := by decide +kernel
theorem d_TasteReader_opens_14 : decode prog_12_method_7_code 14 = .ok (.invokevirtual 69, 3) := by decide +kernel
theorem d_TasteReader_opens_17 : decode prog_12_method_7_code 17 = .ok (.iload_n 1, 1) := by decide +kernel
theorem d_TasteReader_opens_18 : decode prog_12_method_7_code 18 = .ok (.if_icmp .eq 5, 3) := by decide +kernel
theorem d_TasteReader_opens_21 : decode prog_12_method_7_code 21 = .ok (.iconst 0, 1) := by decide +kernel
theorem d_TasteReader_opens_22 : decode prog_12_method_7_code 22 = .ok (.ireturn, 1) := by decide +kernel
theorem d_TasteReader_opens_23 : decode prog_12_method_7_code 23 = .ok (.iload_n 2, 1) := by decide +kernel
theorem d_TasteReader_opens_24 : decode prog_12_method_7_code 24 = .ok (.bipush 6, 2) := by decide +kernel
theorem d_TasteReader_opens_26 : decode prog_12_method_7_code 26 = .ok (.if_icmp .lt 19, 3) := by decide +kernel
theorem d_TasteReader_opens_29 : decode prog_12_method_7_code 29 = .ok (.aload_n 0, 1) := by decide +kernel
theorem d_TasteReader_opens_30 : decode prog_12_method_7_code 30 = .ok (.getfield 18, 3) := by decide +kernel
theorem d_TasteReader_opens_33 : decode prog_12_method_7_code 33 = .ok (.aload_n 0, 1) := by decide +kernel
theorem d_TasteReader_opens_34 : decode prog_12_method_7_code 34 = .ok (.getfield 18, 3) := by decide +kernel
theorem d_TasteReader_opens_37 : decode prog_12_method_7_code 37 = .ok (.getfield 87, 3) := by decide +kernel
theorem d_TasteReader_opens_40 : decode prog_12_method_7_code 40 = .ok (.invokevirtual 90, 3) := by decide +kernel
theorem d_TasteReader_opens_43 : decode prog_12_method_7_code 43 = .ok (.iconst 0, 1) := by decide +kernel
theorem d_TasteReader_opens_44 : decode prog_12_method_7_code 44 = .ok (.ireturn, 1) := by decide +kernel
theorem d_TasteReader_opens_45 : decode prog_12_method_7_code 45 = .ok (.aload_n 0, 1) := by decide +kernel
theorem d_TasteReader_opens_46 : decode prog_12_method_7_code 46 = .ok (.getfield 18, 3) := by decide +kernel
theorem d_TasteReader_opens_49 : decode prog_12_method_7_code 49 = .ok (.iload_n 1, 1) := by decide +kernel
theorem d_TasteReader_opens_50 : decode prog_12_method_7_code 50 = .ok (.invokevirtual 76, 3) := by decide +kernel
theorem d_TasteReader_opens_53 : decode prog_12_method_7_code 53 = .ok (.ireturn, 1) := by decide +kernel
def s_TasteReader_opens_21 (p0 : Int32) (p1 : Int32) (σ : LH) : Option (Int32 × LH) :=
  some (0, σ)
theorem b_TasteReader_opens_21 {G : XG} {l : Launch} {p : Program} {e : Env} {R : Room} {s : State} {m : MethodId} {args : Array Value} {below : List Frame} {meth : Method} {c : Code} (C : XC G 1 570 p s m args c prog_12_method_7_code 3 R_TasteReader) (hr : meth.sig.returnType = (some .boolean)) (hk : meth.locks = false) {d : Nat} (hd : 3 ≤ d + 1) (hR : xroom R (d + 1)) {p0 : Int32} {p1 : Int32} {σ' : LH} {r : Int32} {σ : LH} (h0 : s_TasteReader_opens_21 p0 p1 σ = some (r, σ')) : XJ G 1 570 p l e R s m args below meth c 3 (XQ G 1 570 below args s (some (.int r)) σ') 0 0 21 [] [] σ := by
  replace h0 := (show _ = _ from h0)
  unfold s_TasteReader_opens_21 at h0
  refine x_iconst (v := 0) C d_TasteReader_opens_21 (by decide) ?_
  exact x_zret C hr hk (by decide) h0 d_TasteReader_opens_22
def s_TasteReader_opens (p0 : Int32) (p1 : Int32) (σ : LH) : Option (Int32 × LH) :=
  xb2 (s_Tape_isFine σ) fun r2 σ3 =>
  if r2 = 0 then (
   s_TasteReader_opens_21 p0 p1 σ3)
  else (
   xb2 (s_Tape_sign σ3) fun r6 σ7 =>
   if r6 = p0 then (
    if p1 < 6 then (
     xb2 (s_Tape_takes p0 σ7) fun r11 σ12 =>
     if zb r11 then (
     some (r11, σ12)) else none)
    else (
     xb1 (s_Tape_fail (σ7.1 2 2) σ7) fun σ15 =>
     some (0, σ15)))
   else (
    s_TasteReader_opens_21 p0 p1 σ7))
theorem c_TasteReader_opens {G : XG} {l : Launch} {d : Nat} (hd : 3 ≤ d) {p0 : Int32} {p1 : Int32} {σ σ' : LH} {r : Int32} (h0 : s_TasteReader_opens p0 p1 σ = some (r, σ')) : xM G 1 570 l y_TasteReader_opens prog_12_method_7_code 3 (some .boolean) d [.ref (G.2.2.1 + 28), .int p0, .int p1] σ (some (.int r)) σ' := by
  obtain ⟨d, rfl⟩ : ∃ q, d = q + 1 := ⟨d - 1, by omega⟩
  refine x_met R_TasteReader rfl (by decide +kernel) (Nat.le_of_ble_eq_true rfl) fun p e s m below meth c C hr hk hR => ?_
  refine x_lv (lv' := [(0, .ref (G.2.2.1 + 28)), (1, .int p0), (2, .int p1)]) C [0, 1, 2] rfl ?_
  generalize xrm (d + 1) = R at hR ⊢
  unfold s_TasteReader_opens at h0
  refine x_aload_n C d_TasteReader_opens_0 0 rfl ?_
  refine x_getA (y := 2) C fg_TasteReader_18 k_28 rfl d_TasteReader_opens_1 ?_
  obtain ⟨r2, σ3, k1, h0⟩ := xbind2 h0
  refine x_callVi C hR (c_Tape_isFine (d := d) (by omega) k1) cw_TasteReader_52 k_2 rfl rfl rfl (Nat.le_of_ble_eq_true rfl) ⟨Nat.zero_le _, Nat.zero_le _⟩ d_TasteReader_opens_4 ?_
  refine x_if_eq C 21 d_TasteReader_opens_7 (by decide) (fun q4 => ?_) (fun q4 => ?_)
  · replace h0 := xit q4 h0
    exact x_lv C [] rfl (b_TasteReader_opens_21 C hr hk hd hR h0)
  · replace h0 := xif q4 h0
    refine x_aload_n C d_TasteReader_opens_10 0 rfl ?_
    refine x_getA (y := 2) C fg_TasteReader_18 k_28 rfl d_TasteReader_opens_11 ?_
    obtain ⟨r6, σ7, k5, h0⟩ := xbind2 h0
    refine x_callVi C hR (c_Tape_sign (d := d) (by omega) k5) cw_TasteReader_69 k_2 rfl rfl rfl (Nat.le_of_ble_eq_true rfl) ⟨Nat.zero_le _, Nat.zero_le _⟩ d_TasteReader_opens_14 ?_
    refine x_iload_n C d_TasteReader_opens_17 1 rfl ?_
    refine x_icmp_eq C 23 d_TasteReader_opens_18 (by decide) (fun q8 => ?_) (fun q8 => ?_)
    · replace h0 := xit q8 h0
      refine x_iload_n C d_TasteReader_opens_23 2 rfl ?_
      refine x_bipush (v := 6) C d_TasteReader_opens_24 (by decide) ?_
      refine x_icmp_lt C 45 d_TasteReader_opens_26 (by decide) (fun q9 => ?_) (fun q9 => ?_)
      · replace h0 := xit q9 h0
        refine x_aload_n C d_TasteReader_opens_45 0 rfl ?_
        refine x_getA (y := 2) C fg_TasteReader_18 k_28 rfl d_TasteReader_opens_46 ?_
        refine x_iload_n C d_TasteReader_opens_49 1 rfl ?_
        obtain ⟨r11, σ12, k10, h0⟩ := xbind2 h0
        refine x_callVi C hR (c_Tape_takes (d := d) (by omega) k10) cw_TasteReader_76 k_2 rfl rfl rfl (Nat.le_of_ble_eq_true rfl) ⟨Nat.zero_le _, Nat.zero_le _⟩ d_TasteReader_opens_50 ?_
        obtain ⟨g13, h0⟩ := xgo h0
        exact x_zret C hr hk g13 h0 d_TasteReader_opens_53
      · replace h0 := xif q9 h0
        refine x_aload_n C d_TasteReader_opens_29 0 rfl ?_
        refine x_getA (y := 2) C fg_TasteReader_18 k_28 rfl d_TasteReader_opens_30 ?_
        refine x_aload_n C d_TasteReader_opens_33 0 rfl ?_
        refine x_getA (y := 2) C fg_TasteReader_18 k_28 rfl d_TasteReader_opens_34 ?_
        refine x_getI (y := 0) C fg_TasteReader_87 k_2 rfl d_TasteReader_opens_37 ?_
        obtain ⟨σ15, k14, h0⟩ := xbind1 h0
        refine x_callVv C hR (c_Tape_fail (d := d) (by omega) k14) cw_TasteReader_90 k_2 rfl rfl rfl (Nat.le_of_ble_eq_true rfl) ⟨Nat.zero_le _, Nat.zero_le _⟩ d_TasteReader_opens_40 ?_
        refine x_iconst (v := 0) C d_TasteReader_opens_43 (by decide) ?_
        exact x_zret C hr hk (by decide) h0 d_TasteReader_opens_44
    · replace h0 := xif q8 h0
      exact x_lv C [] rfl (b_TasteReader_opens_21 C hr hk hd hR h0)
-- LostPlaces$TasteReader.atom(I)V
theorem d_TasteReader_atom_0 : decode prog_12_method_10_code 0 = .ok (.aload_n 0, 1) := by decide +kernel
theorem d_TasteReader_atom_1 : decode prog_12_method_10_code 1 = .ok (.getfield 18, 3) := by decide +kernel
theorem d_TasteReader_atom_4 : decode prog_12_method_10_code 4 = .ok (.invokevirtual 52, 3) := by decide +kernel
theorem d_TasteReader_atom_7 : decode prog_12_method_10_code 7 = .ok (.ifCond .ne 4, 3) := by decide +kernel
theorem d_TasteReader_atom_10 : decode prog_12_method_10_code 10 = .ok (.return_, 1) := by decide +kernel
theorem d_TasteReader_atom_11 : decode prog_12_method_10_code 11 = .ok (.aload_n 0, 1) := by decide +kernel
theorem d_TasteReader_atom_12 : decode prog_12_method_10_code 12 = .ok (.getfield 18, 3) := by decide +kernel
theorem d_TasteReader_atom_15 : decode prog_12_method_10_code 15 = .ok (.ldc 99, 2) := by decide +kernel
theorem d_TasteReader_atom_17 : decode prog_12_method_10_code 17 = .ok (.invokevirtual 44, 3) := by decide +kernel
theorem d_TasteReader_atom_20 : decode prog_12_method_10_code 20 = .ok (.istore_n 2, 1) := by decide +kernel
theorem d_TasteReader_atom_21 : decode prog_12_method_10_code 21 = .ok (.iload_n 2, 1) := by decide +kernel
theorem d_TasteReader_atom_22 : decode prog_12_method_10_code 22 = .ok (.iconst (-1), 1) := by decide +kernel
theorem d_TasteReader_atom_23 : decode prog_12_method_10_code 23 = .ok (.if_icmp .eq 27, 3) := by decide +kernel
theorem d_TasteReader_atom_26 : decode prog_12_method_10_code 26 = .ok (.aload_n 0, 1) := by decide +kernel
theorem d_TasteReader_atom_27 : decode prog_12_method_10_code 27 = .ok (.getfield 18, 3) := by decide +kernel
theorem d_TasteReader_atom_30 : decode prog_12_method_10_code 30 = .ok (.dup, 1) := by decide +kernel
theorem d_TasteReader_atom_31 : decode prog_12_method_10_code 31 = .ok (.getfield 87, 3) := by decide +kernel
theorem d_TasteReader_atom_34 : decode prog_12_method_10_code 34 = .ok (.iconst 1, 1) := by decide +kernel
theorem d_TasteReader_atom_35 : decode prog_12_method_10_code 35 = .ok (.iadd, 1) := by decide +kernel
theorem d_TasteReader_atom_36 : decode prog_12_method_10_code 36 = .ok (.putfield 87, 3) := by decide +kernel
theorem d_TasteReader_atom_39 : decode prog_12_method_10_code 39 = .ok (.aload_n 0, 1) := by decide +kernel
theorem d_TasteReader_atom_40 : decode prog_12_method_10_code 40 = .ok (.getfield 12, 3) := by decide +kernel
theorem d_TasteReader_atom_43 : decode prog_12_method_10_code 43 = .ok (.iload_n 2, 1) := by decide +kernel
theorem d_TasteReader_atom_44 : decode prog_12_method_10_code 44 = .ok (.invokevirtual 101, 3) := by decide +kernel
theorem d_TasteReader_atom_47 : decode prog_12_method_10_code 47 = .ok (.goto 48, 3) := by decide +kernel
theorem d_TasteReader_atom_50 : decode prog_12_method_10_code 50 = .ok (.aload_n 0, 1) := by decide +kernel
theorem d_TasteReader_atom_51 : decode prog_12_method_10_code 51 = .ok (.bipush 91, 2) := by decide +kernel
theorem d_TasteReader_atom_53 : decode prog_12_method_10_code 53 = .ok (.iload_n 1, 1) := by decide +kernel
theorem d_TasteReader_atom_54 : decode prog_12_method_10_code 54 = .ok (.invokevirtual 83, 3) := by decide +kernel
theorem d_TasteReader_atom_57 : decode prog_12_method_10_code 57 = .ok (.ifCond .eq 22, 3) := by decide +kernel
theorem d_TasteReader_atom_60 : decode prog_12_method_10_code 60 = .ok (.aload_n 0, 1) := by decide +kernel
theorem d_TasteReader_atom_61 : decode prog_12_method_10_code 61 = .ok (.iload_n 1, 1) := by decide +kernel
theorem d_TasteReader_atom_62 : decode prog_12_method_10_code 62 = .ok (.iconst 1, 1) := by decide +kernel
theorem d_TasteReader_atom_63 : decode prog_12_method_10_code 63 = .ok (.iadd, 1) := by decide +kernel
theorem d_TasteReader_atom_64 : decode prog_12_method_10_code 64 = .ok (.invokevirtual 48, 3) := by decide +kernel
theorem d_TasteReader_atom_67 : decode prog_12_method_10_code 67 = .ok (.aload_n 0, 1) := by decide +kernel
theorem d_TasteReader_atom_68 : decode prog_12_method_10_code 68 = .ok (.getfield 18, 3) := by decide +kernel
theorem d_TasteReader_atom_71 : decode prog_12_method_10_code 71 = .ok (.bipush 93, 2) := by decide +kernel
theorem d_TasteReader_atom_73 : decode prog_12_method_10_code 73 = .ok (.invokevirtual 38, 3) := by decide +kernel
theorem d_TasteReader_atom_76 : decode prog_12_method_10_code 76 = .ok (.goto 19, 3) := by decide +kernel
theorem d_TasteReader_atom_79 : decode prog_12_method_10_code 79 = .ok (.aload_n 0, 1) := by decide +kernel
theorem d_TasteReader_atom_80 : decode prog_12_method_10_code 80 = .ok (.getfield 12, 3) := by decide +kernel
theorem d_TasteReader_atom_83 : decode prog_12_method_10_code 83 = .ok (.aload_n 0, 1) := by decide +kernel
theorem d_TasteReader_atom_84 : decode prog_12_method_10_code 84 = .ok (.getfield 18, 3) := by decide +kernel
theorem d_TasteReader_atom_87 : decode prog_12_method_10_code 87 = .ok (.iconst 4, 1) := by decide +kernel
theorem d_TasteReader_atom_88 : decode prog_12_method_10_code 88 = .ok (.invokevirtual 104, 3) := by decide +kernel
theorem d_TasteReader_atom_91 : decode prog_12_method_10_code 91 = .ok (.invokevirtual 62, 3) := by decide +kernel
theorem d_TasteReader_atom_94 : decode prog_12_method_10_code 94 = .ok (.pop, 1) := by decide +kernel
theorem d_TasteReader_atom_95 : decode prog_12_method_10_code 95 = .ok (.return_, 1) := by decide +kernel
def s_TasteReader_atom_95 (rf : Int32 → LH → Option (LH)) (p0 : Int32) (σ : LH) : Option (LH) :=
  some σ
theorem b_TasteReader_atom_95 {G : XG} {l : Launch} {p : Program} {e : Env} {R : Room} {s : State} {m : MethodId} {args : Array Value} {below : List Frame} {meth : Method} {c : Code} (C : XC G 1 570 p s m args c prog_12_method_10_code 3 R_TasteReader) (hr : meth.sig.returnType = none) (hk : meth.locks = false) {d dr : Nat} (hd : dr + 1 ≤ d + 1) (hd2 : 10 ≤ d + 1) (hR : xroom R (d + 1)) {rf : Int32 → LH → Option (LH)} (hrf : ∀ (p0 : Int32) (σ : LH) (σ' : LH), rf p0 σ = some σ' → ∀ d, dr ≤ d → xM G 1 570 l y_TasteReader_sum prog_12_method_8_code 4 none d [.ref (G.2.2.1 + 28), .int p0] σ none σ') {p0 : Int32} {σ' : LH} {σ : LH} (h0 : s_TasteReader_atom_95 rf p0 σ = some σ') : XJ G 1 570 p l e R s m args below meth c 3 (XQ G 1 570 below args s none σ') 0 0 95 [] [] σ := by
  replace h0 := (show _ = _ from h0)
  unfold s_TasteReader_atom_95 at h0
  exact x_vret C hr hk h0 d_TasteReader_atom_95
def s_TasteReader_atom (rf : Int32 → LH → Option (LH)) (p0 : Int32) (σ : LH) : Option (LH) :=
  xb2 (s_Tape_isFine σ) fun r2 σ3 =>
  if r2 = 0 then (
   some σ3)
  else (
   xb2 (s_Tape_letter 0 σ3) fun r6 σ7 =>
   if r6 = (-1) then (
    xb2 (s_TasteReader_opens 91 p0 σ7) fun r10 σ11 =>
    if r10 = 0 then (
     xl ((σ11.2.2.1) : Nat) fun t14 =>
     xb2 (s_Tape_number 4 σ11) fun r16 σ17 =>
     xb2 (s_Taste_put t14 r16 σ17) fun r19 σ20 =>
     s_TasteReader_atom_95 rf p0 σ20)
    else (
     xb1 (rf (p0 + 1) σ11) fun σ22 =>
     xb1 (s_Tape_needs 93 σ22) fun σ24 =>
     s_TasteReader_atom_95 rf p0 σ24))
   else (
    xl ((stI σ7 2 2 ((σ7.1 2 2) + 1)) : LH) fun σ25 =>
    xl ((σ25.2.2.1) : Nat) fun t27 =>
    xb1 (s_Taste_putLetter t27 r6 σ25) fun σ29 =>
    s_TasteReader_atom_95 rf p0 σ29))
theorem c_TasteReader_atom {G : XG} {l : Launch} {d dr : Nat} {rf : Int32 → LH → Option (LH)} (hrf : ∀ (p0 : Int32) (σ : LH) (σ' : LH), rf p0 σ = some σ' → ∀ d, dr ≤ d → xM G 1 570 l y_TasteReader_sum prog_12_method_8_code 4 none d [.ref (G.2.2.1 + 28), .int p0] σ none σ') (hd : dr + 1 ≤ d) (hd2 : 10 ≤ d) {p0 : Int32} {σ σ' : LH} (h0 : s_TasteReader_atom rf p0 σ = some σ') : xM G 1 570 l y_TasteReader_atom prog_12_method_10_code 3 none d [.ref (G.2.2.1 + 28), .int p0] σ none σ' := by
  obtain ⟨d, rfl⟩ : ∃ q, d = q + 1 := ⟨d - 1, by omega⟩
  refine x_met R_TasteReader rfl (by decide +kernel) (Nat.le_of_ble_eq_true rfl) fun p e s m below meth c C hr hk hR => ?_
  refine x_lv (lv' := [(0, .ref (G.2.2.1 + 28)), (1, .int p0)]) C [0, 1] rfl ?_
  generalize xrm (d + 1) = R at hR ⊢
  unfold s_TasteReader_atom at h0
  refine x_aload_n C d_TasteReader_atom_0 0 rfl ?_
  refine x_getA (y := 2) C fg_TasteReader_18 k_28 rfl d_TasteReader_atom_1 ?_
  obtain ⟨r2, σ3, k1, h0⟩ := xbind2 h0
  refine x_callVi C hR (c_Tape_isFine (d := d) (by omega) k1) cw_TasteReader_52 k_2 rfl rfl rfl (Nat.le_of_ble_eq_true rfl) ⟨Nat.zero_le _, Nat.zero_le _⟩ d_TasteReader_atom_4 ?_
  refine x_if_ne C 11 d_TasteReader_atom_7 (by decide) (fun q4 => ?_) (fun q4 => ?_)
  · replace h0 := xif q4 h0
    refine x_aload_n C d_TasteReader_atom_11 0 rfl ?_
    refine x_getA (y := 2) C fg_TasteReader_18 k_28 rfl d_TasteReader_atom_12 ?_
    refine x_ldcS (index := 99) (i := 0) C (by decide +kernel) d_TasteReader_atom_15 ?_
    obtain ⟨r6, σ7, k5, h0⟩ := xbind2 h0
    refine x_callVi C hR (c_Tape_letter (d := d) (by omega) (by decide) k5) cw_TasteReader_44 k_2 rfl rfl rfl (Nat.le_of_ble_eq_true rfl) ⟨Nat.zero_le _, Nat.zero_le _⟩ d_TasteReader_atom_17 ?_
    refine x_istore_n (lv' := [(2, .int r6), (0, .ref (G.2.2.1 + 28)), (1, .int p0)]) C d_TasteReader_atom_20 rfl (by decide) rfl ?_
    refine x_iload_n C d_TasteReader_atom_21 0 rfl ?_
    refine x_iconst (v := (-1)) C d_TasteReader_atom_22 (by decide) ?_
    refine x_icmp_eq C 50 d_TasteReader_atom_23 (by decide) (fun q8 => ?_) (fun q8 => ?_)
    · replace h0 := xit q8 h0
      refine x_aload_n C d_TasteReader_atom_50 1 rfl ?_
      refine x_bipush (v := 91) C d_TasteReader_atom_51 (by decide) ?_
      refine x_iload_n C d_TasteReader_atom_53 2 rfl ?_
      obtain ⟨r10, σ11, k9, h0⟩ := xbind2 h0
      refine x_callVi C hR (c_TasteReader_opens (d := d) (by omega) k9) cw_TasteReader_83 k_28 rfl rfl rfl (Nat.le_of_ble_eq_true rfl) ⟨Nat.zero_le _, Nat.zero_le _⟩ d_TasteReader_atom_54 ?_
      refine x_if_eq C 79 d_TasteReader_atom_57 (by decide) (fun q12 => ?_) (fun q12 => ?_)
      · replace h0 := xit q12 h0
        refine x_aload_n C d_TasteReader_atom_79 1 rfl ?_
        refine x_getT (y := 0) C fg_TasteReader_12 k_28 rfl d_TasteReader_atom_80 (fun o13 => ?_)
        obtain ⟨t14, et14, h0⟩ := xlet h0
        refine x_nameR C et14 ?_
        have ht14 : t14 ∈ xTastes := by rw [et14]; exact o13.1
        refine x_aload_n C d_TasteReader_atom_83 1 rfl ?_
        refine x_getA (y := 2) C fg_TasteReader_18 k_28 rfl d_TasteReader_atom_84 ?_
        refine x_iconst (v := 4) C d_TasteReader_atom_87 (by decide) ?_
        obtain ⟨r16, σ17, k15, h0⟩ := xbind2 h0
        refine x_callVi C hR (c_Tape_number (d := d) (by omega) k15) cw_TasteReader_104 k_2 rfl rfl rfl (Nat.le_of_ble_eq_true rfl) ⟨Nat.zero_le _, Nat.zero_le _⟩ d_TasteReader_atom_88 ?_
        obtain ⟨r19, σ20, k18, h0⟩ := xbind2 h0
        refine x_callVi C hR (c_Taste_put (d := d) (by omega) ht14 k18) cw_TasteReader_62 (ta_0 ht14) rfl rfl rfl (Nat.le_of_ble_eq_true rfl) ⟨Nat.zero_le _, Nat.zero_le _⟩ d_TasteReader_atom_91 ?_
        refine x_pop C d_TasteReader_atom_94 rfl ?_
        exact x_lv C [] rfl (b_TasteReader_atom_95 C hr hk hd hd2 hR hrf h0)
      · replace h0 := xif q12 h0
        refine x_aload_n C d_TasteReader_atom_60 1 rfl ?_
        refine x_iload_n C d_TasteReader_atom_61 2 rfl ?_
        refine x_iconst (v := 1) C d_TasteReader_atom_62 (by decide) ?_
        refine x_iadd C d_TasteReader_atom_63 ?_
        obtain ⟨σ22, k21, h0⟩ := xbind1 h0
        refine x_callVv C hR (hrf _ _ _ k21 d (by omega)) cw_TasteReader_48 k_28 rfl rfl rfl (Nat.le_of_ble_eq_true rfl) ⟨Nat.zero_le _, Nat.zero_le _⟩ d_TasteReader_atom_64 ?_
        refine x_aload_n C d_TasteReader_atom_67 1 rfl ?_
        refine x_getA (y := 2) C fg_TasteReader_18 k_28 rfl d_TasteReader_atom_68 ?_
        refine x_bipush (v := 93) C d_TasteReader_atom_71 (by decide) ?_
        obtain ⟨σ24, k23, h0⟩ := xbind1 h0
        refine x_callVv C hR (c_Tape_needs (d := d) (by omega) k23) cw_TasteReader_38 k_2 rfl rfl rfl (Nat.le_of_ble_eq_true rfl) ⟨Nat.zero_le _, Nat.zero_le _⟩ d_TasteReader_atom_73 ?_
        refine x_goto C 95 d_TasteReader_atom_76 (by decide) ?_
        exact x_lv C [] rfl (b_TasteReader_atom_95 C hr hk hd hd2 hR hrf h0)
    · replace h0 := xif q8 h0
      refine x_aload_n C d_TasteReader_atom_26 1 rfl ?_
      refine x_getA (y := 2) C fg_TasteReader_18 k_28 rfl d_TasteReader_atom_27 ?_
      refine x_dup C d_TasteReader_atom_30 rfl ?_
      refine x_getI (y := 0) C fg_TasteReader_87 k_2 rfl d_TasteReader_atom_31 ?_
      refine x_iconst (v := 1) C d_TasteReader_atom_34 (by decide) ?_
      refine x_iadd C d_TasteReader_atom_35 ?_
      refine x_putI (y := 0) C fp_TasteReader_87 k_2 rfl rfl rfl d_TasteReader_atom_36 ?_
      obtain ⟨σ25, eσ25, h0⟩ := xlet h0
      refine x_sig C eσ25 ?_
      refine x_aload_n C d_TasteReader_atom_39 1 rfl ?_
      refine x_getT (y := 0) C fg_TasteReader_12 k_28 rfl d_TasteReader_atom_40 (fun o26 => ?_)
      obtain ⟨t27, et27, h0⟩ := xlet h0
      refine x_nameR C et27 ?_
      have ht27 : t27 ∈ xTastes := by rw [et27]; exact o26.1
      refine x_iload_n C d_TasteReader_atom_43 0 rfl ?_
      obtain ⟨σ29, k28, h0⟩ := xbind1 h0
      refine x_callVv C hR (c_Taste_putLetter (d := d) (by omega) ht27 k28) cw_TasteReader_101 (ta_0 ht27) rfl rfl rfl (Nat.le_of_ble_eq_true rfl) ⟨Nat.zero_le _, Nat.zero_le _⟩ d_TasteReader_atom_44 ?_
      refine x_goto C 95 d_TasteReader_atom_47 (by decide) ?_
      exact x_lv C [] rfl (b_TasteReader_atom_95 C hr hk hd hd2 hR hrf h0)
  · replace h0 := xit q4 h0
    exact x_vret C hr hk h0 d_TasteReader_atom_10
-- LostPlaces$TasteReader.term(I)V
theorem d_TasteReader_term_0 : decode prog_12_method_9_code 0 = .ok (.aload_n 0, 1) := by decide +kernel
theorem d_TasteReader_term_1 : decode prog_12_method_9_code 1 = .ok (.iload_n 1, 1) := by decide +kernel
theorem d_TasteReader_term_2 : decode prog_12_method_9_code 2 = .ok (.invokevirtual 96, 3) := by decide +kernel
theorem d_TasteReader_term_5 : decode prog_12_method_9_code 5 = .ok (.iconst 0, 1) := by decide +kernel
theorem d_TasteReader_term_6 : decode prog_12_method_9_code 6 = .ok (.istore_n 2, 1) := by decide +kernel
theorem d_TasteReader_term_7 : decode prog_12_method_9_code 7 = .ok (.iload_n 2, 1) := by decide +kernel
theorem d_TasteReader_term_8 : decode prog_12_method_9_code 8 = .ok (.sipush 240, 3) := by decide +kernel
theorem d_TasteReader_term_11 : decode prog_12_method_9_code 11 = .ok (.if_icmp .ge 65, 3) := by decide +kernel
theorem d_TasteReader_term_14 : decode prog_12_method_9_code 14 = .ok (.aload_n 0, 1) := by decide +kernel
theorem d_TasteReader_term_15 : decode prog_12_method_9_code 15 = .ok (.getfield 18, 3) := by decide +kernel
theorem d_TasteReader_term_18 : decode prog_12_method_9_code 18 = .ok (.bipush 42, 2) := by decide +kernel
theorem d_TasteReader_term_20 : decode prog_12_method_9_code 20 = .ok (.invokevirtual 76, 3) := by decide +kernel
theorem d_TasteReader_term_23 : decode prog_12_method_9_code 23 = .ok (.ifCond .eq 8, 3) := by decide +kernel
theorem d_TasteReader_term_26 : decode prog_12_method_9_code 26 = .ok (.bipush (-13), 2) := by decide +kernel
theorem d_TasteReader_term_28 : decode prog_12_method_9_code 28 = .ok (.goto 21, 3) := by decide +kernel
theorem d_TasteReader_term_31 : decode prog_12_method_9_code 31 = .ok (.aload_n 0, 1) := by decide +kernel
theorem d_TasteReader_term_32 : decode prog_12_method_9_code 32 = .ok (.getfield 18, 3) := by decide +kernel
theorem d_TasteReader_term_35 : decode prog_12_method_9_code 35 = .ok (.bipush 47, 2) := by decide +kernel
theorem d_TasteReader_term_37 : decode prog_12_method_9_code 37 = .ok (.invokevirtual 76, 3) := by decide +kernel
theorem d_TasteReader_term_40 : decode prog_12_method_9_code 40 = .ok (.ifCond .eq 8, 3) := by decide +kernel
theorem d_TasteReader_term_43 : decode prog_12_method_9_code 43 = .ok (.bipush (-14), 2) := by decide +kernel
theorem d_TasteReader_term_45 : decode prog_12_method_9_code 45 = .ok (.goto 4, 3) := by decide +kernel
theorem d_TasteReader_term_48 : decode prog_12_method_9_code 48 = .ok (.iconst (-1), 1) := by decide +kernel
theorem d_TasteReader_term_49 : decode prog_12_method_9_code 49 = .ok (.istore_n 3, 1) := by decide +kernel
theorem d_TasteReader_term_50 : decode prog_12_method_9_code 50 = .ok (.iload_n 3, 1) := by decide +kernel
theorem d_TasteReader_term_51 : decode prog_12_method_9_code 51 = .ok (.iconst (-1), 1) := by decide +kernel
theorem d_TasteReader_term_52 : decode prog_12_method_9_code 52 = .ok (.if_icmp .ne 4, 3) := by decide +kernel
theorem d_TasteReader_term_55 : decode prog_12_method_9_code 55 = .ok (.return_, 1) := by decide +kernel
theorem d_TasteReader_term_56 : decode prog_12_method_9_code 56 = .ok (.aload_n 0, 1) := by decide +kernel
theorem d_TasteReader_term_57 : decode prog_12_method_9_code 57 = .ok (.iload_n 1, 1) := by decide +kernel
theorem d_TasteReader_term_58 : decode prog_12_method_9_code 58 = .ok (.invokevirtual 96, 3) := by decide +kernel
theorem d_TasteReader_term_61 : decode prog_12_method_9_code 61 = .ok (.aload_n 0, 1) := by decide +kernel
theorem d_TasteReader_term_62 : decode prog_12_method_9_code 62 = .ok (.getfield 12, 3) := by decide +kernel
theorem d_TasteReader_term_65 : decode prog_12_method_9_code 65 = .ok (.iload_n 3, 1) := by decide +kernel
theorem d_TasteReader_term_66 : decode prog_12_method_9_code 66 = .ok (.invokevirtual 62, 3) := by decide +kernel
theorem d_TasteReader_term_69 : decode prog_12_method_9_code 69 = .ok (.pop, 1) := by decide +kernel
theorem d_TasteReader_term_70 : decode prog_12_method_9_code 70 = .ok (.iinc 2 1, 3) := by decide +kernel
theorem d_TasteReader_term_73 : decode prog_12_method_9_code 73 = .ok (.goto (-66), 3) := by decide +kernel
theorem d_TasteReader_term_76 : decode prog_12_method_9_code 76 = .ok (.return_, 1) := by decide +kernel
def s_TasteReader_term_49 (rf : Int32 → LH → Option (LH)) (p0 : Int32) (rec7 : Int32 → LH → Option (LH)) (y2 : Int32) (z0 : Int32) (σ : LH) : Option (LH) :=
  if z0 = (-1) then (
   some σ)
  else (
   xb1 (s_TasteReader_atom rf p0 σ) fun σ14 =>
   xl ((σ14.2.2.1) : Nat) fun t16 =>
   xb2 (s_Taste_put t16 z0 σ14) fun r18 σ19 =>
   xl ((y2 + 1) : Int32) fun x20 =>
   rec7 x20 σ19)
theorem b_TasteReader_term_49 {G : XG} {l : Launch} {p : Program} {e : Env} {R : Room} {s : State} {m : MethodId} {args : Array Value} {below : List Frame} {meth : Method} {c : Code} (C : XC G 1 570 p s m args c prog_12_method_9_code 4 R_TasteReader) (hr : meth.sig.returnType = none) (hk : meth.locks = false) {d dr : Nat} (hd : dr + 2 ≤ d + 1) (hd2 : 11 ≤ d + 1) (hR : xroom R (d + 1)) {rf : Int32 → LH → Option (LH)} (hrf : ∀ (p0 : Int32) (σ : LH) (σ' : LH), rf p0 σ = some σ' → ∀ d, dr ≤ d → xM G 1 570 l y_TasteReader_sum prog_12_method_8_code 4 none d [.ref (G.2.2.1 + 28), .int p0] σ none σ') {p0 : Int32} {rec7 : Int32 → LH → Option (LH)} {σ' : LH} (hrec7 : ∀ (y2 : Int32) (σ : LH), rec7 y2 σ = some σ' → XJ G 1 570 p l e R s m args below meth c 4 (XQ G 1 570 below args s none σ') 0 0 7 [(0, .ref (G.2.2.1 + 28)), (1, .int p0), (2, .int y2)] [] σ) {y2 : Int32} {z0 : Int32} {σ : LH} (h0 : s_TasteReader_term_49 rf p0 rec7 y2 z0 σ = some σ') : XJ G 1 570 p l e R s m args below meth c 4 (XQ G 1 570 below args s none σ') 0 0 49 [(0, .ref (G.2.2.1 + 28)), (1, .int p0), (2, .int y2)] [.int z0] σ := by
  replace h0 := (show _ = _ from h0)
  unfold s_TasteReader_term_49 at h0
  refine x_istore_n (lv' := [(3, .int z0), (0, .ref (G.2.2.1 + 28)), (1, .int p0), (2, .int y2)]) C d_TasteReader_term_49 rfl (by decide) rfl ?_
  refine x_iload_n C d_TasteReader_term_50 0 rfl ?_
  refine x_iconst (v := (-1)) C d_TasteReader_term_51 (by decide) ?_
  refine x_icmp_ne C 56 d_TasteReader_term_52 (by decide) (fun q12 => ?_) (fun q12 => ?_)
  · replace h0 := xif q12 h0
    refine x_aload_n C d_TasteReader_term_56 1 rfl ?_
    refine x_iload_n C d_TasteReader_term_57 2 rfl ?_
    obtain ⟨σ14, k13, h0⟩ := xbind1 h0
    refine x_callVv C hR (c_TasteReader_atom hrf (d := d) (by omega) (by omega) k13) cw_TasteReader_96 k_28 rfl rfl rfl (Nat.le_of_ble_eq_true rfl) ⟨Nat.zero_le _, Nat.zero_le _⟩ d_TasteReader_term_58 ?_
    refine x_aload_n C d_TasteReader_term_61 1 rfl ?_
    refine x_getT (y := 0) C fg_TasteReader_12 k_28 rfl d_TasteReader_term_62 (fun o15 => ?_)
    obtain ⟨t16, et16, h0⟩ := xlet h0
    refine x_nameR C et16 ?_
    have ht16 : t16 ∈ xTastes := by rw [et16]; exact o15.1
    refine x_iload_n C d_TasteReader_term_65 0 rfl ?_
    obtain ⟨r18, σ19, k17, h0⟩ := xbind2 h0
    refine x_callVi C hR (c_Taste_put (d := d) (by omega) ht16 k17) cw_TasteReader_62 (ta_0 ht16) rfl rfl rfl (Nat.le_of_ble_eq_true rfl) ⟨Nat.zero_le _, Nat.zero_le _⟩ d_TasteReader_term_66 ?_
    refine x_pop C d_TasteReader_term_69 rfl ?_
    obtain ⟨x20, ex20, h0⟩ := xlet h0
    refine x_iinc (lv' := [(2, .int x20), (3, .int z0), (0, .ref (G.2.2.1 + 28)), (1, .int p0)]) C d_TasteReader_term_70 3 rfl ex20 (by decide) rfl ?_
    refine x_goto C 7 d_TasteReader_term_73 (by decide) ?_
    exact x_lv C [2, 3, 0] rfl (hrec7 _ _ h0)
  · replace h0 := xit q12 h0
    exact x_vret C hr hk h0 d_TasteReader_term_55
def s_TasteReader_term_7_b (rf : Int32 → LH → Option (LH)) (p0 : Int32) (rec7 : Int32 → LH → Option (LH)) (y2 : Int32) (σ : LH) : Option (LH) :=
  if 240 ≤ y2 then (
   some σ)
  else (
   xb2 (s_Tape_takes 42 σ) fun r5 σ6 =>
   if r5 = 0 then (
    xb2 (s_Tape_takes 47 σ6) fun r9 σ10 =>
    if r9 = 0 then (
     s_TasteReader_term_49 rf p0 rec7 y2 (-1) σ10)
    else (
     s_TasteReader_term_49 rf p0 rec7 y2 (-14) σ10))
   else (
    s_TasteReader_term_49 rf p0 rec7 y2 (-13) σ6))
def s_TasteReader_term_7 (rf : Int32 → LH → Option (LH)) (p0 : Int32) : Nat → Int32 → LH → Option (LH)
  | 0, _, _ => none
  | n + 1, y2, σ => s_TasteReader_term_7_b rf p0 (s_TasteReader_term_7 rf p0 n) y2 σ
theorem bb_TasteReader_term_7 {G : XG} {l : Launch} {p : Program} {e : Env} {R : Room} {s : State} {m : MethodId} {args : Array Value} {below : List Frame} {meth : Method} {c : Code} (C : XC G 1 570 p s m args c prog_12_method_9_code 4 R_TasteReader) (hr : meth.sig.returnType = none) (hk : meth.locks = false) {d dr : Nat} (hd : dr + 2 ≤ d + 1) (hd2 : 11 ≤ d + 1) (hR : xroom R (d + 1)) {rf : Int32 → LH → Option (LH)} (hrf : ∀ (p0 : Int32) (σ : LH) (σ' : LH), rf p0 σ = some σ' → ∀ d, dr ≤ d → xM G 1 570 l y_TasteReader_sum prog_12_method_8_code 4 none d [.ref (G.2.2.1 + 28), .int p0] σ none σ') {p0 : Int32} {rec7 : Int32 → LH → Option (LH)} {σ' : LH} (hrec7 : ∀ (y2 : Int32) (σ : LH), rec7 y2 σ = some σ' → XJ G 1 570 p l e R s m args below meth c 4 (XQ G 1 570 below args s none σ') 0 0 7 [(0, .ref (G.2.2.1 + 28)), (1, .int p0), (2, .int y2)] [] σ) {y2 : Int32} {σ : LH} (h0 : s_TasteReader_term_7_b rf p0 rec7 y2 σ = some σ') : XJ G 1 570 p l e R s m args below meth c 4 (XQ G 1 570 below args s none σ') 0 0 7 [(0, .ref (G.2.2.1 + 28)), (1, .int p0), (2, .int y2)] [] σ := by
  replace h0 := (show _ = _ from h0)
  unfold s_TasteReader_term_7_b at h0
  refine x_iload_n C d_TasteReader_term_7 2 rfl ?_
  refine x_sipush (v := 240) C d_TasteReader_term_8 (by decide) ?_
  refine x_icmp_ge C 76 d_TasteReader_term_11 (by decide) (fun q3 => ?_) (fun q3 => ?_)
  · replace h0 := xit q3 h0
    exact x_vret C hr hk h0 d_TasteReader_term_76
  · replace h0 := xif q3 h0
    refine x_aload_n C d_TasteReader_term_14 0 rfl ?_
    refine x_getA (y := 2) C fg_TasteReader_18 k_28 rfl d_TasteReader_term_15 ?_
    refine x_bipush (v := 42) C d_TasteReader_term_18 (by decide) ?_
    obtain ⟨r5, σ6, k4, h0⟩ := xbind2 h0
    refine x_callVi C hR (c_Tape_takes (d := d) (by omega) k4) cw_TasteReader_76 k_2 rfl rfl rfl (Nat.le_of_ble_eq_true rfl) ⟨Nat.zero_le _, Nat.zero_le _⟩ d_TasteReader_term_20 ?_
    refine x_if_eq C 31 d_TasteReader_term_23 (by decide) (fun q7 => ?_) (fun q7 => ?_)
    · replace h0 := xit q7 h0
      refine x_aload_n C d_TasteReader_term_31 0 rfl ?_
      refine x_getA (y := 2) C fg_TasteReader_18 k_28 rfl d_TasteReader_term_32 ?_
      refine x_bipush (v := 47) C d_TasteReader_term_35 (by decide) ?_
      obtain ⟨r9, σ10, k8, h0⟩ := xbind2 h0
      refine x_callVi C hR (c_Tape_takes (d := d) (by omega) k8) cw_TasteReader_76 k_2 rfl rfl rfl (Nat.le_of_ble_eq_true rfl) ⟨Nat.zero_le _, Nat.zero_le _⟩ d_TasteReader_term_37 ?_
      refine x_if_eq C 48 d_TasteReader_term_40 (by decide) (fun q11 => ?_) (fun q11 => ?_)
      · replace h0 := xit q11 h0
        refine x_iconst (v := (-1)) C d_TasteReader_term_48 (by decide) ?_
        exact x_lv C [0, 1, 2] rfl (b_TasteReader_term_49 C hr hk hd hd2 hR hrf hrec7 h0)
      · replace h0 := xif q11 h0
        refine x_bipush (v := (-14)) C d_TasteReader_term_43 (by decide) ?_
        refine x_goto C 49 d_TasteReader_term_45 (by decide) ?_
        exact x_lv C [0, 1, 2] rfl (b_TasteReader_term_49 C hr hk hd hd2 hR hrf hrec7 h0)
    · replace h0 := xif q7 h0
      refine x_bipush (v := (-13)) C d_TasteReader_term_26 (by decide) ?_
      refine x_goto C 49 d_TasteReader_term_28 (by decide) ?_
      exact x_lv C [0, 1, 2] rfl (b_TasteReader_term_49 C hr hk hd hd2 hR hrf hrec7 h0)
theorem b_TasteReader_term_7 {G : XG} {l : Launch} {p : Program} {e : Env} {R : Room} {s : State} {m : MethodId} {args : Array Value} {below : List Frame} {meth : Method} {c : Code} (C : XC G 1 570 p s m args c prog_12_method_9_code 4 R_TasteReader) (hr : meth.sig.returnType = none) (hk : meth.locks = false) {d dr : Nat} (hd : dr + 2 ≤ d + 1) (hd2 : 11 ≤ d + 1) (hR : xroom R (d + 1)) {rf : Int32 → LH → Option (LH)} (hrf : ∀ (p0 : Int32) (σ : LH) (σ' : LH), rf p0 σ = some σ' → ∀ d, dr ≤ d → xM G 1 570 l y_TasteReader_sum prog_12_method_8_code 4 none d [.ref (G.2.2.1 + 28), .int p0] σ none σ') {p0 : Int32} {σ' : LH} : ∀ (n : Nat) (y2 : Int32) (σ : LH), s_TasteReader_term_7 rf p0 n y2 σ = some σ' → XJ G 1 570 p l e R s m args below meth c 4 (XQ G 1 570 below args s none σ') 0 0 7 [(0, .ref (G.2.2.1 + 28)), (1, .int p0), (2, .int y2)] [] σ := by
  intro n
  induction n with
  | zero => intro y2 σ h0; cases h0
  | succ n ih => intro y2 σ h0; exact bb_TasteReader_term_7 C hr hk hd hd2 hR hrf ih h0
def s_TasteReader_term (rf : Int32 → LH → Option (LH)) (p0 : Int32) (σ : LH) : Option (LH) :=
  xb1 (s_TasteReader_atom rf p0 σ) fun σ2 =>
  s_TasteReader_term_7 rf p0 FUEL 0 σ2
theorem c_TasteReader_term {G : XG} {l : Launch} {d dr : Nat} {rf : Int32 → LH → Option (LH)} (hrf : ∀ (p0 : Int32) (σ : LH) (σ' : LH), rf p0 σ = some σ' → ∀ d, dr ≤ d → xM G 1 570 l y_TasteReader_sum prog_12_method_8_code 4 none d [.ref (G.2.2.1 + 28), .int p0] σ none σ') (hd : dr + 2 ≤ d) (hd2 : 11 ≤ d) {p0 : Int32} {σ σ' : LH} (h0 : s_TasteReader_term rf p0 σ = some σ') : xM G 1 570 l y_TasteReader_term prog_12_method_9_code 4 none d [.ref (G.2.2.1 + 28), .int p0] σ none σ' := by
  obtain ⟨d, rfl⟩ : ∃ q, d = q + 1 := ⟨d - 1, by omega⟩
  refine x_met R_TasteReader rfl (by decide +kernel) (Nat.le_of_ble_eq_true rfl) fun p e s m below meth c C hr hk hR => ?_
  refine x_lv (lv' := [(0, .ref (G.2.2.1 + 28)), (1, .int p0)]) C [0, 1] rfl ?_
  generalize xrm (d + 1) = R at hR ⊢
  unfold s_TasteReader_term at h0
  refine x_aload_n C d_TasteReader_term_0 0 rfl ?_
  refine x_iload_n C d_TasteReader_term_1 1 rfl ?_
  obtain ⟨σ2, k1, h0⟩ := xbind1 h0
  refine x_callVv C hR (c_TasteReader_atom hrf (d := d) (by omega) (by omega) k1) cw_TasteReader_96 k_28 rfl rfl rfl (Nat.le_of_ble_eq_true rfl) ⟨Nat.zero_le _, Nat.zero_le _⟩ d_TasteReader_term_2 ?_
  refine x_iconst (v := 0) C d_TasteReader_term_5 (by decide) ?_
  refine x_istore_n (lv' := [(2, .int 0), (0, .ref (G.2.2.1 + 28)), (1, .int p0)]) C d_TasteReader_term_6 rfl (by decide) rfl ?_
  exact x_lv C [1, 2, 0] rfl (b_TasteReader_term_7 C hr hk hd hd2 hR hrf FUEL _ _ h0)
-- LostPlaces$TasteReader.sum(I)V
theorem d_TasteReader_sum_0 : decode prog_12_method_8_code 0 = .ok (.aload_n 0, 1) := by decide +kernel
theorem d_TasteReader_sum_1 : decode prog_12_method_8_code 1 = .ok (.iload_n 1, 1) := by decide +kernel
theorem d_TasteReader_sum_2 : decode prog_12_method_8_code 2 = .ok (.invokevirtual 93, 3) := by decide +kernel
theorem d_TasteReader_sum_5 : decode prog_12_method_8_code 5 = .ok (.iconst 0, 1) := by decide +kernel
theorem d_TasteReader_sum_6 : decode prog_12_method_8_code 6 = .ok (.istore_n 2, 1) := by decide +kernel
theorem d_TasteReader_sum_7 : decode prog_12_method_8_code 7 = .ok (.iload_n 2, 1) := by decide +kernel
theorem d_TasteReader_sum_8 : decode prog_12_method_8_code 8 = .ok (.sipush 240, 3) := by decide +kernel
theorem d_TasteReader_sum_11 : decode prog_12_method_8_code 11 = .ok (.if_icmp .ge 65, 3) := by decide +kernel
theorem d_TasteReader_sum_14 : decode prog_12_method_8_code 14 = .ok (.aload_n 0, 1) := by decide +kernel
theorem d_TasteReader_sum_15 : decode prog_12_method_8_code 15 = .ok (.getfield 18, 3) := by decide +kernel
theorem d_TasteReader_sum_18 : decode prog_12_method_8_code 18 = .ok (.bipush 43, 2) := by decide +kernel
theorem d_TasteReader_sum_20 : decode prog_12_method_8_code 20 = .ok (.invokevirtual 76, 3) := by decide +kernel
theorem d_TasteReader_sum_23 : decode prog_12_method_8_code 23 = .ok (.ifCond .eq 8, 3) := by decide +kernel
theorem d_TasteReader_sum_26 : decode prog_12_method_8_code 26 = .ok (.bipush (-11), 2) := by decide +kernel
theorem d_TasteReader_sum_28 : decode prog_12_method_8_code 28 = .ok (.goto 21, 3) := by decide +kernel
theorem d_TasteReader_sum_31 : decode prog_12_method_8_code 31 = .ok (.aload_n 0, 1) := by decide +kernel
theorem d_TasteReader_sum_32 : decode prog_12_method_8_code 32 = .ok (.getfield 18, 3) := by decide +kernel
theorem d_TasteReader_sum_35 : decode prog_12_method_8_code 35 = .ok (.bipush 45, 2) := by decide +kernel
theorem d_TasteReader_sum_37 : decode prog_12_method_8_code 37 = .ok (.invokevirtual 76, 3) := by decide +kernel
theorem d_TasteReader_sum_40 : decode prog_12_method_8_code 40 = .ok (.ifCond .eq 8, 3) := by decide +kernel
theorem d_TasteReader_sum_43 : decode prog_12_method_8_code 43 = .ok (.bipush (-12), 2) := by decide +kernel
theorem d_TasteReader_sum_45 : decode prog_12_method_8_code 45 = .ok (.goto 4, 3) := by decide +kernel
theorem d_TasteReader_sum_48 : decode prog_12_method_8_code 48 = .ok (.iconst (-1), 1) := by decide +kernel
theorem d_TasteReader_sum_49 : decode prog_12_method_8_code 49 = .ok (.istore_n 3, 1) := by decide +kernel
theorem d_TasteReader_sum_50 : decode prog_12_method_8_code 50 = .ok (.iload_n 3, 1) := by decide +kernel
theorem d_TasteReader_sum_51 : decode prog_12_method_8_code 51 = .ok (.iconst (-1), 1) := by decide +kernel
theorem d_TasteReader_sum_52 : decode prog_12_method_8_code 52 = .ok (.if_icmp .ne 4, 3) := by decide +kernel
theorem d_TasteReader_sum_55 : decode prog_12_method_8_code 55 = .ok (.return_, 1) := by decide +kernel
theorem d_TasteReader_sum_56 : decode prog_12_method_8_code 56 = .ok (.aload_n 0, 1) := by decide +kernel
theorem d_TasteReader_sum_57 : decode prog_12_method_8_code 57 = .ok (.iload_n 1, 1) := by decide +kernel
theorem d_TasteReader_sum_58 : decode prog_12_method_8_code 58 = .ok (.invokevirtual 93, 3) := by decide +kernel
theorem d_TasteReader_sum_61 : decode prog_12_method_8_code 61 = .ok (.aload_n 0, 1) := by decide +kernel
theorem d_TasteReader_sum_62 : decode prog_12_method_8_code 62 = .ok (.getfield 12, 3) := by decide +kernel
theorem d_TasteReader_sum_65 : decode prog_12_method_8_code 65 = .ok (.iload_n 3, 1) := by decide +kernel
theorem d_TasteReader_sum_66 : decode prog_12_method_8_code 66 = .ok (.invokevirtual 62, 3) := by decide +kernel
theorem d_TasteReader_sum_69 : decode prog_12_method_8_code 69 = .ok (.pop, 1) := by decide +kernel
theorem d_TasteReader_sum_70 : decode prog_12_method_8_code 70 = .ok (.iinc 2 1, 3) := by decide +kernel
theorem d_TasteReader_sum_73 : decode prog_12_method_8_code 73 = .ok (.goto (-66), 3) := by decide +kernel
theorem d_TasteReader_sum_76 : decode prog_12_method_8_code 76 = .ok (.return_, 1) := by decide +kernel
def s_TasteReader_sum_49 (rf : Int32 → LH → Option (LH)) (p0 : Int32) (rec7 : Int32 → LH → Option (LH)) (y2 : Int32) (z0 : Int32) (σ : LH) : Option (LH) :=
  if z0 = (-1) then (
   some σ)
  else (
   xb1 (s_TasteReader_term rf p0 σ) fun σ14 =>
   xl ((σ14.2.2.1) : Nat) fun t16 =>
   xb2 (s_Taste_put t16 z0 σ14) fun r18 σ19 =>
   xl ((y2 + 1) : Int32) fun x20 =>
   rec7 x20 σ19)
theorem b_TasteReader_sum_49 {G : XG} {l : Launch} {p : Program} {e : Env} {R : Room} {s : State} {m : MethodId} {args : Array Value} {below : List Frame} {meth : Method} {c : Code} (C : XC G 1 570 p s m args c prog_12_method_8_code 4 R_TasteReader) (hr : meth.sig.returnType = none) (hk : meth.locks = false) {d dr : Nat} (hd : dr + 3 ≤ d + 1) (hd2 : 12 ≤ d + 1) (hR : xroom R (d + 1)) {rf : Int32 → LH → Option (LH)} (hrf : ∀ (p0 : Int32) (σ : LH) (σ' : LH), rf p0 σ = some σ' → ∀ d, dr ≤ d → xM G 1 570 l y_TasteReader_sum prog_12_method_8_code 4 none d [.ref (G.2.2.1 + 28), .int p0] σ none σ') {p0 : Int32} {rec7 : Int32 → LH → Option (LH)} {σ' : LH} (hrec7 : ∀ (y2 : Int32) (σ : LH), rec7 y2 σ = some σ' → XJ G 1 570 p l e R s m args below meth c 4 (XQ G 1 570 below args s none σ') 0 0 7 [(0, .ref (G.2.2.1 + 28)), (1, .int p0), (2, .int y2)] [] σ) {y2 : Int32} {z0 : Int32} {σ : LH} (h0 : s_TasteReader_sum_49 rf p0 rec7 y2 z0 σ = some σ') : XJ G 1 570 p l e R s m args below meth c 4 (XQ G 1 570 below args s none σ') 0 0 49 [(0, .ref (G.2.2.1 + 28)), (1, .int p0), (2, .int y2)] [.int z0] σ := by
  replace h0 := (show _ = _ from h0)
  unfold s_TasteReader_sum_49 at h0
  refine x_istore_n (lv' := [(3, .int z0), (0, .ref (G.2.2.1 + 28)), (1, .int p0), (2, .int y2)]) C d_TasteReader_sum_49 rfl (by decide) rfl ?_
  refine x_iload_n C d_TasteReader_sum_50 0 rfl ?_
  refine x_iconst (v := (-1)) C d_TasteReader_sum_51 (by decide) ?_
  refine x_icmp_ne C 56 d_TasteReader_sum_52 (by decide) (fun q12 => ?_) (fun q12 => ?_)
  · replace h0 := xif q12 h0
    refine x_aload_n C d_TasteReader_sum_56 1 rfl ?_
    refine x_iload_n C d_TasteReader_sum_57 2 rfl ?_
    obtain ⟨σ14, k13, h0⟩ := xbind1 h0
    refine x_callVv C hR (c_TasteReader_term hrf (d := d) (by omega) (by omega) k13) cw_TasteReader_93 k_28 rfl rfl rfl (Nat.le_of_ble_eq_true rfl) ⟨Nat.zero_le _, Nat.zero_le _⟩ d_TasteReader_sum_58 ?_
    refine x_aload_n C d_TasteReader_sum_61 1 rfl ?_
    refine x_getT (y := 0) C fg_TasteReader_12 k_28 rfl d_TasteReader_sum_62 (fun o15 => ?_)
    obtain ⟨t16, et16, h0⟩ := xlet h0
    refine x_nameR C et16 ?_
    have ht16 : t16 ∈ xTastes := by rw [et16]; exact o15.1
    refine x_iload_n C d_TasteReader_sum_65 0 rfl ?_
    obtain ⟨r18, σ19, k17, h0⟩ := xbind2 h0
    refine x_callVi C hR (c_Taste_put (d := d) (by omega) ht16 k17) cw_TasteReader_62 (ta_0 ht16) rfl rfl rfl (Nat.le_of_ble_eq_true rfl) ⟨Nat.zero_le _, Nat.zero_le _⟩ d_TasteReader_sum_66 ?_
    refine x_pop C d_TasteReader_sum_69 rfl ?_
    obtain ⟨x20, ex20, h0⟩ := xlet h0
    refine x_iinc (lv' := [(2, .int x20), (3, .int z0), (0, .ref (G.2.2.1 + 28)), (1, .int p0)]) C d_TasteReader_sum_70 3 rfl ex20 (by decide) rfl ?_
    refine x_goto C 7 d_TasteReader_sum_73 (by decide) ?_
    exact x_lv C [2, 3, 0] rfl (hrec7 _ _ h0)
  · replace h0 := xit q12 h0
    exact x_vret C hr hk h0 d_TasteReader_sum_55
def s_TasteReader_sum_7_b (rf : Int32 → LH → Option (LH)) (p0 : Int32) (rec7 : Int32 → LH → Option (LH)) (y2 : Int32) (σ : LH) : Option (LH) :=
  if 240 ≤ y2 then (
   some σ)
  else (
   xb2 (s_Tape_takes 43 σ) fun r5 σ6 =>
   if r5 = 0 then (
    xb2 (s_Tape_takes 45 σ6) fun r9 σ10 =>
    if r9 = 0 then (
     s_TasteReader_sum_49 rf p0 rec7 y2 (-1) σ10)
    else (
     s_TasteReader_sum_49 rf p0 rec7 y2 (-12) σ10))
   else (
    s_TasteReader_sum_49 rf p0 rec7 y2 (-11) σ6))
def s_TasteReader_sum_7 (rf : Int32 → LH → Option (LH)) (p0 : Int32) : Nat → Int32 → LH → Option (LH)
  | 0, _, _ => none
  | n + 1, y2, σ => s_TasteReader_sum_7_b rf p0 (s_TasteReader_sum_7 rf p0 n) y2 σ
theorem bb_TasteReader_sum_7 {G : XG} {l : Launch} {p : Program} {e : Env} {R : Room} {s : State} {m : MethodId} {args : Array Value} {below : List Frame} {meth : Method} {c : Code} (C : XC G 1 570 p s m args c prog_12_method_8_code 4 R_TasteReader) (hr : meth.sig.returnType = none) (hk : meth.locks = false) {d dr : Nat} (hd : dr + 3 ≤ d + 1) (hd2 : 12 ≤ d + 1) (hR : xroom R (d + 1)) {rf : Int32 → LH → Option (LH)} (hrf : ∀ (p0 : Int32) (σ : LH) (σ' : LH), rf p0 σ = some σ' → ∀ d, dr ≤ d → xM G 1 570 l y_TasteReader_sum prog_12_method_8_code 4 none d [.ref (G.2.2.1 + 28), .int p0] σ none σ') {p0 : Int32} {rec7 : Int32 → LH → Option (LH)} {σ' : LH} (hrec7 : ∀ (y2 : Int32) (σ : LH), rec7 y2 σ = some σ' → XJ G 1 570 p l e R s m args below meth c 4 (XQ G 1 570 below args s none σ') 0 0 7 [(0, .ref (G.2.2.1 + 28)), (1, .int p0), (2, .int y2)] [] σ) {y2 : Int32} {σ : LH} (h0 : s_TasteReader_sum_7_b rf p0 rec7 y2 σ = some σ') : XJ G 1 570 p l e R s m args below meth c 4 (XQ G 1 570 below args s none σ') 0 0 7 [(0, .ref (G.2.2.1 + 28)), (1, .int p0), (2, .int y2)] [] σ := by
  replace h0 := (show _ = _ from h0)
  unfold s_TasteReader_sum_7_b at h0
  refine x_iload_n C d_TasteReader_sum_7 2 rfl ?_
  refine x_sipush (v := 240) C d_TasteReader_sum_8 (by decide) ?_
  refine x_icmp_ge C 76 d_TasteReader_sum_11 (by decide) (fun q3 => ?_) (fun q3 => ?_)
  · replace h0 := xit q3 h0
    exact x_vret C hr hk h0 d_TasteReader_sum_76
  · replace h0 := xif q3 h0
    refine x_aload_n C d_TasteReader_sum_14 0 rfl ?_
    refine x_getA (y := 2) C fg_TasteReader_18 k_28 rfl d_TasteReader_sum_15 ?_
    refine x_bipush (v := 43) C d_TasteReader_sum_18 (by decide) ?_
    obtain ⟨r5, σ6, k4, h0⟩ := xbind2 h0
    refine x_callVi C hR (c_Tape_takes (d := d) (by omega) k4) cw_TasteReader_76 k_2 rfl rfl rfl (Nat.le_of_ble_eq_true rfl) ⟨Nat.zero_le _, Nat.zero_le _⟩ d_TasteReader_sum_20 ?_
    refine x_if_eq C 31 d_TasteReader_sum_23 (by decide) (fun q7 => ?_) (fun q7 => ?_)
    · replace h0 := xit q7 h0
      refine x_aload_n C d_TasteReader_sum_31 0 rfl ?_
      refine x_getA (y := 2) C fg_TasteReader_18 k_28 rfl d_TasteReader_sum_32 ?_
      refine x_bipush (v := 45) C d_TasteReader_sum_35 (by decide) ?_
      obtain ⟨r9, σ10, k8, h0⟩ := xbind2 h0
      refine x_callVi C hR (c_Tape_takes (d := d) (by omega) k8) cw_TasteReader_76 k_2 rfl rfl rfl (Nat.le_of_ble_eq_true rfl) ⟨Nat.zero_le _, Nat.zero_le _⟩ d_TasteReader_sum_37 ?_
      refine x_if_eq C 48 d_TasteReader_sum_40 (by decide) (fun q11 => ?_) (fun q11 => ?_)
      · replace h0 := xit q11 h0
        refine x_iconst (v := (-1)) C d_TasteReader_sum_48 (by decide) ?_
        exact x_lv C [0, 1, 2] rfl (b_TasteReader_sum_49 C hr hk hd hd2 hR hrf hrec7 h0)
      · replace h0 := xif q11 h0
        refine x_bipush (v := (-12)) C d_TasteReader_sum_43 (by decide) ?_
        refine x_goto C 49 d_TasteReader_sum_45 (by decide) ?_
        exact x_lv C [0, 1, 2] rfl (b_TasteReader_sum_49 C hr hk hd hd2 hR hrf hrec7 h0)
    · replace h0 := xif q7 h0
      refine x_bipush (v := (-11)) C d_TasteReader_sum_26 (by decide) ?_
      refine x_goto C 49 d_TasteReader_sum_28 (by decide) ?_
      exact x_lv C [0, 1, 2] rfl (b_TasteReader_sum_49 C hr hk hd hd2 hR hrf hrec7 h0)
theorem b_TasteReader_sum_7 {G : XG} {l : Launch} {p : Program} {e : Env} {R : Room} {s : State} {m : MethodId} {args : Array Value} {below : List Frame} {meth : Method} {c : Code} (C : XC G 1 570 p s m args c prog_12_method_8_code 4 R_TasteReader) (hr : meth.sig.returnType = none) (hk : meth.locks = false) {d dr : Nat} (hd : dr + 3 ≤ d + 1) (hd2 : 12 ≤ d + 1) (hR : xroom R (d + 1)) {rf : Int32 → LH → Option (LH)} (hrf : ∀ (p0 : Int32) (σ : LH) (σ' : LH), rf p0 σ = some σ' → ∀ d, dr ≤ d → xM G 1 570 l y_TasteReader_sum prog_12_method_8_code 4 none d [.ref (G.2.2.1 + 28), .int p0] σ none σ') {p0 : Int32} {σ' : LH} : ∀ (n : Nat) (y2 : Int32) (σ : LH), s_TasteReader_sum_7 rf p0 n y2 σ = some σ' → XJ G 1 570 p l e R s m args below meth c 4 (XQ G 1 570 below args s none σ') 0 0 7 [(0, .ref (G.2.2.1 + 28)), (1, .int p0), (2, .int y2)] [] σ := by
  intro n
  induction n with
  | zero => intro y2 σ h0; cases h0
  | succ n ih => intro y2 σ h0; exact bb_TasteReader_sum_7 C hr hk hd hd2 hR hrf ih h0
def s_TasteReader_sum_b (rf : Int32 → LH → Option (LH)) (p0 : Int32) (σ : LH) : Option (LH) :=
  xb1 (s_TasteReader_term rf p0 σ) fun σ2 =>
  s_TasteReader_sum_7 rf p0 FUEL 0 σ2
def s_TasteReader_sum : Nat → Int32 → LH → Option (LH)
  | 0, _, _ => none
  | n + 1, p0, σ => s_TasteReader_sum_b (s_TasteReader_sum n) p0 σ
theorem c_TasteReader_sum_b {G : XG} {l : Launch} {d dr : Nat} {rf : Int32 → LH → Option (LH)} (hrf : ∀ (p0 : Int32) (σ : LH) (σ' : LH), rf p0 σ = some σ' → ∀ d, dr ≤ d → xM G 1 570 l y_TasteReader_sum prog_12_method_8_code 4 none d [.ref (G.2.2.1 + 28), .int p0] σ none σ') (hd : dr + 3 ≤ d) (hd2 : 12 ≤ d) {p0 : Int32} {σ σ' : LH} (h0 : s_TasteReader_sum_b rf p0 σ = some σ') : xM G 1 570 l y_TasteReader_sum prog_12_method_8_code 4 none d [.ref (G.2.2.1 + 28), .int p0] σ none σ' := by
  obtain ⟨d, rfl⟩ : ∃ q, d = q + 1 := ⟨d - 1, by omega⟩
  refine x_met R_TasteReader rfl (by decide +kernel) (Nat.le_of_ble_eq_true rfl) fun p e s m below meth c C hr hk hR => ?_
  refine x_lv (lv' := [(0, .ref (G.2.2.1 + 28)), (1, .int p0)]) C [0, 1] rfl ?_
  generalize xrm (d + 1) = R at hR ⊢
  unfold s_TasteReader_sum_b at h0
  refine x_aload_n C d_TasteReader_sum_0 0 rfl ?_
  refine x_iload_n C d_TasteReader_sum_1 1 rfl ?_
  obtain ⟨σ2, k1, h0⟩ := xbind1 h0
  refine x_callVv C hR (c_TasteReader_term hrf (d := d) (by omega) (by omega) k1) cw_TasteReader_93 k_28 rfl rfl rfl (Nat.le_of_ble_eq_true rfl) ⟨Nat.zero_le _, Nat.zero_le _⟩ d_TasteReader_sum_2 ?_
  refine x_iconst (v := 0) C d_TasteReader_sum_5 (by decide) ?_
  refine x_istore_n (lv' := [(2, .int 0), (0, .ref (G.2.2.1 + 28)), (1, .int p0)]) C d_TasteReader_sum_6 rfl (by decide) rfl ?_
  exact x_lv C [1, 2, 0] rfl (b_TasteReader_sum_7 C hr hk hd hd2 hR hrf FUEL _ _ h0)
theorem h_TasteReader_sum_n {G : XG} {l : Launch} : ∀ (n : Nat) (p0 : Int32) (σ : LH) (σ' : LH), s_TasteReader_sum n p0 σ = some σ' → ∀ d, 3 * n + 12 ≤ d → xM G 1 570 l y_TasteReader_sum prog_12_method_8_code 4 none d [.ref (G.2.2.1 + 28), .int p0] σ none σ' := by
  intro n
  induction n with
  | zero => intro p0 σ σ' h0; cases h0
  | succ n ih => intro p0 σ σ' h0 d hd; exact c_TasteReader_sum_b (dr := 3 * n + 12) ih (by omega) (by omega) h0
theorem h_TasteReader_sum {G : XG} {l : Launch} : ∀ (p0 : Int32) (σ : LH) (σ' : LH), s_TasteReader_sum RF p0 σ = some σ' → ∀ d, 60 ≤ d → xM G 1 570 l y_TasteReader_sum prog_12_method_8_code 4 none d [.ref (G.2.2.1 + 28), .int p0] σ none σ' := h_TasteReader_sum_n RF
theorem c_TasteReader_sum {G : XG} {l : Launch} {d : Nat} (hd : 60 ≤ d) {p0 : Int32} {σ σ' : LH} (h0 : s_TasteReader_sum RF p0 σ = some σ') : xM G 1 570 l y_TasteReader_sum prog_12_method_8_code 4 none d [.ref (G.2.2.1 + 28), .int p0] σ none σ' := h_TasteReader_sum _ _ _ h0 d hd
-- LostPlaces$TasteReader.truth(ZI)V
theorem d_TasteReader_truth_0 : decode prog_12_method_5_code 0 = .ok (.aload_n 0, 1) := by decide +kernel
theorem d_TasteReader_truth_1 : decode prog_12_method_5_code 1 = .ok (.iload_n 1, 1) := by decide +kernel
theorem d_TasteReader_truth_2 : decode prog_12_method_5_code 2 = .ok (.iload_n 2, 1) := by decide +kernel
theorem d_TasteReader_truth_3 : decode prog_12_method_5_code 3 = .ok (.invokevirtual 80, 3) := by decide +kernel
theorem d_TasteReader_truth_6 : decode prog_12_method_5_code 6 = .ok (.iconst 0, 1) := by decide +kernel
theorem d_TasteReader_truth_7 : decode prog_12_method_5_code 7 = .ok (.istore_n 3, 1) := by decide +kernel
theorem d_TasteReader_truth_8 : decode prog_12_method_5_code 8 = .ok (.iload_n 3, 1) := by decide +kernel
theorem d_TasteReader_truth_9 : decode prog_12_method_5_code 9 = .ok (.sipush 240, 3) := by decide +kernel
theorem d_TasteReader_truth_12 : decode prog_12_method_5_code 12 = .ok (.if_icmp .ge 37, 3) := by decide +kernel
theorem d_TasteReader_truth_15 : decode prog_12_method_5_code 15 = .ok (.aload_n 0, 1) := by decide +kernel
theorem d_TasteReader_truth_16 : decode prog_12_method_5_code 16 = .ok (.getfield 18, 3) := by decide +kernel
theorem d_TasteReader_truth_19 : decode prog_12_method_5_code 19 = .ok (.bipush 38, 2) := by decide +kernel
theorem d_TasteReader_truth_21 : decode prog_12_method_5_code 21 = .ok (.invokevirtual 76, 3) := by decide +kernel
theorem d_TasteReader_truth_24 : decode prog_12_method_5_code 24 = .ok (.ifCond .eq 25, 3) := by decide +kernel
theorem d_TasteReader_truth_27 : decode prog_12_method_5_code 27 = .ok (.aload_n 0, 1) := by decide +kernel
theorem d_TasteReader_truth_28 : decode prog_12_method_5_code 28 = .ok (.iconst 0, 1) := by decide +kernel
theorem d_TasteReader_truth_29 : decode prog_12_method_5_code 29 = .ok (.iload_n 2, 1) := by decide +kernel
theorem d_TasteReader_truth_30 : decode prog_12_method_5_code 30 = .ok (.invokevirtual 80, 3) := by decide +kernel
theorem d_TasteReader_truth_33 : decode prog_12_method_5_code 33 = .ok (.aload_n 0, 1) := by decide +kernel
theorem d_TasteReader_truth_34 : decode prog_12_method_5_code 34 = .ok (.getfield 12, 3) := by decide +kernel
theorem d_TasteReader_truth_37 : decode prog_12_method_5_code 37 = .ok (.bipush (-18), 2) := by decide +kernel
theorem d_TasteReader_truth_39 : decode prog_12_method_5_code 39 = .ok (.invokevirtual 62, 3) := by decide +kernel
theorem d_TasteReader_truth_42 : decode prog_12_method_5_code 42 = .ok (.pop, 1) := by decide +kernel
theorem d_TasteReader_truth_43 : decode prog_12_method_5_code 43 = .ok (.iinc 3 1, 3) := by decide +kernel
theorem d_TasteReader_truth_46 : decode prog_12_method_5_code 46 = .ok (.goto (-38), 3) := by decide +kernel
theorem d_TasteReader_truth_49 : decode prog_12_method_5_code 49 = .ok (.return_, 1) := by decide +kernel
def s_TasteReader_truth_49 (rf : Int32 → Int32 → LH → Option (LH)) (p0 : Int32) (p1 : Int32) (σ : LH) : Option (LH) :=
  some σ
theorem b_TasteReader_truth_49 {G : XG} {l : Launch} {p : Program} {e : Env} {R : Room} {s : State} {m : MethodId} {args : Array Value} {below : List Frame} {meth : Method} {c : Code} (C : XC G 1 570 p s m args c prog_12_method_5_code 4 R_TasteReader) (hr : meth.sig.returnType = none) (hk : meth.locks = false) {d dr : Nat} (hd : dr + 1 ≤ d + 1) (hd2 : 3 ≤ d + 1) (hR : xroom R (d + 1)) {rf : Int32 → Int32 → LH → Option (LH)} (hrf : ∀ (p0 : Int32) (p1 : Int32) (σ : LH) (σ' : LH), rf p0 p1 σ = some σ' → ∀ d, dr ≤ d → xM G 1 570 l y_TasteReader_unit prog_12_method_6_code 4 none d [.ref (G.2.2.1 + 28), .int p0, .int p1] σ none σ') {p0 : Int32} {p1 : Int32} {σ' : LH} {σ : LH} (h0 : s_TasteReader_truth_49 rf p0 p1 σ = some σ') : XJ G 1 570 p l e R s m args below meth c 4 (XQ G 1 570 below args s none σ') 0 0 49 [] [] σ := by
  replace h0 := (show _ = _ from h0)
  unfold s_TasteReader_truth_49 at h0
  exact x_vret C hr hk h0 d_TasteReader_truth_49
def s_TasteReader_truth_8_b (rf : Int32 → Int32 → LH → Option (LH)) (p0 : Int32) (p1 : Int32) (rec8 : Int32 → LH → Option (LH)) (y3 : Int32) (σ : LH) : Option (LH) :=
  if 240 ≤ y3 then (
   s_TasteReader_truth_49 rf p0 p1 σ)
  else (
   xb2 (s_Tape_takes 38 σ) fun r5 σ6 =>
   if r5 = 0 then (
    s_TasteReader_truth_49 rf p0 p1 σ6)
   else (
    xb1 (rf 0 p1 σ6) fun σ9 =>
    xl ((σ9.2.2.1) : Nat) fun t11 =>
    xb2 (s_Taste_put t11 (-18) σ9) fun r13 σ14 =>
    xl ((y3 + 1) : Int32) fun x15 =>
    rec8 x15 σ14))
def s_TasteReader_truth_8 (rf : Int32 → Int32 → LH → Option (LH)) (p0 : Int32) (p1 : Int32) : Nat → Int32 → LH → Option (LH)
  | 0, _, _ => none
  | n + 1, y3, σ => s_TasteReader_truth_8_b rf p0 p1 (s_TasteReader_truth_8 rf p0 p1 n) y3 σ
theorem bb_TasteReader_truth_8 {G : XG} {l : Launch} {p : Program} {e : Env} {R : Room} {s : State} {m : MethodId} {args : Array Value} {below : List Frame} {meth : Method} {c : Code} (C : XC G 1 570 p s m args c prog_12_method_5_code 4 R_TasteReader) (hr : meth.sig.returnType = none) (hk : meth.locks = false) {d dr : Nat} (hd : dr + 1 ≤ d + 1) (hd2 : 3 ≤ d + 1) (hR : xroom R (d + 1)) {rf : Int32 → Int32 → LH → Option (LH)} (hrf : ∀ (p0 : Int32) (p1 : Int32) (σ : LH) (σ' : LH), rf p0 p1 σ = some σ' → ∀ d, dr ≤ d → xM G 1 570 l y_TasteReader_unit prog_12_method_6_code 4 none d [.ref (G.2.2.1 + 28), .int p0, .int p1] σ none σ') {p0 : Int32} {p1 : Int32} {rec8 : Int32 → LH → Option (LH)} {σ' : LH} (hrec8 : ∀ (y3 : Int32) (σ : LH), rec8 y3 σ = some σ' → XJ G 1 570 p l e R s m args below meth c 4 (XQ G 1 570 below args s none σ') 0 0 8 [(0, .ref (G.2.2.1 + 28)), (2, .int p1), (3, .int y3)] [] σ) {y3 : Int32} {σ : LH} (h0 : s_TasteReader_truth_8_b rf p0 p1 rec8 y3 σ = some σ') : XJ G 1 570 p l e R s m args below meth c 4 (XQ G 1 570 below args s none σ') 0 0 8 [(0, .ref (G.2.2.1 + 28)), (2, .int p1), (3, .int y3)] [] σ := by
  replace h0 := (show _ = _ from h0)
  unfold s_TasteReader_truth_8_b at h0
  refine x_iload_n C d_TasteReader_truth_8 2 rfl ?_
  refine x_sipush (v := 240) C d_TasteReader_truth_9 (by decide) ?_
  refine x_icmp_ge C 49 d_TasteReader_truth_12 (by decide) (fun q3 => ?_) (fun q3 => ?_)
  · replace h0 := xit q3 h0
    exact x_lv C [] rfl (b_TasteReader_truth_49 C hr hk hd hd2 hR hrf h0)
  · replace h0 := xif q3 h0
    refine x_aload_n C d_TasteReader_truth_15 0 rfl ?_
    refine x_getA (y := 2) C fg_TasteReader_18 k_28 rfl d_TasteReader_truth_16 ?_
    refine x_bipush (v := 38) C d_TasteReader_truth_19 (by decide) ?_
    obtain ⟨r5, σ6, k4, h0⟩ := xbind2 h0
    refine x_callVi C hR (c_Tape_takes (d := d) (by omega) k4) cw_TasteReader_76 k_2 rfl rfl rfl (Nat.le_of_ble_eq_true rfl) ⟨Nat.zero_le _, Nat.zero_le _⟩ d_TasteReader_truth_21 ?_
    refine x_if_eq C 49 d_TasteReader_truth_24 (by decide) (fun q7 => ?_) (fun q7 => ?_)
    · replace h0 := xit q7 h0
      exact x_lv C [] rfl (b_TasteReader_truth_49 C hr hk hd hd2 hR hrf h0)
    · replace h0 := xif q7 h0
      refine x_aload_n C d_TasteReader_truth_27 0 rfl ?_
      refine x_iconst (v := 0) C d_TasteReader_truth_28 (by decide) ?_
      refine x_iload_n C d_TasteReader_truth_29 1 rfl ?_
      obtain ⟨σ9, k8, h0⟩ := xbind1 h0
      refine x_callVv C hR (hrf _ _ _ _ k8 d (by omega)) cw_TasteReader_80 k_28 rfl rfl rfl (Nat.le_of_ble_eq_true rfl) ⟨Nat.zero_le _, Nat.zero_le _⟩ d_TasteReader_truth_30 ?_
      refine x_aload_n C d_TasteReader_truth_33 0 rfl ?_
      refine x_getT (y := 0) C fg_TasteReader_12 k_28 rfl d_TasteReader_truth_34 (fun o10 => ?_)
      obtain ⟨t11, et11, h0⟩ := xlet h0
      refine x_nameR C et11 ?_
      have ht11 : t11 ∈ xTastes := by rw [et11]; exact o10.1
      refine x_bipush (v := (-18)) C d_TasteReader_truth_37 (by decide) ?_
      obtain ⟨r13, σ14, k12, h0⟩ := xbind2 h0
      refine x_callVi C hR (c_Taste_put (d := d) (by omega) ht11 k12) cw_TasteReader_62 (ta_0 ht11) rfl rfl rfl (Nat.le_of_ble_eq_true rfl) ⟨Nat.zero_le _, Nat.zero_le _⟩ d_TasteReader_truth_39 ?_
      refine x_pop C d_TasteReader_truth_42 rfl ?_
      obtain ⟨x15, ex15, h0⟩ := xlet h0
      refine x_iinc (lv' := [(3, .int x15), (0, .ref (G.2.2.1 + 28)), (2, .int p1)]) C d_TasteReader_truth_43 2 rfl ex15 (by decide) rfl ?_
      refine x_goto C 8 d_TasteReader_truth_46 (by decide) ?_
      exact x_lv C [1, 2, 0] rfl (hrec8 _ _ h0)
theorem b_TasteReader_truth_8 {G : XG} {l : Launch} {p : Program} {e : Env} {R : Room} {s : State} {m : MethodId} {args : Array Value} {below : List Frame} {meth : Method} {c : Code} (C : XC G 1 570 p s m args c prog_12_method_5_code 4 R_TasteReader) (hr : meth.sig.returnType = none) (hk : meth.locks = false) {d dr : Nat} (hd : dr + 1 ≤ d + 1) (hd2 : 3 ≤ d + 1) (hR : xroom R (d + 1)) {rf : Int32 → Int32 → LH → Option (LH)} (hrf : ∀ (p0 : Int32) (p1 : Int32) (σ : LH) (σ' : LH), rf p0 p1 σ = some σ' → ∀ d, dr ≤ d → xM G 1 570 l y_TasteReader_unit prog_12_method_6_code 4 none d [.ref (G.2.2.1 + 28), .int p0, .int p1] σ none σ') {p0 : Int32} {p1 : Int32} {σ' : LH} : ∀ (n : Nat) (y3 : Int32) (σ : LH), s_TasteReader_truth_8 rf p0 p1 n y3 σ = some σ' → XJ G 1 570 p l e R s m args below meth c 4 (XQ G 1 570 below args s none σ') 0 0 8 [(0, .ref (G.2.2.1 + 28)), (2, .int p1), (3, .int y3)] [] σ := by
  intro n
  induction n with
  | zero => intro y3 σ h0; cases h0
  | succ n ih => intro y3 σ h0; exact bb_TasteReader_truth_8 C hr hk hd hd2 hR hrf ih h0
def s_TasteReader_truth (rf : Int32 → Int32 → LH → Option (LH)) (p0 : Int32) (p1 : Int32) (σ : LH) : Option (LH) :=
  xb1 (rf p0 p1 σ) fun σ2 =>
  s_TasteReader_truth_8 rf p0 p1 FUEL 0 σ2
theorem c_TasteReader_truth {G : XG} {l : Launch} {d dr : Nat} {rf : Int32 → Int32 → LH → Option (LH)} (hrf : ∀ (p0 : Int32) (p1 : Int32) (σ : LH) (σ' : LH), rf p0 p1 σ = some σ' → ∀ d, dr ≤ d → xM G 1 570 l y_TasteReader_unit prog_12_method_6_code 4 none d [.ref (G.2.2.1 + 28), .int p0, .int p1] σ none σ') (hd : dr + 1 ≤ d) (hd2 : 3 ≤ d) {p0 : Int32} {p1 : Int32} {σ σ' : LH} (h0 : s_TasteReader_truth rf p0 p1 σ = some σ') : xM G 1 570 l y_TasteReader_truth prog_12_method_5_code 4 none d [.ref (G.2.2.1 + 28), .int p0, .int p1] σ none σ' := by
  obtain ⟨d, rfl⟩ : ∃ q, d = q + 1 := ⟨d - 1, by omega⟩
  refine x_met R_TasteReader rfl (by decide +kernel) (Nat.le_of_ble_eq_true rfl) fun p e s m below meth c C hr hk hR => ?_
  refine x_lv (lv' := [(0, .ref (G.2.2.1 + 28)), (1, .int p0), (2, .int p1)]) C [0, 1, 2] rfl ?_
  generalize xrm (d + 1) = R at hR ⊢
  unfold s_TasteReader_truth at h0
  refine x_aload_n C d_TasteReader_truth_0 0 rfl ?_
  refine x_iload_n C d_TasteReader_truth_1 1 rfl ?_
  refine x_iload_n C d_TasteReader_truth_2 2 rfl ?_
  obtain ⟨σ2, k1, h0⟩ := xbind1 h0
  refine x_callVv C hR (hrf _ _ _ _ k1 d (by omega)) cw_TasteReader_80 k_28 rfl rfl rfl (Nat.le_of_ble_eq_true rfl) ⟨Nat.zero_le _, Nat.zero_le _⟩ d_TasteReader_truth_3 ?_
  refine x_iconst (v := 0) C d_TasteReader_truth_6 (by decide) ?_
  refine x_istore_n (lv' := [(3, .int 0), (0, .ref (G.2.2.1 + 28)), (1, .int p0), (2, .int p1)]) C d_TasteReader_truth_7 rfl (by decide) rfl ?_
  exact x_lv C [1, 3, 0] rfl (b_TasteReader_truth_8 C hr hk hd hd2 hR hrf FUEL _ _ h0)
-- LostPlaces$TasteReader.condition(ZI)V
theorem d_TasteReader_condition_0 : decode prog_12_method_4_code 0 = .ok (.aload_n 0, 1) := by decide +kernel
theorem d_TasteReader_condition_1 : decode prog_12_method_4_code 1 = .ok (.iload_n 1, 1) := by decide +kernel
theorem d_TasteReader_condition_2 : decode prog_12_method_4_code 2 = .ok (.iload_n 2, 1) := by decide +kernel
theorem d_TasteReader_condition_3 : decode prog_12_method_4_code 3 = .ok (.invokevirtual 73, 3) := by decide +kernel
theorem d_TasteReader_condition_6 : decode prog_12_method_4_code 6 = .ok (.iconst 0, 1) := by decide +kernel
theorem d_TasteReader_condition_7 : decode prog_12_method_4_code 7 = .ok (.istore_n 3, 1) := by decide +kernel
theorem d_TasteReader_condition_8 : decode prog_12_method_4_code 8 = .ok (.iload_n 3, 1) := by decide +kernel
theorem d_TasteReader_condition_9 : decode prog_12_method_4_code 9 = .ok (.sipush 240, 3) := by decide +kernel
theorem d_TasteReader_condition_12 : decode prog_12_method_4_code 12 = .ok (.if_icmp .ge 37, 3) := by decide +kernel
theorem d_TasteReader_condition_15 : decode prog_12_method_4_code 15 = .ok (.aload_n 0, 1) := by decide +kernel
theorem d_TasteReader_condition_16 : decode prog_12_method_4_code 16 = .ok (.getfield 18, 3) := by decide +kernel
theorem d_TasteReader_condition_19 : decode prog_12_method_4_code 19 = .ok (.bipush 124, 2) := by decide +kernel
theorem d_TasteReader_condition_21 : decode prog_12_method_4_code 21 = .ok (.invokevirtual 76, 3) := by decide +kernel
theorem d_TasteReader_condition_24 : decode prog_12_method_4_code 24 = .ok (.ifCond .eq 25, 3) := by decide +kernel
theorem d_TasteReader_condition_27 : decode prog_12_method_4_code 27 = .ok (.aload_n 0, 1) := by decide +kernel
theorem d_TasteReader_condition_28 : decode prog_12_method_4_code 28 = .ok (.iconst 0, 1) := by decide +kernel
theorem d_TasteReader_condition_29 : decode prog_12_method_4_code 29 = .ok (.iload_n 2, 1) := by decide +kernel
theorem d_TasteReader_condition_30 : decode prog_12_method_4_code 30 = .ok (.invokevirtual 73, 3) := by decide +kernel
theorem d_TasteReader_condition_33 : decode prog_12_method_4_code 33 = .ok (.aload_n 0, 1) := by decide +kernel
theorem d_TasteReader_condition_34 : decode prog_12_method_4_code 34 = .ok (.getfield 12, 3) := by decide +kernel
theorem d_TasteReader_condition_37 : decode prog_12_method_4_code 37 = .ok (.bipush (-19), 2) := by decide +kernel
theorem d_TasteReader_condition_39 : decode prog_12_method_4_code 39 = .ok (.invokevirtual 62, 3) := by decide +kernel
theorem d_TasteReader_condition_42 : decode prog_12_method_4_code 42 = .ok (.pop, 1) := by decide +kernel
theorem d_TasteReader_condition_43 : decode prog_12_method_4_code 43 = .ok (.iinc 3 1, 3) := by decide +kernel
theorem d_TasteReader_condition_46 : decode prog_12_method_4_code 46 = .ok (.goto (-38), 3) := by decide +kernel
theorem d_TasteReader_condition_49 : decode prog_12_method_4_code 49 = .ok (.return_, 1) := by decide +kernel
def s_TasteReader_condition_49 (rf : Int32 → Int32 → LH → Option (LH)) (p0 : Int32) (p1 : Int32) (σ : LH) : Option (LH) :=
  some σ
theorem b_TasteReader_condition_49 {G : XG} {l : Launch} {p : Program} {e : Env} {R : Room} {s : State} {m : MethodId} {args : Array Value} {below : List Frame} {meth : Method} {c : Code} (C : XC G 1 570 p s m args c prog_12_method_4_code 4 R_TasteReader) (hr : meth.sig.returnType = none) (hk : meth.locks = false) {d dr : Nat} (hd : dr + 2 ≤ d + 1) (hd2 : 4 ≤ d + 1) (hR : xroom R (d + 1)) {rf : Int32 → Int32 → LH → Option (LH)} (hrf : ∀ (p0 : Int32) (p1 : Int32) (σ : LH) (σ' : LH), rf p0 p1 σ = some σ' → ∀ d, dr ≤ d → xM G 1 570 l y_TasteReader_unit prog_12_method_6_code 4 none d [.ref (G.2.2.1 + 28), .int p0, .int p1] σ none σ') {p0 : Int32} {p1 : Int32} {σ' : LH} {σ : LH} (h0 : s_TasteReader_condition_49 rf p0 p1 σ = some σ') : XJ G 1 570 p l e R s m args below meth c 4 (XQ G 1 570 below args s none σ') 0 0 49 [] [] σ := by
  replace h0 := (show _ = _ from h0)
  unfold s_TasteReader_condition_49 at h0
  exact x_vret C hr hk h0 d_TasteReader_condition_49
def s_TasteReader_condition_8_b (rf : Int32 → Int32 → LH → Option (LH)) (p0 : Int32) (p1 : Int32) (rec8 : Int32 → LH → Option (LH)) (y3 : Int32) (σ : LH) : Option (LH) :=
  if 240 ≤ y3 then (
   s_TasteReader_condition_49 rf p0 p1 σ)
  else (
   xb2 (s_Tape_takes 124 σ) fun r5 σ6 =>
   if r5 = 0 then (
    s_TasteReader_condition_49 rf p0 p1 σ6)
   else (
    xb1 (s_TasteReader_truth rf 0 p1 σ6) fun σ9 =>
    xl ((σ9.2.2.1) : Nat) fun t11 =>
    xb2 (s_Taste_put t11 (-19) σ9) fun r13 σ14 =>
    xl ((y3 + 1) : Int32) fun x15 =>
    rec8 x15 σ14))
def s_TasteReader_condition_8 (rf : Int32 → Int32 → LH → Option (LH)) (p0 : Int32) (p1 : Int32) : Nat → Int32 → LH → Option (LH)
  | 0, _, _ => none
  | n + 1, y3, σ => s_TasteReader_condition_8_b rf p0 p1 (s_TasteReader_condition_8 rf p0 p1 n) y3 σ
theorem bb_TasteReader_condition_8 {G : XG} {l : Launch} {p : Program} {e : Env} {R : Room} {s : State} {m : MethodId} {args : Array Value} {below : List Frame} {meth : Method} {c : Code} (C : XC G 1 570 p s m args c prog_12_method_4_code 4 R_TasteReader) (hr : meth.sig.returnType = none) (hk : meth.locks = false) {d dr : Nat} (hd : dr + 2 ≤ d + 1) (hd2 : 4 ≤ d + 1) (hR : xroom R (d + 1)) {rf : Int32 → Int32 → LH → Option (LH)} (hrf : ∀ (p0 : Int32) (p1 : Int32) (σ : LH) (σ' : LH), rf p0 p1 σ = some σ' → ∀ d, dr ≤ d → xM G 1 570 l y_TasteReader_unit prog_12_method_6_code 4 none d [.ref (G.2.2.1 + 28), .int p0, .int p1] σ none σ') {p0 : Int32} {p1 : Int32} {rec8 : Int32 → LH → Option (LH)} {σ' : LH} (hrec8 : ∀ (y3 : Int32) (σ : LH), rec8 y3 σ = some σ' → XJ G 1 570 p l e R s m args below meth c 4 (XQ G 1 570 below args s none σ') 0 0 8 [(0, .ref (G.2.2.1 + 28)), (2, .int p1), (3, .int y3)] [] σ) {y3 : Int32} {σ : LH} (h0 : s_TasteReader_condition_8_b rf p0 p1 rec8 y3 σ = some σ') : XJ G 1 570 p l e R s m args below meth c 4 (XQ G 1 570 below args s none σ') 0 0 8 [(0, .ref (G.2.2.1 + 28)), (2, .int p1), (3, .int y3)] [] σ := by
  replace h0 := (show _ = _ from h0)
  unfold s_TasteReader_condition_8_b at h0
  refine x_iload_n C d_TasteReader_condition_8 2 rfl ?_
  refine x_sipush (v := 240) C d_TasteReader_condition_9 (by decide) ?_
  refine x_icmp_ge C 49 d_TasteReader_condition_12 (by decide) (fun q3 => ?_) (fun q3 => ?_)
  · replace h0 := xit q3 h0
    exact x_lv C [] rfl (b_TasteReader_condition_49 C hr hk hd hd2 hR hrf h0)
  · replace h0 := xif q3 h0
    refine x_aload_n C d_TasteReader_condition_15 0 rfl ?_
    refine x_getA (y := 2) C fg_TasteReader_18 k_28 rfl d_TasteReader_condition_16 ?_
    refine x_bipush (v := 124) C d_TasteReader_condition_19 (by decide) ?_
    obtain ⟨r5, σ6, k4, h0⟩ := xbind2 h0
    refine x_callVi C hR (c_Tape_takes (d := d) (by omega) k4) cw_TasteReader_76 k_2 rfl rfl rfl (Nat.le_of_ble_eq_true rfl) ⟨Nat.zero_le _, Nat.zero_le _⟩ d_TasteReader_condition_21 ?_
    refine x_if_eq C 49 d_TasteReader_condition_24 (by decide) (fun q7 => ?_) (fun q7 => ?_)
    · replace h0 := xit q7 h0
      exact x_lv C [] rfl (b_TasteReader_condition_49 C hr hk hd hd2 hR hrf h0)
    · replace h0 := xif q7 h0
      refine x_aload_n C d_TasteReader_condition_27 0 rfl ?_
      refine x_iconst (v := 0) C d_TasteReader_condition_28 (by decide) ?_
      refine x_iload_n C d_TasteReader_condition_29 1 rfl ?_
      obtain ⟨σ9, k8, h0⟩ := xbind1 h0
      refine x_callVv C hR (c_TasteReader_truth hrf (d := d) (by omega) (by omega) k8) cw_TasteReader_73 k_28 rfl rfl rfl (Nat.le_of_ble_eq_true rfl) ⟨Nat.zero_le _, Nat.zero_le _⟩ d_TasteReader_condition_30 ?_
      refine x_aload_n C d_TasteReader_condition_33 0 rfl ?_
      refine x_getT (y := 0) C fg_TasteReader_12 k_28 rfl d_TasteReader_condition_34 (fun o10 => ?_)
      obtain ⟨t11, et11, h0⟩ := xlet h0
      refine x_nameR C et11 ?_
      have ht11 : t11 ∈ xTastes := by rw [et11]; exact o10.1
      refine x_bipush (v := (-19)) C d_TasteReader_condition_37 (by decide) ?_
      obtain ⟨r13, σ14, k12, h0⟩ := xbind2 h0
      refine x_callVi C hR (c_Taste_put (d := d) (by omega) ht11 k12) cw_TasteReader_62 (ta_0 ht11) rfl rfl rfl (Nat.le_of_ble_eq_true rfl) ⟨Nat.zero_le _, Nat.zero_le _⟩ d_TasteReader_condition_39 ?_
      refine x_pop C d_TasteReader_condition_42 rfl ?_
      obtain ⟨x15, ex15, h0⟩ := xlet h0
      refine x_iinc (lv' := [(3, .int x15), (0, .ref (G.2.2.1 + 28)), (2, .int p1)]) C d_TasteReader_condition_43 2 rfl ex15 (by decide) rfl ?_
      refine x_goto C 8 d_TasteReader_condition_46 (by decide) ?_
      exact x_lv C [1, 2, 0] rfl (hrec8 _ _ h0)
theorem b_TasteReader_condition_8 {G : XG} {l : Launch} {p : Program} {e : Env} {R : Room} {s : State} {m : MethodId} {args : Array Value} {below : List Frame} {meth : Method} {c : Code} (C : XC G 1 570 p s m args c prog_12_method_4_code 4 R_TasteReader) (hr : meth.sig.returnType = none) (hk : meth.locks = false) {d dr : Nat} (hd : dr + 2 ≤ d + 1) (hd2 : 4 ≤ d + 1) (hR : xroom R (d + 1)) {rf : Int32 → Int32 → LH → Option (LH)} (hrf : ∀ (p0 : Int32) (p1 : Int32) (σ : LH) (σ' : LH), rf p0 p1 σ = some σ' → ∀ d, dr ≤ d → xM G 1 570 l y_TasteReader_unit prog_12_method_6_code 4 none d [.ref (G.2.2.1 + 28), .int p0, .int p1] σ none σ') {p0 : Int32} {p1 : Int32} {σ' : LH} : ∀ (n : Nat) (y3 : Int32) (σ : LH), s_TasteReader_condition_8 rf p0 p1 n y3 σ = some σ' → XJ G 1 570 p l e R s m args below meth c 4 (XQ G 1 570 below args s none σ') 0 0 8 [(0, .ref (G.2.2.1 + 28)), (2, .int p1), (3, .int y3)] [] σ := by
  intro n
  induction n with
  | zero => intro y3 σ h0; cases h0
  | succ n ih => intro y3 σ h0; exact bb_TasteReader_condition_8 C hr hk hd hd2 hR hrf ih h0
def s_TasteReader_condition (rf : Int32 → Int32 → LH → Option (LH)) (p0 : Int32) (p1 : Int32) (σ : LH) : Option (LH) :=
  xb1 (s_TasteReader_truth rf p0 p1 σ) fun σ2 =>
  s_TasteReader_condition_8 rf p0 p1 FUEL 0 σ2
theorem c_TasteReader_condition {G : XG} {l : Launch} {d dr : Nat} {rf : Int32 → Int32 → LH → Option (LH)} (hrf : ∀ (p0 : Int32) (p1 : Int32) (σ : LH) (σ' : LH), rf p0 p1 σ = some σ' → ∀ d, dr ≤ d → xM G 1 570 l y_TasteReader_unit prog_12_method_6_code 4 none d [.ref (G.2.2.1 + 28), .int p0, .int p1] σ none σ') (hd : dr + 2 ≤ d) (hd2 : 4 ≤ d) {p0 : Int32} {p1 : Int32} {σ σ' : LH} (h0 : s_TasteReader_condition rf p0 p1 σ = some σ') : xM G 1 570 l y_TasteReader_condition prog_12_method_4_code 4 none d [.ref (G.2.2.1 + 28), .int p0, .int p1] σ none σ' := by
  obtain ⟨d, rfl⟩ : ∃ q, d = q + 1 := ⟨d - 1, by omega⟩
  refine x_met R_TasteReader rfl (by decide +kernel) (Nat.le_of_ble_eq_true rfl) fun p e s m below meth c C hr hk hR => ?_
  refine x_lv (lv' := [(0, .ref (G.2.2.1 + 28)), (1, .int p0), (2, .int p1)]) C [0, 1, 2] rfl ?_
  generalize xrm (d + 1) = R at hR ⊢
  unfold s_TasteReader_condition at h0
  refine x_aload_n C d_TasteReader_condition_0 0 rfl ?_
  refine x_iload_n C d_TasteReader_condition_1 1 rfl ?_
  refine x_iload_n C d_TasteReader_condition_2 2 rfl ?_
  obtain ⟨σ2, k1, h0⟩ := xbind1 h0
  refine x_callVv C hR (c_TasteReader_truth hrf (d := d) (by omega) (by omega) k1) cw_TasteReader_73 k_28 rfl rfl rfl (Nat.le_of_ble_eq_true rfl) ⟨Nat.zero_le _, Nat.zero_le _⟩ d_TasteReader_condition_3 ?_
  refine x_iconst (v := 0) C d_TasteReader_condition_6 (by decide) ?_
  refine x_istore_n (lv' := [(3, .int 0), (0, .ref (G.2.2.1 + 28)), (1, .int p0), (2, .int p1)]) C d_TasteReader_condition_7 rfl (by decide) rfl ?_
  exact x_lv C [1, 3, 0] rfl (b_TasteReader_condition_8 C hr hk hd hd2 hR hrf FUEL _ _ h0)
-- LostPlaces$TasteReader.unit(ZI)V
theorem d_TasteReader_unit_0 : decode prog_12_method_6_code 0 = .ok (.iload_n 1, 1) := by decide +kernel
theorem d_TasteReader_unit_1 : decode prog_12_method_6_code 1 = .ok (.ifCond .ne 34, 3) := by decide +kernel
theorem d_TasteReader_unit_4 : decode prog_12_method_6_code 4 = .ok (.aload_n 0, 1) := by decide +kernel
theorem d_TasteReader_unit_5 : decode prog_12_method_6_code 5 = .ok (.bipush 33, 2) := by decide +kernel
theorem d_TasteReader_unit_7 : decode prog_12_method_6_code 7 = .ok (.iload_n 2, 1) := by decide +kernel
theorem d_TasteReader_unit_8 : decode prog_12_method_6_code 8 = .ok (.invokevirtual 83, 3) := by decide +kernel
theorem d_TasteReader_unit_11 : decode prog_12_method_6_code 11 = .ok (.ifCond .eq 24, 3) := by decide +kernel
theorem d_TasteReader_unit_14 : decode prog_12_method_6_code 14 = .ok (.aload_n 0, 1) := by decide +kernel
theorem d_TasteReader_unit_15 : decode prog_12_method_6_code 15 = .ok (.iconst 0, 1) := by decide +kernel
theorem d_TasteReader_unit_16 : decode prog_12_method_6_code 16 = .ok (.iload_n 2, 1) := by decide +kernel
theorem d_TasteReader_unit_17 : decode prog_12_method_6_code 17 = .ok (.iconst 1, 1) := by decide +kernel
theorem d_TasteReader_unit_18 : decode prog_12_method_6_code 18 = .ok (.iadd, 1) := by decide +kernel
theorem d_TasteReader_unit_19 : decode prog_12_method_6_code 19 = .ok (.invokevirtual 80, 3) := by decide +kernel
theorem d_TasteReader_unit_22 : decode prog_12_method_6_code 22 = .ok (.aload_n 0, 1) := by decide +kernel
theorem d_TasteReader_unit_23 : decode prog_12_method_6_code 23 = .ok (.getfield 12, 3) := by decide +kernel
theorem d_TasteReader_unit_26 : decode prog_12_method_6_code 26 = .ok (.bipush (-20), 2) := by decide +kernel
theorem d_TasteReader_unit_28 : decode prog_12_method_6_code 28 = .ok (.invokevirtual 62, 3) := by decide +kernel
theorem d_TasteReader_unit_31 : decode prog_12_method_6_code 31 = .ok (.pop, 1) := by decide +kernel
theorem d_TasteReader_unit_32 : decode prog_12_method_6_code 32 = .ok (.goto 132, 3) := by decide +kernel
theorem d_TasteReader_unit_35 : decode prog_12_method_6_code 35 = .ok (.iload_n 1, 1) := by decide +kernel
theorem d_TasteReader_unit_36 : decode prog_12_method_6_code 36 = .ok (.ifCond .ne 33, 3) := by decide +kernel
theorem d_TasteReader_unit_39 : decode prog_12_method_6_code 39 = .ok (.aload_n 0, 1) := by decide +kernel
theorem d_TasteReader_unit_40 : decode prog_12_method_6_code 40 = .ok (.bipush 40, 2) := by decide +kernel
theorem d_TasteReader_unit_42 : decode prog_12_method_6_code 42 = .ok (.iload_n 2, 1) := by decide +kernel
theorem d_TasteReader_unit_43 : decode prog_12_method_6_code 43 = .ok (.invokevirtual 83, 3) := by decide +kernel
theorem d_TasteReader_unit_46 : decode prog_12_method_6_code 46 = .ok (.ifCond .eq 23, 3) := by decide +kernel
theorem d_TasteReader_unit_49 : decode prog_12_method_6_code 49 = .ok (.aload_n 0, 1) := by decide +kernel
theorem d_TasteReader_unit_50 : decode prog_12_method_6_code 50 = .ok (.iconst 0, 1) := by decide +kernel
theorem d_TasteReader_unit_51 : decode prog_12_method_6_code 51 = .ok (.iload_n 2, 1) := by decide +kernel
theorem d_TasteReader_unit_52 : decode prog_12_method_6_code 52 = .ok (.iconst 1, 1) := by decide +kernel
theorem d_TasteReader_unit_53 : decode prog_12_method_6_code 53 = .ok (.iadd, 1) := by decide +kernel
theorem d_TasteReader_unit_54 : decode prog_12_method_6_code 54 = .ok (.invokevirtual 58, 3) := by decide +kernel
theorem d_TasteReader_unit_57 : decode prog_12_method_6_code 57 = .ok (.aload_n 0, 1) := by decide +kernel
theorem d_TasteReader_unit_58 : decode prog_12_method_6_code 58 = .ok (.getfield 18, 3) := by decide +kernel
theorem d_TasteReader_unit_61 : decode prog_12_method_6_code 61 = .ok (.bipush 41, 2) := by decide +kernel
theorem d_TasteReader_unit_63 : decode prog_12_method_6_code 63 = .ok (.invokevirtual 38, 3) := by decide +kernel
theorem d_TasteReader_unit_66 : decode prog_12_method_6_code 66 = .ok (.goto 98, 3) := by decide +kernel
theorem d_TasteReader_unit_69 : decode prog_12_method_6_code 69 = .ok (.iload_n 1, 1) := by decide +kernel
theorem d_TasteReader_unit_70 : decode prog_12_method_6_code 70 = .ok (.ifCond .ne 8, 3) := by decide +kernel
theorem d_TasteReader_unit_73 : decode prog_12_method_6_code 73 = .ok (.aload_n 0, 1) := by decide +kernel
theorem d_TasteReader_unit_74 : decode prog_12_method_6_code 74 = .ok (.iload_n 2, 1) := by decide +kernel
theorem d_TasteReader_unit_75 : decode prog_12_method_6_code 75 = .ok (.invokevirtual 48, 3) := by decide +kernel
theorem d_TasteReader_unit_78 : decode prog_12_method_6_code 78 = .ok (.aload_n 0, 1) := by decide +kernel
theorem d_TasteReader_unit_79 : decode prog_12_method_6_code 79 = .ok (.getfield 18, 3) := by decide +kernel
theorem d_TasteReader_unit_82 : decode prog_12_method_6_code 82 = .ok (.bipush 61, 2) := by decide +kernel
theorem d_TasteReader_unit_84 : decode prog_12_method_6_code 84 = .ok (.invokevirtual 76, 3) := by decide +kernel
theorem d_TasteReader_unit_87 : decode prog_12_method_6_code 87 = .ok (.ifCond .eq 8, 3) := by decide +kernel
theorem d_TasteReader_unit_90 : decode prog_12_method_6_code 90 = .ok (.bipush (-15), 2) := by decide +kernel
theorem d_TasteReader_unit_92 : decode prog_12_method_6_code 92 = .ok (.goto 38, 3) := by decide +kernel
theorem d_TasteReader_unit_95 : decode prog_12_method_6_code 95 = .ok (.aload_n 0, 1) := by decide +kernel
theorem d_TasteReader_unit_96 : decode prog_12_method_6_code 96 = .ok (.getfield 18, 3) := by decide +kernel
theorem d_TasteReader_unit_99 : decode prog_12_method_6_code 99 = .ok (.bipush 60, 2) := by decide +kernel
theorem d_TasteReader_unit_101 : decode prog_12_method_6_code 101 = .ok (.invokevirtual 76, 3) := by decide +kernel
theorem d_TasteReader_unit_104 : decode prog_12_method_6_code 104 = .ok (.ifCond .eq 8, 3) := by decide +kernel
theorem d_TasteReader_unit_107 : decode prog_12_method_6_code 107 = .ok (.bipush (-16), 2) := by decide +kernel
theorem d_TasteReader_unit_109 : decode prog_12_method_6_code 109 = .ok (.goto 21, 3) := by decide +kernel
theorem d_TasteReader_unit_112 : decode prog_12_method_6_code 112 = .ok (.aload_n 0, 1) := by decide +kernel
theorem d_TasteReader_unit_113 : decode prog_12_method_6_code 113 = .ok (.getfield 18, 3) := by decide +kernel
theorem d_TasteReader_unit_116 : decode prog_12_method_6_code 116 = .ok (.bipush 62, 2) := by decide +kernel
theorem d_TasteReader_unit_118 : decode prog_12_method_6_code 118 = .ok (.invokevirtual 76, 3) := by decide +kernel
theorem d_TasteReader_unit_121 : decode prog_12_method_6_code 121 = .ok (.ifCond .eq 8, 3) := by decide +kernel
theorem d_TasteReader_unit_124 : decode prog_12_method_6_code 124 = .ok (.bipush (-17), 2) := by decide +kernel
theorem d_TasteReader_unit_126 : decode prog_12_method_6_code 126 = .ok (.goto 4, 3) := by decide +kernel
theorem d_TasteReader_unit_129 : decode prog_12_method_6_code 129 = .ok (.iconst (-1), 1) := by decide +kernel
theorem d_TasteReader_unit_130 : decode prog_12_method_6_code 130 = .ok (.istore_n 3, 1) := by decide +kernel
theorem d_TasteReader_unit_131 : decode prog_12_method_6_code 131 = .ok (.iload_n 3, 1) := by decide +kernel
theorem d_TasteReader_unit_132 : decode prog_12_method_6_code 132 = .ok (.iconst (-1), 1) := by decide +kernel
theorem d_TasteReader_unit_133 : decode prog_12_method_6_code 133 = .ok (.if_icmp .ne 17, 3) := by decide +kernel
theorem d_TasteReader_unit_136 : decode prog_12_method_6_code 136 = .ok (.aload_n 0, 1) := by decide +kernel
theorem d_TasteReader_unit_137 : decode prog_12_method_6_code 137 = .ok (.getfield 18, 3) := by decide +kernel
theorem d_TasteReader_unit_140 : decode prog_12_method_6_code 140 = .ok (.aload_n 0, 1) := by decide +kernel
theorem d_TasteReader_unit_141 : decode prog_12_method_6_code 141 = .ok (.getfield 18, 3) := by decide +kernel
theorem d_TasteReader_unit_144 : decode prog_12_method_6_code 144 = .ok (.getfield 87, 3) := by decide +kernel
theorem d_TasteReader_unit_147 : decode prog_12_method_6_code 147 = .ok (.invokevirtual 90, 3) := by decide +kernel
theorem d_TasteReader_unit_150 : decode prog_12_method_6_code 150 = .ok (.aload_n 0, 1) := by decide +kernel
theorem d_TasteReader_unit_151 : decode prog_12_method_6_code 151 = .ok (.iload_n 2, 1) := by decide +kernel
theorem d_TasteReader_unit_152 : decode prog_12_method_6_code 152 = .ok (.invokevirtual 48, 3) := by decide +kernel
theorem d_TasteReader_unit_155 : decode prog_12_method_6_code 155 = .ok (.aload_n 0, 1) := by decide +kernel
theorem d_TasteReader_unit_156 : decode prog_12_method_6_code 156 = .ok (.getfield 12, 3) := by decide +kernel
theorem d_TasteReader_unit_159 : decode prog_12_method_6_code 159 = .ok (.iload_n 3, 1) := by decide +kernel
theorem d_TasteReader_unit_160 : decode prog_12_method_6_code 160 = .ok (.invokevirtual 62, 3) := by decide +kernel
theorem d_TasteReader_unit_163 : decode prog_12_method_6_code 163 = .ok (.pop, 1) := by decide +kernel
theorem d_TasteReader_unit_164 : decode prog_12_method_6_code 164 = .ok (.return_, 1) := by decide +kernel
def s_TasteReader_unit_164 (rf : Int32 → Int32 → LH → Option (LH)) (p0 : Int32) (p1 : Int32) (σ : LH) : Option (LH) :=
  some σ
theorem b_TasteReader_unit_164 {G : XG} {l : Launch} {p : Program} {e : Env} {R : Room} {s : State} {m : MethodId} {args : Array Value} {below : List Frame} {meth : Method} {c : Code} (C : XC G 1 570 p s m args c prog_12_method_6_code 4 R_TasteReader) (hr : meth.sig.returnType = none) (hk : meth.locks = false) {d dr : Nat} (hd : dr + 3 ≤ d + 1) (hd2 : 61 ≤ d + 1) (hR : xroom R (d + 1)) {rf : Int32 → Int32 → LH → Option (LH)} (hrf : ∀ (p0 : Int32) (p1 : Int32) (σ : LH) (σ' : LH), rf p0 p1 σ = some σ' → ∀ d, dr ≤ d → xM G 1 570 l y_TasteReader_unit prog_12_method_6_code 4 none d [.ref (G.2.2.1 + 28), .int p0, .int p1] σ none σ') {p0 : Int32} {p1 : Int32} {σ' : LH} {σ : LH} (h0 : s_TasteReader_unit_164 rf p0 p1 σ = some σ') : XJ G 1 570 p l e R s m args below meth c 4 (XQ G 1 570 below args s none σ') 0 0 164 [] [] σ := by
  replace h0 := (show _ = _ from h0)
  unfold s_TasteReader_unit_164 at h0
  exact x_vret C hr hk h0 d_TasteReader_unit_164
def s_TasteReader_unit_150 (rf : Int32 → Int32 → LH → Option (LH)) (p0 : Int32) (p1 : Int32) (y3 : Int32) (σ : LH) : Option (LH) :=
  xb1 (s_TasteReader_sum RF p1 σ) fun σ30 =>
  xl ((σ30.2.2.1) : Nat) fun t32 =>
  xb2 (s_Taste_put t32 y3 σ30) fun r34 σ35 =>
  s_TasteReader_unit_164 rf p0 p1 σ35
theorem b_TasteReader_unit_150 {G : XG} {l : Launch} {p : Program} {e : Env} {R : Room} {s : State} {m : MethodId} {args : Array Value} {below : List Frame} {meth : Method} {c : Code} (C : XC G 1 570 p s m args c prog_12_method_6_code 4 R_TasteReader) (hr : meth.sig.returnType = none) (hk : meth.locks = false) {d dr : Nat} (hd : dr + 3 ≤ d + 1) (hd2 : 61 ≤ d + 1) (hR : xroom R (d + 1)) {rf : Int32 → Int32 → LH → Option (LH)} (hrf : ∀ (p0 : Int32) (p1 : Int32) (σ : LH) (σ' : LH), rf p0 p1 σ = some σ' → ∀ d, dr ≤ d → xM G 1 570 l y_TasteReader_unit prog_12_method_6_code 4 none d [.ref (G.2.2.1 + 28), .int p0, .int p1] σ none σ') {p0 : Int32} {p1 : Int32} {σ' : LH} {y3 : Int32} {σ : LH} (h0 : s_TasteReader_unit_150 rf p0 p1 y3 σ = some σ') : XJ G 1 570 p l e R s m args below meth c 4 (XQ G 1 570 below args s none σ') 0 0 150 [(0, .ref (G.2.2.1 + 28)), (2, .int p1), (3, .int y3)] [] σ := by
  replace h0 := (show _ = _ from h0)
  unfold s_TasteReader_unit_150 at h0
  refine x_aload_n C d_TasteReader_unit_150 0 rfl ?_
  refine x_iload_n C d_TasteReader_unit_151 1 rfl ?_
  obtain ⟨σ30, k29, h0⟩ := xbind1 h0
  refine x_callVv C hR (c_TasteReader_sum (d := d) (by omega) k29) cw_TasteReader_48 k_28 rfl rfl rfl (Nat.le_of_ble_eq_true rfl) ⟨Nat.zero_le _, Nat.zero_le _⟩ d_TasteReader_unit_152 ?_
  refine x_aload_n C d_TasteReader_unit_155 0 rfl ?_
  refine x_getT (y := 0) C fg_TasteReader_12 k_28 rfl d_TasteReader_unit_156 (fun o31 => ?_)
  obtain ⟨t32, et32, h0⟩ := xlet h0
  refine x_nameR C et32 ?_
  have ht32 : t32 ∈ xTastes := by rw [et32]; exact o31.1
  refine x_iload_n C d_TasteReader_unit_159 2 rfl ?_
  obtain ⟨r34, σ35, k33, h0⟩ := xbind2 h0
  refine x_callVi C hR (c_Taste_put (d := d) (by omega) ht32 k33) cw_TasteReader_62 (ta_0 ht32) rfl rfl rfl (Nat.le_of_ble_eq_true rfl) ⟨Nat.zero_le _, Nat.zero_le _⟩ d_TasteReader_unit_160 ?_
  refine x_pop C d_TasteReader_unit_163 rfl ?_
  exact x_lv C [] rfl (b_TasteReader_unit_164 C hr hk hd hd2 hR hrf h0)
def s_TasteReader_unit_130 (rf : Int32 → Int32 → LH → Option (LH)) (p0 : Int32) (p1 : Int32) (z0 : Int32) (σ : LH) : Option (LH) :=
  if z0 = (-1) then (
   xb1 (s_Tape_fail (σ.1 2 2) σ) fun σ28 =>
   s_TasteReader_unit_150 rf p0 p1 z0 σ28)
  else (
   s_TasteReader_unit_150 rf p0 p1 z0 σ)
theorem b_TasteReader_unit_130 {G : XG} {l : Launch} {p : Program} {e : Env} {R : Room} {s : State} {m : MethodId} {args : Array Value} {below : List Frame} {meth : Method} {c : Code} (C : XC G 1 570 p s m args c prog_12_method_6_code 4 R_TasteReader) (hr : meth.sig.returnType = none) (hk : meth.locks = false) {d dr : Nat} (hd : dr + 3 ≤ d + 1) (hd2 : 61 ≤ d + 1) (hR : xroom R (d + 1)) {rf : Int32 → Int32 → LH → Option (LH)} (hrf : ∀ (p0 : Int32) (p1 : Int32) (σ : LH) (σ' : LH), rf p0 p1 σ = some σ' → ∀ d, dr ≤ d → xM G 1 570 l y_TasteReader_unit prog_12_method_6_code 4 none d [.ref (G.2.2.1 + 28), .int p0, .int p1] σ none σ') {p0 : Int32} {p1 : Int32} {σ' : LH} {z0 : Int32} {σ : LH} (h0 : s_TasteReader_unit_130 rf p0 p1 z0 σ = some σ') : XJ G 1 570 p l e R s m args below meth c 4 (XQ G 1 570 below args s none σ') 0 0 130 [(0, .ref (G.2.2.1 + 28)), (2, .int p1)] [.int z0] σ := by
  replace h0 := (show _ = _ from h0)
  unfold s_TasteReader_unit_130 at h0
  refine x_istore_n (lv' := [(3, .int z0), (0, .ref (G.2.2.1 + 28)), (2, .int p1)]) C d_TasteReader_unit_130 rfl (by decide) rfl ?_
  refine x_iload_n C d_TasteReader_unit_131 0 rfl ?_
  refine x_iconst (v := (-1)) C d_TasteReader_unit_132 (by decide) ?_
  refine x_icmp_ne C 150 d_TasteReader_unit_133 (by decide) (fun q26 => ?_) (fun q26 => ?_)
  · replace h0 := xif q26 h0
    exact x_lv C [1, 2, 0] rfl (b_TasteReader_unit_150 C hr hk hd hd2 hR hrf h0)
  · replace h0 := xit q26 h0
    refine x_aload_n C d_TasteReader_unit_136 1 rfl ?_
    refine x_getA (y := 2) C fg_TasteReader_18 k_28 rfl d_TasteReader_unit_137 ?_
    refine x_aload_n C d_TasteReader_unit_140 1 rfl ?_
    refine x_getA (y := 2) C fg_TasteReader_18 k_28 rfl d_TasteReader_unit_141 ?_
    refine x_getI (y := 0) C fg_TasteReader_87 k_2 rfl d_TasteReader_unit_144 ?_
    obtain ⟨σ28, k27, h0⟩ := xbind1 h0
    refine x_callVv C hR (c_Tape_fail (d := d) (by omega) k27) cw_TasteReader_90 k_2 rfl rfl rfl (Nat.le_of_ble_eq_true rfl) ⟨Nat.zero_le _, Nat.zero_le _⟩ d_TasteReader_unit_147 ?_
    exact x_lv C [1, 2, 0] rfl (b_TasteReader_unit_150 C hr hk hd hd2 hR hrf h0)
def s_TasteReader_unit_78 (rf : Int32 → Int32 → LH → Option (LH)) (p0 : Int32) (p1 : Int32) (σ : LH) : Option (LH) :=
  xb2 (s_Tape_takes 61 σ) fun r15 σ16 =>
  if r15 = 0 then (
   xb2 (s_Tape_takes 60 σ16) fun r19 σ20 =>
   if r19 = 0 then (
    xb2 (s_Tape_takes 62 σ20) fun r23 σ24 =>
    if r23 = 0 then (
     s_TasteReader_unit_130 rf p0 p1 (-1) σ24)
    else (
     s_TasteReader_unit_130 rf p0 p1 (-17) σ24))
   else (
    s_TasteReader_unit_130 rf p0 p1 (-16) σ20))
  else (
   s_TasteReader_unit_130 rf p0 p1 (-15) σ16)
theorem b_TasteReader_unit_78 {G : XG} {l : Launch} {p : Program} {e : Env} {R : Room} {s : State} {m : MethodId} {args : Array Value} {below : List Frame} {meth : Method} {c : Code} (C : XC G 1 570 p s m args c prog_12_method_6_code 4 R_TasteReader) (hr : meth.sig.returnType = none) (hk : meth.locks = false) {d dr : Nat} (hd : dr + 3 ≤ d + 1) (hd2 : 61 ≤ d + 1) (hR : xroom R (d + 1)) {rf : Int32 → Int32 → LH → Option (LH)} (hrf : ∀ (p0 : Int32) (p1 : Int32) (σ : LH) (σ' : LH), rf p0 p1 σ = some σ' → ∀ d, dr ≤ d → xM G 1 570 l y_TasteReader_unit prog_12_method_6_code 4 none d [.ref (G.2.2.1 + 28), .int p0, .int p1] σ none σ') {p0 : Int32} {p1 : Int32} {σ' : LH} {σ : LH} (h0 : s_TasteReader_unit_78 rf p0 p1 σ = some σ') : XJ G 1 570 p l e R s m args below meth c 4 (XQ G 1 570 below args s none σ') 0 0 78 [(0, .ref (G.2.2.1 + 28)), (2, .int p1)] [] σ := by
  replace h0 := (show _ = _ from h0)
  unfold s_TasteReader_unit_78 at h0
  refine x_aload_n C d_TasteReader_unit_78 0 rfl ?_
  refine x_getA (y := 2) C fg_TasteReader_18 k_28 rfl d_TasteReader_unit_79 ?_
  refine x_bipush (v := 61) C d_TasteReader_unit_82 (by decide) ?_
  obtain ⟨r15, σ16, k14, h0⟩ := xbind2 h0
  refine x_callVi C hR (c_Tape_takes (d := d) (by omega) k14) cw_TasteReader_76 k_2 rfl rfl rfl (Nat.le_of_ble_eq_true rfl) ⟨Nat.zero_le _, Nat.zero_le _⟩ d_TasteReader_unit_84 ?_
  refine x_if_eq C 95 d_TasteReader_unit_87 (by decide) (fun q17 => ?_) (fun q17 => ?_)
  · replace h0 := xit q17 h0
    refine x_aload_n C d_TasteReader_unit_95 0 rfl ?_
    refine x_getA (y := 2) C fg_TasteReader_18 k_28 rfl d_TasteReader_unit_96 ?_
    refine x_bipush (v := 60) C d_TasteReader_unit_99 (by decide) ?_
    obtain ⟨r19, σ20, k18, h0⟩ := xbind2 h0
    refine x_callVi C hR (c_Tape_takes (d := d) (by omega) k18) cw_TasteReader_76 k_2 rfl rfl rfl (Nat.le_of_ble_eq_true rfl) ⟨Nat.zero_le _, Nat.zero_le _⟩ d_TasteReader_unit_101 ?_
    refine x_if_eq C 112 d_TasteReader_unit_104 (by decide) (fun q21 => ?_) (fun q21 => ?_)
    · replace h0 := xit q21 h0
      refine x_aload_n C d_TasteReader_unit_112 0 rfl ?_
      refine x_getA (y := 2) C fg_TasteReader_18 k_28 rfl d_TasteReader_unit_113 ?_
      refine x_bipush (v := 62) C d_TasteReader_unit_116 (by decide) ?_
      obtain ⟨r23, σ24, k22, h0⟩ := xbind2 h0
      refine x_callVi C hR (c_Tape_takes (d := d) (by omega) k22) cw_TasteReader_76 k_2 rfl rfl rfl (Nat.le_of_ble_eq_true rfl) ⟨Nat.zero_le _, Nat.zero_le _⟩ d_TasteReader_unit_118 ?_
      refine x_if_eq C 129 d_TasteReader_unit_121 (by decide) (fun q25 => ?_) (fun q25 => ?_)
      · replace h0 := xit q25 h0
        refine x_iconst (v := (-1)) C d_TasteReader_unit_129 (by decide) ?_
        exact x_lv C [0, 1] rfl (b_TasteReader_unit_130 C hr hk hd hd2 hR hrf h0)
      · replace h0 := xif q25 h0
        refine x_bipush (v := (-17)) C d_TasteReader_unit_124 (by decide) ?_
        refine x_goto C 130 d_TasteReader_unit_126 (by decide) ?_
        exact x_lv C [0, 1] rfl (b_TasteReader_unit_130 C hr hk hd hd2 hR hrf h0)
    · replace h0 := xif q21 h0
      refine x_bipush (v := (-16)) C d_TasteReader_unit_107 (by decide) ?_
      refine x_goto C 130 d_TasteReader_unit_109 (by decide) ?_
      exact x_lv C [0, 1] rfl (b_TasteReader_unit_130 C hr hk hd hd2 hR hrf h0)
  · replace h0 := xif q17 h0
    refine x_bipush (v := (-15)) C d_TasteReader_unit_90 (by decide) ?_
    refine x_goto C 130 d_TasteReader_unit_92 (by decide) ?_
    exact x_lv C [0, 1] rfl (b_TasteReader_unit_130 C hr hk hd hd2 hR hrf h0)
def s_TasteReader_unit_69 (rf : Int32 → Int32 → LH → Option (LH)) (p0 : Int32) (p1 : Int32) (σ : LH) : Option (LH) :=
  if p0 = 0 then (
   xb1 (s_TasteReader_sum RF p1 σ) fun σ13 =>
   s_TasteReader_unit_78 rf p0 p1 σ13)
  else (
   s_TasteReader_unit_78 rf p0 p1 σ)
theorem b_TasteReader_unit_69 {G : XG} {l : Launch} {p : Program} {e : Env} {R : Room} {s : State} {m : MethodId} {args : Array Value} {below : List Frame} {meth : Method} {c : Code} (C : XC G 1 570 p s m args c prog_12_method_6_code 4 R_TasteReader) (hr : meth.sig.returnType = none) (hk : meth.locks = false) {d dr : Nat} (hd : dr + 3 ≤ d + 1) (hd2 : 61 ≤ d + 1) (hR : xroom R (d + 1)) {rf : Int32 → Int32 → LH → Option (LH)} (hrf : ∀ (p0 : Int32) (p1 : Int32) (σ : LH) (σ' : LH), rf p0 p1 σ = some σ' → ∀ d, dr ≤ d → xM G 1 570 l y_TasteReader_unit prog_12_method_6_code 4 none d [.ref (G.2.2.1 + 28), .int p0, .int p1] σ none σ') {p0 : Int32} {p1 : Int32} {σ' : LH} {σ : LH} (h0 : s_TasteReader_unit_69 rf p0 p1 σ = some σ') : XJ G 1 570 p l e R s m args below meth c 4 (XQ G 1 570 below args s none σ') 0 0 69 [(0, .ref (G.2.2.1 + 28)), (1, .int p0), (2, .int p1)] [] σ := by
  replace h0 := (show _ = _ from h0)
  unfold s_TasteReader_unit_69 at h0
  refine x_iload_n C d_TasteReader_unit_69 1 rfl ?_
  refine x_if_ne C 78 d_TasteReader_unit_70 (by decide) (fun q11 => ?_) (fun q11 => ?_)
  · replace h0 := xif q11 h0
    exact x_lv C [0, 2] rfl (b_TasteReader_unit_78 C hr hk hd hd2 hR hrf h0)
  · replace h0 := xit q11 h0
    refine x_aload_n C d_TasteReader_unit_73 0 rfl ?_
    refine x_iload_n C d_TasteReader_unit_74 2 rfl ?_
    obtain ⟨σ13, k12, h0⟩ := xbind1 h0
    refine x_callVv C hR (c_TasteReader_sum (d := d) (by omega) k12) cw_TasteReader_48 k_28 rfl rfl rfl (Nat.le_of_ble_eq_true rfl) ⟨Nat.zero_le _, Nat.zero_le _⟩ d_TasteReader_unit_75 ?_
    exact x_lv C [0, 2] rfl (b_TasteReader_unit_78 C hr hk hd hd2 hR hrf h0)
def s_TasteReader_unit_35 (rf : Int32 → Int32 → LH → Option (LH)) (p0 : Int32) (p1 : Int32) (σ : LH) : Option (LH) :=
  if p0 = 0 then (
   xb2 (s_TasteReader_opens 40 p1 σ) fun r8 σ9 =>
   if r8 = 0 then (
    s_TasteReader_unit_69 rf p0 p1 σ9)
   else (
    xb1 (s_TasteReader_condition rf 0 (p1 + 1) σ9) fun σ37 =>
    xb1 (s_Tape_needs 41 σ37) fun σ39 =>
    s_TasteReader_unit_164 rf p0 p1 σ39))
  else (
   s_TasteReader_unit_69 rf p0 p1 σ)
theorem b_TasteReader_unit_35 {G : XG} {l : Launch} {p : Program} {e : Env} {R : Room} {s : State} {m : MethodId} {args : Array Value} {below : List Frame} {meth : Method} {c : Code} (C : XC G 1 570 p s m args c prog_12_method_6_code 4 R_TasteReader) (hr : meth.sig.returnType = none) (hk : meth.locks = false) {d dr : Nat} (hd : dr + 3 ≤ d + 1) (hd2 : 61 ≤ d + 1) (hR : xroom R (d + 1)) {rf : Int32 → Int32 → LH → Option (LH)} (hrf : ∀ (p0 : Int32) (p1 : Int32) (σ : LH) (σ' : LH), rf p0 p1 σ = some σ' → ∀ d, dr ≤ d → xM G 1 570 l y_TasteReader_unit prog_12_method_6_code 4 none d [.ref (G.2.2.1 + 28), .int p0, .int p1] σ none σ') {p0 : Int32} {p1 : Int32} {σ' : LH} {σ : LH} (h0 : s_TasteReader_unit_35 rf p0 p1 σ = some σ') : XJ G 1 570 p l e R s m args below meth c 4 (XQ G 1 570 below args s none σ') 0 0 35 [(0, .ref (G.2.2.1 + 28)), (1, .int p0), (2, .int p1)] [] σ := by
  replace h0 := (show _ = _ from h0)
  unfold s_TasteReader_unit_35 at h0
  refine x_iload_n C d_TasteReader_unit_35 1 rfl ?_
  refine x_if_ne C 69 d_TasteReader_unit_36 (by decide) (fun q6 => ?_) (fun q6 => ?_)
  · replace h0 := xif q6 h0
    exact x_lv C [0, 1, 2] rfl (b_TasteReader_unit_69 C hr hk hd hd2 hR hrf h0)
  · replace h0 := xit q6 h0
    refine x_aload_n C d_TasteReader_unit_39 0 rfl ?_
    refine x_bipush (v := 40) C d_TasteReader_unit_40 (by decide) ?_
    refine x_iload_n C d_TasteReader_unit_42 2 rfl ?_
    obtain ⟨r8, σ9, k7, h0⟩ := xbind2 h0
    refine x_callVi C hR (c_TasteReader_opens (d := d) (by omega) k7) cw_TasteReader_83 k_28 rfl rfl rfl (Nat.le_of_ble_eq_true rfl) ⟨Nat.zero_le _, Nat.zero_le _⟩ d_TasteReader_unit_43 ?_
    refine x_if_eq C 69 d_TasteReader_unit_46 (by decide) (fun q10 => ?_) (fun q10 => ?_)
    · replace h0 := xit q10 h0
      exact x_lv C [0, 1, 2] rfl (b_TasteReader_unit_69 C hr hk hd hd2 hR hrf h0)
    · replace h0 := xif q10 h0
      refine x_aload_n C d_TasteReader_unit_49 0 rfl ?_
      refine x_iconst (v := 0) C d_TasteReader_unit_50 (by decide) ?_
      refine x_iload_n C d_TasteReader_unit_51 2 rfl ?_
      refine x_iconst (v := 1) C d_TasteReader_unit_52 (by decide) ?_
      refine x_iadd C d_TasteReader_unit_53 ?_
      obtain ⟨σ37, k36, h0⟩ := xbind1 h0
      refine x_callVv C hR (c_TasteReader_condition hrf (d := d) (by omega) (by omega) k36) cw_TasteReader_58 k_28 rfl rfl rfl (Nat.le_of_ble_eq_true rfl) ⟨Nat.zero_le _, Nat.zero_le _⟩ d_TasteReader_unit_54 ?_
      refine x_aload_n C d_TasteReader_unit_57 0 rfl ?_
      refine x_getA (y := 2) C fg_TasteReader_18 k_28 rfl d_TasteReader_unit_58 ?_
      refine x_bipush (v := 41) C d_TasteReader_unit_61 (by decide) ?_
      obtain ⟨σ39, k38, h0⟩ := xbind1 h0
      refine x_callVv C hR (c_Tape_needs (d := d) (by omega) k38) cw_TasteReader_38 k_2 rfl rfl rfl (Nat.le_of_ble_eq_true rfl) ⟨Nat.zero_le _, Nat.zero_le _⟩ d_TasteReader_unit_63 ?_
      refine x_goto C 164 d_TasteReader_unit_66 (by decide) ?_
      exact x_lv C [] rfl (b_TasteReader_unit_164 C hr hk hd hd2 hR hrf h0)
def s_TasteReader_unit_b (rf : Int32 → Int32 → LH → Option (LH)) (p0 : Int32) (p1 : Int32) (σ : LH) : Option (LH) :=
  if p0 = 0 then (
   xb2 (s_TasteReader_opens 33 p1 σ) fun r3 σ4 =>
   if r3 = 0 then (
    s_TasteReader_unit_35 rf p0 p1 σ4)
   else (
    xb1 (rf 0 (p1 + 1) σ4) fun σ41 =>
    xl ((σ41.2.2.1) : Nat) fun t43 =>
    xb2 (s_Taste_put t43 (-20) σ41) fun r45 σ46 =>
    s_TasteReader_unit_164 rf p0 p1 σ46))
  else (
   s_TasteReader_unit_35 rf p0 p1 σ)
def s_TasteReader_unit : Nat → Int32 → Int32 → LH → Option (LH)
  | 0, _, _, _ => none
  | n + 1, p0, p1, σ => s_TasteReader_unit_b (s_TasteReader_unit n) p0 p1 σ
theorem c_TasteReader_unit_b {G : XG} {l : Launch} {d dr : Nat} {rf : Int32 → Int32 → LH → Option (LH)} (hrf : ∀ (p0 : Int32) (p1 : Int32) (σ : LH) (σ' : LH), rf p0 p1 σ = some σ' → ∀ d, dr ≤ d → xM G 1 570 l y_TasteReader_unit prog_12_method_6_code 4 none d [.ref (G.2.2.1 + 28), .int p0, .int p1] σ none σ') (hd : dr + 3 ≤ d) (hd2 : 61 ≤ d) {p0 : Int32} {p1 : Int32} {σ σ' : LH} (h0 : s_TasteReader_unit_b rf p0 p1 σ = some σ') : xM G 1 570 l y_TasteReader_unit prog_12_method_6_code 4 none d [.ref (G.2.2.1 + 28), .int p0, .int p1] σ none σ' := by
  obtain ⟨d, rfl⟩ : ∃ q, d = q + 1 := ⟨d - 1, by omega⟩
  refine x_met R_TasteReader rfl (by decide +kernel) (Nat.le_of_ble_eq_true rfl) fun p e s m below meth c C hr hk hR => ?_
  refine x_lv (lv' := [(0, .ref (G.2.2.1 + 28)), (1, .int p0), (2, .int p1)]) C [0, 1, 2] rfl ?_
  generalize xrm (d + 1) = R at hR ⊢
  unfold s_TasteReader_unit_b at h0
  refine x_iload_n C d_TasteReader_unit_0 1 rfl ?_
  refine x_if_ne C 35 d_TasteReader_unit_1 (by decide) (fun q1 => ?_) (fun q1 => ?_)
  · replace h0 := xif q1 h0
    exact x_lv C [0, 1, 2] rfl (b_TasteReader_unit_35 C hr hk hd hd2 hR hrf h0)
  · replace h0 := xit q1 h0
    refine x_aload_n C d_TasteReader_unit_4 0 rfl ?_
    refine x_bipush (v := 33) C d_TasteReader_unit_5 (by decide) ?_
    refine x_iload_n C d_TasteReader_unit_7 2 rfl ?_
    obtain ⟨r3, σ4, k2, h0⟩ := xbind2 h0
    refine x_callVi C hR (c_TasteReader_opens (d := d) (by omega) k2) cw_TasteReader_83 k_28 rfl rfl rfl (Nat.le_of_ble_eq_true rfl) ⟨Nat.zero_le _, Nat.zero_le _⟩ d_TasteReader_unit_8 ?_
    refine x_if_eq C 35 d_TasteReader_unit_11 (by decide) (fun q5 => ?_) (fun q5 => ?_)
    · replace h0 := xit q5 h0
      exact x_lv C [0, 1, 2] rfl (b_TasteReader_unit_35 C hr hk hd hd2 hR hrf h0)
    · replace h0 := xif q5 h0
      refine x_aload_n C d_TasteReader_unit_14 0 rfl ?_
      refine x_iconst (v := 0) C d_TasteReader_unit_15 (by decide) ?_
      refine x_iload_n C d_TasteReader_unit_16 2 rfl ?_
      refine x_iconst (v := 1) C d_TasteReader_unit_17 (by decide) ?_
      refine x_iadd C d_TasteReader_unit_18 ?_
      obtain ⟨σ41, k40, h0⟩ := xbind1 h0
      refine x_callVv C hR (hrf _ _ _ _ k40 d (by omega)) cw_TasteReader_80 k_28 rfl rfl rfl (Nat.le_of_ble_eq_true rfl) ⟨Nat.zero_le _, Nat.zero_le _⟩ d_TasteReader_unit_19 ?_
      refine x_aload_n C d_TasteReader_unit_22 0 rfl ?_
      refine x_getT (y := 0) C fg_TasteReader_12 k_28 rfl d_TasteReader_unit_23 (fun o42 => ?_)
      obtain ⟨t43, et43, h0⟩ := xlet h0
      refine x_nameR C et43 ?_
      have ht43 : t43 ∈ xTastes := by rw [et43]; exact o42.1
      refine x_bipush (v := (-20)) C d_TasteReader_unit_26 (by decide) ?_
      obtain ⟨r45, σ46, k44, h0⟩ := xbind2 h0
      refine x_callVi C hR (c_Taste_put (d := d) (by omega) ht43 k44) cw_TasteReader_62 (ta_0 ht43) rfl rfl rfl (Nat.le_of_ble_eq_true rfl) ⟨Nat.zero_le _, Nat.zero_le _⟩ d_TasteReader_unit_28 ?_
      refine x_pop C d_TasteReader_unit_31 rfl ?_
      refine x_goto C 164 d_TasteReader_unit_32 (by decide) ?_
      exact x_lv C [] rfl (b_TasteReader_unit_164 C hr hk hd hd2 hR hrf h0)
theorem h_TasteReader_unit_n {G : XG} {l : Launch} : ∀ (n : Nat) (p0 : Int32) (p1 : Int32) (σ : LH) (σ' : LH), s_TasteReader_unit n p0 p1 σ = some σ' → ∀ d, 3 * n + 61 ≤ d → xM G 1 570 l y_TasteReader_unit prog_12_method_6_code 4 none d [.ref (G.2.2.1 + 28), .int p0, .int p1] σ none σ' := by
  intro n
  induction n with
  | zero => intro p0 p1 σ σ' h0; cases h0
  | succ n ih => intro p0 p1 σ σ' h0 d hd; exact c_TasteReader_unit_b (dr := 3 * n + 61) ih (by omega) (by omega) h0
theorem h_TasteReader_unit {G : XG} {l : Launch} : ∀ (p0 : Int32) (p1 : Int32) (σ : LH) (σ' : LH), s_TasteReader_unit RF p0 p1 σ = some σ' → ∀ d, 109 ≤ d → xM G 1 570 l y_TasteReader_unit prog_12_method_6_code 4 none d [.ref (G.2.2.1 + 28), .int p0, .int p1] σ none σ' := h_TasteReader_unit_n RF
theorem c_TasteReader_unit {G : XG} {l : Launch} {d : Nat} (hd : 109 ≤ d) {p0 : Int32} {p1 : Int32} {σ σ' : LH} (h0 : s_TasteReader_unit RF p0 p1 σ = some σ') : xM G 1 570 l y_TasteReader_unit prog_12_method_6_code 4 none d [.ref (G.2.2.1 + 28), .int p0, .int p1] σ none σ' := h_TasteReader_unit _ _ _ _ h0 d hd
-- LostPlaces$Taste.land(I)V
theorem d_Taste_land_0 : decode prog_11_method_5_code 0 = .ok (.iload_n 1, 1) := by decide +kernel
theorem d_Taste_land_1 : decode prog_11_method_5_code 1 = .ok (.ifCond .lt 22, 3) := by decide +kernel
theorem d_Taste_land_4 : decode prog_11_method_5_code 4 = .ok (.iload_n 1, 1) := by decide +kernel
theorem d_Taste_land_5 : decode prog_11_method_5_code 5 = .ok (.aload_n 0, 1) := by decide +kernel
theorem d_Taste_land_6 : decode prog_11_method_5_code 6 = .ok (.getfield 11, 3) := by decide +kernel
theorem d_Taste_land_9 : decode prog_11_method_5_code 9 = .ok (.arraylength, 1) := by decide +kernel
theorem d_Taste_land_10 : decode prog_11_method_5_code 10 = .ok (.if_icmp .ge 13, 3) := by decide +kernel
theorem d_Taste_land_13 : decode prog_11_method_5_code 13 = .ok (.aload_n 0, 1) := by decide +kernel
theorem d_Taste_land_14 : decode prog_11_method_5_code 14 = .ok (.getfield 11, 3) := by decide +kernel
theorem d_Taste_land_17 : decode prog_11_method_5_code 17 = .ok (.iload_n 1, 1) := by decide +kernel
theorem d_Taste_land_18 : decode prog_11_method_5_code 18 = .ok (.aload_n 0, 1) := by decide +kernel
theorem d_Taste_land_19 : decode prog_11_method_5_code 19 = .ok (.getfield 15, 3) := by decide +kernel
theorem d_Taste_land_22 : decode prog_11_method_5_code 22 = .ok (.iastore, 1) := by decide +kernel
theorem d_Taste_land_23 : decode prog_11_method_5_code 23 = .ok (.return_, 1) := by decide +kernel
def s_Taste_land_23 (t : Nat) (p0 : Int32) (σ : LH) : Option (LH) :=
  some σ
theorem b_Taste_land_23 {G : XG} {l : Launch} {p : Program} {e : Env} {R : Room} {s : State} {m : MethodId} {args : Array Value} {below : List Frame} {meth : Method} {c : Code} (C : XC G 1 570 p s m args c prog_11_method_5_code 2 R_Taste) (hr : meth.sig.returnType = none) (hk : meth.locks = false) {d : Nat} (hd : 1 ≤ d + 1) (hR : xroom R (d + 1)) {t : Nat} {p0 : Int32} (ht : t ∈ xTastes) {σ' : LH} {σ : LH} (h0 : s_Taste_land_23 t p0 σ = some σ') : XJ G 1 570 p l e R s m args below meth c 2 (XQ G 1 570 below args s none σ') 0 0 23 [] [] σ := by
  replace h0 := (show _ = _ from h0)
  unfold s_Taste_land_23 at h0
  exact x_vret C hr hk h0 d_Taste_land_23
def s_Taste_land (t : Nat) (p0 : Int32) (σ : LH) : Option (LH) :=
  if p0 < 0 then (
   s_Taste_land_23 t p0 σ)
  else (
   if 480 ≤ p0 then (
    s_Taste_land_23 t p0 σ)
   else (
    if ib p0 480 then (
    xl ((stI σ (t + 1) (Int32.toNatClampNeg p0) (σ.1 t 1)) : LH) fun σ4 =>
    s_Taste_land_23 t p0 σ4) else none))
theorem c_Taste_land {G : XG} {l : Launch} {d : Nat} (hd : 1 ≤ d) {t : Nat} {p0 : Int32} (ht : t ∈ xTastes) {σ σ' : LH} (h0 : s_Taste_land t p0 σ = some σ') : xM G 1 570 l y_Taste_land prog_11_method_5_code 2 none d [.ref (G.2.2.1 + t), .int p0] σ none σ' := by
  obtain ⟨d, rfl⟩ : ∃ q, d = q + 1 := ⟨d - 1, by omega⟩
  refine x_met R_Taste rfl (by decide +kernel) (Nat.le_of_ble_eq_true rfl) fun p e s m below meth c C hr hk hR => ?_
  refine x_lv (lv' := [(0, .ref (G.2.2.1 + t)), (1, .int p0)]) C [0, 1] rfl ?_
  generalize xrm (d + 1) = R at hR ⊢
  unfold s_Taste_land at h0
  refine x_iload_n C d_Taste_land_0 1 rfl ?_
  refine x_if_lt C 23 d_Taste_land_1 (by decide) (fun q1 => ?_) (fun q1 => ?_)
  · replace h0 := xit q1 h0
    exact x_lv C [] rfl (b_Taste_land_23 C hr hk hd hR ht h0)
  · replace h0 := xif q1 h0
    refine x_iload_n C d_Taste_land_4 1 rfl ?_
    refine x_aload_n C d_Taste_land_5 0 rfl ?_
    refine x_getR (y := 1) C fg_Taste_11 (ta_0 ht) rfl d_Taste_land_6 ?_
    refine x_ilen (v := 480) C (ta_1 ht) rfl d_Taste_land_9 ?_
    refine x_icmp_ge C 23 d_Taste_land_10 (by decide) (fun q2 => ?_) (fun q2 => ?_)
    · replace h0 := xit q2 h0
      exact x_lv C [] rfl (b_Taste_land_23 C hr hk hd hR ht h0)
    · replace h0 := xif q2 h0
      refine x_aload_n C d_Taste_land_13 0 rfl ?_
      refine x_getR (y := 1) C fg_Taste_11 (ta_0 ht) rfl d_Taste_land_14 ?_
      refine x_iload_n C d_Taste_land_17 1 rfl ?_
      refine x_aload_n C d_Taste_land_18 0 rfl ?_
      refine x_getI (y := 0) C fg_Taste_15 (ta_0 ht) rfl d_Taste_land_19 ?_
      obtain ⟨g3, h0⟩ := xgo h0
      refine x_iast C (ta_1 ht) (ib_in g3) d_Taste_land_22 ?_
      obtain ⟨σ4, eσ4, h0⟩ := xlet h0
      refine x_sig C eσ4 ?_
      exact x_lv C [] rfl (b_Taste_land_23 C hr hk hd hR ht h0)
-- LostPlaces$TasteReader.readClause(LLostPlaces$Taste;)Z
theorem d_TasteReader_readClause_0 : decode prog_12_method_3_code 0 = .ok (.aload_n 0, 1) := by decide +kernel
theorem d_TasteReader_readClause_1 : decode prog_12_method_3_code 1 = .ok (.getfield 18, 3) := by decide +kernel
theorem d_TasteReader_readClause_4 : decode prog_12_method_3_code 4 = .ok (.bipush 121, 2) := by decide +kernel
theorem d_TasteReader_readClause_6 : decode prog_12_method_3_code 6 = .ok (.invokevirtual 38, 3) := by decide +kernel
theorem d_TasteReader_readClause_9 : decode prog_12_method_3_code 9 = .ok (.aload_n 0, 1) := by decide +kernel
theorem d_TasteReader_readClause_10 : decode prog_12_method_3_code 10 = .ok (.getfield 18, 3) := by decide +kernel
theorem d_TasteReader_readClause_13 : decode prog_12_method_3_code 13 = .ok (.bipush 58, 2) := by decide +kernel
theorem d_TasteReader_readClause_15 : decode prog_12_method_3_code 15 = .ok (.invokevirtual 38, 3) := by decide +kernel
theorem d_TasteReader_readClause_18 : decode prog_12_method_3_code 18 = .ok (.iconst (-1), 1) := by decide +kernel
theorem d_TasteReader_readClause_19 : decode prog_12_method_3_code 19 = .ok (.istore_n 2, 1) := by decide +kernel
theorem d_TasteReader_readClause_20 : decode prog_12_method_3_code 20 = .ok (.aload_n 0, 1) := by decide +kernel
theorem d_TasteReader_readClause_21 : decode prog_12_method_3_code 21 = .ok (.getfield 18, 3) := by decide +kernel
theorem d_TasteReader_readClause_24 : decode prog_12_method_3_code 24 = .ok (.ldc 42, 2) := by decide +kernel
theorem d_TasteReader_readClause_26 : decode prog_12_method_3_code 26 = .ok (.invokevirtual 44, 3) := by decide +kernel
theorem d_TasteReader_readClause_29 : decode prog_12_method_3_code 29 = .ok (.iconst (-1), 1) := by decide +kernel
theorem d_TasteReader_readClause_30 : decode prog_12_method_3_code 30 = .ok (.if_icmp .ne 7, 3) := by decide +kernel
theorem d_TasteReader_readClause_33 : decode prog_12_method_3_code 33 = .ok (.iconst 1, 1) := by decide +kernel
theorem d_TasteReader_readClause_34 : decode prog_12_method_3_code 34 = .ok (.goto 4, 3) := by decide +kernel
theorem d_TasteReader_readClause_37 : decode prog_12_method_3_code 37 = .ok (.iconst 0, 1) := by decide +kernel
theorem d_TasteReader_readClause_38 : decode prog_12_method_3_code 38 = .ok (.istore_n 3, 1) := by decide +kernel
theorem d_TasteReader_readClause_39 : decode prog_12_method_3_code 39 = .ok (.iload_n 3, 1) := by decide +kernel
theorem d_TasteReader_readClause_40 : decode prog_12_method_3_code 40 = .ok (.ifCond .eq 8, 3) := by decide +kernel
theorem d_TasteReader_readClause_43 : decode prog_12_method_3_code 43 = .ok (.aload_n 0, 1) := by decide +kernel
theorem d_TasteReader_readClause_44 : decode prog_12_method_3_code 44 = .ok (.iconst 0, 1) := by decide +kernel
theorem d_TasteReader_readClause_45 : decode prog_12_method_3_code 45 = .ok (.invokevirtual 48, 3) := by decide +kernel
theorem d_TasteReader_readClause_48 : decode prog_12_method_3_code 48 = .ok (.aload_n 0, 1) := by decide +kernel
theorem d_TasteReader_readClause_49 : decode prog_12_method_3_code 49 = .ok (.getfield 18, 3) := by decide +kernel
theorem d_TasteReader_readClause_52 : decode prog_12_method_3_code 52 = .ok (.invokevirtual 52, 3) := by decide +kernel
theorem d_TasteReader_readClause_55 : decode prog_12_method_3_code 55 = .ok (.ifCond .eq 53, 3) := by decide +kernel
theorem d_TasteReader_readClause_58 : decode prog_12_method_3_code 58 = .ok (.iload_n 3, 1) := by decide +kernel
theorem d_TasteReader_readClause_59 : decode prog_12_method_3_code 59 = .ok (.ifCond .eq 16, 3) := by decide +kernel
theorem d_TasteReader_readClause_62 : decode prog_12_method_3_code 62 = .ok (.aload_n 0, 1) := by decide +kernel
theorem d_TasteReader_readClause_63 : decode prog_12_method_3_code 63 = .ok (.getfield 18, 3) := by decide +kernel
theorem d_TasteReader_readClause_66 : decode prog_12_method_3_code 66 = .ok (.ldc 56, 2) := by decide +kernel
theorem d_TasteReader_readClause_68 : decode prog_12_method_3_code 68 = .ok (.invokevirtual 44, 3) := by decide +kernel
theorem d_TasteReader_readClause_71 : decode prog_12_method_3_code 71 = .ok (.iconst (-1), 1) := by decide +kernel
theorem d_TasteReader_readClause_72 : decode prog_12_method_3_code 72 = .ok (.if_icmp .eq 36, 3) := by decide +kernel
theorem d_TasteReader_readClause_75 : decode prog_12_method_3_code 75 = .ok (.aload_n 0, 1) := by decide +kernel
theorem d_TasteReader_readClause_76 : decode prog_12_method_3_code 76 = .ok (.iload_n 3, 1) := by decide +kernel
theorem d_TasteReader_readClause_77 : decode prog_12_method_3_code 77 = .ok (.iconst 0, 1) := by decide +kernel
theorem d_TasteReader_readClause_78 : decode prog_12_method_3_code 78 = .ok (.invokevirtual 58, 3) := by decide +kernel
theorem d_TasteReader_readClause_81 : decode prog_12_method_3_code 81 = .ok (.aload_n 0, 1) := by decide +kernel
theorem d_TasteReader_readClause_82 : decode prog_12_method_3_code 82 = .ok (.getfield 18, 3) := by decide +kernel
theorem d_TasteReader_readClause_85 : decode prog_12_method_3_code 85 = .ok (.bipush 63, 2) := by decide +kernel
theorem d_TasteReader_readClause_87 : decode prog_12_method_3_code 87 = .ok (.invokevirtual 38, 3) := by decide +kernel
theorem d_TasteReader_readClause_90 : decode prog_12_method_3_code 90 = .ok (.aload_n 1, 1) := by decide +kernel
theorem d_TasteReader_readClause_91 : decode prog_12_method_3_code 91 = .ok (.bipush (-21), 2) := by decide +kernel
theorem d_TasteReader_readClause_93 : decode prog_12_method_3_code 93 = .ok (.invokevirtual 62, 3) := by decide +kernel
theorem d_TasteReader_readClause_96 : decode prog_12_method_3_code 96 = .ok (.pop, 1) := by decide +kernel
theorem d_TasteReader_readClause_97 : decode prog_12_method_3_code 97 = .ok (.aload_n 1, 1) := by decide +kernel
theorem d_TasteReader_readClause_98 : decode prog_12_method_3_code 98 = .ok (.iconst 0, 1) := by decide +kernel
theorem d_TasteReader_readClause_99 : decode prog_12_method_3_code 99 = .ok (.invokevirtual 62, 3) := by decide +kernel
theorem d_TasteReader_readClause_102 : decode prog_12_method_3_code 102 = .ok (.istore_n 2, 1) := by decide +kernel
theorem d_TasteReader_readClause_103 : decode prog_12_method_3_code 103 = .ok (.aload_n 0, 1) := by decide +kernel
theorem d_TasteReader_readClause_104 : decode prog_12_method_3_code 104 = .ok (.iconst 0, 1) := by decide +kernel
theorem d_TasteReader_readClause_105 : decode prog_12_method_3_code 105 = .ok (.invokevirtual 48, 3) := by decide +kernel
theorem d_TasteReader_readClause_108 : decode prog_12_method_3_code 108 = .ok (.aload_n 1, 1) := by decide +kernel
theorem d_TasteReader_readClause_109 : decode prog_12_method_3_code 109 = .ok (.bipush (-22), 2) := by decide +kernel
theorem d_TasteReader_readClause_111 : decode prog_12_method_3_code 111 = .ok (.invokevirtual 62, 3) := by decide +kernel
theorem d_TasteReader_readClause_114 : decode prog_12_method_3_code 114 = .ok (.pop, 1) := by decide +kernel
theorem d_TasteReader_readClause_115 : decode prog_12_method_3_code 115 = .ok (.aload_n 1, 1) := by decide +kernel
theorem d_TasteReader_readClause_116 : decode prog_12_method_3_code 116 = .ok (.iload_n 2, 1) := by decide +kernel
theorem d_TasteReader_readClause_117 : decode prog_12_method_3_code 117 = .ok (.invokevirtual 66, 3) := by decide +kernel
theorem d_TasteReader_readClause_120 : decode prog_12_method_3_code 120 = .ok (.aload_n 0, 1) := by decide +kernel
theorem d_TasteReader_readClause_121 : decode prog_12_method_3_code 121 = .ok (.getfield 18, 3) := by decide +kernel
theorem d_TasteReader_readClause_124 : decode prog_12_method_3_code 124 = .ok (.invokevirtual 69, 3) := by decide +kernel
theorem d_TasteReader_readClause_127 : decode prog_12_method_3_code 127 = .ok (.iconst (-1), 1) := by decide +kernel
theorem d_TasteReader_readClause_128 : decode prog_12_method_3_code 128 = .ok (.if_icmp .ne 5, 3) := by decide +kernel
theorem d_TasteReader_readClause_131 : decode prog_12_method_3_code 131 = .ok (.iconst 0, 1) := by decide +kernel
theorem d_TasteReader_readClause_132 : decode prog_12_method_3_code 132 = .ok (.ireturn, 1) := by decide +kernel
theorem d_TasteReader_readClause_133 : decode prog_12_method_3_code 133 = .ok (.aload_n 0, 1) := by decide +kernel
theorem d_TasteReader_readClause_134 : decode prog_12_method_3_code 134 = .ok (.getfield 18, 3) := by decide +kernel
theorem d_TasteReader_readClause_137 : decode prog_12_method_3_code 137 = .ok (.bipush 59, 2) := by decide +kernel
theorem d_TasteReader_readClause_139 : decode prog_12_method_3_code 139 = .ok (.invokevirtual 38, 3) := by decide +kernel
theorem d_TasteReader_readClause_142 : decode prog_12_method_3_code 142 = .ok (.aload_n 0, 1) := by decide +kernel
theorem d_TasteReader_readClause_143 : decode prog_12_method_3_code 143 = .ok (.getfield 18, 3) := by decide +kernel
theorem d_TasteReader_readClause_146 : decode prog_12_method_3_code 146 = .ok (.invokevirtual 52, 3) := by decide +kernel
theorem d_TasteReader_readClause_149 : decode prog_12_method_3_code 149 = .ok (.ireturn, 1) := by decide +kernel
def s_TasteReader_readClause_108 (p0 : Nat) (y2 : Int32) (σ : LH) : Option (Int32 × LH) :=
  xb2 (s_Taste_put p0 (-22) σ) fun r15 σ16 =>
  xb1 (s_Taste_land p0 y2 σ16) fun σ18 =>
  xb2 (s_Tape_sign σ18) fun r20 σ21 =>
  if r20 = (-1) then (
   some (0, σ21))
  else (
   xb1 (s_Tape_needs 59 σ21) fun σ24 =>
   xb2 (s_Tape_isFine σ24) fun r26 σ27 =>
   if zb r26 then (
   some (r26, σ27)) else none)
theorem b_TasteReader_readClause_108 {G : XG} {l : Launch} {p : Program} {e : Env} {R : Room} {s : State} {m : MethodId} {args : Array Value} {below : List Frame} {meth : Method} {c : Code} (C : XC G 1 570 p s m args c prog_12_method_3_code 4 R_TasteReader) (hr : meth.sig.returnType = (some .boolean)) (hk : meth.locks = false) {d : Nat} (hd : 112 ≤ d + 1) (hR : xroom R (d + 1)) {p0 : Nat} (hp0 : p0 ∈ xTastes) {σ' : LH} {r : Int32} {y2 : Int32} {σ : LH} (h0 : s_TasteReader_readClause_108 p0 y2 σ = some (r, σ')) : XJ G 1 570 p l e R s m args below meth c 4 (XQ G 1 570 below args s (some (.int r)) σ') 0 0 108 [(0, .ref (G.2.2.1 + 28)), (1, .ref (G.2.2.1 + p0)), (2, .int y2)] [] σ := by
  replace h0 := (show _ = _ from h0)
  unfold s_TasteReader_readClause_108 at h0
  refine x_aload_n C d_TasteReader_readClause_108 1 rfl ?_
  refine x_bipush (v := (-22)) C d_TasteReader_readClause_109 (by decide) ?_
  obtain ⟨r15, σ16, k14, h0⟩ := xbind2 h0
  refine x_callVi C hR (c_Taste_put (d := d) (by omega) hp0 k14) cw_TasteReader_62 (ta_0 hp0) rfl rfl rfl (Nat.le_of_ble_eq_true rfl) ⟨Nat.zero_le _, Nat.zero_le _⟩ d_TasteReader_readClause_111 ?_
  refine x_pop C d_TasteReader_readClause_114 rfl ?_
  refine x_aload_n C d_TasteReader_readClause_115 1 rfl ?_
  refine x_iload_n C d_TasteReader_readClause_116 2 rfl ?_
  obtain ⟨σ18, k17, h0⟩ := xbind1 h0
  refine x_callVv C hR (c_Taste_land (d := d) (by omega) hp0 k17) cw_TasteReader_66 (ta_0 hp0) rfl rfl rfl (Nat.le_of_ble_eq_true rfl) ⟨Nat.zero_le _, Nat.zero_le _⟩ d_TasteReader_readClause_117 ?_
  refine x_aload_n C d_TasteReader_readClause_120 0 rfl ?_
  refine x_getA (y := 2) C fg_TasteReader_18 k_28 rfl d_TasteReader_readClause_121 ?_
  obtain ⟨r20, σ21, k19, h0⟩ := xbind2 h0
  refine x_callVi C hR (c_Tape_sign (d := d) (by omega) k19) cw_TasteReader_69 k_2 rfl rfl rfl (Nat.le_of_ble_eq_true rfl) ⟨Nat.zero_le _, Nat.zero_le _⟩ d_TasteReader_readClause_124 ?_
  refine x_iconst (v := (-1)) C d_TasteReader_readClause_127 (by decide) ?_
  refine x_icmp_ne C 133 d_TasteReader_readClause_128 (by decide) (fun q22 => ?_) (fun q22 => ?_)
  · replace h0 := xif q22 h0
    refine x_aload_n C d_TasteReader_readClause_133 0 rfl ?_
    refine x_getA (y := 2) C fg_TasteReader_18 k_28 rfl d_TasteReader_readClause_134 ?_
    refine x_bipush (v := 59) C d_TasteReader_readClause_137 (by decide) ?_
    obtain ⟨σ24, k23, h0⟩ := xbind1 h0
    refine x_callVv C hR (c_Tape_needs (d := d) (by omega) k23) cw_TasteReader_38 k_2 rfl rfl rfl (Nat.le_of_ble_eq_true rfl) ⟨Nat.zero_le _, Nat.zero_le _⟩ d_TasteReader_readClause_139 ?_
    refine x_aload_n C d_TasteReader_readClause_142 0 rfl ?_
    refine x_getA (y := 2) C fg_TasteReader_18 k_28 rfl d_TasteReader_readClause_143 ?_
    obtain ⟨r26, σ27, k25, h0⟩ := xbind2 h0
    refine x_callVi C hR (c_Tape_isFine (d := d) (by omega) k25) cw_TasteReader_52 k_2 rfl rfl rfl (Nat.le_of_ble_eq_true rfl) ⟨Nat.zero_le _, Nat.zero_le _⟩ d_TasteReader_readClause_146 ?_
    obtain ⟨g28, h0⟩ := xgo h0
    exact x_zret C hr hk g28 h0 d_TasteReader_readClause_149
  · replace h0 := xit q22 h0
    refine x_iconst (v := 0) C d_TasteReader_readClause_131 (by decide) ?_
    exact x_zret C hr hk (by decide) h0 d_TasteReader_readClause_132
def s_TasteReader_readClause_75 (p0 : Nat) (y3 : Int32) (σ : LH) : Option (Int32 × LH) :=
  xb1 (s_TasteReader_condition (s_TasteReader_unit RF) y3 0 σ) fun σ31 =>
  xb1 (s_Tape_needs 63 σ31) fun σ33 =>
  xb2 (s_Taste_put p0 (-21) σ33) fun r35 σ36 =>
  xb2 (s_Taste_put p0 0 σ36) fun r38 σ39 =>
  xb1 (s_TasteReader_sum RF 0 σ39) fun σ41 =>
  s_TasteReader_readClause_108 p0 r38 σ41
theorem b_TasteReader_readClause_75 {G : XG} {l : Launch} {p : Program} {e : Env} {R : Room} {s : State} {m : MethodId} {args : Array Value} {below : List Frame} {meth : Method} {c : Code} (C : XC G 1 570 p s m args c prog_12_method_3_code 4 R_TasteReader) (hr : meth.sig.returnType = (some .boolean)) (hk : meth.locks = false) {d : Nat} (hd : 112 ≤ d + 1) (hR : xroom R (d + 1)) {p0 : Nat} (hp0 : p0 ∈ xTastes) {σ' : LH} {r : Int32} {y3 : Int32} {σ : LH} (h0 : s_TasteReader_readClause_75 p0 y3 σ = some (r, σ')) : XJ G 1 570 p l e R s m args below meth c 4 (XQ G 1 570 below args s (some (.int r)) σ') 0 0 75 [(0, .ref (G.2.2.1 + 28)), (1, .ref (G.2.2.1 + p0)), (3, .int y3)] [] σ := by
  replace h0 := (show _ = _ from h0)
  unfold s_TasteReader_readClause_75 at h0
  refine x_aload_n C d_TasteReader_readClause_75 0 rfl ?_
  refine x_iload_n C d_TasteReader_readClause_76 2 rfl ?_
  refine x_iconst (v := 0) C d_TasteReader_readClause_77 (by decide) ?_
  obtain ⟨σ31, k30, h0⟩ := xbind1 h0
  refine x_callVv C hR (c_TasteReader_condition (h_TasteReader_unit) (d := d) (by omega) (by omega) k30) cw_TasteReader_58 k_28 rfl rfl rfl (Nat.le_of_ble_eq_true rfl) ⟨Nat.zero_le _, Nat.zero_le _⟩ d_TasteReader_readClause_78 ?_
  refine x_aload_n C d_TasteReader_readClause_81 0 rfl ?_
  refine x_getA (y := 2) C fg_TasteReader_18 k_28 rfl d_TasteReader_readClause_82 ?_
  refine x_bipush (v := 63) C d_TasteReader_readClause_85 (by decide) ?_
  obtain ⟨σ33, k32, h0⟩ := xbind1 h0
  refine x_callVv C hR (c_Tape_needs (d := d) (by omega) k32) cw_TasteReader_38 k_2 rfl rfl rfl (Nat.le_of_ble_eq_true rfl) ⟨Nat.zero_le _, Nat.zero_le _⟩ d_TasteReader_readClause_87 ?_
  refine x_aload_n C d_TasteReader_readClause_90 1 rfl ?_
  refine x_bipush (v := (-21)) C d_TasteReader_readClause_91 (by decide) ?_
  obtain ⟨r35, σ36, k34, h0⟩ := xbind2 h0
  refine x_callVi C hR (c_Taste_put (d := d) (by omega) hp0 k34) cw_TasteReader_62 (ta_0 hp0) rfl rfl rfl (Nat.le_of_ble_eq_true rfl) ⟨Nat.zero_le _, Nat.zero_le _⟩ d_TasteReader_readClause_93 ?_
  refine x_pop C d_TasteReader_readClause_96 rfl ?_
  refine x_aload_n C d_TasteReader_readClause_97 1 rfl ?_
  refine x_iconst (v := 0) C d_TasteReader_readClause_98 (by decide) ?_
  obtain ⟨r38, σ39, k37, h0⟩ := xbind2 h0
  refine x_callVi C hR (c_Taste_put (d := d) (by omega) hp0 k37) cw_TasteReader_62 (ta_0 hp0) rfl rfl rfl (Nat.le_of_ble_eq_true rfl) ⟨Nat.zero_le _, Nat.zero_le _⟩ d_TasteReader_readClause_99 ?_
  refine x_istore_n (lv' := [(2, .int r38), (0, .ref (G.2.2.1 + 28)), (1, .ref (G.2.2.1 + p0)), (3, .int y3)]) C d_TasteReader_readClause_102 rfl (by decide) rfl ?_
  refine x_aload_n C d_TasteReader_readClause_103 1 rfl ?_
  refine x_iconst (v := 0) C d_TasteReader_readClause_104 (by decide) ?_
  obtain ⟨σ41, k40, h0⟩ := xbind1 h0
  refine x_callVv C hR (c_TasteReader_sum (d := d) (by omega) k40) cw_TasteReader_48 k_28 rfl rfl rfl (Nat.le_of_ble_eq_true rfl) ⟨Nat.zero_le _, Nat.zero_le _⟩ d_TasteReader_readClause_105 ?_
  exact x_lv C [1, 2, 0] rfl (b_TasteReader_readClause_108 C hr hk hd hR hp0 h0)
def s_TasteReader_readClause_48 (p0 : Nat) (y2 : Int32) (y3 : Int32) (σ : LH) : Option (Int32 × LH) :=
  xb2 (s_Tape_isFine σ) fun r11 σ12 =>
  if r11 = 0 then (
   s_TasteReader_readClause_108 p0 y2 σ12)
  else (
   if y3 = 0 then (
    s_TasteReader_readClause_75 p0 y3 σ12)
   else (
    xb2 (s_Tape_letter 7 σ12) fun r43 σ44 =>
    if r43 = (-1) then (
     s_TasteReader_readClause_108 p0 y2 σ44)
    else (
     s_TasteReader_readClause_75 p0 y3 σ44)))
theorem b_TasteReader_readClause_48 {G : XG} {l : Launch} {p : Program} {e : Env} {R : Room} {s : State} {m : MethodId} {args : Array Value} {below : List Frame} {meth : Method} {c : Code} (C : XC G 1 570 p s m args c prog_12_method_3_code 4 R_TasteReader) (hr : meth.sig.returnType = (some .boolean)) (hk : meth.locks = false) {d : Nat} (hd : 112 ≤ d + 1) (hR : xroom R (d + 1)) {p0 : Nat} (hp0 : p0 ∈ xTastes) {σ' : LH} {r : Int32} {y2 : Int32} {y3 : Int32} {σ : LH} (h0 : s_TasteReader_readClause_48 p0 y2 y3 σ = some (r, σ')) : XJ G 1 570 p l e R s m args below meth c 4 (XQ G 1 570 below args s (some (.int r)) σ') 0 0 48 [(0, .ref (G.2.2.1 + 28)), (1, .ref (G.2.2.1 + p0)), (2, .int y2), (3, .int y3)] [] σ := by
  replace h0 := (show _ = _ from h0)
  unfold s_TasteReader_readClause_48 at h0
  refine x_aload_n C d_TasteReader_readClause_48 0 rfl ?_
  refine x_getA (y := 2) C fg_TasteReader_18 k_28 rfl d_TasteReader_readClause_49 ?_
  obtain ⟨r11, σ12, k10, h0⟩ := xbind2 h0
  refine x_callVi C hR (c_Tape_isFine (d := d) (by omega) k10) cw_TasteReader_52 k_2 rfl rfl rfl (Nat.le_of_ble_eq_true rfl) ⟨Nat.zero_le _, Nat.zero_le _⟩ d_TasteReader_readClause_52 ?_
  refine x_if_eq C 108 d_TasteReader_readClause_55 (by decide) (fun q13 => ?_) (fun q13 => ?_)
  · replace h0 := xit q13 h0
    exact x_lv C [0, 1, 2] rfl (b_TasteReader_readClause_108 C hr hk hd hR hp0 h0)
  · replace h0 := xif q13 h0
    refine x_iload_n C d_TasteReader_readClause_58 3 rfl ?_
    refine x_if_eq C 75 d_TasteReader_readClause_59 (by decide) (fun q29 => ?_) (fun q29 => ?_)
    · replace h0 := xit q29 h0
      exact x_lv C [0, 1, 3] rfl (b_TasteReader_readClause_75 C hr hk hd hR hp0 h0)
    · replace h0 := xif q29 h0
      refine x_aload_n C d_TasteReader_readClause_62 0 rfl ?_
      refine x_getA (y := 2) C fg_TasteReader_18 k_28 rfl d_TasteReader_readClause_63 ?_
      refine x_ldcS (index := 56) (i := 7) C (by decide +kernel) d_TasteReader_readClause_66 ?_
      obtain ⟨r43, σ44, k42, h0⟩ := xbind2 h0
      refine x_callVi C hR (c_Tape_letter (d := d) (by omega) (by decide) k42) cw_TasteReader_44 k_2 rfl rfl rfl (Nat.le_of_ble_eq_true rfl) ⟨Nat.zero_le _, Nat.zero_le _⟩ d_TasteReader_readClause_68 ?_
      refine x_iconst (v := (-1)) C d_TasteReader_readClause_71 (by decide) ?_
      refine x_icmp_eq C 108 d_TasteReader_readClause_72 (by decide) (fun q45 => ?_) (fun q45 => ?_)
      · replace h0 := xit q45 h0
        exact x_lv C [0, 1, 2] rfl (b_TasteReader_readClause_108 C hr hk hd hR hp0 h0)
      · replace h0 := xif q45 h0
        exact x_lv C [0, 1, 3] rfl (b_TasteReader_readClause_75 C hr hk hd hR hp0 h0)
def s_TasteReader_readClause_38 (p0 : Nat) (y2 : Int32) (z0 : Int32) (σ : LH) : Option (Int32 × LH) :=
  if z0 = 0 then (
   s_TasteReader_readClause_48 p0 y2 z0 σ)
  else (
   xb1 (s_TasteReader_sum RF 0 σ) fun σ47 =>
   s_TasteReader_readClause_48 p0 y2 z0 σ47)
theorem b_TasteReader_readClause_38 {G : XG} {l : Launch} {p : Program} {e : Env} {R : Room} {s : State} {m : MethodId} {args : Array Value} {below : List Frame} {meth : Method} {c : Code} (C : XC G 1 570 p s m args c prog_12_method_3_code 4 R_TasteReader) (hr : meth.sig.returnType = (some .boolean)) (hk : meth.locks = false) {d : Nat} (hd : 112 ≤ d + 1) (hR : xroom R (d + 1)) {p0 : Nat} (hp0 : p0 ∈ xTastes) {σ' : LH} {r : Int32} {y2 : Int32} {z0 : Int32} {σ : LH} (h0 : s_TasteReader_readClause_38 p0 y2 z0 σ = some (r, σ')) : XJ G 1 570 p l e R s m args below meth c 4 (XQ G 1 570 below args s (some (.int r)) σ') 0 0 38 [(0, .ref (G.2.2.1 + 28)), (1, .ref (G.2.2.1 + p0)), (2, .int y2)] [.int z0] σ := by
  replace h0 := (show _ = _ from h0)
  unfold s_TasteReader_readClause_38 at h0
  refine x_istore_n (lv' := [(3, .int z0), (0, .ref (G.2.2.1 + 28)), (1, .ref (G.2.2.1 + p0)), (2, .int y2)]) C d_TasteReader_readClause_38 rfl (by decide) rfl ?_
  refine x_iload_n C d_TasteReader_readClause_39 0 rfl ?_
  refine x_if_eq C 48 d_TasteReader_readClause_40 (by decide) (fun q9 => ?_) (fun q9 => ?_)
  · replace h0 := xit q9 h0
    exact x_lv C [1, 2, 3, 0] rfl (b_TasteReader_readClause_48 C hr hk hd hR hp0 h0)
  · replace h0 := xif q9 h0
    refine x_aload_n C d_TasteReader_readClause_43 1 rfl ?_
    refine x_iconst (v := 0) C d_TasteReader_readClause_44 (by decide) ?_
    obtain ⟨σ47, k46, h0⟩ := xbind1 h0
    refine x_callVv C hR (c_TasteReader_sum (d := d) (by omega) k46) cw_TasteReader_48 k_28 rfl rfl rfl (Nat.le_of_ble_eq_true rfl) ⟨Nat.zero_le _, Nat.zero_le _⟩ d_TasteReader_readClause_45 ?_
    exact x_lv C [1, 2, 3, 0] rfl (b_TasteReader_readClause_48 C hr hk hd hR hp0 h0)
def s_TasteReader_readClause (p0 : Nat) (σ : LH) : Option (Int32 × LH) :=
  xb1 (s_Tape_needs 121 σ) fun σ2 =>
  xb1 (s_Tape_needs 58 σ2) fun σ4 =>
  xb2 (s_Tape_letter 6 σ4) fun r6 σ7 =>
  if r6 = (-1) then (
   s_TasteReader_readClause_38 p0 (-1) 1 σ7)
  else (
   s_TasteReader_readClause_38 p0 (-1) 0 σ7)
theorem c_TasteReader_readClause {G : XG} {l : Launch} {d : Nat} (hd : 112 ≤ d) {p0 : Nat} (hp0 : p0 ∈ xTastes) {σ σ' : LH} {r : Int32} (h0 : s_TasteReader_readClause p0 σ = some (r, σ')) : xM G 1 570 l y_TasteReader_readClause prog_12_method_3_code 4 (some .boolean) d [.ref (G.2.2.1 + 28), .ref (G.2.2.1 + p0)] σ (some (.int r)) σ' := by
  obtain ⟨d, rfl⟩ : ∃ q, d = q + 1 := ⟨d - 1, by omega⟩
  refine x_met R_TasteReader rfl (by decide +kernel) (Nat.le_of_ble_eq_true rfl) fun p e s m below meth c C hr hk hR => ?_
  refine x_lv (lv' := [(0, .ref (G.2.2.1 + 28)), (1, .ref (G.2.2.1 + p0))]) C [0, 1] rfl ?_
  generalize xrm (d + 1) = R at hR ⊢
  unfold s_TasteReader_readClause at h0
  refine x_aload_n C d_TasteReader_readClause_0 0 rfl ?_
  refine x_getA (y := 2) C fg_TasteReader_18 k_28 rfl d_TasteReader_readClause_1 ?_
  refine x_bipush (v := 121) C d_TasteReader_readClause_4 (by decide) ?_
  obtain ⟨σ2, k1, h0⟩ := xbind1 h0
  refine x_callVv C hR (c_Tape_needs (d := d) (by omega) k1) cw_TasteReader_38 k_2 rfl rfl rfl (Nat.le_of_ble_eq_true rfl) ⟨Nat.zero_le _, Nat.zero_le _⟩ d_TasteReader_readClause_6 ?_
  refine x_aload_n C d_TasteReader_readClause_9 0 rfl ?_
  refine x_getA (y := 2) C fg_TasteReader_18 k_28 rfl d_TasteReader_readClause_10 ?_
  refine x_bipush (v := 58) C d_TasteReader_readClause_13 (by decide) ?_
  obtain ⟨σ4, k3, h0⟩ := xbind1 h0
  refine x_callVv C hR (c_Tape_needs (d := d) (by omega) k3) cw_TasteReader_38 k_2 rfl rfl rfl (Nat.le_of_ble_eq_true rfl) ⟨Nat.zero_le _, Nat.zero_le _⟩ d_TasteReader_readClause_15 ?_
  refine x_iconst (v := (-1)) C d_TasteReader_readClause_18 (by decide) ?_
  refine x_istore_n (lv' := [(2, .int (-1)), (0, .ref (G.2.2.1 + 28)), (1, .ref (G.2.2.1 + p0))]) C d_TasteReader_readClause_19 rfl (by decide) rfl ?_
  refine x_aload_n C d_TasteReader_readClause_20 1 rfl ?_
  refine x_getA (y := 2) C fg_TasteReader_18 k_28 rfl d_TasteReader_readClause_21 ?_
  refine x_ldcS (index := 42) (i := 6) C (by decide +kernel) d_TasteReader_readClause_24 ?_
  obtain ⟨r6, σ7, k5, h0⟩ := xbind2 h0
  refine x_callVi C hR (c_Tape_letter (d := d) (by omega) (by decide) k5) cw_TasteReader_44 k_2 rfl rfl rfl (Nat.le_of_ble_eq_true rfl) ⟨Nat.zero_le _, Nat.zero_le _⟩ d_TasteReader_readClause_26 ?_
  refine x_iconst (v := (-1)) C d_TasteReader_readClause_29 (by decide) ?_
  refine x_icmp_ne C 37 d_TasteReader_readClause_30 (by decide) (fun q8 => ?_) (fun q8 => ?_)
  · replace h0 := xif q8 h0
    refine x_iconst (v := 0) C d_TasteReader_readClause_37 (by decide) ?_
    exact x_lv C [1, 2, 0] rfl (b_TasteReader_readClause_38 C hr hk hd hR hp0 h0)
  · replace h0 := xit q8 h0
    refine x_iconst (v := 1) C d_TasteReader_readClause_33 (by decide) ?_
    refine x_goto C 38 d_TasteReader_readClause_34 (by decide) ?_
    exact x_lv C [1, 2, 0] rfl (b_TasteReader_readClause_38 C hr hk hd hR hp0 h0)
-- LostPlaces$TasteReader.read(LLostPlaces$Taste;)I
theorem d_TasteReader_read_0 : decode prog_12_method_2_code 0 = .ok (.aload_n 0, 1) := by decide +kernel
theorem d_TasteReader_read_1 : decode prog_12_method_2_code 1 = .ok (.getfield 18, 3) := by decide +kernel
theorem d_TasteReader_read_4 : decode prog_12_method_2_code 4 = .ok (.invokevirtual 22, 3) := by decide +kernel
theorem d_TasteReader_read_7 : decode prog_12_method_2_code 7 = .ok (.aload_n 1, 1) := by decide +kernel
theorem d_TasteReader_read_8 : decode prog_12_method_2_code 8 = .ok (.invokevirtual 27, 3) := by decide +kernel
theorem d_TasteReader_read_11 : decode prog_12_method_2_code 11 = .ok (.aload_n 0, 1) := by decide +kernel
theorem d_TasteReader_read_12 : decode prog_12_method_2_code 12 = .ok (.aload_n 1, 1) := by decide +kernel
theorem d_TasteReader_read_13 : decode prog_12_method_2_code 13 = .ok (.putfield 12, 3) := by decide +kernel
theorem d_TasteReader_read_16 : decode prog_12_method_2_code 16 = .ok (.iconst 1, 1) := by decide +kernel
theorem d_TasteReader_read_17 : decode prog_12_method_2_code 17 = .ok (.istore_n 2, 1) := by decide +kernel
theorem d_TasteReader_read_18 : decode prog_12_method_2_code 18 = .ok (.iconst 0, 1) := by decide +kernel
theorem d_TasteReader_read_19 : decode prog_12_method_2_code 19 = .ok (.istore_n 3, 1) := by decide +kernel
theorem d_TasteReader_read_20 : decode prog_12_method_2_code 20 = .ok (.iload_n 2, 1) := by decide +kernel
theorem d_TasteReader_read_21 : decode prog_12_method_2_code 21 = .ok (.ifCond .eq 22, 3) := by decide +kernel
theorem d_TasteReader_read_24 : decode prog_12_method_2_code 24 = .ok (.iload_n 3, 1) := by decide +kernel
theorem d_TasteReader_read_25 : decode prog_12_method_2_code 25 = .ok (.sipush 240, 3) := by decide +kernel
theorem d_TasteReader_read_28 : decode prog_12_method_2_code 28 = .ok (.if_icmp .ge 15, 3) := by decide +kernel
theorem d_TasteReader_read_31 : decode prog_12_method_2_code 31 = .ok (.aload_n 0, 1) := by decide +kernel
theorem d_TasteReader_read_32 : decode prog_12_method_2_code 32 = .ok (.aload_n 1, 1) := by decide +kernel
theorem d_TasteReader_read_33 : decode prog_12_method_2_code 33 = .ok (.invokevirtual 30, 3) := by decide +kernel
theorem d_TasteReader_read_36 : decode prog_12_method_2_code 36 = .ok (.istore_n 2, 1) := by decide +kernel
theorem d_TasteReader_read_37 : decode prog_12_method_2_code 37 = .ok (.iinc 3 1, 3) := by decide +kernel
theorem d_TasteReader_read_40 : decode prog_12_method_2_code 40 = .ok (.goto (-20), 3) := by decide +kernel
theorem d_TasteReader_read_43 : decode prog_12_method_2_code 43 = .ok (.aload_n 0, 1) := by decide +kernel
theorem d_TasteReader_read_44 : decode prog_12_method_2_code 44 = .ok (.getfield 18, 3) := by decide +kernel
theorem d_TasteReader_read_47 : decode prog_12_method_2_code 47 = .ok (.getfield 34, 3) := by decide +kernel
theorem d_TasteReader_read_50 : decode prog_12_method_2_code 50 = .ok (.ireturn, 1) := by decide +kernel
def s_TasteReader_read_43 (p0 : Nat) (σ : LH) : Option (Int32 × LH) :=
  some ((σ.1 2 3), σ)
theorem b_TasteReader_read_43 {G : XG} {l : Launch} {p : Program} {e : Env} {R : Room} {s : State} {m : MethodId} {args : Array Value} {below : List Frame} {meth : Method} {c : Code} (C : XC G 1 570 p s m args c prog_12_method_2_code 4 R_TasteReader) (hr : meth.sig.returnType = (some .int)) (hk : meth.locks = false) {d : Nat} (hd : 113 ≤ d + 1) (hR : xroom R (d + 1)) {p0 : Nat} (hp0 : p0 ∈ xTastes) {σ' : LH} {r : Int32} {σ : LH} (h0 : s_TasteReader_read_43 p0 σ = some (r, σ')) : XJ G 1 570 p l e R s m args below meth c 4 (XQ G 1 570 below args s (some (.int r)) σ') 0 0 43 [(0, .ref (G.2.2.1 + 28))] [] σ := by
  replace h0 := (show _ = _ from h0)
  unfold s_TasteReader_read_43 at h0
  refine x_aload_n C d_TasteReader_read_43 0 rfl ?_
  refine x_getA (y := 2) C fg_TasteReader_18 k_28 rfl d_TasteReader_read_44 ?_
  refine x_getI (y := 0) C fg_TasteReader_34 k_2 rfl d_TasteReader_read_47 ?_
  exact x_iret C hr hk h0 d_TasteReader_read_50
def s_TasteReader_read_20_b (p0 : Nat) (rec20 : Int32 → Int32 → LH → Option (Int32 × LH)) (y2 : Int32) (y3 : Int32) (σ : LH) : Option (Int32 × LH) :=
  if y2 = 0 then (
   s_TasteReader_read_43 p0 σ)
  else (
   if 240 ≤ y3 then (
    s_TasteReader_read_43 p0 σ)
   else (
    xb2 (s_TasteReader_readClause p0 σ) fun r9 σ10 =>
    xl ((y3 + 1) : Int32) fun x11 =>
    rec20 r9 x11 σ10))
def s_TasteReader_read_20 (p0 : Nat) : Nat → Int32 → Int32 → LH → Option (Int32 × LH)
  | 0, _, _, _ => none
  | n + 1, y2, y3, σ => s_TasteReader_read_20_b p0 (s_TasteReader_read_20 p0 n) y2 y3 σ
theorem bb_TasteReader_read_20 {G : XG} {l : Launch} {p : Program} {e : Env} {R : Room} {s : State} {m : MethodId} {args : Array Value} {below : List Frame} {meth : Method} {c : Code} (C : XC G 1 570 p s m args c prog_12_method_2_code 4 R_TasteReader) (hr : meth.sig.returnType = (some .int)) (hk : meth.locks = false) {d : Nat} (hd : 113 ≤ d + 1) (hR : xroom R (d + 1)) {p0 : Nat} (hp0 : p0 ∈ xTastes) {rec20 : Int32 → Int32 → LH → Option (Int32 × LH)} {σ' : LH} {r : Int32} (hrec20 : ∀ (y2 : Int32) (y3 : Int32) (σ : LH), rec20 y2 y3 σ = some (r, σ') → XJ G 1 570 p l e R s m args below meth c 4 (XQ G 1 570 below args s (some (.int r)) σ') 0 0 20 [(0, .ref (G.2.2.1 + 28)), (1, .ref (G.2.2.1 + p0)), (2, .int y2), (3, .int y3)] [] σ) {y2 : Int32} {y3 : Int32} {σ : LH} (h0 : s_TasteReader_read_20_b p0 rec20 y2 y3 σ = some (r, σ')) : XJ G 1 570 p l e R s m args below meth c 4 (XQ G 1 570 below args s (some (.int r)) σ') 0 0 20 [(0, .ref (G.2.2.1 + 28)), (1, .ref (G.2.2.1 + p0)), (2, .int y2), (3, .int y3)] [] σ := by
  replace h0 := (show _ = _ from h0)
  unfold s_TasteReader_read_20_b at h0
  refine x_iload_n C d_TasteReader_read_20 2 rfl ?_
  refine x_if_eq C 43 d_TasteReader_read_21 (by decide) (fun q6 => ?_) (fun q6 => ?_)
  · replace h0 := xit q6 h0
    exact x_lv C [0] rfl (b_TasteReader_read_43 C hr hk hd hR hp0 h0)
  · replace h0 := xif q6 h0
    refine x_iload_n C d_TasteReader_read_24 3 rfl ?_
    refine x_sipush (v := 240) C d_TasteReader_read_25 (by decide) ?_
    refine x_icmp_ge C 43 d_TasteReader_read_28 (by decide) (fun q7 => ?_) (fun q7 => ?_)
    · replace h0 := xit q7 h0
      exact x_lv C [0] rfl (b_TasteReader_read_43 C hr hk hd hR hp0 h0)
    · replace h0 := xif q7 h0
      refine x_aload_n C d_TasteReader_read_31 0 rfl ?_
      refine x_aload_n C d_TasteReader_read_32 1 rfl ?_
      obtain ⟨r9, σ10, k8, h0⟩ := xbind2 h0
      refine x_callVi C hR (c_TasteReader_readClause (d := d) (by omega) hp0 k8) cw_TasteReader_30 k_28 rfl rfl rfl (Nat.le_of_ble_eq_true rfl) ⟨Nat.zero_le _, Nat.zero_le _⟩ d_TasteReader_read_33 ?_
      refine x_istore_n (lv' := [(2, .int r9), (0, .ref (G.2.2.1 + 28)), (1, .ref (G.2.2.1 + p0)), (3, .int y3)]) C d_TasteReader_read_36 rfl (by decide) rfl ?_
      obtain ⟨x11, ex11, h0⟩ := xlet h0
      refine x_iinc (lv' := [(3, .int x11), (2, .int r9), (0, .ref (G.2.2.1 + 28)), (1, .ref (G.2.2.1 + p0))]) C d_TasteReader_read_37 3 rfl ex11 (by decide) rfl ?_
      refine x_goto C 20 d_TasteReader_read_40 (by decide) ?_
      exact x_lv C [2, 3, 1, 0] rfl (hrec20 _ _ _ h0)
theorem b_TasteReader_read_20 {G : XG} {l : Launch} {p : Program} {e : Env} {R : Room} {s : State} {m : MethodId} {args : Array Value} {below : List Frame} {meth : Method} {c : Code} (C : XC G 1 570 p s m args c prog_12_method_2_code 4 R_TasteReader) (hr : meth.sig.returnType = (some .int)) (hk : meth.locks = false) {d : Nat} (hd : 113 ≤ d + 1) (hR : xroom R (d + 1)) {p0 : Nat} (hp0 : p0 ∈ xTastes) {σ' : LH} {r : Int32} : ∀ (n : Nat) (y2 : Int32) (y3 : Int32) (σ : LH), s_TasteReader_read_20 p0 n y2 y3 σ = some (r, σ') → XJ G 1 570 p l e R s m args below meth c 4 (XQ G 1 570 below args s (some (.int r)) σ') 0 0 20 [(0, .ref (G.2.2.1 + 28)), (1, .ref (G.2.2.1 + p0)), (2, .int y2), (3, .int y3)] [] σ := by
  intro n
  induction n with
  | zero => intro y2 y3 σ h0; cases h0
  | succ n ih => intro y2 y3 σ h0; exact bb_TasteReader_read_20 C hr hk hd hR hp0 ih h0
def s_TasteReader_read (p0 : Nat) (σ : LH) : Option (Int32 × LH) :=
  xb1 (s_Tape_rewind σ) fun σ2 =>
  xb1 (s_Taste_clear p0 σ2) fun σ4 =>
  xl ((stT σ4 p0) : LH) fun σ5 =>
  s_TasteReader_read_20 p0 FUEL 1 0 σ5
theorem c_TasteReader_read {G : XG} {l : Launch} {d : Nat} (hd : 113 ≤ d) {p0 : Nat} (hp0 : p0 ∈ xTastes) {σ σ' : LH} {r : Int32} (h0 : s_TasteReader_read p0 σ = some (r, σ')) : xM G 1 570 l y_TasteReader_read prog_12_method_2_code 4 (some .int) d [.ref (G.2.2.1 + 28), .ref (G.2.2.1 + p0)] σ (some (.int r)) σ' := by
  obtain ⟨d, rfl⟩ : ∃ q, d = q + 1 := ⟨d - 1, by omega⟩
  refine x_met R_TasteReader rfl (by decide +kernel) (Nat.le_of_ble_eq_true rfl) fun p e s m below meth c C hr hk hR => ?_
  refine x_lv (lv' := [(0, .ref (G.2.2.1 + 28)), (1, .ref (G.2.2.1 + p0))]) C [0, 1] rfl ?_
  generalize xrm (d + 1) = R at hR ⊢
  unfold s_TasteReader_read at h0
  refine x_aload_n C d_TasteReader_read_0 0 rfl ?_
  refine x_getA (y := 2) C fg_TasteReader_18 k_28 rfl d_TasteReader_read_1 ?_
  obtain ⟨σ2, k1, h0⟩ := xbind1 h0
  refine x_callVv C hR (c_Tape_rewind (d := d) (by omega) k1) cw_TasteReader_22 k_2 rfl rfl rfl (Nat.le_of_ble_eq_true rfl) ⟨Nat.zero_le _, Nat.zero_le _⟩ d_TasteReader_read_4 ?_
  refine x_aload_n C d_TasteReader_read_7 1 rfl ?_
  obtain ⟨σ4, k3, h0⟩ := xbind1 h0
  refine x_callVv C hR (c_Taste_clear (d := d) (by omega) hp0 k3) cw_TasteReader_27 (ta_0 hp0) rfl rfl rfl (Nat.le_of_ble_eq_true rfl) ⟨Nat.zero_le _, Nat.zero_le _⟩ d_TasteReader_read_8 ?_
  refine x_aload_n C d_TasteReader_read_11 0 rfl ?_
  refine x_aload_n C d_TasteReader_read_12 1 rfl ?_
  refine x_putT C fp_TasteReader_12 hp0 d_TasteReader_read_13 ?_
  obtain ⟨σ5, eσ5, h0⟩ := xlet h0
  refine x_sig C eσ5 ?_
  refine x_iconst (v := 1) C d_TasteReader_read_16 (by decide) ?_
  refine x_istore_n (lv' := [(2, .int 1), (0, .ref (G.2.2.1 + 28)), (1, .ref (G.2.2.1 + p0))]) C d_TasteReader_read_17 rfl (by decide) rfl ?_
  refine x_iconst (v := 0) C d_TasteReader_read_18 (by decide) ?_
  refine x_istore_n (lv' := [(3, .int 0), (2, .int 1), (0, .ref (G.2.2.1 + 28)), (1, .ref (G.2.2.1 + p0))]) C d_TasteReader_read_19 rfl (by decide) rfl ?_
  exact x_lv C [2, 3, 1, 0] rfl (b_TasteReader_read_20 C hr hk hd hR hp0 FUEL _ _ _ h0)
-- LostPlaces.fault(I)I
theorem d_Main_fault_0 : decode prog_1_method_4_code 0 = .ok (.iload_n 1, 1) := by decide +kernel
theorem d_Main_fault_1 : decode prog_1_method_4_code 1 = .ok (.ifCond .ne 15, 3) := by decide +kernel
theorem d_Main_fault_4 : decode prog_1_method_4_code 4 = .ok (.aload_n 0, 1) := by decide +kernel
theorem d_Main_fault_5 : decode prog_1_method_4_code 5 = .ok (.getfield 31, 3) := by decide +kernel
theorem d_Main_fault_8 : decode prog_1_method_4_code 8 = .ok (.aload_n 0, 1) := by decide +kernel
theorem d_Main_fault_9 : decode prog_1_method_4_code 9 = .ok (.getfield 23, 3) := by decide +kernel
theorem d_Main_fault_12 : decode prog_1_method_4_code 12 = .ok (.invokevirtual 133, 3) := by decide +kernel
theorem d_Main_fault_15 : decode prog_1_method_4_code 15 = .ok (.ireturn, 1) := by decide +kernel
theorem d_Main_fault_16 : decode prog_1_method_4_code 16 = .ok (.iload_n 1, 1) := by decide +kernel
theorem d_Main_fault_17 : decode prog_1_method_4_code 17 = .ok (.iconst 1, 1) := by decide +kernel
theorem d_Main_fault_18 : decode prog_1_method_4_code 18 = .ok (.if_icmp .ne 15, 3) := by decide +kernel
theorem d_Main_fault_21 : decode prog_1_method_4_code 21 = .ok (.aload_n 0, 1) := by decide +kernel
theorem d_Main_fault_22 : decode prog_1_method_4_code 22 = .ok (.getfield 38, 3) := by decide +kernel
theorem d_Main_fault_25 : decode prog_1_method_4_code 25 = .ok (.aload_n 0, 1) := by decide +kernel
theorem d_Main_fault_26 : decode prog_1_method_4_code 26 = .ok (.invokevirtual 137, 3) := by decide +kernel
theorem d_Main_fault_29 : decode prog_1_method_4_code 29 = .ok (.invokevirtual 141, 3) := by decide +kernel
theorem d_Main_fault_32 : decode prog_1_method_4_code 32 = .ok (.ireturn, 1) := by decide +kernel
theorem d_Main_fault_33 : decode prog_1_method_4_code 33 = .ok (.bipush (-2), 2) := by decide +kernel
theorem d_Main_fault_35 : decode prog_1_method_4_code 35 = .ok (.ireturn, 1) := by decide +kernel
def s_Main_fault (p0 : Int32) (σ : LH) : Option (Int32 × LH) :=
  if p0 = 0 then (
   xb2 (s_RoomReader_read 15 σ) fun r3 σ4 =>
   some (r3, σ4))
  else (
   if p0 = 1 then (
    xb2 (s_Main_nextTaste σ) fun r7 σ8 =>
    xb2 (s_TasteReader_read r7 σ8) fun r10 σ11 =>
    some (r10, σ11))
   else (
    some ((-2), σ)))
theorem c_Main_fault {G : XG} {l : Launch} {d : Nat} (hd : 114 ≤ d) {p0 : Int32} {σ σ' : LH} {r : Int32} (h0 : s_Main_fault p0 σ = some (r, σ')) : xM G 1 570 l y_Main_fault prog_1_method_4_code 2 (some .int) d [.ref (G.2.2.1 + 1), .int p0] σ (some (.int r)) σ' := by
  obtain ⟨d, rfl⟩ : ∃ q, d = q + 1 := ⟨d - 1, by omega⟩
  refine x_met R_Main rfl (by decide +kernel) (Nat.le_of_ble_eq_true rfl) fun p e s m below meth c C hr hk hR => ?_
  refine x_lv (lv' := [(0, .ref (G.2.2.1 + 1)), (1, .int p0)]) C [0, 1] rfl ?_
  generalize xrm (d + 1) = R at hR ⊢
  unfold s_Main_fault at h0
  refine x_iload_n C d_Main_fault_0 1 rfl ?_
  refine x_if_ne C 16 d_Main_fault_1 (by decide) (fun q1 => ?_) (fun q1 => ?_)
  · replace h0 := xif q1 h0
    refine x_iload_n C d_Main_fault_16 1 rfl ?_
    refine x_iconst (v := 1) C d_Main_fault_17 (by decide) ?_
    refine x_icmp_ne C 33 d_Main_fault_18 (by decide) (fun q5 => ?_) (fun q5 => ?_)
    · replace h0 := xif q5 h0
      refine x_bipush (v := (-2)) C d_Main_fault_33 (by decide) ?_
      exact x_iret C hr hk h0 d_Main_fault_35
    · replace h0 := xit q5 h0
      refine x_aload_n C d_Main_fault_21 0 rfl ?_
      refine x_getA (y := 28) C fg_Main_38 k_1 rfl d_Main_fault_22 ?_
      refine x_aload_n C d_Main_fault_25 0 rfl ?_
      obtain ⟨r7, σ8, k6, h0⟩ := xbind2 h0
      refine x_callVr C hR (c_Main_nextTaste (d := d) (by omega) k6) cw_Main_137 k_1 rfl rfl rfl (Nat.le_of_ble_eq_true rfl) ⟨Nat.zero_le _, Nat.zero_le _⟩ d_Main_fault_26 ?_
      have hr7 : r7 ∈ xTastes := p_Main_nextTaste k6
      obtain ⟨r10, σ11, k9, h0⟩ := xbind2 h0
      refine x_callVi C hR (c_TasteReader_read (d := d) (by omega) hr7 k9) cw_Main_141 k_28 rfl rfl rfl (Nat.le_of_ble_eq_true rfl) ⟨Nat.zero_le _, Nat.zero_le _⟩ d_Main_fault_29 ?_
      exact x_iret C hr hk h0 d_Main_fault_32
  · replace h0 := xit q1 h0
    refine x_aload_n C d_Main_fault_4 0 rfl ?_
    refine x_getA (y := 26) C fg_Main_31 k_1 rfl d_Main_fault_5 ?_
    refine x_aload_n C d_Main_fault_8 0 rfl ?_
    refine x_getA (y := 15) C fg_Main_23 k_1 rfl d_Main_fault_9 ?_
    obtain ⟨r3, σ4, k2, h0⟩ := xbind2 h0
    refine x_callVi C hR (c_RoomReader_read (d := d) (by omega) (show 15 ∈ xRooms by decide) k2) cw_Main_133 k_26 rfl rfl rfl (Nat.le_of_ble_eq_true rfl) ⟨Nat.zero_le _, Nat.zero_le _⟩ d_Main_fault_12 ?_
    exact x_iret C hr hk h0 d_Main_fault_15
-- LostPlaces$Hall.put(II)V
theorem d_Hall_put_0 : decode prog_6_method_9_code 0 = .ok (.iload_n 1, 1) := by decide +kernel
theorem d_Hall_put_1 : decode prog_6_method_9_code 1 = .ok (.ifCond .lt 9, 3) := by decide +kernel
theorem d_Hall_put_4 : decode prog_6_method_9_code 4 = .ok (.iload_n 1, 1) := by decide +kernel
theorem d_Hall_put_5 : decode prog_6_method_9_code 5 = .ok (.bipush 8, 2) := by decide +kernel
theorem d_Hall_put_7 : decode prog_6_method_9_code 7 = .ok (.if_icmp .lt 4, 3) := by decide +kernel
theorem d_Hall_put_10 : decode prog_6_method_9_code 10 = .ok (.return_, 1) := by decide +kernel
theorem d_Hall_put_11 : decode prog_6_method_9_code 11 = .ok (.aload_n 0, 1) := by decide +kernel
theorem d_Hall_put_12 : decode prog_6_method_9_code 12 = .ok (.getfield 9, 3) := by decide +kernel
theorem d_Hall_put_15 : decode prog_6_method_9_code 15 = .ok (.iload_n 1, 1) := by decide +kernel
theorem d_Hall_put_16 : decode prog_6_method_9_code 16 = .ok (.iaload, 1) := by decide +kernel
theorem d_Hall_put_17 : decode prog_6_method_9_code 17 = .ok (.istore_n 3, 1) := by decide +kernel
theorem d_Hall_put_18 : decode prog_6_method_9_code 18 = .ok (.iload_n 3, 1) := by decide +kernel
theorem d_Hall_put_19 : decode prog_6_method_9_code 19 = .ok (.ifCond .lt 16, 3) := by decide +kernel
theorem d_Hall_put_22 : decode prog_6_method_9_code 22 = .ok (.iload_n 3, 1) := by decide +kernel
theorem d_Hall_put_23 : decode prog_6_method_9_code 23 = .ok (.bipush 8, 2) := by decide +kernel
theorem d_Hall_put_25 : decode prog_6_method_9_code 25 = .ok (.if_icmp .ge 10, 3) := by decide +kernel
theorem d_Hall_put_28 : decode prog_6_method_9_code 28 = .ok (.aload_n 0, 1) := by decide +kernel
theorem d_Hall_put_29 : decode prog_6_method_9_code 29 = .ok (.getfield 24, 3) := by decide +kernel
theorem d_Hall_put_32 : decode prog_6_method_9_code 32 = .ok (.iload_n 3, 1) := by decide +kernel
theorem d_Hall_put_33 : decode prog_6_method_9_code 33 = .ok (.iconst (-1), 1) := by decide +kernel
theorem d_Hall_put_34 : decode prog_6_method_9_code 34 = .ok (.iastore, 1) := by decide +kernel
theorem d_Hall_put_35 : decode prog_6_method_9_code 35 = .ok (.iload_n 2, 1) := by decide +kernel
theorem d_Hall_put_36 : decode prog_6_method_9_code 36 = .ok (.ifCond .lt 16, 3) := by decide +kernel
theorem d_Hall_put_39 : decode prog_6_method_9_code 39 = .ok (.iload_n 2, 1) := by decide +kernel
theorem d_Hall_put_40 : decode prog_6_method_9_code 40 = .ok (.bipush 8, 2) := by decide +kernel
theorem d_Hall_put_42 : decode prog_6_method_9_code 42 = .ok (.if_icmp .ge 10, 3) := by decide +kernel
theorem d_Hall_put_45 : decode prog_6_method_9_code 45 = .ok (.aload_n 0, 1) := by decide +kernel
theorem d_Hall_put_46 : decode prog_6_method_9_code 46 = .ok (.getfield 24, 3) := by decide +kernel
theorem d_Hall_put_49 : decode prog_6_method_9_code 49 = .ok (.iload_n 2, 1) := by decide +kernel
theorem d_Hall_put_50 : decode prog_6_method_9_code 50 = .ok (.iload_n 1, 1) := by decide +kernel
theorem d_Hall_put_51 : decode prog_6_method_9_code 51 = .ok (.iastore, 1) := by decide +kernel
theorem d_Hall_put_52 : decode prog_6_method_9_code 52 = .ok (.aload_n 0, 1) := by decide +kernel
theorem d_Hall_put_53 : decode prog_6_method_9_code 53 = .ok (.getfield 9, 3) := by decide +kernel
theorem d_Hall_put_56 : decode prog_6_method_9_code 56 = .ok (.iload_n 1, 1) := by decide +kernel
theorem d_Hall_put_57 : decode prog_6_method_9_code 57 = .ok (.iload_n 2, 1) := by decide +kernel
theorem d_Hall_put_58 : decode prog_6_method_9_code 58 = .ok (.iastore, 1) := by decide +kernel
theorem d_Hall_put_59 : decode prog_6_method_9_code 59 = .ok (.aload_n 0, 1) := by decide +kernel
theorem d_Hall_put_60 : decode prog_6_method_9_code 60 = .ok (.getfield 15, 3) := by decide +kernel
theorem d_Hall_put_63 : decode prog_6_method_9_code 63 = .ok (.iload_n 1, 1) := by decide +kernel
theorem d_Hall_put_64 : decode prog_6_method_9_code 64 = .ok (.iconst (-1), 1) := by decide +kernel
theorem d_Hall_put_65 : decode prog_6_method_9_code 65 = .ok (.iastore, 1) := by decide +kernel
theorem d_Hall_put_66 : decode prog_6_method_9_code 66 = .ok (.aload_n 0, 1) := by decide +kernel
theorem d_Hall_put_67 : decode prog_6_method_9_code 67 = .ok (.iconst (-1), 1) := by decide +kernel
theorem d_Hall_put_68 : decode prog_6_method_9_code 68 = .ok (.putfield 43, 3) := by decide +kernel
theorem d_Hall_put_71 : decode prog_6_method_9_code 71 = .ok (.return_, 1) := by decide +kernel
def s_Hall_put_10 (h : Nat) (p0 : Int32) (p1 : Int32) (σ : LH) : Option (LH) :=
  some σ
theorem b_Hall_put_10 {G : XG} {l : Launch} {p : Program} {e : Env} {R : Room} {s : State} {m : MethodId} {args : Array Value} {below : List Frame} {meth : Method} {c : Code} (C : XC G 1 570 p s m args c prog_6_method_9_code 4 R_Hall) (hr : meth.sig.returnType = none) (hk : meth.locks = false) {d : Nat} (hd : 1 ≤ d + 1) (hR : xroom R (d + 1)) {h : Nat} {p0 : Int32} {p1 : Int32} (hh : h ∈ xHalls) {σ' : LH} {σ : LH} (h0 : s_Hall_put_10 h p0 p1 σ = some σ') : XJ G 1 570 p l e R s m args below meth c 4 (XQ G 1 570 below args s none σ') 0 0 10 [] [] σ := by
  replace h0 := (show _ = _ from h0)
  unfold s_Hall_put_10 at h0
  exact x_vret C hr hk h0 d_Hall_put_10
def s_Hall_put_52 (h : Nat) (p0 : Int32) (p1 : Int32) (σ : LH) : Option (LH) :=
  if ib p0 8 then (
  xl ((stI σ (h + 1) (Int32.toNatClampNeg p0) p1) : LH) fun σ8 =>
  if ib p0 8 then (
  xl ((stI σ8 (h + 2) (Int32.toNatClampNeg p0) (-1)) : LH) fun σ10 =>
  xl ((stI σ10 h 10 (-1)) : LH) fun σ11 =>
  some σ11) else none) else none
theorem b_Hall_put_52 {G : XG} {l : Launch} {p : Program} {e : Env} {R : Room} {s : State} {m : MethodId} {args : Array Value} {below : List Frame} {meth : Method} {c : Code} (C : XC G 1 570 p s m args c prog_6_method_9_code 4 R_Hall) (hr : meth.sig.returnType = none) (hk : meth.locks = false) {d : Nat} (hd : 1 ≤ d + 1) (hR : xroom R (d + 1)) {h : Nat} {p0 : Int32} {p1 : Int32} (hh : h ∈ xHalls) {σ' : LH} {σ : LH} (h0 : s_Hall_put_52 h p0 p1 σ = some σ') : XJ G 1 570 p l e R s m args below meth c 4 (XQ G 1 570 below args s none σ') 0 0 52 [(0, .ref (G.2.2.1 + h)), (1, .int p0), (2, .int p1)] [] σ := by
  replace h0 := (show _ = _ from h0)
  unfold s_Hall_put_52 at h0
  refine x_aload_n C d_Hall_put_52 0 rfl ?_
  refine x_getR (y := 1) C fg_Hall_9 (hl_0 hh) rfl d_Hall_put_53 ?_
  refine x_iload_n C d_Hall_put_56 1 rfl ?_
  refine x_iload_n C d_Hall_put_57 2 rfl ?_
  obtain ⟨g7, h0⟩ := xgo h0
  refine x_iast C (hl_1 hh) (ib_in g7) d_Hall_put_58 ?_
  obtain ⟨σ8, eσ8, h0⟩ := xlet h0
  refine x_sig C eσ8 ?_
  refine x_aload_n C d_Hall_put_59 0 rfl ?_
  refine x_getR (y := 2) C fg_Hall_15 (hl_0 hh) rfl d_Hall_put_60 ?_
  refine x_iload_n C d_Hall_put_63 1 rfl ?_
  refine x_iconst (v := (-1)) C d_Hall_put_64 (by decide) ?_
  obtain ⟨g9, h0⟩ := xgo h0
  refine x_iast C (hl_2 hh) (ib_in g9) d_Hall_put_65 ?_
  obtain ⟨σ10, eσ10, h0⟩ := xlet h0
  refine x_sig C eσ10 ?_
  refine x_aload_n C d_Hall_put_66 0 rfl ?_
  refine x_iconst (v := (-1)) C d_Hall_put_67 (by decide) ?_
  refine x_putI (y := 0) C fp_Hall_43 (hl_0 hh) rfl rfl rfl d_Hall_put_68 ?_
  obtain ⟨σ11, eσ11, h0⟩ := xlet h0
  refine x_sig C eσ11 ?_
  exact x_vret C hr hk h0 d_Hall_put_71
def s_Hall_put_35 (h : Nat) (p0 : Int32) (p1 : Int32) (σ : LH) : Option (LH) :=
  if p1 < 0 then (
   s_Hall_put_52 h p0 p1 σ)
  else (
   if 8 ≤ p1 then (
    s_Hall_put_52 h p0 p1 σ)
   else (
    if ib p1 8 then (
    xl ((stI σ (h + 5) (Int32.toNatClampNeg p1) p0) : LH) fun σ14 =>
    s_Hall_put_52 h p0 p1 σ14) else none))
theorem b_Hall_put_35 {G : XG} {l : Launch} {p : Program} {e : Env} {R : Room} {s : State} {m : MethodId} {args : Array Value} {below : List Frame} {meth : Method} {c : Code} (C : XC G 1 570 p s m args c prog_6_method_9_code 4 R_Hall) (hr : meth.sig.returnType = none) (hk : meth.locks = false) {d : Nat} (hd : 1 ≤ d + 1) (hR : xroom R (d + 1)) {h : Nat} {p0 : Int32} {p1 : Int32} (hh : h ∈ xHalls) {σ' : LH} {σ : LH} (h0 : s_Hall_put_35 h p0 p1 σ = some σ') : XJ G 1 570 p l e R s m args below meth c 4 (XQ G 1 570 below args s none σ') 0 0 35 [(0, .ref (G.2.2.1 + h)), (1, .int p0), (2, .int p1)] [] σ := by
  replace h0 := (show _ = _ from h0)
  unfold s_Hall_put_35 at h0
  refine x_iload_n C d_Hall_put_35 2 rfl ?_
  refine x_if_lt C 52 d_Hall_put_36 (by decide) (fun q6 => ?_) (fun q6 => ?_)
  · replace h0 := xit q6 h0
    exact x_lv C [0, 1, 2] rfl (b_Hall_put_52 C hr hk hd hR hh h0)
  · replace h0 := xif q6 h0
    refine x_iload_n C d_Hall_put_39 2 rfl ?_
    refine x_bipush (v := 8) C d_Hall_put_40 (by decide) ?_
    refine x_icmp_ge C 52 d_Hall_put_42 (by decide) (fun q12 => ?_) (fun q12 => ?_)
    · replace h0 := xit q12 h0
      exact x_lv C [0, 1, 2] rfl (b_Hall_put_52 C hr hk hd hR hh h0)
    · replace h0 := xif q12 h0
      refine x_aload_n C d_Hall_put_45 0 rfl ?_
      refine x_getR (y := 5) C fg_Hall_24 (hl_0 hh) rfl d_Hall_put_46 ?_
      refine x_iload_n C d_Hall_put_49 2 rfl ?_
      refine x_iload_n C d_Hall_put_50 1 rfl ?_
      obtain ⟨g13, h0⟩ := xgo h0
      refine x_iast C (hl_5 hh) (ib_in g13) d_Hall_put_51 ?_
      obtain ⟨σ14, eσ14, h0⟩ := xlet h0
      refine x_sig C eσ14 ?_
      exact x_lv C [0, 1, 2] rfl (b_Hall_put_52 C hr hk hd hR hh h0)
def s_Hall_put (h : Nat) (p0 : Int32) (p1 : Int32) (σ : LH) : Option (LH) :=
  if p0 < 0 then (
   s_Hall_put_10 h p0 p1 σ)
  else (
   if p0 < 8 then (
    if ib p0 8 then (
    xl (((σ.1 (h + 1) (Int32.toNatClampNeg p0))) : Int32) fun x4 =>
    if x4 < 0 then (
     s_Hall_put_35 h p0 p1 σ)
    else (
     if 8 ≤ x4 then (
      s_Hall_put_35 h p0 p1 σ)
     else (
      if ib x4 8 then (
      xl ((stI σ (h + 5) (Int32.toNatClampNeg x4) (-1)) : LH) fun σ17 =>
      s_Hall_put_35 h p0 p1 σ17) else none))) else none)
   else (
    s_Hall_put_10 h p0 p1 σ))
theorem c_Hall_put {G : XG} {l : Launch} {d : Nat} (hd : 1 ≤ d) {h : Nat} {p0 : Int32} {p1 : Int32} (hh : h ∈ xHalls) {σ σ' : LH} (h0 : s_Hall_put h p0 p1 σ = some σ') : xM G 1 570 l y_Hall_put prog_6_method_9_code 4 none d [.ref (G.2.2.1 + h), .int p0, .int p1] σ none σ' := by
  obtain ⟨d, rfl⟩ : ∃ q, d = q + 1 := ⟨d - 1, by omega⟩
  refine x_met R_Hall rfl (by decide +kernel) (Nat.le_of_ble_eq_true rfl) fun p e s m below meth c C hr hk hR => ?_
  refine x_lv (lv' := [(0, .ref (G.2.2.1 + h)), (1, .int p0), (2, .int p1)]) C [0, 1, 2] rfl ?_
  generalize xrm (d + 1) = R at hR ⊢
  unfold s_Hall_put at h0
  refine x_iload_n C d_Hall_put_0 1 rfl ?_
  refine x_if_lt C 10 d_Hall_put_1 (by decide) (fun q1 => ?_) (fun q1 => ?_)
  · replace h0 := xit q1 h0
    exact x_lv C [] rfl (b_Hall_put_10 C hr hk hd hR hh h0)
  · replace h0 := xif q1 h0
    refine x_iload_n C d_Hall_put_4 1 rfl ?_
    refine x_bipush (v := 8) C d_Hall_put_5 (by decide) ?_
    refine x_icmp_lt C 11 d_Hall_put_7 (by decide) (fun q2 => ?_) (fun q2 => ?_)
    · replace h0 := xit q2 h0
      refine x_aload_n C d_Hall_put_11 0 rfl ?_
      refine x_getR (y := 1) C fg_Hall_9 (hl_0 hh) rfl d_Hall_put_12 ?_
      refine x_iload_n C d_Hall_put_15 1 rfl ?_
      obtain ⟨g3, h0⟩ := xgo h0
      refine x_iald C (hl_1 hh) (ib_in g3) d_Hall_put_16 ?_
      obtain ⟨x4, ex4, h0⟩ := xlet h0
      refine x_name C ex4 ?_
      refine x_istore_n (lv' := [(3, .int x4), (0, .ref (G.2.2.1 + h)), (1, .int p0), (2, .int p1)]) C d_Hall_put_17 rfl (by decide) rfl ?_
      refine x_iload_n C d_Hall_put_18 0 rfl ?_
      refine x_if_lt C 35 d_Hall_put_19 (by decide) (fun q5 => ?_) (fun q5 => ?_)
      · replace h0 := xit q5 h0
        exact x_lv C [1, 2, 3] rfl (b_Hall_put_35 C hr hk hd hR hh h0)
      · replace h0 := xif q5 h0
        refine x_iload_n C d_Hall_put_22 0 rfl ?_
        refine x_bipush (v := 8) C d_Hall_put_23 (by decide) ?_
        refine x_icmp_ge C 35 d_Hall_put_25 (by decide) (fun q15 => ?_) (fun q15 => ?_)
        · replace h0 := xit q15 h0
          exact x_lv C [1, 2, 3] rfl (b_Hall_put_35 C hr hk hd hR hh h0)
        · replace h0 := xif q15 h0
          refine x_aload_n C d_Hall_put_28 1 rfl ?_
          refine x_getR (y := 5) C fg_Hall_24 (hl_0 hh) rfl d_Hall_put_29 ?_
          refine x_iload_n C d_Hall_put_32 0 rfl ?_
          refine x_iconst (v := (-1)) C d_Hall_put_33 (by decide) ?_
          obtain ⟨g16, h0⟩ := xgo h0
          refine x_iast C (hl_5 hh) (ib_in g16) d_Hall_put_34 ?_
          obtain ⟨σ17, eσ17, h0⟩ := xlet h0
          refine x_sig C eσ17 ?_
          exact x_lv C [1, 2, 3] rfl (b_Hall_put_35 C hr hk hd hR hh h0)
    · replace h0 := xif q2 h0
      exact x_lv C [] rfl (b_Hall_put_10 C hr hk hd hR hh h0)
-- LostPlaces$Hall.open(LLostPlaces$Room;)V
theorem d_Hall_open_0 : decode prog_6_method_2_code 0 = .ok (.iconst 0, 1) := by decide +kernel
theorem d_Hall_open_1 : decode prog_6_method_2_code 1 = .ok (.istore_n 2, 1) := by decide +kernel
theorem d_Hall_open_2 : decode prog_6_method_2_code 2 = .ok (.iload_n 2, 1) := by decide +kernel
theorem d_Hall_open_3 : decode prog_6_method_2_code 3 = .ok (.bipush 8, 2) := by decide +kernel
theorem d_Hall_open_5 : decode prog_6_method_2_code 5 = .ok (.if_icmp .ge 30, 3) := by decide +kernel
theorem d_Hall_open_8 : decode prog_6_method_2_code 8 = .ok (.aload_n 0, 1) := by decide +kernel
theorem d_Hall_open_9 : decode prog_6_method_2_code 9 = .ok (.getfield 24, 3) := by decide +kernel
theorem d_Hall_open_12 : decode prog_6_method_2_code 12 = .ok (.iload_n 2, 1) := by decide +kernel
theorem d_Hall_open_13 : decode prog_6_method_2_code 13 = .ok (.iconst (-1), 1) := by decide +kernel
theorem d_Hall_open_14 : decode prog_6_method_2_code 14 = .ok (.iastore, 1) := by decide +kernel
theorem d_Hall_open_15 : decode prog_6_method_2_code 15 = .ok (.aload_n 0, 1) := by decide +kernel
theorem d_Hall_open_16 : decode prog_6_method_2_code 16 = .ok (.getfield 27, 3) := by decide +kernel
theorem d_Hall_open_19 : decode prog_6_method_2_code 19 = .ok (.iload_n 2, 1) := by decide +kernel
theorem d_Hall_open_20 : decode prog_6_method_2_code 20 = .ok (.iconst (-1), 1) := by decide +kernel
theorem d_Hall_open_21 : decode prog_6_method_2_code 21 = .ok (.iastore, 1) := by decide +kernel
theorem d_Hall_open_22 : decode prog_6_method_2_code 22 = .ok (.aload_n 0, 1) := by decide +kernel
theorem d_Hall_open_23 : decode prog_6_method_2_code 23 = .ok (.getfield 30, 3) := by decide +kernel
theorem d_Hall_open_26 : decode prog_6_method_2_code 26 = .ok (.iload_n 2, 1) := by decide +kernel
theorem d_Hall_open_27 : decode prog_6_method_2_code 27 = .ok (.iconst (-1), 1) := by decide +kernel
theorem d_Hall_open_28 : decode prog_6_method_2_code 28 = .ok (.iastore, 1) := by decide +kernel
theorem d_Hall_open_29 : decode prog_6_method_2_code 29 = .ok (.iinc 2 1, 3) := by decide +kernel
theorem d_Hall_open_32 : decode prog_6_method_2_code 32 = .ok (.goto (-30), 3) := by decide +kernel
theorem d_Hall_open_35 : decode prog_6_method_2_code 35 = .ok (.iconst 0, 1) := by decide +kernel
theorem d_Hall_open_36 : decode prog_6_method_2_code 36 = .ok (.istore_n 2, 1) := by decide +kernel
theorem d_Hall_open_37 : decode prog_6_method_2_code 37 = .ok (.iload_n 2, 1) := by decide +kernel
theorem d_Hall_open_38 : decode prog_6_method_2_code 38 = .ok (.bipush 8, 2) := by decide +kernel
theorem d_Hall_open_40 : decode prog_6_method_2_code 40 = .ok (.if_icmp .ge 42, 3) := by decide +kernel
theorem d_Hall_open_43 : decode prog_6_method_2_code 43 = .ok (.aload_n 0, 1) := by decide +kernel
theorem d_Hall_open_44 : decode prog_6_method_2_code 44 = .ok (.getfield 15, 3) := by decide +kernel
theorem d_Hall_open_47 : decode prog_6_method_2_code 47 = .ok (.iload_n 2, 1) := by decide +kernel
theorem d_Hall_open_48 : decode prog_6_method_2_code 48 = .ok (.iconst (-1), 1) := by decide +kernel
theorem d_Hall_open_49 : decode prog_6_method_2_code 49 = .ok (.iastore, 1) := by decide +kernel
theorem d_Hall_open_50 : decode prog_6_method_2_code 50 = .ok (.aload_n 0, 1) := by decide +kernel
theorem d_Hall_open_51 : decode prog_6_method_2_code 51 = .ok (.getfield 18, 3) := by decide +kernel
theorem d_Hall_open_54 : decode prog_6_method_2_code 54 = .ok (.iload_n 2, 1) := by decide +kernel
theorem d_Hall_open_55 : decode prog_6_method_2_code 55 = .ok (.aload_n 1, 1) := by decide +kernel
theorem d_Hall_open_56 : decode prog_6_method_2_code 56 = .ok (.getfield 46, 3) := by decide +kernel
theorem d_Hall_open_59 : decode prog_6_method_2_code 59 = .ok (.iload_n 2, 1) := by decide +kernel
theorem d_Hall_open_60 : decode prog_6_method_2_code 60 = .ok (.iaload, 1) := by decide +kernel
theorem d_Hall_open_61 : decode prog_6_method_2_code 61 = .ok (.iastore, 1) := by decide +kernel
theorem d_Hall_open_62 : decode prog_6_method_2_code 62 = .ok (.aload_n 0, 1) := by decide +kernel
theorem d_Hall_open_63 : decode prog_6_method_2_code 63 = .ok (.getfield 21, 3) := by decide +kernel
theorem d_Hall_open_66 : decode prog_6_method_2_code 66 = .ok (.iload_n 2, 1) := by decide +kernel
theorem d_Hall_open_67 : decode prog_6_method_2_code 67 = .ok (.iconst 0, 1) := by decide +kernel
theorem d_Hall_open_68 : decode prog_6_method_2_code 68 = .ok (.iastore, 1) := by decide +kernel
theorem d_Hall_open_69 : decode prog_6_method_2_code 69 = .ok (.aload_n 0, 1) := by decide +kernel
theorem d_Hall_open_70 : decode prog_6_method_2_code 70 = .ok (.getfield 9, 3) := by decide +kernel
theorem d_Hall_open_73 : decode prog_6_method_2_code 73 = .ok (.iload_n 2, 1) := by decide +kernel
theorem d_Hall_open_74 : decode prog_6_method_2_code 74 = .ok (.iconst (-1), 1) := by decide +kernel
theorem d_Hall_open_75 : decode prog_6_method_2_code 75 = .ok (.iastore, 1) := by decide +kernel
theorem d_Hall_open_76 : decode prog_6_method_2_code 76 = .ok (.iinc 2 1, 3) := by decide +kernel
theorem d_Hall_open_79 : decode prog_6_method_2_code 79 = .ok (.goto (-42), 3) := by decide +kernel
theorem d_Hall_open_82 : decode prog_6_method_2_code 82 = .ok (.aload_n 0, 1) := by decide +kernel
theorem d_Hall_open_83 : decode prog_6_method_2_code 83 = .ok (.iconst 0, 1) := by decide +kernel
theorem d_Hall_open_84 : decode prog_6_method_2_code 84 = .ok (.putfield 33, 3) := by decide +kernel
theorem d_Hall_open_87 : decode prog_6_method_2_code 87 = .ok (.aload_n 0, 1) := by decide +kernel
theorem d_Hall_open_88 : decode prog_6_method_2_code 88 = .ok (.iconst 0, 1) := by decide +kernel
theorem d_Hall_open_89 : decode prog_6_method_2_code 89 = .ok (.putfield 37, 3) := by decide +kernel
theorem d_Hall_open_92 : decode prog_6_method_2_code 92 = .ok (.aload_n 0, 1) := by decide +kernel
theorem d_Hall_open_93 : decode prog_6_method_2_code 93 = .ok (.iconst (-1), 1) := by decide +kernel
theorem d_Hall_open_94 : decode prog_6_method_2_code 94 = .ok (.putfield 43, 3) := by decide +kernel
theorem d_Hall_open_97 : decode prog_6_method_2_code 97 = .ok (.iconst 0, 1) := by decide +kernel
theorem d_Hall_open_98 : decode prog_6_method_2_code 98 = .ok (.istore_n 2, 1) := by decide +kernel
theorem d_Hall_open_99 : decode prog_6_method_2_code 99 = .ok (.iload_n 2, 1) := by decide +kernel
theorem d_Hall_open_100 : decode prog_6_method_2_code 100 = .ok (.aload_n 1, 1) := by decide +kernel
theorem d_Hall_open_101 : decode prog_6_method_2_code 101 = .ok (.getfield 49, 3) := by decide +kernel
theorem d_Hall_open_104 : decode prog_6_method_2_code 104 = .ok (.if_icmp .ge 39, 3) := by decide +kernel
theorem d_Hall_open_107 : decode prog_6_method_2_code 107 = .ok (.iload_n 2, 1) := by decide +kernel
theorem d_Hall_open_108 : decode prog_6_method_2_code 108 = .ok (.bipush 8, 2) := by decide +kernel
theorem d_Hall_open_110 : decode prog_6_method_2_code 110 = .ok (.if_icmp .ge 33, 3) := by decide +kernel
theorem d_Hall_open_113 : decode prog_6_method_2_code 113 = .ok (.aload_n 1, 1) := by decide +kernel
theorem d_Hall_open_114 : decode prog_6_method_2_code 114 = .ok (.getfield 52, 3) := by decide +kernel
theorem d_Hall_open_117 : decode prog_6_method_2_code 117 = .ok (.iload_n 2, 1) := by decide +kernel
theorem d_Hall_open_118 : decode prog_6_method_2_code 118 = .ok (.iaload, 1) := by decide +kernel
theorem d_Hall_open_119 : decode prog_6_method_2_code 119 = .ok (.aload_n 1, 1) := by decide +kernel
theorem d_Hall_open_120 : decode prog_6_method_2_code 120 = .ok (.getfield 55, 3) := by decide +kernel
theorem d_Hall_open_123 : decode prog_6_method_2_code 123 = .ok (.if_icmp .ge 14, 3) := by decide +kernel
theorem d_Hall_open_126 : decode prog_6_method_2_code 126 = .ok (.aload_n 0, 1) := by decide +kernel
theorem d_Hall_open_127 : decode prog_6_method_2_code 127 = .ok (.iload_n 2, 1) := by decide +kernel
theorem d_Hall_open_128 : decode prog_6_method_2_code 128 = .ok (.aload_n 1, 1) := by decide +kernel
theorem d_Hall_open_129 : decode prog_6_method_2_code 129 = .ok (.getfield 52, 3) := by decide +kernel
theorem d_Hall_open_132 : decode prog_6_method_2_code 132 = .ok (.iload_n 2, 1) := by decide +kernel
theorem d_Hall_open_133 : decode prog_6_method_2_code 133 = .ok (.iaload, 1) := by decide +kernel
theorem d_Hall_open_134 : decode prog_6_method_2_code 134 = .ok (.invokevirtual 58, 3) := by decide +kernel
theorem d_Hall_open_137 : decode prog_6_method_2_code 137 = .ok (.iinc 2 1, 3) := by decide +kernel
theorem d_Hall_open_140 : decode prog_6_method_2_code 140 = .ok (.goto (-41), 3) := by decide +kernel
theorem d_Hall_open_143 : decode prog_6_method_2_code 143 = .ok (.return_, 1) := by decide +kernel
def s_Hall_open_143 (h : Nat) (p0 : Nat) (σ : LH) : Option (LH) :=
  some σ
theorem b_Hall_open_143 {G : XG} {l : Launch} {p : Program} {e : Env} {R : Room} {s : State} {m : MethodId} {args : Array Value} {below : List Frame} {meth : Method} {c : Code} (C : XC G 1 570 p s m args c prog_6_method_2_code 3 R_Hall) (hr : meth.sig.returnType = none) (hk : meth.locks = false) {d : Nat} (hd : 2 ≤ d + 1) (hR : xroom R (d + 1)) {h : Nat} {p0 : Nat} (hh : h ∈ xHalls) (hp0 : p0 ∈ xRooms) {σ' : LH} {σ : LH} (h0 : s_Hall_open_143 h p0 σ = some σ') : XJ G 1 570 p l e R s m args below meth c 3 (XQ G 1 570 below args s none σ') 0 0 143 [] [] σ := by
  replace h0 := (show _ = _ from h0)
  unfold s_Hall_open_143 at h0
  exact x_vret C hr hk h0 d_Hall_open_143
def s_Hall_open_137 (h : Nat) (p0 : Nat) (rec99 : Int32 → LH → Option (LH)) (y2 : Int32) (σ : LH) : Option (LH) :=
  xl ((y2 + 1) : Int32) fun x10 =>
  rec99 x10 σ
theorem b_Hall_open_137 {G : XG} {l : Launch} {p : Program} {e : Env} {R : Room} {s : State} {m : MethodId} {args : Array Value} {below : List Frame} {meth : Method} {c : Code} (C : XC G 1 570 p s m args c prog_6_method_2_code 3 R_Hall) (hr : meth.sig.returnType = none) (hk : meth.locks = false) {d : Nat} (hd : 2 ≤ d + 1) (hR : xroom R (d + 1)) {h : Nat} {p0 : Nat} (hh : h ∈ xHalls) (hp0 : p0 ∈ xRooms) {rec99 : Int32 → LH → Option (LH)} {σ' : LH} (hrec99 : ∀ (y2 : Int32) (σ : LH), rec99 y2 σ = some σ' → XJ G 1 570 p l e R s m args below meth c 3 (XQ G 1 570 below args s none σ') 0 0 99 [(0, .ref (G.2.2.1 + h)), (1, .ref (G.2.2.1 + p0)), (2, .int y2)] [] σ) {y2 : Int32} {σ : LH} (h0 : s_Hall_open_137 h p0 rec99 y2 σ = some σ') : XJ G 1 570 p l e R s m args below meth c 3 (XQ G 1 570 below args s none σ') 0 0 137 [(0, .ref (G.2.2.1 + h)), (1, .ref (G.2.2.1 + p0)), (2, .int y2)] [] σ := by
  replace h0 := (show _ = _ from h0)
  unfold s_Hall_open_137 at h0
  obtain ⟨x10, ex10, h0⟩ := xlet h0
  refine x_iinc (lv' := [(2, .int x10), (0, .ref (G.2.2.1 + h)), (1, .ref (G.2.2.1 + p0))]) C d_Hall_open_137 2 rfl ex10 (by decide) rfl ?_
  refine x_goto C 99 d_Hall_open_140 (by decide) ?_
  exact x_lv C [1, 2, 0] rfl (hrec99 _ _ h0)
def s_Hall_open_99_b (h : Nat) (p0 : Nat) (rec99 : Int32 → LH → Option (LH)) (y2 : Int32) (σ : LH) : Option (LH) :=
  if (σ.1 p0 1) ≤ y2 then (
   s_Hall_open_143 h p0 σ)
  else (
   if 8 ≤ y2 then (
    s_Hall_open_143 h p0 σ)
   else (
    if ib y2 8 then (
    if (σ.1 p0 0) ≤ (σ.1 (p0 + 4) (Int32.toNatClampNeg y2)) then (
     s_Hall_open_137 h p0 rec99 y2 σ)
    else (
     if ib y2 8 then (
     xb1 (s_Hall_put h y2 (σ.1 (p0 + 4) (Int32.toNatClampNeg y2)) σ) fun σ13 =>
     s_Hall_open_137 h p0 rec99 y2 σ13) else none)) else none))
def s_Hall_open_99 (h : Nat) (p0 : Nat) : Nat → Int32 → LH → Option (LH)
  | 0, _, _ => none
  | n + 1, y2, σ => s_Hall_open_99_b h p0 (s_Hall_open_99 h p0 n) y2 σ
theorem bb_Hall_open_99 {G : XG} {l : Launch} {p : Program} {e : Env} {R : Room} {s : State} {m : MethodId} {args : Array Value} {below : List Frame} {meth : Method} {c : Code} (C : XC G 1 570 p s m args c prog_6_method_2_code 3 R_Hall) (hr : meth.sig.returnType = none) (hk : meth.locks = false) {d : Nat} (hd : 2 ≤ d + 1) (hR : xroom R (d + 1)) {h : Nat} {p0 : Nat} (hh : h ∈ xHalls) (hp0 : p0 ∈ xRooms) {rec99 : Int32 → LH → Option (LH)} {σ' : LH} (hrec99 : ∀ (y2 : Int32) (σ : LH), rec99 y2 σ = some σ' → XJ G 1 570 p l e R s m args below meth c 3 (XQ G 1 570 below args s none σ') 0 0 99 [(0, .ref (G.2.2.1 + h)), (1, .ref (G.2.2.1 + p0)), (2, .int y2)] [] σ) {y2 : Int32} {σ : LH} (h0 : s_Hall_open_99_b h p0 rec99 y2 σ = some σ') : XJ G 1 570 p l e R s m args below meth c 3 (XQ G 1 570 below args s none σ') 0 0 99 [(0, .ref (G.2.2.1 + h)), (1, .ref (G.2.2.1 + p0)), (2, .int y2)] [] σ := by
  replace h0 := (show _ = _ from h0)
  unfold s_Hall_open_99_b at h0
  refine x_iload_n C d_Hall_open_99 2 rfl ?_
  refine x_aload_n C d_Hall_open_100 1 rfl ?_
  refine x_getI (y := 0) C fg_Hall_49 (rm_0 hp0) rfl d_Hall_open_101 ?_
  refine x_icmp_ge C 143 d_Hall_open_104 (by decide) (fun q6 => ?_) (fun q6 => ?_)
  · replace h0 := xit q6 h0
    exact x_lv C [] rfl (b_Hall_open_143 C hr hk hd hR hh hp0 h0)
  · replace h0 := xif q6 h0
    refine x_iload_n C d_Hall_open_107 2 rfl ?_
    refine x_bipush (v := 8) C d_Hall_open_108 (by decide) ?_
    refine x_icmp_ge C 143 d_Hall_open_110 (by decide) (fun q7 => ?_) (fun q7 => ?_)
    · replace h0 := xit q7 h0
      exact x_lv C [] rfl (b_Hall_open_143 C hr hk hd hR hh hp0 h0)
    · replace h0 := xif q7 h0
      refine x_aload_n C d_Hall_open_113 1 rfl ?_
      refine x_getR (y := 4) C fg_Hall_52 (rm_0 hp0) rfl d_Hall_open_114 ?_
      refine x_iload_n C d_Hall_open_117 2 rfl ?_
      obtain ⟨g8, h0⟩ := xgo h0
      refine x_iald C (rm_4 hp0) (ib_in g8) d_Hall_open_118 ?_
      refine x_aload_n C d_Hall_open_119 1 rfl ?_
      refine x_getI (y := 0) C fg_Hall_55 (rm_0 hp0) rfl d_Hall_open_120 ?_
      refine x_icmp_ge C 137 d_Hall_open_123 (by decide) (fun q9 => ?_) (fun q9 => ?_)
      · replace h0 := xit q9 h0
        exact x_lv C [0, 1, 2] rfl (b_Hall_open_137 C hr hk hd hR hh hp0 hrec99 h0)
      · replace h0 := xif q9 h0
        refine x_aload_n C d_Hall_open_126 0 rfl ?_
        refine x_iload_n C d_Hall_open_127 2 rfl ?_
        refine x_aload_n C d_Hall_open_128 1 rfl ?_
        refine x_getR (y := 4) C fg_Hall_52 (rm_0 hp0) rfl d_Hall_open_129 ?_
        refine x_iload_n C d_Hall_open_132 2 rfl ?_
        obtain ⟨g11, h0⟩ := xgo h0
        refine x_iald C (rm_4 hp0) (ib_in g11) d_Hall_open_133 ?_
        obtain ⟨σ13, k12, h0⟩ := xbind1 h0
        refine x_callVv C hR (c_Hall_put (d := d) (by omega) hh k12) cw_Hall_58 (hl_0 hh) rfl rfl rfl (Nat.le_of_ble_eq_true rfl) ⟨Nat.zero_le _, Nat.zero_le _⟩ d_Hall_open_134 ?_
        exact x_lv C [0, 1, 2] rfl (b_Hall_open_137 C hr hk hd hR hh hp0 hrec99 h0)
theorem b_Hall_open_99 {G : XG} {l : Launch} {p : Program} {e : Env} {R : Room} {s : State} {m : MethodId} {args : Array Value} {below : List Frame} {meth : Method} {c : Code} (C : XC G 1 570 p s m args c prog_6_method_2_code 3 R_Hall) (hr : meth.sig.returnType = none) (hk : meth.locks = false) {d : Nat} (hd : 2 ≤ d + 1) (hR : xroom R (d + 1)) {h : Nat} {p0 : Nat} (hh : h ∈ xHalls) (hp0 : p0 ∈ xRooms) {σ' : LH} : ∀ (n : Nat) (y2 : Int32) (σ : LH), s_Hall_open_99 h p0 n y2 σ = some σ' → XJ G 1 570 p l e R s m args below meth c 3 (XQ G 1 570 below args s none σ') 0 0 99 [(0, .ref (G.2.2.1 + h)), (1, .ref (G.2.2.1 + p0)), (2, .int y2)] [] σ := by
  intro n
  induction n with
  | zero => intro y2 σ h0; cases h0
  | succ n ih => intro y2 σ h0; exact bb_Hall_open_99 C hr hk hd hR hh hp0 ih h0
def s_Hall_open_37_b (h : Nat) (p0 : Nat) (rec37 : Int32 → LH → Option (LH)) (y2 : Int32) (σ : LH) : Option (LH) :=
  if 8 ≤ y2 then (
   xl ((stI σ h 7 0) : LH) fun σ3 =>
   xl ((stI σ3 h 8 0) : LH) fun σ4 =>
   xl ((stI σ4 h 10 (-1)) : LH) fun σ5 =>
   s_Hall_open_99 h p0 FUEL 0 σ5)
  else (
   if ib y2 8 then (
   xl ((stI σ (h + 2) (Int32.toNatClampNeg y2) (-1)) : LH) fun σ15 =>
   if ib y2 8 then (
   if ib y2 8 then (
   xl ((stI σ15 (h + 3) (Int32.toNatClampNeg y2) (σ15.1 (p0 + 7) (Int32.toNatClampNeg y2))) : LH) fun σ18 =>
   if ib y2 8 then (
   xl ((stI σ18 (h + 4) (Int32.toNatClampNeg y2) 0) : LH) fun σ20 =>
   if ib y2 8 then (
   xl ((stI σ20 (h + 1) (Int32.toNatClampNeg y2) (-1)) : LH) fun σ22 =>
   xl ((y2 + 1) : Int32) fun x23 =>
   rec37 x23 σ22) else none) else none) else none) else none) else none)
def s_Hall_open_37 (h : Nat) (p0 : Nat) : Nat → Int32 → LH → Option (LH)
  | 0, _, _ => none
  | n + 1, y2, σ => s_Hall_open_37_b h p0 (s_Hall_open_37 h p0 n) y2 σ
theorem bb_Hall_open_37 {G : XG} {l : Launch} {p : Program} {e : Env} {R : Room} {s : State} {m : MethodId} {args : Array Value} {below : List Frame} {meth : Method} {c : Code} (C : XC G 1 570 p s m args c prog_6_method_2_code 3 R_Hall) (hr : meth.sig.returnType = none) (hk : meth.locks = false) {d : Nat} (hd : 2 ≤ d + 1) (hR : xroom R (d + 1)) {h : Nat} {p0 : Nat} (hh : h ∈ xHalls) (hp0 : p0 ∈ xRooms) {rec37 : Int32 → LH → Option (LH)} {σ' : LH} (hrec37 : ∀ (y2 : Int32) (σ : LH), rec37 y2 σ = some σ' → XJ G 1 570 p l e R s m args below meth c 3 (XQ G 1 570 below args s none σ') 0 0 37 [(0, .ref (G.2.2.1 + h)), (1, .ref (G.2.2.1 + p0)), (2, .int y2)] [] σ) {y2 : Int32} {σ : LH} (h0 : s_Hall_open_37_b h p0 rec37 y2 σ = some σ') : XJ G 1 570 p l e R s m args below meth c 3 (XQ G 1 570 below args s none σ') 0 0 37 [(0, .ref (G.2.2.1 + h)), (1, .ref (G.2.2.1 + p0)), (2, .int y2)] [] σ := by
  replace h0 := (show _ = _ from h0)
  unfold s_Hall_open_37_b at h0
  refine x_iload_n C d_Hall_open_37 2 rfl ?_
  refine x_bipush (v := 8) C d_Hall_open_38 (by decide) ?_
  refine x_icmp_ge C 82 d_Hall_open_40 (by decide) (fun q2 => ?_) (fun q2 => ?_)
  · replace h0 := xit q2 h0
    refine x_aload_n C d_Hall_open_82 0 rfl ?_
    refine x_iconst (v := 0) C d_Hall_open_83 (by decide) ?_
    refine x_putI (y := 0) C fp_Hall_33 (hl_0 hh) rfl rfl rfl d_Hall_open_84 ?_
    obtain ⟨σ3, eσ3, h0⟩ := xlet h0
    refine x_sig C eσ3 ?_
    refine x_aload_n C d_Hall_open_87 0 rfl ?_
    refine x_iconst (v := 0) C d_Hall_open_88 (by decide) ?_
    refine x_putI (y := 0) C fp_Hall_37 (hl_0 hh) rfl rfl rfl d_Hall_open_89 ?_
    obtain ⟨σ4, eσ4, h0⟩ := xlet h0
    refine x_sig C eσ4 ?_
    refine x_aload_n C d_Hall_open_92 0 rfl ?_
    refine x_iconst (v := (-1)) C d_Hall_open_93 (by decide) ?_
    refine x_putI (y := 0) C fp_Hall_43 (hl_0 hh) rfl rfl rfl d_Hall_open_94 ?_
    obtain ⟨σ5, eσ5, h0⟩ := xlet h0
    refine x_sig C eσ5 ?_
    refine x_iconst (v := 0) C d_Hall_open_97 (by decide) ?_
    refine x_istore_n (lv' := [(2, .int 0), (0, .ref (G.2.2.1 + h)), (1, .ref (G.2.2.1 + p0))]) C d_Hall_open_98 rfl (by decide) rfl ?_
    exact x_lv C [1, 2, 0] rfl (b_Hall_open_99 C hr hk hd hR hh hp0 FUEL _ _ h0)
  · replace h0 := xif q2 h0
    refine x_aload_n C d_Hall_open_43 0 rfl ?_
    refine x_getR (y := 2) C fg_Hall_15 (hl_0 hh) rfl d_Hall_open_44 ?_
    refine x_iload_n C d_Hall_open_47 2 rfl ?_
    refine x_iconst (v := (-1)) C d_Hall_open_48 (by decide) ?_
    obtain ⟨g14, h0⟩ := xgo h0
    refine x_iast C (hl_2 hh) (ib_in g14) d_Hall_open_49 ?_
    obtain ⟨σ15, eσ15, h0⟩ := xlet h0
    refine x_sig C eσ15 ?_
    refine x_aload_n C d_Hall_open_50 0 rfl ?_
    refine x_getR (y := 3) C fg_Hall_18 (hl_0 hh) rfl d_Hall_open_51 ?_
    refine x_iload_n C d_Hall_open_54 2 rfl ?_
    refine x_aload_n C d_Hall_open_55 1 rfl ?_
    refine x_getR (y := 7) C fg_Hall_46 (rm_0 hp0) rfl d_Hall_open_56 ?_
    refine x_iload_n C d_Hall_open_59 2 rfl ?_
    obtain ⟨g16, h0⟩ := xgo h0
    refine x_iald C (rm_7 hp0) (ib_in g16) d_Hall_open_60 ?_
    obtain ⟨g17, h0⟩ := xgo h0
    refine x_iast C (hl_3 hh) (ib_in g17) d_Hall_open_61 ?_
    obtain ⟨σ18, eσ18, h0⟩ := xlet h0
    refine x_sig C eσ18 ?_
    refine x_aload_n C d_Hall_open_62 0 rfl ?_
    refine x_getR (y := 4) C fg_Hall_21 (hl_0 hh) rfl d_Hall_open_63 ?_
    refine x_iload_n C d_Hall_open_66 2 rfl ?_
    refine x_iconst (v := 0) C d_Hall_open_67 (by decide) ?_
    obtain ⟨g19, h0⟩ := xgo h0
    refine x_iast C (hl_4 hh) (ib_in g19) d_Hall_open_68 ?_
    obtain ⟨σ20, eσ20, h0⟩ := xlet h0
    refine x_sig C eσ20 ?_
    refine x_aload_n C d_Hall_open_69 0 rfl ?_
    refine x_getR (y := 1) C fg_Hall_9 (hl_0 hh) rfl d_Hall_open_70 ?_
    refine x_iload_n C d_Hall_open_73 2 rfl ?_
    refine x_iconst (v := (-1)) C d_Hall_open_74 (by decide) ?_
    obtain ⟨g21, h0⟩ := xgo h0
    refine x_iast C (hl_1 hh) (ib_in g21) d_Hall_open_75 ?_
    obtain ⟨σ22, eσ22, h0⟩ := xlet h0
    refine x_sig C eσ22 ?_
    obtain ⟨x23, ex23, h0⟩ := xlet h0
    refine x_iinc (lv' := [(2, .int x23), (0, .ref (G.2.2.1 + h)), (1, .ref (G.2.2.1 + p0))]) C d_Hall_open_76 2 rfl ex23 (by decide) rfl ?_
    refine x_goto C 37 d_Hall_open_79 (by decide) ?_
    exact x_lv C [1, 2, 0] rfl (hrec37 _ _ h0)
theorem b_Hall_open_37 {G : XG} {l : Launch} {p : Program} {e : Env} {R : Room} {s : State} {m : MethodId} {args : Array Value} {below : List Frame} {meth : Method} {c : Code} (C : XC G 1 570 p s m args c prog_6_method_2_code 3 R_Hall) (hr : meth.sig.returnType = none) (hk : meth.locks = false) {d : Nat} (hd : 2 ≤ d + 1) (hR : xroom R (d + 1)) {h : Nat} {p0 : Nat} (hh : h ∈ xHalls) (hp0 : p0 ∈ xRooms) {σ' : LH} : ∀ (n : Nat) (y2 : Int32) (σ : LH), s_Hall_open_37 h p0 n y2 σ = some σ' → XJ G 1 570 p l e R s m args below meth c 3 (XQ G 1 570 below args s none σ') 0 0 37 [(0, .ref (G.2.2.1 + h)), (1, .ref (G.2.2.1 + p0)), (2, .int y2)] [] σ := by
  intro n
  induction n with
  | zero => intro y2 σ h0; cases h0
  | succ n ih => intro y2 σ h0; exact bb_Hall_open_37 C hr hk hd hR hh hp0 ih h0
def s_Hall_open_2_b (h : Nat) (p0 : Nat) (rec2 : Int32 → LH → Option (LH)) (y2 : Int32) (σ : LH) : Option (LH) :=
  if 8 ≤ y2 then (
   s_Hall_open_37 h p0 FUEL 0 σ)
  else (
   if ib y2 8 then (
   xl ((stI σ (h + 5) (Int32.toNatClampNeg y2) (-1)) : LH) fun σ25 =>
   if ib y2 8 then (
   xl ((stI σ25 (h + 6) (Int32.toNatClampNeg y2) (-1)) : LH) fun σ27 =>
   if ib y2 8 then (
   xl ((stI σ27 (h + 7) (Int32.toNatClampNeg y2) (-1)) : LH) fun σ29 =>
   xl ((y2 + 1) : Int32) fun x30 =>
   rec2 x30 σ29) else none) else none) else none)
def s_Hall_open_2 (h : Nat) (p0 : Nat) : Nat → Int32 → LH → Option (LH)
  | 0, _, _ => none
  | n + 1, y2, σ => s_Hall_open_2_b h p0 (s_Hall_open_2 h p0 n) y2 σ
theorem bb_Hall_open_2 {G : XG} {l : Launch} {p : Program} {e : Env} {R : Room} {s : State} {m : MethodId} {args : Array Value} {below : List Frame} {meth : Method} {c : Code} (C : XC G 1 570 p s m args c prog_6_method_2_code 3 R_Hall) (hr : meth.sig.returnType = none) (hk : meth.locks = false) {d : Nat} (hd : 2 ≤ d + 1) (hR : xroom R (d + 1)) {h : Nat} {p0 : Nat} (hh : h ∈ xHalls) (hp0 : p0 ∈ xRooms) {rec2 : Int32 → LH → Option (LH)} {σ' : LH} (hrec2 : ∀ (y2 : Int32) (σ : LH), rec2 y2 σ = some σ' → XJ G 1 570 p l e R s m args below meth c 3 (XQ G 1 570 below args s none σ') 0 0 2 [(0, .ref (G.2.2.1 + h)), (1, .ref (G.2.2.1 + p0)), (2, .int y2)] [] σ) {y2 : Int32} {σ : LH} (h0 : s_Hall_open_2_b h p0 rec2 y2 σ = some σ') : XJ G 1 570 p l e R s m args below meth c 3 (XQ G 1 570 below args s none σ') 0 0 2 [(0, .ref (G.2.2.1 + h)), (1, .ref (G.2.2.1 + p0)), (2, .int y2)] [] σ := by
  replace h0 := (show _ = _ from h0)
  unfold s_Hall_open_2_b at h0
  refine x_iload_n C d_Hall_open_2 2 rfl ?_
  refine x_bipush (v := 8) C d_Hall_open_3 (by decide) ?_
  refine x_icmp_ge C 35 d_Hall_open_5 (by decide) (fun q1 => ?_) (fun q1 => ?_)
  · replace h0 := xit q1 h0
    refine x_iconst (v := 0) C d_Hall_open_35 (by decide) ?_
    refine x_istore_n (lv' := [(2, .int 0), (0, .ref (G.2.2.1 + h)), (1, .ref (G.2.2.1 + p0))]) C d_Hall_open_36 rfl (by decide) rfl ?_
    exact x_lv C [1, 2, 0] rfl (b_Hall_open_37 C hr hk hd hR hh hp0 FUEL _ _ h0)
  · replace h0 := xif q1 h0
    refine x_aload_n C d_Hall_open_8 0 rfl ?_
    refine x_getR (y := 5) C fg_Hall_24 (hl_0 hh) rfl d_Hall_open_9 ?_
    refine x_iload_n C d_Hall_open_12 2 rfl ?_
    refine x_iconst (v := (-1)) C d_Hall_open_13 (by decide) ?_
    obtain ⟨g24, h0⟩ := xgo h0
    refine x_iast C (hl_5 hh) (ib_in g24) d_Hall_open_14 ?_
    obtain ⟨σ25, eσ25, h0⟩ := xlet h0
    refine x_sig C eσ25 ?_
    refine x_aload_n C d_Hall_open_15 0 rfl ?_
    refine x_getR (y := 6) C fg_Hall_27 (hl_0 hh) rfl d_Hall_open_16 ?_
    refine x_iload_n C d_Hall_open_19 2 rfl ?_
    refine x_iconst (v := (-1)) C d_Hall_open_20 (by decide) ?_
    obtain ⟨g26, h0⟩ := xgo h0
    refine x_iast C (hl_6 hh) (ib_in g26) d_Hall_open_21 ?_
    obtain ⟨σ27, eσ27, h0⟩ := xlet h0
    refine x_sig C eσ27 ?_
    refine x_aload_n C d_Hall_open_22 0 rfl ?_
    refine x_getR (y := 7) C fg_Hall_30 (hl_0 hh) rfl d_Hall_open_23 ?_
    refine x_iload_n C d_Hall_open_26 2 rfl ?_
    refine x_iconst (v := (-1)) C d_Hall_open_27 (by decide) ?_
    obtain ⟨g28, h0⟩ := xgo h0
    refine x_iast C (hl_7 hh) (ib_in g28) d_Hall_open_28 ?_
    obtain ⟨σ29, eσ29, h0⟩ := xlet h0
    refine x_sig C eσ29 ?_
    obtain ⟨x30, ex30, h0⟩ := xlet h0
    refine x_iinc (lv' := [(2, .int x30), (0, .ref (G.2.2.1 + h)), (1, .ref (G.2.2.1 + p0))]) C d_Hall_open_29 2 rfl ex30 (by decide) rfl ?_
    refine x_goto C 2 d_Hall_open_32 (by decide) ?_
    exact x_lv C [1, 2, 0] rfl (hrec2 _ _ h0)
theorem b_Hall_open_2 {G : XG} {l : Launch} {p : Program} {e : Env} {R : Room} {s : State} {m : MethodId} {args : Array Value} {below : List Frame} {meth : Method} {c : Code} (C : XC G 1 570 p s m args c prog_6_method_2_code 3 R_Hall) (hr : meth.sig.returnType = none) (hk : meth.locks = false) {d : Nat} (hd : 2 ≤ d + 1) (hR : xroom R (d + 1)) {h : Nat} {p0 : Nat} (hh : h ∈ xHalls) (hp0 : p0 ∈ xRooms) {σ' : LH} : ∀ (n : Nat) (y2 : Int32) (σ : LH), s_Hall_open_2 h p0 n y2 σ = some σ' → XJ G 1 570 p l e R s m args below meth c 3 (XQ G 1 570 below args s none σ') 0 0 2 [(0, .ref (G.2.2.1 + h)), (1, .ref (G.2.2.1 + p0)), (2, .int y2)] [] σ := by
  intro n
  induction n with
  | zero => intro y2 σ h0; cases h0
  | succ n ih => intro y2 σ h0; exact bb_Hall_open_2 C hr hk hd hR hh hp0 ih h0
def s_Hall_open (h : Nat) (p0 : Nat) (σ : LH) : Option (LH) :=
  s_Hall_open_2 h p0 FUEL 0 σ
theorem c_Hall_open {G : XG} {l : Launch} {d : Nat} (hd : 2 ≤ d) {h : Nat} {p0 : Nat} (hh : h ∈ xHalls) (hp0 : p0 ∈ xRooms) {σ σ' : LH} (h0 : s_Hall_open h p0 σ = some σ') : xM G 1 570 l y_Hall_open prog_6_method_2_code 3 none d [.ref (G.2.2.1 + h), .ref (G.2.2.1 + p0)] σ none σ' := by
  obtain ⟨d, rfl⟩ : ∃ q, d = q + 1 := ⟨d - 1, by omega⟩
  refine x_met R_Hall rfl (by decide +kernel) (Nat.le_of_ble_eq_true rfl) fun p e s m below meth c C hr hk hR => ?_
  refine x_lv (lv' := [(0, .ref (G.2.2.1 + h)), (1, .ref (G.2.2.1 + p0))]) C [0, 1] rfl ?_
  generalize xrm (d + 1) = R at hR ⊢
  unfold s_Hall_open at h0
  refine x_iconst (v := 0) C d_Hall_open_0 (by decide) ?_
  refine x_istore_n (lv' := [(2, .int 0), (0, .ref (G.2.2.1 + h)), (1, .ref (G.2.2.1 + p0))]) C d_Hall_open_1 rfl (by decide) rfl ?_
  exact x_lv C [1, 2, 0] rfl (b_Hall_open_2 C hr hk hd hR hh hp0 FUEL _ _ h0)
-- LostPlaces$Taste.valueOf(I[I)I
theorem d_Taste_valueOf_0 : decode prog_11_method_7_code 0 = .ok (.iload_n 0, 1) := by decide +kernel
theorem d_Taste_valueOf_1 : decode prog_11_method_7_code 1 = .ok (.ifCond .lt 5, 3) := by decide +kernel
theorem d_Taste_valueOf_4 : decode prog_11_method_7_code 4 = .ok (.iload_n 0, 1) := by decide +kernel
theorem d_Taste_valueOf_5 : decode prog_11_method_7_code 5 = .ok (.ireturn, 1) := by decide +kernel
theorem d_Taste_valueOf_6 : decode prog_11_method_7_code 6 = .ok (.iconst (-1), 1) := by decide +kernel
theorem d_Taste_valueOf_7 : decode prog_11_method_7_code 7 = .ok (.iload_n 0, 1) := by decide +kernel
theorem d_Taste_valueOf_8 : decode prog_11_method_7_code 8 = .ok (.isub, 1) := by decide +kernel
theorem d_Taste_valueOf_9 : decode prog_11_method_7_code 9 = .ok (.istore_n 2, 1) := by decide +kernel
theorem d_Taste_valueOf_10 : decode prog_11_method_7_code 10 = .ok (.iload_n 2, 1) := by decide +kernel
theorem d_Taste_valueOf_11 : decode prog_11_method_7_code 11 = .ok (.ifCond .lt 15, 3) := by decide +kernel
theorem d_Taste_valueOf_14 : decode prog_11_method_7_code 14 = .ok (.iload_n 2, 1) := by decide +kernel
theorem d_Taste_valueOf_15 : decode prog_11_method_7_code 15 = .ok (.aload_n 1, 1) := by decide +kernel
theorem d_Taste_valueOf_16 : decode prog_11_method_7_code 16 = .ok (.arraylength, 1) := by decide +kernel
theorem d_Taste_valueOf_17 : decode prog_11_method_7_code 17 = .ok (.if_icmp .ge 9, 3) := by decide +kernel
theorem d_Taste_valueOf_20 : decode prog_11_method_7_code 20 = .ok (.aload_n 1, 1) := by decide +kernel
theorem d_Taste_valueOf_21 : decode prog_11_method_7_code 21 = .ok (.iload_n 2, 1) := by decide +kernel
theorem d_Taste_valueOf_22 : decode prog_11_method_7_code 22 = .ok (.iaload, 1) := by decide +kernel
theorem d_Taste_valueOf_23 : decode prog_11_method_7_code 23 = .ok (.goto 4, 3) := by decide +kernel
theorem d_Taste_valueOf_26 : decode prog_11_method_7_code 26 = .ok (.iconst 0, 1) := by decide +kernel
theorem d_Taste_valueOf_27 : decode prog_11_method_7_code 27 = .ok (.ireturn, 1) := by decide +kernel
def s_Taste_valueOf_27 (p0 : Int32) (p1 : Nat) (z0 : Int32) (σ : LH) : Option (Int32 × LH) :=
  some (z0, σ)
theorem b_Taste_valueOf_27 {G : XG} {l : Launch} {p : Program} {e : Env} {R : Room} {s : State} {m : MethodId} {args : Array Value} {below : List Frame} {meth : Method} {c : Code} (C : XC G 1 570 p s m args c prog_11_method_7_code 3 R_Taste) (hr : meth.sig.returnType = (some .int)) (hk : meth.locks = false) {d : Nat} (hd : 1 ≤ d + 1) (hR : xroom R (d + 1)) {p0 : Int32} {p1 : Nat} (hp1 : xin 1 570 p1 (2, 6, 0)) {σ' : LH} {r : Int32} {z0 : Int32} {σ : LH} (h0 : s_Taste_valueOf_27 p0 p1 z0 σ = some (r, σ')) : XJ G 1 570 p l e R s m args below meth c 3 (XQ G 1 570 below args s (some (.int r)) σ') 0 0 27 [] [.int z0] σ := by
  replace h0 := (show _ = _ from h0)
  unfold s_Taste_valueOf_27 at h0
  exact x_iret C hr hk h0 d_Taste_valueOf_27
def s_Taste_valueOf_26 (p0 : Int32) (p1 : Nat) (σ : LH) : Option (Int32 × LH) :=
  s_Taste_valueOf_27 p0 p1 0 σ
theorem b_Taste_valueOf_26 {G : XG} {l : Launch} {p : Program} {e : Env} {R : Room} {s : State} {m : MethodId} {args : Array Value} {below : List Frame} {meth : Method} {c : Code} (C : XC G 1 570 p s m args c prog_11_method_7_code 3 R_Taste) (hr : meth.sig.returnType = (some .int)) (hk : meth.locks = false) {d : Nat} (hd : 1 ≤ d + 1) (hR : xroom R (d + 1)) {p0 : Int32} {p1 : Nat} (hp1 : xin 1 570 p1 (2, 6, 0)) {σ' : LH} {r : Int32} {σ : LH} (h0 : s_Taste_valueOf_26 p0 p1 σ = some (r, σ')) : XJ G 1 570 p l e R s m args below meth c 3 (XQ G 1 570 below args s (some (.int r)) σ') 0 0 26 [] [] σ := by
  replace h0 := (show _ = _ from h0)
  unfold s_Taste_valueOf_26 at h0
  refine x_iconst (v := 0) C d_Taste_valueOf_26 (by decide) ?_
  exact x_lv C [] rfl (b_Taste_valueOf_27 C hr hk hd hR hp1 h0)
def s_Taste_valueOf (p0 : Int32) (p1 : Nat) (σ : LH) : Option (Int32 × LH) :=
  if p0 < 0 then (
   xl ((((-1) - p0)) : Int32) fun x2 =>
   if x2 < 0 then (
    s_Taste_valueOf_26 p0 p1 σ)
   else (
    if 6 ≤ x2 then (
     s_Taste_valueOf_26 p0 p1 σ)
    else (
     if ib x2 6 then (
     s_Taste_valueOf_27 p0 p1 (σ.1 p1 (Int32.toNatClampNeg x2)) σ) else none)))
  else (
   some (p0, σ))
theorem c_Taste_valueOf {G : XG} {l : Launch} {d : Nat} (hd : 1 ≤ d) {p0 : Int32} {p1 : Nat} (hp1 : xin 1 570 p1 (2, 6, 0)) {σ σ' : LH} {r : Int32} (h0 : s_Taste_valueOf p0 p1 σ = some (r, σ')) : xM G 1 570 l y_Taste_valueOf prog_11_method_7_code 3 (some .int) d [.int p0, .ref (G.2.2.1 + p1)] σ (some (.int r)) σ' := by
  obtain ⟨d, rfl⟩ : ∃ q, d = q + 1 := ⟨d - 1, by omega⟩
  refine x_met R_Taste rfl (by decide +kernel) (Nat.le_of_ble_eq_true rfl) fun p e s m below meth c C hr hk hR => ?_
  refine x_lv (lv' := [(0, .int p0), (1, .ref (G.2.2.1 + p1))]) C [0, 1] rfl ?_
  generalize xrm (d + 1) = R at hR ⊢
  unfold s_Taste_valueOf at h0
  refine x_iload_n C d_Taste_valueOf_0 0 rfl ?_
  refine x_if_lt C 6 d_Taste_valueOf_1 (by decide) (fun q1 => ?_) (fun q1 => ?_)
  · replace h0 := xit q1 h0
    refine x_iconst (v := (-1)) C d_Taste_valueOf_6 (by decide) ?_
    refine x_iload_n C d_Taste_valueOf_7 0 rfl ?_
    refine x_isub C d_Taste_valueOf_8 ?_
    obtain ⟨x2, ex2, h0⟩ := xlet h0
    refine x_name C ex2 ?_
    refine x_istore_n (lv' := [(2, .int x2), (0, .int p0), (1, .ref (G.2.2.1 + p1))]) C d_Taste_valueOf_9 rfl (by decide) rfl ?_
    refine x_iload_n C d_Taste_valueOf_10 0 rfl ?_
    refine x_if_lt C 26 d_Taste_valueOf_11 (by decide) (fun q3 => ?_) (fun q3 => ?_)
    · replace h0 := xit q3 h0
      exact x_lv C [] rfl (b_Taste_valueOf_26 C hr hk hd hR hp1 h0)
    · replace h0 := xif q3 h0
      refine x_iload_n C d_Taste_valueOf_14 0 rfl ?_
      refine x_aload_n C d_Taste_valueOf_15 2 rfl ?_
      refine x_ilen (v := 6) C hp1 rfl d_Taste_valueOf_16 ?_
      refine x_icmp_ge C 26 d_Taste_valueOf_17 (by decide) (fun q4 => ?_) (fun q4 => ?_)
      · replace h0 := xit q4 h0
        exact x_lv C [] rfl (b_Taste_valueOf_26 C hr hk hd hR hp1 h0)
      · replace h0 := xif q4 h0
        refine x_aload_n C d_Taste_valueOf_20 2 rfl ?_
        refine x_iload_n C d_Taste_valueOf_21 0 rfl ?_
        obtain ⟨g5, h0⟩ := xgo h0
        refine x_iald C hp1 (ib_in g5) d_Taste_valueOf_22 ?_
        refine x_goto C 27 d_Taste_valueOf_23 (by decide) ?_
        exact x_lv C [] rfl (b_Taste_valueOf_27 C hr hk hd hR hp1 h0)
  · replace h0 := xif q1 h0
    refine x_iload_n C d_Taste_valueOf_4 0 rfl ?_
    exact x_iret C hr hk h0 d_Taste_valueOf_5
-- LostPlaces$Taste.join(III)I
theorem d_Taste_join_0 : decode prog_11_method_8_code 0 = .ok (.iload_n 0, 1) := by decide +kernel
theorem d_Taste_join_1 : decode prog_11_method_8_code 1 = .ok (.tableswitch 128 (-18) (-11) #[124, 113, 102, 91, 74, 65, 56, 47], 47) := by decide +kernel
theorem d_Taste_join_48 : decode prog_11_method_8_code 48 = .ok (.iload_n 1, 1) := by decide +kernel
theorem d_Taste_join_49 : decode prog_11_method_8_code 49 = .ok (.i2l, 1) := by decide +kernel
theorem d_Taste_join_50 : decode prog_11_method_8_code 50 = .ok (.iload_n 2, 1) := by decide +kernel
theorem d_Taste_join_51 : decode prog_11_method_8_code 51 = .ok (.i2l, 1) := by decide +kernel
theorem d_Taste_join_52 : decode prog_11_method_8_code 52 = .ok (.ladd, 1) := by decide +kernel
theorem d_Taste_join_53 : decode prog_11_method_8_code 53 = .ok (.lstore_n 3, 1) := by decide +kernel
theorem d_Taste_join_54 : decode prog_11_method_8_code 54 = .ok (.goto 79, 3) := by decide +kernel
theorem d_Taste_join_57 : decode prog_11_method_8_code 57 = .ok (.iload_n 1, 1) := by decide +kernel
theorem d_Taste_join_58 : decode prog_11_method_8_code 58 = .ok (.i2l, 1) := by decide +kernel
theorem d_Taste_join_59 : decode prog_11_method_8_code 59 = .ok (.iload_n 2, 1) := by decide +kernel
theorem d_Taste_join_60 : decode prog_11_method_8_code 60 = .ok (.i2l, 1) := by decide +kernel
theorem d_Taste_join_61 : decode prog_11_method_8_code 61 = .ok (.lsub, 1) := by decide +kernel
theorem d_Taste_join_62 : decode prog_11_method_8_code 62 = .ok (.lstore_n 3, 1) := by decide +kernel
theorem d_Taste_join_63 : decode prog_11_method_8_code 63 = .ok (.goto 70, 3) := by decide +kernel
theorem d_Taste_join_66 : decode prog_11_method_8_code 66 = .ok (.iload_n 1, 1) := by decide +kernel
theorem d_Taste_join_67 : decode prog_11_method_8_code 67 = .ok (.i2l, 1) := by decide +kernel
theorem d_Taste_join_68 : decode prog_11_method_8_code 68 = .ok (.iload_n 2, 1) := by decide +kernel
theorem d_Taste_join_69 : decode prog_11_method_8_code 69 = .ok (.i2l, 1) := by decide +kernel
theorem d_Taste_join_70 : decode prog_11_method_8_code 70 = .ok (.lmul, 1) := by decide +kernel
theorem d_Taste_join_71 : decode prog_11_method_8_code 71 = .ok (.lstore_n 3, 1) := by decide +kernel
theorem d_Taste_join_72 : decode prog_11_method_8_code 72 = .ok (.goto 61, 3) := by decide +kernel
theorem d_Taste_join_75 : decode prog_11_method_8_code 75 = .ok (.iload_n 2, 1) := by decide +kernel
theorem d_Taste_join_76 : decode prog_11_method_8_code 76 = .ok (.ifCond .ne 7, 3) := by decide +kernel
theorem d_Taste_join_79 : decode prog_11_method_8_code 79 = .ok (.lconst 0, 1) := by decide +kernel
theorem d_Taste_join_80 : decode prog_11_method_8_code 80 = .ok (.goto 8, 3) := by decide +kernel
theorem d_Taste_join_83 : decode prog_11_method_8_code 83 = .ok (.iload_n 1, 1) := by decide +kernel
theorem d_Taste_join_84 : decode prog_11_method_8_code 84 = .ok (.i2l, 1) := by decide +kernel
theorem d_Taste_join_85 : decode prog_11_method_8_code 85 = .ok (.iload_n 2, 1) := by decide +kernel
theorem d_Taste_join_86 : decode prog_11_method_8_code 86 = .ok (.i2l, 1) := by decide +kernel
theorem d_Taste_join_87 : decode prog_11_method_8_code 87 = .ok (.ldiv, 1) := by decide +kernel
theorem d_Taste_join_88 : decode prog_11_method_8_code 88 = .ok (.lstore_n 3, 1) := by decide +kernel
theorem d_Taste_join_89 : decode prog_11_method_8_code 89 = .ok (.goto 44, 3) := by decide +kernel
theorem d_Taste_join_92 : decode prog_11_method_8_code 92 = .ok (.iload_n 1, 1) := by decide +kernel
theorem d_Taste_join_93 : decode prog_11_method_8_code 93 = .ok (.iload_n 2, 1) := by decide +kernel
theorem d_Taste_join_94 : decode prog_11_method_8_code 94 = .ok (.if_icmp .ne 7, 3) := by decide +kernel
theorem d_Taste_join_97 : decode prog_11_method_8_code 97 = .ok (.iconst 1, 1) := by decide +kernel
theorem d_Taste_join_98 : decode prog_11_method_8_code 98 = .ok (.goto 4, 3) := by decide +kernel
theorem d_Taste_join_101 : decode prog_11_method_8_code 101 = .ok (.iconst 0, 1) := by decide +kernel
theorem d_Taste_join_102 : decode prog_11_method_8_code 102 = .ok (.ireturn, 1) := by decide +kernel
theorem d_Taste_join_103 : decode prog_11_method_8_code 103 = .ok (.iload_n 1, 1) := by decide +kernel
theorem d_Taste_join_104 : decode prog_11_method_8_code 104 = .ok (.iload_n 2, 1) := by decide +kernel
theorem d_Taste_join_105 : decode prog_11_method_8_code 105 = .ok (.if_icmp .ge 7, 3) := by decide +kernel
theorem d_Taste_join_108 : decode prog_11_method_8_code 108 = .ok (.iconst 1, 1) := by decide +kernel
theorem d_Taste_join_109 : decode prog_11_method_8_code 109 = .ok (.goto 4, 3) := by decide +kernel
theorem d_Taste_join_112 : decode prog_11_method_8_code 112 = .ok (.iconst 0, 1) := by decide +kernel
theorem d_Taste_join_113 : decode prog_11_method_8_code 113 = .ok (.ireturn, 1) := by decide +kernel
theorem d_Taste_join_114 : decode prog_11_method_8_code 114 = .ok (.iload_n 1, 1) := by decide +kernel
theorem d_Taste_join_115 : decode prog_11_method_8_code 115 = .ok (.iload_n 2, 1) := by decide +kernel
theorem d_Taste_join_116 : decode prog_11_method_8_code 116 = .ok (.if_icmp .le 7, 3) := by decide +kernel
theorem d_Taste_join_119 : decode prog_11_method_8_code 119 = .ok (.iconst 1, 1) := by decide +kernel
theorem d_Taste_join_120 : decode prog_11_method_8_code 120 = .ok (.goto 4, 3) := by decide +kernel
theorem d_Taste_join_123 : decode prog_11_method_8_code 123 = .ok (.iconst 0, 1) := by decide +kernel
theorem d_Taste_join_124 : decode prog_11_method_8_code 124 = .ok (.ireturn, 1) := by decide +kernel
theorem d_Taste_join_125 : decode prog_11_method_8_code 125 = .ok (.iload_n 1, 1) := by decide +kernel
theorem d_Taste_join_126 : decode prog_11_method_8_code 126 = .ok (.iload_n 2, 1) := by decide +kernel
theorem d_Taste_join_127 : decode prog_11_method_8_code 127 = .ok (.iand, 1) := by decide +kernel
theorem d_Taste_join_128 : decode prog_11_method_8_code 128 = .ok (.ireturn, 1) := by decide +kernel
theorem d_Taste_join_129 : decode prog_11_method_8_code 129 = .ok (.iload_n 1, 1) := by decide +kernel
theorem d_Taste_join_130 : decode prog_11_method_8_code 130 = .ok (.iload_n 2, 1) := by decide +kernel
theorem d_Taste_join_131 : decode prog_11_method_8_code 131 = .ok (.ior, 1) := by decide +kernel
theorem d_Taste_join_132 : decode prog_11_method_8_code 132 = .ok (.ireturn, 1) := by decide +kernel
theorem d_Taste_join_133 : decode prog_11_method_8_code 133 = .ok (.lload_n 3, 1) := by decide +kernel
theorem d_Taste_join_134 : decode prog_11_method_8_code 134 = .ok (.ldc2_w 38, 3) := by decide +kernel
theorem d_Taste_join_137 : decode prog_11_method_8_code 137 = .ok (.lcmp, 1) := by decide +kernel
theorem d_Taste_join_138 : decode prog_11_method_8_code 138 = .ok (.ifCond .le 9, 3) := by decide +kernel
theorem d_Taste_join_141 : decode prog_11_method_8_code 141 = .ok (.ldc2_w 38, 3) := by decide +kernel
theorem d_Taste_join_144 : decode prog_11_method_8_code 144 = .ok (.goto 18, 3) := by decide +kernel
theorem d_Taste_join_147 : decode prog_11_method_8_code 147 = .ok (.lload_n 3, 1) := by decide +kernel
theorem d_Taste_join_148 : decode prog_11_method_8_code 148 = .ok (.ldc2_w 40, 3) := by decide +kernel
theorem d_Taste_join_151 : decode prog_11_method_8_code 151 = .ok (.lcmp, 1) := by decide +kernel
theorem d_Taste_join_152 : decode prog_11_method_8_code 152 = .ok (.ifCond .ge 9, 3) := by decide +kernel
theorem d_Taste_join_155 : decode prog_11_method_8_code 155 = .ok (.ldc2_w 40, 3) := by decide +kernel
theorem d_Taste_join_158 : decode prog_11_method_8_code 158 = .ok (.goto 4, 3) := by decide +kernel
theorem d_Taste_join_161 : decode prog_11_method_8_code 161 = .ok (.lload_n 3, 1) := by decide +kernel
theorem d_Taste_join_162 : decode prog_11_method_8_code 162 = .ok (.l2i, 1) := by decide +kernel
theorem d_Taste_join_163 : decode prog_11_method_8_code 163 = .ok (.ireturn, 1) := by decide +kernel
def s_Taste_join_124 (p0 : Int32) (p1 : Int32) (p2 : Int32) (z0 : Int32) (σ : LH) : Option (Int32 × LH) :=
  some (z0, σ)
theorem b_Taste_join_124 {G : XG} {l : Launch} {p : Program} {e : Env} {R : Room} {s : State} {m : MethodId} {args : Array Value} {below : List Frame} {meth : Method} {c : Code} (C : XC G 1 570 p s m args c prog_11_method_8_code 5 R_Taste) (hr : meth.sig.returnType = (some .int)) (hk : meth.locks = false) {d : Nat} (hd : 1 ≤ d + 1) (hR : xroom R (d + 1)) {p0 : Int32} {p1 : Int32} {p2 : Int32} {σ' : LH} {r : Int32} {z0 : Int32} {σ : LH} (h0 : s_Taste_join_124 p0 p1 p2 z0 σ = some (r, σ')) : XJ G 1 570 p l e R s m args below meth c 5 (XQ G 1 570 below args s (some (.int r)) σ') 0 0 124 [] [.int z0] σ := by
  replace h0 := (show _ = _ from h0)
  unfold s_Taste_join_124 at h0
  exact x_iret C hr hk h0 d_Taste_join_124
def s_Taste_join_113 (p0 : Int32) (p1 : Int32) (p2 : Int32) (z0 : Int32) (σ : LH) : Option (Int32 × LH) :=
  some (z0, σ)
theorem b_Taste_join_113 {G : XG} {l : Launch} {p : Program} {e : Env} {R : Room} {s : State} {m : MethodId} {args : Array Value} {below : List Frame} {meth : Method} {c : Code} (C : XC G 1 570 p s m args c prog_11_method_8_code 5 R_Taste) (hr : meth.sig.returnType = (some .int)) (hk : meth.locks = false) {d : Nat} (hd : 1 ≤ d + 1) (hR : xroom R (d + 1)) {p0 : Int32} {p1 : Int32} {p2 : Int32} {σ' : LH} {r : Int32} {z0 : Int32} {σ : LH} (h0 : s_Taste_join_113 p0 p1 p2 z0 σ = some (r, σ')) : XJ G 1 570 p l e R s m args below meth c 5 (XQ G 1 570 below args s (some (.int r)) σ') 0 0 113 [] [.int z0] σ := by
  replace h0 := (show _ = _ from h0)
  unfold s_Taste_join_113 at h0
  exact x_iret C hr hk h0 d_Taste_join_113
def s_Taste_join_102 (p0 : Int32) (p1 : Int32) (p2 : Int32) (z0 : Int32) (σ : LH) : Option (Int32 × LH) :=
  some (z0, σ)
theorem b_Taste_join_102 {G : XG} {l : Launch} {p : Program} {e : Env} {R : Room} {s : State} {m : MethodId} {args : Array Value} {below : List Frame} {meth : Method} {c : Code} (C : XC G 1 570 p s m args c prog_11_method_8_code 5 R_Taste) (hr : meth.sig.returnType = (some .int)) (hk : meth.locks = false) {d : Nat} (hd : 1 ≤ d + 1) (hR : xroom R (d + 1)) {p0 : Int32} {p1 : Int32} {p2 : Int32} {σ' : LH} {r : Int32} {z0 : Int32} {σ : LH} (h0 : s_Taste_join_102 p0 p1 p2 z0 σ = some (r, σ')) : XJ G 1 570 p l e R s m args below meth c 5 (XQ G 1 570 below args s (some (.int r)) σ') 0 0 102 [] [.int z0] σ := by
  replace h0 := (show _ = _ from h0)
  unfold s_Taste_join_102 at h0
  exact x_iret C hr hk h0 d_Taste_join_102
def s_Taste_join_162 (p0 : Int32) (p1 : Int32) (p2 : Int32) (z0 : Int64) (σ : LH) : Option (Int32 × LH) :=
  some ((Int64.toInt32 z0), σ)
theorem b_Taste_join_162 {G : XG} {l : Launch} {p : Program} {e : Env} {R : Room} {s : State} {m : MethodId} {args : Array Value} {below : List Frame} {meth : Method} {c : Code} (C : XC G 1 570 p s m args c prog_11_method_8_code 5 R_Taste) (hr : meth.sig.returnType = (some .int)) (hk : meth.locks = false) {d : Nat} (hd : 1 ≤ d + 1) (hR : xroom R (d + 1)) {p0 : Int32} {p1 : Int32} {p2 : Int32} {σ' : LH} {r : Int32} {z0 : Int64} {σ : LH} (h0 : s_Taste_join_162 p0 p1 p2 z0 σ = some (r, σ')) : XJ G 1 570 p l e R s m args below meth c 5 (XQ G 1 570 below args s (some (.int r)) σ') 0 0 162 [] [.long (z0)] σ := by
  replace h0 := (show _ = _ from h0)
  unfold s_Taste_join_162 at h0
  refine x_l2i C d_Taste_join_162 ?_
  exact x_iret C hr hk h0 d_Taste_join_163
def s_Taste_join_133 (p0 : Int32) (p1 : Int32) (p2 : Int32) (y3 : Int64) (σ : LH) : Option (Int32 × LH) :=
  if (lg_cmp y3 1000000) ≤ 0 then (
   if 0 ≤ (lg_cmp y3 (-1000000)) then (
    s_Taste_join_162 p0 p1 p2 y3 σ)
   else (
    s_Taste_join_162 p0 p1 p2 (-1000000) σ))
  else (
   s_Taste_join_162 p0 p1 p2 1000000 σ)
theorem b_Taste_join_133 {G : XG} {l : Launch} {p : Program} {e : Env} {R : Room} {s : State} {m : MethodId} {args : Array Value} {below : List Frame} {meth : Method} {c : Code} (C : XC G 1 570 p s m args c prog_11_method_8_code 5 R_Taste) (hr : meth.sig.returnType = (some .int)) (hk : meth.locks = false) {d : Nat} (hd : 1 ≤ d + 1) (hR : xroom R (d + 1)) {p0 : Int32} {p1 : Int32} {p2 : Int32} {σ' : LH} {r : Int32} {y3 : Int64} {σ : LH} (h0 : s_Taste_join_133 p0 p1 p2 y3 σ = some (r, σ')) : XJ G 1 570 p l e R s m args below meth c 5 (XQ G 1 570 below args s (some (.int r)) σ') 0 0 133 [(3, .long (y3))] [] σ := by
  replace h0 := (show _ = _ from h0)
  unfold s_Taste_join_133 at h0
  refine x_lload_n C d_Taste_join_133 0 rfl ?_
  refine x_ldc2 (v := 1000000) C w_944 d_Taste_join_134 ?_
  refine x_lcmp C d_Taste_join_137 ?_
  refine x_if_le C 147 d_Taste_join_138 (by decide) (fun q5 => ?_) (fun q5 => ?_)
  · replace h0 := xit q5 h0
    refine x_lload_n C d_Taste_join_147 0 rfl ?_
    refine x_ldc2 (v := (-1000000)) C w_945 d_Taste_join_148 ?_
    refine x_lcmp C d_Taste_join_151 ?_
    refine x_if_ge C 161 d_Taste_join_152 (by decide) (fun q6 => ?_) (fun q6 => ?_)
    · replace h0 := xit q6 h0
      refine x_lload_n C d_Taste_join_161 0 rfl ?_
      exact x_lv C [] rfl (b_Taste_join_162 C hr hk hd hR h0)
    · replace h0 := xif q6 h0
      refine x_ldc2 (v := (-1000000)) C w_945 d_Taste_join_155 ?_
      refine x_goto C 162 d_Taste_join_158 (by decide) ?_
      exact x_lv C [] rfl (b_Taste_join_162 C hr hk hd hR h0)
  · replace h0 := xif q5 h0
    refine x_ldc2 (v := 1000000) C w_944 d_Taste_join_141 ?_
    refine x_goto C 162 d_Taste_join_144 (by decide) ?_
    exact x_lv C [] rfl (b_Taste_join_162 C hr hk hd hR h0)
def s_Taste_join_88 (p0 : Int32) (p1 : Int32) (p2 : Int32) (z0 : Int64) (σ : LH) : Option (Int32 × LH) :=
  s_Taste_join_133 p0 p1 p2 z0 σ
theorem b_Taste_join_88 {G : XG} {l : Launch} {p : Program} {e : Env} {R : Room} {s : State} {m : MethodId} {args : Array Value} {below : List Frame} {meth : Method} {c : Code} (C : XC G 1 570 p s m args c prog_11_method_8_code 5 R_Taste) (hr : meth.sig.returnType = (some .int)) (hk : meth.locks = false) {d : Nat} (hd : 1 ≤ d + 1) (hR : xroom R (d + 1)) {p0 : Int32} {p1 : Int32} {p2 : Int32} {σ' : LH} {r : Int32} {z0 : Int64} {σ : LH} (h0 : s_Taste_join_88 p0 p1 p2 z0 σ = some (r, σ')) : XJ G 1 570 p l e R s m args below meth c 5 (XQ G 1 570 below args s (some (.int r)) σ') 0 0 88 [] [.long (z0)] σ := by
  replace h0 := (show _ = _ from h0)
  unfold s_Taste_join_88 at h0
  refine x_lstore_n (lv' := [(3, .long (z0))]) C d_Taste_join_88 rfl (by decide) rfl ?_
  refine x_goto C 133 d_Taste_join_89 (by decide) ?_
  exact x_lv C [0] rfl (b_Taste_join_133 C hr hk hd hR h0)
def s_Taste_join (p0 : Int32) (p1 : Int32) (p2 : Int32) (σ : LH) : Option (Int32 × LH) :=
  if p0.toInt = -18 then (
   some ((p1 &&& p2), σ))
  else (
  if p0.toInt = -17 then (
   if p1 ≤ p2 then (
    s_Taste_join_124 p0 p1 p2 0 σ)
   else (
    s_Taste_join_124 p0 p1 p2 1 σ))
  else (
  if p0.toInt = -16 then (
   if p2 ≤ p1 then (
    s_Taste_join_113 p0 p1 p2 0 σ)
   else (
    s_Taste_join_113 p0 p1 p2 1 σ))
  else (
  if p0.toInt = -15 then (
   if p1 = p2 then (
    s_Taste_join_102 p0 p1 p2 1 σ)
   else (
    s_Taste_join_102 p0 p1 p2 0 σ))
  else (
  if p0.toInt = -14 then (
   if p2 = 0 then (
    s_Taste_join_88 p0 p1 p2 0 σ)
   else (
    if ¬ (Int32.toInt64 p2) = 0 then (
    s_Taste_join_88 p0 p1 p2 ((Int32.toInt64 p1) / (Int32.toInt64 p2)) σ) else none))
  else (
  if p0.toInt = -13 then (
   xl ((((Int32.toInt64 p1) * (Int32.toInt64 p2))) : Int64) fun j8 =>
   s_Taste_join_133 p0 p1 p2 j8 σ)
  else (
  if p0.toInt = -12 then (
   xl ((((Int32.toInt64 p1) - (Int32.toInt64 p2))) : Int64) fun j9 =>
   s_Taste_join_133 p0 p1 p2 j9 σ)
  else (
  if p0.toInt = -11 then (
   xl ((((Int32.toInt64 p1) + (Int32.toInt64 p2))) : Int64) fun j10 =>
   s_Taste_join_133 p0 p1 p2 j10 σ)
  else (
   some ((p1 ||| p2), σ)))))))))
theorem c_Taste_join {G : XG} {l : Launch} {d : Nat} (hd : 1 ≤ d) {p0 : Int32} {p1 : Int32} {p2 : Int32} {σ σ' : LH} {r : Int32} (h0 : s_Taste_join p0 p1 p2 σ = some (r, σ')) : xM G 1 570 l y_Taste_join prog_11_method_8_code 5 (some .int) d [.int p0, .int p1, .int p2] σ (some (.int r)) σ' := by
  obtain ⟨d, rfl⟩ : ∃ q, d = q + 1 := ⟨d - 1, by omega⟩
  refine x_met R_Taste rfl (by decide +kernel) (Nat.le_of_ble_eq_true rfl) fun p e s m below meth c C hr hk hR => ?_
  refine x_lv (lv' := [(0, .int p0), (1, .int p1), (2, .int p2)]) C [0, 1, 2] rfl ?_
  generalize xrm (d + 1) = R at hR ⊢
  unfold s_Taste_join at h0
  refine x_iload_n C d_Taste_join_0 0 rfl ?_
  by_cases qm18 : p0.toInt = -18
  · replace h0 := xit qm18 h0
    refine x_tableIn C 125 d_Taste_join_1 (by omega) (by omega) (by rw [qm18]; rfl) (by decide) ?_
    refine x_iload_n C d_Taste_join_125 1 rfl ?_
    refine x_iload_n C d_Taste_join_126 2 rfl ?_
    refine x_iand C d_Taste_join_127 ?_
    exact x_iret C hr hk h0 d_Taste_join_128
  replace h0 := xif qm18 h0
  by_cases qm17 : p0.toInt = -17
  · replace h0 := xit qm17 h0
    refine x_tableIn C 114 d_Taste_join_1 (by omega) (by omega) (by rw [qm17]; rfl) (by decide) ?_
    refine x_iload_n C d_Taste_join_114 1 rfl ?_
    refine x_iload_n C d_Taste_join_115 2 rfl ?_
    refine x_icmp_le C 123 d_Taste_join_116 (by decide) (fun q1 => ?_) (fun q1 => ?_)
    · replace h0 := xit q1 h0
      refine x_iconst (v := 0) C d_Taste_join_123 (by decide) ?_
      exact x_lv C [] rfl (b_Taste_join_124 C hr hk hd hR h0)
    · replace h0 := xif q1 h0
      refine x_iconst (v := 1) C d_Taste_join_119 (by decide) ?_
      refine x_goto C 124 d_Taste_join_120 (by decide) ?_
      exact x_lv C [] rfl (b_Taste_join_124 C hr hk hd hR h0)
  replace h0 := xif qm17 h0
  by_cases qm16 : p0.toInt = -16
  · replace h0 := xit qm16 h0
    refine x_tableIn C 103 d_Taste_join_1 (by omega) (by omega) (by rw [qm16]; rfl) (by decide) ?_
    refine x_iload_n C d_Taste_join_103 1 rfl ?_
    refine x_iload_n C d_Taste_join_104 2 rfl ?_
    refine x_icmp_ge C 112 d_Taste_join_105 (by decide) (fun q2 => ?_) (fun q2 => ?_)
    · replace h0 := xit q2 h0
      refine x_iconst (v := 0) C d_Taste_join_112 (by decide) ?_
      exact x_lv C [] rfl (b_Taste_join_113 C hr hk hd hR h0)
    · replace h0 := xif q2 h0
      refine x_iconst (v := 1) C d_Taste_join_108 (by decide) ?_
      refine x_goto C 113 d_Taste_join_109 (by decide) ?_
      exact x_lv C [] rfl (b_Taste_join_113 C hr hk hd hR h0)
  replace h0 := xif qm16 h0
  by_cases qm15 : p0.toInt = -15
  · replace h0 := xit qm15 h0
    refine x_tableIn C 92 d_Taste_join_1 (by omega) (by omega) (by rw [qm15]; rfl) (by decide) ?_
    refine x_iload_n C d_Taste_join_92 1 rfl ?_
    refine x_iload_n C d_Taste_join_93 2 rfl ?_
    refine x_icmp_ne C 101 d_Taste_join_94 (by decide) (fun q3 => ?_) (fun q3 => ?_)
    · replace h0 := xif q3 h0
      refine x_iconst (v := 0) C d_Taste_join_101 (by decide) ?_
      exact x_lv C [] rfl (b_Taste_join_102 C hr hk hd hR h0)
    · replace h0 := xit q3 h0
      refine x_iconst (v := 1) C d_Taste_join_97 (by decide) ?_
      refine x_goto C 102 d_Taste_join_98 (by decide) ?_
      exact x_lv C [] rfl (b_Taste_join_102 C hr hk hd hR h0)
  replace h0 := xif qm15 h0
  by_cases qm14 : p0.toInt = -14
  · replace h0 := xit qm14 h0
    refine x_tableIn C 75 d_Taste_join_1 (by omega) (by omega) (by rw [qm14]; rfl) (by decide) ?_
    refine x_iload_n C d_Taste_join_75 2 rfl ?_
    refine x_if_ne C 83 d_Taste_join_76 (by decide) (fun q4 => ?_) (fun q4 => ?_)
    · replace h0 := xif q4 h0
      refine x_iload_n C d_Taste_join_83 1 rfl ?_
      refine x_i2l C d_Taste_join_84 ?_
      refine x_iload_n C d_Taste_join_85 2 rfl ?_
      refine x_i2l C d_Taste_join_86 ?_
      obtain ⟨g7, h0⟩ := xgo h0
      refine x_ldiv C d_Taste_join_87 g7 ?_
      exact x_lv C [] rfl (b_Taste_join_88 C hr hk hd hR h0)
    · replace h0 := xit q4 h0
      refine x_lconst (v := 0) C d_Taste_join_79 (by decide) ?_
      refine x_goto C 88 d_Taste_join_80 (by decide) ?_
      exact x_lv C [] rfl (b_Taste_join_88 C hr hk hd hR h0)
  replace h0 := xif qm14 h0
  by_cases qm13 : p0.toInt = -13
  · replace h0 := xit qm13 h0
    refine x_tableIn C 66 d_Taste_join_1 (by omega) (by omega) (by rw [qm13]; rfl) (by decide) ?_
    refine x_iload_n C d_Taste_join_66 1 rfl ?_
    refine x_i2l C d_Taste_join_67 ?_
    refine x_iload_n C d_Taste_join_68 2 rfl ?_
    refine x_i2l C d_Taste_join_69 ?_
    refine x_lmul C d_Taste_join_70 ?_
    obtain ⟨j8, ej8, h0⟩ := xlet h0
    refine x_nameL C ej8 ?_
    refine x_lstore_n (lv' := [(3, .long (j8)), (0, .int p0), (1, .int p1), (2, .int p2)]) C d_Taste_join_71 rfl (by decide) rfl ?_
    refine x_goto C 133 d_Taste_join_72 (by decide) ?_
    exact x_lv C [0] rfl (b_Taste_join_133 C hr hk hd hR h0)
  replace h0 := xif qm13 h0
  by_cases qm12 : p0.toInt = -12
  · replace h0 := xit qm12 h0
    refine x_tableIn C 57 d_Taste_join_1 (by omega) (by omega) (by rw [qm12]; rfl) (by decide) ?_
    refine x_iload_n C d_Taste_join_57 1 rfl ?_
    refine x_i2l C d_Taste_join_58 ?_
    refine x_iload_n C d_Taste_join_59 2 rfl ?_
    refine x_i2l C d_Taste_join_60 ?_
    refine x_lsub C d_Taste_join_61 ?_
    obtain ⟨j9, ej9, h0⟩ := xlet h0
    refine x_nameL C ej9 ?_
    refine x_lstore_n (lv' := [(3, .long (j9)), (0, .int p0), (1, .int p1), (2, .int p2)]) C d_Taste_join_62 rfl (by decide) rfl ?_
    refine x_goto C 133 d_Taste_join_63 (by decide) ?_
    exact x_lv C [0] rfl (b_Taste_join_133 C hr hk hd hR h0)
  replace h0 := xif qm12 h0
  by_cases qm11 : p0.toInt = -11
  · replace h0 := xit qm11 h0
    refine x_tableIn C 48 d_Taste_join_1 (by omega) (by omega) (by rw [qm11]; rfl) (by decide) ?_
    refine x_iload_n C d_Taste_join_48 1 rfl ?_
    refine x_i2l C d_Taste_join_49 ?_
    refine x_iload_n C d_Taste_join_50 2 rfl ?_
    refine x_i2l C d_Taste_join_51 ?_
    refine x_ladd C d_Taste_join_52 ?_
    obtain ⟨j10, ej10, h0⟩ := xlet h0
    refine x_nameL C ej10 ?_
    refine x_lstore_n (lv' := [(3, .long (j10)), (0, .int p0), (1, .int p1), (2, .int p2)]) C d_Taste_join_53 rfl (by decide) rfl ?_
    refine x_goto C 133 d_Taste_join_54 (by decide) ?_
    exact x_lv C [0] rfl (b_Taste_join_133 C hr hk hd hR h0)
  replace h0 := xif qm11 h0
  refine x_tableOut C 129 d_Taste_join_1 (by omega) (by decide) ?_
  refine x_iload_n C d_Taste_join_129 1 rfl ?_
  refine x_iload_n C d_Taste_join_130 2 rfl ?_
  refine x_ior C d_Taste_join_131 ?_
  exact x_iret C hr hk h0 d_Taste_join_132
