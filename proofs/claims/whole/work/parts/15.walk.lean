-- LostPlaces$Evening.dropGoing()V
theorem d_Evening_dropGoing_0 : decode prog_3_method_3_code 0 = .ok (.aload_n 0, 1) := by decide +kernel
theorem d_Evening_dropGoing_1 : decode prog_3_method_3_code 1 = .ok (.iconst (-1), 1) := by decide +kernel
theorem d_Evening_dropGoing_2 : decode prog_3_method_3_code 2 = .ok (.putfield 15, 3) := by decide +kernel
theorem d_Evening_dropGoing_5 : decode prog_3_method_3_code 5 = .ok (.return_, 1) := by decide +kernel
def s_Evening_dropGoing (σ : LH) : Option (LH) :=
  xl ((stI σ 38 3 (-1)) : LH) fun σ1 =>
  some σ1
theorem c_Evening_dropGoing {G : XG} {l : Launch} {d : Nat} (hd : 1 ≤ d) {σ σ' : LH} (h0 : s_Evening_dropGoing σ = some σ') : xM G 1 570 l y_Evening_dropGoing prog_3_method_3_code 1 none d [.ref (G.2.2.1 + 38)] σ none σ' := by
  obtain ⟨d, rfl⟩ : ∃ q, d = q + 1 := ⟨d - 1, by omega⟩
  refine x_met R_Evening rfl (by decide +kernel) (Nat.le_of_ble_eq_true rfl) fun p e s m below meth c C hr hk hR => ?_
  refine x_lv (lv' := [(0, .ref (G.2.2.1 + 38))]) C [0] rfl ?_
  generalize xrm (d + 1) = R at hR ⊢
  unfold s_Evening_dropGoing at h0
  refine x_aload_n C d_Evening_dropGoing_0 0 rfl ?_
  refine x_iconst (v := (-1)) C d_Evening_dropGoing_1 (by decide) ?_
  refine x_putI (y := 0) C fp_Evening_15 k_38 rfl rfl rfl d_Evening_dropGoing_2 ?_
  obtain ⟨σ1, eσ1, h0⟩ := xlet h0
  refine x_sig C eσ1 ?_
  exact x_vret C hr hk h0 d_Evening_dropGoing_5
-- LostPlaces$Guess.offer(IIZ)V
theorem d_Guess_offer_0 : decode prog_5_method_5_code 0 = .ok (.iload_n 3, 1) := by decide +kernel
theorem d_Guess_offer_1 : decode prog_5_method_5_code 1 = .ok (.ifCond .ne 12, 3) := by decide +kernel
theorem d_Guess_offer_4 : decode prog_5_method_5_code 4 = .ok (.iload_n 2, 1) := by decide +kernel
theorem d_Guess_offer_5 : decode prog_5_method_5_code 5 = .ok (.aload_n 0, 1) := by decide +kernel
theorem d_Guess_offer_6 : decode prog_5_method_5_code 6 = .ok (.getfield 22, 3) := by decide +kernel
theorem d_Guess_offer_9 : decode prog_5_method_5_code 9 = .ok (.if_icmp .gt 4, 3) := by decide +kernel
theorem d_Guess_offer_12 : decode prog_5_method_5_code 12 = .ok (.return_, 1) := by decide +kernel
theorem d_Guess_offer_13 : decode prog_5_method_5_code 13 = .ok (.aload_n 0, 1) := by decide +kernel
theorem d_Guess_offer_14 : decode prog_5_method_5_code 14 = .ok (.iload_n 1, 1) := by decide +kernel
theorem d_Guess_offer_15 : decode prog_5_method_5_code 15 = .ok (.putfield 18, 3) := by decide +kernel
theorem d_Guess_offer_18 : decode prog_5_method_5_code 18 = .ok (.aload_n 0, 1) := by decide +kernel
theorem d_Guess_offer_19 : decode prog_5_method_5_code 19 = .ok (.iload_n 2, 1) := by decide +kernel
theorem d_Guess_offer_20 : decode prog_5_method_5_code 20 = .ok (.putfield 22, 3) := by decide +kernel
theorem d_Guess_offer_23 : decode prog_5_method_5_code 23 = .ok (.return_, 1) := by decide +kernel
def s_Guess_offer_13 (p0 : Int32) (p1 : Int32) (p2 : Int32) (σ : LH) : Option (LH) :=
  xl ((stI σ 58 5 p0) : LH) fun σ3 =>
  xl ((stI σ3 58 6 p1) : LH) fun σ4 =>
  some σ4
theorem b_Guess_offer_13 {G : XG} {l : Launch} {p : Program} {e : Env} {R : Room} {s : State} {m : MethodId} {args : Array Value} {below : List Frame} {meth : Method} {c : Code} (C : XC G 1 570 p s m args c prog_5_method_5_code 4 R_Guess) (hr : meth.sig.returnType = none) (hk : meth.locks = false) {d : Nat} (hd : 1 ≤ d + 1) (hR : xroom R (d + 1)) {p0 : Int32} {p1 : Int32} {p2 : Int32} {σ' : LH} {σ : LH} (h0 : s_Guess_offer_13 p0 p1 p2 σ = some σ') : XJ G 1 570 p l e R s m args below meth c 4 (XQ G 1 570 below args s none σ') 0 0 13 [(0, .ref (G.2.2.1 + 58)), (1, .int p0), (2, .int p1)] [] σ := by
  replace h0 := (show _ = _ from h0)
  unfold s_Guess_offer_13 at h0
  refine x_aload_n C d_Guess_offer_13 0 rfl ?_
  refine x_iload_n C d_Guess_offer_14 1 rfl ?_
  refine x_putI (y := 0) C fp_Guess_18 k_58 rfl rfl rfl d_Guess_offer_15 ?_
  obtain ⟨σ3, eσ3, h0⟩ := xlet h0
  refine x_sig C eσ3 ?_
  refine x_aload_n C d_Guess_offer_18 0 rfl ?_
  refine x_iload_n C d_Guess_offer_19 2 rfl ?_
  refine x_putI (y := 0) C fp_Guess_22 k_58 rfl rfl rfl d_Guess_offer_20 ?_
  obtain ⟨σ4, eσ4, h0⟩ := xlet h0
  refine x_sig C eσ4 ?_
  exact x_vret C hr hk h0 d_Guess_offer_23
def s_Guess_offer (p0 : Int32) (p1 : Int32) (p2 : Int32) (σ : LH) : Option (LH) :=
  if p2 = 0 then (
   if (σ.1 58 6) < p1 then (
    s_Guess_offer_13 p0 p1 p2 σ)
   else (
    some σ))
  else (
   s_Guess_offer_13 p0 p1 p2 σ)
theorem c_Guess_offer {G : XG} {l : Launch} {d : Nat} (hd : 1 ≤ d) {p0 : Int32} {p1 : Int32} {p2 : Int32} {σ σ' : LH} (h0 : s_Guess_offer p0 p1 p2 σ = some σ') : xM G 1 570 l y_Guess_offer prog_5_method_5_code 4 none d [.ref (G.2.2.1 + 58), .int p0, .int p1, .int p2] σ none σ' := by
  obtain ⟨d, rfl⟩ : ∃ q, d = q + 1 := ⟨d - 1, by omega⟩
  refine x_met R_Guess rfl (by decide +kernel) (Nat.le_of_ble_eq_true rfl) fun p e s m below meth c C hr hk hR => ?_
  refine x_lv (lv' := [(0, .ref (G.2.2.1 + 58)), (1, .int p0), (2, .int p1), (3, .int p2)]) C [0, 1, 2, 3] rfl ?_
  generalize xrm (d + 1) = R at hR ⊢
  unfold s_Guess_offer at h0
  refine x_iload_n C d_Guess_offer_0 3 rfl ?_
  refine x_if_ne C 13 d_Guess_offer_1 (by decide) (fun q1 => ?_) (fun q1 => ?_)
  · replace h0 := xif q1 h0
    exact x_lv C [0, 1, 2] rfl (b_Guess_offer_13 C hr hk hd hR h0)
  · replace h0 := xit q1 h0
    refine x_iload_n C d_Guess_offer_4 2 rfl ?_
    refine x_aload_n C d_Guess_offer_5 0 rfl ?_
    refine x_getI (y := 0) C fg_Guess_22 k_58 rfl d_Guess_offer_6 ?_
    refine x_icmp_gt C 13 d_Guess_offer_9 (by decide) (fun q2 => ?_) (fun q2 => ?_)
    · replace h0 := xit q2 h0
      exact x_lv C [0, 1, 2] rfl (b_Guess_offer_13 C hr hk hd hR h0)
    · replace h0 := xif q2 h0
      exact x_vret C hr hk h0 d_Guess_offer_12
-- LostPlaces$Guess.findMinute(III)V
theorem d_Guess_findMinute_0 : decode prog_5_method_4_code 0 = .ok (.aload_n 0, 1) := by decide +kernel
theorem d_Guess_findMinute_1 : decode prog_5_method_4_code 1 = .ok (.iconst (-1), 1) := by decide +kernel
theorem d_Guess_findMinute_2 : decode prog_5_method_4_code 2 = .ok (.putfield 18, 3) := by decide +kernel
theorem d_Guess_findMinute_5 : decode prog_5_method_4_code 5 = .ok (.iconst 0, 1) := by decide +kernel
theorem d_Guess_findMinute_6 : decode prog_5_method_4_code 6 = .ok (.istore 4, 2) := by decide +kernel
theorem d_Guess_findMinute_8 : decode prog_5_method_4_code 8 = .ok (.iload 4, 2) := by decide +kernel
theorem d_Guess_findMinute_10 : decode prog_5_method_4_code 10 = .ok (.iload_n 3, 1) := by decide +kernel
theorem d_Guess_findMinute_11 : decode prog_5_method_4_code 11 = .ok (.if_icmp .ge 117, 3) := by decide +kernel
theorem d_Guess_findMinute_14 : decode prog_5_method_4_code 14 = .ok (.aload_n 0, 1) := by decide +kernel
theorem d_Guess_findMinute_15 : decode prog_5_method_4_code 15 = .ok (.getfield 37, 3) := by decide +kernel
theorem d_Guess_findMinute_18 : decode prog_5_method_4_code 18 = .ok (.getfield 44, 3) := by decide +kernel
theorem d_Guess_findMinute_21 : decode prog_5_method_4_code 21 = .ok (.iload 4, 2) := by decide +kernel
theorem d_Guess_findMinute_23 : decode prog_5_method_4_code 23 = .ok (.iadd, 1) := by decide +kernel
theorem d_Guess_findMinute_24 : decode prog_5_method_4_code 24 = .ok (.aload_n 0, 1) := by decide +kernel
theorem d_Guess_findMinute_25 : decode prog_5_method_4_code 25 = .ok (.getfield 25, 3) := by decide +kernel
theorem d_Guess_findMinute_28 : decode prog_5_method_4_code 28 = .ok (.getfield 74, 3) := by decide +kernel
theorem d_Guess_findMinute_31 : decode prog_5_method_4_code 31 = .ok (.if_icmp .ge 97, 3) := by decide +kernel
theorem d_Guess_findMinute_34 : decode prog_5_method_4_code 34 = .ok (.aload_n 0, 1) := by decide +kernel
theorem d_Guess_findMinute_35 : decode prog_5_method_4_code 35 = .ok (.getfield 33, 3) := by decide +kernel
theorem d_Guess_findMinute_38 : decode prog_5_method_4_code 38 = .ok (.iload_n 1, 1) := by decide +kernel
theorem d_Guess_findMinute_39 : decode prog_5_method_4_code 39 = .ok (.aload_n 0, 1) := by decide +kernel
theorem d_Guess_findMinute_40 : decode prog_5_method_4_code 40 = .ok (.getfield 37, 3) := by decide +kernel
theorem d_Guess_findMinute_43 : decode prog_5_method_4_code 43 = .ok (.getfield 44, 3) := by decide +kernel
theorem d_Guess_findMinute_46 : decode prog_5_method_4_code 46 = .ok (.iload 4, 2) := by decide +kernel
theorem d_Guess_findMinute_48 : decode prog_5_method_4_code 48 = .ok (.iadd, 1) := by decide +kernel
theorem d_Guess_findMinute_49 : decode prog_5_method_4_code 49 = .ok (.iload_n 2, 1) := by decide +kernel
theorem d_Guess_findMinute_50 : decode prog_5_method_4_code 50 = .ok (.invokevirtual 79, 3) := by decide +kernel
theorem d_Guess_findMinute_53 : decode prog_5_method_4_code 53 = .ok (.aload_n 0, 1) := by decide +kernel
theorem d_Guess_findMinute_54 : decode prog_5_method_4_code 54 = .ok (.getfield 12, 3) := by decide +kernel
theorem d_Guess_findMinute_57 : decode prog_5_method_4_code 57 = .ok (.aload_n 0, 1) := by decide +kernel
theorem d_Guess_findMinute_58 : decode prog_5_method_4_code 58 = .ok (.getfield 37, 3) := by decide +kernel
theorem d_Guess_findMinute_61 : decode prog_5_method_4_code 61 = .ok (.invokevirtual 40, 3) := by decide +kernel
theorem d_Guess_findMinute_64 : decode prog_5_method_4_code 64 = .ok (.aload_n 0, 1) := by decide +kernel
theorem d_Guess_findMinute_65 : decode prog_5_method_4_code 65 = .ok (.getfield 33, 3) := by decide +kernel
theorem d_Guess_findMinute_68 : decode prog_5_method_4_code 68 = .ok (.aload_n 0, 1) := by decide +kernel
theorem d_Guess_findMinute_69 : decode prog_5_method_4_code 69 = .ok (.getfield 12, 3) := by decide +kernel
theorem d_Guess_findMinute_72 : decode prog_5_method_4_code 72 = .ok (.aload_n 0, 1) := by decide +kernel
theorem d_Guess_findMinute_73 : decode prog_5_method_4_code 73 = .ok (.getfield 25, 3) := by decide +kernel
theorem d_Guess_findMinute_76 : decode prog_5_method_4_code 76 = .ok (.getfield 74, 3) := by decide +kernel
theorem d_Guess_findMinute_79 : decode prog_5_method_4_code 79 = .ok (.invokevirtual 47, 3) := by decide +kernel
theorem d_Guess_findMinute_82 : decode prog_5_method_4_code 82 = .ok (.aload_n 0, 1) := by decide +kernel
theorem d_Guess_findMinute_83 : decode prog_5_method_4_code 83 = .ok (.getfield 33, 3) := by decide +kernel
theorem d_Guess_findMinute_86 : decode prog_5_method_4_code 86 = .ok (.invokevirtual 83, 3) := by decide +kernel
theorem d_Guess_findMinute_89 : decode prog_5_method_4_code 89 = .ok (.aload_n 0, 1) := by decide +kernel
theorem d_Guess_findMinute_90 : decode prog_5_method_4_code 90 = .ok (.aload_n 0, 1) := by decide +kernel
theorem d_Guess_findMinute_91 : decode prog_5_method_4_code 91 = .ok (.getfield 37, 3) := by decide +kernel
theorem d_Guess_findMinute_94 : decode prog_5_method_4_code 94 = .ok (.getfield 44, 3) := by decide +kernel
theorem d_Guess_findMinute_97 : decode prog_5_method_4_code 97 = .ok (.iload 4, 2) := by decide +kernel
theorem d_Guess_findMinute_99 : decode prog_5_method_4_code 99 = .ok (.iadd, 1) := by decide +kernel
theorem d_Guess_findMinute_100 : decode prog_5_method_4_code 100 = .ok (.aload_n 0, 1) := by decide +kernel
theorem d_Guess_findMinute_101 : decode prog_5_method_4_code 101 = .ok (.getfield 12, 3) := by decide +kernel
theorem d_Guess_findMinute_104 : decode prog_5_method_4_code 104 = .ok (.getfield 86, 3) := by decide +kernel
theorem d_Guess_findMinute_107 : decode prog_5_method_4_code 107 = .ok (.iload_n 1, 1) := by decide +kernel
theorem d_Guess_findMinute_108 : decode prog_5_method_4_code 108 = .ok (.iaload, 1) := by decide +kernel
theorem d_Guess_findMinute_109 : decode prog_5_method_4_code 109 = .ok (.iload 4, 2) := by decide +kernel
theorem d_Guess_findMinute_111 : decode prog_5_method_4_code 111 = .ok (.ifCond .ne 7, 3) := by decide +kernel
theorem d_Guess_findMinute_114 : decode prog_5_method_4_code 114 = .ok (.iconst 1, 1) := by decide +kernel
theorem d_Guess_findMinute_115 : decode prog_5_method_4_code 115 = .ok (.goto 4, 3) := by decide +kernel
theorem d_Guess_findMinute_118 : decode prog_5_method_4_code 118 = .ok (.iconst 0, 1) := by decide +kernel
theorem d_Guess_findMinute_119 : decode prog_5_method_4_code 119 = .ok (.invokevirtual 89, 3) := by decide +kernel
theorem d_Guess_findMinute_122 : decode prog_5_method_4_code 122 = .ok (.iinc 4 1, 3) := by decide +kernel
theorem d_Guess_findMinute_125 : decode prog_5_method_4_code 125 = .ok (.goto (-117), 3) := by decide +kernel
theorem d_Guess_findMinute_128 : decode prog_5_method_4_code 128 = .ok (.return_, 1) := by decide +kernel
def s_Guess_findMinute_128 (p0 : Int32) (p1 : Int32) (p2 : Int32) (σ : LH) : Option (LH) :=
  some σ
theorem b_Guess_findMinute_128 {G : XG} {l : Launch} {p : Program} {e : Env} {R : Room} {s : State} {m : MethodId} {args : Array Value} {below : List Frame} {meth : Method} {c : Code} (C : XC G 1 570 p s m args c prog_5_method_4_code 5 R_Guess) (hr : meth.sig.returnType = none) (hk : meth.locks = false) {d : Nat} (hd : 6 ≤ d + 1) (hR : xroom R (d + 1)) {p0 : Int32} {p1 : Int32} {p2 : Int32} {σ' : LH} {σ : LH} (h0 : s_Guess_findMinute_128 p0 p1 p2 σ = some σ') : XJ G 1 570 p l e R s m args below meth c 5 (XQ G 1 570 below args s none σ') 0 0 128 [] [] σ := by
  replace h0 := (show _ = _ from h0)
  unfold s_Guess_findMinute_128 at h0
  exact x_vret C hr hk h0 d_Guess_findMinute_128
def s_Guess_findMinute_119 (p0 : Int32) (p1 : Int32) (p2 : Int32) (rec8 : Int32 → LH → Option (LH)) (y4 : Int32) (z1 : Int32) (z2 : Int32) (z3 : Int32) (σ : LH) : Option (LH) :=
  xb1 (s_Guess_offer z1 z2 z3 σ) fun σ15 =>
  xl ((y4 + 1) : Int32) fun x16 =>
  rec8 x16 σ15
theorem b_Guess_findMinute_119 {G : XG} {l : Launch} {p : Program} {e : Env} {R : Room} {s : State} {m : MethodId} {args : Array Value} {below : List Frame} {meth : Method} {c : Code} (C : XC G 1 570 p s m args c prog_5_method_4_code 5 R_Guess) (hr : meth.sig.returnType = none) (hk : meth.locks = false) {d : Nat} (hd : 6 ≤ d + 1) (hR : xroom R (d + 1)) {p0 : Int32} {p1 : Int32} {p2 : Int32} {rec8 : Int32 → LH → Option (LH)} {σ' : LH} (hrec8 : ∀ (y4 : Int32) (σ : LH), rec8 y4 σ = some σ' → XJ G 1 570 p l e R s m args below meth c 5 (XQ G 1 570 below args s none σ') 0 0 8 [(0, .ref (G.2.2.1 + 58)), (1, .int p0), (2, .int p1), (3, .int p2), (4, .int y4)] [] σ) {y4 : Int32} {z1 : Int32} {z2 : Int32} {z3 : Int32} {σ : LH} (h0 : s_Guess_findMinute_119 p0 p1 p2 rec8 y4 z1 z2 z3 σ = some σ') : XJ G 1 570 p l e R s m args below meth c 5 (XQ G 1 570 below args s none σ') 0 0 119 [(0, .ref (G.2.2.1 + 58)), (1, .int p0), (2, .int p1), (3, .int p2), (4, .int y4)] [.int z3, .int z2, .int z1, .ref (G.2.2.1 + 58)] σ := by
  replace h0 := (show _ = _ from h0)
  unfold s_Guess_findMinute_119 at h0
  obtain ⟨σ15, k14, h0⟩ := xbind1 h0
  refine x_callVv C hR (c_Guess_offer (d := d) (by omega) k14) cw_Guess_89 k_58 rfl rfl rfl (Nat.le_of_ble_eq_true rfl) ⟨Nat.zero_le _, Nat.zero_le _⟩ d_Guess_findMinute_119 ?_
  obtain ⟨x16, ex16, h0⟩ := xlet h0
  refine x_iinc (lv' := [(4, .int x16), (0, .ref (G.2.2.1 + 58)), (1, .int p0), (2, .int p1), (3, .int p2)]) C d_Guess_findMinute_122 4 rfl ex16 (by decide) rfl ?_
  refine x_goto C 8 d_Guess_findMinute_125 (by decide) ?_
  exact x_lv C [1, 2, 3, 4, 0] rfl (hrec8 _ _ h0)
def s_Guess_findMinute_8_b (p0 : Int32) (p1 : Int32) (p2 : Int32) (rec8 : Int32 → LH → Option (LH)) (y4 : Int32) (σ : LH) : Option (LH) :=
  if p2 ≤ y4 then (
   s_Guess_findMinute_128 p0 p1 p2 σ)
  else (
   if (σ.1 4 15) ≤ ((σ.1 39 7) + y4) then (
    s_Guess_findMinute_128 p0 p1 p2 σ)
   else (
    xb1 (s_Evening_addGoing p0 ((σ.1 39 7) + y4) p1 σ) fun σ5 =>
    xb1 (s_Hall_beginAs 59 39 σ5) fun σ7 =>
    xb1 (s_Evening_run 59 (σ7.1 4 15) σ7) fun σ9 =>
    xb1 (s_Evening_dropGoing σ9) fun σ11 =>
    if ib p0 8 then (
    if y4 = 0 then (
     s_Guess_findMinute_119 p0 p1 p2 rec8 y4 ((σ11.1 39 7) + y4) (σ11.1 63 (Int32.toNatClampNeg p0)) 1 σ11)
    else (
     s_Guess_findMinute_119 p0 p1 p2 rec8 y4 ((σ11.1 39 7) + y4) (σ11.1 63 (Int32.toNatClampNeg p0)) 0 σ11)) else none))
def s_Guess_findMinute_8 (p0 : Int32) (p1 : Int32) (p2 : Int32) : Nat → Int32 → LH → Option (LH)
  | 0, _, _ => none
  | n + 1, y4, σ => s_Guess_findMinute_8_b p0 p1 p2 (s_Guess_findMinute_8 p0 p1 p2 n) y4 σ
theorem bb_Guess_findMinute_8 {G : XG} {l : Launch} {p : Program} {e : Env} {R : Room} {s : State} {m : MethodId} {args : Array Value} {below : List Frame} {meth : Method} {c : Code} (C : XC G 1 570 p s m args c prog_5_method_4_code 5 R_Guess) (hr : meth.sig.returnType = none) (hk : meth.locks = false) {d : Nat} (hd : 6 ≤ d + 1) (hR : xroom R (d + 1)) {p0 : Int32} {p1 : Int32} {p2 : Int32} {rec8 : Int32 → LH → Option (LH)} {σ' : LH} (hrec8 : ∀ (y4 : Int32) (σ : LH), rec8 y4 σ = some σ' → XJ G 1 570 p l e R s m args below meth c 5 (XQ G 1 570 below args s none σ') 0 0 8 [(0, .ref (G.2.2.1 + 58)), (1, .int p0), (2, .int p1), (3, .int p2), (4, .int y4)] [] σ) {y4 : Int32} {σ : LH} (h0 : s_Guess_findMinute_8_b p0 p1 p2 rec8 y4 σ = some σ') : XJ G 1 570 p l e R s m args below meth c 5 (XQ G 1 570 below args s none σ') 0 0 8 [(0, .ref (G.2.2.1 + 58)), (1, .int p0), (2, .int p1), (3, .int p2), (4, .int y4)] [] σ := by
  replace h0 := (show _ = _ from h0)
  unfold s_Guess_findMinute_8_b at h0
  refine x_iload C d_Guess_findMinute_8 4 rfl ?_
  refine x_iload_n C d_Guess_findMinute_10 3 rfl ?_
  refine x_icmp_ge C 128 d_Guess_findMinute_11 (by decide) (fun q2 => ?_) (fun q2 => ?_)
  · replace h0 := xit q2 h0
    exact x_lv C [] rfl (b_Guess_findMinute_128 C hr hk hd hR h0)
  · replace h0 := xif q2 h0
    refine x_aload_n C d_Guess_findMinute_14 0 rfl ?_
    refine x_getA (y := 39) C fg_Guess_37 k_58 rfl d_Guess_findMinute_15 ?_
    refine x_getI (y := 0) C fg_Guess_44 k_39 rfl d_Guess_findMinute_18 ?_
    refine x_iload C d_Guess_findMinute_21 4 rfl ?_
    refine x_iadd C d_Guess_findMinute_23 ?_
    refine x_aload_n C d_Guess_findMinute_24 0 rfl ?_
    refine x_getA (y := 4) C fg_Guess_25 k_58 rfl d_Guess_findMinute_25 ?_
    refine x_getI (y := 0) C fg_Guess_74 k_4 rfl d_Guess_findMinute_28 ?_
    refine x_icmp_ge C 128 d_Guess_findMinute_31 (by decide) (fun q3 => ?_) (fun q3 => ?_)
    · replace h0 := xit q3 h0
      exact x_lv C [] rfl (b_Guess_findMinute_128 C hr hk hd hR h0)
    · replace h0 := xif q3 h0
      refine x_aload_n C d_Guess_findMinute_34 0 rfl ?_
      refine x_getA (y := 38) C fg_Guess_33 k_58 rfl d_Guess_findMinute_35 ?_
      refine x_iload_n C d_Guess_findMinute_38 1 rfl ?_
      refine x_aload_n C d_Guess_findMinute_39 0 rfl ?_
      refine x_getA (y := 39) C fg_Guess_37 k_58 rfl d_Guess_findMinute_40 ?_
      refine x_getI (y := 0) C fg_Guess_44 k_39 rfl d_Guess_findMinute_43 ?_
      refine x_iload C d_Guess_findMinute_46 4 rfl ?_
      refine x_iadd C d_Guess_findMinute_48 ?_
      refine x_iload_n C d_Guess_findMinute_49 2 rfl ?_
      obtain ⟨σ5, k4, h0⟩ := xbind1 h0
      refine x_callVv C hR (c_Evening_addGoing (d := d) (by omega) k4) cw_Guess_79 k_38 rfl rfl rfl (Nat.le_of_ble_eq_true rfl) ⟨Nat.zero_le _, Nat.zero_le _⟩ d_Guess_findMinute_50 ?_
      refine x_aload_n C d_Guess_findMinute_53 0 rfl ?_
      refine x_getA (y := 59) C fg_Guess_12 k_58 rfl d_Guess_findMinute_54 ?_
      refine x_aload_n C d_Guess_findMinute_57 0 rfl ?_
      refine x_getA (y := 39) C fg_Guess_37 k_58 rfl d_Guess_findMinute_58 ?_
      obtain ⟨σ7, k6, h0⟩ := xbind1 h0
      refine x_callVv C hR (c_Hall_beginAs (d := d) (by omega) (show 59 ∈ xHalls by decide) (show 39 ∈ xHalls by decide) k6) cw_Guess_40 k_59 rfl rfl rfl (Nat.le_of_ble_eq_true rfl) ⟨Nat.zero_le _, Nat.zero_le _⟩ d_Guess_findMinute_61 ?_
      refine x_aload_n C d_Guess_findMinute_64 0 rfl ?_
      refine x_getA (y := 38) C fg_Guess_33 k_58 rfl d_Guess_findMinute_65 ?_
      refine x_aload_n C d_Guess_findMinute_68 0 rfl ?_
      refine x_getA (y := 59) C fg_Guess_12 k_58 rfl d_Guess_findMinute_69 ?_
      refine x_aload_n C d_Guess_findMinute_72 0 rfl ?_
      refine x_getA (y := 4) C fg_Guess_25 k_58 rfl d_Guess_findMinute_73 ?_
      refine x_getI (y := 0) C fg_Guess_74 k_4 rfl d_Guess_findMinute_76 ?_
      obtain ⟨σ9, k8, h0⟩ := xbind1 h0
      refine x_callVv C hR (c_Evening_run (d := d) (by omega) (show 59 ∈ xHalls by decide) k8) cw_Guess_47 k_38 rfl rfl rfl (Nat.le_of_ble_eq_true rfl) ⟨Nat.zero_le _, Nat.zero_le _⟩ d_Guess_findMinute_79 ?_
      refine x_aload_n C d_Guess_findMinute_82 0 rfl ?_
      refine x_getA (y := 38) C fg_Guess_33 k_58 rfl d_Guess_findMinute_83 ?_
      obtain ⟨σ11, k10, h0⟩ := xbind1 h0
      refine x_callVv C hR (c_Evening_dropGoing (d := d) (by omega) k10) cw_Guess_83 k_38 rfl rfl rfl (Nat.le_of_ble_eq_true rfl) ⟨Nat.zero_le _, Nat.zero_le _⟩ d_Guess_findMinute_86 ?_
      refine x_aload_n C d_Guess_findMinute_89 0 rfl ?_
      refine x_aload_n C d_Guess_findMinute_90 0 rfl ?_
      refine x_getA (y := 39) C fg_Guess_37 k_58 rfl d_Guess_findMinute_91 ?_
      refine x_getI (y := 0) C fg_Guess_44 k_39 rfl d_Guess_findMinute_94 ?_
      refine x_iload C d_Guess_findMinute_97 4 rfl ?_
      refine x_iadd C d_Guess_findMinute_99 ?_
      refine x_aload_n C d_Guess_findMinute_100 0 rfl ?_
      refine x_getA (y := 59) C fg_Guess_12 k_58 rfl d_Guess_findMinute_101 ?_
      refine x_getR (y := 4) C fg_Guess_86 k_59 rfl d_Guess_findMinute_104 ?_
      show XJ _ _ _ _ _ _ _ _ _ _ _ _ _ _ _ _ _ _ _ (.ref (G.2.2.1 + 63) :: _) _
      refine x_iload_n C d_Guess_findMinute_107 1 rfl ?_
      obtain ⟨g12, h0⟩ := xgo h0
      refine x_iald C k_63 (ib_in g12) d_Guess_findMinute_108 ?_
      refine x_iload C d_Guess_findMinute_109 4 rfl ?_
      refine x_if_ne C 118 d_Guess_findMinute_111 (by decide) (fun q13 => ?_) (fun q13 => ?_)
      · replace h0 := xif q13 h0
        refine x_iconst (v := 0) C d_Guess_findMinute_118 (by decide) ?_
        exact x_lv C [0, 1, 2, 3, 4] rfl (b_Guess_findMinute_119 C hr hk hd hR hrec8 h0)
      · replace h0 := xit q13 h0
        refine x_iconst (v := 1) C d_Guess_findMinute_114 (by decide) ?_
        refine x_goto C 119 d_Guess_findMinute_115 (by decide) ?_
        exact x_lv C [0, 1, 2, 3, 4] rfl (b_Guess_findMinute_119 C hr hk hd hR hrec8 h0)
theorem b_Guess_findMinute_8 {G : XG} {l : Launch} {p : Program} {e : Env} {R : Room} {s : State} {m : MethodId} {args : Array Value} {below : List Frame} {meth : Method} {c : Code} (C : XC G 1 570 p s m args c prog_5_method_4_code 5 R_Guess) (hr : meth.sig.returnType = none) (hk : meth.locks = false) {d : Nat} (hd : 6 ≤ d + 1) (hR : xroom R (d + 1)) {p0 : Int32} {p1 : Int32} {p2 : Int32} {σ' : LH} : ∀ (n : Nat) (y4 : Int32) (σ : LH), s_Guess_findMinute_8 p0 p1 p2 n y4 σ = some σ' → XJ G 1 570 p l e R s m args below meth c 5 (XQ G 1 570 below args s none σ') 0 0 8 [(0, .ref (G.2.2.1 + 58)), (1, .int p0), (2, .int p1), (3, .int p2), (4, .int y4)] [] σ := by
  intro n
  induction n with
  | zero => intro y4 σ h0; cases h0
  | succ n ih => intro y4 σ h0; exact bb_Guess_findMinute_8 C hr hk hd hR ih h0
def s_Guess_findMinute (p0 : Int32) (p1 : Int32) (p2 : Int32) (σ : LH) : Option (LH) :=
  xl ((stI σ 58 5 (-1)) : LH) fun σ1 =>
  s_Guess_findMinute_8 p0 p1 p2 FUEL 0 σ1
theorem c_Guess_findMinute {G : XG} {l : Launch} {d : Nat} (hd : 6 ≤ d) {p0 : Int32} {p1 : Int32} {p2 : Int32} {σ σ' : LH} (h0 : s_Guess_findMinute p0 p1 p2 σ = some σ') : xM G 1 570 l y_Guess_findMinute prog_5_method_4_code 5 none d [.ref (G.2.2.1 + 58), .int p0, .int p1, .int p2] σ none σ' := by
  obtain ⟨d, rfl⟩ : ∃ q, d = q + 1 := ⟨d - 1, by omega⟩
  refine x_met R_Guess rfl (by decide +kernel) (Nat.le_of_ble_eq_true rfl) fun p e s m below meth c C hr hk hR => ?_
  refine x_lv (lv' := [(0, .ref (G.2.2.1 + 58)), (1, .int p0), (2, .int p1), (3, .int p2)]) C [0, 1, 2, 3] rfl ?_
  generalize xrm (d + 1) = R at hR ⊢
  unfold s_Guess_findMinute at h0
  refine x_aload_n C d_Guess_findMinute_0 0 rfl ?_
  refine x_iconst (v := (-1)) C d_Guess_findMinute_1 (by decide) ?_
  refine x_putI (y := 0) C fp_Guess_18 k_58 rfl rfl rfl d_Guess_findMinute_2 ?_
  obtain ⟨σ1, eσ1, h0⟩ := xlet h0
  refine x_sig C eσ1 ?_
  refine x_iconst (v := 0) C d_Guess_findMinute_5 (by decide) ?_
  refine x_istore (lv' := [(4, .int 0), (0, .ref (G.2.2.1 + 58)), (1, .int p0), (2, .int p1), (3, .int p2)]) C d_Guess_findMinute_6 (by decide) rfl ?_
  exact x_lv C [1, 2, 3, 4, 0] rfl (b_Guess_findMinute_8 C hr hk hd hR FUEL _ _ h0)
-- LostPlaces.when(IIII)I
theorem d_Main_when_0 : decode prog_1_method_32_code 0 = .ok (.aload_n 0, 1) := by decide +kernel
theorem d_Main_when_1 : decode prog_1_method_32_code 1 = .ok (.iload_n 1, 1) := by decide +kernel
theorem d_Main_when_2 : decode prog_1_method_32_code 2 = .ok (.invokevirtual 186, 3) := by decide +kernel
theorem d_Main_when_5 : decode prog_1_method_32_code 5 = .ok (.ifCond .eq 25, 3) := by decide +kernel
theorem d_Main_when_8 : decode prog_1_method_32_code 8 = .ok (.iload_n 2, 1) := by decide +kernel
theorem d_Main_when_9 : decode prog_1_method_32_code 9 = .ok (.iconst 1, 1) := by decide +kernel
theorem d_Main_when_10 : decode prog_1_method_32_code 10 = .ok (.if_icmp .lt 20, 3) := by decide +kernel
theorem d_Main_when_13 : decode prog_1_method_32_code 13 = .ok (.iload_n 2, 1) := by decide +kernel
theorem d_Main_when_14 : decode prog_1_method_32_code 14 = .ok (.bipush 9, 2) := by decide +kernel
theorem d_Main_when_16 : decode prog_1_method_32_code 16 = .ok (.if_icmp .gt 14, 3) := by decide +kernel
theorem d_Main_when_19 : decode prog_1_method_32_code 19 = .ok (.iload_n 3, 1) := by decide +kernel
theorem d_Main_when_20 : decode prog_1_method_32_code 20 = .ok (.iconst 1, 1) := by decide +kernel
theorem d_Main_when_21 : decode prog_1_method_32_code 21 = .ok (.if_icmp .lt 9, 3) := by decide +kernel
theorem d_Main_when_24 : decode prog_1_method_32_code 24 = .ok (.iload_n 3, 1) := by decide +kernel
theorem d_Main_when_25 : decode prog_1_method_32_code 25 = .ok (.bipush 30, 2) := by decide +kernel
theorem d_Main_when_27 : decode prog_1_method_32_code 27 = .ok (.if_icmp .le 6, 3) := by decide +kernel
theorem d_Main_when_30 : decode prog_1_method_32_code 30 = .ok (.ldc 226, 2) := by decide +kernel
theorem d_Main_when_32 : decode prog_1_method_32_code 32 = .ok (.ireturn, 1) := by decide +kernel
theorem d_Main_when_33 : decode prog_1_method_32_code 33 = .ok (.aload_n 0, 1) := by decide +kernel
theorem d_Main_when_34 : decode prog_1_method_32_code 34 = .ok (.invokevirtual 247, 3) := by decide +kernel
theorem d_Main_when_37 : decode prog_1_method_32_code 37 = .ok (.iconst 1, 1) := by decide +kernel
theorem d_Main_when_38 : decode prog_1_method_32_code 38 = .ok (.if_icmp .lt 11, 3) := by decide +kernel
theorem d_Main_when_41 : decode prog_1_method_32_code 41 = .ok (.iload 4, 2) := by decide +kernel
theorem d_Main_when_43 : decode prog_1_method_32_code 43 = .ok (.invokestatic 283, 3) := by decide +kernel
theorem d_Main_when_46 : decode prog_1_method_32_code 46 = .ok (.ifCond .eq 6, 3) := by decide +kernel
theorem d_Main_when_49 : decode prog_1_method_32_code 49 = .ok (.ldc 226, 2) := by decide +kernel
theorem d_Main_when_51 : decode prog_1_method_32_code 51 = .ok (.ireturn, 1) := by decide +kernel
theorem d_Main_when_52 : decode prog_1_method_32_code 52 = .ok (.aload_n 0, 1) := by decide +kernel
theorem d_Main_when_53 : decode prog_1_method_32_code 53 = .ok (.getfield 105, 3) := by decide +kernel
theorem d_Main_when_56 : decode prog_1_method_32_code 56 = .ok (.iload_n 1, 1) := by decide +kernel
theorem d_Main_when_57 : decode prog_1_method_32_code 57 = .ok (.iload_n 2, 1) := by decide +kernel
theorem d_Main_when_58 : decode prog_1_method_32_code 58 = .ok (.iload_n 3, 1) := by decide +kernel
theorem d_Main_when_59 : decode prog_1_method_32_code 59 = .ok (.invokevirtual 301, 3) := by decide +kernel
theorem d_Main_when_62 : decode prog_1_method_32_code 62 = .ok (.iload 4, 2) := by decide +kernel
theorem d_Main_when_64 : decode prog_1_method_32_code 64 = .ok (.ifCond .ne 13, 3) := by decide +kernel
theorem d_Main_when_67 : decode prog_1_method_32_code 67 = .ok (.aload_n 0, 1) := by decide +kernel
theorem d_Main_when_68 : decode prog_1_method_32_code 68 = .ok (.getfield 105, 3) := by decide +kernel
theorem d_Main_when_71 : decode prog_1_method_32_code 71 = .ok (.getfield 295, 3) := by decide +kernel
theorem d_Main_when_74 : decode prog_1_method_32_code 74 = .ok (.goto 10, 3) := by decide +kernel
theorem d_Main_when_77 : decode prog_1_method_32_code 77 = .ok (.aload_n 0, 1) := by decide +kernel
theorem d_Main_when_78 : decode prog_1_method_32_code 78 = .ok (.getfield 105, 3) := by decide +kernel
theorem d_Main_when_81 : decode prog_1_method_32_code 81 = .ok (.getfield 298, 3) := by decide +kernel
theorem d_Main_when_84 : decode prog_1_method_32_code 84 = .ok (.ireturn, 1) := by decide +kernel
def s_Main_when_30 (p0 : Int32) (p1 : Int32) (p2 : Int32) (p3 : Int32) (σ : LH) : Option (Int32 × LH) :=
  some ((-1000000), σ)
theorem b_Main_when_30 {G : XG} {l : Launch} {p : Program} {e : Env} {R : Room} {s : State} {m : MethodId} {args : Array Value} {below : List Frame} {meth : Method} {c : Code} (C : XC G 1 570 p s m args c prog_1_method_32_code 5 R_Main) (hr : meth.sig.returnType = (some .int)) (hk : meth.locks = false) {d : Nat} (hd : 7 ≤ d + 1) (hR : xroom R (d + 1)) {p0 : Int32} {p1 : Int32} {p2 : Int32} {p3 : Int32} {σ' : LH} {r : Int32} {σ : LH} (h0 : s_Main_when_30 p0 p1 p2 p3 σ = some (r, σ')) : XJ G 1 570 p l e R s m args below meth c 5 (XQ G 1 570 below args s (some (.int r)) σ') 0 0 30 [] [] σ := by
  replace h0 := (show _ = _ from h0)
  unfold s_Main_when_30 at h0
  refine x_ldc (v := (-1000000)) C w_982 d_Main_when_30 ?_
  exact x_iret C hr hk h0 d_Main_when_32
def s_Main_when_49 (p0 : Int32) (p1 : Int32) (p2 : Int32) (p3 : Int32) (σ : LH) : Option (Int32 × LH) :=
  some ((-1000000), σ)
theorem b_Main_when_49 {G : XG} {l : Launch} {p : Program} {e : Env} {R : Room} {s : State} {m : MethodId} {args : Array Value} {below : List Frame} {meth : Method} {c : Code} (C : XC G 1 570 p s m args c prog_1_method_32_code 5 R_Main) (hr : meth.sig.returnType = (some .int)) (hk : meth.locks = false) {d : Nat} (hd : 7 ≤ d + 1) (hR : xroom R (d + 1)) {p0 : Int32} {p1 : Int32} {p2 : Int32} {p3 : Int32} {σ' : LH} {r : Int32} {σ : LH} (h0 : s_Main_when_49 p0 p1 p2 p3 σ = some (r, σ')) : XJ G 1 570 p l e R s m args below meth c 5 (XQ G 1 570 below args s (some (.int r)) σ') 0 0 49 [] [] σ := by
  replace h0 := (show _ = _ from h0)
  unfold s_Main_when_49 at h0
  refine x_ldc (v := (-1000000)) C w_982 d_Main_when_49 ?_
  exact x_iret C hr hk h0 d_Main_when_51
def s_Main_when_84 (p0 : Int32) (p1 : Int32) (p2 : Int32) (p3 : Int32) (z0 : Int32) (σ : LH) : Option (Int32 × LH) :=
  some (z0, σ)
theorem b_Main_when_84 {G : XG} {l : Launch} {p : Program} {e : Env} {R : Room} {s : State} {m : MethodId} {args : Array Value} {below : List Frame} {meth : Method} {c : Code} (C : XC G 1 570 p s m args c prog_1_method_32_code 5 R_Main) (hr : meth.sig.returnType = (some .int)) (hk : meth.locks = false) {d : Nat} (hd : 7 ≤ d + 1) (hR : xroom R (d + 1)) {p0 : Int32} {p1 : Int32} {p2 : Int32} {p3 : Int32} {σ' : LH} {r : Int32} {z0 : Int32} {σ : LH} (h0 : s_Main_when_84 p0 p1 p2 p3 z0 σ = some (r, σ')) : XJ G 1 570 p l e R s m args below meth c 5 (XQ G 1 570 below args s (some (.int r)) σ') 0 0 84 [] [.int z0] σ := by
  replace h0 := (show _ = _ from h0)
  unfold s_Main_when_84 at h0
  exact x_iret C hr hk h0 d_Main_when_84
def s_Main_when (p0 : Int32) (p1 : Int32) (p2 : Int32) (p3 : Int32) (σ : LH) : Option (Int32 × LH) :=
  xb2 (s_Main_isSitter p0 σ) fun r2 σ3 =>
  if r2 = 0 then (
   s_Main_when_30 p0 p1 p2 p3 σ3)
  else (
   if p1 < 1 then (
    s_Main_when_30 p0 p1 p2 p3 σ3)
   else (
    if 9 < p1 then (
     s_Main_when_30 p0 p1 p2 p3 σ3)
    else (
     if p2 < 1 then (
      s_Main_when_30 p0 p1 p2 p3 σ3)
     else (
      if p2 ≤ 30 then (
       xb2 (s_Main_minutesLeft σ3) fun r10 σ11 =>
       if r10 < 1 then (
        s_Main_when_49 p0 p1 p2 p3 σ11)
       else (
        xb2 (s_Main_isNoChoice p3 σ11) fun r14 σ15 =>
        if r14 = 0 then (
         xb1 (s_Guess_findMinute p0 p1 p2 σ15) fun σ18 =>
         if p3 = 0 then (
          s_Main_when_84 p0 p1 p2 p3 (σ18.1 58 5) σ18)
         else (
          s_Main_when_84 p0 p1 p2 p3 (σ18.1 58 6) σ18))
        else (
         s_Main_when_49 p0 p1 p2 p3 σ15)))
      else (
       s_Main_when_30 p0 p1 p2 p3 σ3)))))
theorem c_Main_when {G : XG} {l : Launch} {d : Nat} (hd : 7 ≤ d) {p0 : Int32} {p1 : Int32} {p2 : Int32} {p3 : Int32} {σ σ' : LH} {r : Int32} (h0 : s_Main_when p0 p1 p2 p3 σ = some (r, σ')) : xM G 1 570 l y_Main_when prog_1_method_32_code 5 (some .int) d [.ref (G.2.2.1 + 1), .int p0, .int p1, .int p2, .int p3] σ (some (.int r)) σ' := by
  obtain ⟨d, rfl⟩ : ∃ q, d = q + 1 := ⟨d - 1, by omega⟩
  refine x_met R_Main rfl (by decide +kernel) (Nat.le_of_ble_eq_true rfl) fun p e s m below meth c C hr hk hR => ?_
  refine x_lv (lv' := [(0, .ref (G.2.2.1 + 1)), (1, .int p0), (2, .int p1), (3, .int p2), (4, .int p3)]) C [0, 1, 2, 3, 4] rfl ?_
  generalize xrm (d + 1) = R at hR ⊢
  unfold s_Main_when at h0
  refine x_aload_n C d_Main_when_0 0 rfl ?_
  refine x_iload_n C d_Main_when_1 1 rfl ?_
  obtain ⟨r2, σ3, k1, h0⟩ := xbind2 h0
  refine x_callVi C hR (c_Main_isSitter (d := d) (by omega) k1) cw_Main_186 k_1 rfl rfl rfl (Nat.le_of_ble_eq_true rfl) ⟨Nat.zero_le _, Nat.zero_le _⟩ d_Main_when_2 ?_
  refine x_if_eq C 30 d_Main_when_5 (by decide) (fun q4 => ?_) (fun q4 => ?_)
  · replace h0 := xit q4 h0
    exact x_lv C [] rfl (b_Main_when_30 C hr hk hd hR h0)
  · replace h0 := xif q4 h0
    refine x_iload_n C d_Main_when_8 2 rfl ?_
    refine x_iconst (v := 1) C d_Main_when_9 (by decide) ?_
    refine x_icmp_lt C 30 d_Main_when_10 (by decide) (fun q5 => ?_) (fun q5 => ?_)
    · replace h0 := xit q5 h0
      exact x_lv C [] rfl (b_Main_when_30 C hr hk hd hR h0)
    · replace h0 := xif q5 h0
      refine x_iload_n C d_Main_when_13 2 rfl ?_
      refine x_bipush (v := 9) C d_Main_when_14 (by decide) ?_
      refine x_icmp_gt C 30 d_Main_when_16 (by decide) (fun q6 => ?_) (fun q6 => ?_)
      · replace h0 := xit q6 h0
        exact x_lv C [] rfl (b_Main_when_30 C hr hk hd hR h0)
      · replace h0 := xif q6 h0
        refine x_iload_n C d_Main_when_19 3 rfl ?_
        refine x_iconst (v := 1) C d_Main_when_20 (by decide) ?_
        refine x_icmp_lt C 30 d_Main_when_21 (by decide) (fun q7 => ?_) (fun q7 => ?_)
        · replace h0 := xit q7 h0
          exact x_lv C [] rfl (b_Main_when_30 C hr hk hd hR h0)
        · replace h0 := xif q7 h0
          refine x_iload_n C d_Main_when_24 3 rfl ?_
          refine x_bipush (v := 30) C d_Main_when_25 (by decide) ?_
          refine x_icmp_le C 33 d_Main_when_27 (by decide) (fun q8 => ?_) (fun q8 => ?_)
          · replace h0 := xit q8 h0
            refine x_aload_n C d_Main_when_33 0 rfl ?_
            obtain ⟨r10, σ11, k9, h0⟩ := xbind2 h0
            refine x_callVi C hR (c_Main_minutesLeft (d := d) (by omega) k9) cw_Main_247 k_1 rfl rfl rfl (Nat.le_of_ble_eq_true rfl) ⟨Nat.zero_le _, Nat.zero_le _⟩ d_Main_when_34 ?_
            refine x_iconst (v := 1) C d_Main_when_37 (by decide) ?_
            refine x_icmp_lt C 49 d_Main_when_38 (by decide) (fun q12 => ?_) (fun q12 => ?_)
            · replace h0 := xit q12 h0
              exact x_lv C [] rfl (b_Main_when_49 C hr hk hd hR h0)
            · replace h0 := xif q12 h0
              refine x_iload C d_Main_when_41 4 rfl ?_
              obtain ⟨r14, σ15, k13, h0⟩ := xbind2 h0
              refine x_callSi C hR (c_Main_isNoChoice (d := d) (by omega) k13) cw_Main_283 w_1149 rfl rfl (Nat.le_of_ble_eq_true rfl) ⟨Nat.zero_le _, Nat.zero_le _⟩ d_Main_when_43 ?_
              refine x_if_eq C 52 d_Main_when_46 (by decide) (fun q16 => ?_) (fun q16 => ?_)
              · replace h0 := xit q16 h0
                refine x_aload_n C d_Main_when_52 0 rfl ?_
                refine x_getA (y := 58) C fg_Main_105 k_1 rfl d_Main_when_53 ?_
                refine x_iload_n C d_Main_when_56 1 rfl ?_
                refine x_iload_n C d_Main_when_57 2 rfl ?_
                refine x_iload_n C d_Main_when_58 3 rfl ?_
                obtain ⟨σ18, k17, h0⟩ := xbind1 h0
                refine x_callVv C hR (c_Guess_findMinute (d := d) (by omega) k17) cw_Main_301 k_58 rfl rfl rfl (Nat.le_of_ble_eq_true rfl) ⟨Nat.zero_le _, Nat.zero_le _⟩ d_Main_when_59 ?_
                refine x_iload C d_Main_when_62 4 rfl ?_
                refine x_if_ne C 77 d_Main_when_64 (by decide) (fun q19 => ?_) (fun q19 => ?_)
                · replace h0 := xif q19 h0
                  refine x_aload_n C d_Main_when_77 0 rfl ?_
                  refine x_getA (y := 58) C fg_Main_105 k_1 rfl d_Main_when_78 ?_
                  refine x_getI (y := 0) C fg_Main_298 k_58 rfl d_Main_when_81 ?_
                  exact x_lv C [] rfl (b_Main_when_84 C hr hk hd hR h0)
                · replace h0 := xit q19 h0
                  refine x_aload_n C d_Main_when_67 0 rfl ?_
                  refine x_getA (y := 58) C fg_Main_105 k_1 rfl d_Main_when_68 ?_
                  refine x_getI (y := 0) C fg_Main_295 k_58 rfl d_Main_when_71 ?_
                  refine x_goto C 84 d_Main_when_74 (by decide) ?_
                  exact x_lv C [] rfl (b_Main_when_84 C hr hk hd hR h0)
              · replace h0 := xif q16 h0
                exact x_lv C [] rfl (b_Main_when_49 C hr hk hd hR h0)
          · replace h0 := xif q8 h0
            exact x_lv C [] rfl (b_Main_when_30 C hr hk hd hR h0)
-- LostPlaces$Guess.joyKeeping(II)I
theorem d_Guess_joyKeeping_0 : decode prog_5_method_6_code 0 = .ok (.aload_n 0, 1) := by decide +kernel
theorem d_Guess_joyKeeping_1 : decode prog_5_method_6_code 1 = .ok (.getfield 12, 3) := by decide +kernel
theorem d_Guess_joyKeeping_4 : decode prog_5_method_6_code 4 = .ok (.aload_n 0, 1) := by decide +kernel
theorem d_Guess_joyKeeping_5 : decode prog_5_method_6_code 5 = .ok (.getfield 37, 3) := by decide +kernel
theorem d_Guess_joyKeeping_8 : decode prog_5_method_6_code 8 = .ok (.invokevirtual 40, 3) := by decide +kernel
theorem d_Guess_joyKeeping_11 : decode prog_5_method_6_code 11 = .ok (.aload_n 0, 1) := by decide +kernel
theorem d_Guess_joyKeeping_12 : decode prog_5_method_6_code 12 = .ok (.getfield 12, 3) := by decide +kernel
theorem d_Guess_joyKeeping_15 : decode prog_5_method_6_code 15 = .ok (.getfield 92, 3) := by decide +kernel
theorem d_Guess_joyKeeping_18 : decode prog_5_method_6_code 18 = .ok (.iload_n 1, 1) := by decide +kernel
theorem d_Guess_joyKeeping_19 : decode prog_5_method_6_code 19 = .ok (.iload_n 2, 1) := by decide +kernel
theorem d_Guess_joyKeeping_20 : decode prog_5_method_6_code 20 = .ok (.iastore, 1) := by decide +kernel
theorem d_Guess_joyKeeping_21 : decode prog_5_method_6_code 21 = .ok (.aload_n 0, 1) := by decide +kernel
theorem d_Guess_joyKeeping_22 : decode prog_5_method_6_code 22 = .ok (.getfield 33, 3) := by decide +kernel
theorem d_Guess_joyKeeping_25 : decode prog_5_method_6_code 25 = .ok (.aload_n 0, 1) := by decide +kernel
theorem d_Guess_joyKeeping_26 : decode prog_5_method_6_code 26 = .ok (.getfield 12, 3) := by decide +kernel
theorem d_Guess_joyKeeping_29 : decode prog_5_method_6_code 29 = .ok (.aload_n 0, 1) := by decide +kernel
theorem d_Guess_joyKeeping_30 : decode prog_5_method_6_code 30 = .ok (.getfield 25, 3) := by decide +kernel
theorem d_Guess_joyKeeping_33 : decode prog_5_method_6_code 33 = .ok (.getfield 74, 3) := by decide +kernel
theorem d_Guess_joyKeeping_36 : decode prog_5_method_6_code 36 = .ok (.invokevirtual 47, 3) := by decide +kernel
theorem d_Guess_joyKeeping_39 : decode prog_5_method_6_code 39 = .ok (.aload_n 0, 1) := by decide +kernel
theorem d_Guess_joyKeeping_40 : decode prog_5_method_6_code 40 = .ok (.getfield 12, 3) := by decide +kernel
theorem d_Guess_joyKeeping_43 : decode prog_5_method_6_code 43 = .ok (.getfield 86, 3) := by decide +kernel
theorem d_Guess_joyKeeping_46 : decode prog_5_method_6_code 46 = .ok (.iload_n 1, 1) := by decide +kernel
theorem d_Guess_joyKeeping_47 : decode prog_5_method_6_code 47 = .ok (.iaload, 1) := by decide +kernel
theorem d_Guess_joyKeeping_48 : decode prog_5_method_6_code 48 = .ok (.ireturn, 1) := by decide +kernel
def s_Guess_joyKeeping (p0 : Int32) (p1 : Int32) (σ : LH) : Option (Int32 × LH) :=
  xb1 (s_Hall_beginAs 59 39 σ) fun σ2 =>
  if ib p0 8 then (
  xl ((stI σ2 62 (Int32.toNatClampNeg p0) p1) : LH) fun σ4 =>
  xb1 (s_Evening_run 59 (σ4.1 4 15) σ4) fun σ6 =>
  if ib p0 8 then (
  some ((σ6.1 63 (Int32.toNatClampNeg p0)), σ6)) else none) else none
theorem c_Guess_joyKeeping {G : XG} {l : Launch} {d : Nat} (hd : 6 ≤ d) {p0 : Int32} {p1 : Int32} {σ σ' : LH} {r : Int32} (h0 : s_Guess_joyKeeping p0 p1 σ = some (r, σ')) : xM G 1 570 l y_Guess_joyKeeping prog_5_method_6_code 3 (some .int) d [.ref (G.2.2.1 + 58), .int p0, .int p1] σ (some (.int r)) σ' := by
  obtain ⟨d, rfl⟩ : ∃ q, d = q + 1 := ⟨d - 1, by omega⟩
  refine x_met R_Guess rfl (by decide +kernel) (Nat.le_of_ble_eq_true rfl) fun p e s m below meth c C hr hk hR => ?_
  refine x_lv (lv' := [(0, .ref (G.2.2.1 + 58)), (1, .int p0), (2, .int p1)]) C [0, 1, 2] rfl ?_
  generalize xrm (d + 1) = R at hR ⊢
  unfold s_Guess_joyKeeping at h0
  refine x_aload_n C d_Guess_joyKeeping_0 0 rfl ?_
  refine x_getA (y := 59) C fg_Guess_12 k_58 rfl d_Guess_joyKeeping_1 ?_
  refine x_aload_n C d_Guess_joyKeeping_4 0 rfl ?_
  refine x_getA (y := 39) C fg_Guess_37 k_58 rfl d_Guess_joyKeeping_5 ?_
  obtain ⟨σ2, k1, h0⟩ := xbind1 h0
  refine x_callVv C hR (c_Hall_beginAs (d := d) (by omega) (show 59 ∈ xHalls by decide) (show 39 ∈ xHalls by decide) k1) cw_Guess_40 k_59 rfl rfl rfl (Nat.le_of_ble_eq_true rfl) ⟨Nat.zero_le _, Nat.zero_le _⟩ d_Guess_joyKeeping_8 ?_
  refine x_aload_n C d_Guess_joyKeeping_11 0 rfl ?_
  refine x_getA (y := 59) C fg_Guess_12 k_58 rfl d_Guess_joyKeeping_12 ?_
  refine x_getR (y := 3) C fg_Guess_92 k_59 rfl d_Guess_joyKeeping_15 ?_
  show XJ _ _ _ _ _ _ _ _ _ _ _ _ _ _ _ _ _ _ _ (.ref (G.2.2.1 + 62) :: _) _
  refine x_iload_n C d_Guess_joyKeeping_18 1 rfl ?_
  refine x_iload_n C d_Guess_joyKeeping_19 2 rfl ?_
  obtain ⟨g3, h0⟩ := xgo h0
  refine x_iast C k_62 (ib_in g3) d_Guess_joyKeeping_20 ?_
  obtain ⟨σ4, eσ4, h0⟩ := xlet h0
  refine x_sig C eσ4 ?_
  refine x_aload_n C d_Guess_joyKeeping_21 0 rfl ?_
  refine x_getA (y := 38) C fg_Guess_33 k_58 rfl d_Guess_joyKeeping_22 ?_
  refine x_aload_n C d_Guess_joyKeeping_25 0 rfl ?_
  refine x_getA (y := 59) C fg_Guess_12 k_58 rfl d_Guess_joyKeeping_26 ?_
  refine x_aload_n C d_Guess_joyKeeping_29 0 rfl ?_
  refine x_getA (y := 4) C fg_Guess_25 k_58 rfl d_Guess_joyKeeping_30 ?_
  refine x_getI (y := 0) C fg_Guess_74 k_4 rfl d_Guess_joyKeeping_33 ?_
  obtain ⟨σ6, k5, h0⟩ := xbind1 h0
  refine x_callVv C hR (c_Evening_run (d := d) (by omega) (show 59 ∈ xHalls by decide) k5) cw_Guess_47 k_38 rfl rfl rfl (Nat.le_of_ble_eq_true rfl) ⟨Nat.zero_le _, Nat.zero_le _⟩ d_Guess_joyKeeping_36 ?_
  refine x_aload_n C d_Guess_joyKeeping_39 0 rfl ?_
  refine x_getA (y := 59) C fg_Guess_12 k_58 rfl d_Guess_joyKeeping_40 ?_
  refine x_getR (y := 4) C fg_Guess_86 k_59 rfl d_Guess_joyKeeping_43 ?_
  show XJ _ _ _ _ _ _ _ _ _ _ _ _ _ _ _ _ _ _ _ (.ref (G.2.2.1 + 63) :: _) _
  refine x_iload_n C d_Guess_joyKeeping_46 1 rfl ?_
  obtain ⟨g7, h0⟩ := xgo h0
  refine x_iald C k_63 (ib_in g7) d_Guess_joyKeeping_47 ?_
  exact x_iret C hr hk h0 d_Guess_joyKeeping_48
-- LostPlaces.keeping(II)I
theorem d_Main_keeping_0 : decode prog_1_method_33_code 0 = .ok (.aload_n 0, 1) := by decide +kernel
theorem d_Main_keeping_1 : decode prog_1_method_33_code 1 = .ok (.iload_n 1, 1) := by decide +kernel
theorem d_Main_keeping_2 : decode prog_1_method_33_code 2 = .ok (.invokevirtual 186, 3) := by decide +kernel
theorem d_Main_keeping_5 : decode prog_1_method_33_code 5 = .ok (.ifCond .eq 13, 3) := by decide +kernel
theorem d_Main_keeping_8 : decode prog_1_method_33_code 8 = .ok (.iload_n 2, 1) := by decide +kernel
theorem d_Main_keeping_9 : decode prog_1_method_33_code 9 = .ok (.ifCond .lt 9, 3) := by decide +kernel
theorem d_Main_keeping_12 : decode prog_1_method_33_code 12 = .ok (.iload_n 2, 1) := by decide +kernel
theorem d_Main_keeping_13 : decode prog_1_method_33_code 13 = .ok (.bipush 9, 2) := by decide +kernel
theorem d_Main_keeping_15 : decode prog_1_method_33_code 15 = .ok (.if_icmp .le 6, 3) := by decide +kernel
theorem d_Main_keeping_18 : decode prog_1_method_33_code 18 = .ok (.ldc 226, 2) := by decide +kernel
theorem d_Main_keeping_20 : decode prog_1_method_33_code 20 = .ok (.ireturn, 1) := by decide +kernel
theorem d_Main_keeping_21 : decode prog_1_method_33_code 21 = .ok (.aload_n 0, 1) := by decide +kernel
theorem d_Main_keeping_22 : decode prog_1_method_33_code 22 = .ok (.getfield 105, 3) := by decide +kernel
theorem d_Main_keeping_25 : decode prog_1_method_33_code 25 = .ok (.iload_n 1, 1) := by decide +kernel
theorem d_Main_keeping_26 : decode prog_1_method_33_code 26 = .ok (.iload_n 2, 1) := by decide +kernel
theorem d_Main_keeping_27 : decode prog_1_method_33_code 27 = .ok (.invokevirtual 305, 3) := by decide +kernel
theorem d_Main_keeping_30 : decode prog_1_method_33_code 30 = .ok (.aload_n 0, 1) := by decide +kernel
theorem d_Main_keeping_31 : decode prog_1_method_33_code 31 = .ok (.getfield 105, 3) := by decide +kernel
theorem d_Main_keeping_34 : decode prog_1_method_33_code 34 = .ok (.iload_n 1, 1) := by decide +kernel
theorem d_Main_keeping_35 : decode prog_1_method_33_code 35 = .ok (.iconst 0, 1) := by decide +kernel
theorem d_Main_keeping_36 : decode prog_1_method_33_code 36 = .ok (.invokevirtual 305, 3) := by decide +kernel
theorem d_Main_keeping_39 : decode prog_1_method_33_code 39 = .ok (.isub, 1) := by decide +kernel
theorem d_Main_keeping_40 : decode prog_1_method_33_code 40 = .ok (.ireturn, 1) := by decide +kernel
def s_Main_keeping_18 (p0 : Int32) (p1 : Int32) (σ : LH) : Option (Int32 × LH) :=
  some ((-1000000), σ)
theorem b_Main_keeping_18 {G : XG} {l : Launch} {p : Program} {e : Env} {R : Room} {s : State} {m : MethodId} {args : Array Value} {below : List Frame} {meth : Method} {c : Code} (C : XC G 1 570 p s m args c prog_1_method_33_code 3 R_Main) (hr : meth.sig.returnType = (some .int)) (hk : meth.locks = false) {d : Nat} (hd : 7 ≤ d + 1) (hR : xroom R (d + 1)) {p0 : Int32} {p1 : Int32} {σ' : LH} {r : Int32} {σ : LH} (h0 : s_Main_keeping_18 p0 p1 σ = some (r, σ')) : XJ G 1 570 p l e R s m args below meth c 3 (XQ G 1 570 below args s (some (.int r)) σ') 0 0 18 [] [] σ := by
  replace h0 := (show _ = _ from h0)
  unfold s_Main_keeping_18 at h0
  refine x_ldc (v := (-1000000)) C w_982 d_Main_keeping_18 ?_
  exact x_iret C hr hk h0 d_Main_keeping_20
def s_Main_keeping (p0 : Int32) (p1 : Int32) (σ : LH) : Option (Int32 × LH) :=
  xb2 (s_Main_isSitter p0 σ) fun r2 σ3 =>
  if r2 = 0 then (
   s_Main_keeping_18 p0 p1 σ3)
  else (
   if p1 < 0 then (
    s_Main_keeping_18 p0 p1 σ3)
   else (
    if p1 ≤ 9 then (
     xb2 (s_Guess_joyKeeping p0 p1 σ3) fun r8 σ9 =>
     xb2 (s_Guess_joyKeeping p0 0 σ9) fun r11 σ12 =>
     some ((r8 - r11), σ12))
    else (
     s_Main_keeping_18 p0 p1 σ3)))
theorem c_Main_keeping {G : XG} {l : Launch} {d : Nat} (hd : 7 ≤ d) {p0 : Int32} {p1 : Int32} {σ σ' : LH} {r : Int32} (h0 : s_Main_keeping p0 p1 σ = some (r, σ')) : xM G 1 570 l y_Main_keeping prog_1_method_33_code 3 (some .int) d [.ref (G.2.2.1 + 1), .int p0, .int p1] σ (some (.int r)) σ' := by
  obtain ⟨d, rfl⟩ : ∃ q, d = q + 1 := ⟨d - 1, by omega⟩
  refine x_met R_Main rfl (by decide +kernel) (Nat.le_of_ble_eq_true rfl) fun p e s m below meth c C hr hk hR => ?_
  refine x_lv (lv' := [(0, .ref (G.2.2.1 + 1)), (1, .int p0), (2, .int p1)]) C [0, 1, 2] rfl ?_
  generalize xrm (d + 1) = R at hR ⊢
  unfold s_Main_keeping at h0
  refine x_aload_n C d_Main_keeping_0 0 rfl ?_
  refine x_iload_n C d_Main_keeping_1 1 rfl ?_
  obtain ⟨r2, σ3, k1, h0⟩ := xbind2 h0
  refine x_callVi C hR (c_Main_isSitter (d := d) (by omega) k1) cw_Main_186 k_1 rfl rfl rfl (Nat.le_of_ble_eq_true rfl) ⟨Nat.zero_le _, Nat.zero_le _⟩ d_Main_keeping_2 ?_
  refine x_if_eq C 18 d_Main_keeping_5 (by decide) (fun q4 => ?_) (fun q4 => ?_)
  · replace h0 := xit q4 h0
    exact x_lv C [] rfl (b_Main_keeping_18 C hr hk hd hR h0)
  · replace h0 := xif q4 h0
    refine x_iload_n C d_Main_keeping_8 2 rfl ?_
    refine x_if_lt C 18 d_Main_keeping_9 (by decide) (fun q5 => ?_) (fun q5 => ?_)
    · replace h0 := xit q5 h0
      exact x_lv C [] rfl (b_Main_keeping_18 C hr hk hd hR h0)
    · replace h0 := xif q5 h0
      refine x_iload_n C d_Main_keeping_12 2 rfl ?_
      refine x_bipush (v := 9) C d_Main_keeping_13 (by decide) ?_
      refine x_icmp_le C 21 d_Main_keeping_15 (by decide) (fun q6 => ?_) (fun q6 => ?_)
      · replace h0 := xit q6 h0
        refine x_aload_n C d_Main_keeping_21 0 rfl ?_
        refine x_getA (y := 58) C fg_Main_105 k_1 rfl d_Main_keeping_22 ?_
        refine x_iload_n C d_Main_keeping_25 1 rfl ?_
        refine x_iload_n C d_Main_keeping_26 2 rfl ?_
        obtain ⟨r8, σ9, k7, h0⟩ := xbind2 h0
        refine x_callVi C hR (c_Guess_joyKeeping (d := d) (by omega) k7) cw_Main_305 k_58 rfl rfl rfl (Nat.le_of_ble_eq_true rfl) ⟨Nat.zero_le _, Nat.zero_le _⟩ d_Main_keeping_27 ?_
        refine x_aload_n C d_Main_keeping_30 0 rfl ?_
        refine x_getA (y := 58) C fg_Main_105 k_1 rfl d_Main_keeping_31 ?_
        refine x_iload_n C d_Main_keeping_34 1 rfl ?_
        refine x_iconst (v := 0) C d_Main_keeping_35 (by decide) ?_
        obtain ⟨r11, σ12, k10, h0⟩ := xbind2 h0
        refine x_callVi C hR (c_Guess_joyKeeping (d := d) (by omega) k10) cw_Main_305 k_58 rfl rfl rfl (Nat.le_of_ble_eq_true rfl) ⟨Nat.zero_le _, Nat.zero_le _⟩ d_Main_keeping_36 ?_
        refine x_isub C d_Main_keeping_39 ?_
        exact x_iret C hr hk h0 d_Main_keeping_40
      · replace h0 := xif q6 h0
        exact x_lv C [] rfl (b_Main_keeping_18 C hr hk hd hR h0)
-- LostPlaces$Guess.findPlace(I)V
theorem d_Guess_findPlace_0 : decode prog_5_method_7_code 0 = .ok (.aload_n 0, 1) := by decide +kernel
theorem d_Guess_findPlace_1 : decode prog_5_method_7_code 1 = .ok (.getfield 12, 3) := by decide +kernel
theorem d_Guess_findPlace_4 : decode prog_5_method_7_code 4 = .ok (.aload_n 0, 1) := by decide +kernel
theorem d_Guess_findPlace_5 : decode prog_5_method_7_code 5 = .ok (.getfield 37, 3) := by decide +kernel
theorem d_Guess_findPlace_8 : decode prog_5_method_7_code 8 = .ok (.invokevirtual 40, 3) := by decide +kernel
theorem d_Guess_findPlace_11 : decode prog_5_method_7_code 11 = .ok (.aload_n 0, 1) := by decide +kernel
theorem d_Guess_findPlace_12 : decode prog_5_method_7_code 12 = .ok (.getfield 33, 3) := by decide +kernel
theorem d_Guess_findPlace_15 : decode prog_5_method_7_code 15 = .ok (.aload_n 0, 1) := by decide +kernel
theorem d_Guess_findPlace_16 : decode prog_5_method_7_code 16 = .ok (.getfield 12, 3) := by decide +kernel
theorem d_Guess_findPlace_19 : decode prog_5_method_7_code 19 = .ok (.aload_n 0, 1) := by decide +kernel
theorem d_Guess_findPlace_20 : decode prog_5_method_7_code 20 = .ok (.getfield 25, 3) := by decide +kernel
theorem d_Guess_findPlace_23 : decode prog_5_method_7_code 23 = .ok (.getfield 74, 3) := by decide +kernel
theorem d_Guess_findPlace_26 : decode prog_5_method_7_code 26 = .ok (.invokevirtual 47, 3) := by decide +kernel
theorem d_Guess_findPlace_29 : decode prog_5_method_7_code 29 = .ok (.aload_n 0, 1) := by decide +kernel
theorem d_Guess_findPlace_30 : decode prog_5_method_7_code 30 = .ok (.aload_n 0, 1) := by decide +kernel
theorem d_Guess_findPlace_31 : decode prog_5_method_7_code 31 = .ok (.getfield 37, 3) := by decide +kernel
theorem d_Guess_findPlace_34 : decode prog_5_method_7_code 34 = .ok (.getfield 53, 3) := by decide +kernel
theorem d_Guess_findPlace_37 : decode prog_5_method_7_code 37 = .ok (.iload_n 1, 1) := by decide +kernel
theorem d_Guess_findPlace_38 : decode prog_5_method_7_code 38 = .ok (.iaload, 1) := by decide +kernel
theorem d_Guess_findPlace_39 : decode prog_5_method_7_code 39 = .ok (.aload_n 0, 1) := by decide +kernel
theorem d_Guess_findPlace_40 : decode prog_5_method_7_code 40 = .ok (.getfield 12, 3) := by decide +kernel
theorem d_Guess_findPlace_43 : decode prog_5_method_7_code 43 = .ok (.getfield 86, 3) := by decide +kernel
theorem d_Guess_findPlace_46 : decode prog_5_method_7_code 46 = .ok (.iload_n 1, 1) := by decide +kernel
theorem d_Guess_findPlace_47 : decode prog_5_method_7_code 47 = .ok (.iaload, 1) := by decide +kernel
theorem d_Guess_findPlace_48 : decode prog_5_method_7_code 48 = .ok (.iconst 1, 1) := by decide +kernel
theorem d_Guess_findPlace_49 : decode prog_5_method_7_code 49 = .ok (.invokevirtual 89, 3) := by decide +kernel
theorem d_Guess_findPlace_52 : decode prog_5_method_7_code 52 = .ok (.iconst 0, 1) := by decide +kernel
theorem d_Guess_findPlace_53 : decode prog_5_method_7_code 53 = .ok (.istore_n 2, 1) := by decide +kernel
theorem d_Guess_findPlace_54 : decode prog_5_method_7_code 54 = .ok (.iload_n 2, 1) := by decide +kernel
theorem d_Guess_findPlace_55 : decode prog_5_method_7_code 55 = .ok (.aload_n 0, 1) := by decide +kernel
theorem d_Guess_findPlace_56 : decode prog_5_method_7_code 56 = .ok (.getfield 25, 3) := by decide +kernel
theorem d_Guess_findPlace_59 : decode prog_5_method_7_code 59 = .ok (.getfield 95, 3) := by decide +kernel
theorem d_Guess_findPlace_62 : decode prog_5_method_7_code 62 = .ok (.if_icmp .ge 76, 3) := by decide +kernel
theorem d_Guess_findPlace_65 : decode prog_5_method_7_code 65 = .ok (.aload_n 0, 1) := by decide +kernel
theorem d_Guess_findPlace_66 : decode prog_5_method_7_code 66 = .ok (.getfield 37, 3) := by decide +kernel
theorem d_Guess_findPlace_69 : decode prog_5_method_7_code 69 = .ok (.iload_n 2, 1) := by decide +kernel
theorem d_Guess_findPlace_70 : decode prog_5_method_7_code 70 = .ok (.invokevirtual 98, 3) := by decide +kernel
theorem d_Guess_findPlace_73 : decode prog_5_method_7_code 73 = .ok (.ifCond .ne 6, 3) := by decide +kernel
theorem d_Guess_findPlace_76 : decode prog_5_method_7_code 76 = .ok (.goto 56, 3) := by decide +kernel
theorem d_Guess_findPlace_79 : decode prog_5_method_7_code 79 = .ok (.aload_n 0, 1) := by decide +kernel
theorem d_Guess_findPlace_80 : decode prog_5_method_7_code 80 = .ok (.getfield 12, 3) := by decide +kernel
theorem d_Guess_findPlace_83 : decode prog_5_method_7_code 83 = .ok (.aload_n 0, 1) := by decide +kernel
theorem d_Guess_findPlace_84 : decode prog_5_method_7_code 84 = .ok (.getfield 37, 3) := by decide +kernel
theorem d_Guess_findPlace_87 : decode prog_5_method_7_code 87 = .ok (.invokevirtual 40, 3) := by decide +kernel
theorem d_Guess_findPlace_90 : decode prog_5_method_7_code 90 = .ok (.aload_n 0, 1) := by decide +kernel
theorem d_Guess_findPlace_91 : decode prog_5_method_7_code 91 = .ok (.getfield 12, 3) := by decide +kernel
theorem d_Guess_findPlace_94 : decode prog_5_method_7_code 94 = .ok (.iload_n 1, 1) := by decide +kernel
theorem d_Guess_findPlace_95 : decode prog_5_method_7_code 95 = .ok (.iload_n 2, 1) := by decide +kernel
theorem d_Guess_findPlace_96 : decode prog_5_method_7_code 96 = .ok (.invokevirtual 102, 3) := by decide +kernel
theorem d_Guess_findPlace_99 : decode prog_5_method_7_code 99 = .ok (.aload_n 0, 1) := by decide +kernel
theorem d_Guess_findPlace_100 : decode prog_5_method_7_code 100 = .ok (.getfield 33, 3) := by decide +kernel
theorem d_Guess_findPlace_103 : decode prog_5_method_7_code 103 = .ok (.aload_n 0, 1) := by decide +kernel
theorem d_Guess_findPlace_104 : decode prog_5_method_7_code 104 = .ok (.getfield 12, 3) := by decide +kernel
theorem d_Guess_findPlace_107 : decode prog_5_method_7_code 107 = .ok (.aload_n 0, 1) := by decide +kernel
theorem d_Guess_findPlace_108 : decode prog_5_method_7_code 108 = .ok (.getfield 25, 3) := by decide +kernel
theorem d_Guess_findPlace_111 : decode prog_5_method_7_code 111 = .ok (.getfield 74, 3) := by decide +kernel
theorem d_Guess_findPlace_114 : decode prog_5_method_7_code 114 = .ok (.invokevirtual 47, 3) := by decide +kernel
theorem d_Guess_findPlace_117 : decode prog_5_method_7_code 117 = .ok (.aload_n 0, 1) := by decide +kernel
theorem d_Guess_findPlace_118 : decode prog_5_method_7_code 118 = .ok (.iload_n 2, 1) := by decide +kernel
theorem d_Guess_findPlace_119 : decode prog_5_method_7_code 119 = .ok (.aload_n 0, 1) := by decide +kernel
theorem d_Guess_findPlace_120 : decode prog_5_method_7_code 120 = .ok (.getfield 12, 3) := by decide +kernel
theorem d_Guess_findPlace_123 : decode prog_5_method_7_code 123 = .ok (.getfield 86, 3) := by decide +kernel
theorem d_Guess_findPlace_126 : decode prog_5_method_7_code 126 = .ok (.iload_n 1, 1) := by decide +kernel
theorem d_Guess_findPlace_127 : decode prog_5_method_7_code 127 = .ok (.iaload, 1) := by decide +kernel
theorem d_Guess_findPlace_128 : decode prog_5_method_7_code 128 = .ok (.iconst 0, 1) := by decide +kernel
theorem d_Guess_findPlace_129 : decode prog_5_method_7_code 129 = .ok (.invokevirtual 89, 3) := by decide +kernel
theorem d_Guess_findPlace_132 : decode prog_5_method_7_code 132 = .ok (.iinc 2 1, 3) := by decide +kernel
theorem d_Guess_findPlace_135 : decode prog_5_method_7_code 135 = .ok (.goto (-81), 3) := by decide +kernel
theorem d_Guess_findPlace_138 : decode prog_5_method_7_code 138 = .ok (.return_, 1) := by decide +kernel
def s_Guess_findPlace_132 (p0 : Int32) (rec54 : Int32 → LH → Option (LH)) (y2 : Int32) (σ : LH) : Option (LH) :=
  xl ((y2 + 1) : Int32) fun x14 =>
  rec54 x14 σ
theorem b_Guess_findPlace_132 {G : XG} {l : Launch} {p : Program} {e : Env} {R : Room} {s : State} {m : MethodId} {args : Array Value} {below : List Frame} {meth : Method} {c : Code} (C : XC G 1 570 p s m args c prog_5_method_7_code 3 R_Guess) (hr : meth.sig.returnType = none) (hk : meth.locks = false) {d : Nat} (hd : 6 ≤ d + 1) (hR : xroom R (d + 1)) {p0 : Int32} {rec54 : Int32 → LH → Option (LH)} {σ' : LH} (hrec54 : ∀ (y2 : Int32) (σ : LH), rec54 y2 σ = some σ' → XJ G 1 570 p l e R s m args below meth c 3 (XQ G 1 570 below args s none σ') 0 0 54 [(0, .ref (G.2.2.1 + 58)), (1, .int p0), (2, .int y2)] [] σ) {y2 : Int32} {σ : LH} (h0 : s_Guess_findPlace_132 p0 rec54 y2 σ = some σ') : XJ G 1 570 p l e R s m args below meth c 3 (XQ G 1 570 below args s none σ') 0 0 132 [(0, .ref (G.2.2.1 + 58)), (1, .int p0), (2, .int y2)] [] σ := by
  replace h0 := (show _ = _ from h0)
  unfold s_Guess_findPlace_132 at h0
  obtain ⟨x14, ex14, h0⟩ := xlet h0
  refine x_iinc (lv' := [(2, .int x14), (0, .ref (G.2.2.1 + 58)), (1, .int p0)]) C d_Guess_findPlace_132 2 rfl ex14 (by decide) rfl ?_
  refine x_goto C 54 d_Guess_findPlace_135 (by decide) ?_
  exact x_lv C [1, 2, 0] rfl (hrec54 _ _ h0)
def s_Guess_findPlace_54_b (p0 : Int32) (rec54 : Int32 → LH → Option (LH)) (y2 : Int32) (σ : LH) : Option (LH) :=
  if (σ.1 4 0) ≤ y2 then (
   some σ)
  else (
   xb2 (s_Hall_isFree 39 y2 σ) fun r11 σ12 =>
   if r11 = 0 then (
    s_Guess_findPlace_132 p0 rec54 y2 σ12)
   else (
    xb1 (s_Hall_beginAs 59 39 σ12) fun σ16 =>
    xb1 (s_Hall_put 59 p0 y2 σ16) fun σ18 =>
    xb1 (s_Evening_run 59 (σ18.1 4 15) σ18) fun σ20 =>
    if ib p0 8 then (
    xb1 (s_Guess_offer y2 (σ20.1 63 (Int32.toNatClampNeg p0)) 0 σ20) fun σ23 =>
    s_Guess_findPlace_132 p0 rec54 y2 σ23) else none))
def s_Guess_findPlace_54 (p0 : Int32) : Nat → Int32 → LH → Option (LH)
  | 0, _, _ => none
  | n + 1, y2, σ => s_Guess_findPlace_54_b p0 (s_Guess_findPlace_54 p0 n) y2 σ
theorem bb_Guess_findPlace_54 {G : XG} {l : Launch} {p : Program} {e : Env} {R : Room} {s : State} {m : MethodId} {args : Array Value} {below : List Frame} {meth : Method} {c : Code} (C : XC G 1 570 p s m args c prog_5_method_7_code 3 R_Guess) (hr : meth.sig.returnType = none) (hk : meth.locks = false) {d : Nat} (hd : 6 ≤ d + 1) (hR : xroom R (d + 1)) {p0 : Int32} {rec54 : Int32 → LH → Option (LH)} {σ' : LH} (hrec54 : ∀ (y2 : Int32) (σ : LH), rec54 y2 σ = some σ' → XJ G 1 570 p l e R s m args below meth c 3 (XQ G 1 570 below args s none σ') 0 0 54 [(0, .ref (G.2.2.1 + 58)), (1, .int p0), (2, .int y2)] [] σ) {y2 : Int32} {σ : LH} (h0 : s_Guess_findPlace_54_b p0 rec54 y2 σ = some σ') : XJ G 1 570 p l e R s m args below meth c 3 (XQ G 1 570 below args s none σ') 0 0 54 [(0, .ref (G.2.2.1 + 58)), (1, .int p0), (2, .int y2)] [] σ := by
  replace h0 := (show _ = _ from h0)
  unfold s_Guess_findPlace_54_b at h0
  refine x_iload_n C d_Guess_findPlace_54 2 rfl ?_
  refine x_aload_n C d_Guess_findPlace_55 0 rfl ?_
  refine x_getA (y := 4) C fg_Guess_25 k_58 rfl d_Guess_findPlace_56 ?_
  refine x_getI (y := 0) C fg_Guess_95 k_4 rfl d_Guess_findPlace_59 ?_
  refine x_icmp_ge C 138 d_Guess_findPlace_62 (by decide) (fun q9 => ?_) (fun q9 => ?_)
  · replace h0 := xit q9 h0
    exact x_vret C hr hk h0 d_Guess_findPlace_138
  · replace h0 := xif q9 h0
    refine x_aload_n C d_Guess_findPlace_65 0 rfl ?_
    refine x_getA (y := 39) C fg_Guess_37 k_58 rfl d_Guess_findPlace_66 ?_
    refine x_iload_n C d_Guess_findPlace_69 2 rfl ?_
    obtain ⟨r11, σ12, k10, h0⟩ := xbind2 h0
    refine x_callVi C hR (c_Hall_isFree (d := d) (by omega) (show 39 ∈ xHalls by decide) k10) cw_Guess_98 k_39 rfl rfl rfl (Nat.le_of_ble_eq_true rfl) ⟨Nat.zero_le _, Nat.zero_le _⟩ d_Guess_findPlace_70 ?_
    refine x_if_ne C 79 d_Guess_findPlace_73 (by decide) (fun q13 => ?_) (fun q13 => ?_)
    · replace h0 := xif q13 h0
      refine x_aload_n C d_Guess_findPlace_79 0 rfl ?_
      refine x_getA (y := 59) C fg_Guess_12 k_58 rfl d_Guess_findPlace_80 ?_
      refine x_aload_n C d_Guess_findPlace_83 0 rfl ?_
      refine x_getA (y := 39) C fg_Guess_37 k_58 rfl d_Guess_findPlace_84 ?_
      obtain ⟨σ16, k15, h0⟩ := xbind1 h0
      refine x_callVv C hR (c_Hall_beginAs (d := d) (by omega) (show 59 ∈ xHalls by decide) (show 39 ∈ xHalls by decide) k15) cw_Guess_40 k_59 rfl rfl rfl (Nat.le_of_ble_eq_true rfl) ⟨Nat.zero_le _, Nat.zero_le _⟩ d_Guess_findPlace_87 ?_
      refine x_aload_n C d_Guess_findPlace_90 0 rfl ?_
      refine x_getA (y := 59) C fg_Guess_12 k_58 rfl d_Guess_findPlace_91 ?_
      refine x_iload_n C d_Guess_findPlace_94 1 rfl ?_
      refine x_iload_n C d_Guess_findPlace_95 2 rfl ?_
      obtain ⟨σ18, k17, h0⟩ := xbind1 h0
      refine x_callVv C hR (c_Hall_put (d := d) (by omega) (show 59 ∈ xHalls by decide) k17) cw_Guess_102 k_59 rfl rfl rfl (Nat.le_of_ble_eq_true rfl) ⟨Nat.zero_le _, Nat.zero_le _⟩ d_Guess_findPlace_96 ?_
      refine x_aload_n C d_Guess_findPlace_99 0 rfl ?_
      refine x_getA (y := 38) C fg_Guess_33 k_58 rfl d_Guess_findPlace_100 ?_
      refine x_aload_n C d_Guess_findPlace_103 0 rfl ?_
      refine x_getA (y := 59) C fg_Guess_12 k_58 rfl d_Guess_findPlace_104 ?_
      refine x_aload_n C d_Guess_findPlace_107 0 rfl ?_
      refine x_getA (y := 4) C fg_Guess_25 k_58 rfl d_Guess_findPlace_108 ?_
      refine x_getI (y := 0) C fg_Guess_74 k_4 rfl d_Guess_findPlace_111 ?_
      obtain ⟨σ20, k19, h0⟩ := xbind1 h0
      refine x_callVv C hR (c_Evening_run (d := d) (by omega) (show 59 ∈ xHalls by decide) k19) cw_Guess_47 k_38 rfl rfl rfl (Nat.le_of_ble_eq_true rfl) ⟨Nat.zero_le _, Nat.zero_le _⟩ d_Guess_findPlace_114 ?_
      refine x_aload_n C d_Guess_findPlace_117 0 rfl ?_
      refine x_iload_n C d_Guess_findPlace_118 2 rfl ?_
      refine x_aload_n C d_Guess_findPlace_119 0 rfl ?_
      refine x_getA (y := 59) C fg_Guess_12 k_58 rfl d_Guess_findPlace_120 ?_
      refine x_getR (y := 4) C fg_Guess_86 k_59 rfl d_Guess_findPlace_123 ?_
      show XJ _ _ _ _ _ _ _ _ _ _ _ _ _ _ _ _ _ _ _ (.ref (G.2.2.1 + 63) :: _) _
      refine x_iload_n C d_Guess_findPlace_126 1 rfl ?_
      obtain ⟨g21, h0⟩ := xgo h0
      refine x_iald C k_63 (ib_in g21) d_Guess_findPlace_127 ?_
      refine x_iconst (v := 0) C d_Guess_findPlace_128 (by decide) ?_
      obtain ⟨σ23, k22, h0⟩ := xbind1 h0
      refine x_callVv C hR (c_Guess_offer (d := d) (by omega) k22) cw_Guess_89 k_58 rfl rfl rfl (Nat.le_of_ble_eq_true rfl) ⟨Nat.zero_le _, Nat.zero_le _⟩ d_Guess_findPlace_129 ?_
      exact x_lv C [0, 1, 2] rfl (b_Guess_findPlace_132 C hr hk hd hR hrec54 h0)
    · replace h0 := xit q13 h0
      refine x_goto C 132 d_Guess_findPlace_76 (by decide) ?_
      exact x_lv C [0, 1, 2] rfl (b_Guess_findPlace_132 C hr hk hd hR hrec54 h0)
theorem b_Guess_findPlace_54 {G : XG} {l : Launch} {p : Program} {e : Env} {R : Room} {s : State} {m : MethodId} {args : Array Value} {below : List Frame} {meth : Method} {c : Code} (C : XC G 1 570 p s m args c prog_5_method_7_code 3 R_Guess) (hr : meth.sig.returnType = none) (hk : meth.locks = false) {d : Nat} (hd : 6 ≤ d + 1) (hR : xroom R (d + 1)) {p0 : Int32} {σ' : LH} : ∀ (n : Nat) (y2 : Int32) (σ : LH), s_Guess_findPlace_54 p0 n y2 σ = some σ' → XJ G 1 570 p l e R s m args below meth c 3 (XQ G 1 570 below args s none σ') 0 0 54 [(0, .ref (G.2.2.1 + 58)), (1, .int p0), (2, .int y2)] [] σ := by
  intro n
  induction n with
  | zero => intro y2 σ h0; cases h0
  | succ n ih => intro y2 σ h0; exact bb_Guess_findPlace_54 C hr hk hd hR ih h0
def s_Guess_findPlace (p0 : Int32) (σ : LH) : Option (LH) :=
  xb1 (s_Hall_beginAs 59 39 σ) fun σ2 =>
  xb1 (s_Evening_run 59 (σ2.1 4 15) σ2) fun σ4 =>
  if ib p0 8 then (
  if ib p0 8 then (
  xb1 (s_Guess_offer (σ4.1 40 (Int32.toNatClampNeg p0)) (σ4.1 63 (Int32.toNatClampNeg p0)) 1 σ4) fun σ8 =>
  s_Guess_findPlace_54 p0 FUEL 0 σ8) else none) else none
theorem c_Guess_findPlace {G : XG} {l : Launch} {d : Nat} (hd : 6 ≤ d) {p0 : Int32} {σ σ' : LH} (h0 : s_Guess_findPlace p0 σ = some σ') : xM G 1 570 l y_Guess_findPlace prog_5_method_7_code 3 none d [.ref (G.2.2.1 + 58), .int p0] σ none σ' := by
  obtain ⟨d, rfl⟩ : ∃ q, d = q + 1 := ⟨d - 1, by omega⟩
  refine x_met R_Guess rfl (by decide +kernel) (Nat.le_of_ble_eq_true rfl) fun p e s m below meth c C hr hk hR => ?_
  refine x_lv (lv' := [(0, .ref (G.2.2.1 + 58)), (1, .int p0)]) C [0, 1] rfl ?_
  generalize xrm (d + 1) = R at hR ⊢
  unfold s_Guess_findPlace at h0
  refine x_aload_n C d_Guess_findPlace_0 0 rfl ?_
  refine x_getA (y := 59) C fg_Guess_12 k_58 rfl d_Guess_findPlace_1 ?_
  refine x_aload_n C d_Guess_findPlace_4 0 rfl ?_
  refine x_getA (y := 39) C fg_Guess_37 k_58 rfl d_Guess_findPlace_5 ?_
  obtain ⟨σ2, k1, h0⟩ := xbind1 h0
  refine x_callVv C hR (c_Hall_beginAs (d := d) (by omega) (show 59 ∈ xHalls by decide) (show 39 ∈ xHalls by decide) k1) cw_Guess_40 k_59 rfl rfl rfl (Nat.le_of_ble_eq_true rfl) ⟨Nat.zero_le _, Nat.zero_le _⟩ d_Guess_findPlace_8 ?_
  refine x_aload_n C d_Guess_findPlace_11 0 rfl ?_
  refine x_getA (y := 38) C fg_Guess_33 k_58 rfl d_Guess_findPlace_12 ?_
  refine x_aload_n C d_Guess_findPlace_15 0 rfl ?_
  refine x_getA (y := 59) C fg_Guess_12 k_58 rfl d_Guess_findPlace_16 ?_
  refine x_aload_n C d_Guess_findPlace_19 0 rfl ?_
  refine x_getA (y := 4) C fg_Guess_25 k_58 rfl d_Guess_findPlace_20 ?_
  refine x_getI (y := 0) C fg_Guess_74 k_4 rfl d_Guess_findPlace_23 ?_
  obtain ⟨σ4, k3, h0⟩ := xbind1 h0
  refine x_callVv C hR (c_Evening_run (d := d) (by omega) (show 59 ∈ xHalls by decide) k3) cw_Guess_47 k_38 rfl rfl rfl (Nat.le_of_ble_eq_true rfl) ⟨Nat.zero_le _, Nat.zero_le _⟩ d_Guess_findPlace_26 ?_
  refine x_aload_n C d_Guess_findPlace_29 0 rfl ?_
  refine x_aload_n C d_Guess_findPlace_30 0 rfl ?_
  refine x_getA (y := 39) C fg_Guess_37 k_58 rfl d_Guess_findPlace_31 ?_
  refine x_getR (y := 1) C fg_Guess_53 k_39 rfl d_Guess_findPlace_34 ?_
  show XJ _ _ _ _ _ _ _ _ _ _ _ _ _ _ _ _ _ _ _ (.ref (G.2.2.1 + 40) :: _) _
  refine x_iload_n C d_Guess_findPlace_37 1 rfl ?_
  obtain ⟨g5, h0⟩ := xgo h0
  refine x_iald C k_40 (ib_in g5) d_Guess_findPlace_38 ?_
  refine x_aload_n C d_Guess_findPlace_39 0 rfl ?_
  refine x_getA (y := 59) C fg_Guess_12 k_58 rfl d_Guess_findPlace_40 ?_
  refine x_getR (y := 4) C fg_Guess_86 k_59 rfl d_Guess_findPlace_43 ?_
  show XJ _ _ _ _ _ _ _ _ _ _ _ _ _ _ _ _ _ _ _ (.ref (G.2.2.1 + 63) :: _) _
  refine x_iload_n C d_Guess_findPlace_46 1 rfl ?_
  obtain ⟨g6, h0⟩ := xgo h0
  refine x_iald C k_63 (ib_in g6) d_Guess_findPlace_47 ?_
  refine x_iconst (v := 1) C d_Guess_findPlace_48 (by decide) ?_
  obtain ⟨σ8, k7, h0⟩ := xbind1 h0
  refine x_callVv C hR (c_Guess_offer (d := d) (by omega) k7) cw_Guess_89 k_58 rfl rfl rfl (Nat.le_of_ble_eq_true rfl) ⟨Nat.zero_le _, Nat.zero_le _⟩ d_Guess_findPlace_49 ?_
  refine x_iconst (v := 0) C d_Guess_findPlace_52 (by decide) ?_
  refine x_istore_n (lv' := [(2, .int 0), (0, .ref (G.2.2.1 + 58)), (1, .int p0)]) C d_Guess_findPlace_53 rfl (by decide) rfl ?_
  exact x_lv C [1, 2, 0] rfl (b_Guess_findPlace_54 C hr hk hd hR FUEL _ _ h0)
-- LostPlaces.best(II)I
theorem d_Main_best_0 : decode prog_1_method_34_code 0 = .ok (.aload_n 0, 1) := by decide +kernel
theorem d_Main_best_1 : decode prog_1_method_34_code 1 = .ok (.iload_n 1, 1) := by decide +kernel
theorem d_Main_best_2 : decode prog_1_method_34_code 2 = .ok (.invokevirtual 244, 3) := by decide +kernel
theorem d_Main_best_5 : decode prog_1_method_34_code 5 = .ok (.ifCond .eq 10, 3) := by decide +kernel
theorem d_Main_best_8 : decode prog_1_method_34_code 8 = .ok (.iload_n 2, 1) := by decide +kernel
theorem d_Main_best_9 : decode prog_1_method_34_code 9 = .ok (.invokestatic 283, 3) := by decide +kernel
theorem d_Main_best_12 : decode prog_1_method_34_code 12 = .ok (.ifCond .eq 6, 3) := by decide +kernel
theorem d_Main_best_15 : decode prog_1_method_34_code 15 = .ok (.ldc 226, 2) := by decide +kernel
theorem d_Main_best_17 : decode prog_1_method_34_code 17 = .ok (.ireturn, 1) := by decide +kernel
theorem d_Main_best_18 : decode prog_1_method_34_code 18 = .ok (.aload_n 0, 1) := by decide +kernel
theorem d_Main_best_19 : decode prog_1_method_34_code 19 = .ok (.getfield 105, 3) := by decide +kernel
theorem d_Main_best_22 : decode prog_1_method_34_code 22 = .ok (.iload_n 1, 1) := by decide +kernel
theorem d_Main_best_23 : decode prog_1_method_34_code 23 = .ok (.invokevirtual 308, 3) := by decide +kernel
theorem d_Main_best_26 : decode prog_1_method_34_code 26 = .ok (.iload_n 2, 1) := by decide +kernel
theorem d_Main_best_27 : decode prog_1_method_34_code 27 = .ok (.ifCond .ne 13, 3) := by decide +kernel
theorem d_Main_best_30 : decode prog_1_method_34_code 30 = .ok (.aload_n 0, 1) := by decide +kernel
theorem d_Main_best_31 : decode prog_1_method_34_code 31 = .ok (.getfield 105, 3) := by decide +kernel
theorem d_Main_best_34 : decode prog_1_method_34_code 34 = .ok (.getfield 295, 3) := by decide +kernel
theorem d_Main_best_37 : decode prog_1_method_34_code 37 = .ok (.goto 10, 3) := by decide +kernel
theorem d_Main_best_40 : decode prog_1_method_34_code 40 = .ok (.aload_n 0, 1) := by decide +kernel
theorem d_Main_best_41 : decode prog_1_method_34_code 41 = .ok (.getfield 105, 3) := by decide +kernel
theorem d_Main_best_44 : decode prog_1_method_34_code 44 = .ok (.getfield 298, 3) := by decide +kernel
theorem d_Main_best_47 : decode prog_1_method_34_code 47 = .ok (.ireturn, 1) := by decide +kernel
def s_Main_best_15 (p0 : Int32) (p1 : Int32) (σ : LH) : Option (Int32 × LH) :=
  some ((-1000000), σ)
theorem b_Main_best_15 {G : XG} {l : Launch} {p : Program} {e : Env} {R : Room} {s : State} {m : MethodId} {args : Array Value} {below : List Frame} {meth : Method} {c : Code} (C : XC G 1 570 p s m args c prog_1_method_34_code 3 R_Main) (hr : meth.sig.returnType = (some .int)) (hk : meth.locks = false) {d : Nat} (hd : 7 ≤ d + 1) (hR : xroom R (d + 1)) {p0 : Int32} {p1 : Int32} {σ' : LH} {r : Int32} {σ : LH} (h0 : s_Main_best_15 p0 p1 σ = some (r, σ')) : XJ G 1 570 p l e R s m args below meth c 3 (XQ G 1 570 below args s (some (.int r)) σ') 0 0 15 [] [] σ := by
  replace h0 := (show _ = _ from h0)
  unfold s_Main_best_15 at h0
  refine x_ldc (v := (-1000000)) C w_982 d_Main_best_15 ?_
  exact x_iret C hr hk h0 d_Main_best_17
def s_Main_best_47 (p0 : Int32) (p1 : Int32) (z0 : Int32) (σ : LH) : Option (Int32 × LH) :=
  some (z0, σ)
theorem b_Main_best_47 {G : XG} {l : Launch} {p : Program} {e : Env} {R : Room} {s : State} {m : MethodId} {args : Array Value} {below : List Frame} {meth : Method} {c : Code} (C : XC G 1 570 p s m args c prog_1_method_34_code 3 R_Main) (hr : meth.sig.returnType = (some .int)) (hk : meth.locks = false) {d : Nat} (hd : 7 ≤ d + 1) (hR : xroom R (d + 1)) {p0 : Int32} {p1 : Int32} {σ' : LH} {r : Int32} {z0 : Int32} {σ : LH} (h0 : s_Main_best_47 p0 p1 z0 σ = some (r, σ')) : XJ G 1 570 p l e R s m args below meth c 3 (XQ G 1 570 below args s (some (.int r)) σ') 0 0 47 [] [.int z0] σ := by
  replace h0 := (show _ = _ from h0)
  unfold s_Main_best_47 at h0
  exact x_iret C hr hk h0 d_Main_best_47
def s_Main_best (p0 : Int32) (p1 : Int32) (σ : LH) : Option (Int32 × LH) :=
  xb2 (s_Main_isHere p0 σ) fun r2 σ3 =>
  if r2 = 0 then (
   s_Main_best_15 p0 p1 σ3)
  else (
   xb2 (s_Main_isNoChoice p1 σ3) fun r6 σ7 =>
   if r6 = 0 then (
    xb1 (s_Guess_findPlace p0 σ7) fun σ10 =>
    if p1 = 0 then (
     s_Main_best_47 p0 p1 (σ10.1 58 5) σ10)
    else (
     s_Main_best_47 p0 p1 (σ10.1 58 6) σ10))
   else (
    s_Main_best_15 p0 p1 σ7))
theorem c_Main_best {G : XG} {l : Launch} {d : Nat} (hd : 7 ≤ d) {p0 : Int32} {p1 : Int32} {σ σ' : LH} {r : Int32} (h0 : s_Main_best p0 p1 σ = some (r, σ')) : xM G 1 570 l y_Main_best prog_1_method_34_code 3 (some .int) d [.ref (G.2.2.1 + 1), .int p0, .int p1] σ (some (.int r)) σ' := by
  obtain ⟨d, rfl⟩ : ∃ q, d = q + 1 := ⟨d - 1, by omega⟩
  refine x_met R_Main rfl (by decide +kernel) (Nat.le_of_ble_eq_true rfl) fun p e s m below meth c C hr hk hR => ?_
  refine x_lv (lv' := [(0, .ref (G.2.2.1 + 1)), (1, .int p0), (2, .int p1)]) C [0, 1, 2] rfl ?_
  generalize xrm (d + 1) = R at hR ⊢
  unfold s_Main_best at h0
  refine x_aload_n C d_Main_best_0 0 rfl ?_
  refine x_iload_n C d_Main_best_1 1 rfl ?_
  obtain ⟨r2, σ3, k1, h0⟩ := xbind2 h0
  refine x_callVi C hR (c_Main_isHere (d := d) (by omega) k1) cw_Main_244 k_1 rfl rfl rfl (Nat.le_of_ble_eq_true rfl) ⟨Nat.zero_le _, Nat.zero_le _⟩ d_Main_best_2 ?_
  refine x_if_eq C 15 d_Main_best_5 (by decide) (fun q4 => ?_) (fun q4 => ?_)
  · replace h0 := xit q4 h0
    exact x_lv C [] rfl (b_Main_best_15 C hr hk hd hR h0)
  · replace h0 := xif q4 h0
    refine x_iload_n C d_Main_best_8 2 rfl ?_
    obtain ⟨r6, σ7, k5, h0⟩ := xbind2 h0
    refine x_callSi C hR (c_Main_isNoChoice (d := d) (by omega) k5) cw_Main_283 w_1149 rfl rfl (Nat.le_of_ble_eq_true rfl) ⟨Nat.zero_le _, Nat.zero_le _⟩ d_Main_best_9 ?_
    refine x_if_eq C 18 d_Main_best_12 (by decide) (fun q8 => ?_) (fun q8 => ?_)
    · replace h0 := xit q8 h0
      refine x_aload_n C d_Main_best_18 0 rfl ?_
      refine x_getA (y := 58) C fg_Main_105 k_1 rfl d_Main_best_19 ?_
      refine x_iload_n C d_Main_best_22 1 rfl ?_
      obtain ⟨σ10, k9, h0⟩ := xbind1 h0
      refine x_callVv C hR (c_Guess_findPlace (d := d) (by omega) k9) cw_Main_308 k_58 rfl rfl rfl (Nat.le_of_ble_eq_true rfl) ⟨Nat.zero_le _, Nat.zero_le _⟩ d_Main_best_23 ?_
      refine x_iload_n C d_Main_best_26 2 rfl ?_
      refine x_if_ne C 40 d_Main_best_27 (by decide) (fun q11 => ?_) (fun q11 => ?_)
      · replace h0 := xif q11 h0
        refine x_aload_n C d_Main_best_40 0 rfl ?_
        refine x_getA (y := 58) C fg_Main_105 k_1 rfl d_Main_best_41 ?_
        refine x_getI (y := 0) C fg_Main_298 k_58 rfl d_Main_best_44 ?_
        exact x_lv C [] rfl (b_Main_best_47 C hr hk hd hR h0)
      · replace h0 := xit q11 h0
        refine x_aload_n C d_Main_best_30 0 rfl ?_
        refine x_getA (y := 58) C fg_Main_105 k_1 rfl d_Main_best_31 ?_
        refine x_getI (y := 0) C fg_Main_295 k_58 rfl d_Main_best_34 ?_
        refine x_goto C 47 d_Main_best_37 (by decide) ?_
        exact x_lv C [] rfl (b_Main_best_47 C hr hk hd hR h0)
    · replace h0 := xif q8 h0
      exact x_lv C [] rfl (b_Main_best_15 C hr hk hd hR h0)
-- LostPlaces$Guess.sureSeats(I)I
theorem d_Guess_sureSeats_0 : decode prog_5_method_8_code 0 = .ok (.iconst 1, 1) := by decide +kernel
theorem d_Guess_sureSeats_1 : decode prog_5_method_8_code 1 = .ok (.aload_n 0, 1) := by decide +kernel
theorem d_Guess_sureSeats_2 : decode prog_5_method_8_code 2 = .ok (.getfield 25, 3) := by decide +kernel
theorem d_Guess_sureSeats_5 : decode prog_5_method_8_code 5 = .ok (.getfield 95, 3) := by decide +kernel
theorem d_Guess_sureSeats_8 : decode prog_5_method_8_code 8 = .ok (.ishl, 1) := by decide +kernel
theorem d_Guess_sureSeats_9 : decode prog_5_method_8_code 9 = .ok (.iconst 1, 1) := by decide +kernel
theorem d_Guess_sureSeats_10 : decode prog_5_method_8_code 10 = .ok (.isub, 1) := by decide +kernel
theorem d_Guess_sureSeats_11 : decode prog_5_method_8_code 11 = .ok (.istore_n 2, 1) := by decide +kernel
theorem d_Guess_sureSeats_12 : decode prog_5_method_8_code 12 = .ok (.aload_n 0, 1) := by decide +kernel
theorem d_Guess_sureSeats_13 : decode prog_5_method_8_code 13 = .ok (.getfield 12, 3) := by decide +kernel
theorem d_Guess_sureSeats_16 : decode prog_5_method_8_code 16 = .ok (.aload_n 0, 1) := by decide +kernel
theorem d_Guess_sureSeats_17 : decode prog_5_method_8_code 17 = .ok (.getfield 37, 3) := by decide +kernel
theorem d_Guess_sureSeats_20 : decode prog_5_method_8_code 20 = .ok (.invokevirtual 40, 3) := by decide +kernel
theorem d_Guess_sureSeats_23 : decode prog_5_method_8_code 23 = .ok (.aload_n 0, 1) := by decide +kernel
theorem d_Guess_sureSeats_24 : decode prog_5_method_8_code 24 = .ok (.getfield 33, 3) := by decide +kernel
theorem d_Guess_sureSeats_27 : decode prog_5_method_8_code 27 = .ok (.aload_n 0, 1) := by decide +kernel
theorem d_Guess_sureSeats_28 : decode prog_5_method_8_code 28 = .ok (.getfield 12, 3) := by decide +kernel
theorem d_Guess_sureSeats_31 : decode prog_5_method_8_code 31 = .ok (.aload_n 0, 1) := by decide +kernel
theorem d_Guess_sureSeats_32 : decode prog_5_method_8_code 32 = .ok (.getfield 25, 3) := by decide +kernel
theorem d_Guess_sureSeats_35 : decode prog_5_method_8_code 35 = .ok (.getfield 106, 3) := by decide +kernel
theorem d_Guess_sureSeats_38 : decode prog_5_method_8_code 38 = .ok (.invokevirtual 47, 3) := by decide +kernel
theorem d_Guess_sureSeats_41 : decode prog_5_method_8_code 41 = .ok (.iconst 0, 1) := by decide +kernel
theorem d_Guess_sureSeats_42 : decode prog_5_method_8_code 42 = .ok (.istore_n 3, 1) := by decide +kernel
theorem d_Guess_sureSeats_43 : decode prog_5_method_8_code 43 = .ok (.iload_n 3, 1) := by decide +kernel
theorem d_Guess_sureSeats_44 : decode prog_5_method_8_code 44 = .ok (.bipush 100, 2) := by decide +kernel
theorem d_Guess_sureSeats_46 : decode prog_5_method_8_code 46 = .ok (.if_icmp .ge 64, 3) := by decide +kernel
theorem d_Guess_sureSeats_49 : decode prog_5_method_8_code 49 = .ok (.aload_n 0, 1) := by decide +kernel
theorem d_Guess_sureSeats_50 : decode prog_5_method_8_code 50 = .ok (.getfield 12, 3) := by decide +kernel
theorem d_Guess_sureSeats_53 : decode prog_5_method_8_code 53 = .ok (.getfield 44, 3) := by decide +kernel
theorem d_Guess_sureSeats_56 : decode prog_5_method_8_code 56 = .ok (.aload_n 0, 1) := by decide +kernel
theorem d_Guess_sureSeats_57 : decode prog_5_method_8_code 57 = .ok (.getfield 25, 3) := by decide +kernel
theorem d_Guess_sureSeats_60 : decode prog_5_method_8_code 60 = .ok (.getfield 74, 3) := by decide +kernel
theorem d_Guess_sureSeats_63 : decode prog_5_method_8_code 63 = .ok (.if_icmp .ge 47, 3) := by decide +kernel
theorem d_Guess_sureSeats_66 : decode prog_5_method_8_code 66 = .ok (.aload_n 0, 1) := by decide +kernel
theorem d_Guess_sureSeats_67 : decode prog_5_method_8_code 67 = .ok (.getfield 33, 3) := by decide +kernel
theorem d_Guess_sureSeats_70 : decode prog_5_method_8_code 70 = .ok (.aload_n 0, 1) := by decide +kernel
theorem d_Guess_sureSeats_71 : decode prog_5_method_8_code 71 = .ok (.getfield 12, 3) := by decide +kernel
theorem d_Guess_sureSeats_74 : decode prog_5_method_8_code 74 = .ok (.invokevirtual 109, 3) := by decide +kernel
theorem d_Guess_sureSeats_77 : decode prog_5_method_8_code 77 = .ok (.aload_n 0, 1) := by decide +kernel
theorem d_Guess_sureSeats_78 : decode prog_5_method_8_code 78 = .ok (.getfield 12, 3) := by decide +kernel
theorem d_Guess_sureSeats_81 : decode prog_5_method_8_code 81 = .ok (.getfield 53, 3) := by decide +kernel
theorem d_Guess_sureSeats_84 : decode prog_5_method_8_code 84 = .ok (.iload_n 1, 1) := by decide +kernel
theorem d_Guess_sureSeats_85 : decode prog_5_method_8_code 85 = .ok (.iaload, 1) := by decide +kernel
theorem d_Guess_sureSeats_86 : decode prog_5_method_8_code 86 = .ok (.istore 4, 2) := by decide +kernel
theorem d_Guess_sureSeats_88 : decode prog_5_method_8_code 88 = .ok (.iload_n 2, 1) := by decide +kernel
theorem d_Guess_sureSeats_89 : decode prog_5_method_8_code 89 = .ok (.iload 4, 2) := by decide +kernel
theorem d_Guess_sureSeats_91 : decode prog_5_method_8_code 91 = .ok (.ifCond .lt 10, 3) := by decide +kernel
theorem d_Guess_sureSeats_94 : decode prog_5_method_8_code 94 = .ok (.iconst 1, 1) := by decide +kernel
theorem d_Guess_sureSeats_95 : decode prog_5_method_8_code 95 = .ok (.iload 4, 2) := by decide +kernel
theorem d_Guess_sureSeats_97 : decode prog_5_method_8_code 97 = .ok (.ishl, 1) := by decide +kernel
theorem d_Guess_sureSeats_98 : decode prog_5_method_8_code 98 = .ok (.goto 4, 3) := by decide +kernel
theorem d_Guess_sureSeats_101 : decode prog_5_method_8_code 101 = .ok (.iconst 0, 1) := by decide +kernel
theorem d_Guess_sureSeats_102 : decode prog_5_method_8_code 102 = .ok (.iand, 1) := by decide +kernel
theorem d_Guess_sureSeats_103 : decode prog_5_method_8_code 103 = .ok (.istore_n 2, 1) := by decide +kernel
theorem d_Guess_sureSeats_104 : decode prog_5_method_8_code 104 = .ok (.iinc 3 1, 3) := by decide +kernel
theorem d_Guess_sureSeats_107 : decode prog_5_method_8_code 107 = .ok (.goto (-64), 3) := by decide +kernel
theorem d_Guess_sureSeats_110 : decode prog_5_method_8_code 110 = .ok (.iload_n 2, 1) := by decide +kernel
theorem d_Guess_sureSeats_111 : decode prog_5_method_8_code 111 = .ok (.ireturn, 1) := by decide +kernel
def s_Guess_sureSeats_110 (p0 : Int32) (y2 : Int32) (σ : LH) : Option (Int32 × LH) :=
  some (y2, σ)
theorem b_Guess_sureSeats_110 {G : XG} {l : Launch} {p : Program} {e : Env} {R : Room} {s : State} {m : MethodId} {args : Array Value} {below : List Frame} {meth : Method} {c : Code} (C : XC G 1 570 p s m args c prog_5_method_8_code 5 R_Guess) (hr : meth.sig.returnType = (some .int)) (hk : meth.locks = false) {d : Nat} (hd : 6 ≤ d + 1) (hR : xroom R (d + 1)) {p0 : Int32} {σ' : LH} {r : Int32} {y2 : Int32} {σ : LH} (h0 : s_Guess_sureSeats_110 p0 y2 σ = some (r, σ')) : XJ G 1 570 p l e R s m args below meth c 5 (XQ G 1 570 below args s (some (.int r)) σ') 0 0 110 [(2, .int y2)] [] σ := by
  replace h0 := (show _ = _ from h0)
  unfold s_Guess_sureSeats_110 at h0
  refine x_iload_n C d_Guess_sureSeats_110 0 rfl ?_
  exact x_iret C hr hk h0 d_Guess_sureSeats_111
def s_Guess_sureSeats_102 (p0 : Int32) (rec43 : Int32 → Int32 → LH → Option (Int32 × LH)) (y3 : Int32) (z0 : Int32) (z1 : Int32) (σ : LH) : Option (Int32 × LH) :=
  xl (((z0 &&& z1)) : Int32) fun x13 =>
  xl ((y3 + 1) : Int32) fun x14 =>
  rec43 x13 x14 σ
theorem b_Guess_sureSeats_102 {G : XG} {l : Launch} {p : Program} {e : Env} {R : Room} {s : State} {m : MethodId} {args : Array Value} {below : List Frame} {meth : Method} {c : Code} (C : XC G 1 570 p s m args c prog_5_method_8_code 5 R_Guess) (hr : meth.sig.returnType = (some .int)) (hk : meth.locks = false) {d : Nat} (hd : 6 ≤ d + 1) (hR : xroom R (d + 1)) {p0 : Int32} {rec43 : Int32 → Int32 → LH → Option (Int32 × LH)} {σ' : LH} {r : Int32} (hrec43 : ∀ (y2 : Int32) (y3 : Int32) (σ : LH), rec43 y2 y3 σ = some (r, σ') → XJ G 1 570 p l e R s m args below meth c 5 (XQ G 1 570 below args s (some (.int r)) σ') 0 0 43 [(0, .ref (G.2.2.1 + 58)), (1, .int p0), (2, .int y2), (3, .int y3)] [] σ) {y3 : Int32} {z0 : Int32} {z1 : Int32} {σ : LH} (h0 : s_Guess_sureSeats_102 p0 rec43 y3 z0 z1 σ = some (r, σ')) : XJ G 1 570 p l e R s m args below meth c 5 (XQ G 1 570 below args s (some (.int r)) σ') 0 0 102 [(0, .ref (G.2.2.1 + 58)), (1, .int p0), (3, .int y3)] [.int z1, .int z0] σ := by
  replace h0 := (show _ = _ from h0)
  unfold s_Guess_sureSeats_102 at h0
  refine x_iand C d_Guess_sureSeats_102 ?_
  obtain ⟨x13, ex13, h0⟩ := xlet h0
  refine x_name C ex13 ?_
  refine x_istore_n (lv' := [(2, .int x13), (0, .ref (G.2.2.1 + 58)), (1, .int p0), (3, .int y3)]) C d_Guess_sureSeats_103 rfl (by decide) rfl ?_
  obtain ⟨x14, ex14, h0⟩ := xlet h0
  refine x_iinc (lv' := [(3, .int x14), (2, .int x13), (0, .ref (G.2.2.1 + 58)), (1, .int p0)]) C d_Guess_sureSeats_104 3 rfl ex14 (by decide) rfl ?_
  refine x_goto C 43 d_Guess_sureSeats_107 (by decide) ?_
  exact x_lv C [2, 3, 1, 0] rfl (hrec43 _ _ _ h0)
def s_Guess_sureSeats_43_b (p0 : Int32) (rec43 : Int32 → Int32 → LH → Option (Int32 × LH)) (y2 : Int32) (y3 : Int32) (σ : LH) : Option (Int32 × LH) :=
  if 100 ≤ y3 then (
   s_Guess_sureSeats_110 p0 y2 σ)
  else (
   if (σ.1 4 15) ≤ (σ.1 59 7) then (
    s_Guess_sureSeats_110 p0 y2 σ)
   else (
    xb1 (s_Evening_pass 59 σ) fun σ9 =>
    if ib p0 8 then (
    xl (((σ9.1 60 (Int32.toNatClampNeg p0))) : Int32) fun x11 =>
    if x11 < 0 then (
     s_Guess_sureSeats_102 p0 rec43 y3 y2 0 σ9)
    else (
     s_Guess_sureSeats_102 p0 rec43 y3 y2 (1 <<< (x11 &&& 31)) σ9)) else none))
def s_Guess_sureSeats_43 (p0 : Int32) : Nat → Int32 → Int32 → LH → Option (Int32 × LH)
  | 0, _, _, _ => none
  | n + 1, y2, y3, σ => s_Guess_sureSeats_43_b p0 (s_Guess_sureSeats_43 p0 n) y2 y3 σ
theorem bb_Guess_sureSeats_43 {G : XG} {l : Launch} {p : Program} {e : Env} {R : Room} {s : State} {m : MethodId} {args : Array Value} {below : List Frame} {meth : Method} {c : Code} (C : XC G 1 570 p s m args c prog_5_method_8_code 5 R_Guess) (hr : meth.sig.returnType = (some .int)) (hk : meth.locks = false) {d : Nat} (hd : 6 ≤ d + 1) (hR : xroom R (d + 1)) {p0 : Int32} {rec43 : Int32 → Int32 → LH → Option (Int32 × LH)} {σ' : LH} {r : Int32} (hrec43 : ∀ (y2 : Int32) (y3 : Int32) (σ : LH), rec43 y2 y3 σ = some (r, σ') → XJ G 1 570 p l e R s m args below meth c 5 (XQ G 1 570 below args s (some (.int r)) σ') 0 0 43 [(0, .ref (G.2.2.1 + 58)), (1, .int p0), (2, .int y2), (3, .int y3)] [] σ) {y2 : Int32} {y3 : Int32} {σ : LH} (h0 : s_Guess_sureSeats_43_b p0 rec43 y2 y3 σ = some (r, σ')) : XJ G 1 570 p l e R s m args below meth c 5 (XQ G 1 570 below args s (some (.int r)) σ') 0 0 43 [(0, .ref (G.2.2.1 + 58)), (1, .int p0), (2, .int y2), (3, .int y3)] [] σ := by
  replace h0 := (show _ = _ from h0)
  unfold s_Guess_sureSeats_43_b at h0
  refine x_iload_n C d_Guess_sureSeats_43 3 rfl ?_
  refine x_bipush (v := 100) C d_Guess_sureSeats_44 (by decide) ?_
  refine x_icmp_ge C 110 d_Guess_sureSeats_46 (by decide) (fun q6 => ?_) (fun q6 => ?_)
  · replace h0 := xit q6 h0
    exact x_lv C [2] rfl (b_Guess_sureSeats_110 C hr hk hd hR h0)
  · replace h0 := xif q6 h0
    refine x_aload_n C d_Guess_sureSeats_49 0 rfl ?_
    refine x_getA (y := 59) C fg_Guess_12 k_58 rfl d_Guess_sureSeats_50 ?_
    refine x_getI (y := 0) C fg_Guess_44 k_59 rfl d_Guess_sureSeats_53 ?_
    refine x_aload_n C d_Guess_sureSeats_56 0 rfl ?_
    refine x_getA (y := 4) C fg_Guess_25 k_58 rfl d_Guess_sureSeats_57 ?_
    refine x_getI (y := 0) C fg_Guess_74 k_4 rfl d_Guess_sureSeats_60 ?_
    refine x_icmp_ge C 110 d_Guess_sureSeats_63 (by decide) (fun q7 => ?_) (fun q7 => ?_)
    · replace h0 := xit q7 h0
      exact x_lv C [2] rfl (b_Guess_sureSeats_110 C hr hk hd hR h0)
    · replace h0 := xif q7 h0
      refine x_aload_n C d_Guess_sureSeats_66 0 rfl ?_
      refine x_getA (y := 38) C fg_Guess_33 k_58 rfl d_Guess_sureSeats_67 ?_
      refine x_aload_n C d_Guess_sureSeats_70 0 rfl ?_
      refine x_getA (y := 59) C fg_Guess_12 k_58 rfl d_Guess_sureSeats_71 ?_
      obtain ⟨σ9, k8, h0⟩ := xbind1 h0
      refine x_callVv C hR (c_Evening_pass (d := d) (by omega) (show 59 ∈ xHalls by decide) k8) cw_Guess_109 k_38 rfl rfl rfl (Nat.le_of_ble_eq_true rfl) ⟨Nat.zero_le _, Nat.zero_le _⟩ d_Guess_sureSeats_74 ?_
      refine x_aload_n C d_Guess_sureSeats_77 0 rfl ?_
      refine x_getA (y := 59) C fg_Guess_12 k_58 rfl d_Guess_sureSeats_78 ?_
      refine x_getR (y := 1) C fg_Guess_53 k_59 rfl d_Guess_sureSeats_81 ?_
      show XJ _ _ _ _ _ _ _ _ _ _ _ _ _ _ _ _ _ _ _ (.ref (G.2.2.1 + 60) :: _) _
      refine x_iload_n C d_Guess_sureSeats_84 1 rfl ?_
      obtain ⟨g10, h0⟩ := xgo h0
      refine x_iald C k_60 (ib_in g10) d_Guess_sureSeats_85 ?_
      obtain ⟨x11, ex11, h0⟩ := xlet h0
      refine x_name C ex11 ?_
      refine x_istore (lv' := [(4, .int x11), (0, .ref (G.2.2.1 + 58)), (1, .int p0), (2, .int y2), (3, .int y3)]) C d_Guess_sureSeats_86 (by decide) rfl ?_
      refine x_iload_n C d_Guess_sureSeats_88 3 rfl ?_
      refine x_iload C d_Guess_sureSeats_89 0 rfl ?_
      refine x_if_lt C 101 d_Guess_sureSeats_91 (by decide) (fun q12 => ?_) (fun q12 => ?_)
      · replace h0 := xit q12 h0
        refine x_iconst (v := 0) C d_Guess_sureSeats_101 (by decide) ?_
        exact x_lv C [1, 2, 4] rfl (b_Guess_sureSeats_102 C hr hk hd hR hrec43 h0)
      · replace h0 := xif q12 h0
        refine x_iconst (v := 1) C d_Guess_sureSeats_94 (by decide) ?_
        refine x_iload C d_Guess_sureSeats_95 0 rfl ?_
        refine x_ishl C d_Guess_sureSeats_97 ?_
        refine x_goto C 102 d_Guess_sureSeats_98 (by decide) ?_
        exact x_lv C [1, 2, 4] rfl (b_Guess_sureSeats_102 C hr hk hd hR hrec43 h0)
theorem b_Guess_sureSeats_43 {G : XG} {l : Launch} {p : Program} {e : Env} {R : Room} {s : State} {m : MethodId} {args : Array Value} {below : List Frame} {meth : Method} {c : Code} (C : XC G 1 570 p s m args c prog_5_method_8_code 5 R_Guess) (hr : meth.sig.returnType = (some .int)) (hk : meth.locks = false) {d : Nat} (hd : 6 ≤ d + 1) (hR : xroom R (d + 1)) {p0 : Int32} {σ' : LH} {r : Int32} : ∀ (n : Nat) (y2 : Int32) (y3 : Int32) (σ : LH), s_Guess_sureSeats_43 p0 n y2 y3 σ = some (r, σ') → XJ G 1 570 p l e R s m args below meth c 5 (XQ G 1 570 below args s (some (.int r)) σ') 0 0 43 [(0, .ref (G.2.2.1 + 58)), (1, .int p0), (2, .int y2), (3, .int y3)] [] σ := by
  intro n
  induction n with
  | zero => intro y2 y3 σ h0; cases h0
  | succ n ih => intro y2 y3 σ h0; exact bb_Guess_sureSeats_43 C hr hk hd hR ih h0
def s_Guess_sureSeats (p0 : Int32) (σ : LH) : Option (Int32 × LH) :=
  xl ((((1 <<< ((σ.1 4 0) &&& 31)) - 1)) : Int32) fun x1 =>
  xb1 (s_Hall_beginAs 59 39 σ) fun σ3 =>
  xb1 (s_Evening_run 59 (σ3.1 4 14) σ3) fun σ5 =>
  s_Guess_sureSeats_43 p0 FUEL x1 0 σ5
theorem c_Guess_sureSeats {G : XG} {l : Launch} {d : Nat} (hd : 6 ≤ d) {p0 : Int32} {σ σ' : LH} {r : Int32} (h0 : s_Guess_sureSeats p0 σ = some (r, σ')) : xM G 1 570 l y_Guess_sureSeats prog_5_method_8_code 5 (some .int) d [.ref (G.2.2.1 + 58), .int p0] σ (some (.int r)) σ' := by
  obtain ⟨d, rfl⟩ : ∃ q, d = q + 1 := ⟨d - 1, by omega⟩
  refine x_met R_Guess rfl (by decide +kernel) (Nat.le_of_ble_eq_true rfl) fun p e s m below meth c C hr hk hR => ?_
  refine x_lv (lv' := [(0, .ref (G.2.2.1 + 58)), (1, .int p0)]) C [0, 1] rfl ?_
  generalize xrm (d + 1) = R at hR ⊢
  unfold s_Guess_sureSeats at h0
  refine x_iconst (v := 1) C d_Guess_sureSeats_0 (by decide) ?_
  refine x_aload_n C d_Guess_sureSeats_1 0 rfl ?_
  refine x_getA (y := 4) C fg_Guess_25 k_58 rfl d_Guess_sureSeats_2 ?_
  refine x_getI (y := 0) C fg_Guess_95 k_4 rfl d_Guess_sureSeats_5 ?_
  refine x_ishl C d_Guess_sureSeats_8 ?_
  refine x_iconst (v := 1) C d_Guess_sureSeats_9 (by decide) ?_
  refine x_isub C d_Guess_sureSeats_10 ?_
  obtain ⟨x1, ex1, h0⟩ := xlet h0
  refine x_name C ex1 ?_
  refine x_istore_n (lv' := [(2, .int x1), (0, .ref (G.2.2.1 + 58)), (1, .int p0)]) C d_Guess_sureSeats_11 rfl (by decide) rfl ?_
  refine x_aload_n C d_Guess_sureSeats_12 1 rfl ?_
  refine x_getA (y := 59) C fg_Guess_12 k_58 rfl d_Guess_sureSeats_13 ?_
  refine x_aload_n C d_Guess_sureSeats_16 1 rfl ?_
  refine x_getA (y := 39) C fg_Guess_37 k_58 rfl d_Guess_sureSeats_17 ?_
  obtain ⟨σ3, k2, h0⟩ := xbind1 h0
  refine x_callVv C hR (c_Hall_beginAs (d := d) (by omega) (show 59 ∈ xHalls by decide) (show 39 ∈ xHalls by decide) k2) cw_Guess_40 k_59 rfl rfl rfl (Nat.le_of_ble_eq_true rfl) ⟨Nat.zero_le _, Nat.zero_le _⟩ d_Guess_sureSeats_20 ?_
  refine x_aload_n C d_Guess_sureSeats_23 1 rfl ?_
  refine x_getA (y := 38) C fg_Guess_33 k_58 rfl d_Guess_sureSeats_24 ?_
  refine x_aload_n C d_Guess_sureSeats_27 1 rfl ?_
  refine x_getA (y := 59) C fg_Guess_12 k_58 rfl d_Guess_sureSeats_28 ?_
  refine x_aload_n C d_Guess_sureSeats_31 1 rfl ?_
  refine x_getA (y := 4) C fg_Guess_25 k_58 rfl d_Guess_sureSeats_32 ?_
  refine x_getI (y := 0) C fg_Guess_106 k_4 rfl d_Guess_sureSeats_35 ?_
  obtain ⟨σ5, k4, h0⟩ := xbind1 h0
  refine x_callVv C hR (c_Evening_run (d := d) (by omega) (show 59 ∈ xHalls by decide) k4) cw_Guess_47 k_38 rfl rfl rfl (Nat.le_of_ble_eq_true rfl) ⟨Nat.zero_le _, Nat.zero_le _⟩ d_Guess_sureSeats_38 ?_
  refine x_iconst (v := 0) C d_Guess_sureSeats_41 (by decide) ?_
  refine x_istore_n (lv' := [(3, .int 0), (2, .int x1), (0, .ref (G.2.2.1 + 58)), (1, .int p0)]) C d_Guess_sureSeats_42 rfl (by decide) rfl ?_
  exact x_lv C [2, 3, 1, 0] rfl (b_Guess_sureSeats_43 C hr hk hd hR FUEL _ _ _ h0)
-- LostPlaces.sure(I)I
theorem d_Main_sure_0 : decode prog_1_method_35_code 0 = .ok (.aload_n 0, 1) := by decide +kernel
theorem d_Main_sure_1 : decode prog_1_method_35_code 1 = .ok (.iload_n 1, 1) := by decide +kernel
theorem d_Main_sure_2 : decode prog_1_method_35_code 2 = .ok (.invokevirtual 186, 3) := by decide +kernel
theorem d_Main_sure_5 : decode prog_1_method_35_code 5 = .ok (.ifCond .eq 14, 3) := by decide +kernel
theorem d_Main_sure_8 : decode prog_1_method_35_code 8 = .ok (.aload_n 0, 1) := by decide +kernel
theorem d_Main_sure_9 : decode prog_1_method_35_code 9 = .ok (.getfield 105, 3) := by decide +kernel
theorem d_Main_sure_12 : decode prog_1_method_35_code 12 = .ok (.iload_n 1, 1) := by decide +kernel
theorem d_Main_sure_13 : decode prog_1_method_35_code 13 = .ok (.invokevirtual 311, 3) := by decide +kernel
theorem d_Main_sure_16 : decode prog_1_method_35_code 16 = .ok (.goto 4, 3) := by decide +kernel
theorem d_Main_sure_19 : decode prog_1_method_35_code 19 = .ok (.iconst (-1), 1) := by decide +kernel
theorem d_Main_sure_20 : decode prog_1_method_35_code 20 = .ok (.ireturn, 1) := by decide +kernel
def s_Main_sure_20 (p0 : Int32) (z0 : Int32) (σ : LH) : Option (Int32 × LH) :=
  some (z0, σ)
theorem b_Main_sure_20 {G : XG} {l : Launch} {p : Program} {e : Env} {R : Room} {s : State} {m : MethodId} {args : Array Value} {below : List Frame} {meth : Method} {c : Code} (C : XC G 1 570 p s m args c prog_1_method_35_code 2 R_Main) (hr : meth.sig.returnType = (some .int)) (hk : meth.locks = false) {d : Nat} (hd : 7 ≤ d + 1) (hR : xroom R (d + 1)) {p0 : Int32} {σ' : LH} {r : Int32} {z0 : Int32} {σ : LH} (h0 : s_Main_sure_20 p0 z0 σ = some (r, σ')) : XJ G 1 570 p l e R s m args below meth c 2 (XQ G 1 570 below args s (some (.int r)) σ') 0 0 20 [] [.int z0] σ := by
  replace h0 := (show _ = _ from h0)
  unfold s_Main_sure_20 at h0
  exact x_iret C hr hk h0 d_Main_sure_20
def s_Main_sure (p0 : Int32) (σ : LH) : Option (Int32 × LH) :=
  xb2 (s_Main_isSitter p0 σ) fun r2 σ3 =>
  if r2 = 0 then (
   s_Main_sure_20 p0 (-1) σ3)
  else (
   xb2 (s_Guess_sureSeats p0 σ3) fun r6 σ7 =>
   s_Main_sure_20 p0 r6 σ7)
theorem c_Main_sure {G : XG} {l : Launch} {d : Nat} (hd : 7 ≤ d) {p0 : Int32} {σ σ' : LH} {r : Int32} (h0 : s_Main_sure p0 σ = some (r, σ')) : xM G 1 570 l y_Main_sure prog_1_method_35_code 2 (some .int) d [.ref (G.2.2.1 + 1), .int p0] σ (some (.int r)) σ' := by
  obtain ⟨d, rfl⟩ : ∃ q, d = q + 1 := ⟨d - 1, by omega⟩
  refine x_met R_Main rfl (by decide +kernel) (Nat.le_of_ble_eq_true rfl) fun p e s m below meth c C hr hk hR => ?_
  refine x_lv (lv' := [(0, .ref (G.2.2.1 + 1)), (1, .int p0)]) C [0, 1] rfl ?_
  generalize xrm (d + 1) = R at hR ⊢
  unfold s_Main_sure at h0
  refine x_aload_n C d_Main_sure_0 0 rfl ?_
  refine x_iload_n C d_Main_sure_1 1 rfl ?_
  obtain ⟨r2, σ3, k1, h0⟩ := xbind2 h0
  refine x_callVi C hR (c_Main_isSitter (d := d) (by omega) k1) cw_Main_186 k_1 rfl rfl rfl (Nat.le_of_ble_eq_true rfl) ⟨Nat.zero_le _, Nat.zero_le _⟩ d_Main_sure_2 ?_
  refine x_if_eq C 19 d_Main_sure_5 (by decide) (fun q4 => ?_) (fun q4 => ?_)
  · replace h0 := xit q4 h0
    refine x_iconst (v := (-1)) C d_Main_sure_19 (by decide) ?_
    exact x_lv C [] rfl (b_Main_sure_20 C hr hk hd hR h0)
  · replace h0 := xif q4 h0
    refine x_aload_n C d_Main_sure_8 0 rfl ?_
    refine x_getA (y := 58) C fg_Main_105 k_1 rfl d_Main_sure_9 ?_
    refine x_iload_n C d_Main_sure_12 1 rfl ?_
    obtain ⟨r6, σ7, k5, h0⟩ := xbind2 h0
    refine x_callVi C hR (c_Guess_sureSeats (d := d) (by omega) k5) cw_Main_311 k_58 rfl rfl rfl (Nat.le_of_ble_eq_true rfl) ⟨Nat.zero_le _, Nat.zero_le _⟩ d_Main_sure_13 ?_
    refine x_goto C 20 d_Main_sure_16 (by decide) ?_
    exact x_lv C [] rfl (b_Main_sure_20 C hr hk hd hR h0)
-- LostPlaces$Guess.breakUp()V
theorem d_Guess_breakUp_0 : decode prog_5_method_9_code 0 = .ok (.aload_n 0, 1) := by decide +kernel
theorem d_Guess_breakUp_1 : decode prog_5_method_9_code 1 = .ok (.getfield 12, 3) := by decide +kernel
theorem d_Guess_breakUp_4 : decode prog_5_method_9_code 4 = .ok (.aload_n 0, 1) := by decide +kernel
theorem d_Guess_breakUp_5 : decode prog_5_method_9_code 5 = .ok (.getfield 37, 3) := by decide +kernel
theorem d_Guess_breakUp_8 : decode prog_5_method_9_code 8 = .ok (.invokevirtual 40, 3) := by decide +kernel
theorem d_Guess_breakUp_11 : decode prog_5_method_9_code 11 = .ok (.iconst 0, 1) := by decide +kernel
theorem d_Guess_breakUp_12 : decode prog_5_method_9_code 12 = .ok (.istore_n 1, 1) := by decide +kernel
theorem d_Guess_breakUp_13 : decode prog_5_method_9_code 13 = .ok (.iload_n 1, 1) := by decide +kernel
theorem d_Guess_breakUp_14 : decode prog_5_method_9_code 14 = .ok (.aload_n 0, 1) := by decide +kernel
theorem d_Guess_breakUp_15 : decode prog_5_method_9_code 15 = .ok (.getfield 25, 3) := by decide +kernel
theorem d_Guess_breakUp_18 : decode prog_5_method_9_code 18 = .ok (.getfield 112, 3) := by decide +kernel
theorem d_Guess_breakUp_21 : decode prog_5_method_9_code 21 = .ok (.if_icmp .ge 33, 3) := by decide +kernel
theorem d_Guess_breakUp_24 : decode prog_5_method_9_code 24 = .ok (.aload_n 0, 1) := by decide +kernel
theorem d_Guess_breakUp_25 : decode prog_5_method_9_code 25 = .ok (.getfield 12, 3) := by decide +kernel
theorem d_Guess_breakUp_28 : decode prog_5_method_9_code 28 = .ok (.getfield 53, 3) := by decide +kernel
theorem d_Guess_breakUp_31 : decode prog_5_method_9_code 31 = .ok (.iload_n 1, 1) := by decide +kernel
theorem d_Guess_breakUp_32 : decode prog_5_method_9_code 32 = .ok (.iaload, 1) := by decide +kernel
theorem d_Guess_breakUp_33 : decode prog_5_method_9_code 33 = .ok (.bipush (-2), 2) := by decide +kernel
theorem d_Guess_breakUp_35 : decode prog_5_method_9_code 35 = .ok (.if_icmp .eq 13, 3) := by decide +kernel
theorem d_Guess_breakUp_38 : decode prog_5_method_9_code 38 = .ok (.aload_n 0, 1) := by decide +kernel
theorem d_Guess_breakUp_39 : decode prog_5_method_9_code 39 = .ok (.getfield 12, 3) := by decide +kernel
theorem d_Guess_breakUp_42 : decode prog_5_method_9_code 42 = .ok (.iload_n 1, 1) := by decide +kernel
theorem d_Guess_breakUp_43 : decode prog_5_method_9_code 43 = .ok (.iconst 1, 1) := by decide +kernel
theorem d_Guess_breakUp_44 : decode prog_5_method_9_code 44 = .ok (.iconst 0, 1) := by decide +kernel
theorem d_Guess_breakUp_45 : decode prog_5_method_9_code 45 = .ok (.invokevirtual 57, 3) := by decide +kernel
theorem d_Guess_breakUp_48 : decode prog_5_method_9_code 48 = .ok (.iinc 1 1, 3) := by decide +kernel
theorem d_Guess_breakUp_51 : decode prog_5_method_9_code 51 = .ok (.goto (-38), 3) := by decide +kernel
theorem d_Guess_breakUp_54 : decode prog_5_method_9_code 54 = .ok (.aload_n 0, 1) := by decide +kernel
theorem d_Guess_breakUp_55 : decode prog_5_method_9_code 55 = .ok (.getfield 33, 3) := by decide +kernel
theorem d_Guess_breakUp_58 : decode prog_5_method_9_code 58 = .ok (.aload_n 0, 1) := by decide +kernel
theorem d_Guess_breakUp_59 : decode prog_5_method_9_code 59 = .ok (.getfield 12, 3) := by decide +kernel
theorem d_Guess_breakUp_62 : decode prog_5_method_9_code 62 = .ok (.aload_n 0, 1) := by decide +kernel
theorem d_Guess_breakUp_63 : decode prog_5_method_9_code 63 = .ok (.getfield 37, 3) := by decide +kernel
theorem d_Guess_breakUp_66 : decode prog_5_method_9_code 66 = .ok (.getfield 44, 3) := by decide +kernel
theorem d_Guess_breakUp_69 : decode prog_5_method_9_code 69 = .ok (.iconst 2, 1) := by decide +kernel
theorem d_Guess_breakUp_70 : decode prog_5_method_9_code 70 = .ok (.iadd, 1) := by decide +kernel
theorem d_Guess_breakUp_71 : decode prog_5_method_9_code 71 = .ok (.invokevirtual 47, 3) := by decide +kernel
theorem d_Guess_breakUp_74 : decode prog_5_method_9_code 74 = .ok (.return_, 1) := by decide +kernel
def s_Guess_breakUp_48 (rec13 : Int32 → LH → Option (LH)) (y1 : Int32) (σ : LH) : Option (LH) :=
  xl ((y1 + 1) : Int32) fun x8 =>
  rec13 x8 σ
theorem b_Guess_breakUp_48 {G : XG} {l : Launch} {p : Program} {e : Env} {R : Room} {s : State} {m : MethodId} {args : Array Value} {below : List Frame} {meth : Method} {c : Code} (C : XC G 1 570 p s m args c prog_5_method_9_code 2 R_Guess) (hr : meth.sig.returnType = none) (hk : meth.locks = false) {d : Nat} (hd : 6 ≤ d + 1) (hR : xroom R (d + 1)) {rec13 : Int32 → LH → Option (LH)} {σ' : LH} (hrec13 : ∀ (y1 : Int32) (σ : LH), rec13 y1 σ = some σ' → XJ G 1 570 p l e R s m args below meth c 2 (XQ G 1 570 below args s none σ') 0 0 13 [(0, .ref (G.2.2.1 + 58)), (1, .int y1)] [] σ) {y1 : Int32} {σ : LH} (h0 : s_Guess_breakUp_48 rec13 y1 σ = some σ') : XJ G 1 570 p l e R s m args below meth c 2 (XQ G 1 570 below args s none σ') 0 0 48 [(0, .ref (G.2.2.1 + 58)), (1, .int y1)] [] σ := by
  replace h0 := (show _ = _ from h0)
  unfold s_Guess_breakUp_48 at h0
  obtain ⟨x8, ex8, h0⟩ := xlet h0
  refine x_iinc (lv' := [(1, .int x8), (0, .ref (G.2.2.1 + 58))]) C d_Guess_breakUp_48 1 rfl ex8 (by decide) rfl ?_
  refine x_goto C 13 d_Guess_breakUp_51 (by decide) ?_
  exact x_lv C [1, 0] rfl (hrec13 _ _ h0)
def s_Guess_breakUp_13_b (rec13 : Int32 → LH → Option (LH)) (y1 : Int32) (σ : LH) : Option (LH) :=
  if (σ.1 4 1) ≤ y1 then (
   xb1 (s_Evening_run 59 ((σ.1 39 7) + 2) σ) fun σ5 =>
   some σ5)
  else (
   if ib y1 8 then (
   if (σ.1 60 (Int32.toNatClampNeg y1)) = (-2) then (
    s_Guess_breakUp_48 rec13 y1 σ)
   else (
    xb1 (s_Hall_getUp 59 y1 1 0 σ) fun σ10 =>
    s_Guess_breakUp_48 rec13 y1 σ10)) else none)
def s_Guess_breakUp_13 : Nat → Int32 → LH → Option (LH)
  | 0, _, _ => none
  | n + 1, y1, σ => s_Guess_breakUp_13_b (s_Guess_breakUp_13 n) y1 σ
theorem bb_Guess_breakUp_13 {G : XG} {l : Launch} {p : Program} {e : Env} {R : Room} {s : State} {m : MethodId} {args : Array Value} {below : List Frame} {meth : Method} {c : Code} (C : XC G 1 570 p s m args c prog_5_method_9_code 2 R_Guess) (hr : meth.sig.returnType = none) (hk : meth.locks = false) {d : Nat} (hd : 6 ≤ d + 1) (hR : xroom R (d + 1)) {rec13 : Int32 → LH → Option (LH)} {σ' : LH} (hrec13 : ∀ (y1 : Int32) (σ : LH), rec13 y1 σ = some σ' → XJ G 1 570 p l e R s m args below meth c 2 (XQ G 1 570 below args s none σ') 0 0 13 [(0, .ref (G.2.2.1 + 58)), (1, .int y1)] [] σ) {y1 : Int32} {σ : LH} (h0 : s_Guess_breakUp_13_b rec13 y1 σ = some σ') : XJ G 1 570 p l e R s m args below meth c 2 (XQ G 1 570 below args s none σ') 0 0 13 [(0, .ref (G.2.2.1 + 58)), (1, .int y1)] [] σ := by
  replace h0 := (show _ = _ from h0)
  unfold s_Guess_breakUp_13_b at h0
  refine x_iload_n C d_Guess_breakUp_13 1 rfl ?_
  refine x_aload_n C d_Guess_breakUp_14 0 rfl ?_
  refine x_getA (y := 4) C fg_Guess_25 k_58 rfl d_Guess_breakUp_15 ?_
  refine x_getI (y := 0) C fg_Guess_112 k_4 rfl d_Guess_breakUp_18 ?_
  refine x_icmp_ge C 54 d_Guess_breakUp_21 (by decide) (fun q3 => ?_) (fun q3 => ?_)
  · replace h0 := xit q3 h0
    refine x_aload_n C d_Guess_breakUp_54 0 rfl ?_
    refine x_getA (y := 38) C fg_Guess_33 k_58 rfl d_Guess_breakUp_55 ?_
    refine x_aload_n C d_Guess_breakUp_58 0 rfl ?_
    refine x_getA (y := 59) C fg_Guess_12 k_58 rfl d_Guess_breakUp_59 ?_
    refine x_aload_n C d_Guess_breakUp_62 0 rfl ?_
    refine x_getA (y := 39) C fg_Guess_37 k_58 rfl d_Guess_breakUp_63 ?_
    refine x_getI (y := 0) C fg_Guess_44 k_39 rfl d_Guess_breakUp_66 ?_
    refine x_iconst (v := 2) C d_Guess_breakUp_69 (by decide) ?_
    refine x_iadd C d_Guess_breakUp_70 ?_
    obtain ⟨σ5, k4, h0⟩ := xbind1 h0
    refine x_callVv C hR (c_Evening_run (d := d) (by omega) (show 59 ∈ xHalls by decide) k4) cw_Guess_47 k_38 rfl rfl rfl (Nat.le_of_ble_eq_true rfl) ⟨Nat.zero_le _, Nat.zero_le _⟩ d_Guess_breakUp_71 ?_
    exact x_vret C hr hk h0 d_Guess_breakUp_74
  · replace h0 := xif q3 h0
    refine x_aload_n C d_Guess_breakUp_24 0 rfl ?_
    refine x_getA (y := 59) C fg_Guess_12 k_58 rfl d_Guess_breakUp_25 ?_
    refine x_getR (y := 1) C fg_Guess_53 k_59 rfl d_Guess_breakUp_28 ?_
    show XJ _ _ _ _ _ _ _ _ _ _ _ _ _ _ _ _ _ _ _ (.ref (G.2.2.1 + 60) :: _) _
    refine x_iload_n C d_Guess_breakUp_31 1 rfl ?_
    obtain ⟨g6, h0⟩ := xgo h0
    refine x_iald C k_60 (ib_in g6) d_Guess_breakUp_32 ?_
    refine x_bipush (v := (-2)) C d_Guess_breakUp_33 (by decide) ?_
    refine x_icmp_eq C 48 d_Guess_breakUp_35 (by decide) (fun q7 => ?_) (fun q7 => ?_)
    · replace h0 := xit q7 h0
      exact x_lv C [0, 1] rfl (b_Guess_breakUp_48 C hr hk hd hR hrec13 h0)
    · replace h0 := xif q7 h0
      refine x_aload_n C d_Guess_breakUp_38 0 rfl ?_
      refine x_getA (y := 59) C fg_Guess_12 k_58 rfl d_Guess_breakUp_39 ?_
      refine x_iload_n C d_Guess_breakUp_42 1 rfl ?_
      refine x_iconst (v := 1) C d_Guess_breakUp_43 (by decide) ?_
      refine x_iconst (v := 0) C d_Guess_breakUp_44 (by decide) ?_
      obtain ⟨σ10, k9, h0⟩ := xbind1 h0
      refine x_callVv C hR (c_Hall_getUp (d := d) (by omega) (show 59 ∈ xHalls by decide) k9) cw_Guess_57 k_59 rfl rfl rfl (Nat.le_of_ble_eq_true rfl) ⟨Nat.zero_le _, Nat.zero_le _⟩ d_Guess_breakUp_45 ?_
      exact x_lv C [0, 1] rfl (b_Guess_breakUp_48 C hr hk hd hR hrec13 h0)
theorem b_Guess_breakUp_13 {G : XG} {l : Launch} {p : Program} {e : Env} {R : Room} {s : State} {m : MethodId} {args : Array Value} {below : List Frame} {meth : Method} {c : Code} (C : XC G 1 570 p s m args c prog_5_method_9_code 2 R_Guess) (hr : meth.sig.returnType = none) (hk : meth.locks = false) {d : Nat} (hd : 6 ≤ d + 1) (hR : xroom R (d + 1)) {σ' : LH} : ∀ (n : Nat) (y1 : Int32) (σ : LH), s_Guess_breakUp_13 n y1 σ = some σ' → XJ G 1 570 p l e R s m args below meth c 2 (XQ G 1 570 below args s none σ') 0 0 13 [(0, .ref (G.2.2.1 + 58)), (1, .int y1)] [] σ := by
  intro n
  induction n with
  | zero => intro y1 σ h0; cases h0
  | succ n ih => intro y1 σ h0; exact bb_Guess_breakUp_13 C hr hk hd hR ih h0
def s_Guess_breakUp (σ : LH) : Option (LH) :=
  xb1 (s_Hall_beginAs 59 39 σ) fun σ2 =>
  s_Guess_breakUp_13 FUEL 0 σ2
theorem c_Guess_breakUp {G : XG} {l : Launch} {d : Nat} (hd : 6 ≤ d) {σ σ' : LH} (h0 : s_Guess_breakUp σ = some σ') : xM G 1 570 l y_Guess_breakUp prog_5_method_9_code 2 none d [.ref (G.2.2.1 + 58)] σ none σ' := by
  obtain ⟨d, rfl⟩ : ∃ q, d = q + 1 := ⟨d - 1, by omega⟩
  refine x_met R_Guess rfl (by decide +kernel) (Nat.le_of_ble_eq_true rfl) fun p e s m below meth c C hr hk hR => ?_
  refine x_lv (lv' := [(0, .ref (G.2.2.1 + 58))]) C [0] rfl ?_
  generalize xrm (d + 1) = R at hR ⊢
  unfold s_Guess_breakUp at h0
  refine x_aload_n C d_Guess_breakUp_0 0 rfl ?_
  refine x_getA (y := 59) C fg_Guess_12 k_58 rfl d_Guess_breakUp_1 ?_
  refine x_aload_n C d_Guess_breakUp_4 0 rfl ?_
  refine x_getA (y := 39) C fg_Guess_37 k_58 rfl d_Guess_breakUp_5 ?_
  obtain ⟨σ2, k1, h0⟩ := xbind1 h0
  refine x_callVv C hR (c_Hall_beginAs (d := d) (by omega) (show 59 ∈ xHalls by decide) (show 39 ∈ xHalls by decide) k1) cw_Guess_40 k_59 rfl rfl rfl (Nat.le_of_ble_eq_true rfl) ⟨Nat.zero_le _, Nat.zero_le _⟩ d_Guess_breakUp_8 ?_
  refine x_iconst (v := 0) C d_Guess_breakUp_11 (by decide) ?_
  refine x_istore_n (lv' := [(1, .int 0), (0, .ref (G.2.2.1 + 58))]) C d_Guess_breakUp_12 rfl (by decide) rfl ?_
  exact x_lv C [1, 0] rfl (b_Guess_breakUp_13 C hr hk hd hR FUEL _ _ h0)
-- LostPlaces.broken(I)I
theorem d_Main_broken_0 : decode prog_1_method_36_code 0 = .ok (.aload_n 0, 1) := by decide +kernel
theorem d_Main_broken_1 : decode prog_1_method_36_code 1 = .ok (.iload_n 1, 1) := by decide +kernel
theorem d_Main_broken_2 : decode prog_1_method_36_code 2 = .ok (.invokevirtual 186, 3) := by decide +kernel
theorem d_Main_broken_5 : decode prog_1_method_36_code 5 = .ok (.ifCond .eq 11, 3) := by decide +kernel
theorem d_Main_broken_8 : decode prog_1_method_36_code 8 = .ok (.aload_n 0, 1) := by decide +kernel
theorem d_Main_broken_9 : decode prog_1_method_36_code 9 = .ok (.invokevirtual 247, 3) := by decide +kernel
theorem d_Main_broken_12 : decode prog_1_method_36_code 12 = .ok (.iconst 2, 1) := by decide +kernel
theorem d_Main_broken_13 : decode prog_1_method_36_code 13 = .ok (.if_icmp .ge 6, 3) := by decide +kernel
theorem d_Main_broken_16 : decode prog_1_method_36_code 16 = .ok (.ldc 226, 2) := by decide +kernel
theorem d_Main_broken_18 : decode prog_1_method_36_code 18 = .ok (.ireturn, 1) := by decide +kernel
theorem d_Main_broken_19 : decode prog_1_method_36_code 19 = .ok (.aload_n 0, 1) := by decide +kernel
theorem d_Main_broken_20 : decode prog_1_method_36_code 20 = .ok (.getfield 105, 3) := by decide +kernel
theorem d_Main_broken_23 : decode prog_1_method_36_code 23 = .ok (.invokevirtual 314, 3) := by decide +kernel
theorem d_Main_broken_26 : decode prog_1_method_36_code 26 = .ok (.aload_n 0, 1) := by decide +kernel
theorem d_Main_broken_27 : decode prog_1_method_36_code 27 = .ok (.getfield 105, 3) := by decide +kernel
theorem d_Main_broken_30 : decode prog_1_method_36_code 30 = .ok (.getfield 289, 3) := by decide +kernel
theorem d_Main_broken_33 : decode prog_1_method_36_code 33 = .ok (.getfield 196, 3) := by decide +kernel
theorem d_Main_broken_36 : decode prog_1_method_36_code 36 = .ok (.iload_n 1, 1) := by decide +kernel
theorem d_Main_broken_37 : decode prog_1_method_36_code 37 = .ok (.iaload, 1) := by decide +kernel
theorem d_Main_broken_38 : decode prog_1_method_36_code 38 = .ok (.ireturn, 1) := by decide +kernel
def s_Main_broken_16 (p0 : Int32) (σ : LH) : Option (Int32 × LH) :=
  some ((-1000000), σ)
theorem b_Main_broken_16 {G : XG} {l : Launch} {p : Program} {e : Env} {R : Room} {s : State} {m : MethodId} {args : Array Value} {below : List Frame} {meth : Method} {c : Code} (C : XC G 1 570 p s m args c prog_1_method_36_code 2 R_Main) (hr : meth.sig.returnType = (some .int)) (hk : meth.locks = false) {d : Nat} (hd : 7 ≤ d + 1) (hR : xroom R (d + 1)) {p0 : Int32} {σ' : LH} {r : Int32} {σ : LH} (h0 : s_Main_broken_16 p0 σ = some (r, σ')) : XJ G 1 570 p l e R s m args below meth c 2 (XQ G 1 570 below args s (some (.int r)) σ') 0 0 16 [] [] σ := by
  replace h0 := (show _ = _ from h0)
  unfold s_Main_broken_16 at h0
  refine x_ldc (v := (-1000000)) C w_982 d_Main_broken_16 ?_
  exact x_iret C hr hk h0 d_Main_broken_18
def s_Main_broken (p0 : Int32) (σ : LH) : Option (Int32 × LH) :=
  xb2 (s_Main_isSitter p0 σ) fun r2 σ3 =>
  if r2 = 0 then (
   s_Main_broken_16 p0 σ3)
  else (
   xb2 (s_Main_minutesLeft σ3) fun r6 σ7 =>
   if 2 ≤ r6 then (
    xb1 (s_Guess_breakUp σ7) fun σ10 =>
    if ib p0 8 then (
    some ((σ10.1 60 (Int32.toNatClampNeg p0)), σ10)) else none)
   else (
    s_Main_broken_16 p0 σ7))
theorem c_Main_broken {G : XG} {l : Launch} {d : Nat} (hd : 7 ≤ d) {p0 : Int32} {σ σ' : LH} {r : Int32} (h0 : s_Main_broken p0 σ = some (r, σ')) : xM G 1 570 l y_Main_broken prog_1_method_36_code 2 (some .int) d [.ref (G.2.2.1 + 1), .int p0] σ (some (.int r)) σ' := by
  obtain ⟨d, rfl⟩ : ∃ q, d = q + 1 := ⟨d - 1, by omega⟩
  refine x_met R_Main rfl (by decide +kernel) (Nat.le_of_ble_eq_true rfl) fun p e s m below meth c C hr hk hR => ?_
  refine x_lv (lv' := [(0, .ref (G.2.2.1 + 1)), (1, .int p0)]) C [0, 1] rfl ?_
  generalize xrm (d + 1) = R at hR ⊢
  unfold s_Main_broken at h0
  refine x_aload_n C d_Main_broken_0 0 rfl ?_
  refine x_iload_n C d_Main_broken_1 1 rfl ?_
  obtain ⟨r2, σ3, k1, h0⟩ := xbind2 h0
  refine x_callVi C hR (c_Main_isSitter (d := d) (by omega) k1) cw_Main_186 k_1 rfl rfl rfl (Nat.le_of_ble_eq_true rfl) ⟨Nat.zero_le _, Nat.zero_le _⟩ d_Main_broken_2 ?_
  refine x_if_eq C 16 d_Main_broken_5 (by decide) (fun q4 => ?_) (fun q4 => ?_)
  · replace h0 := xit q4 h0
    exact x_lv C [] rfl (b_Main_broken_16 C hr hk hd hR h0)
  · replace h0 := xif q4 h0
    refine x_aload_n C d_Main_broken_8 0 rfl ?_
    obtain ⟨r6, σ7, k5, h0⟩ := xbind2 h0
    refine x_callVi C hR (c_Main_minutesLeft (d := d) (by omega) k5) cw_Main_247 k_1 rfl rfl rfl (Nat.le_of_ble_eq_true rfl) ⟨Nat.zero_le _, Nat.zero_le _⟩ d_Main_broken_9 ?_
    refine x_iconst (v := 2) C d_Main_broken_12 (by decide) ?_
    refine x_icmp_ge C 19 d_Main_broken_13 (by decide) (fun q8 => ?_) (fun q8 => ?_)
    · replace h0 := xit q8 h0
      refine x_aload_n C d_Main_broken_19 0 rfl ?_
      refine x_getA (y := 58) C fg_Main_105 k_1 rfl d_Main_broken_20 ?_
      obtain ⟨σ10, k9, h0⟩ := xbind1 h0
      refine x_callVv C hR (c_Guess_breakUp (d := d) (by omega) k9) cw_Main_314 k_58 rfl rfl rfl (Nat.le_of_ble_eq_true rfl) ⟨Nat.zero_le _, Nat.zero_le _⟩ d_Main_broken_23 ?_
      refine x_aload_n C d_Main_broken_26 0 rfl ?_
      refine x_getA (y := 58) C fg_Main_105 k_1 rfl d_Main_broken_27 ?_
      refine x_getA (y := 59) C fg_Main_289 k_58 rfl d_Main_broken_30 ?_
      refine x_getR (y := 1) C fg_Main_196 k_59 rfl d_Main_broken_33 ?_
      show XJ _ _ _ _ _ _ _ _ _ _ _ _ _ _ _ _ _ _ _ (.ref (G.2.2.1 + 60) :: _) _
      refine x_iload_n C d_Main_broken_36 1 rfl ?_
      obtain ⟨g11, h0⟩ := xgo h0
      refine x_iald C k_60 (ib_in g11) d_Main_broken_37 ?_
      exact x_iret C hr hk h0 d_Main_broken_38
    · replace h0 := xif q8 h0
      exact x_lv C [] rfl (b_Main_broken_16 C hr hk hd hR h0)
-- LostPlaces$Guess.findRule()V
theorem d_Guess_findRule_0 : decode prog_5_method_10_code 0 = .ok (.iconst 0, 1) := by decide +kernel
theorem d_Guess_findRule_1 : decode prog_5_method_10_code 1 = .ok (.istore_n 1, 1) := by decide +kernel
theorem d_Guess_findRule_2 : decode prog_5_method_10_code 2 = .ok (.iload_n 1, 1) := by decide +kernel
theorem d_Guess_findRule_3 : decode prog_5_method_10_code 3 = .ok (.bipush 9, 2) := by decide +kernel
theorem d_Guess_findRule_5 : decode prog_5_method_10_code 5 = .ok (.if_icmp .gt 96, 3) := by decide +kernel
theorem d_Guess_findRule_8 : decode prog_5_method_10_code 8 = .ok (.aload_n 0, 1) := by decide +kernel
theorem d_Guess_findRule_9 : decode prog_5_method_10_code 9 = .ok (.getfield 12, 3) := by decide +kernel
theorem d_Guess_findRule_12 : decode prog_5_method_10_code 12 = .ok (.aload_n 0, 1) := by decide +kernel
theorem d_Guess_findRule_13 : decode prog_5_method_10_code 13 = .ok (.getfield 37, 3) := by decide +kernel
theorem d_Guess_findRule_16 : decode prog_5_method_10_code 16 = .ok (.invokevirtual 40, 3) := by decide +kernel
theorem d_Guess_findRule_19 : decode prog_5_method_10_code 19 = .ok (.iconst 0, 1) := by decide +kernel
theorem d_Guess_findRule_20 : decode prog_5_method_10_code 20 = .ok (.istore_n 2, 1) := by decide +kernel
theorem d_Guess_findRule_21 : decode prog_5_method_10_code 21 = .ok (.iload_n 2, 1) := by decide +kernel
theorem d_Guess_findRule_22 : decode prog_5_method_10_code 22 = .ok (.aload_n 0, 1) := by decide +kernel
theorem d_Guess_findRule_23 : decode prog_5_method_10_code 23 = .ok (.getfield 25, 3) := by decide +kernel
theorem d_Guess_findRule_26 : decode prog_5_method_10_code 26 = .ok (.getfield 112, 3) := by decide +kernel
theorem d_Guess_findRule_29 : decode prog_5_method_10_code 29 = .ok (.if_icmp .ge 19, 3) := by decide +kernel
theorem d_Guess_findRule_32 : decode prog_5_method_10_code 32 = .ok (.aload_n 0, 1) := by decide +kernel
theorem d_Guess_findRule_33 : decode prog_5_method_10_code 33 = .ok (.getfield 12, 3) := by decide +kernel
theorem d_Guess_findRule_36 : decode prog_5_method_10_code 36 = .ok (.getfield 92, 3) := by decide +kernel
theorem d_Guess_findRule_39 : decode prog_5_method_10_code 39 = .ok (.iload_n 2, 1) := by decide +kernel
theorem d_Guess_findRule_40 : decode prog_5_method_10_code 40 = .ok (.iload_n 1, 1) := by decide +kernel
theorem d_Guess_findRule_41 : decode prog_5_method_10_code 41 = .ok (.iastore, 1) := by decide +kernel
theorem d_Guess_findRule_42 : decode prog_5_method_10_code 42 = .ok (.iinc 2 1, 3) := by decide +kernel
theorem d_Guess_findRule_45 : decode prog_5_method_10_code 45 = .ok (.goto (-24), 3) := by decide +kernel
theorem d_Guess_findRule_48 : decode prog_5_method_10_code 48 = .ok (.aload_n 0, 1) := by decide +kernel
theorem d_Guess_findRule_49 : decode prog_5_method_10_code 49 = .ok (.getfield 33, 3) := by decide +kernel
theorem d_Guess_findRule_52 : decode prog_5_method_10_code 52 = .ok (.aload_n 0, 1) := by decide +kernel
theorem d_Guess_findRule_53 : decode prog_5_method_10_code 53 = .ok (.getfield 12, 3) := by decide +kernel
theorem d_Guess_findRule_56 : decode prog_5_method_10_code 56 = .ok (.aload_n 0, 1) := by decide +kernel
theorem d_Guess_findRule_57 : decode prog_5_method_10_code 57 = .ok (.getfield 25, 3) := by decide +kernel
theorem d_Guess_findRule_60 : decode prog_5_method_10_code 60 = .ok (.getfield 74, 3) := by decide +kernel
theorem d_Guess_findRule_63 : decode prog_5_method_10_code 63 = .ok (.invokevirtual 47, 3) := by decide +kernel
theorem d_Guess_findRule_66 : decode prog_5_method_10_code 66 = .ok (.aload_n 0, 1) := by decide +kernel
theorem d_Guess_findRule_67 : decode prog_5_method_10_code 67 = .ok (.iload_n 1, 1) := by decide +kernel
theorem d_Guess_findRule_68 : decode prog_5_method_10_code 68 = .ok (.aload_n 0, 1) := by decide +kernel
theorem d_Guess_findRule_69 : decode prog_5_method_10_code 69 = .ok (.getfield 37, 3) := by decide +kernel
theorem d_Guess_findRule_72 : decode prog_5_method_10_code 72 = .ok (.getfield 115, 3) := by decide +kernel
theorem d_Guess_findRule_75 : decode prog_5_method_10_code 75 = .ok (.aload_n 0, 1) := by decide +kernel
theorem d_Guess_findRule_76 : decode prog_5_method_10_code 76 = .ok (.getfield 12, 3) := by decide +kernel
theorem d_Guess_findRule_79 : decode prog_5_method_10_code 79 = .ok (.getfield 115, 3) := by decide +kernel
theorem d_Guess_findRule_82 : decode prog_5_method_10_code 82 = .ok (.isub, 1) := by decide +kernel
theorem d_Guess_findRule_83 : decode prog_5_method_10_code 83 = .ok (.iload_n 1, 1) := by decide +kernel
theorem d_Guess_findRule_84 : decode prog_5_method_10_code 84 = .ok (.ifCond .ne 7, 3) := by decide +kernel
theorem d_Guess_findRule_87 : decode prog_5_method_10_code 87 = .ok (.iconst 1, 1) := by decide +kernel
theorem d_Guess_findRule_88 : decode prog_5_method_10_code 88 = .ok (.goto 4, 3) := by decide +kernel
theorem d_Guess_findRule_91 : decode prog_5_method_10_code 91 = .ok (.iconst 0, 1) := by decide +kernel
theorem d_Guess_findRule_92 : decode prog_5_method_10_code 92 = .ok (.invokevirtual 89, 3) := by decide +kernel
theorem d_Guess_findRule_95 : decode prog_5_method_10_code 95 = .ok (.iinc 1 1, 3) := by decide +kernel
theorem d_Guess_findRule_98 : decode prog_5_method_10_code 98 = .ok (.goto (-96), 3) := by decide +kernel
theorem d_Guess_findRule_101 : decode prog_5_method_10_code 101 = .ok (.aload_n 0, 1) := by decide +kernel
theorem d_Guess_findRule_102 : decode prog_5_method_10_code 102 = .ok (.aload_n 0, 1) := by decide +kernel
theorem d_Guess_findRule_103 : decode prog_5_method_10_code 103 = .ok (.getfield 22, 3) := by decide +kernel
theorem d_Guess_findRule_106 : decode prog_5_method_10_code 106 = .ok (.ineg, 1) := by decide +kernel
theorem d_Guess_findRule_107 : decode prog_5_method_10_code 107 = .ok (.putfield 22, 3) := by decide +kernel
theorem d_Guess_findRule_110 : decode prog_5_method_10_code 110 = .ok (.return_, 1) := by decide +kernel
def s_Guess_findRule_92 (rec2 : Int32 → LH → Option (LH)) (y1 : Int32) (z1 : Int32) (z2 : Int32) (z3 : Int32) (σ : LH) : Option (LH) :=
  xb1 (s_Guess_offer z1 z2 z3 σ) fun σ10 =>
  xl ((y1 + 1) : Int32) fun x11 =>
  rec2 x11 σ10
theorem b_Guess_findRule_92 {G : XG} {l : Launch} {p : Program} {e : Env} {R : Room} {s : State} {m : MethodId} {args : Array Value} {below : List Frame} {meth : Method} {c : Code} (C : XC G 1 570 p s m args c prog_5_method_10_code 3 R_Guess) (hr : meth.sig.returnType = none) (hk : meth.locks = false) {d : Nat} (hd : 6 ≤ d + 1) (hR : xroom R (d + 1)) {rec2 : Int32 → LH → Option (LH)} {σ' : LH} (hrec2 : ∀ (y1 : Int32) (σ : LH), rec2 y1 σ = some σ' → XJ G 1 570 p l e R s m args below meth c 3 (XQ G 1 570 below args s none σ') 0 0 2 [(0, .ref (G.2.2.1 + 58)), (1, .int y1)] [] σ) {y1 : Int32} {z1 : Int32} {z2 : Int32} {z3 : Int32} {σ : LH} (h0 : s_Guess_findRule_92 rec2 y1 z1 z2 z3 σ = some σ') : XJ G 1 570 p l e R s m args below meth c 3 (XQ G 1 570 below args s none σ') 0 0 92 [(0, .ref (G.2.2.1 + 58)), (1, .int y1)] [.int z3, .int z2, .int z1, .ref (G.2.2.1 + 58)] σ := by
  replace h0 := (show _ = _ from h0)
  unfold s_Guess_findRule_92 at h0
  obtain ⟨σ10, k9, h0⟩ := xbind1 h0
  refine x_callVv C hR (c_Guess_offer (d := d) (by omega) k9) cw_Guess_89 k_58 rfl rfl rfl (Nat.le_of_ble_eq_true rfl) ⟨Nat.zero_le _, Nat.zero_le _⟩ d_Guess_findRule_92 ?_
  obtain ⟨x11, ex11, h0⟩ := xlet h0
  refine x_iinc (lv' := [(1, .int x11), (0, .ref (G.2.2.1 + 58))]) C d_Guess_findRule_95 1 rfl ex11 (by decide) rfl ?_
  refine x_goto C 2 d_Guess_findRule_98 (by decide) ?_
  exact x_lv C [1, 0] rfl (hrec2 _ _ h0)
def s_Guess_findRule_21_b (rec2 : Int32 → LH → Option (LH)) (rec21 : Int32 → Int32 → LH → Option (LH)) (y1 : Int32) (y2 : Int32) (σ : LH) : Option (LH) :=
  if (σ.1 4 1) ≤ y2 then (
   xb1 (s_Evening_run 59 (σ.1 4 15) σ) fun σ7 =>
   if y1 = 0 then (
    s_Guess_findRule_92 rec2 y1 y1 ((σ7.1 39 8) - (σ7.1 59 8)) 1 σ7)
   else (
    s_Guess_findRule_92 rec2 y1 y1 ((σ7.1 39 8) - (σ7.1 59 8)) 0 σ7))
  else (
   if ib y2 8 then (
   xl ((stI σ 62 (Int32.toNatClampNeg y2) y1) : LH) fun σ13 =>
   xl ((y2 + 1) : Int32) fun x14 =>
   rec21 y1 x14 σ13) else none)
def s_Guess_findRule_21 (rec2 : Int32 → LH → Option (LH)) : Nat → Int32 → Int32 → LH → Option (LH)
  | 0, _, _, _ => none
  | n + 1, y1, y2, σ => s_Guess_findRule_21_b rec2 (s_Guess_findRule_21 rec2 n) y1 y2 σ
theorem bb_Guess_findRule_21 {G : XG} {l : Launch} {p : Program} {e : Env} {R : Room} {s : State} {m : MethodId} {args : Array Value} {below : List Frame} {meth : Method} {c : Code} (C : XC G 1 570 p s m args c prog_5_method_10_code 3 R_Guess) (hr : meth.sig.returnType = none) (hk : meth.locks = false) {d : Nat} (hd : 6 ≤ d + 1) (hR : xroom R (d + 1)) {rec2 : Int32 → LH → Option (LH)} {rec21 : Int32 → Int32 → LH → Option (LH)} {σ' : LH} (hrec2 : ∀ (y1 : Int32) (σ : LH), rec2 y1 σ = some σ' → XJ G 1 570 p l e R s m args below meth c 3 (XQ G 1 570 below args s none σ') 0 0 2 [(0, .ref (G.2.2.1 + 58)), (1, .int y1)] [] σ) (hrec21 : ∀ (y1 : Int32) (y2 : Int32) (σ : LH), rec21 y1 y2 σ = some σ' → XJ G 1 570 p l e R s m args below meth c 3 (XQ G 1 570 below args s none σ') 0 0 21 [(0, .ref (G.2.2.1 + 58)), (1, .int y1), (2, .int y2)] [] σ) {y1 : Int32} {y2 : Int32} {σ : LH} (h0 : s_Guess_findRule_21_b rec2 rec21 y1 y2 σ = some σ') : XJ G 1 570 p l e R s m args below meth c 3 (XQ G 1 570 below args s none σ') 0 0 21 [(0, .ref (G.2.2.1 + 58)), (1, .int y1), (2, .int y2)] [] σ := by
  replace h0 := (show _ = _ from h0)
  unfold s_Guess_findRule_21_b at h0
  refine x_iload_n C d_Guess_findRule_21 2 rfl ?_
  refine x_aload_n C d_Guess_findRule_22 0 rfl ?_
  refine x_getA (y := 4) C fg_Guess_25 k_58 rfl d_Guess_findRule_23 ?_
  refine x_getI (y := 0) C fg_Guess_112 k_4 rfl d_Guess_findRule_26 ?_
  refine x_icmp_ge C 48 d_Guess_findRule_29 (by decide) (fun q5 => ?_) (fun q5 => ?_)
  · replace h0 := xit q5 h0
    refine x_aload_n C d_Guess_findRule_48 0 rfl ?_
    refine x_getA (y := 38) C fg_Guess_33 k_58 rfl d_Guess_findRule_49 ?_
    refine x_aload_n C d_Guess_findRule_52 0 rfl ?_
    refine x_getA (y := 59) C fg_Guess_12 k_58 rfl d_Guess_findRule_53 ?_
    refine x_aload_n C d_Guess_findRule_56 0 rfl ?_
    refine x_getA (y := 4) C fg_Guess_25 k_58 rfl d_Guess_findRule_57 ?_
    refine x_getI (y := 0) C fg_Guess_74 k_4 rfl d_Guess_findRule_60 ?_
    obtain ⟨σ7, k6, h0⟩ := xbind1 h0
    refine x_callVv C hR (c_Evening_run (d := d) (by omega) (show 59 ∈ xHalls by decide) k6) cw_Guess_47 k_38 rfl rfl rfl (Nat.le_of_ble_eq_true rfl) ⟨Nat.zero_le _, Nat.zero_le _⟩ d_Guess_findRule_63 ?_
    refine x_aload_n C d_Guess_findRule_66 0 rfl ?_
    refine x_iload_n C d_Guess_findRule_67 1 rfl ?_
    refine x_aload_n C d_Guess_findRule_68 0 rfl ?_
    refine x_getA (y := 39) C fg_Guess_37 k_58 rfl d_Guess_findRule_69 ?_
    refine x_getI (y := 0) C fg_Guess_115 k_39 rfl d_Guess_findRule_72 ?_
    refine x_aload_n C d_Guess_findRule_75 0 rfl ?_
    refine x_getA (y := 59) C fg_Guess_12 k_58 rfl d_Guess_findRule_76 ?_
    refine x_getI (y := 0) C fg_Guess_115 k_59 rfl d_Guess_findRule_79 ?_
    refine x_isub C d_Guess_findRule_82 ?_
    refine x_iload_n C d_Guess_findRule_83 1 rfl ?_
    refine x_if_ne C 91 d_Guess_findRule_84 (by decide) (fun q8 => ?_) (fun q8 => ?_)
    · replace h0 := xif q8 h0
      refine x_iconst (v := 0) C d_Guess_findRule_91 (by decide) ?_
      exact x_lv C [0, 1] rfl (b_Guess_findRule_92 C hr hk hd hR hrec2 h0)
    · replace h0 := xit q8 h0
      refine x_iconst (v := 1) C d_Guess_findRule_87 (by decide) ?_
      refine x_goto C 92 d_Guess_findRule_88 (by decide) ?_
      exact x_lv C [0, 1] rfl (b_Guess_findRule_92 C hr hk hd hR hrec2 h0)
  · replace h0 := xif q5 h0
    refine x_aload_n C d_Guess_findRule_32 0 rfl ?_
    refine x_getA (y := 59) C fg_Guess_12 k_58 rfl d_Guess_findRule_33 ?_
    refine x_getR (y := 3) C fg_Guess_92 k_59 rfl d_Guess_findRule_36 ?_
    show XJ _ _ _ _ _ _ _ _ _ _ _ _ _ _ _ _ _ _ _ (.ref (G.2.2.1 + 62) :: _) _
    refine x_iload_n C d_Guess_findRule_39 2 rfl ?_
    refine x_iload_n C d_Guess_findRule_40 1 rfl ?_
    obtain ⟨g12, h0⟩ := xgo h0
    refine x_iast C k_62 (ib_in g12) d_Guess_findRule_41 ?_
    obtain ⟨σ13, eσ13, h0⟩ := xlet h0
    refine x_sig C eσ13 ?_
    obtain ⟨x14, ex14, h0⟩ := xlet h0
    refine x_iinc (lv' := [(2, .int x14), (0, .ref (G.2.2.1 + 58)), (1, .int y1)]) C d_Guess_findRule_42 2 rfl ex14 (by decide) rfl ?_
    refine x_goto C 21 d_Guess_findRule_45 (by decide) ?_
    exact x_lv C [1, 2, 0] rfl (hrec21 _ _ _ h0)
theorem b_Guess_findRule_21 {G : XG} {l : Launch} {p : Program} {e : Env} {R : Room} {s : State} {m : MethodId} {args : Array Value} {below : List Frame} {meth : Method} {c : Code} (C : XC G 1 570 p s m args c prog_5_method_10_code 3 R_Guess) (hr : meth.sig.returnType = none) (hk : meth.locks = false) {d : Nat} (hd : 6 ≤ d + 1) (hR : xroom R (d + 1)) {rec2 : Int32 → LH → Option (LH)} {σ' : LH} (hrec2 : ∀ (y1 : Int32) (σ : LH), rec2 y1 σ = some σ' → XJ G 1 570 p l e R s m args below meth c 3 (XQ G 1 570 below args s none σ') 0 0 2 [(0, .ref (G.2.2.1 + 58)), (1, .int y1)] [] σ) : ∀ (n : Nat) (y1 : Int32) (y2 : Int32) (σ : LH), s_Guess_findRule_21 rec2 n y1 y2 σ = some σ' → XJ G 1 570 p l e R s m args below meth c 3 (XQ G 1 570 below args s none σ') 0 0 21 [(0, .ref (G.2.2.1 + 58)), (1, .int y1), (2, .int y2)] [] σ := by
  intro n
  induction n with
  | zero => intro y1 y2 σ h0; cases h0
  | succ n ih => intro y1 y2 σ h0; exact bb_Guess_findRule_21 C hr hk hd hR hrec2 ih h0
def s_Guess_findRule_2_b (rec2 : Int32 → LH → Option (LH)) (y1 : Int32) (σ : LH) : Option (LH) :=
  if 9 < y1 then (
   xl ((stI σ 58 6 (-(σ.1 58 6))) : LH) fun σ2 =>
   some σ2)
  else (
   xb1 (s_Hall_beginAs 59 39 σ) fun σ4 =>
   s_Guess_findRule_21 rec2 FUEL y1 0 σ4)
def s_Guess_findRule_2 : Nat → Int32 → LH → Option (LH)
  | 0, _, _ => none
  | n + 1, y1, σ => s_Guess_findRule_2_b (s_Guess_findRule_2 n) y1 σ
theorem bb_Guess_findRule_2 {G : XG} {l : Launch} {p : Program} {e : Env} {R : Room} {s : State} {m : MethodId} {args : Array Value} {below : List Frame} {meth : Method} {c : Code} (C : XC G 1 570 p s m args c prog_5_method_10_code 3 R_Guess) (hr : meth.sig.returnType = none) (hk : meth.locks = false) {d : Nat} (hd : 6 ≤ d + 1) (hR : xroom R (d + 1)) {rec2 : Int32 → LH → Option (LH)} {σ' : LH} (hrec2 : ∀ (y1 : Int32) (σ : LH), rec2 y1 σ = some σ' → XJ G 1 570 p l e R s m args below meth c 3 (XQ G 1 570 below args s none σ') 0 0 2 [(0, .ref (G.2.2.1 + 58)), (1, .int y1)] [] σ) {y1 : Int32} {σ : LH} (h0 : s_Guess_findRule_2_b rec2 y1 σ = some σ') : XJ G 1 570 p l e R s m args below meth c 3 (XQ G 1 570 below args s none σ') 0 0 2 [(0, .ref (G.2.2.1 + 58)), (1, .int y1)] [] σ := by
  replace h0 := (show _ = _ from h0)
  unfold s_Guess_findRule_2_b at h0
  refine x_iload_n C d_Guess_findRule_2 1 rfl ?_
  refine x_bipush (v := 9) C d_Guess_findRule_3 (by decide) ?_
  refine x_icmp_gt C 101 d_Guess_findRule_5 (by decide) (fun q1 => ?_) (fun q1 => ?_)
  · replace h0 := xit q1 h0
    refine x_aload_n C d_Guess_findRule_101 0 rfl ?_
    refine x_aload_n C d_Guess_findRule_102 0 rfl ?_
    refine x_getI (y := 0) C fg_Guess_22 k_58 rfl d_Guess_findRule_103 ?_
    refine x_ineg C d_Guess_findRule_106 ?_
    refine x_putI (y := 0) C fp_Guess_22 k_58 rfl rfl rfl d_Guess_findRule_107 ?_
    obtain ⟨σ2, eσ2, h0⟩ := xlet h0
    refine x_sig C eσ2 ?_
    exact x_vret C hr hk h0 d_Guess_findRule_110
  · replace h0 := xif q1 h0
    refine x_aload_n C d_Guess_findRule_8 0 rfl ?_
    refine x_getA (y := 59) C fg_Guess_12 k_58 rfl d_Guess_findRule_9 ?_
    refine x_aload_n C d_Guess_findRule_12 0 rfl ?_
    refine x_getA (y := 39) C fg_Guess_37 k_58 rfl d_Guess_findRule_13 ?_
    obtain ⟨σ4, k3, h0⟩ := xbind1 h0
    refine x_callVv C hR (c_Hall_beginAs (d := d) (by omega) (show 59 ∈ xHalls by decide) (show 39 ∈ xHalls by decide) k3) cw_Guess_40 k_59 rfl rfl rfl (Nat.le_of_ble_eq_true rfl) ⟨Nat.zero_le _, Nat.zero_le _⟩ d_Guess_findRule_16 ?_
    refine x_iconst (v := 0) C d_Guess_findRule_19 (by decide) ?_
    refine x_istore_n (lv' := [(2, .int 0), (0, .ref (G.2.2.1 + 58)), (1, .int y1)]) C d_Guess_findRule_20 rfl (by decide) rfl ?_
    exact x_lv C [1, 2, 0] rfl (b_Guess_findRule_21 C hr hk hd hR hrec2 FUEL _ _ _ h0)
theorem b_Guess_findRule_2 {G : XG} {l : Launch} {p : Program} {e : Env} {R : Room} {s : State} {m : MethodId} {args : Array Value} {below : List Frame} {meth : Method} {c : Code} (C : XC G 1 570 p s m args c prog_5_method_10_code 3 R_Guess) (hr : meth.sig.returnType = none) (hk : meth.locks = false) {d : Nat} (hd : 6 ≤ d + 1) (hR : xroom R (d + 1)) {σ' : LH} : ∀ (n : Nat) (y1 : Int32) (σ : LH), s_Guess_findRule_2 n y1 σ = some σ' → XJ G 1 570 p l e R s m args below meth c 3 (XQ G 1 570 below args s none σ') 0 0 2 [(0, .ref (G.2.2.1 + 58)), (1, .int y1)] [] σ := by
  intro n
  induction n with
  | zero => intro y1 σ h0; cases h0
  | succ n ih => intro y1 σ h0; exact bb_Guess_findRule_2 C hr hk hd hR ih h0
def s_Guess_findRule (σ : LH) : Option (LH) :=
  s_Guess_findRule_2 FUEL 0 σ
theorem c_Guess_findRule {G : XG} {l : Launch} {d : Nat} (hd : 6 ≤ d) {σ σ' : LH} (h0 : s_Guess_findRule σ = some σ') : xM G 1 570 l y_Guess_findRule prog_5_method_10_code 3 none d [.ref (G.2.2.1 + 58)] σ none σ' := by
  obtain ⟨d, rfl⟩ : ∃ q, d = q + 1 := ⟨d - 1, by omega⟩
  refine x_met R_Guess rfl (by decide +kernel) (Nat.le_of_ble_eq_true rfl) fun p e s m below meth c C hr hk hR => ?_
  refine x_lv (lv' := [(0, .ref (G.2.2.1 + 58))]) C [0] rfl ?_
  generalize xrm (d + 1) = R at hR ⊢
  unfold s_Guess_findRule at h0
  refine x_iconst (v := 0) C d_Guess_findRule_0 (by decide) ?_
  refine x_istore_n (lv' := [(1, .int 0), (0, .ref (G.2.2.1 + 58))]) C d_Guess_findRule_1 rfl (by decide) rfl ?_
  exact x_lv C [1, 0] rfl (b_Guess_findRule_2 C hr hk hd hR FUEL _ _ h0)
-- LostPlaces.rule(I)I
theorem d_Main_rule_0 : decode prog_1_method_37_code 0 = .ok (.aload_n 0, 1) := by decide +kernel
theorem d_Main_rule_1 : decode prog_1_method_37_code 1 = .ok (.invokevirtual 317, 3) := by decide +kernel
theorem d_Main_rule_4 : decode prog_1_method_37_code 4 = .ok (.ifCond .eq 10, 3) := by decide +kernel
theorem d_Main_rule_7 : decode prog_1_method_37_code 7 = .ok (.iload_n 1, 1) := by decide +kernel
theorem d_Main_rule_8 : decode prog_1_method_37_code 8 = .ok (.invokestatic 283, 3) := by decide +kernel
theorem d_Main_rule_11 : decode prog_1_method_37_code 11 = .ok (.ifCond .eq 5, 3) := by decide +kernel
theorem d_Main_rule_14 : decode prog_1_method_37_code 14 = .ok (.iconst (-1), 1) := by decide +kernel
theorem d_Main_rule_15 : decode prog_1_method_37_code 15 = .ok (.ireturn, 1) := by decide +kernel
theorem d_Main_rule_16 : decode prog_1_method_37_code 16 = .ok (.aload_n 0, 1) := by decide +kernel
theorem d_Main_rule_17 : decode prog_1_method_37_code 17 = .ok (.getfield 105, 3) := by decide +kernel
theorem d_Main_rule_20 : decode prog_1_method_37_code 20 = .ok (.invokevirtual 321, 3) := by decide +kernel
theorem d_Main_rule_23 : decode prog_1_method_37_code 23 = .ok (.iload_n 1, 1) := by decide +kernel
theorem d_Main_rule_24 : decode prog_1_method_37_code 24 = .ok (.ifCond .ne 13, 3) := by decide +kernel
theorem d_Main_rule_27 : decode prog_1_method_37_code 27 = .ok (.aload_n 0, 1) := by decide +kernel
theorem d_Main_rule_28 : decode prog_1_method_37_code 28 = .ok (.getfield 105, 3) := by decide +kernel
theorem d_Main_rule_31 : decode prog_1_method_37_code 31 = .ok (.getfield 295, 3) := by decide +kernel
theorem d_Main_rule_34 : decode prog_1_method_37_code 34 = .ok (.goto 10, 3) := by decide +kernel
theorem d_Main_rule_37 : decode prog_1_method_37_code 37 = .ok (.aload_n 0, 1) := by decide +kernel
theorem d_Main_rule_38 : decode prog_1_method_37_code 38 = .ok (.getfield 105, 3) := by decide +kernel
theorem d_Main_rule_41 : decode prog_1_method_37_code 41 = .ok (.getfield 298, 3) := by decide +kernel
theorem d_Main_rule_44 : decode prog_1_method_37_code 44 = .ok (.ireturn, 1) := by decide +kernel
def s_Main_rule_14 (p0 : Int32) (σ : LH) : Option (Int32 × LH) :=
  some ((-1), σ)
theorem b_Main_rule_14 {G : XG} {l : Launch} {p : Program} {e : Env} {R : Room} {s : State} {m : MethodId} {args : Array Value} {below : List Frame} {meth : Method} {c : Code} (C : XC G 1 570 p s m args c prog_1_method_37_code 2 R_Main) (hr : meth.sig.returnType = (some .int)) (hk : meth.locks = false) {d : Nat} (hd : 7 ≤ d + 1) (hR : xroom R (d + 1)) {p0 : Int32} {σ' : LH} {r : Int32} {σ : LH} (h0 : s_Main_rule_14 p0 σ = some (r, σ')) : XJ G 1 570 p l e R s m args below meth c 2 (XQ G 1 570 below args s (some (.int r)) σ') 0 0 14 [] [] σ := by
  replace h0 := (show _ = _ from h0)
  unfold s_Main_rule_14 at h0
  refine x_iconst (v := (-1)) C d_Main_rule_14 (by decide) ?_
  exact x_iret C hr hk h0 d_Main_rule_15
def s_Main_rule_44 (p0 : Int32) (z0 : Int32) (σ : LH) : Option (Int32 × LH) :=
  some (z0, σ)
theorem b_Main_rule_44 {G : XG} {l : Launch} {p : Program} {e : Env} {R : Room} {s : State} {m : MethodId} {args : Array Value} {below : List Frame} {meth : Method} {c : Code} (C : XC G 1 570 p s m args c prog_1_method_37_code 2 R_Main) (hr : meth.sig.returnType = (some .int)) (hk : meth.locks = false) {d : Nat} (hd : 7 ≤ d + 1) (hR : xroom R (d + 1)) {p0 : Int32} {σ' : LH} {r : Int32} {z0 : Int32} {σ : LH} (h0 : s_Main_rule_44 p0 z0 σ = some (r, σ')) : XJ G 1 570 p l e R s m args below meth c 2 (XQ G 1 570 below args s (some (.int r)) σ') 0 0 44 [] [.int z0] σ := by
  replace h0 := (show _ = _ from h0)
  unfold s_Main_rule_44 at h0
  exact x_iret C hr hk h0 d_Main_rule_44
def s_Main_rule (p0 : Int32) (σ : LH) : Option (Int32 × LH) :=
  xb2 (s_Main_hasRoom σ) fun r2 σ3 =>
  if r2 = 0 then (
   s_Main_rule_14 p0 σ3)
  else (
   xb2 (s_Main_isNoChoice p0 σ3) fun r6 σ7 =>
   if r6 = 0 then (
    xb1 (s_Guess_findRule σ7) fun σ10 =>
    if p0 = 0 then (
     s_Main_rule_44 p0 (σ10.1 58 5) σ10)
    else (
     s_Main_rule_44 p0 (σ10.1 58 6) σ10))
   else (
    s_Main_rule_14 p0 σ7))
theorem c_Main_rule {G : XG} {l : Launch} {d : Nat} (hd : 7 ≤ d) {p0 : Int32} {σ σ' : LH} {r : Int32} (h0 : s_Main_rule p0 σ = some (r, σ')) : xM G 1 570 l y_Main_rule prog_1_method_37_code 2 (some .int) d [.ref (G.2.2.1 + 1), .int p0] σ (some (.int r)) σ' := by
  obtain ⟨d, rfl⟩ : ∃ q, d = q + 1 := ⟨d - 1, by omega⟩
  refine x_met R_Main rfl (by decide +kernel) (Nat.le_of_ble_eq_true rfl) fun p e s m below meth c C hr hk hR => ?_
  refine x_lv (lv' := [(0, .ref (G.2.2.1 + 1)), (1, .int p0)]) C [0, 1] rfl ?_
  generalize xrm (d + 1) = R at hR ⊢
  unfold s_Main_rule at h0
  refine x_aload_n C d_Main_rule_0 0 rfl ?_
  obtain ⟨r2, σ3, k1, h0⟩ := xbind2 h0
  refine x_callVi C hR (c_Main_hasRoom (d := d) (by omega) k1) cw_Main_317 k_1 rfl rfl rfl (Nat.le_of_ble_eq_true rfl) ⟨Nat.zero_le _, Nat.zero_le _⟩ d_Main_rule_1 ?_
  refine x_if_eq C 14 d_Main_rule_4 (by decide) (fun q4 => ?_) (fun q4 => ?_)
  · replace h0 := xit q4 h0
    exact x_lv C [] rfl (b_Main_rule_14 C hr hk hd hR h0)
  · replace h0 := xif q4 h0
    refine x_iload_n C d_Main_rule_7 1 rfl ?_
    obtain ⟨r6, σ7, k5, h0⟩ := xbind2 h0
    refine x_callSi C hR (c_Main_isNoChoice (d := d) (by omega) k5) cw_Main_283 w_1149 rfl rfl (Nat.le_of_ble_eq_true rfl) ⟨Nat.zero_le _, Nat.zero_le _⟩ d_Main_rule_8 ?_
    refine x_if_eq C 16 d_Main_rule_11 (by decide) (fun q8 => ?_) (fun q8 => ?_)
    · replace h0 := xit q8 h0
      refine x_aload_n C d_Main_rule_16 0 rfl ?_
      refine x_getA (y := 58) C fg_Main_105 k_1 rfl d_Main_rule_17 ?_
      obtain ⟨σ10, k9, h0⟩ := xbind1 h0
      refine x_callVv C hR (c_Guess_findRule (d := d) (by omega) k9) cw_Main_321 k_58 rfl rfl rfl (Nat.le_of_ble_eq_true rfl) ⟨Nat.zero_le _, Nat.zero_le _⟩ d_Main_rule_20 ?_
      refine x_iload_n C d_Main_rule_23 1 rfl ?_
      refine x_if_ne C 37 d_Main_rule_24 (by decide) (fun q11 => ?_) (fun q11 => ?_)
      · replace h0 := xif q11 h0
        refine x_aload_n C d_Main_rule_37 0 rfl ?_
        refine x_getA (y := 58) C fg_Main_105 k_1 rfl d_Main_rule_38 ?_
        refine x_getI (y := 0) C fg_Main_298 k_58 rfl d_Main_rule_41 ?_
        exact x_lv C [] rfl (b_Main_rule_44 C hr hk hd hR h0)
      · replace h0 := xit q11 h0
        refine x_aload_n C d_Main_rule_27 0 rfl ?_
        refine x_getA (y := 58) C fg_Main_105 k_1 rfl d_Main_rule_28 ?_
        refine x_getI (y := 0) C fg_Main_295 k_58 rfl d_Main_rule_31 ?_
        refine x_goto C 44 d_Main_rule_34 (by decide) ?_
        exact x_lv C [] rfl (b_Main_rule_44 C hr hk hd hR h0)
    · replace h0 := xif q8 h0
      exact x_lv C [] rfl (b_Main_rule_14 C hr hk hd hR h0)
-- LostPlaces$Game.gather()Z
theorem d_Game_gather_0 : decode prog_4_method_2_code 0 = .ok (.aload_n 0, 1) := by decide +kernel
theorem d_Game_gather_1 : decode prog_4_method_2_code 1 = .ok (.iconst 0, 1) := by decide +kernel
theorem d_Game_gather_2 : decode prog_4_method_2_code 2 = .ok (.putfield 22, 3) := by decide +kernel
theorem d_Game_gather_5 : decode prog_4_method_2_code 5 = .ok (.iconst 0, 1) := by decide +kernel
theorem d_Game_gather_6 : decode prog_4_method_2_code 6 = .ok (.istore_n 1, 1) := by decide +kernel
theorem d_Game_gather_7 : decode prog_4_method_2_code 7 = .ok (.iload_n 1, 1) := by decide +kernel
theorem d_Game_gather_8 : decode prog_4_method_2_code 8 = .ok (.aload_n 0, 1) := by decide +kernel
theorem d_Game_gather_9 : decode prog_4_method_2_code 9 = .ok (.getfield 32, 3) := by decide +kernel
theorem d_Game_gather_12 : decode prog_4_method_2_code 12 = .ok (.getfield 43, 3) := by decide +kernel
theorem d_Game_gather_15 : decode prog_4_method_2_code 15 = .ok (.if_icmp .ge 56, 3) := by decide +kernel
theorem d_Game_gather_18 : decode prog_4_method_2_code 18 = .ok (.aload_n 0, 1) := by decide +kernel
theorem d_Game_gather_19 : decode prog_4_method_2_code 19 = .ok (.getfield 40, 3) := by decide +kernel
theorem d_Game_gather_22 : decode prog_4_method_2_code 22 = .ok (.getfield 48, 3) := by decide +kernel
theorem d_Game_gather_25 : decode prog_4_method_2_code 25 = .ok (.iload_n 1, 1) := by decide +kernel
theorem d_Game_gather_26 : decode prog_4_method_2_code 26 = .ok (.iaload, 1) := by decide +kernel
theorem d_Game_gather_27 : decode prog_4_method_2_code 27 = .ok (.bipush (-2), 2) := by decide +kernel
theorem d_Game_gather_29 : decode prog_4_method_2_code 29 = .ok (.if_icmp .ne 6, 3) := by decide +kernel
theorem d_Game_gather_32 : decode prog_4_method_2_code 32 = .ok (.goto 33, 3) := by decide +kernel
theorem d_Game_gather_35 : decode prog_4_method_2_code 35 = .ok (.aload_n 0, 1) := by decide +kernel
theorem d_Game_gather_36 : decode prog_4_method_2_code 36 = .ok (.getfield 22, 3) := by decide +kernel
theorem d_Game_gather_39 : decode prog_4_method_2_code 39 = .ok (.iconst 4, 1) := by decide +kernel
theorem d_Game_gather_40 : decode prog_4_method_2_code 40 = .ok (.if_icmp .lt 5, 3) := by decide +kernel
theorem d_Game_gather_43 : decode prog_4_method_2_code 43 = .ok (.iconst 0, 1) := by decide +kernel
theorem d_Game_gather_44 : decode prog_4_method_2_code 44 = .ok (.ireturn, 1) := by decide +kernel
theorem d_Game_gather_45 : decode prog_4_method_2_code 45 = .ok (.aload_n 0, 1) := by decide +kernel
theorem d_Game_gather_46 : decode prog_4_method_2_code 46 = .ok (.getfield 18, 3) := by decide +kernel
theorem d_Game_gather_49 : decode prog_4_method_2_code 49 = .ok (.aload_n 0, 1) := by decide +kernel
theorem d_Game_gather_50 : decode prog_4_method_2_code 50 = .ok (.getfield 22, 3) := by decide +kernel
theorem d_Game_gather_53 : decode prog_4_method_2_code 53 = .ok (.iload_n 1, 1) := by decide +kernel
theorem d_Game_gather_54 : decode prog_4_method_2_code 54 = .ok (.iastore, 1) := by decide +kernel
theorem d_Game_gather_55 : decode prog_4_method_2_code 55 = .ok (.aload_n 0, 1) := by decide +kernel
theorem d_Game_gather_56 : decode prog_4_method_2_code 56 = .ok (.dup, 1) := by decide +kernel
theorem d_Game_gather_57 : decode prog_4_method_2_code 57 = .ok (.getfield 22, 3) := by decide +kernel
theorem d_Game_gather_60 : decode prog_4_method_2_code 60 = .ok (.iconst 1, 1) := by decide +kernel
theorem d_Game_gather_61 : decode prog_4_method_2_code 61 = .ok (.iadd, 1) := by decide +kernel
theorem d_Game_gather_62 : decode prog_4_method_2_code 62 = .ok (.putfield 22, 3) := by decide +kernel
theorem d_Game_gather_65 : decode prog_4_method_2_code 65 = .ok (.iinc 1 1, 3) := by decide +kernel
theorem d_Game_gather_68 : decode prog_4_method_2_code 68 = .ok (.goto (-61), 3) := by decide +kernel
theorem d_Game_gather_71 : decode prog_4_method_2_code 71 = .ok (.aload_n 0, 1) := by decide +kernel
theorem d_Game_gather_72 : decode prog_4_method_2_code 72 = .ok (.getfield 22, 3) := by decide +kernel
theorem d_Game_gather_75 : decode prog_4_method_2_code 75 = .ok (.ifCond .le 7, 3) := by decide +kernel
theorem d_Game_gather_78 : decode prog_4_method_2_code 78 = .ok (.iconst 1, 1) := by decide +kernel
theorem d_Game_gather_79 : decode prog_4_method_2_code 79 = .ok (.goto 4, 3) := by decide +kernel
theorem d_Game_gather_82 : decode prog_4_method_2_code 82 = .ok (.iconst 0, 1) := by decide +kernel
theorem d_Game_gather_83 : decode prog_4_method_2_code 83 = .ok (.ireturn, 1) := by decide +kernel
def s_Game_gather_83 (z0 : Int32) (σ : LH) : Option (Int32 × LH) :=
  if zb z0 then (
  some (z0, σ)) else none
theorem b_Game_gather_83 {G : XG} {l : Launch} {p : Program} {e : Env} {R : Room} {s : State} {m : MethodId} {args : Array Value} {below : List Frame} {meth : Method} {c : Code} (C : XC G 1 570 p s m args c prog_4_method_2_code 2 R_Game) (hr : meth.sig.returnType = (some .boolean)) (hk : meth.locks = false) {d : Nat} (hd : 1 ≤ d + 1) (hR : xroom R (d + 1)) {σ' : LH} {r : Int32} {z0 : Int32} {σ : LH} (h0 : s_Game_gather_83 z0 σ = some (r, σ')) : XJ G 1 570 p l e R s m args below meth c 2 (XQ G 1 570 below args s (some (.int r)) σ') 0 0 83 [] [.int z0] σ := by
  replace h0 := (show _ = _ from h0)
  unfold s_Game_gather_83 at h0
  obtain ⟨g4, h0⟩ := xgo h0
  exact x_zret C hr hk g4 h0 d_Game_gather_83
def s_Game_gather_65 (rec7 : Int32 → LH → Option (Int32 × LH)) (y1 : Int32) (σ : LH) : Option (Int32 × LH) :=
  xl ((y1 + 1) : Int32) fun x7 =>
  rec7 x7 σ
theorem b_Game_gather_65 {G : XG} {l : Launch} {p : Program} {e : Env} {R : Room} {s : State} {m : MethodId} {args : Array Value} {below : List Frame} {meth : Method} {c : Code} (C : XC G 1 570 p s m args c prog_4_method_2_code 2 R_Game) (hr : meth.sig.returnType = (some .boolean)) (hk : meth.locks = false) {d : Nat} (hd : 1 ≤ d + 1) (hR : xroom R (d + 1)) {rec7 : Int32 → LH → Option (Int32 × LH)} {σ' : LH} {r : Int32} (hrec7 : ∀ (y1 : Int32) (σ : LH), rec7 y1 σ = some (r, σ') → XJ G 1 570 p l e R s m args below meth c 2 (XQ G 1 570 below args s (some (.int r)) σ') 0 0 7 [(0, .ref (G.2.2.1 + 68)), (1, .int y1)] [] σ) {y1 : Int32} {σ : LH} (h0 : s_Game_gather_65 rec7 y1 σ = some (r, σ')) : XJ G 1 570 p l e R s m args below meth c 2 (XQ G 1 570 below args s (some (.int r)) σ') 0 0 65 [(0, .ref (G.2.2.1 + 68)), (1, .int y1)] [] σ := by
  replace h0 := (show _ = _ from h0)
  unfold s_Game_gather_65 at h0
  obtain ⟨x7, ex7, h0⟩ := xlet h0
  refine x_iinc (lv' := [(1, .int x7), (0, .ref (G.2.2.1 + 68))]) C d_Game_gather_65 1 rfl ex7 (by decide) rfl ?_
  refine x_goto C 7 d_Game_gather_68 (by decide) ?_
  exact x_lv C [1, 0] rfl (hrec7 _ _ h0)
def s_Game_gather_7_b (rec7 : Int32 → LH → Option (Int32 × LH)) (y1 : Int32) (σ : LH) : Option (Int32 × LH) :=
  if (σ.1 4 1) ≤ y1 then (
   if (σ.1 68 5) ≤ 0 then (
    s_Game_gather_83 0 σ)
   else (
    s_Game_gather_83 1 σ))
  else (
   if ib y1 8 then (
   if (σ.1 40 (Int32.toNatClampNeg y1)) = (-2) then (
    s_Game_gather_65 rec7 y1 σ)
   else (
    if (σ.1 68 5) < 4 then (
     if ib (σ.1 68 5) 4 then (
     xl ((stI σ 78 (Int32.toNatClampNeg (σ.1 68 5)) y1) : LH) fun σ10 =>
     xl ((stI σ10 68 5 ((σ10.1 68 5) + 1)) : LH) fun σ11 =>
     s_Game_gather_65 rec7 y1 σ11) else none)
    else (
     some (0, σ)))) else none)
def s_Game_gather_7 : Nat → Int32 → LH → Option (Int32 × LH)
  | 0, _, _ => none
  | n + 1, y1, σ => s_Game_gather_7_b (s_Game_gather_7 n) y1 σ
theorem bb_Game_gather_7 {G : XG} {l : Launch} {p : Program} {e : Env} {R : Room} {s : State} {m : MethodId} {args : Array Value} {below : List Frame} {meth : Method} {c : Code} (C : XC G 1 570 p s m args c prog_4_method_2_code 2 R_Game) (hr : meth.sig.returnType = (some .boolean)) (hk : meth.locks = false) {d : Nat} (hd : 1 ≤ d + 1) (hR : xroom R (d + 1)) {rec7 : Int32 → LH → Option (Int32 × LH)} {σ' : LH} {r : Int32} (hrec7 : ∀ (y1 : Int32) (σ : LH), rec7 y1 σ = some (r, σ') → XJ G 1 570 p l e R s m args below meth c 2 (XQ G 1 570 below args s (some (.int r)) σ') 0 0 7 [(0, .ref (G.2.2.1 + 68)), (1, .int y1)] [] σ) {y1 : Int32} {σ : LH} (h0 : s_Game_gather_7_b rec7 y1 σ = some (r, σ')) : XJ G 1 570 p l e R s m args below meth c 2 (XQ G 1 570 below args s (some (.int r)) σ') 0 0 7 [(0, .ref (G.2.2.1 + 68)), (1, .int y1)] [] σ := by
  replace h0 := (show _ = _ from h0)
  unfold s_Game_gather_7_b at h0
  refine x_iload_n C d_Game_gather_7 1 rfl ?_
  refine x_aload_n C d_Game_gather_8 0 rfl ?_
  refine x_getA (y := 4) C fg_Game_32 k_68 rfl d_Game_gather_9 ?_
  refine x_getI (y := 0) C fg_Game_43 k_4 rfl d_Game_gather_12 ?_
  refine x_icmp_ge C 71 d_Game_gather_15 (by decide) (fun q2 => ?_) (fun q2 => ?_)
  · replace h0 := xit q2 h0
    refine x_aload_n C d_Game_gather_71 0 rfl ?_
    refine x_getI (y := 0) C fg_Game_22 k_68 rfl d_Game_gather_72 ?_
    refine x_if_le C 82 d_Game_gather_75 (by decide) (fun q3 => ?_) (fun q3 => ?_)
    · replace h0 := xit q3 h0
      refine x_iconst (v := 0) C d_Game_gather_82 (by decide) ?_
      exact x_lv C [] rfl (b_Game_gather_83 C hr hk hd hR h0)
    · replace h0 := xif q3 h0
      refine x_iconst (v := 1) C d_Game_gather_78 (by decide) ?_
      refine x_goto C 83 d_Game_gather_79 (by decide) ?_
      exact x_lv C [] rfl (b_Game_gather_83 C hr hk hd hR h0)
  · replace h0 := xif q2 h0
    refine x_aload_n C d_Game_gather_18 0 rfl ?_
    refine x_getA (y := 39) C fg_Game_40 k_68 rfl d_Game_gather_19 ?_
    refine x_getR (y := 1) C fg_Game_48 k_39 rfl d_Game_gather_22 ?_
    show XJ _ _ _ _ _ _ _ _ _ _ _ _ _ _ _ _ _ _ _ (.ref (G.2.2.1 + 40) :: _) _
    refine x_iload_n C d_Game_gather_25 1 rfl ?_
    obtain ⟨g5, h0⟩ := xgo h0
    refine x_iald C k_40 (ib_in g5) d_Game_gather_26 ?_
    refine x_bipush (v := (-2)) C d_Game_gather_27 (by decide) ?_
    refine x_icmp_ne C 35 d_Game_gather_29 (by decide) (fun q6 => ?_) (fun q6 => ?_)
    · replace h0 := xif q6 h0
      refine x_aload_n C d_Game_gather_35 0 rfl ?_
      refine x_getI (y := 0) C fg_Game_22 k_68 rfl d_Game_gather_36 ?_
      refine x_iconst (v := 4) C d_Game_gather_39 (by decide) ?_
      refine x_icmp_lt C 45 d_Game_gather_40 (by decide) (fun q8 => ?_) (fun q8 => ?_)
      · replace h0 := xit q8 h0
        refine x_aload_n C d_Game_gather_45 0 rfl ?_
        refine x_getA (y := 78) C fg_Game_18 k_68 rfl d_Game_gather_46 ?_
        refine x_aload_n C d_Game_gather_49 0 rfl ?_
        refine x_getI (y := 0) C fg_Game_22 k_68 rfl d_Game_gather_50 ?_
        refine x_iload_n C d_Game_gather_53 1 rfl ?_
        obtain ⟨g9, h0⟩ := xgo h0
        refine x_iast C k_78 (ib_in g9) d_Game_gather_54 ?_
        obtain ⟨σ10, eσ10, h0⟩ := xlet h0
        refine x_sig C eσ10 ?_
        refine x_aload_n C d_Game_gather_55 0 rfl ?_
        refine x_dup C d_Game_gather_56 rfl ?_
        refine x_getI (y := 0) C fg_Game_22 k_68 rfl d_Game_gather_57 ?_
        refine x_iconst (v := 1) C d_Game_gather_60 (by decide) ?_
        refine x_iadd C d_Game_gather_61 ?_
        refine x_putI (y := 0) C fp_Game_22 k_68 rfl rfl rfl d_Game_gather_62 ?_
        obtain ⟨σ11, eσ11, h0⟩ := xlet h0
        refine x_sig C eσ11 ?_
        exact x_lv C [0, 1] rfl (b_Game_gather_65 C hr hk hd hR hrec7 h0)
      · replace h0 := xif q8 h0
        refine x_iconst (v := 0) C d_Game_gather_43 (by decide) ?_
        exact x_zret C hr hk (by decide) h0 d_Game_gather_44
    · replace h0 := xit q6 h0
      refine x_goto C 65 d_Game_gather_32 (by decide) ?_
      exact x_lv C [0, 1] rfl (b_Game_gather_65 C hr hk hd hR hrec7 h0)
theorem b_Game_gather_7 {G : XG} {l : Launch} {p : Program} {e : Env} {R : Room} {s : State} {m : MethodId} {args : Array Value} {below : List Frame} {meth : Method} {c : Code} (C : XC G 1 570 p s m args c prog_4_method_2_code 2 R_Game) (hr : meth.sig.returnType = (some .boolean)) (hk : meth.locks = false) {d : Nat} (hd : 1 ≤ d + 1) (hR : xroom R (d + 1)) {σ' : LH} {r : Int32} : ∀ (n : Nat) (y1 : Int32) (σ : LH), s_Game_gather_7 n y1 σ = some (r, σ') → XJ G 1 570 p l e R s m args below meth c 2 (XQ G 1 570 below args s (some (.int r)) σ') 0 0 7 [(0, .ref (G.2.2.1 + 68)), (1, .int y1)] [] σ := by
  intro n
  induction n with
  | zero => intro y1 σ h0; cases h0
  | succ n ih => intro y1 σ h0; exact bb_Game_gather_7 C hr hk hd hR ih h0
def s_Game_gather (σ : LH) : Option (Int32 × LH) :=
  xl ((stI σ 68 5 0) : LH) fun σ1 =>
  s_Game_gather_7 FUEL 0 σ1
theorem c_Game_gather {G : XG} {l : Launch} {d : Nat} (hd : 1 ≤ d) {σ σ' : LH} {r : Int32} (h0 : s_Game_gather σ = some (r, σ')) : xM G 1 570 l y_Game_gather prog_4_method_2_code 2 (some .boolean) d [.ref (G.2.2.1 + 68)] σ (some (.int r)) σ' := by
  obtain ⟨d, rfl⟩ : ∃ q, d = q + 1 := ⟨d - 1, by omega⟩
  refine x_met R_Game rfl (by decide +kernel) (Nat.le_of_ble_eq_true rfl) fun p e s m below meth c C hr hk hR => ?_
  refine x_lv (lv' := [(0, .ref (G.2.2.1 + 68))]) C [0] rfl ?_
  generalize xrm (d + 1) = R at hR ⊢
  unfold s_Game_gather at h0
  refine x_aload_n C d_Game_gather_0 0 rfl ?_
  refine x_iconst (v := 0) C d_Game_gather_1 (by decide) ?_
  refine x_putI (y := 0) C fp_Game_22 k_68 rfl rfl rfl d_Game_gather_2 ?_
  obtain ⟨σ1, eσ1, h0⟩ := xlet h0
  refine x_sig C eσ1 ?_
  refine x_iconst (v := 0) C d_Game_gather_5 (by decide) ?_
  refine x_istore_n (lv' := [(1, .int 0), (0, .ref (G.2.2.1 + 68))]) C d_Game_gather_6 rfl (by decide) rfl ?_
  exact x_lv C [1, 0] rfl (b_Game_gather_7 C hr hk hd hR FUEL _ _ h0)
-- LostPlaces.isGame(I)Z
theorem d_Main_isGame_0 : decode prog_1_method_41_code 0 = .ok (.iload_n 1, 1) := by decide +kernel
theorem d_Main_isGame_1 : decode prog_1_method_41_code 1 = .ok (.ifCond .lt 30, 3) := by decide +kernel
theorem d_Main_isGame_4 : decode prog_1_method_41_code 4 = .ok (.iload_n 1, 1) := by decide +kernel
theorem d_Main_isGame_5 : decode prog_1_method_41_code 5 = .ok (.bipush 99, 2) := by decide +kernel
theorem d_Main_isGame_7 : decode prog_1_method_41_code 7 = .ok (.if_icmp .gt 24, 3) := by decide +kernel
theorem d_Main_isGame_10 : decode prog_1_method_41_code 10 = .ok (.aload_n 0, 1) := by decide +kernel
theorem d_Main_isGame_11 : decode prog_1_method_41_code 11 = .ok (.invokevirtual 247, 3) := by decide +kernel
theorem d_Main_isGame_14 : decode prog_1_method_41_code 14 = .ok (.ifCond .le 17, 3) := by decide +kernel
theorem d_Main_isGame_17 : decode prog_1_method_41_code 17 = .ok (.aload_n 0, 1) := by decide +kernel
theorem d_Main_isGame_18 : decode prog_1_method_41_code 18 = .ok (.getfield 114, 3) := by decide +kernel
theorem d_Main_isGame_21 : decode prog_1_method_41_code 21 = .ok (.invokevirtual 339, 3) := by decide +kernel
theorem d_Main_isGame_24 : decode prog_1_method_41_code 24 = .ok (.ifCond .eq 7, 3) := by decide +kernel
theorem d_Main_isGame_27 : decode prog_1_method_41_code 27 = .ok (.iconst 1, 1) := by decide +kernel
theorem d_Main_isGame_28 : decode prog_1_method_41_code 28 = .ok (.goto 4, 3) := by decide +kernel
theorem d_Main_isGame_31 : decode prog_1_method_41_code 31 = .ok (.iconst 0, 1) := by decide +kernel
theorem d_Main_isGame_32 : decode prog_1_method_41_code 32 = .ok (.ireturn, 1) := by decide +kernel
def s_Main_isGame_32 (p0 : Int32) (z0 : Int32) (σ : LH) : Option (Int32 × LH) :=
  if zb z0 then (
  some (z0, σ)) else none
theorem b_Main_isGame_32 {G : XG} {l : Launch} {p : Program} {e : Env} {R : Room} {s : State} {m : MethodId} {args : Array Value} {below : List Frame} {meth : Method} {c : Code} (C : XC G 1 570 p s m args c prog_1_method_41_code 2 R_Main) (hr : meth.sig.returnType = (some .boolean)) (hk : meth.locks = false) {d : Nat} (hd : 2 ≤ d + 1) (hR : xroom R (d + 1)) {p0 : Int32} {σ' : LH} {r : Int32} {z0 : Int32} {σ : LH} (h0 : s_Main_isGame_32 p0 z0 σ = some (r, σ')) : XJ G 1 570 p l e R s m args below meth c 2 (XQ G 1 570 below args s (some (.int r)) σ') 0 0 32 [] [.int z0] σ := by
  replace h0 := (show _ = _ from h0)
  unfold s_Main_isGame_32 at h0
  obtain ⟨g2, h0⟩ := xgo h0
  exact x_zret C hr hk g2 h0 d_Main_isGame_32
def s_Main_isGame_31 (p0 : Int32) (σ : LH) : Option (Int32 × LH) :=
  s_Main_isGame_32 p0 0 σ
theorem b_Main_isGame_31 {G : XG} {l : Launch} {p : Program} {e : Env} {R : Room} {s : State} {m : MethodId} {args : Array Value} {below : List Frame} {meth : Method} {c : Code} (C : XC G 1 570 p s m args c prog_1_method_41_code 2 R_Main) (hr : meth.sig.returnType = (some .boolean)) (hk : meth.locks = false) {d : Nat} (hd : 2 ≤ d + 1) (hR : xroom R (d + 1)) {p0 : Int32} {σ' : LH} {r : Int32} {σ : LH} (h0 : s_Main_isGame_31 p0 σ = some (r, σ')) : XJ G 1 570 p l e R s m args below meth c 2 (XQ G 1 570 below args s (some (.int r)) σ') 0 0 31 [] [] σ := by
  replace h0 := (show _ = _ from h0)
  unfold s_Main_isGame_31 at h0
  refine x_iconst (v := 0) C d_Main_isGame_31 (by decide) ?_
  exact x_lv C [] rfl (b_Main_isGame_32 C hr hk hd hR h0)
def s_Main_isGame (p0 : Int32) (σ : LH) : Option (Int32 × LH) :=
  if p0 < 0 then (
   s_Main_isGame_31 p0 σ)
  else (
   if 99 < p0 then (
    s_Main_isGame_31 p0 σ)
   else (
    xb2 (s_Main_minutesLeft σ) fun r5 σ6 =>
    if r5 ≤ 0 then (
     s_Main_isGame_31 p0 σ6)
    else (
     xb2 (s_Game_gather σ6) fun r9 σ10 =>
     if r9 = 0 then (
      s_Main_isGame_31 p0 σ10)
     else (
      s_Main_isGame_32 p0 1 σ10))))
theorem c_Main_isGame {G : XG} {l : Launch} {d : Nat} (hd : 2 ≤ d) {p0 : Int32} {σ σ' : LH} {r : Int32} (h0 : s_Main_isGame p0 σ = some (r, σ')) : xM G 1 570 l y_Main_isGame prog_1_method_41_code 2 (some .boolean) d [.ref (G.2.2.1 + 1), .int p0] σ (some (.int r)) σ' := by
  obtain ⟨d, rfl⟩ : ∃ q, d = q + 1 := ⟨d - 1, by omega⟩
  refine x_met R_Main rfl (by decide +kernel) (Nat.le_of_ble_eq_true rfl) fun p e s m below meth c C hr hk hR => ?_
  refine x_lv (lv' := [(0, .ref (G.2.2.1 + 1)), (1, .int p0)]) C [0, 1] rfl ?_
  generalize xrm (d + 1) = R at hR ⊢
  unfold s_Main_isGame at h0
  refine x_iload_n C d_Main_isGame_0 1 rfl ?_
  refine x_if_lt C 31 d_Main_isGame_1 (by decide) (fun q1 => ?_) (fun q1 => ?_)
  · replace h0 := xit q1 h0
    exact x_lv C [] rfl (b_Main_isGame_31 C hr hk hd hR h0)
  · replace h0 := xif q1 h0
    refine x_iload_n C d_Main_isGame_4 1 rfl ?_
    refine x_bipush (v := 99) C d_Main_isGame_5 (by decide) ?_
    refine x_icmp_gt C 31 d_Main_isGame_7 (by decide) (fun q3 => ?_) (fun q3 => ?_)
    · replace h0 := xit q3 h0
      exact x_lv C [] rfl (b_Main_isGame_31 C hr hk hd hR h0)
    · replace h0 := xif q3 h0
      refine x_aload_n C d_Main_isGame_10 0 rfl ?_
      obtain ⟨r5, σ6, k4, h0⟩ := xbind2 h0
      refine x_callVi C hR (c_Main_minutesLeft (d := d) (by omega) k4) cw_Main_247 k_1 rfl rfl rfl (Nat.le_of_ble_eq_true rfl) ⟨Nat.zero_le _, Nat.zero_le _⟩ d_Main_isGame_11 ?_
      refine x_if_le C 31 d_Main_isGame_14 (by decide) (fun q7 => ?_) (fun q7 => ?_)
      · replace h0 := xit q7 h0
        exact x_lv C [] rfl (b_Main_isGame_31 C hr hk hd hR h0)
      · replace h0 := xif q7 h0
        refine x_aload_n C d_Main_isGame_17 0 rfl ?_
        refine x_getA (y := 68) C fg_Main_114 k_1 rfl d_Main_isGame_18 ?_
        obtain ⟨r9, σ10, k8, h0⟩ := xbind2 h0
        refine x_callVi C hR (c_Game_gather (d := d) (by omega) k8) cw_Main_339 k_68 rfl rfl rfl (Nat.le_of_ble_eq_true rfl) ⟨Nat.zero_le _, Nat.zero_le _⟩ d_Main_isGame_21 ?_
        refine x_if_eq C 31 d_Main_isGame_24 (by decide) (fun q11 => ?_) (fun q11 => ?_)
        · replace h0 := xit q11 h0
          exact x_lv C [] rfl (b_Main_isGame_31 C hr hk hd hR h0)
        · replace h0 := xif q11 h0
          refine x_iconst (v := 1) C d_Main_isGame_27 (by decide) ?_
          refine x_goto C 32 d_Main_isGame_28 (by decide) ?_
          exact x_lv C [] rfl (b_Main_isGame_32 C hr hk hd hR h0)
-- LostPlaces$Game.takeRow(I)Z
theorem d_Game_takeRow_0 : decode prog_4_method_4_code 0 = .ok (.iload_n 1, 1) := by decide +kernel
theorem d_Game_takeRow_1 : decode prog_4_method_4_code 1 = .ok (.istore_n 2, 1) := by decide +kernel
theorem d_Game_takeRow_2 : decode prog_4_method_4_code 2 = .ok (.aload_n 0, 1) := by decide +kernel
theorem d_Game_takeRow_3 : decode prog_4_method_4_code 3 = .ok (.getfield 22, 3) := by decide +kernel
theorem d_Game_takeRow_6 : decode prog_4_method_4_code 6 = .ok (.iconst 1, 1) := by decide +kernel
theorem d_Game_takeRow_7 : decode prog_4_method_4_code 7 = .ok (.isub, 1) := by decide +kernel
theorem d_Game_takeRow_8 : decode prog_4_method_4_code 8 = .ok (.istore_n 3, 1) := by decide +kernel
theorem d_Game_takeRow_9 : decode prog_4_method_4_code 9 = .ok (.iload_n 3, 1) := by decide +kernel
theorem d_Game_takeRow_10 : decode prog_4_method_4_code 10 = .ok (.ifCond .lt 45, 3) := by decide +kernel
theorem d_Game_takeRow_13 : decode prog_4_method_4_code 13 = .ok (.aload_n 0, 1) := by decide +kernel
theorem d_Game_takeRow_14 : decode prog_4_method_4_code 14 = .ok (.getfield 26, 3) := by decide +kernel
theorem d_Game_takeRow_17 : decode prog_4_method_4_code 17 = .ok (.iload_n 3, 1) := by decide +kernel
theorem d_Game_takeRow_18 : decode prog_4_method_4_code 18 = .ok (.iload_n 2, 1) := by decide +kernel
theorem d_Game_takeRow_19 : decode prog_4_method_4_code 19 = .ok (.bipush 10, 2) := by decide +kernel
theorem d_Game_takeRow_21 : decode prog_4_method_4_code 21 = .ok (.irem, 1) := by decide +kernel
theorem d_Game_takeRow_22 : decode prog_4_method_4_code 22 = .ok (.iastore, 1) := by decide +kernel
theorem d_Game_takeRow_23 : decode prog_4_method_4_code 23 = .ok (.aload_n 0, 1) := by decide +kernel
theorem d_Game_takeRow_24 : decode prog_4_method_4_code 24 = .ok (.getfield 26, 3) := by decide +kernel
theorem d_Game_takeRow_27 : decode prog_4_method_4_code 27 = .ok (.iload_n 3, 1) := by decide +kernel
theorem d_Game_takeRow_28 : decode prog_4_method_4_code 28 = .ok (.iaload, 1) := by decide +kernel
theorem d_Game_takeRow_29 : decode prog_4_method_4_code 29 = .ok (.ifCond .lt 13, 3) := by decide +kernel
theorem d_Game_takeRow_32 : decode prog_4_method_4_code 32 = .ok (.aload_n 0, 1) := by decide +kernel
theorem d_Game_takeRow_33 : decode prog_4_method_4_code 33 = .ok (.getfield 26, 3) := by decide +kernel
theorem d_Game_takeRow_36 : decode prog_4_method_4_code 36 = .ok (.iload_n 3, 1) := by decide +kernel
theorem d_Game_takeRow_37 : decode prog_4_method_4_code 37 = .ok (.iaload, 1) := by decide +kernel
theorem d_Game_takeRow_38 : decode prog_4_method_4_code 38 = .ok (.iconst 4, 1) := by decide +kernel
theorem d_Game_takeRow_39 : decode prog_4_method_4_code 39 = .ok (.if_icmp .le 5, 3) := by decide +kernel
theorem d_Game_takeRow_42 : decode prog_4_method_4_code 42 = .ok (.iconst 0, 1) := by decide +kernel
theorem d_Game_takeRow_43 : decode prog_4_method_4_code 43 = .ok (.ireturn, 1) := by decide +kernel
theorem d_Game_takeRow_44 : decode prog_4_method_4_code 44 = .ok (.iload_n 2, 1) := by decide +kernel
theorem d_Game_takeRow_45 : decode prog_4_method_4_code 45 = .ok (.bipush 10, 2) := by decide +kernel
theorem d_Game_takeRow_47 : decode prog_4_method_4_code 47 = .ok (.idiv, 1) := by decide +kernel
theorem d_Game_takeRow_48 : decode prog_4_method_4_code 48 = .ok (.istore_n 2, 1) := by decide +kernel
theorem d_Game_takeRow_49 : decode prog_4_method_4_code 49 = .ok (.iinc 3 (-1), 3) := by decide +kernel
theorem d_Game_takeRow_52 : decode prog_4_method_4_code 52 = .ok (.goto (-43), 3) := by decide +kernel
theorem d_Game_takeRow_55 : decode prog_4_method_4_code 55 = .ok (.iload_n 2, 1) := by decide +kernel
theorem d_Game_takeRow_56 : decode prog_4_method_4_code 56 = .ok (.ifCond .ne 7, 3) := by decide +kernel
theorem d_Game_takeRow_59 : decode prog_4_method_4_code 59 = .ok (.iconst 1, 1) := by decide +kernel
theorem d_Game_takeRow_60 : decode prog_4_method_4_code 60 = .ok (.goto 4, 3) := by decide +kernel
theorem d_Game_takeRow_63 : decode prog_4_method_4_code 63 = .ok (.iconst 0, 1) := by decide +kernel
theorem d_Game_takeRow_64 : decode prog_4_method_4_code 64 = .ok (.ireturn, 1) := by decide +kernel
def s_Game_takeRow_64 (p0 : Int32) (z0 : Int32) (σ : LH) : Option (Int32 × LH) :=
  if zb z0 then (
  some (z0, σ)) else none
theorem b_Game_takeRow_64 {G : XG} {l : Launch} {p : Program} {e : Env} {R : Room} {s : State} {m : MethodId} {args : Array Value} {below : List Frame} {meth : Method} {c : Code} (C : XC G 1 570 p s m args c prog_4_method_4_code 4 R_Game) (hr : meth.sig.returnType = (some .boolean)) (hk : meth.locks = false) {d : Nat} (hd : 1 ≤ d + 1) (hR : xroom R (d + 1)) {p0 : Int32} {σ' : LH} {r : Int32} {z0 : Int32} {σ : LH} (h0 : s_Game_takeRow_64 p0 z0 σ = some (r, σ')) : XJ G 1 570 p l e R s m args below meth c 4 (XQ G 1 570 below args s (some (.int r)) σ') 0 0 64 [] [.int z0] σ := by
  replace h0 := (show _ = _ from h0)
  unfold s_Game_takeRow_64 at h0
  obtain ⟨g4, h0⟩ := xgo h0
  exact x_zret C hr hk g4 h0 d_Game_takeRow_64
def s_Game_takeRow_42 (p0 : Int32) (σ : LH) : Option (Int32 × LH) :=
  some (0, σ)
theorem b_Game_takeRow_42 {G : XG} {l : Launch} {p : Program} {e : Env} {R : Room} {s : State} {m : MethodId} {args : Array Value} {below : List Frame} {meth : Method} {c : Code} (C : XC G 1 570 p s m args c prog_4_method_4_code 4 R_Game) (hr : meth.sig.returnType = (some .boolean)) (hk : meth.locks = false) {d : Nat} (hd : 1 ≤ d + 1) (hR : xroom R (d + 1)) {p0 : Int32} {σ' : LH} {r : Int32} {σ : LH} (h0 : s_Game_takeRow_42 p0 σ = some (r, σ')) : XJ G 1 570 p l e R s m args below meth c 4 (XQ G 1 570 below args s (some (.int r)) σ') 0 0 42 [] [] σ := by
  replace h0 := (show _ = _ from h0)
  unfold s_Game_takeRow_42 at h0
  refine x_iconst (v := 0) C d_Game_takeRow_42 (by decide) ?_
  exact x_zret C hr hk (by decide) h0 d_Game_takeRow_43
def s_Game_takeRow_9_b (p0 : Int32) (rec9 : Int32 → Int32 → LH → Option (Int32 × LH)) (y2 : Int32) (y3 : Int32) (σ : LH) : Option (Int32 × LH) :=
  if y3 < 0 then (
   if y2 = 0 then (
    s_Game_takeRow_64 p0 1 σ)
   else (
    s_Game_takeRow_64 p0 0 σ))
  else (
   if ib y3 4 then (
   xl ((stI σ 79 (Int32.toNatClampNeg y3) (y2 - y2 / 10 * 10)) : LH) fun σ6 =>
   if ib y3 4 then (
   if (σ6.1 79 (Int32.toNatClampNeg y3)) < 0 then (
    s_Game_takeRow_42 p0 σ6)
   else (
    if ib y3 4 then (
    if (σ6.1 79 (Int32.toNatClampNeg y3)) ≤ 4 then (
     xl (((y2 / 10)) : Int32) fun x11 =>
     xl ((y3 + (-1)) : Int32) fun x12 =>
     rec9 x11 x12 σ6)
    else (
     s_Game_takeRow_42 p0 σ6)) else none)) else none) else none)
def s_Game_takeRow_9 (p0 : Int32) : Nat → Int32 → Int32 → LH → Option (Int32 × LH)
  | 0, _, _, _ => none
  | n + 1, y2, y3, σ => s_Game_takeRow_9_b p0 (s_Game_takeRow_9 p0 n) y2 y3 σ
theorem bb_Game_takeRow_9 {G : XG} {l : Launch} {p : Program} {e : Env} {R : Room} {s : State} {m : MethodId} {args : Array Value} {below : List Frame} {meth : Method} {c : Code} (C : XC G 1 570 p s m args c prog_4_method_4_code 4 R_Game) (hr : meth.sig.returnType = (some .boolean)) (hk : meth.locks = false) {d : Nat} (hd : 1 ≤ d + 1) (hR : xroom R (d + 1)) {p0 : Int32} {rec9 : Int32 → Int32 → LH → Option (Int32 × LH)} {σ' : LH} {r : Int32} (hrec9 : ∀ (y2 : Int32) (y3 : Int32) (σ : LH), rec9 y2 y3 σ = some (r, σ') → XJ G 1 570 p l e R s m args below meth c 4 (XQ G 1 570 below args s (some (.int r)) σ') 0 0 9 [(0, .ref (G.2.2.1 + 68)), (2, .int y2), (3, .int y3)] [] σ) {y2 : Int32} {y3 : Int32} {σ : LH} (h0 : s_Game_takeRow_9_b p0 rec9 y2 y3 σ = some (r, σ')) : XJ G 1 570 p l e R s m args below meth c 4 (XQ G 1 570 below args s (some (.int r)) σ') 0 0 9 [(0, .ref (G.2.2.1 + 68)), (2, .int y2), (3, .int y3)] [] σ := by
  replace h0 := (show _ = _ from h0)
  unfold s_Game_takeRow_9_b at h0
  refine x_iload_n C d_Game_takeRow_9 2 rfl ?_
  refine x_if_lt C 55 d_Game_takeRow_10 (by decide) (fun q2 => ?_) (fun q2 => ?_)
  · replace h0 := xit q2 h0
    refine x_iload_n C d_Game_takeRow_55 1 rfl ?_
    refine x_if_ne C 63 d_Game_takeRow_56 (by decide) (fun q3 => ?_) (fun q3 => ?_)
    · replace h0 := xif q3 h0
      refine x_iconst (v := 0) C d_Game_takeRow_63 (by decide) ?_
      exact x_lv C [] rfl (b_Game_takeRow_64 C hr hk hd hR h0)
    · replace h0 := xit q3 h0
      refine x_iconst (v := 1) C d_Game_takeRow_59 (by decide) ?_
      refine x_goto C 64 d_Game_takeRow_60 (by decide) ?_
      exact x_lv C [] rfl (b_Game_takeRow_64 C hr hk hd hR h0)
  · replace h0 := xif q2 h0
    refine x_aload_n C d_Game_takeRow_13 0 rfl ?_
    refine x_getA (y := 79) C fg_Game_26 k_68 rfl d_Game_takeRow_14 ?_
    refine x_iload_n C d_Game_takeRow_17 2 rfl ?_
    refine x_iload_n C d_Game_takeRow_18 1 rfl ?_
    refine x_bipush (v := 10) C d_Game_takeRow_19 (by decide) ?_
    refine x_irem C d_Game_takeRow_21 (by decide) ?_
    obtain ⟨g5, h0⟩ := xgo h0
    refine x_iast C k_79 (ib_in g5) d_Game_takeRow_22 ?_
    obtain ⟨σ6, eσ6, h0⟩ := xlet h0
    refine x_sig C eσ6 ?_
    refine x_aload_n C d_Game_takeRow_23 0 rfl ?_
    refine x_getA (y := 79) C fg_Game_26 k_68 rfl d_Game_takeRow_24 ?_
    refine x_iload_n C d_Game_takeRow_27 2 rfl ?_
    obtain ⟨g7, h0⟩ := xgo h0
    refine x_iald C k_79 (ib_in g7) d_Game_takeRow_28 ?_
    refine x_if_lt C 42 d_Game_takeRow_29 (by decide) (fun q8 => ?_) (fun q8 => ?_)
    · replace h0 := xit q8 h0
      exact x_lv C [] rfl (b_Game_takeRow_42 C hr hk hd hR h0)
    · replace h0 := xif q8 h0
      refine x_aload_n C d_Game_takeRow_32 0 rfl ?_
      refine x_getA (y := 79) C fg_Game_26 k_68 rfl d_Game_takeRow_33 ?_
      refine x_iload_n C d_Game_takeRow_36 2 rfl ?_
      obtain ⟨g9, h0⟩ := xgo h0
      refine x_iald C k_79 (ib_in g9) d_Game_takeRow_37 ?_
      refine x_iconst (v := 4) C d_Game_takeRow_38 (by decide) ?_
      refine x_icmp_le C 44 d_Game_takeRow_39 (by decide) (fun q10 => ?_) (fun q10 => ?_)
      · replace h0 := xit q10 h0
        refine x_iload_n C d_Game_takeRow_44 1 rfl ?_
        refine x_bipush (v := 10) C d_Game_takeRow_45 (by decide) ?_
        refine x_idiv C d_Game_takeRow_47 (by decide) ?_
        obtain ⟨x11, ex11, h0⟩ := xlet h0
        refine x_name C ex11 ?_
        refine x_istore_n (lv' := [(2, .int x11), (0, .ref (G.2.2.1 + 68)), (3, .int y3)]) C d_Game_takeRow_48 rfl (by decide) rfl ?_
        obtain ⟨x12, ex12, h0⟩ := xlet h0
        refine x_iinc (lv' := [(3, .int x12), (2, .int x11), (0, .ref (G.2.2.1 + 68))]) C d_Game_takeRow_49 2 rfl ex12 (by decide) rfl ?_
        refine x_goto C 9 d_Game_takeRow_52 (by decide) ?_
        exact x_lv C [2, 1, 0] rfl (hrec9 _ _ _ h0)
      · replace h0 := xif q10 h0
        exact x_lv C [] rfl (b_Game_takeRow_42 C hr hk hd hR h0)
theorem b_Game_takeRow_9 {G : XG} {l : Launch} {p : Program} {e : Env} {R : Room} {s : State} {m : MethodId} {args : Array Value} {below : List Frame} {meth : Method} {c : Code} (C : XC G 1 570 p s m args c prog_4_method_4_code 4 R_Game) (hr : meth.sig.returnType = (some .boolean)) (hk : meth.locks = false) {d : Nat} (hd : 1 ≤ d + 1) (hR : xroom R (d + 1)) {p0 : Int32} {σ' : LH} {r : Int32} : ∀ (n : Nat) (y2 : Int32) (y3 : Int32) (σ : LH), s_Game_takeRow_9 p0 n y2 y3 σ = some (r, σ') → XJ G 1 570 p l e R s m args below meth c 4 (XQ G 1 570 below args s (some (.int r)) σ') 0 0 9 [(0, .ref (G.2.2.1 + 68)), (2, .int y2), (3, .int y3)] [] σ := by
  intro n
  induction n with
  | zero => intro y2 y3 σ h0; cases h0
  | succ n ih => intro y2 y3 σ h0; exact bb_Game_takeRow_9 C hr hk hd hR ih h0
def s_Game_takeRow (p0 : Int32) (σ : LH) : Option (Int32 × LH) :=
  xl ((((σ.1 68 5) - 1)) : Int32) fun x1 =>
  s_Game_takeRow_9 p0 FUEL p0 x1 σ
theorem c_Game_takeRow {G : XG} {l : Launch} {d : Nat} (hd : 1 ≤ d) {p0 : Int32} {σ σ' : LH} {r : Int32} (h0 : s_Game_takeRow p0 σ = some (r, σ')) : xM G 1 570 l y_Game_takeRow prog_4_method_4_code 4 (some .boolean) d [.ref (G.2.2.1 + 68), .int p0] σ (some (.int r)) σ' := by
  obtain ⟨d, rfl⟩ : ∃ q, d = q + 1 := ⟨d - 1, by omega⟩
  refine x_met R_Game rfl (by decide +kernel) (Nat.le_of_ble_eq_true rfl) fun p e s m below meth c C hr hk hR => ?_
  refine x_lv (lv' := [(0, .ref (G.2.2.1 + 68)), (1, .int p0)]) C [0, 1] rfl ?_
  generalize xrm (d + 1) = R at hR ⊢
  unfold s_Game_takeRow at h0
  refine x_iload_n C d_Game_takeRow_0 1 rfl ?_
  refine x_istore_n (lv' := [(2, .int p0), (0, .ref (G.2.2.1 + 68)), (1, .int p0)]) C d_Game_takeRow_1 rfl (by decide) rfl ?_
  refine x_aload_n C d_Game_takeRow_2 1 rfl ?_
  refine x_getI (y := 0) C fg_Game_22 k_68 rfl d_Game_takeRow_3 ?_
  refine x_iconst (v := 1) C d_Game_takeRow_6 (by decide) ?_
  refine x_isub C d_Game_takeRow_7 ?_
  obtain ⟨x1, ex1, h0⟩ := xlet h0
  refine x_name C ex1 ?_
  refine x_istore_n (lv' := [(3, .int x1), (2, .int p0), (0, .ref (G.2.2.1 + 68)), (1, .int p0)]) C d_Game_takeRow_8 rfl (by decide) rfl ?_
  exact x_lv C [2, 1, 0] rfl (b_Game_takeRow_9 C hr hk hd hR FUEL _ _ _ h0)
-- LostPlaces$Game.placeOf(I)I
theorem d_Game_placeOf_0 : decode prog_4_method_3_code 0 = .ok (.iconst 0, 1) := by decide +kernel
theorem d_Game_placeOf_1 : decode prog_4_method_3_code 1 = .ok (.istore_n 2, 1) := by decide +kernel
theorem d_Game_placeOf_2 : decode prog_4_method_3_code 2 = .ok (.iload_n 2, 1) := by decide +kernel
theorem d_Game_placeOf_3 : decode prog_4_method_3_code 3 = .ok (.aload_n 0, 1) := by decide +kernel
theorem d_Game_placeOf_4 : decode prog_4_method_3_code 4 = .ok (.getfield 22, 3) := by decide +kernel
theorem d_Game_placeOf_7 : decode prog_4_method_3_code 7 = .ok (.if_icmp .ge 26, 3) := by decide +kernel
theorem d_Game_placeOf_10 : decode prog_4_method_3_code 10 = .ok (.iload_n 2, 1) := by decide +kernel
theorem d_Game_placeOf_11 : decode prog_4_method_3_code 11 = .ok (.iconst 4, 1) := by decide +kernel
theorem d_Game_placeOf_12 : decode prog_4_method_3_code 12 = .ok (.if_icmp .ge 21, 3) := by decide +kernel
theorem d_Game_placeOf_15 : decode prog_4_method_3_code 15 = .ok (.aload_n 0, 1) := by decide +kernel
theorem d_Game_placeOf_16 : decode prog_4_method_3_code 16 = .ok (.getfield 18, 3) := by decide +kernel
theorem d_Game_placeOf_19 : decode prog_4_method_3_code 19 = .ok (.iload_n 2, 1) := by decide +kernel
theorem d_Game_placeOf_20 : decode prog_4_method_3_code 20 = .ok (.iaload, 1) := by decide +kernel
theorem d_Game_placeOf_21 : decode prog_4_method_3_code 21 = .ok (.iload_n 1, 1) := by decide +kernel
theorem d_Game_placeOf_22 : decode prog_4_method_3_code 22 = .ok (.if_icmp .ne 5, 3) := by decide +kernel
theorem d_Game_placeOf_25 : decode prog_4_method_3_code 25 = .ok (.iload_n 2, 1) := by decide +kernel
theorem d_Game_placeOf_26 : decode prog_4_method_3_code 26 = .ok (.ireturn, 1) := by decide +kernel
theorem d_Game_placeOf_27 : decode prog_4_method_3_code 27 = .ok (.iinc 2 1, 3) := by decide +kernel
theorem d_Game_placeOf_30 : decode prog_4_method_3_code 30 = .ok (.goto (-28), 3) := by decide +kernel
theorem d_Game_placeOf_33 : decode prog_4_method_3_code 33 = .ok (.iconst (-1), 1) := by decide +kernel
theorem d_Game_placeOf_34 : decode prog_4_method_3_code 34 = .ok (.ireturn, 1) := by decide +kernel
def s_Game_placeOf_33 (p0 : Int32) (σ : LH) : Option (Int32 × LH) :=
  some ((-1), σ)
theorem b_Game_placeOf_33 {G : XG} {l : Launch} {p : Program} {e : Env} {R : Room} {s : State} {m : MethodId} {args : Array Value} {below : List Frame} {meth : Method} {c : Code} (C : XC G 1 570 p s m args c prog_4_method_3_code 3 R_Game) (hr : meth.sig.returnType = (some .int)) (hk : meth.locks = false) {d : Nat} (hd : 1 ≤ d + 1) (hR : xroom R (d + 1)) {p0 : Int32} {σ' : LH} {r : Int32} {σ : LH} (h0 : s_Game_placeOf_33 p0 σ = some (r, σ')) : XJ G 1 570 p l e R s m args below meth c 3 (XQ G 1 570 below args s (some (.int r)) σ') 0 0 33 [] [] σ := by
  replace h0 := (show _ = _ from h0)
  unfold s_Game_placeOf_33 at h0
  refine x_iconst (v := (-1)) C d_Game_placeOf_33 (by decide) ?_
  exact x_iret C hr hk h0 d_Game_placeOf_34
def s_Game_placeOf_2_b (p0 : Int32) (rec2 : Int32 → LH → Option (Int32 × LH)) (y2 : Int32) (σ : LH) : Option (Int32 × LH) :=
  if (σ.1 68 5) ≤ y2 then (
   s_Game_placeOf_33 p0 σ)
  else (
   if 4 ≤ y2 then (
    s_Game_placeOf_33 p0 σ)
   else (
    if ib y2 4 then (
    if (σ.1 78 (Int32.toNatClampNeg y2)) = p0 then (
     some (y2, σ))
    else (
     xl ((y2 + 1) : Int32) fun x5 =>
     rec2 x5 σ)) else none))
def s_Game_placeOf_2 (p0 : Int32) : Nat → Int32 → LH → Option (Int32 × LH)
  | 0, _, _ => none
  | n + 1, y2, σ => s_Game_placeOf_2_b p0 (s_Game_placeOf_2 p0 n) y2 σ
theorem bb_Game_placeOf_2 {G : XG} {l : Launch} {p : Program} {e : Env} {R : Room} {s : State} {m : MethodId} {args : Array Value} {below : List Frame} {meth : Method} {c : Code} (C : XC G 1 570 p s m args c prog_4_method_3_code 3 R_Game) (hr : meth.sig.returnType = (some .int)) (hk : meth.locks = false) {d : Nat} (hd : 1 ≤ d + 1) (hR : xroom R (d + 1)) {p0 : Int32} {rec2 : Int32 → LH → Option (Int32 × LH)} {σ' : LH} {r : Int32} (hrec2 : ∀ (y2 : Int32) (σ : LH), rec2 y2 σ = some (r, σ') → XJ G 1 570 p l e R s m args below meth c 3 (XQ G 1 570 below args s (some (.int r)) σ') 0 0 2 [(0, .ref (G.2.2.1 + 68)), (1, .int p0), (2, .int y2)] [] σ) {y2 : Int32} {σ : LH} (h0 : s_Game_placeOf_2_b p0 rec2 y2 σ = some (r, σ')) : XJ G 1 570 p l e R s m args below meth c 3 (XQ G 1 570 below args s (some (.int r)) σ') 0 0 2 [(0, .ref (G.2.2.1 + 68)), (1, .int p0), (2, .int y2)] [] σ := by
  replace h0 := (show _ = _ from h0)
  unfold s_Game_placeOf_2_b at h0
  refine x_iload_n C d_Game_placeOf_2 2 rfl ?_
  refine x_aload_n C d_Game_placeOf_3 0 rfl ?_
  refine x_getI (y := 0) C fg_Game_22 k_68 rfl d_Game_placeOf_4 ?_
  refine x_icmp_ge C 33 d_Game_placeOf_7 (by decide) (fun q1 => ?_) (fun q1 => ?_)
  · replace h0 := xit q1 h0
    exact x_lv C [] rfl (b_Game_placeOf_33 C hr hk hd hR h0)
  · replace h0 := xif q1 h0
    refine x_iload_n C d_Game_placeOf_10 2 rfl ?_
    refine x_iconst (v := 4) C d_Game_placeOf_11 (by decide) ?_
    refine x_icmp_ge C 33 d_Game_placeOf_12 (by decide) (fun q2 => ?_) (fun q2 => ?_)
    · replace h0 := xit q2 h0
      exact x_lv C [] rfl (b_Game_placeOf_33 C hr hk hd hR h0)
    · replace h0 := xif q2 h0
      refine x_aload_n C d_Game_placeOf_15 0 rfl ?_
      refine x_getA (y := 78) C fg_Game_18 k_68 rfl d_Game_placeOf_16 ?_
      refine x_iload_n C d_Game_placeOf_19 2 rfl ?_
      obtain ⟨g3, h0⟩ := xgo h0
      refine x_iald C k_78 (ib_in g3) d_Game_placeOf_20 ?_
      refine x_iload_n C d_Game_placeOf_21 1 rfl ?_
      refine x_icmp_ne C 27 d_Game_placeOf_22 (by decide) (fun q4 => ?_) (fun q4 => ?_)
      · replace h0 := xif q4 h0
        obtain ⟨x5, ex5, h0⟩ := xlet h0
        refine x_iinc (lv' := [(2, .int x5), (0, .ref (G.2.2.1 + 68)), (1, .int p0)]) C d_Game_placeOf_27 2 rfl ex5 (by decide) rfl ?_
        refine x_goto C 2 d_Game_placeOf_30 (by decide) ?_
        exact x_lv C [1, 2, 0] rfl (hrec2 _ _ h0)
      · replace h0 := xit q4 h0
        refine x_iload_n C d_Game_placeOf_25 2 rfl ?_
        exact x_iret C hr hk h0 d_Game_placeOf_26
theorem b_Game_placeOf_2 {G : XG} {l : Launch} {p : Program} {e : Env} {R : Room} {s : State} {m : MethodId} {args : Array Value} {below : List Frame} {meth : Method} {c : Code} (C : XC G 1 570 p s m args c prog_4_method_3_code 3 R_Game) (hr : meth.sig.returnType = (some .int)) (hk : meth.locks = false) {d : Nat} (hd : 1 ≤ d + 1) (hR : xroom R (d + 1)) {p0 : Int32} {σ' : LH} {r : Int32} : ∀ (n : Nat) (y2 : Int32) (σ : LH), s_Game_placeOf_2 p0 n y2 σ = some (r, σ') → XJ G 1 570 p l e R s m args below meth c 3 (XQ G 1 570 below args s (some (.int r)) σ') 0 0 2 [(0, .ref (G.2.2.1 + 68)), (1, .int p0), (2, .int y2)] [] σ := by
  intro n
  induction n with
  | zero => intro y2 σ h0; cases h0
  | succ n ih => intro y2 σ h0; exact bb_Game_placeOf_2 C hr hk hd hR ih h0
def s_Game_placeOf (p0 : Int32) (σ : LH) : Option (Int32 × LH) :=
  s_Game_placeOf_2 p0 FUEL 0 σ
theorem c_Game_placeOf {G : XG} {l : Launch} {d : Nat} (hd : 1 ≤ d) {p0 : Int32} {σ σ' : LH} {r : Int32} (h0 : s_Game_placeOf p0 σ = some (r, σ')) : xM G 1 570 l y_Game_placeOf prog_4_method_3_code 3 (some .int) d [.ref (G.2.2.1 + 68), .int p0] σ (some (.int r)) σ' := by
  obtain ⟨d, rfl⟩ : ∃ q, d = q + 1 := ⟨d - 1, by omega⟩
  refine x_met R_Game rfl (by decide +kernel) (Nat.le_of_ble_eq_true rfl) fun p e s m below meth c C hr hk hR => ?_
  refine x_lv (lv' := [(0, .ref (G.2.2.1 + 68)), (1, .int p0)]) C [0, 1] rfl ?_
  generalize xrm (d + 1) = R at hR ⊢
  unfold s_Game_placeOf at h0
  refine x_iconst (v := 0) C d_Game_placeOf_0 (by decide) ?_
  refine x_istore_n (lv' := [(2, .int 0), (0, .ref (G.2.2.1 + 68)), (1, .int p0)]) C d_Game_placeOf_1 rfl (by decide) rfl ?_
  exact x_lv C [1, 2, 0] rfl (b_Game_placeOf_2 C hr hk hd hR FUEL _ _ h0)
-- LostPlaces$Game.least()I
theorem d_Game_least_0 : decode prog_4_method_6_code 0 = .ok (.iconst 4, 1) := by decide +kernel
theorem d_Game_least_1 : decode prog_4_method_6_code 1 = .ok (.istore_n 1, 1) := by decide +kernel
theorem d_Game_least_2 : decode prog_4_method_6_code 2 = .ok (.iconst 0, 1) := by decide +kernel
theorem d_Game_least_3 : decode prog_4_method_6_code 3 = .ok (.istore_n 2, 1) := by decide +kernel
theorem d_Game_least_4 : decode prog_4_method_6_code 4 = .ok (.iload_n 2, 1) := by decide +kernel
theorem d_Game_least_5 : decode prog_4_method_6_code 5 = .ok (.aload_n 0, 1) := by decide +kernel
theorem d_Game_least_6 : decode prog_4_method_6_code 6 = .ok (.getfield 22, 3) := by decide +kernel
theorem d_Game_least_9 : decode prog_4_method_6_code 9 = .ok (.if_icmp .ge 26, 3) := by decide +kernel
theorem d_Game_least_12 : decode prog_4_method_6_code 12 = .ok (.aload_n 0, 1) := by decide +kernel
theorem d_Game_least_13 : decode prog_4_method_6_code 13 = .ok (.getfield 26, 3) := by decide +kernel
theorem d_Game_least_16 : decode prog_4_method_6_code 16 = .ok (.iload_n 2, 1) := by decide +kernel
theorem d_Game_least_17 : decode prog_4_method_6_code 17 = .ok (.iaload, 1) := by decide +kernel
theorem d_Game_least_18 : decode prog_4_method_6_code 18 = .ok (.iload_n 1, 1) := by decide +kernel
theorem d_Game_least_19 : decode prog_4_method_6_code 19 = .ok (.if_icmp .ge 10, 3) := by decide +kernel
theorem d_Game_least_22 : decode prog_4_method_6_code 22 = .ok (.aload_n 0, 1) := by decide +kernel
theorem d_Game_least_23 : decode prog_4_method_6_code 23 = .ok (.getfield 26, 3) := by decide +kernel
theorem d_Game_least_26 : decode prog_4_method_6_code 26 = .ok (.iload_n 2, 1) := by decide +kernel
theorem d_Game_least_27 : decode prog_4_method_6_code 27 = .ok (.iaload, 1) := by decide +kernel
theorem d_Game_least_28 : decode prog_4_method_6_code 28 = .ok (.istore_n 1, 1) := by decide +kernel
theorem d_Game_least_29 : decode prog_4_method_6_code 29 = .ok (.iinc 2 1, 3) := by decide +kernel
theorem d_Game_least_32 : decode prog_4_method_6_code 32 = .ok (.goto (-28), 3) := by decide +kernel
theorem d_Game_least_35 : decode prog_4_method_6_code 35 = .ok (.iload_n 1, 1) := by decide +kernel
theorem d_Game_least_36 : decode prog_4_method_6_code 36 = .ok (.ireturn, 1) := by decide +kernel
def s_Game_least_29 (rec4 : Int32 → Int32 → LH → Option (Int32 × LH)) (y1 : Int32) (y2 : Int32) (σ : LH) : Option (Int32 × LH) :=
  xl ((y2 + 1) : Int32) fun x4 =>
  rec4 y1 x4 σ
theorem b_Game_least_29 {G : XG} {l : Launch} {p : Program} {e : Env} {R : Room} {s : State} {m : MethodId} {args : Array Value} {below : List Frame} {meth : Method} {c : Code} (C : XC G 1 570 p s m args c prog_4_method_6_code 3 R_Game) (hr : meth.sig.returnType = (some .int)) (hk : meth.locks = false) {d : Nat} (hd : 1 ≤ d + 1) (hR : xroom R (d + 1)) {rec4 : Int32 → Int32 → LH → Option (Int32 × LH)} {σ' : LH} {r : Int32} (hrec4 : ∀ (y1 : Int32) (y2 : Int32) (σ : LH), rec4 y1 y2 σ = some (r, σ') → XJ G 1 570 p l e R s m args below meth c 3 (XQ G 1 570 below args s (some (.int r)) σ') 0 0 4 [(0, .ref (G.2.2.1 + 68)), (1, .int y1), (2, .int y2)] [] σ) {y1 : Int32} {y2 : Int32} {σ : LH} (h0 : s_Game_least_29 rec4 y1 y2 σ = some (r, σ')) : XJ G 1 570 p l e R s m args below meth c 3 (XQ G 1 570 below args s (some (.int r)) σ') 0 0 29 [(0, .ref (G.2.2.1 + 68)), (1, .int y1), (2, .int y2)] [] σ := by
  replace h0 := (show _ = _ from h0)
  unfold s_Game_least_29 at h0
  obtain ⟨x4, ex4, h0⟩ := xlet h0
  refine x_iinc (lv' := [(2, .int x4), (0, .ref (G.2.2.1 + 68)), (1, .int y1)]) C d_Game_least_29 2 rfl ex4 (by decide) rfl ?_
  refine x_goto C 4 d_Game_least_32 (by decide) ?_
  exact x_lv C [1, 2, 0] rfl (hrec4 _ _ _ h0)
def s_Game_least_4_b (rec4 : Int32 → Int32 → LH → Option (Int32 × LH)) (y1 : Int32) (y2 : Int32) (σ : LH) : Option (Int32 × LH) :=
  if (σ.1 68 5) ≤ y2 then (
   some (y1, σ))
  else (
   if ib y2 4 then (
   if y1 ≤ (σ.1 79 (Int32.toNatClampNeg y2)) then (
    s_Game_least_29 rec4 y1 y2 σ)
   else (
    if ib y2 4 then (
    xl (((σ.1 79 (Int32.toNatClampNeg y2))) : Int32) fun x6 =>
    s_Game_least_29 rec4 x6 y2 σ) else none)) else none)
def s_Game_least_4 : Nat → Int32 → Int32 → LH → Option (Int32 × LH)
  | 0, _, _, _ => none
  | n + 1, y1, y2, σ => s_Game_least_4_b (s_Game_least_4 n) y1 y2 σ
theorem bb_Game_least_4 {G : XG} {l : Launch} {p : Program} {e : Env} {R : Room} {s : State} {m : MethodId} {args : Array Value} {below : List Frame} {meth : Method} {c : Code} (C : XC G 1 570 p s m args c prog_4_method_6_code 3 R_Game) (hr : meth.sig.returnType = (some .int)) (hk : meth.locks = false) {d : Nat} (hd : 1 ≤ d + 1) (hR : xroom R (d + 1)) {rec4 : Int32 → Int32 → LH → Option (Int32 × LH)} {σ' : LH} {r : Int32} (hrec4 : ∀ (y1 : Int32) (y2 : Int32) (σ : LH), rec4 y1 y2 σ = some (r, σ') → XJ G 1 570 p l e R s m args below meth c 3 (XQ G 1 570 below args s (some (.int r)) σ') 0 0 4 [(0, .ref (G.2.2.1 + 68)), (1, .int y1), (2, .int y2)] [] σ) {y1 : Int32} {y2 : Int32} {σ : LH} (h0 : s_Game_least_4_b rec4 y1 y2 σ = some (r, σ')) : XJ G 1 570 p l e R s m args below meth c 3 (XQ G 1 570 below args s (some (.int r)) σ') 0 0 4 [(0, .ref (G.2.2.1 + 68)), (1, .int y1), (2, .int y2)] [] σ := by
  replace h0 := (show _ = _ from h0)
  unfold s_Game_least_4_b at h0
  refine x_iload_n C d_Game_least_4 2 rfl ?_
  refine x_aload_n C d_Game_least_5 0 rfl ?_
  refine x_getI (y := 0) C fg_Game_22 k_68 rfl d_Game_least_6 ?_
  refine x_icmp_ge C 35 d_Game_least_9 (by decide) (fun q1 => ?_) (fun q1 => ?_)
  · replace h0 := xit q1 h0
    refine x_iload_n C d_Game_least_35 1 rfl ?_
    exact x_iret C hr hk h0 d_Game_least_36
  · replace h0 := xif q1 h0
    refine x_aload_n C d_Game_least_12 0 rfl ?_
    refine x_getA (y := 79) C fg_Game_26 k_68 rfl d_Game_least_13 ?_
    refine x_iload_n C d_Game_least_16 2 rfl ?_
    obtain ⟨g2, h0⟩ := xgo h0
    refine x_iald C k_79 (ib_in g2) d_Game_least_17 ?_
    refine x_iload_n C d_Game_least_18 1 rfl ?_
    refine x_icmp_ge C 29 d_Game_least_19 (by decide) (fun q3 => ?_) (fun q3 => ?_)
    · replace h0 := xit q3 h0
      exact x_lv C [0, 1, 2] rfl (b_Game_least_29 C hr hk hd hR hrec4 h0)
    · replace h0 := xif q3 h0
      refine x_aload_n C d_Game_least_22 0 rfl ?_
      refine x_getA (y := 79) C fg_Game_26 k_68 rfl d_Game_least_23 ?_
      refine x_iload_n C d_Game_least_26 2 rfl ?_
      obtain ⟨g5, h0⟩ := xgo h0
      refine x_iald C k_79 (ib_in g5) d_Game_least_27 ?_
      obtain ⟨x6, ex6, h0⟩ := xlet h0
      refine x_name C ex6 ?_
      refine x_istore_n (lv' := [(1, .int x6), (0, .ref (G.2.2.1 + 68)), (2, .int y2)]) C d_Game_least_28 rfl (by decide) rfl ?_
      exact x_lv C [1, 0, 2] rfl (b_Game_least_29 C hr hk hd hR hrec4 h0)
theorem b_Game_least_4 {G : XG} {l : Launch} {p : Program} {e : Env} {R : Room} {s : State} {m : MethodId} {args : Array Value} {below : List Frame} {meth : Method} {c : Code} (C : XC G 1 570 p s m args c prog_4_method_6_code 3 R_Game) (hr : meth.sig.returnType = (some .int)) (hk : meth.locks = false) {d : Nat} (hd : 1 ≤ d + 1) (hR : xroom R (d + 1)) {σ' : LH} {r : Int32} : ∀ (n : Nat) (y1 : Int32) (y2 : Int32) (σ : LH), s_Game_least_4 n y1 y2 σ = some (r, σ') → XJ G 1 570 p l e R s m args below meth c 3 (XQ G 1 570 below args s (some (.int r)) σ') 0 0 4 [(0, .ref (G.2.2.1 + 68)), (1, .int y1), (2, .int y2)] [] σ := by
  intro n
  induction n with
  | zero => intro y1 y2 σ h0; cases h0
  | succ n ih => intro y1 y2 σ h0; exact bb_Game_least_4 C hr hk hd hR ih h0
def s_Game_least (σ : LH) : Option (Int32 × LH) :=
  s_Game_least_4 FUEL 4 0 σ
theorem c_Game_least {G : XG} {l : Launch} {d : Nat} (hd : 1 ≤ d) {σ σ' : LH} {r : Int32} (h0 : s_Game_least σ = some (r, σ')) : xM G 1 570 l y_Game_least prog_4_method_6_code 3 (some .int) d [.ref (G.2.2.1 + 68)] σ (some (.int r)) σ' := by
  obtain ⟨d, rfl⟩ : ∃ q, d = q + 1 := ⟨d - 1, by omega⟩
  refine x_met R_Game rfl (by decide +kernel) (Nat.le_of_ble_eq_true rfl) fun p e s m below meth c C hr hk hR => ?_
  refine x_lv (lv' := [(0, .ref (G.2.2.1 + 68))]) C [0] rfl ?_
  generalize xrm (d + 1) = R at hR ⊢
  unfold s_Game_least at h0
  refine x_iconst (v := 4) C d_Game_least_0 (by decide) ?_
  refine x_istore_n (lv' := [(1, .int 4), (0, .ref (G.2.2.1 + 68))]) C d_Game_least_1 rfl (by decide) rfl ?_
  refine x_iconst (v := 0) C d_Game_least_2 (by decide) ?_
  refine x_istore_n (lv' := [(2, .int 0), (1, .int 4), (0, .ref (G.2.2.1 + 68))]) C d_Game_least_3 rfl (by decide) rfl ?_
  exact x_lv C [2, 1, 0] rfl (b_Game_least_4 C hr hk hd hR FUEL _ _ _ h0)
-- LostPlaces$Game.outcome()I
theorem d_Game_outcome_0 : decode prog_4_method_7_code 0 = .ok (.aload_n 0, 1) := by decide +kernel
theorem d_Game_outcome_1 : decode prog_4_method_7_code 1 = .ok (.invokevirtual 51, 3) := by decide +kernel
theorem d_Game_outcome_4 : decode prog_4_method_7_code 4 = .ok (.istore_n 1, 1) := by decide +kernel
theorem d_Game_outcome_5 : decode prog_4_method_7_code 5 = .ok (.iload_n 1, 1) := by decide +kernel
theorem d_Game_outcome_6 : decode prog_4_method_7_code 6 = .ok (.iconst 4, 1) := by decide +kernel
theorem d_Game_outcome_7 : decode prog_4_method_7_code 7 = .ok (.if_icmp .lt 6, 3) := by decide +kernel
theorem d_Game_outcome_10 : decode prog_4_method_7_code 10 = .ok (.bipush 16, 2) := by decide +kernel
theorem d_Game_outcome_12 : decode prog_4_method_7_code 12 = .ok (.ireturn, 1) := by decide +kernel
theorem d_Game_outcome_13 : decode prog_4_method_7_code 13 = .ok (.iconst (-1), 1) := by decide +kernel
theorem d_Game_outcome_14 : decode prog_4_method_7_code 14 = .ok (.istore_n 2, 1) := by decide +kernel
theorem d_Game_outcome_15 : decode prog_4_method_7_code 15 = .ok (.iconst 0, 1) := by decide +kernel
theorem d_Game_outcome_16 : decode prog_4_method_7_code 16 = .ok (.istore_n 3, 1) := by decide +kernel
theorem d_Game_outcome_17 : decode prog_4_method_7_code 17 = .ok (.iload_n 3, 1) := by decide +kernel
theorem d_Game_outcome_18 : decode prog_4_method_7_code 18 = .ok (.aload_n 0, 1) := by decide +kernel
theorem d_Game_outcome_19 : decode prog_4_method_7_code 19 = .ok (.getfield 22, 3) := by decide +kernel
theorem d_Game_outcome_22 : decode prog_4_method_7_code 22 = .ok (.if_icmp .ge 60, 3) := by decide +kernel
theorem d_Game_outcome_25 : decode prog_4_method_7_code 25 = .ok (.aload_n 0, 1) := by decide +kernel
theorem d_Game_outcome_26 : decode prog_4_method_7_code 26 = .ok (.getfield 26, 3) := by decide +kernel
theorem d_Game_outcome_29 : decode prog_4_method_7_code 29 = .ok (.iload_n 3, 1) := by decide +kernel
theorem d_Game_outcome_30 : decode prog_4_method_7_code 30 = .ok (.iaload, 1) := by decide +kernel
theorem d_Game_outcome_31 : decode prog_4_method_7_code 31 = .ok (.iload_n 1, 1) := by decide +kernel
theorem d_Game_outcome_32 : decode prog_4_method_7_code 32 = .ok (.if_icmp .eq 6, 3) := by decide +kernel
theorem d_Game_outcome_35 : decode prog_4_method_7_code 35 = .ok (.goto 41, 3) := by decide +kernel
theorem d_Game_outcome_38 : decode prog_4_method_7_code 38 = .ok (.iload_n 2, 1) := by decide +kernel
theorem d_Game_outcome_39 : decode prog_4_method_7_code 39 = .ok (.iconst (-1), 1) := by decide +kernel
theorem d_Game_outcome_40 : decode prog_4_method_7_code 40 = .ok (.if_icmp .eq 34, 3) := by decide +kernel
theorem d_Game_outcome_43 : decode prog_4_method_7_code 43 = .ok (.aload_n 0, 1) := by decide +kernel
theorem d_Game_outcome_44 : decode prog_4_method_7_code 44 = .ok (.getfield 32, 3) := by decide +kernel
theorem d_Game_outcome_47 : decode prog_4_method_7_code 47 = .ok (.getfield 55, 3) := by decide +kernel
theorem d_Game_outcome_50 : decode prog_4_method_7_code 50 = .ok (.aload_n 0, 1) := by decide +kernel
theorem d_Game_outcome_51 : decode prog_4_method_7_code 51 = .ok (.getfield 18, 3) := by decide +kernel
theorem d_Game_outcome_54 : decode prog_4_method_7_code 54 = .ok (.iload_n 3, 1) := by decide +kernel
theorem d_Game_outcome_55 : decode prog_4_method_7_code 55 = .ok (.iaload, 1) := by decide +kernel
theorem d_Game_outcome_56 : decode prog_4_method_7_code 56 = .ok (.iaload, 1) := by decide +kernel
theorem d_Game_outcome_57 : decode prog_4_method_7_code 57 = .ok (.aload_n 0, 1) := by decide +kernel
theorem d_Game_outcome_58 : decode prog_4_method_7_code 58 = .ok (.getfield 32, 3) := by decide +kernel
theorem d_Game_outcome_61 : decode prog_4_method_7_code 61 = .ok (.getfield 55, 3) := by decide +kernel
theorem d_Game_outcome_64 : decode prog_4_method_7_code 64 = .ok (.aload_n 0, 1) := by decide +kernel
theorem d_Game_outcome_65 : decode prog_4_method_7_code 65 = .ok (.getfield 18, 3) := by decide +kernel
theorem d_Game_outcome_68 : decode prog_4_method_7_code 68 = .ok (.iload_n 2, 1) := by decide +kernel
theorem d_Game_outcome_69 : decode prog_4_method_7_code 69 = .ok (.iaload, 1) := by decide +kernel
theorem d_Game_outcome_70 : decode prog_4_method_7_code 70 = .ok (.iaload, 1) := by decide +kernel
theorem d_Game_outcome_71 : decode prog_4_method_7_code 71 = .ok (.if_icmp .le 5, 3) := by decide +kernel
theorem d_Game_outcome_74 : decode prog_4_method_7_code 74 = .ok (.iload_n 3, 1) := by decide +kernel
theorem d_Game_outcome_75 : decode prog_4_method_7_code 75 = .ok (.istore_n 2, 1) := by decide +kernel
theorem d_Game_outcome_76 : decode prog_4_method_7_code 76 = .ok (.iinc 3 1, 3) := by decide +kernel
theorem d_Game_outcome_79 : decode prog_4_method_7_code 79 = .ok (.goto (-62), 3) := by decide +kernel
theorem d_Game_outcome_82 : decode prog_4_method_7_code 82 = .ok (.iload_n 1, 1) := by decide +kernel
theorem d_Game_outcome_83 : decode prog_4_method_7_code 83 = .ok (.iconst 4, 1) := by decide +kernel
theorem d_Game_outcome_84 : decode prog_4_method_7_code 84 = .ok (.imul, 1) := by decide +kernel
theorem d_Game_outcome_85 : decode prog_4_method_7_code 85 = .ok (.iload_n 2, 1) := by decide +kernel
theorem d_Game_outcome_86 : decode prog_4_method_7_code 86 = .ok (.iconst (-1), 1) := by decide +kernel
theorem d_Game_outcome_87 : decode prog_4_method_7_code 87 = .ok (.if_icmp .ne 7, 3) := by decide +kernel
theorem d_Game_outcome_90 : decode prog_4_method_7_code 90 = .ok (.iconst 0, 1) := by decide +kernel
theorem d_Game_outcome_91 : decode prog_4_method_7_code 91 = .ok (.goto 4, 3) := by decide +kernel
theorem d_Game_outcome_94 : decode prog_4_method_7_code 94 = .ok (.iload_n 2, 1) := by decide +kernel
theorem d_Game_outcome_95 : decode prog_4_method_7_code 95 = .ok (.iadd, 1) := by decide +kernel
theorem d_Game_outcome_96 : decode prog_4_method_7_code 96 = .ok (.ireturn, 1) := by decide +kernel
def s_Game_outcome_95 (z0 : Int32) (z1 : Int32) (σ : LH) : Option (Int32 × LH) :=
  some ((z0 + z1), σ)
theorem b_Game_outcome_95 {G : XG} {l : Launch} {p : Program} {e : Env} {R : Room} {s : State} {m : MethodId} {args : Array Value} {below : List Frame} {meth : Method} {c : Code} (C : XC G 1 570 p s m args c prog_4_method_7_code 4 R_Game) (hr : meth.sig.returnType = (some .int)) (hk : meth.locks = false) {d : Nat} (hd : 2 ≤ d + 1) (hR : xroom R (d + 1)) {σ' : LH} {r : Int32} {z0 : Int32} {z1 : Int32} {σ : LH} (h0 : s_Game_outcome_95 z0 z1 σ = some (r, σ')) : XJ G 1 570 p l e R s m args below meth c 4 (XQ G 1 570 below args s (some (.int r)) σ') 0 0 95 [] [.int z1, .int z0] σ := by
  replace h0 := (show _ = _ from h0)
  unfold s_Game_outcome_95 at h0
  refine x_iadd C d_Game_outcome_95 ?_
  exact x_iret C hr hk h0 d_Game_outcome_96
def s_Game_outcome_76 (rec17 : Int32 → Int32 → Int32 → LH → Option (Int32 × LH)) (y1 : Int32) (y2 : Int32) (y3 : Int32) (σ : LH) : Option (Int32 × LH) :=
  xl ((y3 + 1) : Int32) fun x10 =>
  rec17 y1 y2 x10 σ
theorem b_Game_outcome_76 {G : XG} {l : Launch} {p : Program} {e : Env} {R : Room} {s : State} {m : MethodId} {args : Array Value} {below : List Frame} {meth : Method} {c : Code} (C : XC G 1 570 p s m args c prog_4_method_7_code 4 R_Game) (hr : meth.sig.returnType = (some .int)) (hk : meth.locks = false) {d : Nat} (hd : 2 ≤ d + 1) (hR : xroom R (d + 1)) {rec17 : Int32 → Int32 → Int32 → LH → Option (Int32 × LH)} {σ' : LH} {r : Int32} (hrec17 : ∀ (y1 : Int32) (y2 : Int32) (y3 : Int32) (σ : LH), rec17 y1 y2 y3 σ = some (r, σ') → XJ G 1 570 p l e R s m args below meth c 4 (XQ G 1 570 below args s (some (.int r)) σ') 0 0 17 [(0, .ref (G.2.2.1 + 68)), (1, .int y1), (2, .int y2), (3, .int y3)] [] σ) {y1 : Int32} {y2 : Int32} {y3 : Int32} {σ : LH} (h0 : s_Game_outcome_76 rec17 y1 y2 y3 σ = some (r, σ')) : XJ G 1 570 p l e R s m args below meth c 4 (XQ G 1 570 below args s (some (.int r)) σ') 0 0 76 [(0, .ref (G.2.2.1 + 68)), (1, .int y1), (2, .int y2), (3, .int y3)] [] σ := by
  replace h0 := (show _ = _ from h0)
  unfold s_Game_outcome_76 at h0
  obtain ⟨x10, ex10, h0⟩ := xlet h0
  refine x_iinc (lv' := [(3, .int x10), (0, .ref (G.2.2.1 + 68)), (1, .int y1), (2, .int y2)]) C d_Game_outcome_76 3 rfl ex10 (by decide) rfl ?_
  refine x_goto C 17 d_Game_outcome_79 (by decide) ?_
  exact x_lv C [1, 2, 3, 0] rfl (hrec17 _ _ _ _ h0)
def s_Game_outcome_74 (rec17 : Int32 → Int32 → Int32 → LH → Option (Int32 × LH)) (y1 : Int32) (y3 : Int32) (σ : LH) : Option (Int32 × LH) :=
  s_Game_outcome_76 rec17 y1 y3 y3 σ
theorem b_Game_outcome_74 {G : XG} {l : Launch} {p : Program} {e : Env} {R : Room} {s : State} {m : MethodId} {args : Array Value} {below : List Frame} {meth : Method} {c : Code} (C : XC G 1 570 p s m args c prog_4_method_7_code 4 R_Game) (hr : meth.sig.returnType = (some .int)) (hk : meth.locks = false) {d : Nat} (hd : 2 ≤ d + 1) (hR : xroom R (d + 1)) {rec17 : Int32 → Int32 → Int32 → LH → Option (Int32 × LH)} {σ' : LH} {r : Int32} (hrec17 : ∀ (y1 : Int32) (y2 : Int32) (y3 : Int32) (σ : LH), rec17 y1 y2 y3 σ = some (r, σ') → XJ G 1 570 p l e R s m args below meth c 4 (XQ G 1 570 below args s (some (.int r)) σ') 0 0 17 [(0, .ref (G.2.2.1 + 68)), (1, .int y1), (2, .int y2), (3, .int y3)] [] σ) {y1 : Int32} {y3 : Int32} {σ : LH} (h0 : s_Game_outcome_74 rec17 y1 y3 σ = some (r, σ')) : XJ G 1 570 p l e R s m args below meth c 4 (XQ G 1 570 below args s (some (.int r)) σ') 0 0 74 [(0, .ref (G.2.2.1 + 68)), (1, .int y1), (3, .int y3)] [] σ := by
  replace h0 := (show _ = _ from h0)
  unfold s_Game_outcome_74 at h0
  refine x_iload_n C d_Game_outcome_74 2 rfl ?_
  refine x_istore_n (lv' := [(2, .int y3), (0, .ref (G.2.2.1 + 68)), (1, .int y1), (3, .int y3)]) C d_Game_outcome_75 rfl (by decide) rfl ?_
  exact x_lv C [1, 2, 0, 3] rfl (b_Game_outcome_76 C hr hk hd hR hrec17 h0)
def s_Game_outcome_17_b (rec17 : Int32 → Int32 → Int32 → LH → Option (Int32 × LH)) (y1 : Int32) (y2 : Int32) (y3 : Int32) (σ : LH) : Option (Int32 × LH) :=
  if (σ.1 68 5) ≤ y3 then (
   if y2 = (-1) then (
    s_Game_outcome_95 (y1 * 4) 0 σ)
   else (
    s_Game_outcome_95 (y1 * 4) y2 σ))
  else (
   if ib y3 4 then (
   if (σ.1 79 (Int32.toNatClampNeg y3)) = y1 then (
    if y2 = (-1) then (
     s_Game_outcome_74 rec17 y1 y3 σ)
    else (
     if ib y3 4 then (
     if ib (σ.1 78 (Int32.toNatClampNeg y3)) 8 then (
     if ib y2 4 then (
     if ib (σ.1 78 (Int32.toNatClampNeg y2)) 8 then (
     if (σ.1 9 (Int32.toNatClampNeg (σ.1 78 (Int32.toNatClampNeg y3)))) ≤ (σ.1 9 (Int32.toNatClampNeg (σ.1 78 (Int32.toNatClampNeg y2)))) then (
      s_Game_outcome_76 rec17 y1 y2 y3 σ)
     else (
      s_Game_outcome_74 rec17 y1 y3 σ)) else none) else none) else none) else none))
   else (
    s_Game_outcome_76 rec17 y1 y2 y3 σ)) else none)
def s_Game_outcome_17 : Nat → Int32 → Int32 → Int32 → LH → Option (Int32 × LH)
  | 0, _, _, _, _ => none
  | n + 1, y1, y2, y3, σ => s_Game_outcome_17_b (s_Game_outcome_17 n) y1 y2 y3 σ
theorem bb_Game_outcome_17 {G : XG} {l : Launch} {p : Program} {e : Env} {R : Room} {s : State} {m : MethodId} {args : Array Value} {below : List Frame} {meth : Method} {c : Code} (C : XC G 1 570 p s m args c prog_4_method_7_code 4 R_Game) (hr : meth.sig.returnType = (some .int)) (hk : meth.locks = false) {d : Nat} (hd : 2 ≤ d + 1) (hR : xroom R (d + 1)) {rec17 : Int32 → Int32 → Int32 → LH → Option (Int32 × LH)} {σ' : LH} {r : Int32} (hrec17 : ∀ (y1 : Int32) (y2 : Int32) (y3 : Int32) (σ : LH), rec17 y1 y2 y3 σ = some (r, σ') → XJ G 1 570 p l e R s m args below meth c 4 (XQ G 1 570 below args s (some (.int r)) σ') 0 0 17 [(0, .ref (G.2.2.1 + 68)), (1, .int y1), (2, .int y2), (3, .int y3)] [] σ) {y1 : Int32} {y2 : Int32} {y3 : Int32} {σ : LH} (h0 : s_Game_outcome_17_b rec17 y1 y2 y3 σ = some (r, σ')) : XJ G 1 570 p l e R s m args below meth c 4 (XQ G 1 570 below args s (some (.int r)) σ') 0 0 17 [(0, .ref (G.2.2.1 + 68)), (1, .int y1), (2, .int y2), (3, .int y3)] [] σ := by
  replace h0 := (show _ = _ from h0)
  unfold s_Game_outcome_17_b at h0
  refine x_iload_n C d_Game_outcome_17 3 rfl ?_
  refine x_aload_n C d_Game_outcome_18 0 rfl ?_
  refine x_getI (y := 0) C fg_Game_22 k_68 rfl d_Game_outcome_19 ?_
  refine x_icmp_ge C 82 d_Game_outcome_22 (by decide) (fun q5 => ?_) (fun q5 => ?_)
  · replace h0 := xit q5 h0
    refine x_iload_n C d_Game_outcome_82 1 rfl ?_
    refine x_iconst (v := 4) C d_Game_outcome_83 (by decide) ?_
    refine x_imul C d_Game_outcome_84 ?_
    refine x_iload_n C d_Game_outcome_85 2 rfl ?_
    refine x_iconst (v := (-1)) C d_Game_outcome_86 (by decide) ?_
    refine x_icmp_ne C 94 d_Game_outcome_87 (by decide) (fun q6 => ?_) (fun q6 => ?_)
    · replace h0 := xif q6 h0
      refine x_iload_n C d_Game_outcome_94 2 rfl ?_
      exact x_lv C [] rfl (b_Game_outcome_95 C hr hk hd hR h0)
    · replace h0 := xit q6 h0
      refine x_iconst (v := 0) C d_Game_outcome_90 (by decide) ?_
      refine x_goto C 95 d_Game_outcome_91 (by decide) ?_
      exact x_lv C [] rfl (b_Game_outcome_95 C hr hk hd hR h0)
  · replace h0 := xif q5 h0
    refine x_aload_n C d_Game_outcome_25 0 rfl ?_
    refine x_getA (y := 79) C fg_Game_26 k_68 rfl d_Game_outcome_26 ?_
    refine x_iload_n C d_Game_outcome_29 3 rfl ?_
    obtain ⟨g7, h0⟩ := xgo h0
    refine x_iald C k_79 (ib_in g7) d_Game_outcome_30 ?_
    refine x_iload_n C d_Game_outcome_31 1 rfl ?_
    refine x_icmp_eq C 38 d_Game_outcome_32 (by decide) (fun q8 => ?_) (fun q8 => ?_)
    · replace h0 := xit q8 h0
      refine x_iload_n C d_Game_outcome_38 2 rfl ?_
      refine x_iconst (v := (-1)) C d_Game_outcome_39 (by decide) ?_
      refine x_icmp_eq C 74 d_Game_outcome_40 (by decide) (fun q9 => ?_) (fun q9 => ?_)
      · replace h0 := xit q9 h0
        exact x_lv C [0, 1, 3] rfl (b_Game_outcome_74 C hr hk hd hR hrec17 h0)
      · replace h0 := xif q9 h0
        refine x_aload_n C d_Game_outcome_43 0 rfl ?_
        refine x_getA (y := 4) C fg_Game_32 k_68 rfl d_Game_outcome_44 ?_
        refine x_getR (y := 5) C fg_Game_55 k_4 rfl d_Game_outcome_47 ?_
        show XJ _ _ _ _ _ _ _ _ _ _ _ _ _ _ _ _ _ _ _ (.ref (G.2.2.1 + 9) :: _) _
        refine x_aload_n C d_Game_outcome_50 0 rfl ?_
        refine x_getA (y := 78) C fg_Game_18 k_68 rfl d_Game_outcome_51 ?_
        refine x_iload_n C d_Game_outcome_54 3 rfl ?_
        obtain ⟨g11, h0⟩ := xgo h0
        refine x_iald C k_78 (ib_in g11) d_Game_outcome_55 ?_
        obtain ⟨g12, h0⟩ := xgo h0
        refine x_iald C k_9 (ib_in g12) d_Game_outcome_56 ?_
        refine x_aload_n C d_Game_outcome_57 0 rfl ?_
        refine x_getA (y := 4) C fg_Game_32 k_68 rfl d_Game_outcome_58 ?_
        refine x_getR (y := 5) C fg_Game_55 k_4 rfl d_Game_outcome_61 ?_
        show XJ _ _ _ _ _ _ _ _ _ _ _ _ _ _ _ _ _ _ _ (.ref (G.2.2.1 + 9) :: _) _
        refine x_aload_n C d_Game_outcome_64 0 rfl ?_
        refine x_getA (y := 78) C fg_Game_18 k_68 rfl d_Game_outcome_65 ?_
        refine x_iload_n C d_Game_outcome_68 2 rfl ?_
        obtain ⟨g13, h0⟩ := xgo h0
        refine x_iald C k_78 (ib_in g13) d_Game_outcome_69 ?_
        obtain ⟨g14, h0⟩ := xgo h0
        refine x_iald C k_9 (ib_in g14) d_Game_outcome_70 ?_
        refine x_icmp_le C 76 d_Game_outcome_71 (by decide) (fun q15 => ?_) (fun q15 => ?_)
        · replace h0 := xit q15 h0
          exact x_lv C [0, 1, 2, 3] rfl (b_Game_outcome_76 C hr hk hd hR hrec17 h0)
        · replace h0 := xif q15 h0
          exact x_lv C [0, 1, 3] rfl (b_Game_outcome_74 C hr hk hd hR hrec17 h0)
    · replace h0 := xif q8 h0
      refine x_goto C 76 d_Game_outcome_35 (by decide) ?_
      exact x_lv C [0, 1, 2, 3] rfl (b_Game_outcome_76 C hr hk hd hR hrec17 h0)
theorem b_Game_outcome_17 {G : XG} {l : Launch} {p : Program} {e : Env} {R : Room} {s : State} {m : MethodId} {args : Array Value} {below : List Frame} {meth : Method} {c : Code} (C : XC G 1 570 p s m args c prog_4_method_7_code 4 R_Game) (hr : meth.sig.returnType = (some .int)) (hk : meth.locks = false) {d : Nat} (hd : 2 ≤ d + 1) (hR : xroom R (d + 1)) {σ' : LH} {r : Int32} : ∀ (n : Nat) (y1 : Int32) (y2 : Int32) (y3 : Int32) (σ : LH), s_Game_outcome_17 n y1 y2 y3 σ = some (r, σ') → XJ G 1 570 p l e R s m args below meth c 4 (XQ G 1 570 below args s (some (.int r)) σ') 0 0 17 [(0, .ref (G.2.2.1 + 68)), (1, .int y1), (2, .int y2), (3, .int y3)] [] σ := by
  intro n
  induction n with
  | zero => intro y1 y2 y3 σ h0; cases h0
  | succ n ih => intro y1 y2 y3 σ h0; exact bb_Game_outcome_17 C hr hk hd hR ih h0
def s_Game_outcome (σ : LH) : Option (Int32 × LH) :=
  xb2 (s_Game_least σ) fun r2 σ3 =>
  if r2 < 4 then (
   s_Game_outcome_17 FUEL r2 (-1) 0 σ3)
  else (
   some (16, σ3))
theorem c_Game_outcome {G : XG} {l : Launch} {d : Nat} (hd : 2 ≤ d) {σ σ' : LH} {r : Int32} (h0 : s_Game_outcome σ = some (r, σ')) : xM G 1 570 l y_Game_outcome prog_4_method_7_code 4 (some .int) d [.ref (G.2.2.1 + 68)] σ (some (.int r)) σ' := by
  obtain ⟨d, rfl⟩ : ∃ q, d = q + 1 := ⟨d - 1, by omega⟩
  refine x_met R_Game rfl (by decide +kernel) (Nat.le_of_ble_eq_true rfl) fun p e s m below meth c C hr hk hR => ?_
  refine x_lv (lv' := [(0, .ref (G.2.2.1 + 68))]) C [0] rfl ?_
  generalize xrm (d + 1) = R at hR ⊢
  unfold s_Game_outcome at h0
  refine x_aload_n C d_Game_outcome_0 0 rfl ?_
  obtain ⟨r2, σ3, k1, h0⟩ := xbind2 h0
  refine x_callVi C hR (c_Game_least (d := d) (by omega) k1) cw_Game_51 k_68 rfl rfl rfl (Nat.le_of_ble_eq_true rfl) ⟨Nat.zero_le _, Nat.zero_le _⟩ d_Game_outcome_1 ?_
  refine x_istore_n (lv' := [(1, .int r2), (0, .ref (G.2.2.1 + 68))]) C d_Game_outcome_4 rfl (by decide) rfl ?_
  refine x_iload_n C d_Game_outcome_5 0 rfl ?_
  refine x_iconst (v := 4) C d_Game_outcome_6 (by decide) ?_
  refine x_icmp_lt C 13 d_Game_outcome_7 (by decide) (fun q4 => ?_) (fun q4 => ?_)
  · replace h0 := xit q4 h0
    refine x_iconst (v := (-1)) C d_Game_outcome_13 (by decide) ?_
    refine x_istore_n (lv' := [(2, .int (-1)), (1, .int r2), (0, .ref (G.2.2.1 + 68))]) C d_Game_outcome_14 rfl (by decide) rfl ?_
    refine x_iconst (v := 0) C d_Game_outcome_15 (by decide) ?_
    refine x_istore_n (lv' := [(3, .int 0), (2, .int (-1)), (1, .int r2), (0, .ref (G.2.2.1 + 68))]) C d_Game_outcome_16 rfl (by decide) rfl ?_
    exact x_lv C [3, 2, 1, 0] rfl (b_Game_outcome_17 C hr hk hd hR FUEL _ _ _ _ h0)
  · replace h0 := xif q4 h0
    refine x_bipush (v := 16) C d_Game_outcome_10 (by decide) ?_
    exact x_iret C hr hk h0 d_Game_outcome_12
-- LostPlaces$Game.tryOut(I)V
theorem d_Game_tryOut_0 : decode prog_4_method_8_code 0 = .ok (.aload_n 0, 1) := by decide +kernel
theorem d_Game_tryOut_1 : decode prog_4_method_8_code 1 = .ok (.getfield 14, 3) := by decide +kernel
theorem d_Game_tryOut_4 : decode prog_4_method_8_code 4 = .ok (.aload_n 0, 1) := by decide +kernel
theorem d_Game_tryOut_5 : decode prog_4_method_8_code 5 = .ok (.getfield 40, 3) := by decide +kernel
theorem d_Game_tryOut_8 : decode prog_4_method_8_code 8 = .ok (.invokevirtual 58, 3) := by decide +kernel
theorem d_Game_tryOut_11 : decode prog_4_method_8_code 11 = .ok (.iload_n 1, 1) := by decide +kernel
theorem d_Game_tryOut_12 : decode prog_4_method_8_code 12 = .ok (.bipush 16, 2) := by decide +kernel
theorem d_Game_tryOut_14 : decode prog_4_method_8_code 14 = .ok (.if_icmp .ge 30, 3) := by decide +kernel
theorem d_Game_tryOut_17 : decode prog_4_method_8_code 17 = .ok (.aload_n 0, 1) := by decide +kernel
theorem d_Game_tryOut_18 : decode prog_4_method_8_code 18 = .ok (.getfield 36, 3) := by decide +kernel
theorem d_Game_tryOut_21 : decode prog_4_method_8_code 21 = .ok (.aload_n 0, 1) := by decide +kernel
theorem d_Game_tryOut_22 : decode prog_4_method_8_code 22 = .ok (.getfield 18, 3) := by decide +kernel
theorem d_Game_tryOut_25 : decode prog_4_method_8_code 25 = .ok (.iload_n 1, 1) := by decide +kernel
theorem d_Game_tryOut_26 : decode prog_4_method_8_code 26 = .ok (.iconst 4, 1) := by decide +kernel
theorem d_Game_tryOut_27 : decode prog_4_method_8_code 27 = .ok (.irem, 1) := by decide +kernel
theorem d_Game_tryOut_28 : decode prog_4_method_8_code 28 = .ok (.iaload, 1) := by decide +kernel
theorem d_Game_tryOut_29 : decode prog_4_method_8_code 29 = .ok (.aload_n 0, 1) := by decide +kernel
theorem d_Game_tryOut_30 : decode prog_4_method_8_code 30 = .ok (.getfield 40, 3) := by decide +kernel
theorem d_Game_tryOut_33 : decode prog_4_method_8_code 33 = .ok (.getfield 62, 3) := by decide +kernel
theorem d_Game_tryOut_36 : decode prog_4_method_8_code 36 = .ok (.iload_n 1, 1) := by decide +kernel
theorem d_Game_tryOut_37 : decode prog_4_method_8_code 37 = .ok (.iconst 4, 1) := by decide +kernel
theorem d_Game_tryOut_38 : decode prog_4_method_8_code 38 = .ok (.idiv, 1) := by decide +kernel
theorem d_Game_tryOut_39 : decode prog_4_method_8_code 39 = .ok (.iadd, 1) := by decide +kernel
theorem d_Game_tryOut_40 : decode prog_4_method_8_code 40 = .ok (.iconst 1, 1) := by decide +kernel
theorem d_Game_tryOut_41 : decode prog_4_method_8_code 41 = .ok (.invokevirtual 65, 3) := by decide +kernel
theorem d_Game_tryOut_44 : decode prog_4_method_8_code 44 = .ok (.aload_n 0, 1) := by decide +kernel
theorem d_Game_tryOut_45 : decode prog_4_method_8_code 45 = .ok (.getfield 36, 3) := by decide +kernel
theorem d_Game_tryOut_48 : decode prog_4_method_8_code 48 = .ok (.aload_n 0, 1) := by decide +kernel
theorem d_Game_tryOut_49 : decode prog_4_method_8_code 49 = .ok (.getfield 14, 3) := by decide +kernel
theorem d_Game_tryOut_52 : decode prog_4_method_8_code 52 = .ok (.aload_n 0, 1) := by decide +kernel
theorem d_Game_tryOut_53 : decode prog_4_method_8_code 53 = .ok (.getfield 32, 3) := by decide +kernel
theorem d_Game_tryOut_56 : decode prog_4_method_8_code 56 = .ok (.getfield 71, 3) := by decide +kernel
theorem d_Game_tryOut_59 : decode prog_4_method_8_code 59 = .ok (.invokevirtual 74, 3) := by decide +kernel
theorem d_Game_tryOut_62 : decode prog_4_method_8_code 62 = .ok (.aload_n 0, 1) := by decide +kernel
theorem d_Game_tryOut_63 : decode prog_4_method_8_code 63 = .ok (.getfield 36, 3) := by decide +kernel
theorem d_Game_tryOut_66 : decode prog_4_method_8_code 66 = .ok (.invokevirtual 78, 3) := by decide +kernel
theorem d_Game_tryOut_69 : decode prog_4_method_8_code 69 = .ok (.iconst 0, 1) := by decide +kernel
theorem d_Game_tryOut_70 : decode prog_4_method_8_code 70 = .ok (.istore_n 2, 1) := by decide +kernel
theorem d_Game_tryOut_71 : decode prog_4_method_8_code 71 = .ok (.iload_n 2, 1) := by decide +kernel
theorem d_Game_tryOut_72 : decode prog_4_method_8_code 72 = .ok (.aload_n 0, 1) := by decide +kernel
theorem d_Game_tryOut_73 : decode prog_4_method_8_code 73 = .ok (.getfield 22, 3) := by decide +kernel
theorem d_Game_tryOut_76 : decode prog_4_method_8_code 76 = .ok (.if_icmp .ge 33, 3) := by decide +kernel
theorem d_Game_tryOut_79 : decode prog_4_method_8_code 79 = .ok (.aload_n 0, 1) := by decide +kernel
theorem d_Game_tryOut_80 : decode prog_4_method_8_code 80 = .ok (.getfield 29, 3) := by decide +kernel
theorem d_Game_tryOut_83 : decode prog_4_method_8_code 83 = .ok (.iload_n 1, 1) := by decide +kernel
theorem d_Game_tryOut_84 : decode prog_4_method_8_code 84 = .ok (.iconst 4, 1) := by decide +kernel
theorem d_Game_tryOut_85 : decode prog_4_method_8_code 85 = .ok (.imul, 1) := by decide +kernel
theorem d_Game_tryOut_86 : decode prog_4_method_8_code 86 = .ok (.iload_n 2, 1) := by decide +kernel
theorem d_Game_tryOut_87 : decode prog_4_method_8_code 87 = .ok (.iadd, 1) := by decide +kernel
theorem d_Game_tryOut_88 : decode prog_4_method_8_code 88 = .ok (.aload_n 0, 1) := by decide +kernel
theorem d_Game_tryOut_89 : decode prog_4_method_8_code 89 = .ok (.getfield 14, 3) := by decide +kernel
theorem d_Game_tryOut_92 : decode prog_4_method_8_code 92 = .ok (.getfield 81, 3) := by decide +kernel
theorem d_Game_tryOut_95 : decode prog_4_method_8_code 95 = .ok (.aload_n 0, 1) := by decide +kernel
theorem d_Game_tryOut_96 : decode prog_4_method_8_code 96 = .ok (.getfield 18, 3) := by decide +kernel
theorem d_Game_tryOut_99 : decode prog_4_method_8_code 99 = .ok (.iload_n 2, 1) := by decide +kernel
theorem d_Game_tryOut_100 : decode prog_4_method_8_code 100 = .ok (.iaload, 1) := by decide +kernel
theorem d_Game_tryOut_101 : decode prog_4_method_8_code 101 = .ok (.iaload, 1) := by decide +kernel
theorem d_Game_tryOut_102 : decode prog_4_method_8_code 102 = .ok (.iastore, 1) := by decide +kernel
theorem d_Game_tryOut_103 : decode prog_4_method_8_code 103 = .ok (.iinc 2 1, 3) := by decide +kernel
theorem d_Game_tryOut_106 : decode prog_4_method_8_code 106 = .ok (.goto (-35), 3) := by decide +kernel
theorem d_Game_tryOut_109 : decode prog_4_method_8_code 109 = .ok (.return_, 1) := by decide +kernel
def s_Game_tryOut_71_b (p0 : Int32) (rec71 : Int32 → LH → Option (LH)) (y2 : Int32) (σ : LH) : Option (LH) :=
  if (σ.1 68 5) ≤ y2 then (
   some σ)
  else (
   if ib y2 4 then (
   if ib (σ.1 78 (Int32.toNatClampNeg y2)) 8 then (
   if ib ((p0 * 4) + y2) 68 then (
   xl ((stI σ 80 (Int32.toNatClampNeg ((p0 * 4) + y2)) (σ.1 73 (Int32.toNatClampNeg (σ.1 78 (Int32.toNatClampNeg y2))))) : LH) fun σ12 =>
   xl ((y2 + 1) : Int32) fun x13 =>
   rec71 x13 σ12) else none) else none) else none)
def s_Game_tryOut_71 (p0 : Int32) : Nat → Int32 → LH → Option (LH)
  | 0, _, _ => none
  | n + 1, y2, σ => s_Game_tryOut_71_b p0 (s_Game_tryOut_71 p0 n) y2 σ
theorem bb_Game_tryOut_71 {G : XG} {l : Launch} {p : Program} {e : Env} {R : Room} {s : State} {m : MethodId} {args : Array Value} {below : List Frame} {meth : Method} {c : Code} (C : XC G 1 570 p s m args c prog_4_method_8_code 3 R_Game) (hr : meth.sig.returnType = none) (hk : meth.locks = false) {d : Nat} (hd : 6 ≤ d + 1) (hR : xroom R (d + 1)) {p0 : Int32} {rec71 : Int32 → LH → Option (LH)} {σ' : LH} (hrec71 : ∀ (y2 : Int32) (σ : LH), rec71 y2 σ = some σ' → XJ G 1 570 p l e R s m args below meth c 3 (XQ G 1 570 below args s none σ') 0 0 71 [(0, .ref (G.2.2.1 + 68)), (1, .int p0), (2, .int y2)] [] σ) {y2 : Int32} {σ : LH} (h0 : s_Game_tryOut_71_b p0 rec71 y2 σ = some σ') : XJ G 1 570 p l e R s m args below meth c 3 (XQ G 1 570 below args s none σ') 0 0 71 [(0, .ref (G.2.2.1 + 68)), (1, .int p0), (2, .int y2)] [] σ := by
  replace h0 := (show _ = _ from h0)
  unfold s_Game_tryOut_71_b at h0
  refine x_iload_n C d_Game_tryOut_71 2 rfl ?_
  refine x_aload_n C d_Game_tryOut_72 0 rfl ?_
  refine x_getI (y := 0) C fg_Game_22 k_68 rfl d_Game_tryOut_73 ?_
  refine x_icmp_ge C 109 d_Game_tryOut_76 (by decide) (fun q8 => ?_) (fun q8 => ?_)
  · replace h0 := xit q8 h0
    exact x_vret C hr hk h0 d_Game_tryOut_109
  · replace h0 := xif q8 h0
    refine x_aload_n C d_Game_tryOut_79 0 rfl ?_
    refine x_getA (y := 80) C fg_Game_29 k_68 rfl d_Game_tryOut_80 ?_
    refine x_iload_n C d_Game_tryOut_83 1 rfl ?_
    refine x_iconst (v := 4) C d_Game_tryOut_84 (by decide) ?_
    refine x_imul C d_Game_tryOut_85 ?_
    refine x_iload_n C d_Game_tryOut_86 2 rfl ?_
    refine x_iadd C d_Game_tryOut_87 ?_
    refine x_aload_n C d_Game_tryOut_88 0 rfl ?_
    refine x_getA (y := 69) C fg_Game_14 k_68 rfl d_Game_tryOut_89 ?_
    refine x_getR (y := 4) C fg_Game_81 k_69 rfl d_Game_tryOut_92 ?_
    show XJ _ _ _ _ _ _ _ _ _ _ _ _ _ _ _ _ _ _ _ (.ref (G.2.2.1 + 73) :: _) _
    refine x_aload_n C d_Game_tryOut_95 0 rfl ?_
    refine x_getA (y := 78) C fg_Game_18 k_68 rfl d_Game_tryOut_96 ?_
    refine x_iload_n C d_Game_tryOut_99 2 rfl ?_
    obtain ⟨g9, h0⟩ := xgo h0
    refine x_iald C k_78 (ib_in g9) d_Game_tryOut_100 ?_
    obtain ⟨g10, h0⟩ := xgo h0
    refine x_iald C k_73 (ib_in g10) d_Game_tryOut_101 ?_
    obtain ⟨g11, h0⟩ := xgo h0
    refine x_iast C k_80 (ib_in g11) d_Game_tryOut_102 ?_
    obtain ⟨σ12, eσ12, h0⟩ := xlet h0
    refine x_sig C eσ12 ?_
    obtain ⟨x13, ex13, h0⟩ := xlet h0
    refine x_iinc (lv' := [(2, .int x13), (0, .ref (G.2.2.1 + 68)), (1, .int p0)]) C d_Game_tryOut_103 2 rfl ex13 (by decide) rfl ?_
    refine x_goto C 71 d_Game_tryOut_106 (by decide) ?_
    exact x_lv C [1, 2, 0] rfl (hrec71 _ _ h0)
theorem b_Game_tryOut_71 {G : XG} {l : Launch} {p : Program} {e : Env} {R : Room} {s : State} {m : MethodId} {args : Array Value} {below : List Frame} {meth : Method} {c : Code} (C : XC G 1 570 p s m args c prog_4_method_8_code 3 R_Game) (hr : meth.sig.returnType = none) (hk : meth.locks = false) {d : Nat} (hd : 6 ≤ d + 1) (hR : xroom R (d + 1)) {p0 : Int32} {σ' : LH} : ∀ (n : Nat) (y2 : Int32) (σ : LH), s_Game_tryOut_71 p0 n y2 σ = some σ' → XJ G 1 570 p l e R s m args below meth c 3 (XQ G 1 570 below args s none σ') 0 0 71 [(0, .ref (G.2.2.1 + 68)), (1, .int p0), (2, .int y2)] [] σ := by
  intro n
  induction n with
  | zero => intro y2 σ h0; cases h0
  | succ n ih => intro y2 σ h0; exact bb_Game_tryOut_71 C hr hk hd hR ih h0
def s_Game_tryOut_44 (p0 : Int32) (σ : LH) : Option (LH) :=
  xb1 (s_Evening_run 69 (σ.1 4 15) σ) fun σ5 =>
  xb1 (s_Evening_dropGoing σ5) fun σ7 =>
  s_Game_tryOut_71 p0 FUEL 0 σ7
theorem b_Game_tryOut_44 {G : XG} {l : Launch} {p : Program} {e : Env} {R : Room} {s : State} {m : MethodId} {args : Array Value} {below : List Frame} {meth : Method} {c : Code} (C : XC G 1 570 p s m args c prog_4_method_8_code 3 R_Game) (hr : meth.sig.returnType = none) (hk : meth.locks = false) {d : Nat} (hd : 6 ≤ d + 1) (hR : xroom R (d + 1)) {p0 : Int32} {σ' : LH} {σ : LH} (h0 : s_Game_tryOut_44 p0 σ = some σ') : XJ G 1 570 p l e R s m args below meth c 3 (XQ G 1 570 below args s none σ') 0 0 44 [(0, .ref (G.2.2.1 + 68)), (1, .int p0)] [] σ := by
  replace h0 := (show _ = _ from h0)
  unfold s_Game_tryOut_44 at h0
  refine x_aload_n C d_Game_tryOut_44 0 rfl ?_
  refine x_getA (y := 38) C fg_Game_36 k_68 rfl d_Game_tryOut_45 ?_
  refine x_aload_n C d_Game_tryOut_48 0 rfl ?_
  refine x_getA (y := 69) C fg_Game_14 k_68 rfl d_Game_tryOut_49 ?_
  refine x_aload_n C d_Game_tryOut_52 0 rfl ?_
  refine x_getA (y := 4) C fg_Game_32 k_68 rfl d_Game_tryOut_53 ?_
  refine x_getI (y := 0) C fg_Game_71 k_4 rfl d_Game_tryOut_56 ?_
  obtain ⟨σ5, k4, h0⟩ := xbind1 h0
  refine x_callVv C hR (c_Evening_run (d := d) (by omega) (show 69 ∈ xHalls by decide) k4) cw_Game_74 k_38 rfl rfl rfl (Nat.le_of_ble_eq_true rfl) ⟨Nat.zero_le _, Nat.zero_le _⟩ d_Game_tryOut_59 ?_
  refine x_aload_n C d_Game_tryOut_62 0 rfl ?_
  refine x_getA (y := 38) C fg_Game_36 k_68 rfl d_Game_tryOut_63 ?_
  obtain ⟨σ7, k6, h0⟩ := xbind1 h0
  refine x_callVv C hR (c_Evening_dropGoing (d := d) (by omega) k6) cw_Game_78 k_38 rfl rfl rfl (Nat.le_of_ble_eq_true rfl) ⟨Nat.zero_le _, Nat.zero_le _⟩ d_Game_tryOut_66 ?_
  refine x_iconst (v := 0) C d_Game_tryOut_69 (by decide) ?_
  refine x_istore_n (lv' := [(2, .int 0), (0, .ref (G.2.2.1 + 68)), (1, .int p0)]) C d_Game_tryOut_70 rfl (by decide) rfl ?_
  exact x_lv C [1, 2, 0] rfl (b_Game_tryOut_71 C hr hk hd hR FUEL _ _ h0)
def s_Game_tryOut (p0 : Int32) (σ : LH) : Option (LH) :=
  xb1 (s_Hall_beginAs 69 39 σ) fun σ2 =>
  if 16 ≤ p0 then (
   s_Game_tryOut_44 p0 σ2)
  else (
   if ib (p0 - p0 / 4 * 4) 4 then (
   xb1 (s_Evening_addGoing (σ2.1 78 (Int32.toNatClampNeg (p0 - p0 / 4 * 4))) ((σ2.1 39 7) + (p0 / 4)) 1 σ2) fun σ16 =>
   s_Game_tryOut_44 p0 σ16) else none)
theorem c_Game_tryOut {G : XG} {l : Launch} {d : Nat} (hd : 6 ≤ d) {p0 : Int32} {σ σ' : LH} (h0 : s_Game_tryOut p0 σ = some σ') : xM G 1 570 l y_Game_tryOut prog_4_method_8_code 3 none d [.ref (G.2.2.1 + 68), .int p0] σ none σ' := by
  obtain ⟨d, rfl⟩ : ∃ q, d = q + 1 := ⟨d - 1, by omega⟩
  refine x_met R_Game rfl (by decide +kernel) (Nat.le_of_ble_eq_true rfl) fun p e s m below meth c C hr hk hR => ?_
  refine x_lv (lv' := [(0, .ref (G.2.2.1 + 68)), (1, .int p0)]) C [0, 1] rfl ?_
  generalize xrm (d + 1) = R at hR ⊢
  unfold s_Game_tryOut at h0
  refine x_aload_n C d_Game_tryOut_0 0 rfl ?_
  refine x_getA (y := 69) C fg_Game_14 k_68 rfl d_Game_tryOut_1 ?_
  refine x_aload_n C d_Game_tryOut_4 0 rfl ?_
  refine x_getA (y := 39) C fg_Game_40 k_68 rfl d_Game_tryOut_5 ?_
  obtain ⟨σ2, k1, h0⟩ := xbind1 h0
  refine x_callVv C hR (c_Hall_beginAs (d := d) (by omega) (show 69 ∈ xHalls by decide) (show 39 ∈ xHalls by decide) k1) cw_Game_58 k_69 rfl rfl rfl (Nat.le_of_ble_eq_true rfl) ⟨Nat.zero_le _, Nat.zero_le _⟩ d_Game_tryOut_8 ?_
  refine x_iload_n C d_Game_tryOut_11 1 rfl ?_
  refine x_bipush (v := 16) C d_Game_tryOut_12 (by decide) ?_
  refine x_icmp_ge C 44 d_Game_tryOut_14 (by decide) (fun q3 => ?_) (fun q3 => ?_)
  · replace h0 := xit q3 h0
    exact x_lv C [0, 1] rfl (b_Game_tryOut_44 C hr hk hd hR h0)
  · replace h0 := xif q3 h0
    refine x_aload_n C d_Game_tryOut_17 0 rfl ?_
    refine x_getA (y := 38) C fg_Game_36 k_68 rfl d_Game_tryOut_18 ?_
    refine x_aload_n C d_Game_tryOut_21 0 rfl ?_
    refine x_getA (y := 78) C fg_Game_18 k_68 rfl d_Game_tryOut_22 ?_
    refine x_iload_n C d_Game_tryOut_25 1 rfl ?_
    refine x_iconst (v := 4) C d_Game_tryOut_26 (by decide) ?_
    refine x_irem C d_Game_tryOut_27 (by decide) ?_
    obtain ⟨g14, h0⟩ := xgo h0
    refine x_iald C k_78 (ib_in g14) d_Game_tryOut_28 ?_
    refine x_aload_n C d_Game_tryOut_29 0 rfl ?_
    refine x_getA (y := 39) C fg_Game_40 k_68 rfl d_Game_tryOut_30 ?_
    refine x_getI (y := 0) C fg_Game_62 k_39 rfl d_Game_tryOut_33 ?_
    refine x_iload_n C d_Game_tryOut_36 1 rfl ?_
    refine x_iconst (v := 4) C d_Game_tryOut_37 (by decide) ?_
    refine x_idiv C d_Game_tryOut_38 (by decide) ?_
    refine x_iadd C d_Game_tryOut_39 ?_
    refine x_iconst (v := 1) C d_Game_tryOut_40 (by decide) ?_
    obtain ⟨σ16, k15, h0⟩ := xbind1 h0
    refine x_callVv C hR (c_Evening_addGoing (d := d) (by omega) k15) cw_Game_65 k_38 rfl rfl rfl (Nat.le_of_ble_eq_true rfl) ⟨Nat.zero_le _, Nat.zero_le _⟩ d_Game_tryOut_41 ?_
    exact x_lv C [0, 1] rfl (b_Game_tryOut_44 C hr hk hd hR h0)
-- LostPlaces$Game.gain(II)I
theorem d_Game_gain_0 : decode prog_4_method_10_code 0 = .ok (.aload_n 0, 1) := by decide +kernel
theorem d_Game_gain_1 : decode prog_4_method_10_code 1 = .ok (.getfield 29, 3) := by decide +kernel
theorem d_Game_gain_4 : decode prog_4_method_10_code 4 = .ok (.aload_n 0, 1) := by decide +kernel
theorem d_Game_gain_5 : decode prog_4_method_10_code 5 = .ok (.invokevirtual 84, 3) := by decide +kernel
theorem d_Game_gain_8 : decode prog_4_method_10_code 8 = .ok (.iconst 4, 1) := by decide +kernel
theorem d_Game_gain_9 : decode prog_4_method_10_code 9 = .ok (.imul, 1) := by decide +kernel
theorem d_Game_gain_10 : decode prog_4_method_10_code 10 = .ok (.iload_n 1, 1) := by decide +kernel
theorem d_Game_gain_11 : decode prog_4_method_10_code 11 = .ok (.iadd, 1) := by decide +kernel
theorem d_Game_gain_12 : decode prog_4_method_10_code 12 = .ok (.iaload, 1) := by decide +kernel
theorem d_Game_gain_13 : decode prog_4_method_10_code 13 = .ok (.iload_n 2, 1) := by decide +kernel
theorem d_Game_gain_14 : decode prog_4_method_10_code 14 = .ok (.aload_n 0, 1) := by decide +kernel
theorem d_Game_gain_15 : decode prog_4_method_10_code 15 = .ok (.invokevirtual 51, 3) := by decide +kernel
theorem d_Game_gain_18 : decode prog_4_method_10_code 18 = .ok (.imul, 1) := by decide +kernel
theorem d_Game_gain_19 : decode prog_4_method_10_code 19 = .ok (.isub, 1) := by decide +kernel
theorem d_Game_gain_20 : decode prog_4_method_10_code 20 = .ok (.ireturn, 1) := by decide +kernel
def s_Game_gain (p0 : Int32) (p1 : Int32) (σ : LH) : Option (Int32 × LH) :=
  xb2 (s_Game_outcome σ) fun r2 σ3 =>
  if ib ((r2 * 4) + p0) 68 then (
  xb2 (s_Game_least σ3) fun r6 σ7 =>
  some (((σ3.1 80 (Int32.toNatClampNeg ((r2 * 4) + p0))) - (p1 * r6)), σ7)) else none
theorem c_Game_gain {G : XG} {l : Launch} {d : Nat} (hd : 3 ≤ d) {p0 : Int32} {p1 : Int32} {σ σ' : LH} {r : Int32} (h0 : s_Game_gain p0 p1 σ = some (r, σ')) : xM G 1 570 l y_Game_gain prog_4_method_10_code 3 (some .int) d [.ref (G.2.2.1 + 68), .int p0, .int p1] σ (some (.int r)) σ' := by
  obtain ⟨d, rfl⟩ : ∃ q, d = q + 1 := ⟨d - 1, by omega⟩
  refine x_met R_Game rfl (by decide +kernel) (Nat.le_of_ble_eq_true rfl) fun p e s m below meth c C hr hk hR => ?_
  refine x_lv (lv' := [(0, .ref (G.2.2.1 + 68)), (1, .int p0), (2, .int p1)]) C [0, 1, 2] rfl ?_
  generalize xrm (d + 1) = R at hR ⊢
  unfold s_Game_gain at h0
  refine x_aload_n C d_Game_gain_0 0 rfl ?_
  refine x_getA (y := 80) C fg_Game_29 k_68 rfl d_Game_gain_1 ?_
  refine x_aload_n C d_Game_gain_4 0 rfl ?_
  obtain ⟨r2, σ3, k1, h0⟩ := xbind2 h0
  refine x_callVi C hR (c_Game_outcome (d := d) (by omega) k1) cw_Game_84 k_68 rfl rfl rfl (Nat.le_of_ble_eq_true rfl) ⟨Nat.zero_le _, Nat.zero_le _⟩ d_Game_gain_5 ?_
  refine x_iconst (v := 4) C d_Game_gain_8 (by decide) ?_
  refine x_imul C d_Game_gain_9 ?_
  refine x_iload_n C d_Game_gain_10 1 rfl ?_
  refine x_iadd C d_Game_gain_11 ?_
  obtain ⟨g4, h0⟩ := xgo h0
  refine x_iald C k_80 (ib_in g4) d_Game_gain_12 ?_
  refine x_iload_n C d_Game_gain_13 2 rfl ?_
  refine x_aload_n C d_Game_gain_14 0 rfl ?_
  obtain ⟨r6, σ7, k5, h0⟩ := xbind2 h0
  refine x_callVi C hR (c_Game_least (d := d) (by omega) k5) cw_Game_51 k_68 rfl rfl rfl (Nat.le_of_ble_eq_true rfl) ⟨Nat.zero_le _, Nat.zero_le _⟩ d_Game_gain_15 ?_
  refine x_imul C d_Game_gain_18 ?_
  refine x_isub C d_Game_gain_19 ?_
  exact x_iret C hr hk h0 d_Game_gain_20
