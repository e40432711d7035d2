/-! the law: its loop -/
theorem dl_39 : decode code 39 = .ok (.iand, 1) := by decide +kernel
theorem dl_40 : decode code 40 = .ok (.tableswitch 1421 0 37 #[168, 241, 266, 291, 316, 353, 421, 458, 483, 508, 545, 582, 619, 656, 681, 750, 763, 800, 849, 886, 947, 984, 1021, 1046, 1095, 1132, 1157, 1194, 1219, 1256, 1281, 1306, 1319, 1332, 1357, 1370, 1383, 1396], 168) := by decide +kernel
theorem lp_gt {L i : Nat} (hL : L ≤ 3072) (hi : i ≤ 4000) (h : ¬ (Int32.ofNat L - 6 < Int32.ofNat i)) : i + 6 ≤ L := by
  have h1 := Int32.not_lt.mp h
  rw [Int32.le_iff_toInt_le] at h1
  have e1 : (Int32.ofNat i).toInt = (i : Int) := Int32.toInt_ofNat_of_lt (by omega)
  have e2 : (Int32.ofNat L).toInt = (L : Int) := Int32.toInt_ofNat_of_lt (by omega)
  have e3 : (Int32.ofNat L - 6).toInt = (L : Int) - 6 := by
    rw [Int32.toInt_sub, e2, show (6 : Int32).toInt = 6 by decide]
    simp only [Int.bmod]
    omega
  rw [e1, e3] at h1
  omega
theorem l_loop {G : XG} {p : Program} {l : Launch} {e : Env} {s : State} {m : MethodId} {b : Nat} {below : List Frame} {meth : Method} {c : Code} {Q : State → Prop} {L : Nat} {xs : Nat → Int32} (C : XC G 1 599 p s m #[.ref b] c code 7 R_Lw) (hX : va_X b L xs s s.heap) (hbl : b < s.heap.size) (hbA : ¬ xA G 1 599 b) (hL : L ≤ 3072) (hZ : zN (xA G 1 599) s s.heap) (hl0 : l.stackTraces = false) (E : ∀ (σ : LwS) (lv : List (Nat × Value)) (cells slots : Nat), cells ≤ 2000 → slots ≤ 80000 → LJ G p l e room_1 s m #[.ref b] below meth c 7 Q cells slots 1467 lv [] σ) :
    ∀ (j i n cells slots : Nat) (σ : LwS), L ≤ i + j → i = 6 * n → n ≤ 512 → cells ≤ 700 + n → slots ≤ 60000 + 6 * n → NV Vb n σ.1 σ.2.1 → LJ G p l e room_1 s m #[.ref b] below meth c 7 Q cells slots 23 (lvL G b i) [] σ := by
  have head : ∀ (i n cells slots : Nat) (σ : LwS), i = 6 * n → n ≤ 512 → cells ≤ 700 + n → slots ≤ 60000 + 6 * n → NV Vb n σ.1 σ.2.1 → (i + 6 ≤ L → n + 1 ≤ 512 → ∀ σ' : LwS, NV Vb (n + 1) σ'.1 σ'.2.1 → LJ G p l e room_1 s m #[.ref b] below meth c 7 Q (cells + 1) (slots + 6) 23 (lvL G b (i + 6)) [] σ') → LJ G p l e room_1 s m #[.ref b] below meth c 7 Q cells slots 23 (lvL G b i) [] σ := by
    intro i n cells slots σ hin hn hc hs h K0
    refine l_iload C dl_23 4 rfl ?_
    refine l_aload_n C dl_25 0 rfl ?_
    refine l_slen C hX hbl hbA dl_26 ?_
    refine l_bipush (v := 6) C dl_27 (by decide) ?_
    refine l_isub C dl_29 ?_
    refine l_icmp_gt C 1467 dl_30 (by decide) (fun _ => E _ _ _ _ (by omega) (by omega)) (fun q => ?_)
    have hi := lp_gt hL (by omega) q
    have hn1 : n + 1 ≤ 512 := by omega
    have hn2 : n + 1 < 2 ^ 20 := by omega
    have hcs : cells ≤ room_1.cells ∧ slots ≤ room_1.slots := ⟨Nat.le_trans (m := 2000) (by omega) (by decide), Nat.le_trans (m := 80000) (by omega) (by decide)⟩
    have hcs5 : cells + 1 ≤ room_1.cells ∧ slots + 6 ≤ room_1.slots := ⟨Nat.le_trans (m := 2000) (by omega) (by decide), Nat.le_trans (m := 80000) (by omega) (by decide)⟩
    have K : ∀ σ' : LwS, NV Vb (n + 1) σ'.1 σ'.2.1 → LJ G p l e room_1 s m #[.ref b] below meth c 7 Q (cells + 1) (slots + 6) 1461 (lvL G b i) [] σ' := by
      intro σ' h'
      refine l_iinc (v := Int32.ofNat (i + 6)) (lv' := (4, .int (Int32.ofNat (i + 6))) :: [(0, .ref b), (1, .ref (G.2.2.1 + 1)), (2, .ref (G.2.2.1 + 570)), (3, .ref (G.2.2.1 + 598))]) C dl_1461 4 rfl (by rw [Int32.ofNat_add]; rfl) (by decide) rfl ?_
      refine l_goto C 23 dl_1464 (by decide) ?_
      exact l_lv C [1, 2, 3, 4, 0] rfl (K0 hi hn1 σ' h')
    refine l_aload_n C dl_33 0 rfl ?_
    refine l_iload C dl_34 4 rfl ?_
    refine l_sld C hX hbl hbA (by omega) hL dl_36 ?_
    refine l_bipush (v := 63) C dl_37 (by decide) ?_
    refine l_iand C dl_39 ?_
    generalize xs i &&& 63 = x
    by_cases q0 : x.toInt = 0
    · refine l_tableIn C 208 dl_40 (by omega) (by omega) (by rw [q0]; rfl) (by decide) ?_
      exact lc_0 C hX hbl hbA hcs hi hL hn2 h K
    by_cases q1 : x.toInt = 1
    · refine l_tableIn C 281 dl_40 (by omega) (by omega) (by rw [q1]; rfl) (by decide) ?_
      exact lc_1 C hX hbl hbA hcs hi hL hn2 h K
    by_cases q2 : x.toInt = 2
    · refine l_tableIn C 306 dl_40 (by omega) (by omega) (by rw [q2]; rfl) (by decide) ?_
      exact lc_2 C hX hbl hbA hcs hi hL hn2 h K
    by_cases q3 : x.toInt = 3
    · refine l_tableIn C 331 dl_40 (by omega) (by omega) (by rw [q3]; rfl) (by decide) ?_
      exact lc_3 C hX hbl hbA hcs hi hL hn2 h K
    by_cases q4 : x.toInt = 4
    · refine l_tableIn C 356 dl_40 (by omega) (by omega) (by rw [q4]; rfl) (by decide) ?_
      exact lc_4 C hX hbl hbA hcs hi hL hn2 h K
    by_cases q5 : x.toInt = 5
    · refine l_tableIn C 393 dl_40 (by omega) (by omega) (by rw [q5]; rfl) (by decide) ?_
      exact lc_5 C hX hbl hbA hZ hl0 hcs5 hi hL hn2 h K
    by_cases q6 : x.toInt = 6
    · refine l_tableIn C 461 dl_40 (by omega) (by omega) (by rw [q6]; rfl) (by decide) ?_
      exact lc_6 C hX hbl hbA hcs hi hL hn2 h K
    by_cases q7 : x.toInt = 7
    · refine l_tableIn C 498 dl_40 (by omega) (by omega) (by rw [q7]; rfl) (by decide) ?_
      exact lc_7 C hX hbl hbA hcs hi hL hn2 h K
    by_cases q8 : x.toInt = 8
    · refine l_tableIn C 523 dl_40 (by omega) (by omega) (by rw [q8]; rfl) (by decide) ?_
      exact lc_8 C hX hbl hbA hcs hi hL hn2 h K
    by_cases q9 : x.toInt = 9
    · refine l_tableIn C 548 dl_40 (by omega) (by omega) (by rw [q9]; rfl) (by decide) ?_
      exact lc_9 C hX hbl hbA hcs hi hL hn2 h K
    by_cases q10 : x.toInt = 10
    · refine l_tableIn C 585 dl_40 (by omega) (by omega) (by rw [q10]; rfl) (by decide) ?_
      exact lc_10 C hX hbl hbA hcs hi hL hn2 h K
    by_cases q11 : x.toInt = 11
    · refine l_tableIn C 622 dl_40 (by omega) (by omega) (by rw [q11]; rfl) (by decide) ?_
      exact lc_11 C hX hbl hbA hcs hi hL hn2 h K
    by_cases q12 : x.toInt = 12
    · refine l_tableIn C 659 dl_40 (by omega) (by omega) (by rw [q12]; rfl) (by decide) ?_
      exact lc_12 C hX hbl hbA hcs hi hL hn2 h K
    by_cases q13 : x.toInt = 13
    · refine l_tableIn C 696 dl_40 (by omega) (by omega) (by rw [q13]; rfl) (by decide) ?_
      exact lc_13 C hX hbl hbA hcs hi hL hn2 h K
    by_cases q14 : x.toInt = 14
    · refine l_tableIn C 721 dl_40 (by omega) (by omega) (by rw [q14]; rfl) (by decide) ?_
      exact lc_14 C hX hbl hbA hcs hi hL hn2 h K
    by_cases q15 : x.toInt = 15
    · refine l_tableIn C 790 dl_40 (by omega) (by omega) (by rw [q15]; rfl) (by decide) ?_
      exact lc_15 C hX hbl hbA hcs hi hL hn2 h K
    by_cases q16 : x.toInt = 16
    · refine l_tableIn C 803 dl_40 (by omega) (by omega) (by rw [q16]; rfl) (by decide) ?_
      exact lc_16 C hX hbl hbA hcs hi hL hn2 h K
    by_cases q17 : x.toInt = 17
    · refine l_tableIn C 840 dl_40 (by omega) (by omega) (by rw [q17]; rfl) (by decide) ?_
      exact lc_17 C hX hbl hbA hcs hi hL hn2 h K
    by_cases q18 : x.toInt = 18
    · refine l_tableIn C 889 dl_40 (by omega) (by omega) (by rw [q18]; rfl) (by decide) ?_
      exact lc_18 C hX hbl hbA hcs hi hL hn2 h K
    by_cases q19 : x.toInt = 19
    · refine l_tableIn C 926 dl_40 (by omega) (by omega) (by rw [q19]; rfl) (by decide) ?_
      exact lc_19 C hX hbl hbA hcs hi hL hn2 h K
    by_cases q20 : x.toInt = 20
    · refine l_tableIn C 987 dl_40 (by omega) (by omega) (by rw [q20]; rfl) (by decide) ?_
      exact lc_20 C hX hbl hbA hcs hi hL hn2 h K
    by_cases q21 : x.toInt = 21
    · refine l_tableIn C 1024 dl_40 (by omega) (by omega) (by rw [q21]; rfl) (by decide) ?_
      exact lc_21 C hX hbl hbA hcs hi hL hn2 h K
    by_cases q22 : x.toInt = 22
    · refine l_tableIn C 1061 dl_40 (by omega) (by omega) (by rw [q22]; rfl) (by decide) ?_
      exact lc_22 C hX hbl hbA hcs hi hL hn2 h K
    by_cases q23 : x.toInt = 23
    · refine l_tableIn C 1086 dl_40 (by omega) (by omega) (by rw [q23]; rfl) (by decide) ?_
      exact lc_23 C hX hbl hbA hcs hi hL hn2 h K
    by_cases q24 : x.toInt = 24
    · refine l_tableIn C 1135 dl_40 (by omega) (by omega) (by rw [q24]; rfl) (by decide) ?_
      exact lc_24 C hX hbl hbA hcs hi hL hn2 h K
    by_cases q25 : x.toInt = 25
    · refine l_tableIn C 1172 dl_40 (by omega) (by omega) (by rw [q25]; rfl) (by decide) ?_
      exact lc_25 C hX hbl hbA hcs hi hL hn2 h K
    by_cases q26 : x.toInt = 26
    · refine l_tableIn C 1197 dl_40 (by omega) (by omega) (by rw [q26]; rfl) (by decide) ?_
      exact lc_26 C hX hbl hbA hcs hi hL hn2 h K
    by_cases q27 : x.toInt = 27
    · refine l_tableIn C 1234 dl_40 (by omega) (by omega) (by rw [q27]; rfl) (by decide) ?_
      exact lc_27 C hX hbl hbA hcs hi hL hn2 h K
    by_cases q28 : x.toInt = 28
    · refine l_tableIn C 1259 dl_40 (by omega) (by omega) (by rw [q28]; rfl) (by decide) ?_
      exact lc_28 C hX hbl hbA hcs hi hL hn2 h K
    by_cases q29 : x.toInt = 29
    · refine l_tableIn C 1296 dl_40 (by omega) (by omega) (by rw [q29]; rfl) (by decide) ?_
      exact lc_29 C hX hbl hbA hcs hi hL hn2 h K
    by_cases q30 : x.toInt = 30
    · refine l_tableIn C 1321 dl_40 (by omega) (by omega) (by rw [q30]; rfl) (by decide) ?_
      exact lc_30 C hX hbl hbA hcs hi hL hn2 h K
    by_cases q31 : x.toInt = 31
    · refine l_tableIn C 1346 dl_40 (by omega) (by omega) (by rw [q31]; rfl) (by decide) ?_
      exact lc_31 C hX hbl hbA hcs hi hL hn2 h K
    by_cases q32 : x.toInt = 32
    · refine l_tableIn C 1359 dl_40 (by omega) (by omega) (by rw [q32]; rfl) (by decide) ?_
      exact lc_32 C hX hbl hbA hcs hi hL hn2 h K
    by_cases q33 : x.toInt = 33
    · refine l_tableIn C 1372 dl_40 (by omega) (by omega) (by rw [q33]; rfl) (by decide) ?_
      exact lc_33 C hX hbl hbA hcs hi hL hn2 h K
    by_cases q34 : x.toInt = 34
    · refine l_tableIn C 1397 dl_40 (by omega) (by omega) (by rw [q34]; rfl) (by decide) ?_
      exact lc_34 C hX hbl hbA hcs hi hL hn2 h K
    by_cases q35 : x.toInt = 35
    · refine l_tableIn C 1410 dl_40 (by omega) (by omega) (by rw [q35]; rfl) (by decide) ?_
      exact lc_35 C hX hbl hbA hcs hi hL hn2 h K
    by_cases q36 : x.toInt = 36
    · refine l_tableIn C 1423 dl_40 (by omega) (by omega) (by rw [q36]; rfl) (by decide) ?_
      exact lc_36 C hX hbl hbA hcs hi hL hn2 h K
    by_cases q37 : x.toInt = 37
    · refine l_tableIn C 1436 dl_40 (by omega) (by omega) (by rw [q37]; rfl) (by decide) ?_
      exact lc_37 C hX hbl hbA hcs hi hL hn2 h K
    have hout : x.toInt < 0 ∨ 37 < x.toInt := by
      refine xts (fun k h1 h2 => ?_)
      have : k = 0 ∨ k = 1 ∨ k = 2 ∨ k = 3 ∨ k = 4 ∨ k = 5 ∨ k = 6 ∨ k = 7 ∨ k = 8 ∨ k = 9 ∨ k = 10 ∨ k = 11 ∨ k = 12 ∨ k = 13 ∨ k = 14 ∨ k = 15 ∨ k = 16 ∨ k = 17 ∨ k = 18 ∨ k = 19 ∨ k = 20 ∨ k = 21 ∨ k = 22 ∨ k = 23 ∨ k = 24 ∨ k = 25 ∨ k = 26 ∨ k = 27 ∨ k = 28 ∨ k = 29 ∨ k = 30 ∨ k = 31 ∨ k = 32 ∨ k = 33 ∨ k = 34 ∨ k = 35 ∨ k = 36 ∨ k = 37 := by omega
      rcases this with rfl | rfl | rfl | rfl | rfl | rfl | rfl | rfl | rfl | rfl | rfl | rfl | rfl | rfl | rfl | rfl | rfl | rfl | rfl | rfl | rfl | rfl | rfl | rfl | rfl | rfl | rfl | rfl | rfl | rfl | rfl | rfl | rfl | rfl | rfl | rfl | rfl | rfl <;> assumption
    refine l_tableOut C 1461 dl_40 hout (by decide) ?_
    exact l_widen (by omega) (by omega) (K σ h.up)
  intro j
  induction j with
  | zero =>
    intro i n cells slots σ hj hin hn hc hs h
    exact head i n cells slots σ hin hn hc hs h (fun hi => by omega)
  | succ j ih =>
    intro i n cells slots σ hj hin hn hc hs h
    exact head i n cells slots σ hin hn hc hs h (fun hi hn1 σ' h' => ih (i + 6) (n + 1) _ _ σ' (by omega) (by omega) hn1 (by omega) (by omega) h')
