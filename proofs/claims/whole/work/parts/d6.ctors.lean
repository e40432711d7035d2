/-! the constructors: contracts -/
theorem d_Tape_init_0 : decode prog_10_method_1_code 0 = .ok (.aload_n 0, 1) := by decide +kernel
theorem d_Tape_init_1 : decode prog_10_method_1_code 1 = .ok (.invokespecial 3, 3) := by decide +kernel
theorem d_Tape_init_4 : decode prog_10_method_1_code 4 = .ok (.aload_n 0, 1) := by decide +kernel
theorem d_Tape_init_5 : decode prog_10_method_1_code 5 = .ok (.sipush 240, 3) := by decide +kernel
theorem d_Tape_init_8 : decode prog_10_method_1_code 8 = .ok (.newarray .int, 2) := by decide +kernel
theorem d_Tape_init_10 : decode prog_10_method_1_code 10 = .ok (.putfield 9, 3) := by decide +kernel
theorem d_Tape_init_13 : decode prog_10_method_1_code 13 = .ok (.aload_n 0, 1) := by decide +kernel
theorem d_Tape_init_14 : decode prog_10_method_1_code 14 = .ok (.iconst 0, 1) := by decide +kernel
theorem d_Tape_init_15 : decode prog_10_method_1_code 15 = .ok (.putfield 15, 3) := by decide +kernel
theorem d_Tape_init_18 : decode prog_10_method_1_code 18 = .ok (.aload_n 0, 1) := by decide +kernel
theorem d_Tape_init_19 : decode prog_10_method_1_code 19 = .ok (.iconst 0, 1) := by decide +kernel
theorem d_Tape_init_20 : decode prog_10_method_1_code 20 = .ok (.putfield 19, 3) := by decide +kernel
theorem d_Tape_init_23 : decode prog_10_method_1_code 23 = .ok (.aload_n 0, 1) := by decide +kernel
theorem d_Tape_init_24 : decode prog_10_method_1_code 24 = .ok (.iconst (-1), 1) := by decide +kernel
theorem d_Tape_init_25 : decode prog_10_method_1_code 25 = .ok (.putfield 22, 3) := by decide +kernel
theorem d_Tape_init_28 : decode prog_10_method_1_code 28 = .ok (.return_, 1) := by decide +kernel
theorem c_Tape_init {G : XG} {hi : Nat} {l : Launch} (hhi : 600 ≤ hi) {E0 : List (Nat × va_E)} : yM G hi l y_Tape_init prog_10_method_1_code 1 1 1 240 [.ref (G.2.2.1 + 2)] 2 ((2, .inr (9, [.null, .int 0, .int 0, .int 0])) :: E0) 3 E0 := by
  refine y_met R_Tape rfl (by decide +kernel) (Nat.le_of_ble_eq_true rfl) fun p e s m below meth c C hN hinit hr hk _ => ?_
  refine y_aload_n C d_Tape_init_0 0 rfl ?_
  refine y_obj C wc_145 wobj_i wobj_c ⟨by decide, by decide⟩ (Nat.le_of_ble_eq_true rfl) d_Tape_init_1 ?_
  refine y_aload_n C d_Tape_init_4 0 rfl ?_
  refine y_sipush (v := 240) C d_Tape_init_5 (by decide) ?_
  refine y_newI (N := 240) (n1 := 3) (c1 := 1) (s1 := 240) C rfl rfl rfl wc_165 (by decide +kernel) (by decide) (by decide) (by decide) (by decide) (by decide) d_Tape_init_8 ?_
  refine y_putF (i := 0) (E1 := ((2, .inr (9, [.ref (G.2.2.1 + 3), .int 0, .int 0, .int 0])) :: E0)) C hinit yp_Tape_9 rfl rfl (Nat.le_of_ble_eq_true rfl) rfl rfl (by omega) d_Tape_init_10 ?_
  refine y_aload_n C d_Tape_init_13 0 rfl ?_
  refine y_iconst (v := 0) C d_Tape_init_14 (by decide) ?_
  refine y_put (i := 0) (E1 := ((2, .inr (9, [.ref (G.2.2.1 + 3), .int 0, .int 0, .int 0])) :: E0)) C yp_Tape_15 rfl rfl (Nat.le_of_ble_eq_true rfl) rfl rfl (by omega) d_Tape_init_15 ?_
  refine y_aload_n C d_Tape_init_18 0 rfl ?_
  refine y_iconst (v := 0) C d_Tape_init_19 (by decide) ?_
  refine y_put (i := 0) (E1 := ((2, .inr (9, [.ref (G.2.2.1 + 3), .int 0, .int 0, .int 0])) :: E0)) C yp_Tape_19 rfl rfl (Nat.le_of_ble_eq_true rfl) rfl rfl (by omega) d_Tape_init_20 ?_
  refine y_aload_n C d_Tape_init_23 0 rfl ?_
  refine y_iconst (v := (-1)) C d_Tape_init_24 (by decide) ?_
  refine y_put (i := 0) (E1 := ((2, .inr (9, [.ref (G.2.2.1 + 3), .int 0, .int 0, .int (-1)])) :: E0)) C yp_Tape_22 rfl rfl (Nat.le_of_ble_eq_true rfl) rfl rfl (by omega) d_Tape_init_25 ?_
  refine y_done C (yE_obj (y := 0) (by decide +kernel) rfl) (fun _ h => h) ?_
  exact y_vret C hN hr hk d_Tape_init_28
theorem d_Room_init_0 : decode prog_8_method_1_code 0 = .ok (.aload_n 0, 1) := by decide +kernel
theorem d_Room_init_1 : decode prog_8_method_1_code 1 = .ok (.invokespecial 3, 3) := by decide +kernel
theorem d_Room_init_4 : decode prog_8_method_1_code 4 = .ok (.aload_n 0, 1) := by decide +kernel
theorem d_Room_init_5 : decode prog_8_method_1_code 5 = .ok (.iconst 0, 1) := by decide +kernel
theorem d_Room_init_6 : decode prog_8_method_1_code 6 = .ok (.putfield 9, 3) := by decide +kernel
theorem d_Room_init_9 : decode prog_8_method_1_code 9 = .ok (.aload_n 0, 1) := by decide +kernel
theorem d_Room_init_10 : decode prog_8_method_1_code 10 = .ok (.iconst 0, 1) := by decide +kernel
theorem d_Room_init_11 : decode prog_8_method_1_code 11 = .ok (.putfield 15, 3) := by decide +kernel
theorem d_Room_init_14 : decode prog_8_method_1_code 14 = .ok (.aload_n 0, 1) := by decide +kernel
theorem d_Room_init_15 : decode prog_8_method_1_code 15 = .ok (.iconst 0, 1) := by decide +kernel
theorem d_Room_init_16 : decode prog_8_method_1_code 16 = .ok (.putfield 18, 3) := by decide +kernel
theorem d_Room_init_19 : decode prog_8_method_1_code 19 = .ok (.aload_n 0, 1) := by decide +kernel
theorem d_Room_init_20 : decode prog_8_method_1_code 20 = .ok (.iconst 0, 1) := by decide +kernel
theorem d_Room_init_21 : decode prog_8_method_1_code 21 = .ok (.putfield 21, 3) := by decide +kernel
theorem d_Room_init_24 : decode prog_8_method_1_code 24 = .ok (.aload_n 0, 1) := by decide +kernel
theorem d_Room_init_25 : decode prog_8_method_1_code 25 = .ok (.bipush 8, 2) := by decide +kernel
theorem d_Room_init_27 : decode prog_8_method_1_code 27 = .ok (.newarray .int, 2) := by decide +kernel
theorem d_Room_init_29 : decode prog_8_method_1_code 29 = .ok (.putfield 24, 3) := by decide +kernel
theorem d_Room_init_32 : decode prog_8_method_1_code 32 = .ok (.aload_n 0, 1) := by decide +kernel
theorem d_Room_init_33 : decode prog_8_method_1_code 33 = .ok (.bipush 8, 2) := by decide +kernel
theorem d_Room_init_35 : decode prog_8_method_1_code 35 = .ok (.newarray .int, 2) := by decide +kernel
theorem d_Room_init_37 : decode prog_8_method_1_code 37 = .ok (.putfield 28, 3) := by decide +kernel
theorem d_Room_init_40 : decode prog_8_method_1_code 40 = .ok (.aload_n 0, 1) := by decide +kernel
theorem d_Room_init_41 : decode prog_8_method_1_code 41 = .ok (.bipush 8, 2) := by decide +kernel
theorem d_Room_init_43 : decode prog_8_method_1_code 43 = .ok (.newarray .int, 2) := by decide +kernel
theorem d_Room_init_45 : decode prog_8_method_1_code 45 = .ok (.putfield 31, 3) := by decide +kernel
theorem d_Room_init_48 : decode prog_8_method_1_code 48 = .ok (.aload_n 0, 1) := by decide +kernel
theorem d_Room_init_49 : decode prog_8_method_1_code 49 = .ok (.bipush 8, 2) := by decide +kernel
theorem d_Room_init_51 : decode prog_8_method_1_code 51 = .ok (.newarray .int, 2) := by decide +kernel
theorem d_Room_init_53 : decode prog_8_method_1_code 53 = .ok (.putfield 34, 3) := by decide +kernel
theorem d_Room_init_56 : decode prog_8_method_1_code 56 = .ok (.aload_n 0, 1) := by decide +kernel
theorem d_Room_init_57 : decode prog_8_method_1_code 57 = .ok (.bipush 8, 2) := by decide +kernel
theorem d_Room_init_59 : decode prog_8_method_1_code 59 = .ok (.newarray .int, 2) := by decide +kernel
theorem d_Room_init_61 : decode prog_8_method_1_code 61 = .ok (.putfield 37, 3) := by decide +kernel
theorem d_Room_init_64 : decode prog_8_method_1_code 64 = .ok (.aload_n 0, 1) := by decide +kernel
theorem d_Room_init_65 : decode prog_8_method_1_code 65 = .ok (.bipush 8, 2) := by decide +kernel
theorem d_Room_init_67 : decode prog_8_method_1_code 67 = .ok (.newarray .int, 2) := by decide +kernel
theorem d_Room_init_69 : decode prog_8_method_1_code 69 = .ok (.putfield 40, 3) := by decide +kernel
theorem d_Room_init_72 : decode prog_8_method_1_code 72 = .ok (.aload_n 0, 1) := by decide +kernel
theorem d_Room_init_73 : decode prog_8_method_1_code 73 = .ok (.bipush 8, 2) := by decide +kernel
theorem d_Room_init_75 : decode prog_8_method_1_code 75 = .ok (.newarray .int, 2) := by decide +kernel
theorem d_Room_init_77 : decode prog_8_method_1_code 77 = .ok (.putfield 43, 3) := by decide +kernel
theorem d_Room_init_80 : decode prog_8_method_1_code 80 = .ok (.aload_n 0, 1) := by decide +kernel
theorem d_Room_init_81 : decode prog_8_method_1_code 81 = .ok (.bipush 10, 2) := by decide +kernel
theorem d_Room_init_83 : decode prog_8_method_1_code 83 = .ok (.newarray .int, 2) := by decide +kernel
theorem d_Room_init_85 : decode prog_8_method_1_code 85 = .ok (.putfield 46, 3) := by decide +kernel
theorem d_Room_init_88 : decode prog_8_method_1_code 88 = .ok (.aload_n 0, 1) := by decide +kernel
theorem d_Room_init_89 : decode prog_8_method_1_code 89 = .ok (.bipush 10, 2) := by decide +kernel
theorem d_Room_init_91 : decode prog_8_method_1_code 91 = .ok (.newarray .int, 2) := by decide +kernel
theorem d_Room_init_93 : decode prog_8_method_1_code 93 = .ok (.putfield 49, 3) := by decide +kernel
theorem d_Room_init_96 : decode prog_8_method_1_code 96 = .ok (.aload_n 0, 1) := by decide +kernel
theorem d_Room_init_97 : decode prog_8_method_1_code 97 = .ok (.bipush 10, 2) := by decide +kernel
theorem d_Room_init_99 : decode prog_8_method_1_code 99 = .ok (.newarray .int, 2) := by decide +kernel
theorem d_Room_init_101 : decode prog_8_method_1_code 101 = .ok (.putfield 52, 3) := by decide +kernel
theorem d_Room_init_104 : decode prog_8_method_1_code 104 = .ok (.aload_n 0, 1) := by decide +kernel
theorem d_Room_init_105 : decode prog_8_method_1_code 105 = .ok (.iconst 0, 1) := by decide +kernel
theorem d_Room_init_106 : decode prog_8_method_1_code 106 = .ok (.putfield 55, 3) := by decide +kernel
theorem d_Room_init_109 : decode prog_8_method_1_code 109 = .ok (.aload_n 0, 1) := by decide +kernel
theorem d_Room_init_110 : decode prog_8_method_1_code 110 = .ok (.iconst 0, 1) := by decide +kernel
theorem d_Room_init_111 : decode prog_8_method_1_code 111 = .ok (.putfield 58, 3) := by decide +kernel
theorem d_Room_init_114 : decode prog_8_method_1_code 114 = .ok (.return_, 1) := by decide +kernel
theorem c_Room_init {G : XG} {hi : Nat} {l : Launch} (hhi : 600 ≤ hi) {rm : Nat} (hrm : rm ∈ xRooms) {E0 : List (Nat × va_E)} : yM G hi l y_Room_init prog_8_method_1_code 1 1 10 86 [.ref (G.2.2.1 + rm)] rm ((rm, .inr (7, [.int 0, .int 0, .int 0, .int 0, .null, .null, .null, .null, .null, .null, .null, .null, .null, .null, .int 0, .int 0])) :: E0) (rm + 10) E0 := by
  refine y_met R_Room rfl (by decide +kernel) (Nat.le_of_ble_eq_true rfl) fun p e s m below meth c C hN hinit hr hk _ => ?_
  refine y_aload_n C d_Room_init_0 0 rfl ?_
  refine y_obj C wc_171 wobj_i wobj_c ⟨by decide, by decide⟩ (Nat.le_of_ble_eq_true rfl) d_Room_init_1 ?_
  refine y_aload_n C d_Room_init_4 0 rfl ?_
  refine y_iconst (v := 0) C d_Room_init_5 (by decide) ?_
  refine y_put (i := 0) (E1 := ((rm, .inr (7, [.int 0, .int 0, .int 0, .int 0, .null, .null, .null, .null, .null, .null, .null, .null, .null, .null, .int 0, .int 0])) :: E0)) C yp_Room_9 rfl rfl (Nat.le_of_ble_eq_true rfl) rfl rfl (by have := (rm_0 hrm).2.2; omega) d_Room_init_6 ?_
  refine y_aload_n C d_Room_init_9 0 rfl ?_
  refine y_iconst (v := 0) C d_Room_init_10 (by decide) ?_
  refine y_put (i := 0) (E1 := ((rm, .inr (7, [.int 0, .int 0, .int 0, .int 0, .null, .null, .null, .null, .null, .null, .null, .null, .null, .null, .int 0, .int 0])) :: E0)) C yp_Room_15 rfl rfl (Nat.le_of_ble_eq_true rfl) rfl rfl (by have := (rm_0 hrm).2.2; omega) d_Room_init_11 ?_
  refine y_aload_n C d_Room_init_14 0 rfl ?_
  refine y_iconst (v := 0) C d_Room_init_15 (by decide) ?_
  refine y_put (i := 0) (E1 := ((rm, .inr (7, [.int 0, .int 0, .int 0, .int 0, .null, .null, .null, .null, .null, .null, .null, .null, .null, .null, .int 0, .int 0])) :: E0)) C yp_Room_18 rfl rfl (Nat.le_of_ble_eq_true rfl) rfl rfl (by have := (rm_0 hrm).2.2; omega) d_Room_init_16 ?_
  refine y_aload_n C d_Room_init_19 0 rfl ?_
  refine y_iconst (v := 0) C d_Room_init_20 (by decide) ?_
  refine y_put (i := 0) (E1 := ((rm, .inr (7, [.int 0, .int 0, .int 0, .int 0, .null, .null, .null, .null, .null, .null, .null, .null, .null, .null, .int 0, .int 0])) :: E0)) C yp_Room_21 rfl rfl (Nat.le_of_ble_eq_true rfl) rfl rfl (by have := (rm_0 hrm).2.2; omega) d_Room_init_21 ?_
  refine y_aload_n C d_Room_init_24 0 rfl ?_
  refine y_bipush (v := 8) C d_Room_init_25 (by decide) ?_
  refine y_newI (N := 8) (n1 := rm + 1) (c1 := 1) (s1 := 8) C rfl rfl rfl wc_165 (rm_1 hrm).1 (by decide) (by decide) (by decide) (by decide) (by decide) d_Room_init_27 ?_
  refine y_putF (i := 0) (E1 := ((rm, .inr (7, [.int 0, .int 0, .int 0, .int 0, .ref (G.2.2.1 + (rm + 1)), .null, .null, .null, .null, .null, .null, .null, .null, .null, .int 0, .int 0])) :: E0)) C hinit yp_Room_24 rfl rfl (Nat.le_of_ble_eq_true rfl) rfl rfl (by have := (rm_0 hrm).2.2; omega) d_Room_init_29 ?_
  refine y_aload_n C d_Room_init_32 0 rfl ?_
  refine y_bipush (v := 8) C d_Room_init_33 (by decide) ?_
  refine y_newI (N := 8) (n1 := rm + 2) (c1 := 2) (s1 := 16) C rfl rfl rfl wc_165 (rm_2 hrm).1 (by decide) (by decide) (by decide) (by decide) (by decide) d_Room_init_35 ?_
  refine y_putF (i := 0) (E1 := ((rm, .inr (7, [.int 0, .int 0, .int 0, .int 0, .ref (G.2.2.1 + (rm + 1)), .ref (G.2.2.1 + (rm + 2)), .null, .null, .null, .null, .null, .null, .null, .null, .int 0, .int 0])) :: E0)) C hinit yp_Room_28 rfl rfl (Nat.le_of_ble_eq_true rfl) rfl rfl (by have := (rm_0 hrm).2.2; omega) d_Room_init_37 ?_
  refine y_aload_n C d_Room_init_40 0 rfl ?_
  refine y_bipush (v := 8) C d_Room_init_41 (by decide) ?_
  refine y_newI (N := 8) (n1 := rm + 3) (c1 := 3) (s1 := 24) C rfl rfl rfl wc_165 (rm_3 hrm).1 (by decide) (by decide) (by decide) (by decide) (by decide) d_Room_init_43 ?_
  refine y_putF (i := 0) (E1 := ((rm, .inr (7, [.int 0, .int 0, .int 0, .int 0, .ref (G.2.2.1 + (rm + 1)), .ref (G.2.2.1 + (rm + 2)), .ref (G.2.2.1 + (rm + 3)), .null, .null, .null, .null, .null, .null, .null, .int 0, .int 0])) :: E0)) C hinit yp_Room_31 rfl rfl (Nat.le_of_ble_eq_true rfl) rfl rfl (by have := (rm_0 hrm).2.2; omega) d_Room_init_45 ?_
  refine y_aload_n C d_Room_init_48 0 rfl ?_
  refine y_bipush (v := 8) C d_Room_init_49 (by decide) ?_
  refine y_newI (N := 8) (n1 := rm + 4) (c1 := 4) (s1 := 32) C rfl rfl rfl wc_165 (rm_4 hrm).1 (by decide) (by decide) (by decide) (by decide) (by decide) d_Room_init_51 ?_
  refine y_putF (i := 0) (E1 := ((rm, .inr (7, [.int 0, .int 0, .int 0, .int 0, .ref (G.2.2.1 + (rm + 1)), .ref (G.2.2.1 + (rm + 2)), .ref (G.2.2.1 + (rm + 3)), .ref (G.2.2.1 + (rm + 4)), .null, .null, .null, .null, .null, .null, .int 0, .int 0])) :: E0)) C hinit yp_Room_34 rfl rfl (Nat.le_of_ble_eq_true rfl) rfl rfl (by have := (rm_0 hrm).2.2; omega) d_Room_init_53 ?_
  refine y_aload_n C d_Room_init_56 0 rfl ?_
  refine y_bipush (v := 8) C d_Room_init_57 (by decide) ?_
  refine y_newI (N := 8) (n1 := rm + 5) (c1 := 5) (s1 := 40) C rfl rfl rfl wc_165 (rm_5 hrm).1 (by decide) (by decide) (by decide) (by decide) (by decide) d_Room_init_59 ?_
  refine y_putF (i := 0) (E1 := ((rm, .inr (7, [.int 0, .int 0, .int 0, .int 0, .ref (G.2.2.1 + (rm + 1)), .ref (G.2.2.1 + (rm + 2)), .ref (G.2.2.1 + (rm + 3)), .ref (G.2.2.1 + (rm + 4)), .ref (G.2.2.1 + (rm + 5)), .null, .null, .null, .null, .null, .int 0, .int 0])) :: E0)) C hinit yp_Room_37 rfl rfl (Nat.le_of_ble_eq_true rfl) rfl rfl (by have := (rm_0 hrm).2.2; omega) d_Room_init_61 ?_
  refine y_aload_n C d_Room_init_64 0 rfl ?_
  refine y_bipush (v := 8) C d_Room_init_65 (by decide) ?_
  refine y_newI (N := 8) (n1 := rm + 6) (c1 := 6) (s1 := 48) C rfl rfl rfl wc_165 (rm_6 hrm).1 (by decide) (by decide) (by decide) (by decide) (by decide) d_Room_init_67 ?_
  refine y_putF (i := 0) (E1 := ((rm, .inr (7, [.int 0, .int 0, .int 0, .int 0, .ref (G.2.2.1 + (rm + 1)), .ref (G.2.2.1 + (rm + 2)), .ref (G.2.2.1 + (rm + 3)), .ref (G.2.2.1 + (rm + 4)), .ref (G.2.2.1 + (rm + 5)), .ref (G.2.2.1 + (rm + 6)), .null, .null, .null, .null, .int 0, .int 0])) :: E0)) C hinit yp_Room_40 rfl rfl (Nat.le_of_ble_eq_true rfl) rfl rfl (by have := (rm_0 hrm).2.2; omega) d_Room_init_69 ?_
  refine y_aload_n C d_Room_init_72 0 rfl ?_
  refine y_bipush (v := 8) C d_Room_init_73 (by decide) ?_
  refine y_newI (N := 8) (n1 := rm + 7) (c1 := 7) (s1 := 56) C rfl rfl rfl wc_165 (rm_7 hrm).1 (by decide) (by decide) (by decide) (by decide) (by decide) d_Room_init_75 ?_
  refine y_putF (i := 0) (E1 := ((rm, .inr (7, [.int 0, .int 0, .int 0, .int 0, .ref (G.2.2.1 + (rm + 1)), .ref (G.2.2.1 + (rm + 2)), .ref (G.2.2.1 + (rm + 3)), .ref (G.2.2.1 + (rm + 4)), .ref (G.2.2.1 + (rm + 5)), .ref (G.2.2.1 + (rm + 6)), .ref (G.2.2.1 + (rm + 7)), .null, .null, .null, .int 0, .int 0])) :: E0)) C hinit yp_Room_43 rfl rfl (Nat.le_of_ble_eq_true rfl) rfl rfl (by have := (rm_0 hrm).2.2; omega) d_Room_init_77 ?_
  refine y_aload_n C d_Room_init_80 0 rfl ?_
  refine y_bipush (v := 10) C d_Room_init_81 (by decide) ?_
  refine y_newI (N := 10) (n1 := rm + 8) (c1 := 8) (s1 := 66) C rfl rfl rfl wc_165 (rm_8 hrm).1 (by decide) (by decide) (by decide) (by decide) (by decide) d_Room_init_83 ?_
  refine y_putF (i := 0) (E1 := ((rm, .inr (7, [.int 0, .int 0, .int 0, .int 0, .ref (G.2.2.1 + (rm + 1)), .ref (G.2.2.1 + (rm + 2)), .ref (G.2.2.1 + (rm + 3)), .ref (G.2.2.1 + (rm + 4)), .ref (G.2.2.1 + (rm + 5)), .ref (G.2.2.1 + (rm + 6)), .ref (G.2.2.1 + (rm + 7)), .ref (G.2.2.1 + (rm + 8)), .null, .null, .int 0, .int 0])) :: E0)) C hinit yp_Room_46 rfl rfl (Nat.le_of_ble_eq_true rfl) rfl rfl (by have := (rm_0 hrm).2.2; omega) d_Room_init_85 ?_
  refine y_aload_n C d_Room_init_88 0 rfl ?_
  refine y_bipush (v := 10) C d_Room_init_89 (by decide) ?_
  refine y_newI (N := 10) (n1 := rm + 9) (c1 := 9) (s1 := 76) C rfl rfl rfl wc_165 (rm_9 hrm).1 (by decide) (by decide) (by decide) (by decide) (by decide) d_Room_init_91 ?_
  refine y_putF (i := 0) (E1 := ((rm, .inr (7, [.int 0, .int 0, .int 0, .int 0, .ref (G.2.2.1 + (rm + 1)), .ref (G.2.2.1 + (rm + 2)), .ref (G.2.2.1 + (rm + 3)), .ref (G.2.2.1 + (rm + 4)), .ref (G.2.2.1 + (rm + 5)), .ref (G.2.2.1 + (rm + 6)), .ref (G.2.2.1 + (rm + 7)), .ref (G.2.2.1 + (rm + 8)), .ref (G.2.2.1 + (rm + 9)), .null, .int 0, .int 0])) :: E0)) C hinit yp_Room_49 rfl rfl (Nat.le_of_ble_eq_true rfl) rfl rfl (by have := (rm_0 hrm).2.2; omega) d_Room_init_93 ?_
  refine y_aload_n C d_Room_init_96 0 rfl ?_
  refine y_bipush (v := 10) C d_Room_init_97 (by decide) ?_
  refine y_newI (N := 10) (n1 := rm + 10) (c1 := 10) (s1 := 86) C rfl rfl rfl wc_165 (rm_10 hrm).1 (by decide) (by decide) (by decide) (by decide) (by decide) d_Room_init_99 ?_
  refine y_putF (i := 0) (E1 := ((rm, .inr (7, [.int 0, .int 0, .int 0, .int 0, .ref (G.2.2.1 + (rm + 1)), .ref (G.2.2.1 + (rm + 2)), .ref (G.2.2.1 + (rm + 3)), .ref (G.2.2.1 + (rm + 4)), .ref (G.2.2.1 + (rm + 5)), .ref (G.2.2.1 + (rm + 6)), .ref (G.2.2.1 + (rm + 7)), .ref (G.2.2.1 + (rm + 8)), .ref (G.2.2.1 + (rm + 9)), .ref (G.2.2.1 + (rm + 10)), .int 0, .int 0])) :: E0)) C hinit yp_Room_52 rfl rfl (Nat.le_of_ble_eq_true rfl) rfl rfl (by have := (rm_0 hrm).2.2; omega) d_Room_init_101 ?_
  refine y_aload_n C d_Room_init_104 0 rfl ?_
  refine y_iconst (v := 0) C d_Room_init_105 (by decide) ?_
  refine y_put (i := 0) (E1 := ((rm, .inr (7, [.int 0, .int 0, .int 0, .int 0, .ref (G.2.2.1 + (rm + 1)), .ref (G.2.2.1 + (rm + 2)), .ref (G.2.2.1 + (rm + 3)), .ref (G.2.2.1 + (rm + 4)), .ref (G.2.2.1 + (rm + 5)), .ref (G.2.2.1 + (rm + 6)), .ref (G.2.2.1 + (rm + 7)), .ref (G.2.2.1 + (rm + 8)), .ref (G.2.2.1 + (rm + 9)), .ref (G.2.2.1 + (rm + 10)), .int 0, .int 0])) :: E0)) C yp_Room_55 rfl rfl (Nat.le_of_ble_eq_true rfl) rfl rfl (by have := (rm_0 hrm).2.2; omega) d_Room_init_106 ?_
  refine y_aload_n C d_Room_init_109 0 rfl ?_
  refine y_iconst (v := 0) C d_Room_init_110 (by decide) ?_
  refine y_put (i := 0) (E1 := ((rm, .inr (7, [.int 0, .int 0, .int 0, .int 0, .ref (G.2.2.1 + (rm + 1)), .ref (G.2.2.1 + (rm + 2)), .ref (G.2.2.1 + (rm + 3)), .ref (G.2.2.1 + (rm + 4)), .ref (G.2.2.1 + (rm + 5)), .ref (G.2.2.1 + (rm + 6)), .ref (G.2.2.1 + (rm + 7)), .ref (G.2.2.1 + (rm + 8)), .ref (G.2.2.1 + (rm + 9)), .ref (G.2.2.1 + (rm + 10)), .int 0, .int 0])) :: E0)) C yp_Room_58 rfl rfl (Nat.le_of_ble_eq_true rfl) rfl rfl (by have := (rm_0 hrm).2.2; omega) d_Room_init_111 ?_
  refine y_done C (yE_obj (y := 0) (rm_0 hrm).1 rfl) (fun _ h => h) ?_
  exact y_vret C hN hr hk d_Room_init_114
theorem d_Taste_init_0 : decode prog_11_method_1_code 0 = .ok (.aload_n 0, 1) := by decide +kernel
theorem d_Taste_init_1 : decode prog_11_method_1_code 1 = .ok (.invokespecial 3, 3) := by decide +kernel
theorem d_Taste_init_4 : decode prog_11_method_1_code 4 = .ok (.aload_n 0, 1) := by decide +kernel
theorem d_Taste_init_5 : decode prog_11_method_1_code 5 = .ok (.sipush 480, 3) := by decide +kernel
theorem d_Taste_init_8 : decode prog_11_method_1_code 8 = .ok (.newarray .int, 2) := by decide +kernel
theorem d_Taste_init_10 : decode prog_11_method_1_code 10 = .ok (.putfield 11, 3) := by decide +kernel
theorem d_Taste_init_13 : decode prog_11_method_1_code 13 = .ok (.aload_n 0, 1) := by decide +kernel
theorem d_Taste_init_14 : decode prog_11_method_1_code 14 = .ok (.iconst 0, 1) := by decide +kernel
theorem d_Taste_init_15 : decode prog_11_method_1_code 15 = .ok (.putfield 15, 3) := by decide +kernel
theorem d_Taste_init_18 : decode prog_11_method_1_code 18 = .ok (.aload_n 0, 1) := by decide +kernel
theorem d_Taste_init_19 : decode prog_11_method_1_code 19 = .ok (.bipush 64, 2) := by decide +kernel
theorem d_Taste_init_21 : decode prog_11_method_1_code 21 = .ok (.newarray .int, 2) := by decide +kernel
theorem d_Taste_init_23 : decode prog_11_method_1_code 23 = .ok (.putfield 19, 3) := by decide +kernel
theorem d_Taste_init_26 : decode prog_11_method_1_code 26 = .ok (.aload_n 0, 1) := by decide +kernel
theorem d_Taste_init_27 : decode prog_11_method_1_code 27 = .ok (.iconst 0, 1) := by decide +kernel
theorem d_Taste_init_28 : decode prog_11_method_1_code 28 = .ok (.putfield 22, 3) := by decide +kernel
theorem d_Taste_init_31 : decode prog_11_method_1_code 31 = .ok (.return_, 1) := by decide +kernel
theorem c_Taste_init {G : XG} {hi : Nat} {l : Launch} (hhi : 600 ≤ hi) {t : Nat} (ht : t ∈ xTastes) {E0 : List (Nat × va_E)} : yM G hi l y_Taste_init prog_11_method_1_code 1 1 2 544 [.ref (G.2.2.1 + t)] t ((t, .inr (10, [.null, .int 0, .null, .int 0])) :: E0) (t + 2) E0 := by
  refine y_met R_Taste rfl (by decide +kernel) (Nat.le_of_ble_eq_true rfl) fun p e s m below meth c C hN hinit hr hk _ => ?_
  refine y_aload_n C d_Taste_init_0 0 rfl ?_
  refine y_obj C wc_296 wobj_i wobj_c ⟨by decide, by decide⟩ (Nat.le_of_ble_eq_true rfl) d_Taste_init_1 ?_
  refine y_aload_n C d_Taste_init_4 0 rfl ?_
  refine y_sipush (v := 480) C d_Taste_init_5 (by decide) ?_
  refine y_newI (N := 480) (n1 := t + 1) (c1 := 1) (s1 := 480) C rfl rfl rfl wc_165 (ta_1 ht).1 (by decide) (by decide) (by decide) (by decide) (by decide) d_Taste_init_8 ?_
  refine y_putF (i := 0) (E1 := ((t, .inr (10, [.ref (G.2.2.1 + (t + 1)), .int 0, .null, .int 0])) :: E0)) C hinit yp_Taste_11 rfl rfl (Nat.le_of_ble_eq_true rfl) rfl rfl (by have := (ta_0 ht).2.2; omega) d_Taste_init_10 ?_
  refine y_aload_n C d_Taste_init_13 0 rfl ?_
  refine y_iconst (v := 0) C d_Taste_init_14 (by decide) ?_
  refine y_put (i := 0) (E1 := ((t, .inr (10, [.ref (G.2.2.1 + (t + 1)), .int 0, .null, .int 0])) :: E0)) C yp_Taste_15 rfl rfl (Nat.le_of_ble_eq_true rfl) rfl rfl (by have := (ta_0 ht).2.2; omega) d_Taste_init_15 ?_
  refine y_aload_n C d_Taste_init_18 0 rfl ?_
  refine y_bipush (v := 64) C d_Taste_init_19 (by decide) ?_
  refine y_newI (N := 64) (n1 := t + 2) (c1 := 2) (s1 := 544) C rfl rfl rfl wc_165 (ta_2 ht).1 (by decide) (by decide) (by decide) (by decide) (by decide) d_Taste_init_21 ?_
  refine y_putF (i := 0) (E1 := ((t, .inr (10, [.ref (G.2.2.1 + (t + 1)), .int 0, .ref (G.2.2.1 + (t + 2)), .int 0])) :: E0)) C hinit yp_Taste_19 rfl rfl (Nat.le_of_ble_eq_true rfl) rfl rfl (by have := (ta_0 ht).2.2; omega) d_Taste_init_23 ?_
  refine y_aload_n C d_Taste_init_26 0 rfl ?_
  refine y_iconst (v := 0) C d_Taste_init_27 (by decide) ?_
  refine y_put (i := 0) (E1 := ((t, .inr (10, [.ref (G.2.2.1 + (t + 1)), .int 0, .ref (G.2.2.1 + (t + 2)), .int 0])) :: E0)) C yp_Taste_22 rfl rfl (Nat.le_of_ble_eq_true rfl) rfl rfl (by have := (ta_0 ht).2.2; omega) d_Taste_init_28 ?_
  refine y_done C (yE_obj (y := 0) (ta_0 ht).1 rfl) (fun _ h => h) ?_
  exact y_vret C hN hr hk d_Taste_init_31
theorem d_Hall_init_0 : decode prog_6_method_1_code 0 = .ok (.aload_n 0, 1) := by decide +kernel
theorem d_Hall_init_1 : decode prog_6_method_1_code 1 = .ok (.invokespecial 3, 3) := by decide +kernel
theorem d_Hall_init_4 : decode prog_6_method_1_code 4 = .ok (.aload_n 0, 1) := by decide +kernel
theorem d_Hall_init_5 : decode prog_6_method_1_code 5 = .ok (.bipush 8, 2) := by decide +kernel
theorem d_Hall_init_7 : decode prog_6_method_1_code 7 = .ok (.newarray .int, 2) := by decide +kernel
theorem d_Hall_init_9 : decode prog_6_method_1_code 9 = .ok (.putfield 9, 3) := by decide +kernel
theorem d_Hall_init_12 : decode prog_6_method_1_code 12 = .ok (.aload_n 0, 1) := by decide +kernel
theorem d_Hall_init_13 : decode prog_6_method_1_code 13 = .ok (.bipush 8, 2) := by decide +kernel
theorem d_Hall_init_15 : decode prog_6_method_1_code 15 = .ok (.newarray .int, 2) := by decide +kernel
theorem d_Hall_init_17 : decode prog_6_method_1_code 17 = .ok (.putfield 15, 3) := by decide +kernel
theorem d_Hall_init_20 : decode prog_6_method_1_code 20 = .ok (.aload_n 0, 1) := by decide +kernel
theorem d_Hall_init_21 : decode prog_6_method_1_code 21 = .ok (.bipush 8, 2) := by decide +kernel
theorem d_Hall_init_23 : decode prog_6_method_1_code 23 = .ok (.newarray .int, 2) := by decide +kernel
theorem d_Hall_init_25 : decode prog_6_method_1_code 25 = .ok (.putfield 18, 3) := by decide +kernel
theorem d_Hall_init_28 : decode prog_6_method_1_code 28 = .ok (.aload_n 0, 1) := by decide +kernel
theorem d_Hall_init_29 : decode prog_6_method_1_code 29 = .ok (.bipush 8, 2) := by decide +kernel
theorem d_Hall_init_31 : decode prog_6_method_1_code 31 = .ok (.newarray .int, 2) := by decide +kernel
theorem d_Hall_init_33 : decode prog_6_method_1_code 33 = .ok (.putfield 21, 3) := by decide +kernel
theorem d_Hall_init_36 : decode prog_6_method_1_code 36 = .ok (.aload_n 0, 1) := by decide +kernel
theorem d_Hall_init_37 : decode prog_6_method_1_code 37 = .ok (.bipush 8, 2) := by decide +kernel
theorem d_Hall_init_39 : decode prog_6_method_1_code 39 = .ok (.newarray .int, 2) := by decide +kernel
theorem d_Hall_init_41 : decode prog_6_method_1_code 41 = .ok (.putfield 24, 3) := by decide +kernel
theorem d_Hall_init_44 : decode prog_6_method_1_code 44 = .ok (.aload_n 0, 1) := by decide +kernel
theorem d_Hall_init_45 : decode prog_6_method_1_code 45 = .ok (.bipush 8, 2) := by decide +kernel
theorem d_Hall_init_47 : decode prog_6_method_1_code 47 = .ok (.newarray .int, 2) := by decide +kernel
theorem d_Hall_init_49 : decode prog_6_method_1_code 49 = .ok (.putfield 27, 3) := by decide +kernel
theorem d_Hall_init_52 : decode prog_6_method_1_code 52 = .ok (.aload_n 0, 1) := by decide +kernel
theorem d_Hall_init_53 : decode prog_6_method_1_code 53 = .ok (.bipush 8, 2) := by decide +kernel
theorem d_Hall_init_55 : decode prog_6_method_1_code 55 = .ok (.newarray .int, 2) := by decide +kernel
theorem d_Hall_init_57 : decode prog_6_method_1_code 57 = .ok (.putfield 30, 3) := by decide +kernel
theorem d_Hall_init_60 : decode prog_6_method_1_code 60 = .ok (.aload_n 0, 1) := by decide +kernel
theorem d_Hall_init_61 : decode prog_6_method_1_code 61 = .ok (.iconst 0, 1) := by decide +kernel
theorem d_Hall_init_62 : decode prog_6_method_1_code 62 = .ok (.putfield 33, 3) := by decide +kernel
theorem d_Hall_init_65 : decode prog_6_method_1_code 65 = .ok (.aload_n 0, 1) := by decide +kernel
theorem d_Hall_init_66 : decode prog_6_method_1_code 66 = .ok (.iconst 0, 1) := by decide +kernel
theorem d_Hall_init_67 : decode prog_6_method_1_code 67 = .ok (.putfield 37, 3) := by decide +kernel
theorem d_Hall_init_70 : decode prog_6_method_1_code 70 = .ok (.aload_n 0, 1) := by decide +kernel
theorem d_Hall_init_71 : decode prog_6_method_1_code 71 = .ok (.sipush 240, 3) := by decide +kernel
theorem d_Hall_init_74 : decode prog_6_method_1_code 74 = .ok (.newarray .int, 2) := by decide +kernel
theorem d_Hall_init_76 : decode prog_6_method_1_code 76 = .ok (.putfield 40, 3) := by decide +kernel
theorem d_Hall_init_79 : decode prog_6_method_1_code 79 = .ok (.aload_n 0, 1) := by decide +kernel
theorem d_Hall_init_80 : decode prog_6_method_1_code 80 = .ok (.iconst (-1), 1) := by decide +kernel
theorem d_Hall_init_81 : decode prog_6_method_1_code 81 = .ok (.putfield 43, 3) := by decide +kernel
theorem d_Hall_init_84 : decode prog_6_method_1_code 84 = .ok (.return_, 1) := by decide +kernel
theorem c_Hall_init {G : XG} {hi : Nat} {l : Launch} (hhi : 600 ≤ hi) {h : Nat} (hh : h ∈ xHalls) {E0 : List (Nat × va_E)} : yM G hi l y_Hall_init prog_6_method_1_code 1 1 8 296 [.ref (G.2.2.1 + h)] h ((h, .inr (5, [.null, .null, .null, .null, .null, .null, .null, .int 0, .int 0, .null, .int 0])) :: E0) (h + 8) E0 := by
  refine y_met R_Hall rfl (by decide +kernel) (Nat.le_of_ble_eq_true rfl) fun p e s m below meth c C hN hinit hr hk _ => ?_
  refine y_aload_n C d_Hall_init_0 0 rfl ?_
  refine y_obj C wc_392 wobj_i wobj_c ⟨by decide, by decide⟩ (Nat.le_of_ble_eq_true rfl) d_Hall_init_1 ?_
  refine y_aload_n C d_Hall_init_4 0 rfl ?_
  refine y_bipush (v := 8) C d_Hall_init_5 (by decide) ?_
  refine y_newI (N := 8) (n1 := h + 1) (c1 := 1) (s1 := 8) C rfl rfl rfl wc_165 (hl_1 hh).1 (by decide) (by decide) (by decide) (by decide) (by decide) d_Hall_init_7 ?_
  refine y_putF (i := 0) (E1 := ((h, .inr (5, [.ref (G.2.2.1 + (h + 1)), .null, .null, .null, .null, .null, .null, .int 0, .int 0, .null, .int 0])) :: E0)) C hinit yp_Hall_9 rfl rfl (Nat.le_of_ble_eq_true rfl) rfl rfl (by have := (hl_0 hh).2.2; omega) d_Hall_init_9 ?_
  refine y_aload_n C d_Hall_init_12 0 rfl ?_
  refine y_bipush (v := 8) C d_Hall_init_13 (by decide) ?_
  refine y_newI (N := 8) (n1 := h + 2) (c1 := 2) (s1 := 16) C rfl rfl rfl wc_165 (hl_2 hh).1 (by decide) (by decide) (by decide) (by decide) (by decide) d_Hall_init_15 ?_
  refine y_putF (i := 0) (E1 := ((h, .inr (5, [.ref (G.2.2.1 + (h + 1)), .ref (G.2.2.1 + (h + 2)), .null, .null, .null, .null, .null, .int 0, .int 0, .null, .int 0])) :: E0)) C hinit yp_Hall_15 rfl rfl (Nat.le_of_ble_eq_true rfl) rfl rfl (by have := (hl_0 hh).2.2; omega) d_Hall_init_17 ?_
  refine y_aload_n C d_Hall_init_20 0 rfl ?_
  refine y_bipush (v := 8) C d_Hall_init_21 (by decide) ?_
  refine y_newI (N := 8) (n1 := h + 3) (c1 := 3) (s1 := 24) C rfl rfl rfl wc_165 (hl_3 hh).1 (by decide) (by decide) (by decide) (by decide) (by decide) d_Hall_init_23 ?_
  refine y_putF (i := 0) (E1 := ((h, .inr (5, [.ref (G.2.2.1 + (h + 1)), .ref (G.2.2.1 + (h + 2)), .ref (G.2.2.1 + (h + 3)), .null, .null, .null, .null, .int 0, .int 0, .null, .int 0])) :: E0)) C hinit yp_Hall_18 rfl rfl (Nat.le_of_ble_eq_true rfl) rfl rfl (by have := (hl_0 hh).2.2; omega) d_Hall_init_25 ?_
  refine y_aload_n C d_Hall_init_28 0 rfl ?_
  refine y_bipush (v := 8) C d_Hall_init_29 (by decide) ?_
  refine y_newI (N := 8) (n1 := h + 4) (c1 := 4) (s1 := 32) C rfl rfl rfl wc_165 (hl_4 hh).1 (by decide) (by decide) (by decide) (by decide) (by decide) d_Hall_init_31 ?_
  refine y_putF (i := 0) (E1 := ((h, .inr (5, [.ref (G.2.2.1 + (h + 1)), .ref (G.2.2.1 + (h + 2)), .ref (G.2.2.1 + (h + 3)), .ref (G.2.2.1 + (h + 4)), .null, .null, .null, .int 0, .int 0, .null, .int 0])) :: E0)) C hinit yp_Hall_21 rfl rfl (Nat.le_of_ble_eq_true rfl) rfl rfl (by have := (hl_0 hh).2.2; omega) d_Hall_init_33 ?_
  refine y_aload_n C d_Hall_init_36 0 rfl ?_
  refine y_bipush (v := 8) C d_Hall_init_37 (by decide) ?_
  refine y_newI (N := 8) (n1 := h + 5) (c1 := 5) (s1 := 40) C rfl rfl rfl wc_165 (hl_5 hh).1 (by decide) (by decide) (by decide) (by decide) (by decide) d_Hall_init_39 ?_
  refine y_putF (i := 0) (E1 := ((h, .inr (5, [.ref (G.2.2.1 + (h + 1)), .ref (G.2.2.1 + (h + 2)), .ref (G.2.2.1 + (h + 3)), .ref (G.2.2.1 + (h + 4)), .ref (G.2.2.1 + (h + 5)), .null, .null, .int 0, .int 0, .null, .int 0])) :: E0)) C hinit yp_Hall_24 rfl rfl (Nat.le_of_ble_eq_true rfl) rfl rfl (by have := (hl_0 hh).2.2; omega) d_Hall_init_41 ?_
  refine y_aload_n C d_Hall_init_44 0 rfl ?_
  refine y_bipush (v := 8) C d_Hall_init_45 (by decide) ?_
  refine y_newI (N := 8) (n1 := h + 6) (c1 := 6) (s1 := 48) C rfl rfl rfl wc_165 (hl_6 hh).1 (by decide) (by decide) (by decide) (by decide) (by decide) d_Hall_init_47 ?_
  refine y_putF (i := 0) (E1 := ((h, .inr (5, [.ref (G.2.2.1 + (h + 1)), .ref (G.2.2.1 + (h + 2)), .ref (G.2.2.1 + (h + 3)), .ref (G.2.2.1 + (h + 4)), .ref (G.2.2.1 + (h + 5)), .ref (G.2.2.1 + (h + 6)), .null, .int 0, .int 0, .null, .int 0])) :: E0)) C hinit yp_Hall_27 rfl rfl (Nat.le_of_ble_eq_true rfl) rfl rfl (by have := (hl_0 hh).2.2; omega) d_Hall_init_49 ?_
  refine y_aload_n C d_Hall_init_52 0 rfl ?_
  refine y_bipush (v := 8) C d_Hall_init_53 (by decide) ?_
  refine y_newI (N := 8) (n1 := h + 7) (c1 := 7) (s1 := 56) C rfl rfl rfl wc_165 (hl_7 hh).1 (by decide) (by decide) (by decide) (by decide) (by decide) d_Hall_init_55 ?_
  refine y_putF (i := 0) (E1 := ((h, .inr (5, [.ref (G.2.2.1 + (h + 1)), .ref (G.2.2.1 + (h + 2)), .ref (G.2.2.1 + (h + 3)), .ref (G.2.2.1 + (h + 4)), .ref (G.2.2.1 + (h + 5)), .ref (G.2.2.1 + (h + 6)), .ref (G.2.2.1 + (h + 7)), .int 0, .int 0, .null, .int 0])) :: E0)) C hinit yp_Hall_30 rfl rfl (Nat.le_of_ble_eq_true rfl) rfl rfl (by have := (hl_0 hh).2.2; omega) d_Hall_init_57 ?_
  refine y_aload_n C d_Hall_init_60 0 rfl ?_
  refine y_iconst (v := 0) C d_Hall_init_61 (by decide) ?_
  refine y_put (i := 0) (E1 := ((h, .inr (5, [.ref (G.2.2.1 + (h + 1)), .ref (G.2.2.1 + (h + 2)), .ref (G.2.2.1 + (h + 3)), .ref (G.2.2.1 + (h + 4)), .ref (G.2.2.1 + (h + 5)), .ref (G.2.2.1 + (h + 6)), .ref (G.2.2.1 + (h + 7)), .int 0, .int 0, .null, .int 0])) :: E0)) C yp_Hall_33 rfl rfl (Nat.le_of_ble_eq_true rfl) rfl rfl (by have := (hl_0 hh).2.2; omega) d_Hall_init_62 ?_
  refine y_aload_n C d_Hall_init_65 0 rfl ?_
  refine y_iconst (v := 0) C d_Hall_init_66 (by decide) ?_
  refine y_put (i := 0) (E1 := ((h, .inr (5, [.ref (G.2.2.1 + (h + 1)), .ref (G.2.2.1 + (h + 2)), .ref (G.2.2.1 + (h + 3)), .ref (G.2.2.1 + (h + 4)), .ref (G.2.2.1 + (h + 5)), .ref (G.2.2.1 + (h + 6)), .ref (G.2.2.1 + (h + 7)), .int 0, .int 0, .null, .int 0])) :: E0)) C yp_Hall_37 rfl rfl (Nat.le_of_ble_eq_true rfl) rfl rfl (by have := (hl_0 hh).2.2; omega) d_Hall_init_67 ?_
  refine y_aload_n C d_Hall_init_70 0 rfl ?_
  refine y_sipush (v := 240) C d_Hall_init_71 (by decide) ?_
  refine y_newI (N := 240) (n1 := h + 8) (c1 := 8) (s1 := 296) C rfl rfl rfl wc_165 (hl_8 hh).1 (by decide) (by decide) (by decide) (by decide) (by decide) d_Hall_init_74 ?_
  refine y_putF (i := 0) (E1 := ((h, .inr (5, [.ref (G.2.2.1 + (h + 1)), .ref (G.2.2.1 + (h + 2)), .ref (G.2.2.1 + (h + 3)), .ref (G.2.2.1 + (h + 4)), .ref (G.2.2.1 + (h + 5)), .ref (G.2.2.1 + (h + 6)), .ref (G.2.2.1 + (h + 7)), .int 0, .int 0, .ref (G.2.2.1 + (h + 8)), .int 0])) :: E0)) C hinit yp_Hall_40 rfl rfl (Nat.le_of_ble_eq_true rfl) rfl rfl (by have := (hl_0 hh).2.2; omega) d_Hall_init_76 ?_
  refine y_aload_n C d_Hall_init_79 0 rfl ?_
  refine y_iconst (v := (-1)) C d_Hall_init_80 (by decide) ?_
  refine y_put (i := 0) (E1 := ((h, .inr (5, [.ref (G.2.2.1 + (h + 1)), .ref (G.2.2.1 + (h + 2)), .ref (G.2.2.1 + (h + 3)), .ref (G.2.2.1 + (h + 4)), .ref (G.2.2.1 + (h + 5)), .ref (G.2.2.1 + (h + 6)), .ref (G.2.2.1 + (h + 7)), .int 0, .int 0, .ref (G.2.2.1 + (h + 8)), .int (-1)])) :: E0)) C yp_Hall_43 rfl rfl (Nat.le_of_ble_eq_true rfl) rfl rfl (by have := (hl_0 hh).2.2; omega) d_Hall_init_81 ?_
  refine y_done C (yE_obj (y := 0) (hl_0 hh).1 rfl) (fun _ h => h) ?_
  exact y_vret C hN hr hk d_Hall_init_84
theorem d_RoomReader_init_0 : decode prog_9_method_1_code 0 = .ok (.aload_n 0, 1) := by decide +kernel
theorem d_RoomReader_init_1 : decode prog_9_method_1_code 1 = .ok (.invokespecial 3, 3) := by decide +kernel
theorem d_RoomReader_init_4 : decode prog_9_method_1_code 4 = .ok (.aload_n 0, 1) := by decide +kernel
theorem d_RoomReader_init_5 : decode prog_9_method_1_code 5 = .ok (.iconst 4, 1) := by decide +kernel
theorem d_RoomReader_init_6 : decode prog_9_method_1_code 6 = .ok (.newarray .int, 2) := by decide +kernel
theorem d_RoomReader_init_8 : decode prog_9_method_1_code 8 = .ok (.putfield 11, 3) := by decide +kernel
theorem d_RoomReader_init_11 : decode prog_9_method_1_code 11 = .ok (.aload_n 0, 1) := by decide +kernel
theorem d_RoomReader_init_12 : decode prog_9_method_1_code 12 = .ok (.aload_n 1, 1) := by decide +kernel
theorem d_RoomReader_init_13 : decode prog_9_method_1_code 13 = .ok (.putfield 15, 3) := by decide +kernel
theorem d_RoomReader_init_16 : decode prog_9_method_1_code 16 = .ok (.return_, 1) := by decide +kernel
theorem c_RoomReader_init {G : XG} {hi : Nat} {l : Launch} (hhi : 600 ≤ hi) {E0 : List (Nat × va_E)} : yM G hi l y_RoomReader_init prog_9_method_1_code 2 1 1 4 [.ref (G.2.2.1 + 26), .ref (G.2.2.1 + 2)] 26 ((26, .inr (8, [.null, .null])) :: E0) 27 E0 := by
  refine y_met R_RoomReader rfl (by decide +kernel) (Nat.le_of_ble_eq_true rfl) fun p e s m below meth c C hN hinit hr hk _ => ?_
  refine y_aload_n C d_RoomReader_init_0 0 rfl ?_
  refine y_obj C wc_277 wobj_i wobj_c ⟨by decide, by decide⟩ (Nat.le_of_ble_eq_true rfl) d_RoomReader_init_1 ?_
  refine y_aload_n C d_RoomReader_init_4 0 rfl ?_
  refine y_iconst (v := 4) C d_RoomReader_init_5 (by decide) ?_
  refine y_newI (N := 4) (n1 := 27) (c1 := 1) (s1 := 4) C rfl rfl rfl wc_165 (by decide +kernel) (by decide) (by decide) (by decide) (by decide) (by decide) d_RoomReader_init_6 ?_
  refine y_putF (i := 0) (E1 := ((26, .inr (8, [.null, .ref (G.2.2.1 + 27)])) :: E0)) C hinit yp_RoomReader_11 rfl rfl (Nat.le_of_ble_eq_true rfl) rfl rfl (by omega) d_RoomReader_init_8 ?_
  refine y_aload_n C d_RoomReader_init_11 0 rfl ?_
  refine y_aload_n C d_RoomReader_init_12 1 rfl ?_
  refine y_putF (i := 0) (E1 := ((26, .inr (8, [.ref (G.2.2.1 + 2), .ref (G.2.2.1 + 27)])) :: E0)) C hinit yp_RoomReader_15 rfl rfl (Nat.le_of_ble_eq_true rfl) rfl rfl (by omega) d_RoomReader_init_13 ?_
  refine y_done C (yE_obj (y := 0) (by decide +kernel) rfl) (fun _ h => h) ?_
  exact y_vret C hN hr hk d_RoomReader_init_16
theorem d_TasteReader_init_0 : decode prog_12_method_1_code 0 = .ok (.aload_n 0, 1) := by decide +kernel
theorem d_TasteReader_init_1 : decode prog_12_method_1_code 1 = .ok (.invokespecial 3, 3) := by decide +kernel
theorem d_TasteReader_init_4 : decode prog_12_method_1_code 4 = .ok (.aload_n 0, 1) := by decide +kernel
theorem d_TasteReader_init_5 : decode prog_12_method_1_code 5 = .ok (.new 9, 3) := by decide +kernel
theorem d_TasteReader_init_8 : decode prog_12_method_1_code 8 = .ok (.dup, 1) := by decide +kernel
theorem d_TasteReader_init_9 : decode prog_12_method_1_code 9 = .ok (.invokespecial 11, 3) := by decide +kernel
theorem d_TasteReader_init_12 : decode prog_12_method_1_code 12 = .ok (.putfield 12, 3) := by decide +kernel
theorem d_TasteReader_init_15 : decode prog_12_method_1_code 15 = .ok (.aload_n 0, 1) := by decide +kernel
theorem d_TasteReader_init_16 : decode prog_12_method_1_code 16 = .ok (.aload_n 1, 1) := by decide +kernel
theorem d_TasteReader_init_17 : decode prog_12_method_1_code 17 = .ok (.putfield 18, 3) := by decide +kernel
theorem d_TasteReader_init_20 : decode prog_12_method_1_code 20 = .ok (.return_, 1) := by decide +kernel
theorem c_TasteReader_init {G : XG} {hi : Nat} {l : Launch} (hhi : 600 ≤ hi) {E0 : List (Nat × va_E)} : yM G hi l y_TasteReader_init prog_12_method_1_code 2 2 3 548 [.ref (G.2.2.1 + 28), .ref (G.2.2.1 + 2)] 28 ((28, .inr (11, [.null, .null])) :: E0) 31 E0 := by
  refine y_met R_TasteReader rfl (by decide +kernel) (Nat.le_of_ble_eq_true rfl) fun p e s m below meth c C hN hinit hr hk _ => ?_
  refine y_aload_n C d_TasteReader_init_0 0 rfl ?_
  refine y_obj C wc_290 wobj_i wobj_c ⟨by decide, by decide⟩ (Nat.le_of_ble_eq_true rfl) d_TasteReader_init_1 ?_
  refine y_aload_n C d_TasteReader_init_4 0 rfl ?_
  refine y_new (n1 := 29) (c1 := 1) (s1 := 4) C yn_TasteReader_9 rfl rfl rfl (by decide) (by decide) d_TasteReader_init_5 ?_
  refine y_dup C d_TasteReader_init_8 rfl ?_
  refine y_call (d := 1) (mc := 2) (ms := 544) (n' := 31) (c1 := 3) (s1 := 548) (As := []) C hN (c_Taste_init hhi (show 29 ∈ xTastes by decide)) yc_TasteReader_11 (Or.inr ⟨"LostPlaces", List.mem_of_getElem? (i := 2) rfl⟩) rfl rfl (Nat.le_of_ble_eq_true rfl) ⟨by decide, by decide⟩ rfl rfl ⟨by decide, by decide⟩ rfl d_TasteReader_init_9 ?_
  refine y_put (i := 0) (E1 := ((28, .inr (11, [.null, .ref (G.2.2.1 + 29)])) :: E0)) C yp_TasteReader_12 rfl rfl (Nat.le_of_ble_eq_true rfl) rfl rfl (by omega) d_TasteReader_init_12 ?_
  refine y_aload_n C d_TasteReader_init_15 0 rfl ?_
  refine y_aload_n C d_TasteReader_init_16 1 rfl ?_
  refine y_putF (i := 0) (E1 := ((28, .inr (11, [.ref (G.2.2.1 + 2), .ref (G.2.2.1 + 29)])) :: E0)) C hinit yp_TasteReader_18 rfl rfl (Nat.le_of_ble_eq_true rfl) rfl rfl (by omega) d_TasteReader_init_17 ?_
  refine y_done C (yE_obj (y := 0) (by decide +kernel) rfl) (fun _ h => h) ?_
  exact y_vret C hN hr hk d_TasteReader_init_20
theorem d_Likings_init_0 : decode prog_7_method_1_code 0 = .ok (.aload_n 0, 1) := by decide +kernel
theorem d_Likings_init_1 : decode prog_7_method_1_code 1 = .ok (.invokespecial 3, 3) := by decide +kernel
theorem d_Likings_init_4 : decode prog_7_method_1_code 4 = .ok (.aload_n 0, 1) := by decide +kernel
theorem d_Likings_init_5 : decode prog_7_method_1_code 5 = .ok (.sipush 6400, 3) := by decide +kernel
theorem d_Likings_init_8 : decode prog_7_method_1_code 8 = .ok (.newarray .int, 2) := by decide +kernel
theorem d_Likings_init_10 : decode prog_7_method_1_code 10 = .ok (.putfield 11, 3) := by decide +kernel
theorem d_Likings_init_13 : decode prog_7_method_1_code 13 = .ok (.aload_n 0, 1) := by decide +kernel
theorem d_Likings_init_14 : decode prog_7_method_1_code 14 = .ok (.bipush 100, 2) := by decide +kernel
theorem d_Likings_init_16 : decode prog_7_method_1_code 16 = .ok (.newarray .int, 2) := by decide +kernel
theorem d_Likings_init_18 : decode prog_7_method_1_code 18 = .ok (.putfield 15, 3) := by decide +kernel
theorem d_Likings_init_21 : decode prog_7_method_1_code 21 = .ok (.aload_n 0, 1) := by decide +kernel
theorem d_Likings_init_22 : decode prog_7_method_1_code 22 = .ok (.bipush 100, 2) := by decide +kernel
theorem d_Likings_init_24 : decode prog_7_method_1_code 24 = .ok (.newarray .int, 2) := by decide +kernel
theorem d_Likings_init_26 : decode prog_7_method_1_code 26 = .ok (.putfield 18, 3) := by decide +kernel
theorem d_Likings_init_29 : decode prog_7_method_1_code 29 = .ok (.aload_n 0, 1) := by decide +kernel
theorem d_Likings_init_30 : decode prog_7_method_1_code 30 = .ok (.ldc 23, 2) := by decide +kernel
theorem d_Likings_init_32 : decode prog_7_method_1_code 32 = .ok (.invokevirtual 25, 3) := by decide +kernel
theorem d_Likings_init_35 : decode prog_7_method_1_code 35 = .ok (.newarray .int, 2) := by decide +kernel
theorem d_Likings_init_37 : decode prog_7_method_1_code 37 = .ok (.putfield 31, 3) := by decide +kernel
theorem d_Likings_init_40 : decode prog_7_method_1_code 40 = .ok (.aload_n 0, 1) := by decide +kernel
theorem d_Likings_init_41 : decode prog_7_method_1_code 41 = .ok (.iconst 0, 1) := by decide +kernel
theorem d_Likings_init_42 : decode prog_7_method_1_code 42 = .ok (.putfield 34, 3) := by decide +kernel
theorem d_Likings_init_45 : decode prog_7_method_1_code 45 = .ok (.aload_n 0, 1) := by decide +kernel
theorem d_Likings_init_46 : decode prog_7_method_1_code 46 = .ok (.aload_n 1, 1) := by decide +kernel
theorem d_Likings_init_47 : decode prog_7_method_1_code 47 = .ok (.putfield 38, 3) := by decide +kernel
theorem d_Likings_init_50 : decode prog_7_method_1_code 50 = .ok (.return_, 1) := by decide +kernel
theorem c_Likings_init {G : XG} {hi : Nat} {l : Launch} (hhi : 600 ≤ hi) {E0 : List (Nat × va_E)} : yM G hi l y_Likings_init prog_7_method_1_code 2 9 4 6606 [.ref (G.2.2.1 + 33), .ref (G.2.2.1 + 4)] 33 ((33, .inr (6, [.null, .null, .null, .null, .null, .int 0])) :: E0) 37 E0 := by
  refine y_met R_Likings rfl (by decide +kernel) (Nat.le_of_ble_eq_true rfl) fun p e s m below meth c C hN hinit hr hk _ => ?_
  refine y_aload_n C d_Likings_init_0 0 rfl ?_
  refine y_obj C wc_325 wobj_i wobj_c ⟨by decide, by decide⟩ (Nat.le_of_ble_eq_true rfl) d_Likings_init_1 ?_
  refine y_aload_n C d_Likings_init_4 0 rfl ?_
  refine y_sipush (v := 6400) C d_Likings_init_5 (by decide) ?_
  refine y_newI (N := 6400) (n1 := 34) (c1 := 1) (s1 := 6400) C rfl rfl rfl wc_165 (by decide +kernel) (by decide) (by decide) (by decide) (by decide) (by decide) d_Likings_init_8 ?_
  refine y_putF (i := 0) (E1 := ((33, .inr (6, [.null, .ref (G.2.2.1 + 34), .null, .null, .null, .int 0])) :: E0)) C hinit yp_Likings_11 rfl rfl (Nat.le_of_ble_eq_true rfl) rfl rfl (by omega) d_Likings_init_10 ?_
  refine y_aload_n C d_Likings_init_13 0 rfl ?_
  refine y_bipush (v := 100) C d_Likings_init_14 (by decide) ?_
  refine y_newI (N := 100) (n1 := 35) (c1 := 2) (s1 := 6500) C rfl rfl rfl wc_165 (by decide +kernel) (by decide) (by decide) (by decide) (by decide) (by decide) d_Likings_init_16 ?_
  refine y_putF (i := 0) (E1 := ((33, .inr (6, [.null, .ref (G.2.2.1 + 34), .ref (G.2.2.1 + 35), .null, .null, .int 0])) :: E0)) C hinit yp_Likings_15 rfl rfl (Nat.le_of_ble_eq_true rfl) rfl rfl (by omega) d_Likings_init_18 ?_
  refine y_aload_n C d_Likings_init_21 0 rfl ?_
  refine y_bipush (v := 100) C d_Likings_init_22 (by decide) ?_
  refine y_newI (N := 100) (n1 := 36) (c1 := 3) (s1 := 6600) C rfl rfl rfl wc_165 (by decide +kernel) (by decide) (by decide) (by decide) (by decide) (by decide) d_Likings_init_24 ?_
  refine y_putF (i := 0) (E1 := ((33, .inr (6, [.null, .ref (G.2.2.1 + 34), .ref (G.2.2.1 + 35), .ref (G.2.2.1 + 36), .null, .int 0])) :: E0)) C hinit yp_Likings_18 rfl rfl (Nat.le_of_ble_eq_true rfl) rfl rfl (by omega) d_Likings_init_26 ?_
  refine y_aload_n C d_Likings_init_29 0 rfl ?_
  refine y_ldcS (i := 0) C (by decide +kernel) d_Likings_init_30 ?_
  refine y_sLen (i := 0) C (by omega) ⟨by decide, by decide⟩ (by decide) wc_327 (Nat.le_of_ble_eq_true rfl) ⟨by decide, by decide⟩ d_Likings_init_32 ?_
  refine y_newI (N := 6) (n1 := 37) (c1 := 4) (s1 := 6606) C rfl rfl rfl wc_165 (by decide +kernel) (by decide) (by decide) (by decide) (by decide) (by decide) d_Likings_init_35 ?_
  refine y_putF (i := 0) (E1 := ((33, .inr (6, [.null, .ref (G.2.2.1 + 34), .ref (G.2.2.1 + 35), .ref (G.2.2.1 + 36), .ref (G.2.2.1 + 37), .int 0])) :: E0)) C hinit yp_Likings_31 rfl rfl (Nat.le_of_ble_eq_true rfl) rfl rfl (by omega) d_Likings_init_37 ?_
  refine y_aload_n C d_Likings_init_40 0 rfl ?_
  refine y_iconst (v := 0) C d_Likings_init_41 (by decide) ?_
  refine y_put (i := 0) (E1 := ((33, .inr (6, [.null, .ref (G.2.2.1 + 34), .ref (G.2.2.1 + 35), .ref (G.2.2.1 + 36), .ref (G.2.2.1 + 37), .int 0])) :: E0)) C yp_Likings_34 rfl rfl (Nat.le_of_ble_eq_true rfl) rfl rfl (by omega) d_Likings_init_42 ?_
  refine y_aload_n C d_Likings_init_45 0 rfl ?_
  refine y_aload_n C d_Likings_init_46 1 rfl ?_
  refine y_putF (i := 0) (E1 := ((33, .inr (6, [.ref (G.2.2.1 + 4), .ref (G.2.2.1 + 34), .ref (G.2.2.1 + 35), .ref (G.2.2.1 + 36), .ref (G.2.2.1 + 37), .int 0])) :: E0)) C hinit yp_Likings_38 rfl rfl (Nat.le_of_ble_eq_true rfl) rfl rfl (by omega) d_Likings_init_47 ?_
  refine y_done C (yE_obj (y := 0) (by decide +kernel) rfl) (fun _ h => h) ?_
  exact y_vret C hN hr hk d_Likings_init_50
theorem d_Evening_init_0 : decode prog_3_method_1_code 0 = .ok (.aload_n 0, 1) := by decide +kernel
theorem d_Evening_init_1 : decode prog_3_method_1_code 1 = .ok (.invokespecial 3, 3) := by decide +kernel
theorem d_Evening_init_4 : decode prog_3_method_1_code 4 = .ok (.aload_n 0, 1) := by decide +kernel
theorem d_Evening_init_5 : decode prog_3_method_1_code 5 = .ok (.sipush 1023, 3) := by decide +kernel
theorem d_Evening_init_8 : decode prog_3_method_1_code 8 = .ok (.putfield 11, 3) := by decide +kernel
theorem d_Evening_init_11 : decode prog_3_method_1_code 11 = .ok (.aload_n 0, 1) := by decide +kernel
theorem d_Evening_init_12 : decode prog_3_method_1_code 12 = .ok (.iconst (-1), 1) := by decide +kernel
theorem d_Evening_init_13 : decode prog_3_method_1_code 13 = .ok (.putfield 15, 3) := by decide +kernel
theorem d_Evening_init_16 : decode prog_3_method_1_code 16 = .ok (.aload_n 0, 1) := by decide +kernel
theorem d_Evening_init_17 : decode prog_3_method_1_code 17 = .ok (.iconst 0, 1) := by decide +kernel
theorem d_Evening_init_18 : decode prog_3_method_1_code 18 = .ok (.putfield 18, 3) := by decide +kernel
theorem d_Evening_init_21 : decode prog_3_method_1_code 21 = .ok (.aload_n 0, 1) := by decide +kernel
theorem d_Evening_init_22 : decode prog_3_method_1_code 22 = .ok (.iconst 0, 1) := by decide +kernel
theorem d_Evening_init_23 : decode prog_3_method_1_code 23 = .ok (.putfield 21, 3) := by decide +kernel
theorem d_Evening_init_26 : decode prog_3_method_1_code 26 = .ok (.aload_n 0, 1) := by decide +kernel
theorem d_Evening_init_27 : decode prog_3_method_1_code 27 = .ok (.lconst 0, 1) := by decide +kernel
theorem d_Evening_init_28 : decode prog_3_method_1_code 28 = .ok (.putfield 24, 3) := by decide +kernel
theorem d_Evening_init_31 : decode prog_3_method_1_code 31 = .ok (.aload_n 0, 1) := by decide +kernel
theorem d_Evening_init_32 : decode prog_3_method_1_code 32 = .ok (.aload_n 1, 1) := by decide +kernel
theorem d_Evening_init_33 : decode prog_3_method_1_code 33 = .ok (.putfield 28, 3) := by decide +kernel
theorem d_Evening_init_36 : decode prog_3_method_1_code 36 = .ok (.aload_n 0, 1) := by decide +kernel
theorem d_Evening_init_37 : decode prog_3_method_1_code 37 = .ok (.aload_n 2, 1) := by decide +kernel
theorem d_Evening_init_38 : decode prog_3_method_1_code 38 = .ok (.putfield 32, 3) := by decide +kernel
theorem d_Evening_init_41 : decode prog_3_method_1_code 41 = .ok (.return_, 1) := by decide +kernel
theorem c_Evening_init {G : XG} {hi : Nat} {l : Launch} (hhi : 600 ≤ hi) {E0 : List (Nat × va_E)} : yM G hi l y_Evening_init prog_3_method_1_code 3 1 0 0 [.ref (G.2.2.1 + 38), .ref (G.2.2.1 + 4), .ref (G.2.2.1 + 33)] 38 ((38, .inr (2, [.null, .null, .int 0, .int 0, .int 0, .int 0, .long 0])) :: E0) 38 E0 := by
  refine y_met R_Evening rfl (by decide +kernel) (Nat.le_of_ble_eq_true rfl) fun p e s m below meth c C hN hinit hr hk _ => ?_
  refine y_aload_n C d_Evening_init_0 0 rfl ?_
  refine y_obj C wc_363 wobj_i wobj_c ⟨by decide, by decide⟩ (Nat.le_of_ble_eq_true rfl) d_Evening_init_1 ?_
  refine y_aload_n C d_Evening_init_4 0 rfl ?_
  refine y_sipush (v := 1023) C d_Evening_init_5 (by decide) ?_
  refine y_put (i := 0) (E1 := ((38, .inr (2, [.null, .null, .int 1023, .int 0, .int 0, .int 0, .long 0])) :: E0)) C yp_Evening_11 rfl rfl (Nat.le_of_ble_eq_true rfl) rfl rfl (by omega) d_Evening_init_8 ?_
  refine y_aload_n C d_Evening_init_11 0 rfl ?_
  refine y_iconst (v := (-1)) C d_Evening_init_12 (by decide) ?_
  refine y_put (i := 0) (E1 := ((38, .inr (2, [.null, .null, .int 1023, .int (-1), .int 0, .int 0, .long 0])) :: E0)) C yp_Evening_15 rfl rfl (Nat.le_of_ble_eq_true rfl) rfl rfl (by omega) d_Evening_init_13 ?_
  refine y_aload_n C d_Evening_init_16 0 rfl ?_
  refine y_iconst (v := 0) C d_Evening_init_17 (by decide) ?_
  refine y_put (i := 0) (E1 := ((38, .inr (2, [.null, .null, .int 1023, .int (-1), .int 0, .int 0, .long 0])) :: E0)) C yp_Evening_18 rfl rfl (Nat.le_of_ble_eq_true rfl) rfl rfl (by omega) d_Evening_init_18 ?_
  refine y_aload_n C d_Evening_init_21 0 rfl ?_
  refine y_iconst (v := 0) C d_Evening_init_22 (by decide) ?_
  refine y_put (i := 0) (E1 := ((38, .inr (2, [.null, .null, .int 1023, .int (-1), .int 0, .int 0, .long 0])) :: E0)) C yp_Evening_21 rfl rfl (Nat.le_of_ble_eq_true rfl) rfl rfl (by omega) d_Evening_init_23 ?_
  refine y_aload_n C d_Evening_init_26 0 rfl ?_
  refine y_lconst (v := 0) C d_Evening_init_27 (by decide) ?_
  refine y_put (i := 0) (E1 := ((38, .inr (2, [.null, .null, .int 1023, .int (-1), .int 0, .int 0, .long 0])) :: E0)) C yp_Evening_24 rfl rfl (Nat.le_of_ble_eq_true rfl) rfl rfl (by omega) d_Evening_init_28 ?_
  refine y_aload_n C d_Evening_init_31 0 rfl ?_
  refine y_aload_n C d_Evening_init_32 1 rfl ?_
  refine y_putF (i := 0) (E1 := ((38, .inr (2, [.ref (G.2.2.1 + 4), .null, .int 1023, .int (-1), .int 0, .int 0, .long 0])) :: E0)) C hinit yp_Evening_28 rfl rfl (Nat.le_of_ble_eq_true rfl) rfl rfl (by omega) d_Evening_init_33 ?_
  refine y_aload_n C d_Evening_init_36 0 rfl ?_
  refine y_aload_n C d_Evening_init_37 2 rfl ?_
  refine y_putF (i := 0) (E1 := ((38, .inr (2, [.ref (G.2.2.1 + 4), .ref (G.2.2.1 + 33), .int 1023, .int (-1), .int 0, .int 0, .long 0])) :: E0)) C hinit yp_Evening_32 rfl rfl (Nat.le_of_ble_eq_true rfl) rfl rfl (by omega) d_Evening_init_38 ?_
  refine y_done C (yE_obj (y := 0) (by decide +kernel) rfl) (fun _ h => h) ?_
  exact y_vret C hN hr hk d_Evening_init_41
theorem d_Guess_init_0 : decode prog_5_method_1_code 0 = .ok (.aload_n 0, 1) := by decide +kernel
theorem d_Guess_init_1 : decode prog_5_method_1_code 1 = .ok (.invokespecial 3, 3) := by decide +kernel
theorem d_Guess_init_4 : decode prog_5_method_1_code 4 = .ok (.aload_n 0, 1) := by decide +kernel
theorem d_Guess_init_5 : decode prog_5_method_1_code 5 = .ok (.new 9, 3) := by decide +kernel
theorem d_Guess_init_8 : decode prog_5_method_1_code 8 = .ok (.dup, 1) := by decide +kernel
theorem d_Guess_init_9 : decode prog_5_method_1_code 9 = .ok (.invokespecial 11, 3) := by decide +kernel
theorem d_Guess_init_12 : decode prog_5_method_1_code 12 = .ok (.putfield 12, 3) := by decide +kernel
theorem d_Guess_init_15 : decode prog_5_method_1_code 15 = .ok (.aload_n 0, 1) := by decide +kernel
theorem d_Guess_init_16 : decode prog_5_method_1_code 16 = .ok (.iconst (-1), 1) := by decide +kernel
theorem d_Guess_init_17 : decode prog_5_method_1_code 17 = .ok (.putfield 18, 3) := by decide +kernel
theorem d_Guess_init_20 : decode prog_5_method_1_code 20 = .ok (.aload_n 0, 1) := by decide +kernel
theorem d_Guess_init_21 : decode prog_5_method_1_code 21 = .ok (.iconst 0, 1) := by decide +kernel
theorem d_Guess_init_22 : decode prog_5_method_1_code 22 = .ok (.putfield 22, 3) := by decide +kernel
theorem d_Guess_init_25 : decode prog_5_method_1_code 25 = .ok (.aload_n 0, 1) := by decide +kernel
theorem d_Guess_init_26 : decode prog_5_method_1_code 26 = .ok (.aload_n 1, 1) := by decide +kernel
theorem d_Guess_init_27 : decode prog_5_method_1_code 27 = .ok (.putfield 25, 3) := by decide +kernel
theorem d_Guess_init_30 : decode prog_5_method_1_code 30 = .ok (.aload_n 0, 1) := by decide +kernel
theorem d_Guess_init_31 : decode prog_5_method_1_code 31 = .ok (.aload_n 2, 1) := by decide +kernel
theorem d_Guess_init_32 : decode prog_5_method_1_code 32 = .ok (.putfield 29, 3) := by decide +kernel
theorem d_Guess_init_35 : decode prog_5_method_1_code 35 = .ok (.aload_n 0, 1) := by decide +kernel
theorem d_Guess_init_36 : decode prog_5_method_1_code 36 = .ok (.aload_n 3, 1) := by decide +kernel
theorem d_Guess_init_37 : decode prog_5_method_1_code 37 = .ok (.putfield 33, 3) := by decide +kernel
theorem d_Guess_init_40 : decode prog_5_method_1_code 40 = .ok (.aload_n 0, 1) := by decide +kernel
theorem d_Guess_init_41 : decode prog_5_method_1_code 41 = .ok (.aload 4, 2) := by decide +kernel
theorem d_Guess_init_43 : decode prog_5_method_1_code 43 = .ok (.putfield 37, 3) := by decide +kernel
theorem d_Guess_init_46 : decode prog_5_method_1_code 46 = .ok (.return_, 1) := by decide +kernel
theorem c_Guess_init {G : XG} {hi : Nat} {l : Launch} (hhi : 600 ≤ hi) {E0 : List (Nat × va_E)} : yM G hi l y_Guess_init prog_5_method_1_code 5 2 9 307 [.ref (G.2.2.1 + 58), .ref (G.2.2.1 + 4), .ref (G.2.2.1 + 33), .ref (G.2.2.1 + 38), .ref (G.2.2.1 + 39)] 58 ((58, .inr (4, [.null, .null, .null, .null, .null, .int 0, .int 0])) :: E0) 67 E0 := by
  refine y_met R_Guess rfl (by decide +kernel) (Nat.le_of_ble_eq_true rfl) fun p e s m below meth c C hN hinit hr hk _ => ?_
  refine y_aload_n C d_Guess_init_0 0 rfl ?_
  refine y_obj C wc_459 wobj_i wobj_c ⟨by decide, by decide⟩ (Nat.le_of_ble_eq_true rfl) d_Guess_init_1 ?_
  refine y_aload_n C d_Guess_init_4 0 rfl ?_
  refine y_new (n1 := 59) (c1 := 1) (s1 := 11) C yn_Guess_9 rfl rfl rfl (by decide) (by decide) d_Guess_init_5 ?_
  refine y_dup C d_Guess_init_8 rfl ?_
  refine y_call (d := 1) (mc := 8) (ms := 296) (n' := 67) (c1 := 9) (s1 := 307) (As := []) C hN (c_Hall_init hhi (show 59 ∈ xHalls by decide)) yc_Guess_11 (Or.inr ⟨"LostPlaces", List.mem_of_getElem? (i := 4) rfl⟩) rfl rfl (Nat.le_of_ble_eq_true rfl) ⟨by decide, by decide⟩ rfl rfl ⟨by decide, by decide⟩ rfl d_Guess_init_9 ?_
  refine y_putF (i := 0) (E1 := ((58, .inr (4, [.null, .null, .null, .null, .ref (G.2.2.1 + 59), .int 0, .int 0])) :: E0)) C hinit yp_Guess_12 rfl rfl (Nat.le_of_ble_eq_true rfl) rfl rfl (by omega) d_Guess_init_12 ?_
  refine y_aload_n C d_Guess_init_15 0 rfl ?_
  refine y_iconst (v := (-1)) C d_Guess_init_16 (by decide) ?_
  refine y_put (i := 0) (E1 := ((58, .inr (4, [.null, .null, .null, .null, .ref (G.2.2.1 + 59), .int (-1), .int 0])) :: E0)) C yp_Guess_18 rfl rfl (Nat.le_of_ble_eq_true rfl) rfl rfl (by omega) d_Guess_init_17 ?_
  refine y_aload_n C d_Guess_init_20 0 rfl ?_
  refine y_iconst (v := 0) C d_Guess_init_21 (by decide) ?_
  refine y_put (i := 0) (E1 := ((58, .inr (4, [.null, .null, .null, .null, .ref (G.2.2.1 + 59), .int (-1), .int 0])) :: E0)) C yp_Guess_22 rfl rfl (Nat.le_of_ble_eq_true rfl) rfl rfl (by omega) d_Guess_init_22 ?_
  refine y_aload_n C d_Guess_init_25 0 rfl ?_
  refine y_aload_n C d_Guess_init_26 1 rfl ?_
  refine y_putF (i := 0) (E1 := ((58, .inr (4, [.ref (G.2.2.1 + 4), .null, .null, .null, .ref (G.2.2.1 + 59), .int (-1), .int 0])) :: E0)) C hinit yp_Guess_25 rfl rfl (Nat.le_of_ble_eq_true rfl) rfl rfl (by omega) d_Guess_init_27 ?_
  refine y_aload_n C d_Guess_init_30 0 rfl ?_
  refine y_aload_n C d_Guess_init_31 2 rfl ?_
  refine y_putF (i := 0) (E1 := ((58, .inr (4, [.ref (G.2.2.1 + 4), .ref (G.2.2.1 + 33), .null, .null, .ref (G.2.2.1 + 59), .int (-1), .int 0])) :: E0)) C hinit yp_Guess_29 rfl rfl (Nat.le_of_ble_eq_true rfl) rfl rfl (by omega) d_Guess_init_32 ?_
  refine y_aload_n C d_Guess_init_35 0 rfl ?_
  refine y_aload_n C d_Guess_init_36 3 rfl ?_
  refine y_putF (i := 0) (E1 := ((58, .inr (4, [.ref (G.2.2.1 + 4), .ref (G.2.2.1 + 33), .ref (G.2.2.1 + 38), .null, .ref (G.2.2.1 + 59), .int (-1), .int 0])) :: E0)) C hinit yp_Guess_33 rfl rfl (Nat.le_of_ble_eq_true rfl) rfl rfl (by omega) d_Guess_init_37 ?_
  refine y_aload_n C d_Guess_init_40 0 rfl ?_
  refine y_aload C d_Guess_init_41 4 rfl ?_
  refine y_putF (i := 0) (E1 := ((58, .inr (4, [.ref (G.2.2.1 + 4), .ref (G.2.2.1 + 33), .ref (G.2.2.1 + 38), .ref (G.2.2.1 + 39), .ref (G.2.2.1 + 59), .int (-1), .int 0])) :: E0)) C hinit yp_Guess_37 rfl rfl (Nat.le_of_ble_eq_true rfl) rfl rfl (by omega) d_Guess_init_43 ?_
  refine y_done C (yE_obj (y := 0) (by decide +kernel) rfl) (fun _ h => h) ?_
  exact y_vret C hN hr hk d_Guess_init_46
theorem d_Game_init_0 : decode prog_4_method_1_code 0 = .ok (.aload_n 0, 1) := by decide +kernel
theorem d_Game_init_1 : decode prog_4_method_1_code 1 = .ok (.invokespecial 5, 3) := by decide +kernel
theorem d_Game_init_4 : decode prog_4_method_1_code 4 = .ok (.aload_n 0, 1) := by decide +kernel
theorem d_Game_init_5 : decode prog_4_method_1_code 5 = .ok (.new 11, 3) := by decide +kernel
theorem d_Game_init_8 : decode prog_4_method_1_code 8 = .ok (.dup, 1) := by decide +kernel
theorem d_Game_init_9 : decode prog_4_method_1_code 9 = .ok (.invokespecial 13, 3) := by decide +kernel
theorem d_Game_init_12 : decode prog_4_method_1_code 12 = .ok (.putfield 14, 3) := by decide +kernel
theorem d_Game_init_15 : decode prog_4_method_1_code 15 = .ok (.aload_n 0, 1) := by decide +kernel
theorem d_Game_init_16 : decode prog_4_method_1_code 16 = .ok (.iconst 4, 1) := by decide +kernel
theorem d_Game_init_17 : decode prog_4_method_1_code 17 = .ok (.newarray .int, 2) := by decide +kernel
theorem d_Game_init_19 : decode prog_4_method_1_code 19 = .ok (.putfield 18, 3) := by decide +kernel
theorem d_Game_init_22 : decode prog_4_method_1_code 22 = .ok (.aload_n 0, 1) := by decide +kernel
theorem d_Game_init_23 : decode prog_4_method_1_code 23 = .ok (.iconst 0, 1) := by decide +kernel
theorem d_Game_init_24 : decode prog_4_method_1_code 24 = .ok (.putfield 22, 3) := by decide +kernel
theorem d_Game_init_27 : decode prog_4_method_1_code 27 = .ok (.aload_n 0, 1) := by decide +kernel
theorem d_Game_init_28 : decode prog_4_method_1_code 28 = .ok (.iconst 4, 1) := by decide +kernel
theorem d_Game_init_29 : decode prog_4_method_1_code 29 = .ok (.newarray .int, 2) := by decide +kernel
theorem d_Game_init_31 : decode prog_4_method_1_code 31 = .ok (.putfield 26, 3) := by decide +kernel
theorem d_Game_init_34 : decode prog_4_method_1_code 34 = .ok (.aload_n 0, 1) := by decide +kernel
theorem d_Game_init_35 : decode prog_4_method_1_code 35 = .ok (.bipush 68, 2) := by decide +kernel
theorem d_Game_init_37 : decode prog_4_method_1_code 37 = .ok (.newarray .int, 2) := by decide +kernel
theorem d_Game_init_39 : decode prog_4_method_1_code 39 = .ok (.putfield 29, 3) := by decide +kernel
theorem d_Game_init_42 : decode prog_4_method_1_code 42 = .ok (.aload_n 0, 1) := by decide +kernel
theorem d_Game_init_43 : decode prog_4_method_1_code 43 = .ok (.aload_n 1, 1) := by decide +kernel
theorem d_Game_init_44 : decode prog_4_method_1_code 44 = .ok (.putfield 32, 3) := by decide +kernel
theorem d_Game_init_47 : decode prog_4_method_1_code 47 = .ok (.aload_n 0, 1) := by decide +kernel
theorem d_Game_init_48 : decode prog_4_method_1_code 48 = .ok (.aload_n 2, 1) := by decide +kernel
theorem d_Game_init_49 : decode prog_4_method_1_code 49 = .ok (.putfield 36, 3) := by decide +kernel
theorem d_Game_init_52 : decode prog_4_method_1_code 52 = .ok (.aload_n 0, 1) := by decide +kernel
theorem d_Game_init_53 : decode prog_4_method_1_code 53 = .ok (.aload_n 3, 1) := by decide +kernel
theorem d_Game_init_54 : decode prog_4_method_1_code 54 = .ok (.putfield 40, 3) := by decide +kernel
theorem d_Game_init_57 : decode prog_4_method_1_code 57 = .ok (.return_, 1) := by decide +kernel
theorem c_Game_init {G : XG} {hi : Nat} {l : Launch} (hhi : 600 ≤ hi) {E0 : List (Nat × va_E)} : yM G hi l y_Game_init prog_4_method_1_code 4 2 12 383 [.ref (G.2.2.1 + 68), .ref (G.2.2.1 + 4), .ref (G.2.2.1 + 38), .ref (G.2.2.1 + 39)] 68 ((68, .inr (3, [.null, .null, .null, .null, .null, .int 0, .null, .null])) :: E0) 80 E0 := by
  refine y_met R_Game rfl (by decide +kernel) (Nat.le_of_ble_eq_true rfl) fun p e s m below meth c C hN hinit hr hk _ => ?_
  refine y_aload_n C d_Game_init_0 0 rfl ?_
  refine y_obj C wc_492 wobj_i wobj_c ⟨by decide, by decide⟩ (Nat.le_of_ble_eq_true rfl) d_Game_init_1 ?_
  refine y_aload_n C d_Game_init_4 0 rfl ?_
  refine y_new (n1 := 69) (c1 := 1) (s1 := 11) C yn_Game_11 rfl rfl rfl (by decide) (by decide) d_Game_init_5 ?_
  refine y_dup C d_Game_init_8 rfl ?_
  refine y_call (d := 1) (mc := 8) (ms := 296) (n' := 77) (c1 := 9) (s1 := 307) (As := []) C hN (c_Hall_init hhi (show 69 ∈ xHalls by decide)) yc_Game_13 (Or.inr ⟨"LostPlaces", List.mem_of_getElem? (i := 5) rfl⟩) rfl rfl (Nat.le_of_ble_eq_true rfl) ⟨by decide, by decide⟩ rfl rfl ⟨by decide, by decide⟩ rfl d_Game_init_9 ?_
  refine y_putF (i := 0) (E1 := ((68, .inr (3, [.null, .null, .null, .ref (G.2.2.1 + 69), .null, .int 0, .null, .null])) :: E0)) C hinit yp_Game_14 rfl rfl (Nat.le_of_ble_eq_true rfl) rfl rfl (by omega) d_Game_init_12 ?_
  refine y_aload_n C d_Game_init_15 0 rfl ?_
  refine y_iconst (v := 4) C d_Game_init_16 (by decide) ?_
  refine y_newI (N := 4) (n1 := 78) (c1 := 10) (s1 := 311) C rfl rfl rfl wc_165 (by decide +kernel) (by decide) (by decide) (by decide) (by decide) (by decide) d_Game_init_17 ?_
  refine y_putF (i := 0) (E1 := ((68, .inr (3, [.null, .null, .null, .ref (G.2.2.1 + 69), .ref (G.2.2.1 + 78), .int 0, .null, .null])) :: E0)) C hinit yp_Game_18 rfl rfl (Nat.le_of_ble_eq_true rfl) rfl rfl (by omega) d_Game_init_19 ?_
  refine y_aload_n C d_Game_init_22 0 rfl ?_
  refine y_iconst (v := 0) C d_Game_init_23 (by decide) ?_
  refine y_put (i := 0) (E1 := ((68, .inr (3, [.null, .null, .null, .ref (G.2.2.1 + 69), .ref (G.2.2.1 + 78), .int 0, .null, .null])) :: E0)) C yp_Game_22 rfl rfl (Nat.le_of_ble_eq_true rfl) rfl rfl (by omega) d_Game_init_24 ?_
  refine y_aload_n C d_Game_init_27 0 rfl ?_
  refine y_iconst (v := 4) C d_Game_init_28 (by decide) ?_
  refine y_newI (N := 4) (n1 := 79) (c1 := 11) (s1 := 315) C rfl rfl rfl wc_165 (by decide +kernel) (by decide) (by decide) (by decide) (by decide) (by decide) d_Game_init_29 ?_
  refine y_putF (i := 0) (E1 := ((68, .inr (3, [.null, .null, .null, .ref (G.2.2.1 + 69), .ref (G.2.2.1 + 78), .int 0, .ref (G.2.2.1 + 79), .null])) :: E0)) C hinit yp_Game_26 rfl rfl (Nat.le_of_ble_eq_true rfl) rfl rfl (by omega) d_Game_init_31 ?_
  refine y_aload_n C d_Game_init_34 0 rfl ?_
  refine y_bipush (v := 68) C d_Game_init_35 (by decide) ?_
  refine y_newI (N := 68) (n1 := 80) (c1 := 12) (s1 := 383) C rfl rfl rfl wc_165 (by decide +kernel) (by decide) (by decide) (by decide) (by decide) (by decide) d_Game_init_37 ?_
  refine y_putF (i := 0) (E1 := ((68, .inr (3, [.null, .null, .null, .ref (G.2.2.1 + 69), .ref (G.2.2.1 + 78), .int 0, .ref (G.2.2.1 + 79), .ref (G.2.2.1 + 80)])) :: E0)) C hinit yp_Game_29 rfl rfl (Nat.le_of_ble_eq_true rfl) rfl rfl (by omega) d_Game_init_39 ?_
  refine y_aload_n C d_Game_init_42 0 rfl ?_
  refine y_aload_n C d_Game_init_43 1 rfl ?_
  refine y_putF (i := 0) (E1 := ((68, .inr (3, [.ref (G.2.2.1 + 4), .null, .null, .ref (G.2.2.1 + 69), .ref (G.2.2.1 + 78), .int 0, .ref (G.2.2.1 + 79), .ref (G.2.2.1 + 80)])) :: E0)) C hinit yp_Game_32 rfl rfl (Nat.le_of_ble_eq_true rfl) rfl rfl (by omega) d_Game_init_44 ?_
  refine y_aload_n C d_Game_init_47 0 rfl ?_
  refine y_aload_n C d_Game_init_48 2 rfl ?_
  refine y_putF (i := 0) (E1 := ((68, .inr (3, [.ref (G.2.2.1 + 4), .ref (G.2.2.1 + 38), .null, .ref (G.2.2.1 + 69), .ref (G.2.2.1 + 78), .int 0, .ref (G.2.2.1 + 79), .ref (G.2.2.1 + 80)])) :: E0)) C hinit yp_Game_36 rfl rfl (Nat.le_of_ble_eq_true rfl) rfl rfl (by omega) d_Game_init_49 ?_
  refine y_aload_n C d_Game_init_52 0 rfl ?_
  refine y_aload_n C d_Game_init_53 3 rfl ?_
  refine y_putF (i := 0) (E1 := ((68, .inr (3, [.ref (G.2.2.1 + 4), .ref (G.2.2.1 + 38), .ref (G.2.2.1 + 39), .ref (G.2.2.1 + 69), .ref (G.2.2.1 + 78), .int 0, .ref (G.2.2.1 + 79), .ref (G.2.2.1 + 80)])) :: E0)) C hinit yp_Game_40 rfl rfl (Nat.le_of_ble_eq_true rfl) rfl rfl (by omega) d_Game_init_54 ?_
  refine y_done C (yE_obj (y := 0) (by decide +kernel) rfl) (fun _ h => h) ?_
  exact y_vret C hN hr hk d_Game_init_57
theorem d_Branches_init_0 : decode prog_2_method_1_code 0 = .ok (.aload_n 0, 1) := by decide +kernel
theorem d_Branches_init_1 : decode prog_2_method_1_code 1 = .ok (.invokespecial 3, 3) := by decide +kernel
theorem d_Branches_init_4 : decode prog_2_method_1_code 4 = .ok (.aload_n 0, 1) := by decide +kernel
theorem d_Branches_init_5 : decode prog_2_method_1_code 5 = .ok (.bipush 11, 2) := by decide +kernel
theorem d_Branches_init_7 : decode prog_2_method_1_code 7 = .ok (.anewarray 9, 3) := by decide +kernel
theorem d_Branches_init_10 : decode prog_2_method_1_code 10 = .ok (.putfield 11, 3) := by decide +kernel
theorem d_Branches_init_13 : decode prog_2_method_1_code 13 = .ok (.aload_n 0, 1) := by decide +kernel
theorem d_Branches_init_14 : decode prog_2_method_1_code 14 = .ok (.iconst 0, 1) := by decide +kernel
theorem d_Branches_init_15 : decode prog_2_method_1_code 15 = .ok (.putfield 17, 3) := by decide +kernel
theorem d_Branches_init_18 : decode prog_2_method_1_code 18 = .ok (.aload_n 0, 1) := by decide +kernel
theorem d_Branches_init_19 : decode prog_2_method_1_code 19 = .ok (.iconst 0, 1) := by decide +kernel
theorem d_Branches_init_20 : decode prog_2_method_1_code 20 = .ok (.putfield 21, 3) := by decide +kernel
theorem d_Branches_init_23 : decode prog_2_method_1_code 23 = .ok (.aload_n 0, 1) := by decide +kernel
theorem d_Branches_init_24 : decode prog_2_method_1_code 24 = .ok (.iconst (-1), 1) := by decide +kernel
theorem d_Branches_init_25 : decode prog_2_method_1_code 25 = .ok (.putfield 24, 3) := by decide +kernel
theorem d_Branches_init_28 : decode prog_2_method_1_code 28 = .ok (.aload_n 0, 1) := by decide +kernel
theorem d_Branches_init_29 : decode prog_2_method_1_code 29 = .ok (.bipush 8, 2) := by decide +kernel
theorem d_Branches_init_31 : decode prog_2_method_1_code 31 = .ok (.newarray .int, 2) := by decide +kernel
theorem d_Branches_init_33 : decode prog_2_method_1_code 33 = .ok (.putfield 27, 3) := by decide +kernel
theorem d_Branches_init_36 : decode prog_2_method_1_code 36 = .ok (.aload_n 0, 1) := by decide +kernel
theorem d_Branches_init_37 : decode prog_2_method_1_code 37 = .ok (.bipush 8, 2) := by decide +kernel
theorem d_Branches_init_39 : decode prog_2_method_1_code 39 = .ok (.newarray .int, 2) := by decide +kernel
theorem d_Branches_init_41 : decode prog_2_method_1_code 41 = .ok (.putfield 31, 3) := by decide +kernel
theorem d_Branches_init_44 : decode prog_2_method_1_code 44 = .ok (.aload_n 0, 1) := by decide +kernel
theorem d_Branches_init_45 : decode prog_2_method_1_code 45 = .ok (.iconst 0, 1) := by decide +kernel
theorem d_Branches_init_46 : decode prog_2_method_1_code 46 = .ok (.putfield 34, 3) := by decide +kernel
theorem d_Branches_init_49 : decode prog_2_method_1_code 49 = .ok (.aload_n 0, 1) := by decide +kernel
theorem d_Branches_init_50 : decode prog_2_method_1_code 50 = .ok (.bipush 10, 2) := by decide +kernel
theorem d_Branches_init_52 : decode prog_2_method_1_code 52 = .ok (.newarray .int, 2) := by decide +kernel
theorem d_Branches_init_54 : decode prog_2_method_1_code 54 = .ok (.putfield 37, 3) := by decide +kernel
theorem d_Branches_init_57 : decode prog_2_method_1_code 57 = .ok (.aload_n 0, 1) := by decide +kernel
theorem d_Branches_init_58 : decode prog_2_method_1_code 58 = .ok (.iconst 0, 1) := by decide +kernel
theorem d_Branches_init_59 : decode prog_2_method_1_code 59 = .ok (.putfield 40, 3) := by decide +kernel
theorem d_Branches_init_62 : decode prog_2_method_1_code 62 = .ok (.aload_n 0, 1) := by decide +kernel
theorem d_Branches_init_63 : decode prog_2_method_1_code 63 = .ok (.sipush 1024, 3) := by decide +kernel
theorem d_Branches_init_66 : decode prog_2_method_1_code 66 = .ok (.newarray .boolean, 2) := by decide +kernel
theorem d_Branches_init_68 : decode prog_2_method_1_code 68 = .ok (.putfield 43, 3) := by decide +kernel
theorem d_Branches_init_71 : decode prog_2_method_1_code 71 = .ok (.aload_n 0, 1) := by decide +kernel
theorem d_Branches_init_72 : decode prog_2_method_1_code 72 = .ok (.new 9, 3) := by decide +kernel
theorem d_Branches_init_75 : decode prog_2_method_1_code 75 = .ok (.dup, 1) := by decide +kernel
theorem d_Branches_init_76 : decode prog_2_method_1_code 76 = .ok (.invokespecial 47, 3) := by decide +kernel
theorem d_Branches_init_79 : decode prog_2_method_1_code 79 = .ok (.putfield 48, 3) := by decide +kernel
theorem d_Branches_init_82 : decode prog_2_method_1_code 82 = .ok (.aload_n 0, 1) := by decide +kernel
theorem d_Branches_init_83 : decode prog_2_method_1_code 83 = .ok (.iconst (-1), 1) := by decide +kernel
theorem d_Branches_init_84 : decode prog_2_method_1_code 84 = .ok (.putfield 52, 3) := by decide +kernel
theorem d_Branches_init_87 : decode prog_2_method_1_code 87 = .ok (.aload_n 0, 1) := by decide +kernel
theorem d_Branches_init_88 : decode prog_2_method_1_code 88 = .ok (.iconst (-1), 1) := by decide +kernel
theorem d_Branches_init_89 : decode prog_2_method_1_code 89 = .ok (.putfield 55, 3) := by decide +kernel
theorem d_Branches_init_92 : decode prog_2_method_1_code 92 = .ok (.aload_n 0, 1) := by decide +kernel
theorem d_Branches_init_93 : decode prog_2_method_1_code 93 = .ok (.aload_n 1, 1) := by decide +kernel
theorem d_Branches_init_94 : decode prog_2_method_1_code 94 = .ok (.putfield 58, 3) := by decide +kernel
theorem d_Branches_init_97 : decode prog_2_method_1_code 97 = .ok (.aload_n 0, 1) := by decide +kernel
theorem d_Branches_init_98 : decode prog_2_method_1_code 98 = .ok (.aload_n 2, 1) := by decide +kernel
theorem d_Branches_init_99 : decode prog_2_method_1_code 99 = .ok (.putfield 62, 3) := by decide +kernel
theorem d_Branches_init_102 : decode prog_2_method_1_code 102 = .ok (.aload_n 0, 1) := by decide +kernel
theorem d_Branches_init_103 : decode prog_2_method_1_code 103 = .ok (.aload_n 3, 1) := by decide +kernel
theorem d_Branches_init_104 : decode prog_2_method_1_code 104 = .ok (.putfield 66, 3) := by decide +kernel
theorem d_Branches_init_107 : decode prog_2_method_1_code 107 = .ok (.aload_n 0, 1) := by decide +kernel
theorem d_Branches_init_108 : decode prog_2_method_1_code 108 = .ok (.aload 4, 2) := by decide +kernel
theorem d_Branches_init_110 : decode prog_2_method_1_code 110 = .ok (.putfield 70, 3) := by decide +kernel
theorem d_Branches_init_113 : decode prog_2_method_1_code 113 = .ok (.iconst 0, 1) := by decide +kernel
theorem d_Branches_init_114 : decode prog_2_method_1_code 114 = .ok (.istore 5, 2) := by decide +kernel
theorem d_Branches_init_116 : decode prog_2_method_1_code 116 = .ok (.iload 5, 2) := by decide +kernel
theorem d_Branches_init_118 : decode prog_2_method_1_code 118 = .ok (.aload_n 0, 1) := by decide +kernel
theorem d_Branches_init_119 : decode prog_2_method_1_code 119 = .ok (.getfield 11, 3) := by decide +kernel
theorem d_Branches_init_122 : decode prog_2_method_1_code 122 = .ok (.arraylength, 1) := by decide +kernel
theorem d_Branches_init_123 : decode prog_2_method_1_code 123 = .ok (.if_icmp .ge 23, 3) := by decide +kernel
theorem d_Branches_init_126 : decode prog_2_method_1_code 126 = .ok (.aload_n 0, 1) := by decide +kernel
theorem d_Branches_init_127 : decode prog_2_method_1_code 127 = .ok (.getfield 11, 3) := by decide +kernel
theorem d_Branches_init_130 : decode prog_2_method_1_code 130 = .ok (.iload 5, 2) := by decide +kernel
theorem d_Branches_init_132 : decode prog_2_method_1_code 132 = .ok (.new 9, 3) := by decide +kernel
theorem d_Branches_init_135 : decode prog_2_method_1_code 135 = .ok (.dup, 1) := by decide +kernel
theorem d_Branches_init_136 : decode prog_2_method_1_code 136 = .ok (.invokespecial 47, 3) := by decide +kernel
theorem d_Branches_init_139 : decode prog_2_method_1_code 139 = .ok (.aastore, 1) := by decide +kernel
theorem d_Branches_init_140 : decode prog_2_method_1_code 140 = .ok (.iinc 5 1, 3) := by decide +kernel
theorem d_Branches_init_143 : decode prog_2_method_1_code 143 = .ok (.goto (-27), 3) := by decide +kernel
theorem d_Branches_init_146 : decode prog_2_method_1_code 146 = .ok (.return_, 1) := by decide +kernel
theorem yl_Branches_init_116 {G : XG} {hi : Nat} {p : Program} {l : Launch} {e : Env} {s : State} {m : MethodId} {args : Array Value} {below : List Frame} {meth : Method} {c : Code} {Q : State → Prop} (hhi : 600 ≤ hi) (C : XC G 1 hi p s m args c prog_2_method_1_code 6 R_Branches) (hN : yN s) {E0 : List (Nat × va_E)} (hE0 : ∀ (j : Nat) (q : Nat × va_E), E0[j]? = some q → q.1 < 81) (kk : YJ G hi p l e (yrm 2 113 4745) s m args below meth c 6 Q 113 4745 146 ((5, .int (Int32.ofNat 11)) :: [(0, .ref (G.2.2.1 + 81)), (1, .ref (G.2.2.1 + 4)), (2, .ref (G.2.2.1 + 33)), (3, .ref (G.2.2.1 + 38)), (4, .ref (G.2.2.1 + 39))]) [] 194 ((82, .inl (G.2.1 4, 11, .inr (.inr (.inr (.inr (yfn G.2.2.1 96 9 11)))))) :: ((81, .inr (1, [.ref (G.2.2.1 + 4), .ref (G.2.2.1 + 33), .ref (G.2.2.1 + 38), .ref (G.2.2.1 + 39), .ref (G.2.2.1 + 82), .int 0, .int 0, .int (-1), .ref (G.2.2.1 + 83), .ref (G.2.2.1 + 84), .int 0, .ref (G.2.2.1 + 85), .int 0, .ref (G.2.2.1 + 86), .ref (G.2.2.1 + 87), .int (-1), .int (-1)])) :: E0))) : ∀ (j k : Nat), k + j = 11 → YJ G hi p l e (yrm 2 113 4745) s m args below meth c 6 Q (14 + 9 * k) (1368 + 307 * k) 116 ((5, .int (Int32.ofNat k)) :: [(0, .ref (G.2.2.1 + 81)), (1, .ref (G.2.2.1 + 4)), (2, .ref (G.2.2.1 + 33)), (3, .ref (G.2.2.1 + 38)), (4, .ref (G.2.2.1 + 39))]) [] (95 + 9 * k) ((82, .inl (G.2.1 4, 11, .inr (.inr (.inr (.inr (yfn G.2.2.1 96 9 k)))))) :: ((81, .inr (1, [.ref (G.2.2.1 + 4), .ref (G.2.2.1 + 33), .ref (G.2.2.1 + 38), .ref (G.2.2.1 + 39), .ref (G.2.2.1 + 82), .int 0, .int 0, .int (-1), .ref (G.2.2.1 + 83), .ref (G.2.2.1 + 84), .int 0, .ref (G.2.2.1 + 85), .int 0, .ref (G.2.2.1 + 86), .ref (G.2.2.1 + 87), .int (-1), .int (-1)])) :: E0)) := by
  intro j
  induction j with
  | zero =>
    intro k hk
    have hk2 : k = 11 := by omega
    subst hk2
    refine y_iload C d_Branches_init_116 0 rfl ?_
    refine y_aload_n C d_Branches_init_118 1 rfl ?_
    refine y_get (i := 1) C yg_Branches_11 rfl rfl d_Branches_init_119 ?_
    refine y_alen (i := 0) (tix := 4) (v := 11) C rfl rfl (by decide) d_Branches_init_122 ?_
    refine y_icmp_ge C 146 d_Branches_init_123 (by decide) ?_ ?_
    · exact fun _ => kk
    · exact fun q => absurd (show (Int32.ofNat 11 : Int32) ≤ Int32.ofNat 11 by decide) q
  | succ j ih =>
    intro k hk
    have hk2 : k < 11 := by omega
    refine y_iload C d_Branches_init_116 0 rfl ?_
    refine y_aload_n C d_Branches_init_118 1 rfl ?_
    refine y_get (i := 1) C yg_Branches_11 rfl rfl d_Branches_init_119 ?_
    refine y_alen (i := 0) (tix := 4) (v := 11) C rfl rfl (by decide) d_Branches_init_122 ?_
    refine y_icmp_ge C 146 d_Branches_init_123 (by decide) ?_ ?_
    · intro q; exact absurd q ((show ∀ k, k < 11 → ¬ (Int32.ofNat 11 ≤ Int32.ofNat k) by decide) k hk2)
    intro _
    refine y_aload_n C d_Branches_init_126 1 rfl ?_
    refine y_get (i := 1) C yg_Branches_11 rfl rfl d_Branches_init_127 ?_
    refine y_iload C d_Branches_init_130 0 rfl ?_
    refine y_new (n1 := 96 + 9 * k) (c1 := 14 + 9 * k + 1) (s1 := 1368 + 307 * k + 11) C yn_Branches_9 (by omega) (by omega) (by omega) (by show _ ≤ 113; omega) (by show _ ≤ 4745; omega) d_Branches_init_132 ?_
    refine y_dup C d_Branches_init_135 rfl ?_
    have hm : 96 + 9 * k ∈ xHalls := (show ∀ k, k < 11 → 96 + 9 * k ∈ xHalls by decide) k hk2
    refine y_call (d := 1) (mc := 8) (ms := 296) (n' := 95 + 9 * (k + 1)) (c1 := 14 + 9 * (k + 1)) (s1 := 1368 + 307 * (k + 1)) (As := []) C hN (yM.to (c_Hall_init hhi hm) (by omega)) yc_Branches_47 (Or.inr ⟨"LostPlaces", List.mem_of_getElem? (i := 6) rfl⟩) rfl rfl (Nat.le_of_ble_eq_true rfl) ⟨by decide, by decide⟩ (by omega) (by omega) ⟨Nat.le_trans (m := 113) (by omega) (Nat.le_refl _), Nat.le_trans (Nat.add_le_add_left (Nat.mul_le_mul_left 307 hk2) 1368) (by decide)⟩ (by omega) d_Branches_init_136 ?_
    refine y_ast (i := 0) (tix := 4) (r := (R_Hall, F_Hall, 11)) (b := 96 + 9 * k) (E1 := ((82, .inl (G.2.1 4, 11, .inr (.inr (.inr (.inr (yfn G.2.2.1 96 9 (k + 1))))))) :: ((81, .inr (1, [.ref (G.2.2.1 + 4), .ref (G.2.2.1 + 33), .ref (G.2.2.1 + 38), .ref (G.2.2.1 + 39), .ref (G.2.2.1 + 82), .int 0, .int 0, .int (-1), .ref (G.2.2.1 + 83), .ref (G.2.2.1 + 84), .int 0, .ref (G.2.2.1 + 85), .int 0, .ref (G.2.2.1 + 86), .ref (G.2.2.1 + 87), .int (-1), .int (-1)])) :: E0))) C rfl rfl ⟨by omega, by omega, (yltE (by dsimp only; omega) (yltE (by dsimp only; omega) (fun j q hq => by have := hE0 j q hq; omega)))⟩ ?_ (yE_obj (hl_0 hm).1 rfl) rfl (ib_in ((show ∀ k, k < 11 → ib (Int32.ofNat k) 11 by decide) k hk2)) (by omega) d_Branches_init_139 ?_
    · rw [(show ∀ k, k < 11 → (Int32.ofNat k).toNatClampNeg = k by decide) k hk2, ← yfn_succ]; rfl
    refine y_iinc (v := Int32.ofNat (k + 1)) (lv' := (5, .int (Int32.ofNat (k + 1))) :: [(0, .ref (G.2.2.1 + 81)), (1, .ref (G.2.2.1 + 4)), (2, .ref (G.2.2.1 + 33)), (3, .ref (G.2.2.1 + 38)), (4, .ref (G.2.2.1 + 39))]) C d_Branches_init_140 0 rfl ((show ∀ k, k < 11 → Int32.ofNat (k + 1) = Int32.ofNat k + Int32.ofInt 1 by decide) k hk2) (by decide) rfl ?_
    refine y_goto C 116 d_Branches_init_143 (by decide) ?_
    exact ih (k + 1) (by omega)
theorem c_Branches_init {G : XG} {hi : Nat} {l : Launch} (hhi : 600 ≤ hi) {E0 : List (Nat × va_E)} (hE0 : ∀ (j : Nat) (q : Nat × va_E), E0[j]? = some q → q.1 < 81) : yM G hi l y_Branches_init prog_2_method_1_code 6 2 113 4745 [.ref (G.2.2.1 + 81), .ref (G.2.2.1 + 4), .ref (G.2.2.1 + 33), .ref (G.2.2.1 + 38), .ref (G.2.2.1 + 39)] 81 ((81, .inr (1, [.null, .null, .null, .null, .null, .int 0, .int 0, .int 0, .null, .null, .int 0, .null, .int 0, .null, .null, .int 0, .int 0])) :: E0) 194 E0 := by
  refine y_met R_Branches rfl (by decide +kernel) (Nat.le_of_ble_eq_true rfl) fun p e s m below meth c C hN hinit hr hk _ => ?_
  refine y_aload_n C d_Branches_init_0 0 rfl ?_
  refine y_obj C wc_525 wobj_i wobj_c ⟨by decide, by decide⟩ (Nat.le_of_ble_eq_true rfl) d_Branches_init_1 ?_
  refine y_aload_n C d_Branches_init_4 0 rfl ?_
  refine y_bipush (v := 11) C d_Branches_init_5 (by decide) ?_
  refine y_newqH (N := 11) (n1 := 82) (c1 := 1) (s1 := 11) C rfl rfl rfl hN.2.1 wc_526 (by decide) (by decide) (by decide) (by decide) (by decide) d_Branches_init_7 ?_
  refine y_putF (i := 1) (E1 := ((82, .inl (G.2.1 4, 11, .inr (.inr (.inr (.inr (fun _ => none)))))) :: ((81, .inr (1, [.null, .null, .null, .null, .ref (G.2.2.1 + 82), .int 0, .int 0, .int 0, .null, .null, .int 0, .null, .int 0, .null, .null, .int 0, .int 0])) :: E0))) C hinit yp_Branches_11 rfl rfl (Nat.le_of_ble_eq_true rfl) rfl rfl (by omega) d_Branches_init_10 ?_
  refine y_aload_n C d_Branches_init_13 0 rfl ?_
  refine y_iconst (v := 0) C d_Branches_init_14 (by decide) ?_
  refine y_put (i := 1) (E1 := ((82, .inl (G.2.1 4, 11, .inr (.inr (.inr (.inr (fun _ => none)))))) :: ((81, .inr (1, [.null, .null, .null, .null, .ref (G.2.2.1 + 82), .int 0, .int 0, .int 0, .null, .null, .int 0, .null, .int 0, .null, .null, .int 0, .int 0])) :: E0))) C yp_Branches_17 rfl rfl (Nat.le_of_ble_eq_true rfl) rfl rfl (by omega) d_Branches_init_15 ?_
  refine y_aload_n C d_Branches_init_18 0 rfl ?_
  refine y_iconst (v := 0) C d_Branches_init_19 (by decide) ?_
  refine y_put (i := 1) (E1 := ((82, .inl (G.2.1 4, 11, .inr (.inr (.inr (.inr (fun _ => none)))))) :: ((81, .inr (1, [.null, .null, .null, .null, .ref (G.2.2.1 + 82), .int 0, .int 0, .int 0, .null, .null, .int 0, .null, .int 0, .null, .null, .int 0, .int 0])) :: E0))) C yp_Branches_21 rfl rfl (Nat.le_of_ble_eq_true rfl) rfl rfl (by omega) d_Branches_init_20 ?_
  refine y_aload_n C d_Branches_init_23 0 rfl ?_
  refine y_iconst (v := (-1)) C d_Branches_init_24 (by decide) ?_
  refine y_put (i := 1) (E1 := ((82, .inl (G.2.1 4, 11, .inr (.inr (.inr (.inr (fun _ => none)))))) :: ((81, .inr (1, [.null, .null, .null, .null, .ref (G.2.2.1 + 82), .int 0, .int 0, .int (-1), .null, .null, .int 0, .null, .int 0, .null, .null, .int 0, .int 0])) :: E0))) C yp_Branches_24 rfl rfl (Nat.le_of_ble_eq_true rfl) rfl rfl (by omega) d_Branches_init_25 ?_
  refine y_aload_n C d_Branches_init_28 0 rfl ?_
  refine y_bipush (v := 8) C d_Branches_init_29 (by decide) ?_
  refine y_newI (N := 8) (n1 := 83) (c1 := 2) (s1 := 19) C rfl rfl rfl wc_165 (by decide +kernel) (by decide) (by decide) (by decide) (by decide) (by decide) d_Branches_init_31 ?_
  refine y_putF (i := 1) (E1 := ((82, .inl (G.2.1 4, 11, .inr (.inr (.inr (.inr (fun _ => none)))))) :: ((81, .inr (1, [.null, .null, .null, .null, .ref (G.2.2.1 + 82), .int 0, .int 0, .int (-1), .ref (G.2.2.1 + 83), .null, .int 0, .null, .int 0, .null, .null, .int 0, .int 0])) :: E0))) C hinit yp_Branches_27 rfl rfl (Nat.le_of_ble_eq_true rfl) rfl rfl (by omega) d_Branches_init_33 ?_
  refine y_aload_n C d_Branches_init_36 0 rfl ?_
  refine y_bipush (v := 8) C d_Branches_init_37 (by decide) ?_
  refine y_newI (N := 8) (n1 := 84) (c1 := 3) (s1 := 27) C rfl rfl rfl wc_165 (by decide +kernel) (by decide) (by decide) (by decide) (by decide) (by decide) d_Branches_init_39 ?_
  refine y_putF (i := 1) (E1 := ((82, .inl (G.2.1 4, 11, .inr (.inr (.inr (.inr (fun _ => none)))))) :: ((81, .inr (1, [.null, .null, .null, .null, .ref (G.2.2.1 + 82), .int 0, .int 0, .int (-1), .ref (G.2.2.1 + 83), .ref (G.2.2.1 + 84), .int 0, .null, .int 0, .null, .null, .int 0, .int 0])) :: E0))) C hinit yp_Branches_31 rfl rfl (Nat.le_of_ble_eq_true rfl) rfl rfl (by omega) d_Branches_init_41 ?_
  refine y_aload_n C d_Branches_init_44 0 rfl ?_
  refine y_iconst (v := 0) C d_Branches_init_45 (by decide) ?_
  refine y_put (i := 1) (E1 := ((82, .inl (G.2.1 4, 11, .inr (.inr (.inr (.inr (fun _ => none)))))) :: ((81, .inr (1, [.null, .null, .null, .null, .ref (G.2.2.1 + 82), .int 0, .int 0, .int (-1), .ref (G.2.2.1 + 83), .ref (G.2.2.1 + 84), .int 0, .null, .int 0, .null, .null, .int 0, .int 0])) :: E0))) C yp_Branches_34 rfl rfl (Nat.le_of_ble_eq_true rfl) rfl rfl (by omega) d_Branches_init_46 ?_
  refine y_aload_n C d_Branches_init_49 0 rfl ?_
  refine y_bipush (v := 10) C d_Branches_init_50 (by decide) ?_
  refine y_newI (N := 10) (n1 := 85) (c1 := 4) (s1 := 37) C rfl rfl rfl wc_165 (by decide +kernel) (by decide) (by decide) (by decide) (by decide) (by decide) d_Branches_init_52 ?_
  refine y_putF (i := 1) (E1 := ((82, .inl (G.2.1 4, 11, .inr (.inr (.inr (.inr (fun _ => none)))))) :: ((81, .inr (1, [.null, .null, .null, .null, .ref (G.2.2.1 + 82), .int 0, .int 0, .int (-1), .ref (G.2.2.1 + 83), .ref (G.2.2.1 + 84), .int 0, .ref (G.2.2.1 + 85), .int 0, .null, .null, .int 0, .int 0])) :: E0))) C hinit yp_Branches_37 rfl rfl (Nat.le_of_ble_eq_true rfl) rfl rfl (by omega) d_Branches_init_54 ?_
  refine y_aload_n C d_Branches_init_57 0 rfl ?_
  refine y_iconst (v := 0) C d_Branches_init_58 (by decide) ?_
  refine y_put (i := 1) (E1 := ((82, .inl (G.2.1 4, 11, .inr (.inr (.inr (.inr (fun _ => none)))))) :: ((81, .inr (1, [.null, .null, .null, .null, .ref (G.2.2.1 + 82), .int 0, .int 0, .int (-1), .ref (G.2.2.1 + 83), .ref (G.2.2.1 + 84), .int 0, .ref (G.2.2.1 + 85), .int 0, .null, .null, .int 0, .int 0])) :: E0))) C yp_Branches_40 rfl rfl (Nat.le_of_ble_eq_true rfl) rfl rfl (by omega) d_Branches_init_59 ?_
  refine y_aload_n C d_Branches_init_62 0 rfl ?_
  refine y_sipush (v := 1024) C d_Branches_init_63 (by decide) ?_
  refine y_newZ (N := 1024) (n1 := 86) (c1 := 5) (s1 := 1061) C rfl rfl rfl wc_583 (by decide +kernel) (by decide) (by decide) (by decide) (by decide) (by decide) d_Branches_init_66 ?_
  refine y_putF (i := 1) (E1 := ((82, .inl (G.2.1 4, 11, .inr (.inr (.inr (.inr (fun _ => none)))))) :: ((81, .inr (1, [.null, .null, .null, .null, .ref (G.2.2.1 + 82), .int 0, .int 0, .int (-1), .ref (G.2.2.1 + 83), .ref (G.2.2.1 + 84), .int 0, .ref (G.2.2.1 + 85), .int 0, .ref (G.2.2.1 + 86), .null, .int 0, .int 0])) :: E0))) C hinit yp_Branches_43 rfl rfl (Nat.le_of_ble_eq_true rfl) rfl rfl (by omega) d_Branches_init_68 ?_
  refine y_aload_n C d_Branches_init_71 0 rfl ?_
  refine y_new (n1 := 87) (c1 := 6) (s1 := 1072) C yn_Branches_9 rfl rfl rfl (by decide) (by decide) d_Branches_init_72 ?_
  refine y_dup C d_Branches_init_75 rfl ?_
  refine y_call (d := 1) (mc := 8) (ms := 296) (n' := 95) (c1 := 14) (s1 := 1368) (As := []) C hN (c_Hall_init hhi (show 87 ∈ xHalls by decide)) yc_Branches_47 (Or.inr ⟨"LostPlaces", List.mem_of_getElem? (i := 6) rfl⟩) rfl rfl (Nat.le_of_ble_eq_true rfl) ⟨by decide, by decide⟩ rfl rfl ⟨by decide, by decide⟩ rfl d_Branches_init_76 ?_
  refine y_putF (i := 1) (E1 := ((82, .inl (G.2.1 4, 11, .inr (.inr (.inr (.inr (fun _ => none)))))) :: ((81, .inr (1, [.null, .null, .null, .null, .ref (G.2.2.1 + 82), .int 0, .int 0, .int (-1), .ref (G.2.2.1 + 83), .ref (G.2.2.1 + 84), .int 0, .ref (G.2.2.1 + 85), .int 0, .ref (G.2.2.1 + 86), .ref (G.2.2.1 + 87), .int 0, .int 0])) :: E0))) C hinit yp_Branches_48 rfl rfl (Nat.le_of_ble_eq_true rfl) rfl rfl (by omega) d_Branches_init_79 ?_
  refine y_aload_n C d_Branches_init_82 0 rfl ?_
  refine y_iconst (v := (-1)) C d_Branches_init_83 (by decide) ?_
  refine y_put (i := 1) (E1 := ((82, .inl (G.2.1 4, 11, .inr (.inr (.inr (.inr (fun _ => none)))))) :: ((81, .inr (1, [.null, .null, .null, .null, .ref (G.2.2.1 + 82), .int 0, .int 0, .int (-1), .ref (G.2.2.1 + 83), .ref (G.2.2.1 + 84), .int 0, .ref (G.2.2.1 + 85), .int 0, .ref (G.2.2.1 + 86), .ref (G.2.2.1 + 87), .int (-1), .int 0])) :: E0))) C yp_Branches_52 rfl rfl (Nat.le_of_ble_eq_true rfl) rfl rfl (by omega) d_Branches_init_84 ?_
  refine y_aload_n C d_Branches_init_87 0 rfl ?_
  refine y_iconst (v := (-1)) C d_Branches_init_88 (by decide) ?_
  refine y_put (i := 1) (E1 := ((82, .inl (G.2.1 4, 11, .inr (.inr (.inr (.inr (fun _ => none)))))) :: ((81, .inr (1, [.null, .null, .null, .null, .ref (G.2.2.1 + 82), .int 0, .int 0, .int (-1), .ref (G.2.2.1 + 83), .ref (G.2.2.1 + 84), .int 0, .ref (G.2.2.1 + 85), .int 0, .ref (G.2.2.1 + 86), .ref (G.2.2.1 + 87), .int (-1), .int (-1)])) :: E0))) C yp_Branches_55 rfl rfl (Nat.le_of_ble_eq_true rfl) rfl rfl (by omega) d_Branches_init_89 ?_
  refine y_aload_n C d_Branches_init_92 0 rfl ?_
  refine y_aload_n C d_Branches_init_93 1 rfl ?_
  refine y_putF (i := 1) (E1 := ((82, .inl (G.2.1 4, 11, .inr (.inr (.inr (.inr (fun _ => none)))))) :: ((81, .inr (1, [.ref (G.2.2.1 + 4), .null, .null, .null, .ref (G.2.2.1 + 82), .int 0, .int 0, .int (-1), .ref (G.2.2.1 + 83), .ref (G.2.2.1 + 84), .int 0, .ref (G.2.2.1 + 85), .int 0, .ref (G.2.2.1 + 86), .ref (G.2.2.1 + 87), .int (-1), .int (-1)])) :: E0))) C hinit yp_Branches_58 rfl rfl (Nat.le_of_ble_eq_true rfl) rfl rfl (by omega) d_Branches_init_94 ?_
  refine y_aload_n C d_Branches_init_97 0 rfl ?_
  refine y_aload_n C d_Branches_init_98 2 rfl ?_
  refine y_putF (i := 1) (E1 := ((82, .inl (G.2.1 4, 11, .inr (.inr (.inr (.inr (fun _ => none)))))) :: ((81, .inr (1, [.ref (G.2.2.1 + 4), .ref (G.2.2.1 + 33), .null, .null, .ref (G.2.2.1 + 82), .int 0, .int 0, .int (-1), .ref (G.2.2.1 + 83), .ref (G.2.2.1 + 84), .int 0, .ref (G.2.2.1 + 85), .int 0, .ref (G.2.2.1 + 86), .ref (G.2.2.1 + 87), .int (-1), .int (-1)])) :: E0))) C hinit yp_Branches_62 rfl rfl (Nat.le_of_ble_eq_true rfl) rfl rfl (by omega) d_Branches_init_99 ?_
  refine y_aload_n C d_Branches_init_102 0 rfl ?_
  refine y_aload_n C d_Branches_init_103 3 rfl ?_
  refine y_putF (i := 1) (E1 := ((82, .inl (G.2.1 4, 11, .inr (.inr (.inr (.inr (fun _ => none)))))) :: ((81, .inr (1, [.ref (G.2.2.1 + 4), .ref (G.2.2.1 + 33), .ref (G.2.2.1 + 38), .null, .ref (G.2.2.1 + 82), .int 0, .int 0, .int (-1), .ref (G.2.2.1 + 83), .ref (G.2.2.1 + 84), .int 0, .ref (G.2.2.1 + 85), .int 0, .ref (G.2.2.1 + 86), .ref (G.2.2.1 + 87), .int (-1), .int (-1)])) :: E0))) C hinit yp_Branches_66 rfl rfl (Nat.le_of_ble_eq_true rfl) rfl rfl (by omega) d_Branches_init_104 ?_
  refine y_aload_n C d_Branches_init_107 0 rfl ?_
  refine y_aload C d_Branches_init_108 4 rfl ?_
  refine y_putF (i := 1) (E1 := ((82, .inl (G.2.1 4, 11, .inr (.inr (.inr (.inr (fun _ => none)))))) :: ((81, .inr (1, [.ref (G.2.2.1 + 4), .ref (G.2.2.1 + 33), .ref (G.2.2.1 + 38), .ref (G.2.2.1 + 39), .ref (G.2.2.1 + 82), .int 0, .int 0, .int (-1), .ref (G.2.2.1 + 83), .ref (G.2.2.1 + 84), .int 0, .ref (G.2.2.1 + 85), .int 0, .ref (G.2.2.1 + 86), .ref (G.2.2.1 + 87), .int (-1), .int (-1)])) :: E0))) C hinit yp_Branches_70 rfl rfl (Nat.le_of_ble_eq_true rfl) rfl rfl (by omega) d_Branches_init_110 ?_
  refine y_iconst (v := 0) C d_Branches_init_113 (by decide) ?_
  refine y_istore (lv' := (5, .int 0) :: [(0, .ref (G.2.2.1 + 81)), (1, .ref (G.2.2.1 + 4)), (2, .ref (G.2.2.1 + 33)), (3, .ref (G.2.2.1 + 38)), (4, .ref (G.2.2.1 + 39))]) C d_Branches_init_114 (by decide) rfl ?_
  refine y_E (E1 := ((82, .inl (G.2.1 4, 11, .inr (.inr (.inr (.inr (yfn G.2.2.1 96 9 0)))))) :: ((81, .inr (1, [.ref (G.2.2.1 + 4), .ref (G.2.2.1 + 33), .ref (G.2.2.1 + 38), .ref (G.2.2.1 + 39), .ref (G.2.2.1 + 82), .int 0, .int 0, .int (-1), .ref (G.2.2.1 + 83), .ref (G.2.2.1 + 84), .int 0, .ref (G.2.2.1 + 85), .int 0, .ref (G.2.2.1 + 86), .ref (G.2.2.1 + 87), .int (-1), .int (-1)])) :: E0))) C (by rw [yfn_zero]) ?_
  refine yl_Branches_init_116 hhi C hN hE0 ?_ 11 0 rfl
  refine y_done C (yE_arr4 (n := 11) (y := 96) (by decide +kernel)) yfn_at ?_
  refine y_done C (yE_obj (y := 0) (by decide +kernel) rfl) (fun _ h => h) ?_
  exact y_vret C hN hr hk d_Branches_init_146
theorem d_Main_init_0 : decode prog_1_method_1_code 0 = .ok (.aload_n 0, 1) := by decide +kernel
theorem d_Main_init_1 : decode prog_1_method_1_code 1 = .ok (.invokespecial 1, 3) := by decide +kernel
theorem d_Main_init_4 : decode prog_1_method_1_code 4 = .ok (.aload_n 0, 1) := by decide +kernel
theorem d_Main_init_5 : decode prog_1_method_1_code 5 = .ok (.new 7, 3) := by decide +kernel
theorem d_Main_init_8 : decode prog_1_method_1_code 8 = .ok (.dup, 1) := by decide +kernel
theorem d_Main_init_9 : decode prog_1_method_1_code 9 = .ok (.invokespecial 9, 3) := by decide +kernel
theorem d_Main_init_12 : decode prog_1_method_1_code 12 = .ok (.putfield 10, 3) := by decide +kernel
theorem d_Main_init_15 : decode prog_1_method_1_code 15 = .ok (.aload_n 0, 1) := by decide +kernel
theorem d_Main_init_16 : decode prog_1_method_1_code 16 = .ok (.new 16, 3) := by decide +kernel
theorem d_Main_init_19 : decode prog_1_method_1_code 19 = .ok (.dup, 1) := by decide +kernel
theorem d_Main_init_20 : decode prog_1_method_1_code 20 = .ok (.invokespecial 18, 3) := by decide +kernel
theorem d_Main_init_23 : decode prog_1_method_1_code 23 = .ok (.putfield 19, 3) := by decide +kernel
theorem d_Main_init_26 : decode prog_1_method_1_code 26 = .ok (.aload_n 0, 1) := by decide +kernel
theorem d_Main_init_27 : decode prog_1_method_1_code 27 = .ok (.new 16, 3) := by decide +kernel
theorem d_Main_init_30 : decode prog_1_method_1_code 30 = .ok (.dup, 1) := by decide +kernel
theorem d_Main_init_31 : decode prog_1_method_1_code 31 = .ok (.invokespecial 18, 3) := by decide +kernel
theorem d_Main_init_34 : decode prog_1_method_1_code 34 = .ok (.putfield 23, 3) := by decide +kernel
theorem d_Main_init_37 : decode prog_1_method_1_code 37 = .ok (.aload_n 0, 1) := by decide +kernel
theorem d_Main_init_38 : decode prog_1_method_1_code 38 = .ok (.new 26, 3) := by decide +kernel
theorem d_Main_init_41 : decode prog_1_method_1_code 41 = .ok (.dup, 1) := by decide +kernel
theorem d_Main_init_42 : decode prog_1_method_1_code 42 = .ok (.aload_n 0, 1) := by decide +kernel
theorem d_Main_init_43 : decode prog_1_method_1_code 43 = .ok (.getfield 10, 3) := by decide +kernel
theorem d_Main_init_46 : decode prog_1_method_1_code 46 = .ok (.invokespecial 28, 3) := by decide +kernel
theorem d_Main_init_49 : decode prog_1_method_1_code 49 = .ok (.putfield 31, 3) := by decide +kernel
theorem d_Main_init_52 : decode prog_1_method_1_code 52 = .ok (.aload_n 0, 1) := by decide +kernel
theorem d_Main_init_53 : decode prog_1_method_1_code 53 = .ok (.new 35, 3) := by decide +kernel
theorem d_Main_init_56 : decode prog_1_method_1_code 56 = .ok (.dup, 1) := by decide +kernel
theorem d_Main_init_57 : decode prog_1_method_1_code 57 = .ok (.aload_n 0, 1) := by decide +kernel
theorem d_Main_init_58 : decode prog_1_method_1_code 58 = .ok (.getfield 10, 3) := by decide +kernel
theorem d_Main_init_61 : decode prog_1_method_1_code 61 = .ok (.invokespecial 37, 3) := by decide +kernel
theorem d_Main_init_64 : decode prog_1_method_1_code 64 = .ok (.putfield 38, 3) := by decide +kernel
theorem d_Main_init_67 : decode prog_1_method_1_code 67 = .ok (.aload_n 0, 1) := by decide +kernel
theorem d_Main_init_68 : decode prog_1_method_1_code 68 = .ok (.iconst 5, 1) := by decide +kernel
theorem d_Main_init_69 : decode prog_1_method_1_code 69 = .ok (.anewarray 42, 3) := by decide +kernel
theorem d_Main_init_72 : decode prog_1_method_1_code 72 = .ok (.putfield 44, 3) := by decide +kernel
theorem d_Main_init_75 : decode prog_1_method_1_code 75 = .ok (.aload_n 0, 1) := by decide +kernel
theorem d_Main_init_76 : decode prog_1_method_1_code 76 = .ok (.iconst 0, 1) := by decide +kernel
theorem d_Main_init_77 : decode prog_1_method_1_code 77 = .ok (.putfield 48, 3) := by decide +kernel
theorem d_Main_init_80 : decode prog_1_method_1_code 80 = .ok (.aload_n 0, 1) := by decide +kernel
theorem d_Main_init_81 : decode prog_1_method_1_code 81 = .ok (.iconst (-1), 1) := by decide +kernel
theorem d_Main_init_82 : decode prog_1_method_1_code 82 = .ok (.putfield 52, 3) := by decide +kernel
theorem d_Main_init_85 : decode prog_1_method_1_code 85 = .ok (.aload_n 0, 1) := by decide +kernel
theorem d_Main_init_86 : decode prog_1_method_1_code 86 = .ok (.iconst 0, 1) := by decide +kernel
theorem d_Main_init_87 : decode prog_1_method_1_code 87 = .ok (.putfield 55, 3) := by decide +kernel
theorem d_Main_init_90 : decode prog_1_method_1_code 90 = .ok (.aload_n 0, 1) := by decide +kernel
theorem d_Main_init_91 : decode prog_1_method_1_code 91 = .ok (.new 58, 3) := by decide +kernel
theorem d_Main_init_94 : decode prog_1_method_1_code 94 = .ok (.dup, 1) := by decide +kernel
theorem d_Main_init_95 : decode prog_1_method_1_code 95 = .ok (.aload_n 0, 1) := by decide +kernel
theorem d_Main_init_96 : decode prog_1_method_1_code 96 = .ok (.getfield 19, 3) := by decide +kernel
theorem d_Main_init_99 : decode prog_1_method_1_code 99 = .ok (.invokespecial 60, 3) := by decide +kernel
theorem d_Main_init_102 : decode prog_1_method_1_code 102 = .ok (.putfield 63, 3) := by decide +kernel
theorem d_Main_init_105 : decode prog_1_method_1_code 105 = .ok (.aload_n 0, 1) := by decide +kernel
theorem d_Main_init_106 : decode prog_1_method_1_code 106 = .ok (.new 67, 3) := by decide +kernel
theorem d_Main_init_109 : decode prog_1_method_1_code 109 = .ok (.dup, 1) := by decide +kernel
theorem d_Main_init_110 : decode prog_1_method_1_code 110 = .ok (.aload_n 0, 1) := by decide +kernel
theorem d_Main_init_111 : decode prog_1_method_1_code 111 = .ok (.getfield 19, 3) := by decide +kernel
theorem d_Main_init_114 : decode prog_1_method_1_code 114 = .ok (.aload_n 0, 1) := by decide +kernel
theorem d_Main_init_115 : decode prog_1_method_1_code 115 = .ok (.getfield 63, 3) := by decide +kernel
theorem d_Main_init_118 : decode prog_1_method_1_code 118 = .ok (.invokespecial 69, 3) := by decide +kernel
theorem d_Main_init_121 : decode prog_1_method_1_code 121 = .ok (.putfield 72, 3) := by decide +kernel
theorem d_Main_init_124 : decode prog_1_method_1_code 124 = .ok (.aload_n 0, 1) := by decide +kernel
theorem d_Main_init_125 : decode prog_1_method_1_code 125 = .ok (.new 76, 3) := by decide +kernel
theorem d_Main_init_128 : decode prog_1_method_1_code 128 = .ok (.dup, 1) := by decide +kernel
theorem d_Main_init_129 : decode prog_1_method_1_code 129 = .ok (.invokespecial 78, 3) := by decide +kernel
theorem d_Main_init_132 : decode prog_1_method_1_code 132 = .ok (.putfield 79, 3) := by decide +kernel
theorem d_Main_init_135 : decode prog_1_method_1_code 135 = .ok (.aload_n 0, 1) := by decide +kernel
theorem d_Main_init_136 : decode prog_1_method_1_code 136 = .ok (.bipush 40, 2) := by decide +kernel
theorem d_Main_init_138 : decode prog_1_method_1_code 138 = .ok (.anewarray 76, 3) := by decide +kernel
theorem d_Main_init_141 : decode prog_1_method_1_code 141 = .ok (.putfield 83, 3) := by decide +kernel
theorem d_Main_init_144 : decode prog_1_method_1_code 144 = .ok (.aload_n 0, 1) := by decide +kernel
theorem d_Main_init_145 : decode prog_1_method_1_code 145 = .ok (.iconst 0, 1) := by decide +kernel
theorem d_Main_init_146 : decode prog_1_method_1_code 146 = .ok (.putfield 87, 3) := by decide +kernel
theorem d_Main_init_149 : decode prog_1_method_1_code 149 = .ok (.aload_n 0, 1) := by decide +kernel
theorem d_Main_init_150 : decode prog_1_method_1_code 150 = .ok (.iconst 0, 1) := by decide +kernel
theorem d_Main_init_151 : decode prog_1_method_1_code 151 = .ok (.putfield 90, 3) := by decide +kernel
theorem d_Main_init_154 : decode prog_1_method_1_code 154 = .ok (.aload_n 0, 1) := by decide +kernel
theorem d_Main_init_155 : decode prog_1_method_1_code 155 = .ok (.new 76, 3) := by decide +kernel
theorem d_Main_init_158 : decode prog_1_method_1_code 158 = .ok (.dup, 1) := by decide +kernel
theorem d_Main_init_159 : decode prog_1_method_1_code 159 = .ok (.invokespecial 78, 3) := by decide +kernel
theorem d_Main_init_162 : decode prog_1_method_1_code 162 = .ok (.putfield 93, 3) := by decide +kernel
theorem d_Main_init_165 : decode prog_1_method_1_code 165 = .ok (.aload_n 0, 1) := by decide +kernel
theorem d_Main_init_166 : decode prog_1_method_1_code 166 = .ok (.iconst 0, 1) := by decide +kernel
theorem d_Main_init_167 : decode prog_1_method_1_code 167 = .ok (.putfield 96, 3) := by decide +kernel
theorem d_Main_init_170 : decode prog_1_method_1_code 170 = .ok (.aload_n 0, 1) := by decide +kernel
theorem d_Main_init_171 : decode prog_1_method_1_code 171 = .ok (.new 100, 3) := by decide +kernel
theorem d_Main_init_174 : decode prog_1_method_1_code 174 = .ok (.dup, 1) := by decide +kernel
theorem d_Main_init_175 : decode prog_1_method_1_code 175 = .ok (.aload_n 0, 1) := by decide +kernel
theorem d_Main_init_176 : decode prog_1_method_1_code 176 = .ok (.getfield 19, 3) := by decide +kernel
theorem d_Main_init_179 : decode prog_1_method_1_code 179 = .ok (.aload_n 0, 1) := by decide +kernel
theorem d_Main_init_180 : decode prog_1_method_1_code 180 = .ok (.getfield 63, 3) := by decide +kernel
theorem d_Main_init_183 : decode prog_1_method_1_code 183 = .ok (.aload_n 0, 1) := by decide +kernel
theorem d_Main_init_184 : decode prog_1_method_1_code 184 = .ok (.getfield 72, 3) := by decide +kernel
theorem d_Main_init_187 : decode prog_1_method_1_code 187 = .ok (.aload_n 0, 1) := by decide +kernel
theorem d_Main_init_188 : decode prog_1_method_1_code 188 = .ok (.getfield 79, 3) := by decide +kernel
theorem d_Main_init_191 : decode prog_1_method_1_code 191 = .ok (.invokespecial 102, 3) := by decide +kernel
theorem d_Main_init_194 : decode prog_1_method_1_code 194 = .ok (.putfield 105, 3) := by decide +kernel
theorem d_Main_init_197 : decode prog_1_method_1_code 197 = .ok (.aload_n 0, 1) := by decide +kernel
theorem d_Main_init_198 : decode prog_1_method_1_code 198 = .ok (.new 109, 3) := by decide +kernel
theorem d_Main_init_201 : decode prog_1_method_1_code 201 = .ok (.dup, 1) := by decide +kernel
theorem d_Main_init_202 : decode prog_1_method_1_code 202 = .ok (.aload_n 0, 1) := by decide +kernel
theorem d_Main_init_203 : decode prog_1_method_1_code 203 = .ok (.getfield 19, 3) := by decide +kernel
theorem d_Main_init_206 : decode prog_1_method_1_code 206 = .ok (.aload_n 0, 1) := by decide +kernel
theorem d_Main_init_207 : decode prog_1_method_1_code 207 = .ok (.getfield 72, 3) := by decide +kernel
theorem d_Main_init_210 : decode prog_1_method_1_code 210 = .ok (.aload_n 0, 1) := by decide +kernel
theorem d_Main_init_211 : decode prog_1_method_1_code 211 = .ok (.getfield 79, 3) := by decide +kernel
theorem d_Main_init_214 : decode prog_1_method_1_code 214 = .ok (.invokespecial 111, 3) := by decide +kernel
theorem d_Main_init_217 : decode prog_1_method_1_code 217 = .ok (.putfield 114, 3) := by decide +kernel
theorem d_Main_init_220 : decode prog_1_method_1_code 220 = .ok (.aload_n 0, 1) := by decide +kernel
theorem d_Main_init_221 : decode prog_1_method_1_code 221 = .ok (.new 118, 3) := by decide +kernel
theorem d_Main_init_224 : decode prog_1_method_1_code 224 = .ok (.dup, 1) := by decide +kernel
theorem d_Main_init_225 : decode prog_1_method_1_code 225 = .ok (.aload_n 0, 1) := by decide +kernel
theorem d_Main_init_226 : decode prog_1_method_1_code 226 = .ok (.getfield 19, 3) := by decide +kernel
theorem d_Main_init_229 : decode prog_1_method_1_code 229 = .ok (.aload_n 0, 1) := by decide +kernel
theorem d_Main_init_230 : decode prog_1_method_1_code 230 = .ok (.getfield 63, 3) := by decide +kernel
theorem d_Main_init_233 : decode prog_1_method_1_code 233 = .ok (.aload_n 0, 1) := by decide +kernel
theorem d_Main_init_234 : decode prog_1_method_1_code 234 = .ok (.getfield 72, 3) := by decide +kernel
theorem d_Main_init_237 : decode prog_1_method_1_code 237 = .ok (.aload_n 0, 1) := by decide +kernel
theorem d_Main_init_238 : decode prog_1_method_1_code 238 = .ok (.getfield 79, 3) := by decide +kernel
theorem d_Main_init_241 : decode prog_1_method_1_code 241 = .ok (.invokespecial 120, 3) := by decide +kernel
theorem d_Main_init_244 : decode prog_1_method_1_code 244 = .ok (.putfield 121, 3) := by decide +kernel
theorem d_Main_init_247 : decode prog_1_method_1_code 247 = .ok (.iconst 0, 1) := by decide +kernel
theorem d_Main_init_248 : decode prog_1_method_1_code 248 = .ok (.istore_n 1, 1) := by decide +kernel
theorem d_Main_init_249 : decode prog_1_method_1_code 249 = .ok (.iload_n 1, 1) := by decide +kernel
theorem d_Main_init_250 : decode prog_1_method_1_code 250 = .ok (.aload_n 0, 1) := by decide +kernel
theorem d_Main_init_251 : decode prog_1_method_1_code 251 = .ok (.getfield 44, 3) := by decide +kernel
theorem d_Main_init_254 : decode prog_1_method_1_code 254 = .ok (.arraylength, 1) := by decide +kernel
theorem d_Main_init_255 : decode prog_1_method_1_code 255 = .ok (.if_icmp .ge 22, 3) := by decide +kernel
theorem d_Main_init_258 : decode prog_1_method_1_code 258 = .ok (.aload_n 0, 1) := by decide +kernel
theorem d_Main_init_259 : decode prog_1_method_1_code 259 = .ok (.getfield 44, 3) := by decide +kernel
theorem d_Main_init_262 : decode prog_1_method_1_code 262 = .ok (.iload_n 1, 1) := by decide +kernel
theorem d_Main_init_263 : decode prog_1_method_1_code 263 = .ok (.new 42, 3) := by decide +kernel
theorem d_Main_init_266 : decode prog_1_method_1_code 266 = .ok (.dup, 1) := by decide +kernel
theorem d_Main_init_267 : decode prog_1_method_1_code 267 = .ok (.invokespecial 125, 3) := by decide +kernel
theorem d_Main_init_270 : decode prog_1_method_1_code 270 = .ok (.aastore, 1) := by decide +kernel
theorem d_Main_init_271 : decode prog_1_method_1_code 271 = .ok (.iinc 1 1, 3) := by decide +kernel
theorem d_Main_init_274 : decode prog_1_method_1_code 274 = .ok (.goto (-25), 3) := by decide +kernel
theorem d_Main_init_277 : decode prog_1_method_1_code 277 = .ok (.iconst 0, 1) := by decide +kernel
theorem d_Main_init_278 : decode prog_1_method_1_code 278 = .ok (.istore_n 1, 1) := by decide +kernel
theorem d_Main_init_279 : decode prog_1_method_1_code 279 = .ok (.iload_n 1, 1) := by decide +kernel
theorem d_Main_init_280 : decode prog_1_method_1_code 280 = .ok (.aload_n 0, 1) := by decide +kernel
theorem d_Main_init_281 : decode prog_1_method_1_code 281 = .ok (.getfield 83, 3) := by decide +kernel
theorem d_Main_init_284 : decode prog_1_method_1_code 284 = .ok (.arraylength, 1) := by decide +kernel
theorem d_Main_init_285 : decode prog_1_method_1_code 285 = .ok (.if_icmp .ge 22, 3) := by decide +kernel
theorem d_Main_init_288 : decode prog_1_method_1_code 288 = .ok (.aload_n 0, 1) := by decide +kernel
theorem d_Main_init_289 : decode prog_1_method_1_code 289 = .ok (.getfield 83, 3) := by decide +kernel
theorem d_Main_init_292 : decode prog_1_method_1_code 292 = .ok (.iload_n 1, 1) := by decide +kernel
theorem d_Main_init_293 : decode prog_1_method_1_code 293 = .ok (.new 76, 3) := by decide +kernel
theorem d_Main_init_296 : decode prog_1_method_1_code 296 = .ok (.dup, 1) := by decide +kernel
theorem d_Main_init_297 : decode prog_1_method_1_code 297 = .ok (.invokespecial 78, 3) := by decide +kernel
theorem d_Main_init_300 : decode prog_1_method_1_code 300 = .ok (.aastore, 1) := by decide +kernel
theorem d_Main_init_301 : decode prog_1_method_1_code 301 = .ok (.iinc 1 1, 3) := by decide +kernel
theorem d_Main_init_304 : decode prog_1_method_1_code 304 = .ok (.goto (-25), 3) := by decide +kernel
theorem d_Main_init_307 : decode prog_1_method_1_code 307 = .ok (.return_, 1) := by decide +kernel
theorem yl_Main_init_249 {G : XG} {hi : Nat} {p : Program} {l : Launch} {e : Env} {s : State} {m : MethodId} {args : Array Value} {below : List Frame} {meth : Method} {c : Code} {Q : State → Prop} (hhi : 600 ≤ hi) (C : XC G 1 hi p s m args c prog_1_method_1_code 2 R_Main) (hN : yN s) {E0 : List (Nat × va_E)} (hE0 : ∀ (j : Nat) (q : Nat × va_E), E0[j]? = some q → q.1 < 1) (kk : YJ G hi p l e (yrm 10 568 28769) s m args below meth c 2 Q 208 16489 277 ((1, .int (Int32.ofNat 5)) :: [(0, .ref (G.2.2.1 + 1))]) [] 209 ((48, .inl (G.2.1 4, 40, .inr (.inr (.inr (.inr (fun _ => none)))))) :: ((32, .inl (G.2.1 5, 5, .inr (.inr (.inr (.inr (yfn G.2.2.1 195 3 5)))))) :: ((1, .inr (0, [.ref (G.2.2.1 + 2), .ref (G.2.2.1 + 4), .ref (G.2.2.1 + 15), .ref (G.2.2.1 + 26), .ref (G.2.2.1 + 28), .ref (G.2.2.1 + 32), .int 0, .int (-1), .int 0, .ref (G.2.2.1 + 33), .ref (G.2.2.1 + 38), .ref (G.2.2.1 + 39), .ref (G.2.2.1 + 48), .int 0, .int 0, .ref (G.2.2.1 + 49), .int 0, .ref (G.2.2.1 + 58), .ref (G.2.2.1 + 68), .ref (G.2.2.1 + 81)])) :: E0)))) : ∀ (j k : Nat), k + j = 5 → YJ G hi p l e (yrm 10 568 28769) s m args below meth c 2 Q (193 + 3 * k) (13749 + 548 * k) 249 ((1, .int (Int32.ofNat k)) :: [(0, .ref (G.2.2.1 + 1))]) [] (194 + 3 * k) ((48, .inl (G.2.1 4, 40, .inr (.inr (.inr (.inr (fun _ => none)))))) :: ((32, .inl (G.2.1 5, 5, .inr (.inr (.inr (.inr (yfn G.2.2.1 195 3 k)))))) :: ((1, .inr (0, [.ref (G.2.2.1 + 2), .ref (G.2.2.1 + 4), .ref (G.2.2.1 + 15), .ref (G.2.2.1 + 26), .ref (G.2.2.1 + 28), .ref (G.2.2.1 + 32), .int 0, .int (-1), .int 0, .ref (G.2.2.1 + 33), .ref (G.2.2.1 + 38), .ref (G.2.2.1 + 39), .ref (G.2.2.1 + 48), .int 0, .int 0, .ref (G.2.2.1 + 49), .int 0, .ref (G.2.2.1 + 58), .ref (G.2.2.1 + 68), .ref (G.2.2.1 + 81)])) :: E0))) := by
  intro j
  induction j with
  | zero =>
    intro k hk
    have hk2 : k = 5 := by omega
    subst hk2
    refine y_iload_n C d_Main_init_249 0 rfl ?_
    refine y_aload_n C d_Main_init_250 1 rfl ?_
    refine y_get (i := 2) C yg_Main_44 rfl rfl d_Main_init_251 ?_
    refine y_alen (i := 1) (tix := 5) (v := 5) C rfl rfl (by decide) d_Main_init_254 ?_
    refine y_icmp_ge C 277 d_Main_init_255 (by decide) ?_ ?_
    · exact fun _ => kk
    · exact fun q => absurd (show (Int32.ofNat 5 : Int32) ≤ Int32.ofNat 5 by decide) q
  | succ j ih =>
    intro k hk
    have hk2 : k < 5 := by omega
    refine y_iload_n C d_Main_init_249 0 rfl ?_
    refine y_aload_n C d_Main_init_250 1 rfl ?_
    refine y_get (i := 2) C yg_Main_44 rfl rfl d_Main_init_251 ?_
    refine y_alen (i := 1) (tix := 5) (v := 5) C rfl rfl (by decide) d_Main_init_254 ?_
    refine y_icmp_ge C 277 d_Main_init_255 (by decide) ?_ ?_
    · intro q; exact absurd q ((show ∀ k, k < 5 → ¬ (Int32.ofNat 5 ≤ Int32.ofNat k) by decide) k hk2)
    intro _
    refine y_aload_n C d_Main_init_258 1 rfl ?_
    refine y_get (i := 2) C yg_Main_44 rfl rfl d_Main_init_259 ?_
    refine y_iload_n C d_Main_init_262 0 rfl ?_
    refine y_new (n1 := 195 + 3 * k) (c1 := 193 + 3 * k + 1) (s1 := 13749 + 548 * k + 4) C yn_Main_42 (by omega) (by omega) (by omega) (by show _ ≤ 568; omega) (by show _ ≤ 28769; omega) d_Main_init_263 ?_
    refine y_dup C d_Main_init_266 rfl ?_
    have hm : 195 + 3 * k ∈ xTastes := (show ∀ k, k < 5 → 195 + 3 * k ∈ xTastes by decide) k hk2
    refine y_call (d := 1) (mc := 2) (ms := 544) (n' := 194 + 3 * (k + 1)) (c1 := 193 + 3 * (k + 1)) (s1 := 13749 + 548 * (k + 1)) (As := []) C hN (yM.to (c_Taste_init hhi hm) (by omega)) yc_Main_125 (Or.inr ⟨"LostPlaces", List.mem_of_getElem? (i := 7) rfl⟩) rfl rfl (Nat.le_of_ble_eq_true rfl) ⟨by decide, by decide⟩ (by omega) (by omega) ⟨Nat.le_trans (m := 568) (by omega) (Nat.le_refl _), Nat.le_trans (Nat.add_le_add_left (Nat.mul_le_mul_left 548 hk2) 13749) (by decide)⟩ (by omega) d_Main_init_267 ?_
    refine y_ast (i := 1) (tix := 5) (r := (R_Taste, F_Taste, 4)) (b := 195 + 3 * k) (E1 := ((48, .inl (G.2.1 4, 40, .inr (.inr (.inr (.inr (fun _ => none)))))) :: ((32, .inl (G.2.1 5, 5, .inr (.inr (.inr (.inr (yfn G.2.2.1 195 3 (k + 1))))))) :: ((1, .inr (0, [.ref (G.2.2.1 + 2), .ref (G.2.2.1 + 4), .ref (G.2.2.1 + 15), .ref (G.2.2.1 + 26), .ref (G.2.2.1 + 28), .ref (G.2.2.1 + 32), .int 0, .int (-1), .int 0, .ref (G.2.2.1 + 33), .ref (G.2.2.1 + 38), .ref (G.2.2.1 + 39), .ref (G.2.2.1 + 48), .int 0, .int 0, .ref (G.2.2.1 + 49), .int 0, .ref (G.2.2.1 + 58), .ref (G.2.2.1 + 68), .ref (G.2.2.1 + 81)])) :: E0)))) C rfl rfl ⟨by omega, by omega, (yltE (by dsimp only; omega) (yltE (by dsimp only; omega) (yltE (by dsimp only; omega) (fun j q hq => by have := hE0 j q hq; omega))))⟩ ?_ (yE_obj (ta_0 hm).1 rfl) rfl (ib_in ((show ∀ k, k < 5 → ib (Int32.ofNat k) 5 by decide) k hk2)) (by omega) d_Main_init_270 ?_
    · rw [(show ∀ k, k < 5 → (Int32.ofNat k).toNatClampNeg = k by decide) k hk2, ← yfn_succ]; rfl
    refine y_iinc (v := Int32.ofNat (k + 1)) (lv' := (1, .int (Int32.ofNat (k + 1))) :: [(0, .ref (G.2.2.1 + 1))]) C d_Main_init_271 0 rfl ((show ∀ k, k < 5 → Int32.ofNat (k + 1) = Int32.ofNat k + Int32.ofInt 1 by decide) k hk2) (by decide) rfl ?_
    refine y_goto C 249 d_Main_init_274 (by decide) ?_
    exact ih (k + 1) (by omega)
theorem yl_Main_init_279 {G : XG} {hi : Nat} {p : Program} {l : Launch} {e : Env} {s : State} {m : MethodId} {args : Array Value} {below : List Frame} {meth : Method} {c : Code} {Q : State → Prop} (hhi : 600 ≤ hi) (C : XC G 1 hi p s m args c prog_1_method_1_code 2 R_Main) (hN : yN s) {E0 : List (Nat × va_E)} (hE0 : ∀ (j : Nat) (q : Nat × va_E), E0[j]? = some q → q.1 < 1) (kk : YJ G hi p l e (yrm 10 568 28769) s m args below meth c 2 Q 568 28769 307 ((1, .int (Int32.ofNat 40)) :: [(0, .ref (G.2.2.1 + 1))]) [] 569 ((48, .inl (G.2.1 4, 40, .inr (.inr (.inr (.inr (yfn G.2.2.1 210 9 40)))))) :: ((32, .inl (G.2.1 5, 5, .inr (.inr (.inr (.inr (yfn G.2.2.1 195 3 5)))))) :: ((1, .inr (0, [.ref (G.2.2.1 + 2), .ref (G.2.2.1 + 4), .ref (G.2.2.1 + 15), .ref (G.2.2.1 + 26), .ref (G.2.2.1 + 28), .ref (G.2.2.1 + 32), .int 0, .int (-1), .int 0, .ref (G.2.2.1 + 33), .ref (G.2.2.1 + 38), .ref (G.2.2.1 + 39), .ref (G.2.2.1 + 48), .int 0, .int 0, .ref (G.2.2.1 + 49), .int 0, .ref (G.2.2.1 + 58), .ref (G.2.2.1 + 68), .ref (G.2.2.1 + 81)])) :: E0)))) : ∀ (j k : Nat), k + j = 40 → YJ G hi p l e (yrm 10 568 28769) s m args below meth c 2 Q (208 + 9 * k) (16489 + 307 * k) 279 ((1, .int (Int32.ofNat k)) :: [(0, .ref (G.2.2.1 + 1))]) [] (209 + 9 * k) ((48, .inl (G.2.1 4, 40, .inr (.inr (.inr (.inr (yfn G.2.2.1 210 9 k)))))) :: ((32, .inl (G.2.1 5, 5, .inr (.inr (.inr (.inr (yfn G.2.2.1 195 3 5)))))) :: ((1, .inr (0, [.ref (G.2.2.1 + 2), .ref (G.2.2.1 + 4), .ref (G.2.2.1 + 15), .ref (G.2.2.1 + 26), .ref (G.2.2.1 + 28), .ref (G.2.2.1 + 32), .int 0, .int (-1), .int 0, .ref (G.2.2.1 + 33), .ref (G.2.2.1 + 38), .ref (G.2.2.1 + 39), .ref (G.2.2.1 + 48), .int 0, .int 0, .ref (G.2.2.1 + 49), .int 0, .ref (G.2.2.1 + 58), .ref (G.2.2.1 + 68), .ref (G.2.2.1 + 81)])) :: E0))) := by
  intro j
  induction j with
  | zero =>
    intro k hk
    have hk2 : k = 40 := by omega
    subst hk2
    refine y_iload_n C d_Main_init_279 0 rfl ?_
    refine y_aload_n C d_Main_init_280 1 rfl ?_
    refine y_get (i := 2) C yg_Main_83 rfl rfl d_Main_init_281 ?_
    refine y_alen (i := 0) (tix := 4) (v := 40) C rfl rfl (by decide) d_Main_init_284 ?_
    refine y_icmp_ge C 307 d_Main_init_285 (by decide) ?_ ?_
    · exact fun _ => kk
    · exact fun q => absurd (show (Int32.ofNat 40 : Int32) ≤ Int32.ofNat 40 by decide) q
  | succ j ih =>
    intro k hk
    have hk2 : k < 40 := by omega
    refine y_iload_n C d_Main_init_279 0 rfl ?_
    refine y_aload_n C d_Main_init_280 1 rfl ?_
    refine y_get (i := 2) C yg_Main_83 rfl rfl d_Main_init_281 ?_
    refine y_alen (i := 0) (tix := 4) (v := 40) C rfl rfl (by decide) d_Main_init_284 ?_
    refine y_icmp_ge C 307 d_Main_init_285 (by decide) ?_ ?_
    · intro q; exact absurd q ((show ∀ k, k < 40 → ¬ (Int32.ofNat 40 ≤ Int32.ofNat k) by decide) k hk2)
    intro _
    refine y_aload_n C d_Main_init_288 1 rfl ?_
    refine y_get (i := 2) C yg_Main_83 rfl rfl d_Main_init_289 ?_
    refine y_iload_n C d_Main_init_292 0 rfl ?_
    refine y_new (n1 := 210 + 9 * k) (c1 := 208 + 9 * k + 1) (s1 := 16489 + 307 * k + 11) C yn_Main_76 (by omega) (by omega) (by omega) (by show _ ≤ 568; omega) (by show _ ≤ 28769; omega) d_Main_init_293 ?_
    refine y_dup C d_Main_init_296 rfl ?_
    have hm : 210 + 9 * k ∈ xHalls := (show ∀ k, k < 40 → 210 + 9 * k ∈ xHalls by decide) k hk2
    refine y_call (d := 1) (mc := 8) (ms := 296) (n' := 209 + 9 * (k + 1)) (c1 := 208 + 9 * (k + 1)) (s1 := 16489 + 307 * (k + 1)) (As := []) C hN (yM.to (c_Hall_init hhi hm) (by omega)) yc_Main_78 (Or.inr ⟨"LostPlaces", List.mem_of_getElem? (i := 3) rfl⟩) rfl rfl (Nat.le_of_ble_eq_true rfl) ⟨by decide, by decide⟩ (by omega) (by omega) ⟨Nat.le_trans (m := 568) (by omega) (Nat.le_refl _), Nat.le_trans (Nat.add_le_add_left (Nat.mul_le_mul_left 307 hk2) 16489) (by decide)⟩ (by omega) d_Main_init_297 ?_
    refine y_ast (i := 0) (tix := 4) (r := (R_Hall, F_Hall, 11)) (b := 210 + 9 * k) (E1 := ((48, .inl (G.2.1 4, 40, .inr (.inr (.inr (.inr (yfn G.2.2.1 210 9 (k + 1))))))) :: ((32, .inl (G.2.1 5, 5, .inr (.inr (.inr (.inr (yfn G.2.2.1 195 3 5)))))) :: ((1, .inr (0, [.ref (G.2.2.1 + 2), .ref (G.2.2.1 + 4), .ref (G.2.2.1 + 15), .ref (G.2.2.1 + 26), .ref (G.2.2.1 + 28), .ref (G.2.2.1 + 32), .int 0, .int (-1), .int 0, .ref (G.2.2.1 + 33), .ref (G.2.2.1 + 38), .ref (G.2.2.1 + 39), .ref (G.2.2.1 + 48), .int 0, .int 0, .ref (G.2.2.1 + 49), .int 0, .ref (G.2.2.1 + 58), .ref (G.2.2.1 + 68), .ref (G.2.2.1 + 81)])) :: E0)))) C rfl rfl ⟨by omega, by omega, (yltE (by dsimp only; omega) (yltE (by dsimp only; omega) (yltE (by dsimp only; omega) (fun j q hq => by have := hE0 j q hq; omega))))⟩ ?_ (yE_obj (hl_0 hm).1 rfl) rfl (ib_in ((show ∀ k, k < 40 → ib (Int32.ofNat k) 40 by decide) k hk2)) (by omega) d_Main_init_300 ?_
    · rw [(show ∀ k, k < 40 → (Int32.ofNat k).toNatClampNeg = k by decide) k hk2, ← yfn_succ]; rfl
    refine y_iinc (v := Int32.ofNat (k + 1)) (lv' := (1, .int (Int32.ofNat (k + 1))) :: [(0, .ref (G.2.2.1 + 1))]) C d_Main_init_301 0 rfl ((show ∀ k, k < 40 → Int32.ofNat (k + 1) = Int32.ofNat k + Int32.ofInt 1 by decide) k hk2) (by decide) rfl ?_
    refine y_goto C 279 d_Main_init_304 (by decide) ?_
    exact ih (k + 1) (by omega)
theorem c_Main_init {G : XG} {hi : Nat} {l : Launch} (hhi : 600 ≤ hi) {E0 : List (Nat × va_E)} (hE0 : ∀ (j : Nat) (q : Nat × va_E), E0[j]? = some q → q.1 < 1) : yM G hi l y_Main_init prog_1_method_1_code 2 10 568 28769 [.ref (G.2.2.1 + 1)] 1 ((1, .inr (0, [.null, .null, .null, .null, .null, .null, .int 0, .int 0, .int 0, .null, .null, .null, .null, .int 0, .int 0, .null, .int 0, .null, .null, .null])) :: E0) 569 E0 := by
  refine y_met R_Main rfl (by decide +kernel) (Nat.le_of_ble_eq_true rfl) fun p e s m below meth c C hN hinit hr hk _ => ?_
  refine y_aload_n C d_Main_init_0 0 rfl ?_
  refine y_obj C wc_137 wobj_i wobj_c ⟨by decide, by decide⟩ (Nat.le_of_ble_eq_true rfl) d_Main_init_1 ?_
  refine y_aload_n C d_Main_init_4 0 rfl ?_
  refine y_new (n1 := 2) (c1 := 1) (s1 := 4) C yn_Main_7 rfl rfl rfl (by decide) (by decide) d_Main_init_5 ?_
  refine y_dup C d_Main_init_8 rfl ?_
  refine y_call (d := 1) (mc := 1) (ms := 240) (n' := 3) (c1 := 2) (s1 := 244) (As := []) C hN (c_Tape_init hhi) yc_Main_9 (Or.inr ⟨"LostPlaces", List.mem_of_getElem? (i := 0) rfl⟩) rfl rfl (Nat.le_of_ble_eq_true rfl) ⟨by decide, by decide⟩ rfl rfl ⟨by decide, by decide⟩ rfl d_Main_init_9 ?_
  refine y_putF (i := 0) (E1 := ((1, .inr (0, [.ref (G.2.2.1 + 2), .null, .null, .null, .null, .null, .int 0, .int 0, .int 0, .null, .null, .null, .null, .int 0, .int 0, .null, .int 0, .null, .null, .null])) :: E0)) C hinit yp_Main_10 rfl rfl (Nat.le_of_ble_eq_true rfl) rfl rfl (by omega) d_Main_init_12 ?_
  refine y_aload_n C d_Main_init_15 0 rfl ?_
  refine y_new (n1 := 4) (c1 := 3) (s1 := 260) C yn_Main_16 rfl rfl rfl (by decide) (by decide) d_Main_init_16 ?_
  refine y_dup C d_Main_init_19 rfl ?_
  refine y_call (d := 1) (mc := 10) (ms := 86) (n' := 14) (c1 := 13) (s1 := 346) (As := []) C hN (c_Room_init hhi (show 4 ∈ xRooms by decide)) yc_Main_18 (Or.inr ⟨"LostPlaces", List.mem_of_getElem? (i := 1) rfl⟩) rfl rfl (Nat.le_of_ble_eq_true rfl) ⟨by decide, by decide⟩ rfl rfl ⟨by decide, by decide⟩ rfl d_Main_init_20 ?_
  refine y_putF (i := 0) (E1 := ((1, .inr (0, [.ref (G.2.2.1 + 2), .ref (G.2.2.1 + 4), .null, .null, .null, .null, .int 0, .int 0, .int 0, .null, .null, .null, .null, .int 0, .int 0, .null, .int 0, .null, .null, .null])) :: E0)) C hinit yp_Main_19 rfl rfl (Nat.le_of_ble_eq_true rfl) rfl rfl (by omega) d_Main_init_23 ?_
  refine y_aload_n C d_Main_init_26 0 rfl ?_
  refine y_new (n1 := 15) (c1 := 14) (s1 := 362) C yn_Main_16 rfl rfl rfl (by decide) (by decide) d_Main_init_27 ?_
  refine y_dup C d_Main_init_30 rfl ?_
  refine y_call (d := 1) (mc := 10) (ms := 86) (n' := 25) (c1 := 24) (s1 := 448) (As := []) C hN (c_Room_init hhi (show 15 ∈ xRooms by decide)) yc_Main_18 (Or.inr ⟨"LostPlaces", List.mem_of_getElem? (i := 1) rfl⟩) rfl rfl (Nat.le_of_ble_eq_true rfl) ⟨by decide, by decide⟩ rfl rfl ⟨by decide, by decide⟩ rfl d_Main_init_31 ?_
  refine y_putF (i := 0) (E1 := ((1, .inr (0, [.ref (G.2.2.1 + 2), .ref (G.2.2.1 + 4), .ref (G.2.2.1 + 15), .null, .null, .null, .int 0, .int 0, .int 0, .null, .null, .null, .null, .int 0, .int 0, .null, .int 0, .null, .null, .null])) :: E0)) C hinit yp_Main_23 rfl rfl (Nat.le_of_ble_eq_true rfl) rfl rfl (by omega) d_Main_init_34 ?_
  refine y_aload_n C d_Main_init_37 0 rfl ?_
  refine y_new (n1 := 26) (c1 := 25) (s1 := 450) C yn_Main_26 rfl rfl rfl (by decide) (by decide) d_Main_init_38 ?_
  refine y_dup C d_Main_init_41 rfl ?_
  refine y_aload_n C d_Main_init_42 0 rfl ?_
  refine y_get (i := 1) C yg_Main_10 rfl rfl d_Main_init_43 ?_
  refine y_call (d := 1) (mc := 1) (ms := 4) (n' := 27) (c1 := 26) (s1 := 454) (As := [.ref (G.2.2.1 + 2)]) C hN (c_RoomReader_init hhi) yc_Main_28 (Or.inl wc_274) rfl rfl (Nat.le_of_ble_eq_true rfl) ⟨by decide, by decide⟩ rfl rfl ⟨by decide, by decide⟩ rfl d_Main_init_46 ?_
  refine y_putF (i := 0) (E1 := ((1, .inr (0, [.ref (G.2.2.1 + 2), .ref (G.2.2.1 + 4), .ref (G.2.2.1 + 15), .ref (G.2.2.1 + 26), .null, .null, .int 0, .int 0, .int 0, .null, .null, .null, .null, .int 0, .int 0, .null, .int 0, .null, .null, .null])) :: E0)) C hinit yp_Main_31 rfl rfl (Nat.le_of_ble_eq_true rfl) rfl rfl (by omega) d_Main_init_49 ?_
  refine y_aload_n C d_Main_init_52 0 rfl ?_
  refine y_new (n1 := 28) (c1 := 27) (s1 := 456) C yn_Main_35 rfl rfl rfl (by decide) (by decide) d_Main_init_53 ?_
  refine y_dup C d_Main_init_56 rfl ?_
  refine y_aload_n C d_Main_init_57 0 rfl ?_
  refine y_get (i := 1) C yg_Main_10 rfl rfl d_Main_init_58 ?_
  refine y_call (d := 2) (mc := 3) (ms := 548) (n' := 31) (c1 := 30) (s1 := 1004) (As := [.ref (G.2.2.1 + 2)]) C hN (c_TasteReader_init hhi) yc_Main_37 (Or.inl wc_287) rfl rfl (Nat.le_of_ble_eq_true rfl) ⟨by decide, by decide⟩ rfl rfl ⟨by decide, by decide⟩ rfl d_Main_init_61 ?_
  refine y_putF (i := 0) (E1 := ((1, .inr (0, [.ref (G.2.2.1 + 2), .ref (G.2.2.1 + 4), .ref (G.2.2.1 + 15), .ref (G.2.2.1 + 26), .ref (G.2.2.1 + 28), .null, .int 0, .int 0, .int 0, .null, .null, .null, .null, .int 0, .int 0, .null, .int 0, .null, .null, .null])) :: E0)) C hinit yp_Main_38 rfl rfl (Nat.le_of_ble_eq_true rfl) rfl rfl (by omega) d_Main_init_64 ?_
  refine y_aload_n C d_Main_init_67 0 rfl ?_
  refine y_iconst (v := 5) C d_Main_init_68 (by decide) ?_
  refine y_newqT (N := 5) (n1 := 32) (c1 := 31) (s1 := 1009) C rfl rfl rfl hN.2.2 wc_318 (by decide) (by decide) (by decide) (by decide) (by decide) d_Main_init_69 ?_
  refine y_putF (i := 1) (E1 := ((32, .inl (G.2.1 5, 5, .inr (.inr (.inr (.inr (fun _ => none)))))) :: ((1, .inr (0, [.ref (G.2.2.1 + 2), .ref (G.2.2.1 + 4), .ref (G.2.2.1 + 15), .ref (G.2.2.1 + 26), .ref (G.2.2.1 + 28), .ref (G.2.2.1 + 32), .int 0, .int 0, .int 0, .null, .null, .null, .null, .int 0, .int 0, .null, .int 0, .null, .null, .null])) :: E0))) C hinit yp_Main_44 rfl rfl (Nat.le_of_ble_eq_true rfl) rfl rfl (by omega) d_Main_init_72 ?_
  refine y_aload_n C d_Main_init_75 0 rfl ?_
  refine y_iconst (v := 0) C d_Main_init_76 (by decide) ?_
  refine y_put (i := 1) (E1 := ((32, .inl (G.2.1 5, 5, .inr (.inr (.inr (.inr (fun _ => none)))))) :: ((1, .inr (0, [.ref (G.2.2.1 + 2), .ref (G.2.2.1 + 4), .ref (G.2.2.1 + 15), .ref (G.2.2.1 + 26), .ref (G.2.2.1 + 28), .ref (G.2.2.1 + 32), .int 0, .int 0, .int 0, .null, .null, .null, .null, .int 0, .int 0, .null, .int 0, .null, .null, .null])) :: E0))) C yp_Main_48 rfl rfl (Nat.le_of_ble_eq_true rfl) rfl rfl (by omega) d_Main_init_77 ?_
  refine y_aload_n C d_Main_init_80 0 rfl ?_
  refine y_iconst (v := (-1)) C d_Main_init_81 (by decide) ?_
  refine y_put (i := 1) (E1 := ((32, .inl (G.2.1 5, 5, .inr (.inr (.inr (.inr (fun _ => none)))))) :: ((1, .inr (0, [.ref (G.2.2.1 + 2), .ref (G.2.2.1 + 4), .ref (G.2.2.1 + 15), .ref (G.2.2.1 + 26), .ref (G.2.2.1 + 28), .ref (G.2.2.1 + 32), .int 0, .int (-1), .int 0, .null, .null, .null, .null, .int 0, .int 0, .null, .int 0, .null, .null, .null])) :: E0))) C yp_Main_52 rfl rfl (Nat.le_of_ble_eq_true rfl) rfl rfl (by omega) d_Main_init_82 ?_
  refine y_aload_n C d_Main_init_85 0 rfl ?_
  refine y_iconst (v := 0) C d_Main_init_86 (by decide) ?_
  refine y_put (i := 1) (E1 := ((32, .inl (G.2.1 5, 5, .inr (.inr (.inr (.inr (fun _ => none)))))) :: ((1, .inr (0, [.ref (G.2.2.1 + 2), .ref (G.2.2.1 + 4), .ref (G.2.2.1 + 15), .ref (G.2.2.1 + 26), .ref (G.2.2.1 + 28), .ref (G.2.2.1 + 32), .int 0, .int (-1), .int 0, .null, .null, .null, .null, .int 0, .int 0, .null, .int 0, .null, .null, .null])) :: E0))) C yp_Main_55 rfl rfl (Nat.le_of_ble_eq_true rfl) rfl rfl (by omega) d_Main_init_87 ?_
  refine y_aload_n C d_Main_init_90 0 rfl ?_
  refine y_new (n1 := 33) (c1 := 32) (s1 := 1015) C yn_Main_58 rfl rfl rfl (by decide) (by decide) d_Main_init_91 ?_
  refine y_dup C d_Main_init_94 rfl ?_
  refine y_aload_n C d_Main_init_95 0 rfl ?_
  refine y_get (i := 2) C yg_Main_19 rfl rfl d_Main_init_96 ?_
  refine y_call (d := 9) (mc := 4) (ms := 6606) (n' := 37) (c1 := 36) (s1 := 7621) (As := [.ref (G.2.2.1 + 4)]) C hN (c_Likings_init hhi) yc_Main_60 (Or.inl wc_322) rfl rfl (Nat.le_of_ble_eq_true rfl) ⟨by decide, by decide⟩ rfl rfl ⟨by decide, by decide⟩ rfl d_Main_init_99 ?_
  refine y_putF (i := 1) (E1 := ((32, .inl (G.2.1 5, 5, .inr (.inr (.inr (.inr (fun _ => none)))))) :: ((1, .inr (0, [.ref (G.2.2.1 + 2), .ref (G.2.2.1 + 4), .ref (G.2.2.1 + 15), .ref (G.2.2.1 + 26), .ref (G.2.2.1 + 28), .ref (G.2.2.1 + 32), .int 0, .int (-1), .int 0, .ref (G.2.2.1 + 33), .null, .null, .null, .int 0, .int 0, .null, .int 0, .null, .null, .null])) :: E0))) C hinit yp_Main_63 rfl rfl (Nat.le_of_ble_eq_true rfl) rfl rfl (by omega) d_Main_init_102 ?_
  refine y_aload_n C d_Main_init_105 0 rfl ?_
  refine y_new (n1 := 38) (c1 := 37) (s1 := 7628) C yn_Main_67 rfl rfl rfl (by decide) (by decide) d_Main_init_106 ?_
  refine y_dup C d_Main_init_109 rfl ?_
  refine y_aload_n C d_Main_init_110 0 rfl ?_
  refine y_get (i := 2) C yg_Main_19 rfl rfl d_Main_init_111 ?_
  refine y_aload_n C d_Main_init_114 0 rfl ?_
  refine y_get (i := 2) C yg_Main_63 rfl rfl d_Main_init_115 ?_
  refine y_call (d := 1) (mc := 0) (ms := 0) (n' := 38) (c1 := 37) (s1 := 7628) (As := [.ref (G.2.2.1 + 4), .ref (G.2.2.1 + 33)]) C hN (c_Evening_init hhi) yc_Main_69 (Or.inl wc_360) rfl rfl (Nat.le_of_ble_eq_true rfl) ⟨by decide, by decide⟩ rfl rfl ⟨by decide, by decide⟩ rfl d_Main_init_118 ?_
  refine y_putF (i := 1) (E1 := ((32, .inl (G.2.1 5, 5, .inr (.inr (.inr (.inr (fun _ => none)))))) :: ((1, .inr (0, [.ref (G.2.2.1 + 2), .ref (G.2.2.1 + 4), .ref (G.2.2.1 + 15), .ref (G.2.2.1 + 26), .ref (G.2.2.1 + 28), .ref (G.2.2.1 + 32), .int 0, .int (-1), .int 0, .ref (G.2.2.1 + 33), .ref (G.2.2.1 + 38), .null, .null, .int 0, .int 0, .null, .int 0, .null, .null, .null])) :: E0))) C hinit yp_Main_72 rfl rfl (Nat.le_of_ble_eq_true rfl) rfl rfl (by omega) d_Main_init_121 ?_
  refine y_aload_n C d_Main_init_124 0 rfl ?_
  refine y_new (n1 := 39) (c1 := 38) (s1 := 7639) C yn_Main_76 rfl rfl rfl (by decide) (by decide) d_Main_init_125 ?_
  refine y_dup C d_Main_init_128 rfl ?_
  refine y_call (d := 1) (mc := 8) (ms := 296) (n' := 47) (c1 := 46) (s1 := 7935) (As := []) C hN (c_Hall_init hhi (show 39 ∈ xHalls by decide)) yc_Main_78 (Or.inr ⟨"LostPlaces", List.mem_of_getElem? (i := 3) rfl⟩) rfl rfl (Nat.le_of_ble_eq_true rfl) ⟨by decide, by decide⟩ rfl rfl ⟨by decide, by decide⟩ rfl d_Main_init_129 ?_
  refine y_putF (i := 1) (E1 := ((32, .inl (G.2.1 5, 5, .inr (.inr (.inr (.inr (fun _ => none)))))) :: ((1, .inr (0, [.ref (G.2.2.1 + 2), .ref (G.2.2.1 + 4), .ref (G.2.2.1 + 15), .ref (G.2.2.1 + 26), .ref (G.2.2.1 + 28), .ref (G.2.2.1 + 32), .int 0, .int (-1), .int 0, .ref (G.2.2.1 + 33), .ref (G.2.2.1 + 38), .ref (G.2.2.1 + 39), .null, .int 0, .int 0, .null, .int 0, .null, .null, .null])) :: E0))) C hinit yp_Main_79 rfl rfl (Nat.le_of_ble_eq_true rfl) rfl rfl (by omega) d_Main_init_132 ?_
  refine y_aload_n C d_Main_init_135 0 rfl ?_
  refine y_bipush (v := 40) C d_Main_init_136 (by decide) ?_
  refine y_newqH (N := 40) (n1 := 48) (c1 := 47) (s1 := 7975) C rfl rfl rfl hN.2.1 wc_387 (by decide) (by decide) (by decide) (by decide) (by decide) d_Main_init_138 ?_
  refine y_putF (i := 2) (E1 := ((48, .inl (G.2.1 4, 40, .inr (.inr (.inr (.inr (fun _ => none)))))) :: ((32, .inl (G.2.1 5, 5, .inr (.inr (.inr (.inr (fun _ => none)))))) :: ((1, .inr (0, [.ref (G.2.2.1 + 2), .ref (G.2.2.1 + 4), .ref (G.2.2.1 + 15), .ref (G.2.2.1 + 26), .ref (G.2.2.1 + 28), .ref (G.2.2.1 + 32), .int 0, .int (-1), .int 0, .ref (G.2.2.1 + 33), .ref (G.2.2.1 + 38), .ref (G.2.2.1 + 39), .ref (G.2.2.1 + 48), .int 0, .int 0, .null, .int 0, .null, .null, .null])) :: E0)))) C hinit yp_Main_83 rfl rfl (Nat.le_of_ble_eq_true rfl) rfl rfl (by omega) d_Main_init_141 ?_
  refine y_aload_n C d_Main_init_144 0 rfl ?_
  refine y_iconst (v := 0) C d_Main_init_145 (by decide) ?_
  refine y_put (i := 2) (E1 := ((48, .inl (G.2.1 4, 40, .inr (.inr (.inr (.inr (fun _ => none)))))) :: ((32, .inl (G.2.1 5, 5, .inr (.inr (.inr (.inr (fun _ => none)))))) :: ((1, .inr (0, [.ref (G.2.2.1 + 2), .ref (G.2.2.1 + 4), .ref (G.2.2.1 + 15), .ref (G.2.2.1 + 26), .ref (G.2.2.1 + 28), .ref (G.2.2.1 + 32), .int 0, .int (-1), .int 0, .ref (G.2.2.1 + 33), .ref (G.2.2.1 + 38), .ref (G.2.2.1 + 39), .ref (G.2.2.1 + 48), .int 0, .int 0, .null, .int 0, .null, .null, .null])) :: E0)))) C yp_Main_87 rfl rfl (Nat.le_of_ble_eq_true rfl) rfl rfl (by omega) d_Main_init_146 ?_
  refine y_aload_n C d_Main_init_149 0 rfl ?_
  refine y_iconst (v := 0) C d_Main_init_150 (by decide) ?_
  refine y_put (i := 2) (E1 := ((48, .inl (G.2.1 4, 40, .inr (.inr (.inr (.inr (fun _ => none)))))) :: ((32, .inl (G.2.1 5, 5, .inr (.inr (.inr (.inr (fun _ => none)))))) :: ((1, .inr (0, [.ref (G.2.2.1 + 2), .ref (G.2.2.1 + 4), .ref (G.2.2.1 + 15), .ref (G.2.2.1 + 26), .ref (G.2.2.1 + 28), .ref (G.2.2.1 + 32), .int 0, .int (-1), .int 0, .ref (G.2.2.1 + 33), .ref (G.2.2.1 + 38), .ref (G.2.2.1 + 39), .ref (G.2.2.1 + 48), .int 0, .int 0, .null, .int 0, .null, .null, .null])) :: E0)))) C yp_Main_90 rfl rfl (Nat.le_of_ble_eq_true rfl) rfl rfl (by omega) d_Main_init_151 ?_
  refine y_aload_n C d_Main_init_154 0 rfl ?_
  refine y_new (n1 := 49) (c1 := 48) (s1 := 7986) C yn_Main_76 rfl rfl rfl (by decide) (by decide) d_Main_init_155 ?_
  refine y_dup C d_Main_init_158 rfl ?_
  refine y_call (d := 1) (mc := 8) (ms := 296) (n' := 57) (c1 := 56) (s1 := 8282) (As := []) C hN (c_Hall_init hhi (show 49 ∈ xHalls by decide)) yc_Main_78 (Or.inr ⟨"LostPlaces", List.mem_of_getElem? (i := 3) rfl⟩) rfl rfl (Nat.le_of_ble_eq_true rfl) ⟨by decide, by decide⟩ rfl rfl ⟨by decide, by decide⟩ rfl d_Main_init_159 ?_
  refine y_putF (i := 2) (E1 := ((48, .inl (G.2.1 4, 40, .inr (.inr (.inr (.inr (fun _ => none)))))) :: ((32, .inl (G.2.1 5, 5, .inr (.inr (.inr (.inr (fun _ => none)))))) :: ((1, .inr (0, [.ref (G.2.2.1 + 2), .ref (G.2.2.1 + 4), .ref (G.2.2.1 + 15), .ref (G.2.2.1 + 26), .ref (G.2.2.1 + 28), .ref (G.2.2.1 + 32), .int 0, .int (-1), .int 0, .ref (G.2.2.1 + 33), .ref (G.2.2.1 + 38), .ref (G.2.2.1 + 39), .ref (G.2.2.1 + 48), .int 0, .int 0, .ref (G.2.2.1 + 49), .int 0, .null, .null, .null])) :: E0)))) C hinit yp_Main_93 rfl rfl (Nat.le_of_ble_eq_true rfl) rfl rfl (by omega) d_Main_init_162 ?_
  refine y_aload_n C d_Main_init_165 0 rfl ?_
  refine y_iconst (v := 0) C d_Main_init_166 (by decide) ?_
  refine y_put (i := 2) (E1 := ((48, .inl (G.2.1 4, 40, .inr (.inr (.inr (.inr (fun _ => none)))))) :: ((32, .inl (G.2.1 5, 5, .inr (.inr (.inr (.inr (fun _ => none)))))) :: ((1, .inr (0, [.ref (G.2.2.1 + 2), .ref (G.2.2.1 + 4), .ref (G.2.2.1 + 15), .ref (G.2.2.1 + 26), .ref (G.2.2.1 + 28), .ref (G.2.2.1 + 32), .int 0, .int (-1), .int 0, .ref (G.2.2.1 + 33), .ref (G.2.2.1 + 38), .ref (G.2.2.1 + 39), .ref (G.2.2.1 + 48), .int 0, .int 0, .ref (G.2.2.1 + 49), .int 0, .null, .null, .null])) :: E0)))) C yp_Main_96 rfl rfl (Nat.le_of_ble_eq_true rfl) rfl rfl (by omega) d_Main_init_167 ?_
  refine y_aload_n C d_Main_init_170 0 rfl ?_
  refine y_new (n1 := 58) (c1 := 57) (s1 := 8289) C yn_Main_100 rfl rfl rfl (by decide) (by decide) d_Main_init_171 ?_
  refine y_dup C d_Main_init_174 rfl ?_
  refine y_aload_n C d_Main_init_175 0 rfl ?_
  refine y_get (i := 3) C yg_Main_19 rfl rfl d_Main_init_176 ?_
  refine y_aload_n C d_Main_init_179 0 rfl ?_
  refine y_get (i := 3) C yg_Main_63 rfl rfl d_Main_init_180 ?_
  refine y_aload_n C d_Main_init_183 0 rfl ?_
  refine y_get (i := 3) C yg_Main_72 rfl rfl d_Main_init_184 ?_
  refine y_aload_n C d_Main_init_187 0 rfl ?_
  refine y_get (i := 3) C yg_Main_79 rfl rfl d_Main_init_188 ?_
  refine y_call (d := 2) (mc := 9) (ms := 307) (n' := 67) (c1 := 66) (s1 := 8596) (As := [.ref (G.2.2.1 + 4), .ref (G.2.2.1 + 33), .ref (G.2.2.1 + 38), .ref (G.2.2.1 + 39)]) C hN (c_Guess_init hhi) yc_Main_102 (Or.inl wc_456) rfl rfl (Nat.le_of_ble_eq_true rfl) ⟨by decide, by decide⟩ rfl rfl ⟨by decide, by decide⟩ rfl d_Main_init_191 ?_
  refine y_putF (i := 2) (E1 := ((48, .inl (G.2.1 4, 40, .inr (.inr (.inr (.inr (fun _ => none)))))) :: ((32, .inl (G.2.1 5, 5, .inr (.inr (.inr (.inr (fun _ => none)))))) :: ((1, .inr (0, [.ref (G.2.2.1 + 2), .ref (G.2.2.1 + 4), .ref (G.2.2.1 + 15), .ref (G.2.2.1 + 26), .ref (G.2.2.1 + 28), .ref (G.2.2.1 + 32), .int 0, .int (-1), .int 0, .ref (G.2.2.1 + 33), .ref (G.2.2.1 + 38), .ref (G.2.2.1 + 39), .ref (G.2.2.1 + 48), .int 0, .int 0, .ref (G.2.2.1 + 49), .int 0, .ref (G.2.2.1 + 58), .null, .null])) :: E0)))) C hinit yp_Main_105 rfl rfl (Nat.le_of_ble_eq_true rfl) rfl rfl (by omega) d_Main_init_194 ?_
  refine y_aload_n C d_Main_init_197 0 rfl ?_
  refine y_new (n1 := 68) (c1 := 67) (s1 := 8604) C yn_Main_109 rfl rfl rfl (by decide) (by decide) d_Main_init_198 ?_
  refine y_dup C d_Main_init_201 rfl ?_
  refine y_aload_n C d_Main_init_202 0 rfl ?_
  refine y_get (i := 3) C yg_Main_19 rfl rfl d_Main_init_203 ?_
  refine y_aload_n C d_Main_init_206 0 rfl ?_
  refine y_get (i := 3) C yg_Main_72 rfl rfl d_Main_init_207 ?_
  refine y_aload_n C d_Main_init_210 0 rfl ?_
  refine y_get (i := 3) C yg_Main_79 rfl rfl d_Main_init_211 ?_
  refine y_call (d := 2) (mc := 12) (ms := 383) (n' := 80) (c1 := 79) (s1 := 8987) (As := [.ref (G.2.2.1 + 4), .ref (G.2.2.1 + 38), .ref (G.2.2.1 + 39)]) C hN (c_Game_init hhi) yc_Main_111 (Or.inl wc_489) rfl rfl (Nat.le_of_ble_eq_true rfl) ⟨by decide, by decide⟩ rfl rfl ⟨by decide, by decide⟩ rfl d_Main_init_214 ?_
  refine y_putF (i := 2) (E1 := ((48, .inl (G.2.1 4, 40, .inr (.inr (.inr (.inr (fun _ => none)))))) :: ((32, .inl (G.2.1 5, 5, .inr (.inr (.inr (.inr (fun _ => none)))))) :: ((1, .inr (0, [.ref (G.2.2.1 + 2), .ref (G.2.2.1 + 4), .ref (G.2.2.1 + 15), .ref (G.2.2.1 + 26), .ref (G.2.2.1 + 28), .ref (G.2.2.1 + 32), .int 0, .int (-1), .int 0, .ref (G.2.2.1 + 33), .ref (G.2.2.1 + 38), .ref (G.2.2.1 + 39), .ref (G.2.2.1 + 48), .int 0, .int 0, .ref (G.2.2.1 + 49), .int 0, .ref (G.2.2.1 + 58), .ref (G.2.2.1 + 68), .null])) :: E0)))) C hinit yp_Main_114 rfl rfl (Nat.le_of_ble_eq_true rfl) rfl rfl (by omega) d_Main_init_217 ?_
  refine y_aload_n C d_Main_init_220 0 rfl ?_
  refine y_new (n1 := 81) (c1 := 80) (s1 := 9004) C yn_Main_118 rfl rfl rfl (by decide) (by decide) d_Main_init_221 ?_
  refine y_dup C d_Main_init_224 rfl ?_
  refine y_aload_n C d_Main_init_225 0 rfl ?_
  refine y_get (i := 3) C yg_Main_19 rfl rfl d_Main_init_226 ?_
  refine y_aload_n C d_Main_init_229 0 rfl ?_
  refine y_get (i := 3) C yg_Main_63 rfl rfl d_Main_init_230 ?_
  refine y_aload_n C d_Main_init_233 0 rfl ?_
  refine y_get (i := 3) C yg_Main_72 rfl rfl d_Main_init_234 ?_
  refine y_aload_n C d_Main_init_237 0 rfl ?_
  refine y_get (i := 3) C yg_Main_79 rfl rfl d_Main_init_238 ?_
  refine y_call (d := 2) (mc := 113) (ms := 4745) (n' := 194) (c1 := 193) (s1 := 13749) (As := [.ref (G.2.2.1 + 4), .ref (G.2.2.1 + 33), .ref (G.2.2.1 + 38), .ref (G.2.2.1 + 39)]) C hN (c_Branches_init hhi (hE0 := (yltE (by dsimp only; omega) (yltE (by dsimp only; omega) (yltE (by dsimp only; omega) (fun j q hq => by have := hE0 j q hq; omega)))))) yc_Main_120 (Or.inl wc_522) rfl rfl (Nat.le_of_ble_eq_true rfl) ⟨by decide, by decide⟩ rfl rfl ⟨by decide, by decide⟩ rfl d_Main_init_241 ?_
  refine y_putF (i := 2) (E1 := ((48, .inl (G.2.1 4, 40, .inr (.inr (.inr (.inr (fun _ => none)))))) :: ((32, .inl (G.2.1 5, 5, .inr (.inr (.inr (.inr (fun _ => none)))))) :: ((1, .inr (0, [.ref (G.2.2.1 + 2), .ref (G.2.2.1 + 4), .ref (G.2.2.1 + 15), .ref (G.2.2.1 + 26), .ref (G.2.2.1 + 28), .ref (G.2.2.1 + 32), .int 0, .int (-1), .int 0, .ref (G.2.2.1 + 33), .ref (G.2.2.1 + 38), .ref (G.2.2.1 + 39), .ref (G.2.2.1 + 48), .int 0, .int 0, .ref (G.2.2.1 + 49), .int 0, .ref (G.2.2.1 + 58), .ref (G.2.2.1 + 68), .ref (G.2.2.1 + 81)])) :: E0)))) C hinit yp_Main_121 rfl rfl (Nat.le_of_ble_eq_true rfl) rfl rfl (by omega) d_Main_init_244 ?_
  refine y_iconst (v := 0) C d_Main_init_247 (by decide) ?_
  refine y_istore_n (lv' := (1, .int 0) :: [(0, .ref (G.2.2.1 + 1))]) C d_Main_init_248 rfl (by decide) rfl ?_
  refine y_E (E1 := ((48, .inl (G.2.1 4, 40, .inr (.inr (.inr (.inr (fun _ => none)))))) :: ((32, .inl (G.2.1 5, 5, .inr (.inr (.inr (.inr (yfn G.2.2.1 195 3 0)))))) :: ((1, .inr (0, [.ref (G.2.2.1 + 2), .ref (G.2.2.1 + 4), .ref (G.2.2.1 + 15), .ref (G.2.2.1 + 26), .ref (G.2.2.1 + 28), .ref (G.2.2.1 + 32), .int 0, .int (-1), .int 0, .ref (G.2.2.1 + 33), .ref (G.2.2.1 + 38), .ref (G.2.2.1 + 39), .ref (G.2.2.1 + 48), .int 0, .int 0, .ref (G.2.2.1 + 49), .int 0, .ref (G.2.2.1 + 58), .ref (G.2.2.1 + 68), .ref (G.2.2.1 + 81)])) :: E0)))) C (by rw [yfn_zero]) ?_
  refine yl_Main_init_249 hhi C hN hE0 ?_ 5 0 rfl
  refine y_iconst (v := 0) C d_Main_init_277 (by decide) ?_
  refine y_istore_n (lv' := (1, .int 0) :: [(0, .ref (G.2.2.1 + 1))]) C d_Main_init_278 rfl (by decide) rfl ?_
  refine y_E (E1 := ((48, .inl (G.2.1 4, 40, .inr (.inr (.inr (.inr (yfn G.2.2.1 210 9 0)))))) :: ((32, .inl (G.2.1 5, 5, .inr (.inr (.inr (.inr (yfn G.2.2.1 195 3 5)))))) :: ((1, .inr (0, [.ref (G.2.2.1 + 2), .ref (G.2.2.1 + 4), .ref (G.2.2.1 + 15), .ref (G.2.2.1 + 26), .ref (G.2.2.1 + 28), .ref (G.2.2.1 + 32), .int 0, .int (-1), .int 0, .ref (G.2.2.1 + 33), .ref (G.2.2.1 + 38), .ref (G.2.2.1 + 39), .ref (G.2.2.1 + 48), .int 0, .int 0, .ref (G.2.2.1 + 49), .int 0, .ref (G.2.2.1 + 58), .ref (G.2.2.1 + 68), .ref (G.2.2.1 + 81)])) :: E0)))) C (by rw [yfn_zero]) ?_
  refine yl_Main_init_279 hhi C hN hE0 ?_ 40 0 rfl
  refine y_done C (yE_arr4 (n := 40) (y := 210) (by decide +kernel)) yfn_at ?_
  refine y_done C (yE_arr5 (n := 5) (y := 195) (by decide +kernel)) yfn_at ?_
  refine y_done C (yE_obj (y := 0) (by decide +kernel) rfl) (fun _ h => h) ?_
  exact y_vret C hN hr hk d_Main_init_307
