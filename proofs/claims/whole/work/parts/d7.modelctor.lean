/-! the model's constructor -/
theorem d_Model_init_0 : decode prog_14_method_1_code 0 = .ok (.aload_n 0, 1) := by decide +kernel
theorem d_Model_init_1 : decode prog_14_method_1_code 1 = .ok (.invokespecial 3, 3) := by decide +kernel
theorem d_Model_init_4 : decode prog_14_method_1_code 4 = .ok (.aload_n 0, 1) := by decide +kernel
theorem d_Model_init_5 : decode prog_14_method_1_code 5 = .ok (.sipush 240, 3) := by decide +kernel
theorem d_Model_init_8 : decode prog_14_method_1_code 8 = .ok (.newarray .byte, 2) := by decide +kernel
theorem d_Model_init_10 : decode prog_14_method_1_code 10 = .ok (.putfield 9, 3) := by decide +kernel
theorem d_Model_init_13 : decode prog_14_method_1_code 13 = .ok (.aload_n 0, 1) := by decide +kernel
theorem d_Model_init_14 : decode prog_14_method_1_code 14 = .ok (.sipush 960, 3) := by decide +kernel
theorem d_Model_init_17 : decode prog_14_method_1_code 17 = .ok (.newarray .byte, 2) := by decide +kernel
theorem d_Model_init_19 : decode prog_14_method_1_code 19 = .ok (.putfield 13, 3) := by decide +kernel
theorem d_Model_init_22 : decode prog_14_method_1_code 22 = .ok (.aload_n 0, 1) := by decide +kernel
theorem d_Model_init_23 : decode prog_14_method_1_code 23 = .ok (.iconst 4, 1) := by decide +kernel
theorem d_Model_init_24 : decode prog_14_method_1_code 24 = .ok (.newarray .int, 2) := by decide +kernel
theorem d_Model_init_26 : decode prog_14_method_1_code 26 = .ok (.putfield 16, 3) := by decide +kernel
theorem d_Model_init_29 : decode prog_14_method_1_code 29 = .ok (.aload_n 0, 1) := by decide +kernel
theorem d_Model_init_30 : decode prog_14_method_1_code 30 = .ok (.sipush 128, 3) := by decide +kernel
theorem d_Model_init_33 : decode prog_14_method_1_code 33 = .ok (.newarray .int, 2) := by decide +kernel
theorem d_Model_init_35 : decode prog_14_method_1_code 35 = .ok (.putfield 20, 3) := by decide +kernel
theorem d_Model_init_38 : decode prog_14_method_1_code 38 = .ok (.aload_n 0, 1) := by decide +kernel
theorem d_Model_init_39 : decode prog_14_method_1_code 39 = .ok (.aload_n 0, 1) := by decide +kernel
theorem d_Model_init_40 : decode prog_14_method_1_code 40 = .ok (.getfield 9, 3) := by decide +kernel
theorem d_Model_init_43 : decode prog_14_method_1_code 43 = .ok (.putfield 23, 3) := by decide +kernel
theorem d_Model_init_46 : decode prog_14_method_1_code 46 = .ok (.aload_n 0, 1) := by decide +kernel
theorem d_Model_init_47 : decode prog_14_method_1_code 47 = .ok (.ldc 26, 2) := by decide +kernel
theorem d_Model_init_49 : decode prog_14_method_1_code 49 = .ok (.putfield 28, 3) := by decide +kernel
theorem d_Model_init_52 : decode prog_14_method_1_code 52 = .ok (.aload_n 0, 1) := by decide +kernel
theorem d_Model_init_53 : decode prog_14_method_1_code 53 = .ok (.ldc 32, 2) := by decide +kernel
theorem d_Model_init_55 : decode prog_14_method_1_code 55 = .ok (.putfield 34, 3) := by decide +kernel
theorem d_Model_init_58 : decode prog_14_method_1_code 58 = .ok (.aload_n 0, 1) := by decide +kernel
theorem d_Model_init_59 : decode prog_14_method_1_code 59 = .ok (.bipush 24, 2) := by decide +kernel
theorem d_Model_init_61 : decode prog_14_method_1_code 61 = .ok (.newarray .int, 2) := by decide +kernel
theorem d_Model_init_63 : decode prog_14_method_1_code 63 = .ok (.putfield 37, 3) := by decide +kernel
theorem d_Model_init_66 : decode prog_14_method_1_code 66 = .ok (.aload_n 0, 1) := by decide +kernel
theorem d_Model_init_67 : decode prog_14_method_1_code 67 = .ok (.bipush 24, 2) := by decide +kernel
theorem d_Model_init_69 : decode prog_14_method_1_code 69 = .ok (.newarray .int, 2) := by decide +kernel
theorem d_Model_init_71 : decode prog_14_method_1_code 71 = .ok (.putfield 40, 3) := by decide +kernel
theorem d_Model_init_74 : decode prog_14_method_1_code 74 = .ok (.aload_n 0, 1) := by decide +kernel
theorem d_Model_init_75 : decode prog_14_method_1_code 75 = .ok (.bipush 32, 2) := by decide +kernel
theorem d_Model_init_77 : decode prog_14_method_1_code 77 = .ok (.newarray .int, 2) := by decide +kernel
theorem d_Model_init_79 : decode prog_14_method_1_code 79 = .ok (.putfield 43, 3) := by decide +kernel
theorem d_Model_init_82 : decode prog_14_method_1_code 82 = .ok (.aload_n 0, 1) := by decide +kernel
theorem d_Model_init_83 : decode prog_14_method_1_code 83 = .ok (.bipush 32, 2) := by decide +kernel
theorem d_Model_init_85 : decode prog_14_method_1_code 85 = .ok (.newarray .int, 2) := by decide +kernel
theorem d_Model_init_87 : decode prog_14_method_1_code 87 = .ok (.putfield 46, 3) := by decide +kernel
theorem d_Model_init_90 : decode prog_14_method_1_code 90 = .ok (.aload_n 0, 1) := by decide +kernel
theorem d_Model_init_91 : decode prog_14_method_1_code 91 = .ok (.bipush 30, 2) := by decide +kernel
theorem d_Model_init_93 : decode prog_14_method_1_code 93 = .ok (.newarray .int, 2) := by decide +kernel
theorem d_Model_init_95 : decode prog_14_method_1_code 95 = .ok (.putfield 49, 3) := by decide +kernel
theorem d_Model_init_98 : decode prog_14_method_1_code 98 = .ok (.aload_n 0, 1) := by decide +kernel
theorem d_Model_init_99 : decode prog_14_method_1_code 99 = .ok (.bipush 30, 2) := by decide +kernel
theorem d_Model_init_101 : decode prog_14_method_1_code 101 = .ok (.newarray .int, 2) := by decide +kernel
theorem d_Model_init_103 : decode prog_14_method_1_code 103 = .ok (.putfield 52, 3) := by decide +kernel
theorem d_Model_init_106 : decode prog_14_method_1_code 106 = .ok (.aload_n 0, 1) := by decide +kernel
theorem d_Model_init_107 : decode prog_14_method_1_code 107 = .ok (.iconst 2, 1) := by decide +kernel
theorem d_Model_init_108 : decode prog_14_method_1_code 108 = .ok (.newarray .int, 2) := by decide +kernel
theorem d_Model_init_110 : decode prog_14_method_1_code 110 = .ok (.putfield 55, 3) := by decide +kernel
theorem d_Model_init_113 : decode prog_14_method_1_code 113 = .ok (.aload_n 0, 1) := by decide +kernel
theorem d_Model_init_114 : decode prog_14_method_1_code 114 = .ok (.iconst 2, 1) := by decide +kernel
theorem d_Model_init_115 : decode prog_14_method_1_code 115 = .ok (.newarray .int, 2) := by decide +kernel
theorem d_Model_init_117 : decode prog_14_method_1_code 117 = .ok (.putfield 58, 3) := by decide +kernel
theorem d_Model_init_120 : decode prog_14_method_1_code 120 = .ok (.aload_n 0, 1) := by decide +kernel
theorem d_Model_init_121 : decode prog_14_method_1_code 121 = .ok (.sipush 290, 3) := by decide +kernel
theorem d_Model_init_124 : decode prog_14_method_1_code 124 = .ok (.newarray .int, 2) := by decide +kernel
theorem d_Model_init_126 : decode prog_14_method_1_code 126 = .ok (.putfield 61, 3) := by decide +kernel
theorem d_Model_init_129 : decode prog_14_method_1_code 129 = .ok (.aload_n 0, 1) := by decide +kernel
theorem d_Model_init_130 : decode prog_14_method_1_code 130 = .ok (.sipush 290, 3) := by decide +kernel
theorem d_Model_init_133 : decode prog_14_method_1_code 133 = .ok (.newarray .int, 2) := by decide +kernel
theorem d_Model_init_135 : decode prog_14_method_1_code 135 = .ok (.putfield 64, 3) := by decide +kernel
theorem d_Model_init_138 : decode prog_14_method_1_code 138 = .ok (.aload_n 0, 1) := by decide +kernel
theorem d_Model_init_139 : decode prog_14_method_1_code 139 = .ok (.iconst (-1), 1) := by decide +kernel
theorem d_Model_init_140 : decode prog_14_method_1_code 140 = .ok (.putfield 67, 3) := by decide +kernel
theorem d_Model_init_143 : decode prog_14_method_1_code 143 = .ok (.aload_n 0, 1) := by decide +kernel
theorem d_Model_init_144 : decode prog_14_method_1_code 144 = .ok (.sipush 4093, 3) := by decide +kernel
theorem d_Model_init_147 : decode prog_14_method_1_code 147 = .ok (.newarray .long, 2) := by decide +kernel
theorem d_Model_init_149 : decode prog_14_method_1_code 149 = .ok (.putfield 71, 3) := by decide +kernel
theorem d_Model_init_152 : decode prog_14_method_1_code 152 = .ok (.aload_n 0, 1) := by decide +kernel
theorem d_Model_init_153 : decode prog_14_method_1_code 153 = .ok (.sipush 4093, 3) := by decide +kernel
theorem d_Model_init_156 : decode prog_14_method_1_code 156 = .ok (.newarray .int, 2) := by decide +kernel
theorem d_Model_init_158 : decode prog_14_method_1_code 158 = .ok (.putfield 75, 3) := by decide +kernel
theorem d_Model_init_161 : decode prog_14_method_1_code 161 = .ok (.aload_n 0, 1) := by decide +kernel
theorem d_Model_init_162 : decode prog_14_method_1_code 162 = .ok (.iconst (-1), 1) := by decide +kernel
theorem d_Model_init_163 : decode prog_14_method_1_code 163 = .ok (.putfield 78, 3) := by decide +kernel
theorem d_Model_init_166 : decode prog_14_method_1_code 166 = .ok (.aload_n 0, 1) := by decide +kernel
theorem d_Model_init_167 : decode prog_14_method_1_code 167 = .ok (.bipush 8, 2) := by decide +kernel
theorem d_Model_init_169 : decode prog_14_method_1_code 169 = .ok (.newarray .int, 2) := by decide +kernel
theorem d_Model_init_171 : decode prog_14_method_1_code 171 = .ok (.putfield 81, 3) := by decide +kernel
theorem d_Model_init_174 : decode prog_14_method_1_code 174 = .ok (.aload_n 0, 1) := by decide +kernel
theorem d_Model_init_175 : decode prog_14_method_1_code 175 = .ok (.bipush 8, 2) := by decide +kernel
theorem d_Model_init_177 : decode prog_14_method_1_code 177 = .ok (.newarray .int, 2) := by decide +kernel
theorem d_Model_init_179 : decode prog_14_method_1_code 179 = .ok (.putfield 84, 3) := by decide +kernel
theorem d_Model_init_182 : decode prog_14_method_1_code 182 = .ok (.aload_n 0, 1) := by decide +kernel
theorem d_Model_init_183 : decode prog_14_method_1_code 183 = .ok (.bipush 8, 2) := by decide +kernel
theorem d_Model_init_185 : decode prog_14_method_1_code 185 = .ok (.newarray .int, 2) := by decide +kernel
theorem d_Model_init_187 : decode prog_14_method_1_code 187 = .ok (.putfield 87, 3) := by decide +kernel
theorem d_Model_init_190 : decode prog_14_method_1_code 190 = .ok (.aload_n 0, 1) := by decide +kernel
theorem d_Model_init_191 : decode prog_14_method_1_code 191 = .ok (.sipush 11600, 3) := by decide +kernel
theorem d_Model_init_194 : decode prog_14_method_1_code 194 = .ok (.newarray .int, 2) := by decide +kernel
theorem d_Model_init_196 : decode prog_14_method_1_code 196 = .ok (.putfield 90, 3) := by decide +kernel
theorem d_Model_init_199 : decode prog_14_method_1_code 199 = .ok (.aload_n 0, 1) := by decide +kernel
theorem d_Model_init_200 : decode prog_14_method_1_code 200 = .ok (.bipush 8, 2) := by decide +kernel
theorem d_Model_init_202 : decode prog_14_method_1_code 202 = .ok (.newarray .int, 2) := by decide +kernel
theorem d_Model_init_204 : decode prog_14_method_1_code 204 = .ok (.putfield 93, 3) := by decide +kernel
theorem d_Model_init_207 : decode prog_14_method_1_code 207 = .ok (.aload_n 0, 1) := by decide +kernel
theorem d_Model_init_208 : decode prog_14_method_1_code 208 = .ok (.bipush 8, 2) := by decide +kernel
theorem d_Model_init_210 : decode prog_14_method_1_code 210 = .ok (.newarray .int, 2) := by decide +kernel
theorem d_Model_init_212 : decode prog_14_method_1_code 212 = .ok (.putfield 96, 3) := by decide +kernel
theorem d_Model_init_215 : decode prog_14_method_1_code 215 = .ok (.aload_n 0, 1) := by decide +kernel
theorem d_Model_init_216 : decode prog_14_method_1_code 216 = .ok (.sipush 2500, 3) := by decide +kernel
theorem d_Model_init_219 : decode prog_14_method_1_code 219 = .ok (.newarray .int, 2) := by decide +kernel
theorem d_Model_init_221 : decode prog_14_method_1_code 221 = .ok (.putfield 99, 3) := by decide +kernel
theorem d_Model_init_224 : decode prog_14_method_1_code 224 = .ok (.aload_n 0, 1) := by decide +kernel
theorem d_Model_init_225 : decode prog_14_method_1_code 225 = .ok (.bipush 8, 2) := by decide +kernel
theorem d_Model_init_227 : decode prog_14_method_1_code 227 = .ok (.newarray .int, 2) := by decide +kernel
theorem d_Model_init_229 : decode prog_14_method_1_code 229 = .ok (.putfield 102, 3) := by decide +kernel
theorem d_Model_init_232 : decode prog_14_method_1_code 232 = .ok (.aload_n 0, 1) := by decide +kernel
theorem d_Model_init_233 : decode prog_14_method_1_code 233 = .ok (.bipush 8, 2) := by decide +kernel
theorem d_Model_init_235 : decode prog_14_method_1_code 235 = .ok (.newarray .int, 2) := by decide +kernel
theorem d_Model_init_237 : decode prog_14_method_1_code 237 = .ok (.putfield 105, 3) := by decide +kernel
theorem d_Model_init_240 : decode prog_14_method_1_code 240 = .ok (.aload_n 0, 1) := by decide +kernel
theorem d_Model_init_241 : decode prog_14_method_1_code 241 = .ok (.bipush 8, 2) := by decide +kernel
theorem d_Model_init_243 : decode prog_14_method_1_code 243 = .ok (.newarray .int, 2) := by decide +kernel
theorem d_Model_init_245 : decode prog_14_method_1_code 245 = .ok (.putfield 108, 3) := by decide +kernel
theorem d_Model_init_248 : decode prog_14_method_1_code 248 = .ok (.aload_n 0, 1) := by decide +kernel
theorem d_Model_init_249 : decode prog_14_method_1_code 249 = .ok (.sipush 290, 3) := by decide +kernel
theorem d_Model_init_252 : decode prog_14_method_1_code 252 = .ok (.newarray .int, 2) := by decide +kernel
theorem d_Model_init_254 : decode prog_14_method_1_code 254 = .ok (.putfield 111, 3) := by decide +kernel
theorem d_Model_init_257 : decode prog_14_method_1_code 257 = .ok (.return_, 1) := by decide +kernel
theorem c_Model_init {G : XG} {hi : Nat} {l : Launch} (hhi : 600 ≤ hi) {E0 : List (Nat × va_E)} : yM G hi l y_Model_init prog_14_method_1_code 1 1 27 24728 [.ref (G.2.2.1 + 570)] 570 ((570, .inr (12, [.int 0, .null, .null, .null, .null, .null, .int 0, .int 0, .int 0, .int 0, .int 0, .int 0, .int 0, .int 0, .int 0, .null, .null, .int 0, .null, .null, .null, .null, .null, .null, .null, .null, .int 0, .int 0, .int 0, .int 0, .int 0, .int 0, .int 0, .null, .null, .int 0, .int 0, .null, .null, .int 0, .int 0, .int 0, .null, .null, .null, .null, .int 0, .long 0, .null, .null, .null, .int 0, .null, .int 0, .int 0, .null, .null, .int 0, .null, .int 0])) :: E0) 597 E0 := by
  refine y_met R_Model rfl (by decide +kernel) (Nat.le_of_ble_eq_true rfl) fun p e s m below meth c C hN hinit hr hk _ => ?_
  refine y_aload_n C d_Model_init_0 0 rfl ?_
  refine y_obj C wc_1486 wobj_i wobj_c ⟨by decide, by decide⟩ (Nat.le_of_ble_eq_true rfl) d_Model_init_1 ?_
  refine y_aload_n C d_Model_init_4 0 rfl ?_
  refine y_sipush (v := 240) C d_Model_init_5 (by decide) ?_
  refine y_newB (N := 240) (n1 := 571) (c1 := 1) (s1 := 240) C rfl rfl rfl wc_357 (by decide +kernel) (by decide) (by decide) (by decide) (by decide) (by decide) d_Model_init_8 ?_
  refine y_putF (i := 0) (E1 := ((570, .inr (12, [.int 0, .ref (G.2.2.1 + 571), .null, .null, .null, .null, .int 0, .int 0, .int 0, .int 0, .int 0, .int 0, .int 0, .int 0, .int 0, .null, .null, .int 0, .null, .null, .null, .null, .null, .null, .null, .null, .int 0, .int 0, .int 0, .int 0, .int 0, .int 0, .int 0, .null, .null, .int 0, .int 0, .null, .null, .int 0, .int 0, .int 0, .null, .null, .null, .null, .int 0, .long 0, .null, .null, .null, .int 0, .null, .int 0, .int 0, .null, .null, .int 0, .null, .int 0])) :: E0)) C hinit yp_Model_9 rfl rfl (Nat.le_of_ble_eq_true rfl) rfl rfl (by omega) d_Model_init_10 ?_
  refine y_aload_n C d_Model_init_13 0 rfl ?_
  refine y_sipush (v := 960) C d_Model_init_14 (by decide) ?_
  refine y_newB (N := 960) (n1 := 572) (c1 := 2) (s1 := 1200) C rfl rfl rfl wc_357 (by decide +kernel) (by decide) (by decide) (by decide) (by decide) (by decide) d_Model_init_17 ?_
  refine y_putF (i := 0) (E1 := ((570, .inr (12, [.int 0, .ref (G.2.2.1 + 571), .ref (G.2.2.1 + 572), .null, .null, .null, .int 0, .int 0, .int 0, .int 0, .int 0, .int 0, .int 0, .int 0, .int 0, .null, .null, .int 0, .null, .null, .null, .null, .null, .null, .null, .null, .int 0, .int 0, .int 0, .int 0, .int 0, .int 0, .int 0, .null, .null, .int 0, .int 0, .null, .null, .int 0, .int 0, .int 0, .null, .null, .null, .null, .int 0, .long 0, .null, .null, .null, .int 0, .null, .int 0, .int 0, .null, .null, .int 0, .null, .int 0])) :: E0)) C hinit yp_Model_13 rfl rfl (Nat.le_of_ble_eq_true rfl) rfl rfl (by omega) d_Model_init_19 ?_
  refine y_aload_n C d_Model_init_22 0 rfl ?_
  refine y_iconst (v := 4) C d_Model_init_23 (by decide) ?_
  refine y_newI (N := 4) (n1 := 573) (c1 := 3) (s1 := 1204) C rfl rfl rfl wc_165 (by decide +kernel) (by decide) (by decide) (by decide) (by decide) (by decide) d_Model_init_24 ?_
  refine y_putF (i := 0) (E1 := ((570, .inr (12, [.int 0, .ref (G.2.2.1 + 571), .ref (G.2.2.1 + 572), .ref (G.2.2.1 + 573), .null, .null, .int 0, .int 0, .int 0, .int 0, .int 0, .int 0, .int 0, .int 0, .int 0, .null, .null, .int 0, .null, .null, .null, .null, .null, .null, .null, .null, .int 0, .int 0, .int 0, .int 0, .int 0, .int 0, .int 0, .null, .null, .int 0, .int 0, .null, .null, .int 0, .int 0, .int 0, .null, .null, .null, .null, .int 0, .long 0, .null, .null, .null, .int 0, .null, .int 0, .int 0, .null, .null, .int 0, .null, .int 0])) :: E0)) C hinit yp_Model_16 rfl rfl (Nat.le_of_ble_eq_true rfl) rfl rfl (by omega) d_Model_init_26 ?_
  refine y_aload_n C d_Model_init_29 0 rfl ?_
  refine y_sipush (v := 128) C d_Model_init_30 (by decide) ?_
  refine y_newI (N := 128) (n1 := 574) (c1 := 4) (s1 := 1332) C rfl rfl rfl wc_165 (by decide +kernel) (by decide) (by decide) (by decide) (by decide) (by decide) d_Model_init_33 ?_
  refine y_putF (i := 0) (E1 := ((570, .inr (12, [.int 0, .ref (G.2.2.1 + 571), .ref (G.2.2.1 + 572), .ref (G.2.2.1 + 573), .ref (G.2.2.1 + 574), .null, .int 0, .int 0, .int 0, .int 0, .int 0, .int 0, .int 0, .int 0, .int 0, .null, .null, .int 0, .null, .null, .null, .null, .null, .null, .null, .null, .int 0, .int 0, .int 0, .int 0, .int 0, .int 0, .int 0, .null, .null, .int 0, .int 0, .null, .null, .int 0, .int 0, .int 0, .null, .null, .null, .null, .int 0, .long 0, .null, .null, .null, .int 0, .null, .int 0, .int 0, .null, .null, .int 0, .null, .int 0])) :: E0)) C hinit yp_Model_20 rfl rfl (Nat.le_of_ble_eq_true rfl) rfl rfl (by omega) d_Model_init_35 ?_
  refine y_aload_n C d_Model_init_38 0 rfl ?_
  refine y_aload_n C d_Model_init_39 0 rfl ?_
  refine y_get (i := 0) C yg_Model_9 rfl rfl d_Model_init_40 ?_
  refine y_put (i := 0) (E1 := ((570, .inr (12, [.int 0, .ref (G.2.2.1 + 571), .ref (G.2.2.1 + 572), .ref (G.2.2.1 + 573), .ref (G.2.2.1 + 574), .ref (G.2.2.1 + 571), .int 0, .int 0, .int 0, .int 0, .int 0, .int 0, .int 0, .int 0, .int 0, .null, .null, .int 0, .null, .null, .null, .null, .null, .null, .null, .null, .int 0, .int 0, .int 0, .int 0, .int 0, .int 0, .int 0, .null, .null, .int 0, .int 0, .null, .null, .int 0, .int 0, .int 0, .null, .null, .null, .null, .int 0, .long 0, .null, .null, .null, .int 0, .null, .int 0, .int 0, .null, .null, .int 0, .null, .int 0])) :: E0)) C yp_Model_23 rfl rfl (Nat.le_of_ble_eq_true rfl) rfl rfl (by omega) d_Model_init_43 ?_
  refine y_aload_n C d_Model_init_46 0 rfl ?_
  refine y_ldcS (i := 9) C (by decide +kernel) d_Model_init_47 ?_
  refine y_putF (i := 0) (E1 := ((570, .inr (12, [.int 0, .ref (G.2.2.1 + 571), .ref (G.2.2.1 + 572), .ref (G.2.2.1 + 573), .ref (G.2.2.1 + 574), .ref (G.2.2.1 + 571), .int 0, .int 0, .int 0, .int 0, .int 0, .int 0, .int 0, .int 0, .int 0, .ref (G.2.2.2.1 9), .null, .int 0, .null, .null, .null, .null, .null, .null, .null, .null, .int 0, .int 0, .int 0, .int 0, .int 0, .int 0, .int 0, .null, .null, .int 0, .int 0, .null, .null, .int 0, .int 0, .int 0, .null, .null, .null, .null, .int 0, .long 0, .null, .null, .null, .int 0, .null, .int 0, .int 0, .null, .null, .int 0, .null, .int 0])) :: E0)) C hinit yp_Model_28 rfl rfl (Nat.le_of_ble_eq_true rfl) rfl rfl (by omega) d_Model_init_49 ?_
  refine y_aload_n C d_Model_init_52 0 rfl ?_
  refine y_ldcS (i := 0) C (by decide +kernel) d_Model_init_53 ?_
  refine y_putF (i := 0) (E1 := ((570, .inr (12, [.int 0, .ref (G.2.2.1 + 571), .ref (G.2.2.1 + 572), .ref (G.2.2.1 + 573), .ref (G.2.2.1 + 574), .ref (G.2.2.1 + 571), .int 0, .int 0, .int 0, .int 0, .int 0, .int 0, .int 0, .int 0, .int 0, .ref (G.2.2.2.1 9), .ref (G.2.2.2.1 0), .int 0, .null, .null, .null, .null, .null, .null, .null, .null, .int 0, .int 0, .int 0, .int 0, .int 0, .int 0, .int 0, .null, .null, .int 0, .int 0, .null, .null, .int 0, .int 0, .int 0, .null, .null, .null, .null, .int 0, .long 0, .null, .null, .null, .int 0, .null, .int 0, .int 0, .null, .null, .int 0, .null, .int 0])) :: E0)) C hinit yp_Model_34 rfl rfl (Nat.le_of_ble_eq_true rfl) rfl rfl (by omega) d_Model_init_55 ?_
  refine y_aload_n C d_Model_init_58 0 rfl ?_
  refine y_bipush (v := 24) C d_Model_init_59 (by decide) ?_
  refine y_newI (N := 24) (n1 := 575) (c1 := 5) (s1 := 1356) C rfl rfl rfl wc_165 (by decide +kernel) (by decide) (by decide) (by decide) (by decide) (by decide) d_Model_init_61 ?_
  refine y_putF (i := 0) (E1 := ((570, .inr (12, [.int 0, .ref (G.2.2.1 + 571), .ref (G.2.2.1 + 572), .ref (G.2.2.1 + 573), .ref (G.2.2.1 + 574), .ref (G.2.2.1 + 571), .int 0, .int 0, .int 0, .int 0, .int 0, .int 0, .int 0, .int 0, .int 0, .ref (G.2.2.2.1 9), .ref (G.2.2.2.1 0), .int 0, .ref (G.2.2.1 + 575), .null, .null, .null, .null, .null, .null, .null, .int 0, .int 0, .int 0, .int 0, .int 0, .int 0, .int 0, .null, .null, .int 0, .int 0, .null, .null, .int 0, .int 0, .int 0, .null, .null, .null, .null, .int 0, .long 0, .null, .null, .null, .int 0, .null, .int 0, .int 0, .null, .null, .int 0, .null, .int 0])) :: E0)) C hinit yp_Model_37 rfl rfl (Nat.le_of_ble_eq_true rfl) rfl rfl (by omega) d_Model_init_63 ?_
  refine y_aload_n C d_Model_init_66 0 rfl ?_
  refine y_bipush (v := 24) C d_Model_init_67 (by decide) ?_
  refine y_newI (N := 24) (n1 := 576) (c1 := 6) (s1 := 1380) C rfl rfl rfl wc_165 (by decide +kernel) (by decide) (by decide) (by decide) (by decide) (by decide) d_Model_init_69 ?_
  refine y_putF (i := 0) (E1 := ((570, .inr (12, [.int 0, .ref (G.2.2.1 + 571), .ref (G.2.2.1 + 572), .ref (G.2.2.1 + 573), .ref (G.2.2.1 + 574), .ref (G.2.2.1 + 571), .int 0, .int 0, .int 0, .int 0, .int 0, .int 0, .int 0, .int 0, .int 0, .ref (G.2.2.2.1 9), .ref (G.2.2.2.1 0), .int 0, .ref (G.2.2.1 + 575), .ref (G.2.2.1 + 576), .null, .null, .null, .null, .null, .null, .int 0, .int 0, .int 0, .int 0, .int 0, .int 0, .int 0, .null, .null, .int 0, .int 0, .null, .null, .int 0, .int 0, .int 0, .null, .null, .null, .null, .int 0, .long 0, .null, .null, .null, .int 0, .null, .int 0, .int 0, .null, .null, .int 0, .null, .int 0])) :: E0)) C hinit yp_Model_40 rfl rfl (Nat.le_of_ble_eq_true rfl) rfl rfl (by omega) d_Model_init_71 ?_
  refine y_aload_n C d_Model_init_74 0 rfl ?_
  refine y_bipush (v := 32) C d_Model_init_75 (by decide) ?_
  refine y_newI (N := 32) (n1 := 577) (c1 := 7) (s1 := 1412) C rfl rfl rfl wc_165 (by decide +kernel) (by decide) (by decide) (by decide) (by decide) (by decide) d_Model_init_77 ?_
  refine y_putF (i := 0) (E1 := ((570, .inr (12, [.int 0, .ref (G.2.2.1 + 571), .ref (G.2.2.1 + 572), .ref (G.2.2.1 + 573), .ref (G.2.2.1 + 574), .ref (G.2.2.1 + 571), .int 0, .int 0, .int 0, .int 0, .int 0, .int 0, .int 0, .int 0, .int 0, .ref (G.2.2.2.1 9), .ref (G.2.2.2.1 0), .int 0, .ref (G.2.2.1 + 575), .ref (G.2.2.1 + 576), .ref (G.2.2.1 + 577), .null, .null, .null, .null, .null, .int 0, .int 0, .int 0, .int 0, .int 0, .int 0, .int 0, .null, .null, .int 0, .int 0, .null, .null, .int 0, .int 0, .int 0, .null, .null, .null, .null, .int 0, .long 0, .null, .null, .null, .int 0, .null, .int 0, .int 0, .null, .null, .int 0, .null, .int 0])) :: E0)) C hinit yp_Model_43 rfl rfl (Nat.le_of_ble_eq_true rfl) rfl rfl (by omega) d_Model_init_79 ?_
  refine y_aload_n C d_Model_init_82 0 rfl ?_
  refine y_bipush (v := 32) C d_Model_init_83 (by decide) ?_
  refine y_newI (N := 32) (n1 := 578) (c1 := 8) (s1 := 1444) C rfl rfl rfl wc_165 (by decide +kernel) (by decide) (by decide) (by decide) (by decide) (by decide) d_Model_init_85 ?_
  refine y_putF (i := 0) (E1 := ((570, .inr (12, [.int 0, .ref (G.2.2.1 + 571), .ref (G.2.2.1 + 572), .ref (G.2.2.1 + 573), .ref (G.2.2.1 + 574), .ref (G.2.2.1 + 571), .int 0, .int 0, .int 0, .int 0, .int 0, .int 0, .int 0, .int 0, .int 0, .ref (G.2.2.2.1 9), .ref (G.2.2.2.1 0), .int 0, .ref (G.2.2.1 + 575), .ref (G.2.2.1 + 576), .ref (G.2.2.1 + 577), .ref (G.2.2.1 + 578), .null, .null, .null, .null, .int 0, .int 0, .int 0, .int 0, .int 0, .int 0, .int 0, .null, .null, .int 0, .int 0, .null, .null, .int 0, .int 0, .int 0, .null, .null, .null, .null, .int 0, .long 0, .null, .null, .null, .int 0, .null, .int 0, .int 0, .null, .null, .int 0, .null, .int 0])) :: E0)) C hinit yp_Model_46 rfl rfl (Nat.le_of_ble_eq_true rfl) rfl rfl (by omega) d_Model_init_87 ?_
  refine y_aload_n C d_Model_init_90 0 rfl ?_
  refine y_bipush (v := 30) C d_Model_init_91 (by decide) ?_
  refine y_newI (N := 30) (n1 := 579) (c1 := 9) (s1 := 1474) C rfl rfl rfl wc_165 (by decide +kernel) (by decide) (by decide) (by decide) (by decide) (by decide) d_Model_init_93 ?_
  refine y_putF (i := 0) (E1 := ((570, .inr (12, [.int 0, .ref (G.2.2.1 + 571), .ref (G.2.2.1 + 572), .ref (G.2.2.1 + 573), .ref (G.2.2.1 + 574), .ref (G.2.2.1 + 571), .int 0, .int 0, .int 0, .int 0, .int 0, .int 0, .int 0, .int 0, .int 0, .ref (G.2.2.2.1 9), .ref (G.2.2.2.1 0), .int 0, .ref (G.2.2.1 + 575), .ref (G.2.2.1 + 576), .ref (G.2.2.1 + 577), .ref (G.2.2.1 + 578), .ref (G.2.2.1 + 579), .null, .null, .null, .int 0, .int 0, .int 0, .int 0, .int 0, .int 0, .int 0, .null, .null, .int 0, .int 0, .null, .null, .int 0, .int 0, .int 0, .null, .null, .null, .null, .int 0, .long 0, .null, .null, .null, .int 0, .null, .int 0, .int 0, .null, .null, .int 0, .null, .int 0])) :: E0)) C hinit yp_Model_49 rfl rfl (Nat.le_of_ble_eq_true rfl) rfl rfl (by omega) d_Model_init_95 ?_
  refine y_aload_n C d_Model_init_98 0 rfl ?_
  refine y_bipush (v := 30) C d_Model_init_99 (by decide) ?_
  refine y_newI (N := 30) (n1 := 580) (c1 := 10) (s1 := 1504) C rfl rfl rfl wc_165 (by decide +kernel) (by decide) (by decide) (by decide) (by decide) (by decide) d_Model_init_101 ?_
  refine y_putF (i := 0) (E1 := ((570, .inr (12, [.int 0, .ref (G.2.2.1 + 571), .ref (G.2.2.1 + 572), .ref (G.2.2.1 + 573), .ref (G.2.2.1 + 574), .ref (G.2.2.1 + 571), .int 0, .int 0, .int 0, .int 0, .int 0, .int 0, .int 0, .int 0, .int 0, .ref (G.2.2.2.1 9), .ref (G.2.2.2.1 0), .int 0, .ref (G.2.2.1 + 575), .ref (G.2.2.1 + 576), .ref (G.2.2.1 + 577), .ref (G.2.2.1 + 578), .ref (G.2.2.1 + 579), .ref (G.2.2.1 + 580), .null, .null, .int 0, .int 0, .int 0, .int 0, .int 0, .int 0, .int 0, .null, .null, .int 0, .int 0, .null, .null, .int 0, .int 0, .int 0, .null, .null, .null, .null, .int 0, .long 0, .null, .null, .null, .int 0, .null, .int 0, .int 0, .null, .null, .int 0, .null, .int 0])) :: E0)) C hinit yp_Model_52 rfl rfl (Nat.le_of_ble_eq_true rfl) rfl rfl (by omega) d_Model_init_103 ?_
  refine y_aload_n C d_Model_init_106 0 rfl ?_
  refine y_iconst (v := 2) C d_Model_init_107 (by decide) ?_
  refine y_newI (N := 2) (n1 := 581) (c1 := 11) (s1 := 1506) C rfl rfl rfl wc_165 (by decide +kernel) (by decide) (by decide) (by decide) (by decide) (by decide) d_Model_init_108 ?_
  refine y_putF (i := 0) (E1 := ((570, .inr (12, [.int 0, .ref (G.2.2.1 + 571), .ref (G.2.2.1 + 572), .ref (G.2.2.1 + 573), .ref (G.2.2.1 + 574), .ref (G.2.2.1 + 571), .int 0, .int 0, .int 0, .int 0, .int 0, .int 0, .int 0, .int 0, .int 0, .ref (G.2.2.2.1 9), .ref (G.2.2.2.1 0), .int 0, .ref (G.2.2.1 + 575), .ref (G.2.2.1 + 576), .ref (G.2.2.1 + 577), .ref (G.2.2.1 + 578), .ref (G.2.2.1 + 579), .ref (G.2.2.1 + 580), .ref (G.2.2.1 + 581), .null, .int 0, .int 0, .int 0, .int 0, .int 0, .int 0, .int 0, .null, .null, .int 0, .int 0, .null, .null, .int 0, .int 0, .int 0, .null, .null, .null, .null, .int 0, .long 0, .null, .null, .null, .int 0, .null, .int 0, .int 0, .null, .null, .int 0, .null, .int 0])) :: E0)) C hinit yp_Model_55 rfl rfl (Nat.le_of_ble_eq_true rfl) rfl rfl (by omega) d_Model_init_110 ?_
  refine y_aload_n C d_Model_init_113 0 rfl ?_
  refine y_iconst (v := 2) C d_Model_init_114 (by decide) ?_
  refine y_newI (N := 2) (n1 := 582) (c1 := 12) (s1 := 1508) C rfl rfl rfl wc_165 (by decide +kernel) (by decide) (by decide) (by decide) (by decide) (by decide) d_Model_init_115 ?_
  refine y_putF (i := 0) (E1 := ((570, .inr (12, [.int 0, .ref (G.2.2.1 + 571), .ref (G.2.2.1 + 572), .ref (G.2.2.1 + 573), .ref (G.2.2.1 + 574), .ref (G.2.2.1 + 571), .int 0, .int 0, .int 0, .int 0, .int 0, .int 0, .int 0, .int 0, .int 0, .ref (G.2.2.2.1 9), .ref (G.2.2.2.1 0), .int 0, .ref (G.2.2.1 + 575), .ref (G.2.2.1 + 576), .ref (G.2.2.1 + 577), .ref (G.2.2.1 + 578), .ref (G.2.2.1 + 579), .ref (G.2.2.1 + 580), .ref (G.2.2.1 + 581), .ref (G.2.2.1 + 582), .int 0, .int 0, .int 0, .int 0, .int 0, .int 0, .int 0, .null, .null, .int 0, .int 0, .null, .null, .int 0, .int 0, .int 0, .null, .null, .null, .null, .int 0, .long 0, .null, .null, .null, .int 0, .null, .int 0, .int 0, .null, .null, .int 0, .null, .int 0])) :: E0)) C hinit yp_Model_58 rfl rfl (Nat.le_of_ble_eq_true rfl) rfl rfl (by omega) d_Model_init_117 ?_
  refine y_aload_n C d_Model_init_120 0 rfl ?_
  refine y_sipush (v := 290) C d_Model_init_121 (by decide) ?_
  refine y_newI (N := 290) (n1 := 583) (c1 := 13) (s1 := 1798) C rfl rfl rfl wc_165 (by decide +kernel) (by decide) (by decide) (by decide) (by decide) (by decide) d_Model_init_124 ?_
  refine y_putF (i := 0) (E1 := ((570, .inr (12, [.int 0, .ref (G.2.2.1 + 571), .ref (G.2.2.1 + 572), .ref (G.2.2.1 + 573), .ref (G.2.2.1 + 574), .ref (G.2.2.1 + 571), .int 0, .int 0, .int 0, .int 0, .int 0, .int 0, .int 0, .int 0, .int 0, .ref (G.2.2.2.1 9), .ref (G.2.2.2.1 0), .int 0, .ref (G.2.2.1 + 575), .ref (G.2.2.1 + 576), .ref (G.2.2.1 + 577), .ref (G.2.2.1 + 578), .ref (G.2.2.1 + 579), .ref (G.2.2.1 + 580), .ref (G.2.2.1 + 581), .ref (G.2.2.1 + 582), .int 0, .int 0, .int 0, .int 0, .int 0, .int 0, .int 0, .ref (G.2.2.1 + 583), .null, .int 0, .int 0, .null, .null, .int 0, .int 0, .int 0, .null, .null, .null, .null, .int 0, .long 0, .null, .null, .null, .int 0, .null, .int 0, .int 0, .null, .null, .int 0, .null, .int 0])) :: E0)) C hinit yp_Model_61 rfl rfl (Nat.le_of_ble_eq_true rfl) rfl rfl (by omega) d_Model_init_126 ?_
  refine y_aload_n C d_Model_init_129 0 rfl ?_
  refine y_sipush (v := 290) C d_Model_init_130 (by decide) ?_
  refine y_newI (N := 290) (n1 := 584) (c1 := 14) (s1 := 2088) C rfl rfl rfl wc_165 (by decide +kernel) (by decide) (by decide) (by decide) (by decide) (by decide) d_Model_init_133 ?_
  refine y_putF (i := 0) (E1 := ((570, .inr (12, [.int 0, .ref (G.2.2.1 + 571), .ref (G.2.2.1 + 572), .ref (G.2.2.1 + 573), .ref (G.2.2.1 + 574), .ref (G.2.2.1 + 571), .int 0, .int 0, .int 0, .int 0, .int 0, .int 0, .int 0, .int 0, .int 0, .ref (G.2.2.2.1 9), .ref (G.2.2.2.1 0), .int 0, .ref (G.2.2.1 + 575), .ref (G.2.2.1 + 576), .ref (G.2.2.1 + 577), .ref (G.2.2.1 + 578), .ref (G.2.2.1 + 579), .ref (G.2.2.1 + 580), .ref (G.2.2.1 + 581), .ref (G.2.2.1 + 582), .int 0, .int 0, .int 0, .int 0, .int 0, .int 0, .int 0, .ref (G.2.2.1 + 583), .ref (G.2.2.1 + 584), .int 0, .int 0, .null, .null, .int 0, .int 0, .int 0, .null, .null, .null, .null, .int 0, .long 0, .null, .null, .null, .int 0, .null, .int 0, .int 0, .null, .null, .int 0, .null, .int 0])) :: E0)) C hinit yp_Model_64 rfl rfl (Nat.le_of_ble_eq_true rfl) rfl rfl (by omega) d_Model_init_135 ?_
  refine y_aload_n C d_Model_init_138 0 rfl ?_
  refine y_iconst (v := (-1)) C d_Model_init_139 (by decide) ?_
  refine y_put (i := 0) (E1 := ((570, .inr (12, [.int 0, .ref (G.2.2.1 + 571), .ref (G.2.2.1 + 572), .ref (G.2.2.1 + 573), .ref (G.2.2.1 + 574), .ref (G.2.2.1 + 571), .int 0, .int 0, .int 0, .int 0, .int 0, .int 0, .int 0, .int 0, .int 0, .ref (G.2.2.2.1 9), .ref (G.2.2.2.1 0), .int 0, .ref (G.2.2.1 + 575), .ref (G.2.2.1 + 576), .ref (G.2.2.1 + 577), .ref (G.2.2.1 + 578), .ref (G.2.2.1 + 579), .ref (G.2.2.1 + 580), .ref (G.2.2.1 + 581), .ref (G.2.2.1 + 582), .int 0, .int 0, .int 0, .int 0, .int 0, .int 0, .int 0, .ref (G.2.2.1 + 583), .ref (G.2.2.1 + 584), .int (-1), .int 0, .null, .null, .int 0, .int 0, .int 0, .null, .null, .null, .null, .int 0, .long 0, .null, .null, .null, .int 0, .null, .int 0, .int 0, .null, .null, .int 0, .null, .int 0])) :: E0)) C yp_Model_67 rfl rfl (Nat.le_of_ble_eq_true rfl) rfl rfl (by omega) d_Model_init_140 ?_
  refine y_aload_n C d_Model_init_143 0 rfl ?_
  refine y_sipush (v := 4093) C d_Model_init_144 (by decide) ?_
  refine y_newL (N := 4093) (n1 := 585) (c1 := 15) (s1 := 6181) C rfl rfl rfl wc_1670 (by decide +kernel) (by decide) (by decide) (by decide) (by decide) (by decide) d_Model_init_147 ?_
  refine y_putF (i := 0) (E1 := ((570, .inr (12, [.int 0, .ref (G.2.2.1 + 571), .ref (G.2.2.1 + 572), .ref (G.2.2.1 + 573), .ref (G.2.2.1 + 574), .ref (G.2.2.1 + 571), .int 0, .int 0, .int 0, .int 0, .int 0, .int 0, .int 0, .int 0, .int 0, .ref (G.2.2.2.1 9), .ref (G.2.2.2.1 0), .int 0, .ref (G.2.2.1 + 575), .ref (G.2.2.1 + 576), .ref (G.2.2.1 + 577), .ref (G.2.2.1 + 578), .ref (G.2.2.1 + 579), .ref (G.2.2.1 + 580), .ref (G.2.2.1 + 581), .ref (G.2.2.1 + 582), .int 0, .int 0, .int 0, .int 0, .int 0, .int 0, .int 0, .ref (G.2.2.1 + 583), .ref (G.2.2.1 + 584), .int (-1), .int 0, .ref (G.2.2.1 + 585), .null, .int 0, .int 0, .int 0, .null, .null, .null, .null, .int 0, .long 0, .null, .null, .null, .int 0, .null, .int 0, .int 0, .null, .null, .int 0, .null, .int 0])) :: E0)) C hinit yp_Model_71 rfl rfl (Nat.le_of_ble_eq_true rfl) rfl rfl (by omega) d_Model_init_149 ?_
  refine y_aload_n C d_Model_init_152 0 rfl ?_
  refine y_sipush (v := 4093) C d_Model_init_153 (by decide) ?_
  refine y_newI (N := 4093) (n1 := 586) (c1 := 16) (s1 := 10274) C rfl rfl rfl wc_165 (by decide +kernel) (by decide) (by decide) (by decide) (by decide) (by decide) d_Model_init_156 ?_
  refine y_putF (i := 0) (E1 := ((570, .inr (12, [.int 0, .ref (G.2.2.1 + 571), .ref (G.2.2.1 + 572), .ref (G.2.2.1 + 573), .ref (G.2.2.1 + 574), .ref (G.2.2.1 + 571), .int 0, .int 0, .int 0, .int 0, .int 0, .int 0, .int 0, .int 0, .int 0, .ref (G.2.2.2.1 9), .ref (G.2.2.2.1 0), .int 0, .ref (G.2.2.1 + 575), .ref (G.2.2.1 + 576), .ref (G.2.2.1 + 577), .ref (G.2.2.1 + 578), .ref (G.2.2.1 + 579), .ref (G.2.2.1 + 580), .ref (G.2.2.1 + 581), .ref (G.2.2.1 + 582), .int 0, .int 0, .int 0, .int 0, .int 0, .int 0, .int 0, .ref (G.2.2.1 + 583), .ref (G.2.2.1 + 584), .int (-1), .int 0, .ref (G.2.2.1 + 585), .ref (G.2.2.1 + 586), .int 0, .int 0, .int 0, .null, .null, .null, .null, .int 0, .long 0, .null, .null, .null, .int 0, .null, .int 0, .int 0, .null, .null, .int 0, .null, .int 0])) :: E0)) C hinit yp_Model_75 rfl rfl (Nat.le_of_ble_eq_true rfl) rfl rfl (by omega) d_Model_init_158 ?_
  refine y_aload_n C d_Model_init_161 0 rfl ?_
  refine y_iconst (v := (-1)) C d_Model_init_162 (by decide) ?_
  refine y_put (i := 0) (E1 := ((570, .inr (12, [.int 0, .ref (G.2.2.1 + 571), .ref (G.2.2.1 + 572), .ref (G.2.2.1 + 573), .ref (G.2.2.1 + 574), .ref (G.2.2.1 + 571), .int 0, .int 0, .int 0, .int 0, .int 0, .int 0, .int 0, .int 0, .int 0, .ref (G.2.2.2.1 9), .ref (G.2.2.2.1 0), .int 0, .ref (G.2.2.1 + 575), .ref (G.2.2.1 + 576), .ref (G.2.2.1 + 577), .ref (G.2.2.1 + 578), .ref (G.2.2.1 + 579), .ref (G.2.2.1 + 580), .ref (G.2.2.1 + 581), .ref (G.2.2.1 + 582), .int 0, .int 0, .int 0, .int 0, .int 0, .int 0, .int 0, .ref (G.2.2.1 + 583), .ref (G.2.2.1 + 584), .int (-1), .int 0, .ref (G.2.2.1 + 585), .ref (G.2.2.1 + 586), .int (-1), .int 0, .int 0, .null, .null, .null, .null, .int 0, .long 0, .null, .null, .null, .int 0, .null, .int 0, .int 0, .null, .null, .int 0, .null, .int 0])) :: E0)) C yp_Model_78 rfl rfl (Nat.le_of_ble_eq_true rfl) rfl rfl (by omega) d_Model_init_163 ?_
  refine y_aload_n C d_Model_init_166 0 rfl ?_
  refine y_bipush (v := 8) C d_Model_init_167 (by decide) ?_
  refine y_newI (N := 8) (n1 := 587) (c1 := 17) (s1 := 10282) C rfl rfl rfl wc_165 (by decide +kernel) (by decide) (by decide) (by decide) (by decide) (by decide) d_Model_init_169 ?_
  refine y_putF (i := 0) (E1 := ((570, .inr (12, [.int 0, .ref (G.2.2.1 + 571), .ref (G.2.2.1 + 572), .ref (G.2.2.1 + 573), .ref (G.2.2.1 + 574), .ref (G.2.2.1 + 571), .int 0, .int 0, .int 0, .int 0, .int 0, .int 0, .int 0, .int 0, .int 0, .ref (G.2.2.2.1 9), .ref (G.2.2.2.1 0), .int 0, .ref (G.2.2.1 + 575), .ref (G.2.2.1 + 576), .ref (G.2.2.1 + 577), .ref (G.2.2.1 + 578), .ref (G.2.2.1 + 579), .ref (G.2.2.1 + 580), .ref (G.2.2.1 + 581), .ref (G.2.2.1 + 582), .int 0, .int 0, .int 0, .int 0, .int 0, .int 0, .int 0, .ref (G.2.2.1 + 583), .ref (G.2.2.1 + 584), .int (-1), .int 0, .ref (G.2.2.1 + 585), .ref (G.2.2.1 + 586), .int (-1), .int 0, .int 0, .ref (G.2.2.1 + 587), .null, .null, .null, .int 0, .long 0, .null, .null, .null, .int 0, .null, .int 0, .int 0, .null, .null, .int 0, .null, .int 0])) :: E0)) C hinit yp_Model_81 rfl rfl (Nat.le_of_ble_eq_true rfl) rfl rfl (by omega) d_Model_init_171 ?_
  refine y_aload_n C d_Model_init_174 0 rfl ?_
  refine y_bipush (v := 8) C d_Model_init_175 (by decide) ?_
  refine y_newI (N := 8) (n1 := 588) (c1 := 18) (s1 := 10290) C rfl rfl rfl wc_165 (by decide +kernel) (by decide) (by decide) (by decide) (by decide) (by decide) d_Model_init_177 ?_
  refine y_putF (i := 0) (E1 := ((570, .inr (12, [.int 0, .ref (G.2.2.1 + 571), .ref (G.2.2.1 + 572), .ref (G.2.2.1 + 573), .ref (G.2.2.1 + 574), .ref (G.2.2.1 + 571), .int 0, .int 0, .int 0, .int 0, .int 0, .int 0, .int 0, .int 0, .int 0, .ref (G.2.2.2.1 9), .ref (G.2.2.2.1 0), .int 0, .ref (G.2.2.1 + 575), .ref (G.2.2.1 + 576), .ref (G.2.2.1 + 577), .ref (G.2.2.1 + 578), .ref (G.2.2.1 + 579), .ref (G.2.2.1 + 580), .ref (G.2.2.1 + 581), .ref (G.2.2.1 + 582), .int 0, .int 0, .int 0, .int 0, .int 0, .int 0, .int 0, .ref (G.2.2.1 + 583), .ref (G.2.2.1 + 584), .int (-1), .int 0, .ref (G.2.2.1 + 585), .ref (G.2.2.1 + 586), .int (-1), .int 0, .int 0, .ref (G.2.2.1 + 587), .ref (G.2.2.1 + 588), .null, .null, .int 0, .long 0, .null, .null, .null, .int 0, .null, .int 0, .int 0, .null, .null, .int 0, .null, .int 0])) :: E0)) C hinit yp_Model_84 rfl rfl (Nat.le_of_ble_eq_true rfl) rfl rfl (by omega) d_Model_init_179 ?_
  refine y_aload_n C d_Model_init_182 0 rfl ?_
  refine y_bipush (v := 8) C d_Model_init_183 (by decide) ?_
  refine y_newI (N := 8) (n1 := 589) (c1 := 19) (s1 := 10298) C rfl rfl rfl wc_165 (by decide +kernel) (by decide) (by decide) (by decide) (by decide) (by decide) d_Model_init_185 ?_
  refine y_putF (i := 0) (E1 := ((570, .inr (12, [.int 0, .ref (G.2.2.1 + 571), .ref (G.2.2.1 + 572), .ref (G.2.2.1 + 573), .ref (G.2.2.1 + 574), .ref (G.2.2.1 + 571), .int 0, .int 0, .int 0, .int 0, .int 0, .int 0, .int 0, .int 0, .int 0, .ref (G.2.2.2.1 9), .ref (G.2.2.2.1 0), .int 0, .ref (G.2.2.1 + 575), .ref (G.2.2.1 + 576), .ref (G.2.2.1 + 577), .ref (G.2.2.1 + 578), .ref (G.2.2.1 + 579), .ref (G.2.2.1 + 580), .ref (G.2.2.1 + 581), .ref (G.2.2.1 + 582), .int 0, .int 0, .int 0, .int 0, .int 0, .int 0, .int 0, .ref (G.2.2.1 + 583), .ref (G.2.2.1 + 584), .int (-1), .int 0, .ref (G.2.2.1 + 585), .ref (G.2.2.1 + 586), .int (-1), .int 0, .int 0, .ref (G.2.2.1 + 587), .ref (G.2.2.1 + 588), .ref (G.2.2.1 + 589), .null, .int 0, .long 0, .null, .null, .null, .int 0, .null, .int 0, .int 0, .null, .null, .int 0, .null, .int 0])) :: E0)) C hinit yp_Model_87 rfl rfl (Nat.le_of_ble_eq_true rfl) rfl rfl (by omega) d_Model_init_187 ?_
  refine y_aload_n C d_Model_init_190 0 rfl ?_
  refine y_sipush (v := 11600) C d_Model_init_191 (by decide) ?_
  refine y_newI (N := 11600) (n1 := 590) (c1 := 20) (s1 := 21898) C rfl rfl rfl wc_165 (by decide +kernel) (by decide) (by decide) (by decide) (by decide) (by decide) d_Model_init_194 ?_
  refine y_putF (i := 0) (E1 := ((570, .inr (12, [.int 0, .ref (G.2.2.1 + 571), .ref (G.2.2.1 + 572), .ref (G.2.2.1 + 573), .ref (G.2.2.1 + 574), .ref (G.2.2.1 + 571), .int 0, .int 0, .int 0, .int 0, .int 0, .int 0, .int 0, .int 0, .int 0, .ref (G.2.2.2.1 9), .ref (G.2.2.2.1 0), .int 0, .ref (G.2.2.1 + 575), .ref (G.2.2.1 + 576), .ref (G.2.2.1 + 577), .ref (G.2.2.1 + 578), .ref (G.2.2.1 + 579), .ref (G.2.2.1 + 580), .ref (G.2.2.1 + 581), .ref (G.2.2.1 + 582), .int 0, .int 0, .int 0, .int 0, .int 0, .int 0, .int 0, .ref (G.2.2.1 + 583), .ref (G.2.2.1 + 584), .int (-1), .int 0, .ref (G.2.2.1 + 585), .ref (G.2.2.1 + 586), .int (-1), .int 0, .int 0, .ref (G.2.2.1 + 587), .ref (G.2.2.1 + 588), .ref (G.2.2.1 + 589), .ref (G.2.2.1 + 590), .int 0, .long 0, .null, .null, .null, .int 0, .null, .int 0, .int 0, .null, .null, .int 0, .null, .int 0])) :: E0)) C hinit yp_Model_90 rfl rfl (Nat.le_of_ble_eq_true rfl) rfl rfl (by omega) d_Model_init_196 ?_
  refine y_aload_n C d_Model_init_199 0 rfl ?_
  refine y_bipush (v := 8) C d_Model_init_200 (by decide) ?_
  refine y_newI (N := 8) (n1 := 591) (c1 := 21) (s1 := 21906) C rfl rfl rfl wc_165 (by decide +kernel) (by decide) (by decide) (by decide) (by decide) (by decide) d_Model_init_202 ?_
  refine y_putF (i := 0) (E1 := ((570, .inr (12, [.int 0, .ref (G.2.2.1 + 571), .ref (G.2.2.1 + 572), .ref (G.2.2.1 + 573), .ref (G.2.2.1 + 574), .ref (G.2.2.1 + 571), .int 0, .int 0, .int 0, .int 0, .int 0, .int 0, .int 0, .int 0, .int 0, .ref (G.2.2.2.1 9), .ref (G.2.2.2.1 0), .int 0, .ref (G.2.2.1 + 575), .ref (G.2.2.1 + 576), .ref (G.2.2.1 + 577), .ref (G.2.2.1 + 578), .ref (G.2.2.1 + 579), .ref (G.2.2.1 + 580), .ref (G.2.2.1 + 581), .ref (G.2.2.1 + 582), .int 0, .int 0, .int 0, .int 0, .int 0, .int 0, .int 0, .ref (G.2.2.1 + 583), .ref (G.2.2.1 + 584), .int (-1), .int 0, .ref (G.2.2.1 + 585), .ref (G.2.2.1 + 586), .int (-1), .int 0, .int 0, .ref (G.2.2.1 + 587), .ref (G.2.2.1 + 588), .ref (G.2.2.1 + 589), .ref (G.2.2.1 + 590), .int 0, .long 0, .ref (G.2.2.1 + 591), .null, .null, .int 0, .null, .int 0, .int 0, .null, .null, .int 0, .null, .int 0])) :: E0)) C hinit yp_Model_93 rfl rfl (Nat.le_of_ble_eq_true rfl) rfl rfl (by omega) d_Model_init_204 ?_
  refine y_aload_n C d_Model_init_207 0 rfl ?_
  refine y_bipush (v := 8) C d_Model_init_208 (by decide) ?_
  refine y_newI (N := 8) (n1 := 592) (c1 := 22) (s1 := 21914) C rfl rfl rfl wc_165 (by decide +kernel) (by decide) (by decide) (by decide) (by decide) (by decide) d_Model_init_210 ?_
  refine y_putF (i := 0) (E1 := ((570, .inr (12, [.int 0, .ref (G.2.2.1 + 571), .ref (G.2.2.1 + 572), .ref (G.2.2.1 + 573), .ref (G.2.2.1 + 574), .ref (G.2.2.1 + 571), .int 0, .int 0, .int 0, .int 0, .int 0, .int 0, .int 0, .int 0, .int 0, .ref (G.2.2.2.1 9), .ref (G.2.2.2.1 0), .int 0, .ref (G.2.2.1 + 575), .ref (G.2.2.1 + 576), .ref (G.2.2.1 + 577), .ref (G.2.2.1 + 578), .ref (G.2.2.1 + 579), .ref (G.2.2.1 + 580), .ref (G.2.2.1 + 581), .ref (G.2.2.1 + 582), .int 0, .int 0, .int 0, .int 0, .int 0, .int 0, .int 0, .ref (G.2.2.1 + 583), .ref (G.2.2.1 + 584), .int (-1), .int 0, .ref (G.2.2.1 + 585), .ref (G.2.2.1 + 586), .int (-1), .int 0, .int 0, .ref (G.2.2.1 + 587), .ref (G.2.2.1 + 588), .ref (G.2.2.1 + 589), .ref (G.2.2.1 + 590), .int 0, .long 0, .ref (G.2.2.1 + 591), .ref (G.2.2.1 + 592), .null, .int 0, .null, .int 0, .int 0, .null, .null, .int 0, .null, .int 0])) :: E0)) C hinit yp_Model_96 rfl rfl (Nat.le_of_ble_eq_true rfl) rfl rfl (by omega) d_Model_init_212 ?_
  refine y_aload_n C d_Model_init_215 0 rfl ?_
  refine y_sipush (v := 2500) C d_Model_init_216 (by decide) ?_
  refine y_newI (N := 2500) (n1 := 593) (c1 := 23) (s1 := 24414) C rfl rfl rfl wc_165 (by decide +kernel) (by decide) (by decide) (by decide) (by decide) (by decide) d_Model_init_219 ?_
  refine y_putF (i := 0) (E1 := ((570, .inr (12, [.int 0, .ref (G.2.2.1 + 571), .ref (G.2.2.1 + 572), .ref (G.2.2.1 + 573), .ref (G.2.2.1 + 574), .ref (G.2.2.1 + 571), .int 0, .int 0, .int 0, .int 0, .int 0, .int 0, .int 0, .int 0, .int 0, .ref (G.2.2.2.1 9), .ref (G.2.2.2.1 0), .int 0, .ref (G.2.2.1 + 575), .ref (G.2.2.1 + 576), .ref (G.2.2.1 + 577), .ref (G.2.2.1 + 578), .ref (G.2.2.1 + 579), .ref (G.2.2.1 + 580), .ref (G.2.2.1 + 581), .ref (G.2.2.1 + 582), .int 0, .int 0, .int 0, .int 0, .int 0, .int 0, .int 0, .ref (G.2.2.1 + 583), .ref (G.2.2.1 + 584), .int (-1), .int 0, .ref (G.2.2.1 + 585), .ref (G.2.2.1 + 586), .int (-1), .int 0, .int 0, .ref (G.2.2.1 + 587), .ref (G.2.2.1 + 588), .ref (G.2.2.1 + 589), .ref (G.2.2.1 + 590), .int 0, .long 0, .ref (G.2.2.1 + 591), .ref (G.2.2.1 + 592), .ref (G.2.2.1 + 593), .int 0, .null, .int 0, .int 0, .null, .null, .int 0, .null, .int 0])) :: E0)) C hinit yp_Model_99 rfl rfl (Nat.le_of_ble_eq_true rfl) rfl rfl (by omega) d_Model_init_221 ?_
  refine y_aload_n C d_Model_init_224 0 rfl ?_
  refine y_bipush (v := 8) C d_Model_init_225 (by decide) ?_
  refine y_newI (N := 8) (n1 := 594) (c1 := 24) (s1 := 24422) C rfl rfl rfl wc_165 (by decide +kernel) (by decide) (by decide) (by decide) (by decide) (by decide) d_Model_init_227 ?_
  refine y_putF (i := 0) (E1 := ((570, .inr (12, [.int 0, .ref (G.2.2.1 + 571), .ref (G.2.2.1 + 572), .ref (G.2.2.1 + 573), .ref (G.2.2.1 + 574), .ref (G.2.2.1 + 571), .int 0, .int 0, .int 0, .int 0, .int 0, .int 0, .int 0, .int 0, .int 0, .ref (G.2.2.2.1 9), .ref (G.2.2.2.1 0), .int 0, .ref (G.2.2.1 + 575), .ref (G.2.2.1 + 576), .ref (G.2.2.1 + 577), .ref (G.2.2.1 + 578), .ref (G.2.2.1 + 579), .ref (G.2.2.1 + 580), .ref (G.2.2.1 + 581), .ref (G.2.2.1 + 582), .int 0, .int 0, .int 0, .int 0, .int 0, .int 0, .int 0, .ref (G.2.2.1 + 583), .ref (G.2.2.1 + 584), .int (-1), .int 0, .ref (G.2.2.1 + 585), .ref (G.2.2.1 + 586), .int (-1), .int 0, .int 0, .ref (G.2.2.1 + 587), .ref (G.2.2.1 + 588), .ref (G.2.2.1 + 589), .ref (G.2.2.1 + 590), .int 0, .long 0, .ref (G.2.2.1 + 591), .ref (G.2.2.1 + 592), .ref (G.2.2.1 + 593), .int 0, .ref (G.2.2.1 + 594), .int 0, .int 0, .null, .null, .int 0, .null, .int 0])) :: E0)) C hinit yp_Model_102 rfl rfl (Nat.le_of_ble_eq_true rfl) rfl rfl (by omega) d_Model_init_229 ?_
  refine y_aload_n C d_Model_init_232 0 rfl ?_
  refine y_bipush (v := 8) C d_Model_init_233 (by decide) ?_
  refine y_newI (N := 8) (n1 := 595) (c1 := 25) (s1 := 24430) C rfl rfl rfl wc_165 (by decide +kernel) (by decide) (by decide) (by decide) (by decide) (by decide) d_Model_init_235 ?_
  refine y_putF (i := 0) (E1 := ((570, .inr (12, [.int 0, .ref (G.2.2.1 + 571), .ref (G.2.2.1 + 572), .ref (G.2.2.1 + 573), .ref (G.2.2.1 + 574), .ref (G.2.2.1 + 571), .int 0, .int 0, .int 0, .int 0, .int 0, .int 0, .int 0, .int 0, .int 0, .ref (G.2.2.2.1 9), .ref (G.2.2.2.1 0), .int 0, .ref (G.2.2.1 + 575), .ref (G.2.2.1 + 576), .ref (G.2.2.1 + 577), .ref (G.2.2.1 + 578), .ref (G.2.2.1 + 579), .ref (G.2.2.1 + 580), .ref (G.2.2.1 + 581), .ref (G.2.2.1 + 582), .int 0, .int 0, .int 0, .int 0, .int 0, .int 0, .int 0, .ref (G.2.2.1 + 583), .ref (G.2.2.1 + 584), .int (-1), .int 0, .ref (G.2.2.1 + 585), .ref (G.2.2.1 + 586), .int (-1), .int 0, .int 0, .ref (G.2.2.1 + 587), .ref (G.2.2.1 + 588), .ref (G.2.2.1 + 589), .ref (G.2.2.1 + 590), .int 0, .long 0, .ref (G.2.2.1 + 591), .ref (G.2.2.1 + 592), .ref (G.2.2.1 + 593), .int 0, .ref (G.2.2.1 + 594), .int 0, .int 0, .ref (G.2.2.1 + 595), .null, .int 0, .null, .int 0])) :: E0)) C hinit yp_Model_105 rfl rfl (Nat.le_of_ble_eq_true rfl) rfl rfl (by omega) d_Model_init_237 ?_
  refine y_aload_n C d_Model_init_240 0 rfl ?_
  refine y_bipush (v := 8) C d_Model_init_241 (by decide) ?_
  refine y_newI (N := 8) (n1 := 596) (c1 := 26) (s1 := 24438) C rfl rfl rfl wc_165 (by decide +kernel) (by decide) (by decide) (by decide) (by decide) (by decide) d_Model_init_243 ?_
  refine y_putF (i := 0) (E1 := ((570, .inr (12, [.int 0, .ref (G.2.2.1 + 571), .ref (G.2.2.1 + 572), .ref (G.2.2.1 + 573), .ref (G.2.2.1 + 574), .ref (G.2.2.1 + 571), .int 0, .int 0, .int 0, .int 0, .int 0, .int 0, .int 0, .int 0, .int 0, .ref (G.2.2.2.1 9), .ref (G.2.2.2.1 0), .int 0, .ref (G.2.2.1 + 575), .ref (G.2.2.1 + 576), .ref (G.2.2.1 + 577), .ref (G.2.2.1 + 578), .ref (G.2.2.1 + 579), .ref (G.2.2.1 + 580), .ref (G.2.2.1 + 581), .ref (G.2.2.1 + 582), .int 0, .int 0, .int 0, .int 0, .int 0, .int 0, .int 0, .ref (G.2.2.1 + 583), .ref (G.2.2.1 + 584), .int (-1), .int 0, .ref (G.2.2.1 + 585), .ref (G.2.2.1 + 586), .int (-1), .int 0, .int 0, .ref (G.2.2.1 + 587), .ref (G.2.2.1 + 588), .ref (G.2.2.1 + 589), .ref (G.2.2.1 + 590), .int 0, .long 0, .ref (G.2.2.1 + 591), .ref (G.2.2.1 + 592), .ref (G.2.2.1 + 593), .int 0, .ref (G.2.2.1 + 594), .int 0, .int 0, .ref (G.2.2.1 + 595), .ref (G.2.2.1 + 596), .int 0, .null, .int 0])) :: E0)) C hinit yp_Model_108 rfl rfl (Nat.le_of_ble_eq_true rfl) rfl rfl (by omega) d_Model_init_245 ?_
  refine y_aload_n C d_Model_init_248 0 rfl ?_
  refine y_sipush (v := 290) C d_Model_init_249 (by decide) ?_
  refine y_newI (N := 290) (n1 := 597) (c1 := 27) (s1 := 24728) C rfl rfl rfl wc_165 (by decide +kernel) (by decide) (by decide) (by decide) (by decide) (by decide) d_Model_init_252 ?_
  refine y_putF (i := 0) (E1 := ((570, .inr (12, [.int 0, .ref (G.2.2.1 + 571), .ref (G.2.2.1 + 572), .ref (G.2.2.1 + 573), .ref (G.2.2.1 + 574), .ref (G.2.2.1 + 571), .int 0, .int 0, .int 0, .int 0, .int 0, .int 0, .int 0, .int 0, .int 0, .ref (G.2.2.2.1 9), .ref (G.2.2.2.1 0), .int 0, .ref (G.2.2.1 + 575), .ref (G.2.2.1 + 576), .ref (G.2.2.1 + 577), .ref (G.2.2.1 + 578), .ref (G.2.2.1 + 579), .ref (G.2.2.1 + 580), .ref (G.2.2.1 + 581), .ref (G.2.2.1 + 582), .int 0, .int 0, .int 0, .int 0, .int 0, .int 0, .int 0, .ref (G.2.2.1 + 583), .ref (G.2.2.1 + 584), .int (-1), .int 0, .ref (G.2.2.1 + 585), .ref (G.2.2.1 + 586), .int (-1), .int 0, .int 0, .ref (G.2.2.1 + 587), .ref (G.2.2.1 + 588), .ref (G.2.2.1 + 589), .ref (G.2.2.1 + 590), .int 0, .long 0, .ref (G.2.2.1 + 591), .ref (G.2.2.1 + 592), .ref (G.2.2.1 + 593), .int 0, .ref (G.2.2.1 + 594), .int 0, .int 0, .ref (G.2.2.1 + 595), .ref (G.2.2.1 + 596), .int 0, .ref (G.2.2.1 + 597), .int 0])) :: E0)) C hinit yp_Model_111 rfl rfl (Nat.le_of_ble_eq_true rfl) rfl rfl (by omega) d_Model_init_254 ?_
  refine y_done C (yE_obj (y := 0) (by decide +kernel) rfl) (fun _ h => h) ?_
  exact y_vret C hN hr hk d_Model_init_257
