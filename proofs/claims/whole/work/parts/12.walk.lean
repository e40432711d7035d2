-- LostPlaces$Taste.worth([I)I
theorem d_Taste_worth_0 : decode prog_11_method_6_code 0 = .ok (.iconst 0, 1) := by decide +kernel
theorem d_Taste_worth_1 : decode prog_11_method_6_code 1 = .ok (.istore_n 2, 1) := by decide +kernel
theorem d_Taste_worth_2 : decode prog_11_method_6_code 2 = .ok (.iconst 0, 1) := by decide +kernel
theorem d_Taste_worth_3 : decode prog_11_method_6_code 3 = .ok (.istore_n 3, 1) := by decide +kernel
theorem d_Taste_worth_4 : decode prog_11_method_6_code 4 = .ok (.iconst 0, 1) := by decide +kernel
theorem d_Taste_worth_5 : decode prog_11_method_6_code 5 = .ok (.istore 4, 2) := by decide +kernel
theorem d_Taste_worth_7 : decode prog_11_method_6_code 7 = .ok (.iload 4, 2) := by decide +kernel
theorem d_Taste_worth_9 : decode prog_11_method_6_code 9 = .ok (.sipush 480, 3) := by decide +kernel
theorem d_Taste_worth_12 : decode prog_11_method_6_code 12 = .ok (.if_icmp .ge 245, 3) := by decide +kernel
theorem d_Taste_worth_15 : decode prog_11_method_6_code 15 = .ok (.iload_n 3, 1) := by decide +kernel
theorem d_Taste_worth_16 : decode prog_11_method_6_code 16 = .ok (.ifCond .lt 241, 3) := by decide +kernel
theorem d_Taste_worth_19 : decode prog_11_method_6_code 19 = .ok (.iload_n 3, 1) := by decide +kernel
theorem d_Taste_worth_20 : decode prog_11_method_6_code 20 = .ok (.aload_n 0, 1) := by decide +kernel
theorem d_Taste_worth_21 : decode prog_11_method_6_code 21 = .ok (.getfield 15, 3) := by decide +kernel
theorem d_Taste_worth_24 : decode prog_11_method_6_code 24 = .ok (.if_icmp .ge 233, 3) := by decide +kernel
theorem d_Taste_worth_27 : decode prog_11_method_6_code 27 = .ok (.iload_n 3, 1) := by decide +kernel
theorem d_Taste_worth_28 : decode prog_11_method_6_code 28 = .ok (.sipush 480, 3) := by decide +kernel
theorem d_Taste_worth_31 : decode prog_11_method_6_code 31 = .ok (.if_icmp .ge 226, 3) := by decide +kernel
theorem d_Taste_worth_34 : decode prog_11_method_6_code 34 = .ok (.aload_n 0, 1) := by decide +kernel
theorem d_Taste_worth_35 : decode prog_11_method_6_code 35 = .ok (.getfield 11, 3) := by decide +kernel
theorem d_Taste_worth_38 : decode prog_11_method_6_code 38 = .ok (.iload_n 3, 1) := by decide +kernel
theorem d_Taste_worth_39 : decode prog_11_method_6_code 39 = .ok (.iaload, 1) := by decide +kernel
theorem d_Taste_worth_40 : decode prog_11_method_6_code 40 = .ok (.istore 5, 2) := by decide +kernel
theorem d_Taste_worth_42 : decode prog_11_method_6_code 42 = .ok (.iinc 3 1, 3) := by decide +kernel
theorem d_Taste_worth_45 : decode prog_11_method_6_code 45 = .ok (.iload 5, 2) := by decide +kernel
theorem d_Taste_worth_47 : decode prog_11_method_6_code 47 = .ok (.bipush (-11), 2) := by decide +kernel
theorem d_Taste_worth_49 : decode prog_11_method_6_code 49 = .ok (.if_icmp .le 33, 3) := by decide +kernel
theorem d_Taste_worth_52 : decode prog_11_method_6_code 52 = .ok (.iload_n 2, 1) := by decide +kernel
theorem d_Taste_worth_53 : decode prog_11_method_6_code 53 = .ok (.ifCond .lt 9, 3) := by decide +kernel
theorem d_Taste_worth_56 : decode prog_11_method_6_code 56 = .ok (.iload_n 2, 1) := by decide +kernel
theorem d_Taste_worth_57 : decode prog_11_method_6_code 57 = .ok (.bipush 64, 2) := by decide +kernel
theorem d_Taste_worth_59 : decode prog_11_method_6_code 59 = .ok (.if_icmp .lt 5, 3) := by decide +kernel
theorem d_Taste_worth_62 : decode prog_11_method_6_code 62 = .ok (.iconst 0, 1) := by decide +kernel
theorem d_Taste_worth_63 : decode prog_11_method_6_code 63 = .ok (.ireturn, 1) := by decide +kernel
theorem d_Taste_worth_64 : decode prog_11_method_6_code 64 = .ok (.aload_n 0, 1) := by decide +kernel
theorem d_Taste_worth_65 : decode prog_11_method_6_code 65 = .ok (.getfield 19, 3) := by decide +kernel
theorem d_Taste_worth_68 : decode prog_11_method_6_code 68 = .ok (.iload_n 2, 1) := by decide +kernel
theorem d_Taste_worth_69 : decode prog_11_method_6_code 69 = .ok (.iload 5, 2) := by decide +kernel
theorem d_Taste_worth_71 : decode prog_11_method_6_code 71 = .ok (.aload_n 1, 1) := by decide +kernel
theorem d_Taste_worth_72 : decode prog_11_method_6_code 72 = .ok (.invokestatic 30, 3) := by decide +kernel
theorem d_Taste_worth_75 : decode prog_11_method_6_code 75 = .ok (.iastore, 1) := by decide +kernel
theorem d_Taste_worth_76 : decode prog_11_method_6_code 76 = .ok (.iinc 2 1, 3) := by decide +kernel
theorem d_Taste_worth_79 : decode prog_11_method_6_code 79 = .ok (.goto 172, 3) := by decide +kernel
theorem d_Taste_worth_82 : decode prog_11_method_6_code 82 = .ok (.iload 5, 2) := by decide +kernel
theorem d_Taste_worth_84 : decode prog_11_method_6_code 84 = .ok (.bipush (-20), 2) := by decide +kernel
theorem d_Taste_worth_86 : decode prog_11_method_6_code 86 = .ok (.if_icmp .ne 37, 3) := by decide +kernel
theorem d_Taste_worth_89 : decode prog_11_method_6_code 89 = .ok (.iload_n 2, 1) := by decide +kernel
theorem d_Taste_worth_90 : decode prog_11_method_6_code 90 = .ok (.iconst 1, 1) := by decide +kernel
theorem d_Taste_worth_91 : decode prog_11_method_6_code 91 = .ok (.if_icmp .lt 9, 3) := by decide +kernel
theorem d_Taste_worth_94 : decode prog_11_method_6_code 94 = .ok (.iload_n 2, 1) := by decide +kernel
theorem d_Taste_worth_95 : decode prog_11_method_6_code 95 = .ok (.bipush 64, 2) := by decide +kernel
theorem d_Taste_worth_97 : decode prog_11_method_6_code 97 = .ok (.if_icmp .le 5, 3) := by decide +kernel
theorem d_Taste_worth_100 : decode prog_11_method_6_code 100 = .ok (.iconst 0, 1) := by decide +kernel
theorem d_Taste_worth_101 : decode prog_11_method_6_code 101 = .ok (.ireturn, 1) := by decide +kernel
theorem d_Taste_worth_102 : decode prog_11_method_6_code 102 = .ok (.aload_n 0, 1) := by decide +kernel
theorem d_Taste_worth_103 : decode prog_11_method_6_code 103 = .ok (.getfield 19, 3) := by decide +kernel
theorem d_Taste_worth_106 : decode prog_11_method_6_code 106 = .ok (.iload_n 2, 1) := by decide +kernel
theorem d_Taste_worth_107 : decode prog_11_method_6_code 107 = .ok (.iconst 1, 1) := by decide +kernel
theorem d_Taste_worth_108 : decode prog_11_method_6_code 108 = .ok (.isub, 1) := by decide +kernel
theorem d_Taste_worth_109 : decode prog_11_method_6_code 109 = .ok (.iconst 1, 1) := by decide +kernel
theorem d_Taste_worth_110 : decode prog_11_method_6_code 110 = .ok (.aload_n 0, 1) := by decide +kernel
theorem d_Taste_worth_111 : decode prog_11_method_6_code 111 = .ok (.getfield 19, 3) := by decide +kernel
theorem d_Taste_worth_114 : decode prog_11_method_6_code 114 = .ok (.iload_n 2, 1) := by decide +kernel
theorem d_Taste_worth_115 : decode prog_11_method_6_code 115 = .ok (.iconst 1, 1) := by decide +kernel
theorem d_Taste_worth_116 : decode prog_11_method_6_code 116 = .ok (.isub, 1) := by decide +kernel
theorem d_Taste_worth_117 : decode prog_11_method_6_code 117 = .ok (.iaload, 1) := by decide +kernel
theorem d_Taste_worth_118 : decode prog_11_method_6_code 118 = .ok (.isub, 1) := by decide +kernel
theorem d_Taste_worth_119 : decode prog_11_method_6_code 119 = .ok (.iastore, 1) := by decide +kernel
theorem d_Taste_worth_120 : decode prog_11_method_6_code 120 = .ok (.goto 131, 3) := by decide +kernel
theorem d_Taste_worth_123 : decode prog_11_method_6_code 123 = .ok (.iload 5, 2) := by decide +kernel
theorem d_Taste_worth_125 : decode prog_11_method_6_code 125 = .ok (.bipush (-21), 2) := by decide +kernel
theorem d_Taste_worth_127 : decode prog_11_method_6_code 127 = .ok (.if_icmp .ne 51, 3) := by decide +kernel
theorem d_Taste_worth_130 : decode prog_11_method_6_code 130 = .ok (.iload_n 2, 1) := by decide +kernel
theorem d_Taste_worth_131 : decode prog_11_method_6_code 131 = .ok (.iconst 1, 1) := by decide +kernel
theorem d_Taste_worth_132 : decode prog_11_method_6_code 132 = .ok (.if_icmp .lt 16, 3) := by decide +kernel
theorem d_Taste_worth_135 : decode prog_11_method_6_code 135 = .ok (.iload_n 2, 1) := by decide +kernel
theorem d_Taste_worth_136 : decode prog_11_method_6_code 136 = .ok (.bipush 64, 2) := by decide +kernel
theorem d_Taste_worth_138 : decode prog_11_method_6_code 138 = .ok (.if_icmp .gt 10, 3) := by decide +kernel
theorem d_Taste_worth_141 : decode prog_11_method_6_code 141 = .ok (.iload_n 3, 1) := by decide +kernel
theorem d_Taste_worth_142 : decode prog_11_method_6_code 142 = .ok (.sipush 480, 3) := by decide +kernel
theorem d_Taste_worth_145 : decode prog_11_method_6_code 145 = .ok (.if_icmp .lt 5, 3) := by decide +kernel
theorem d_Taste_worth_148 : decode prog_11_method_6_code 148 = .ok (.iconst 0, 1) := by decide +kernel
theorem d_Taste_worth_149 : decode prog_11_method_6_code 149 = .ok (.ireturn, 1) := by decide +kernel
theorem d_Taste_worth_150 : decode prog_11_method_6_code 150 = .ok (.iinc 2 (-1), 3) := by decide +kernel
theorem d_Taste_worth_153 : decode prog_11_method_6_code 153 = .ok (.aload_n 0, 1) := by decide +kernel
theorem d_Taste_worth_154 : decode prog_11_method_6_code 154 = .ok (.getfield 19, 3) := by decide +kernel
theorem d_Taste_worth_157 : decode prog_11_method_6_code 157 = .ok (.iload_n 2, 1) := by decide +kernel
theorem d_Taste_worth_158 : decode prog_11_method_6_code 158 = .ok (.iaload, 1) := by decide +kernel
theorem d_Taste_worth_159 : decode prog_11_method_6_code 159 = .ok (.ifCond .eq 9, 3) := by decide +kernel
theorem d_Taste_worth_162 : decode prog_11_method_6_code 162 = .ok (.iload_n 3, 1) := by decide +kernel
theorem d_Taste_worth_163 : decode prog_11_method_6_code 163 = .ok (.iconst 1, 1) := by decide +kernel
theorem d_Taste_worth_164 : decode prog_11_method_6_code 164 = .ok (.iadd, 1) := by decide +kernel
theorem d_Taste_worth_165 : decode prog_11_method_6_code 165 = .ok (.goto 9, 3) := by decide +kernel
theorem d_Taste_worth_168 : decode prog_11_method_6_code 168 = .ok (.aload_n 0, 1) := by decide +kernel
theorem d_Taste_worth_169 : decode prog_11_method_6_code 169 = .ok (.getfield 11, 3) := by decide +kernel
theorem d_Taste_worth_172 : decode prog_11_method_6_code 172 = .ok (.iload_n 3, 1) := by decide +kernel
theorem d_Taste_worth_173 : decode prog_11_method_6_code 173 = .ok (.iaload, 1) := by decide +kernel
theorem d_Taste_worth_174 : decode prog_11_method_6_code 174 = .ok (.istore_n 3, 1) := by decide +kernel
theorem d_Taste_worth_175 : decode prog_11_method_6_code 175 = .ok (.goto 76, 3) := by decide +kernel
theorem d_Taste_worth_178 : decode prog_11_method_6_code 178 = .ok (.iload 5, 2) := by decide +kernel
theorem d_Taste_worth_180 : decode prog_11_method_6_code 180 = .ok (.bipush (-22), 2) := by decide +kernel
theorem d_Taste_worth_182 : decode prog_11_method_6_code 182 = .ok (.if_icmp .ne 26, 3) := by decide +kernel
theorem d_Taste_worth_185 : decode prog_11_method_6_code 185 = .ok (.iload_n 2, 1) := by decide +kernel
theorem d_Taste_worth_186 : decode prog_11_method_6_code 186 = .ok (.ifCond .le 20, 3) := by decide +kernel
theorem d_Taste_worth_189 : decode prog_11_method_6_code 189 = .ok (.iload_n 2, 1) := by decide +kernel
theorem d_Taste_worth_190 : decode prog_11_method_6_code 190 = .ok (.bipush 64, 2) := by decide +kernel
theorem d_Taste_worth_192 : decode prog_11_method_6_code 192 = .ok (.if_icmp .gt 14, 3) := by decide +kernel
theorem d_Taste_worth_195 : decode prog_11_method_6_code 195 = .ok (.aload_n 0, 1) := by decide +kernel
theorem d_Taste_worth_196 : decode prog_11_method_6_code 196 = .ok (.getfield 19, 3) := by decide +kernel
theorem d_Taste_worth_199 : decode prog_11_method_6_code 199 = .ok (.iload_n 2, 1) := by decide +kernel
theorem d_Taste_worth_200 : decode prog_11_method_6_code 200 = .ok (.iconst 1, 1) := by decide +kernel
theorem d_Taste_worth_201 : decode prog_11_method_6_code 201 = .ok (.isub, 1) := by decide +kernel
theorem d_Taste_worth_202 : decode prog_11_method_6_code 202 = .ok (.iaload, 1) := by decide +kernel
theorem d_Taste_worth_203 : decode prog_11_method_6_code 203 = .ok (.goto 4, 3) := by decide +kernel
theorem d_Taste_worth_206 : decode prog_11_method_6_code 206 = .ok (.iconst 0, 1) := by decide +kernel
theorem d_Taste_worth_207 : decode prog_11_method_6_code 207 = .ok (.ireturn, 1) := by decide +kernel
theorem d_Taste_worth_208 : decode prog_11_method_6_code 208 = .ok (.iload_n 2, 1) := by decide +kernel
theorem d_Taste_worth_209 : decode prog_11_method_6_code 209 = .ok (.iconst 2, 1) := by decide +kernel
theorem d_Taste_worth_210 : decode prog_11_method_6_code 210 = .ok (.if_icmp .lt 9, 3) := by decide +kernel
theorem d_Taste_worth_213 : decode prog_11_method_6_code 213 = .ok (.iload_n 2, 1) := by decide +kernel
theorem d_Taste_worth_214 : decode prog_11_method_6_code 214 = .ok (.bipush 64, 2) := by decide +kernel
theorem d_Taste_worth_216 : decode prog_11_method_6_code 216 = .ok (.if_icmp .le 5, 3) := by decide +kernel
theorem d_Taste_worth_219 : decode prog_11_method_6_code 219 = .ok (.iconst 0, 1) := by decide +kernel
theorem d_Taste_worth_220 : decode prog_11_method_6_code 220 = .ok (.ireturn, 1) := by decide +kernel
theorem d_Taste_worth_221 : decode prog_11_method_6_code 221 = .ok (.iinc 2 (-1), 3) := by decide +kernel
theorem d_Taste_worth_224 : decode prog_11_method_6_code 224 = .ok (.aload_n 0, 1) := by decide +kernel
theorem d_Taste_worth_225 : decode prog_11_method_6_code 225 = .ok (.getfield 19, 3) := by decide +kernel
theorem d_Taste_worth_228 : decode prog_11_method_6_code 228 = .ok (.iload_n 2, 1) := by decide +kernel
theorem d_Taste_worth_229 : decode prog_11_method_6_code 229 = .ok (.iconst 1, 1) := by decide +kernel
theorem d_Taste_worth_230 : decode prog_11_method_6_code 230 = .ok (.isub, 1) := by decide +kernel
theorem d_Taste_worth_231 : decode prog_11_method_6_code 231 = .ok (.iload 5, 2) := by decide +kernel
theorem d_Taste_worth_233 : decode prog_11_method_6_code 233 = .ok (.aload_n 0, 1) := by decide +kernel
theorem d_Taste_worth_234 : decode prog_11_method_6_code 234 = .ok (.getfield 19, 3) := by decide +kernel
theorem d_Taste_worth_237 : decode prog_11_method_6_code 237 = .ok (.iload_n 2, 1) := by decide +kernel
theorem d_Taste_worth_238 : decode prog_11_method_6_code 238 = .ok (.iconst 1, 1) := by decide +kernel
theorem d_Taste_worth_239 : decode prog_11_method_6_code 239 = .ok (.isub, 1) := by decide +kernel
theorem d_Taste_worth_240 : decode prog_11_method_6_code 240 = .ok (.iaload, 1) := by decide +kernel
theorem d_Taste_worth_241 : decode prog_11_method_6_code 241 = .ok (.aload_n 0, 1) := by decide +kernel
theorem d_Taste_worth_242 : decode prog_11_method_6_code 242 = .ok (.getfield 19, 3) := by decide +kernel
theorem d_Taste_worth_245 : decode prog_11_method_6_code 245 = .ok (.iload_n 2, 1) := by decide +kernel
theorem d_Taste_worth_246 : decode prog_11_method_6_code 246 = .ok (.iaload, 1) := by decide +kernel
theorem d_Taste_worth_247 : decode prog_11_method_6_code 247 = .ok (.invokestatic 34, 3) := by decide +kernel
theorem d_Taste_worth_250 : decode prog_11_method_6_code 250 = .ok (.iastore, 1) := by decide +kernel
theorem d_Taste_worth_251 : decode prog_11_method_6_code 251 = .ok (.iinc 4 1, 3) := by decide +kernel
theorem d_Taste_worth_254 : decode prog_11_method_6_code 254 = .ok (.goto (-247), 3) := by decide +kernel
theorem d_Taste_worth_257 : decode prog_11_method_6_code 257 = .ok (.iconst 0, 1) := by decide +kernel
theorem d_Taste_worth_258 : decode prog_11_method_6_code 258 = .ok (.ireturn, 1) := by decide +kernel
def s_Taste_worth_257 (t : Nat) (p0 : Nat) (σ : LH) : Option (Int32 × LH) :=
  some (0, σ)
theorem b_Taste_worth_257 {G : XG} {l : Launch} {p : Program} {e : Env} {R : Room} {s : State} {m : MethodId} {args : Array Value} {below : List Frame} {meth : Method} {c : Code} (C : XC G 1 570 p s m args c prog_11_method_6_code 6 R_Taste) (hr : meth.sig.returnType = (some .int)) (hk : meth.locks = false) {d : Nat} (hd : 2 ≤ d + 1) (hR : xroom R (d + 1)) {t : Nat} {p0 : Nat} (ht : t ∈ xTastes) (hp0 : xin 1 570 p0 (2, 6, 0)) {σ' : LH} {r : Int32} {σ : LH} (h0 : s_Taste_worth_257 t p0 σ = some (r, σ')) : XJ G 1 570 p l e R s m args below meth c 6 (XQ G 1 570 below args s (some (.int r)) σ') 0 0 257 [] [] σ := by
  replace h0 := (show _ = _ from h0)
  unfold s_Taste_worth_257 at h0
  refine x_iconst (v := 0) C d_Taste_worth_257 (by decide) ?_
  exact x_iret C hr hk h0 d_Taste_worth_258
def s_Taste_worth_100 (t : Nat) (p0 : Nat) (σ : LH) : Option (Int32 × LH) :=
  some (0, σ)
theorem b_Taste_worth_100 {G : XG} {l : Launch} {p : Program} {e : Env} {R : Room} {s : State} {m : MethodId} {args : Array Value} {below : List Frame} {meth : Method} {c : Code} (C : XC G 1 570 p s m args c prog_11_method_6_code 6 R_Taste) (hr : meth.sig.returnType = (some .int)) (hk : meth.locks = false) {d : Nat} (hd : 2 ≤ d + 1) (hR : xroom R (d + 1)) {t : Nat} {p0 : Nat} (ht : t ∈ xTastes) (hp0 : xin 1 570 p0 (2, 6, 0)) {σ' : LH} {r : Int32} {σ : LH} (h0 : s_Taste_worth_100 t p0 σ = some (r, σ')) : XJ G 1 570 p l e R s m args below meth c 6 (XQ G 1 570 below args s (some (.int r)) σ') 0 0 100 [] [] σ := by
  replace h0 := (show _ = _ from h0)
  unfold s_Taste_worth_100 at h0
  refine x_iconst (v := 0) C d_Taste_worth_100 (by decide) ?_
  exact x_iret C hr hk h0 d_Taste_worth_101
def s_Taste_worth_251 (t : Nat) (p0 : Nat) (rec7 : Int32 → Int32 → Int32 → LH → Option (Int32 × LH)) (y2 : Int32) (y3 : Int32) (y4 : Int32) (σ : LH) : Option (Int32 × LH) :=
  xl ((y4 + 1) : Int32) fun x15 =>
  rec7 y2 y3 x15 σ
theorem b_Taste_worth_251 {G : XG} {l : Launch} {p : Program} {e : Env} {R : Room} {s : State} {m : MethodId} {args : Array Value} {below : List Frame} {meth : Method} {c : Code} (C : XC G 1 570 p s m args c prog_11_method_6_code 6 R_Taste) (hr : meth.sig.returnType = (some .int)) (hk : meth.locks = false) {d : Nat} (hd : 2 ≤ d + 1) (hR : xroom R (d + 1)) {t : Nat} {p0 : Nat} (ht : t ∈ xTastes) (hp0 : xin 1 570 p0 (2, 6, 0)) {rec7 : Int32 → Int32 → Int32 → LH → Option (Int32 × LH)} {σ' : LH} {r : Int32} (hrec7 : ∀ (y2 : Int32) (y3 : Int32) (y4 : Int32) (σ : LH), rec7 y2 y3 y4 σ = some (r, σ') → XJ G 1 570 p l e R s m args below meth c 6 (XQ G 1 570 below args s (some (.int r)) σ') 0 0 7 [(0, .ref (G.2.2.1 + t)), (1, .ref (G.2.2.1 + p0)), (2, .int y2), (3, .int y3), (4, .int y4)] [] σ) {y2 : Int32} {y3 : Int32} {y4 : Int32} {σ : LH} (h0 : s_Taste_worth_251 t p0 rec7 y2 y3 y4 σ = some (r, σ')) : XJ G 1 570 p l e R s m args below meth c 6 (XQ G 1 570 below args s (some (.int r)) σ') 0 0 251 [(0, .ref (G.2.2.1 + t)), (1, .ref (G.2.2.1 + p0)), (2, .int y2), (3, .int y3), (4, .int y4)] [] σ := by
  replace h0 := (show _ = _ from h0)
  unfold s_Taste_worth_251 at h0
  obtain ⟨x15, ex15, h0⟩ := xlet h0
  refine x_iinc (lv' := [(4, .int x15), (0, .ref (G.2.2.1 + t)), (1, .ref (G.2.2.1 + p0)), (2, .int y2), (3, .int y3)]) C d_Taste_worth_251 4 rfl ex15 (by decide) rfl ?_
  refine x_goto C 7 d_Taste_worth_254 (by decide) ?_
  exact x_lv C [1, 2, 3, 4, 0] rfl (hrec7 _ _ _ _ h0)
def s_Taste_worth_148 (t : Nat) (p0 : Nat) (σ : LH) : Option (Int32 × LH) :=
  some (0, σ)
theorem b_Taste_worth_148 {G : XG} {l : Launch} {p : Program} {e : Env} {R : Room} {s : State} {m : MethodId} {args : Array Value} {below : List Frame} {meth : Method} {c : Code} (C : XC G 1 570 p s m args c prog_11_method_6_code 6 R_Taste) (hr : meth.sig.returnType = (some .int)) (hk : meth.locks = false) {d : Nat} (hd : 2 ≤ d + 1) (hR : xroom R (d + 1)) {t : Nat} {p0 : Nat} (ht : t ∈ xTastes) (hp0 : xin 1 570 p0 (2, 6, 0)) {σ' : LH} {r : Int32} {σ : LH} (h0 : s_Taste_worth_148 t p0 σ = some (r, σ')) : XJ G 1 570 p l e R s m args below meth c 6 (XQ G 1 570 below args s (some (.int r)) σ') 0 0 148 [] [] σ := by
  replace h0 := (show _ = _ from h0)
  unfold s_Taste_worth_148 at h0
  refine x_iconst (v := 0) C d_Taste_worth_148 (by decide) ?_
  exact x_iret C hr hk h0 d_Taste_worth_149
def s_Taste_worth_174 (t : Nat) (p0 : Nat) (rec7 : Int32 → Int32 → Int32 → LH → Option (Int32 × LH)) (y2 : Int32) (y4 : Int32) (z0 : Int32) (σ : LH) : Option (Int32 × LH) :=
  s_Taste_worth_251 t p0 rec7 y2 z0 y4 σ
theorem b_Taste_worth_174 {G : XG} {l : Launch} {p : Program} {e : Env} {R : Room} {s : State} {m : MethodId} {args : Array Value} {below : List Frame} {meth : Method} {c : Code} (C : XC G 1 570 p s m args c prog_11_method_6_code 6 R_Taste) (hr : meth.sig.returnType = (some .int)) (hk : meth.locks = false) {d : Nat} (hd : 2 ≤ d + 1) (hR : xroom R (d + 1)) {t : Nat} {p0 : Nat} (ht : t ∈ xTastes) (hp0 : xin 1 570 p0 (2, 6, 0)) {rec7 : Int32 → Int32 → Int32 → LH → Option (Int32 × LH)} {σ' : LH} {r : Int32} (hrec7 : ∀ (y2 : Int32) (y3 : Int32) (y4 : Int32) (σ : LH), rec7 y2 y3 y4 σ = some (r, σ') → XJ G 1 570 p l e R s m args below meth c 6 (XQ G 1 570 below args s (some (.int r)) σ') 0 0 7 [(0, .ref (G.2.2.1 + t)), (1, .ref (G.2.2.1 + p0)), (2, .int y2), (3, .int y3), (4, .int y4)] [] σ) {y2 : Int32} {y4 : Int32} {z0 : Int32} {σ : LH} (h0 : s_Taste_worth_174 t p0 rec7 y2 y4 z0 σ = some (r, σ')) : XJ G 1 570 p l e R s m args below meth c 6 (XQ G 1 570 below args s (some (.int r)) σ') 0 0 174 [(0, .ref (G.2.2.1 + t)), (1, .ref (G.2.2.1 + p0)), (2, .int y2), (4, .int y4)] [.int z0] σ := by
  replace h0 := (show _ = _ from h0)
  unfold s_Taste_worth_174 at h0
  refine x_istore_n (lv' := [(3, .int z0), (0, .ref (G.2.2.1 + t)), (1, .ref (G.2.2.1 + p0)), (2, .int y2), (4, .int y4)]) C d_Taste_worth_174 rfl (by decide) rfl ?_
  refine x_goto C 251 d_Taste_worth_175 (by decide) ?_
  exact x_lv C [1, 2, 3, 0, 4] rfl (b_Taste_worth_251 C hr hk hd hR ht hp0 hrec7 h0)
def s_Taste_worth_207 (t : Nat) (p0 : Nat) (z0 : Int32) (σ : LH) : Option (Int32 × LH) :=
  some (z0, σ)
theorem b_Taste_worth_207 {G : XG} {l : Launch} {p : Program} {e : Env} {R : Room} {s : State} {m : MethodId} {args : Array Value} {below : List Frame} {meth : Method} {c : Code} (C : XC G 1 570 p s m args c prog_11_method_6_code 6 R_Taste) (hr : meth.sig.returnType = (some .int)) (hk : meth.locks = false) {d : Nat} (hd : 2 ≤ d + 1) (hR : xroom R (d + 1)) {t : Nat} {p0 : Nat} (ht : t ∈ xTastes) (hp0 : xin 1 570 p0 (2, 6, 0)) {σ' : LH} {r : Int32} {z0 : Int32} {σ : LH} (h0 : s_Taste_worth_207 t p0 z0 σ = some (r, σ')) : XJ G 1 570 p l e R s m args below meth c 6 (XQ G 1 570 below args s (some (.int r)) σ') 0 0 207 [] [.int z0] σ := by
  replace h0 := (show _ = _ from h0)
  unfold s_Taste_worth_207 at h0
  exact x_iret C hr hk h0 d_Taste_worth_207
def s_Taste_worth_206 (t : Nat) (p0 : Nat) (σ : LH) : Option (Int32 × LH) :=
  s_Taste_worth_207 t p0 0 σ
theorem b_Taste_worth_206 {G : XG} {l : Launch} {p : Program} {e : Env} {R : Room} {s : State} {m : MethodId} {args : Array Value} {below : List Frame} {meth : Method} {c : Code} (C : XC G 1 570 p s m args c prog_11_method_6_code 6 R_Taste) (hr : meth.sig.returnType = (some .int)) (hk : meth.locks = false) {d : Nat} (hd : 2 ≤ d + 1) (hR : xroom R (d + 1)) {t : Nat} {p0 : Nat} (ht : t ∈ xTastes) (hp0 : xin 1 570 p0 (2, 6, 0)) {σ' : LH} {r : Int32} {σ : LH} (h0 : s_Taste_worth_206 t p0 σ = some (r, σ')) : XJ G 1 570 p l e R s m args below meth c 6 (XQ G 1 570 below args s (some (.int r)) σ') 0 0 206 [] [] σ := by
  replace h0 := (show _ = _ from h0)
  unfold s_Taste_worth_206 at h0
  refine x_iconst (v := 0) C d_Taste_worth_206 (by decide) ?_
  exact x_lv C [] rfl (b_Taste_worth_207 C hr hk hd hR ht hp0 h0)
def s_Taste_worth_219 (t : Nat) (p0 : Nat) (σ : LH) : Option (Int32 × LH) :=
  some (0, σ)
theorem b_Taste_worth_219 {G : XG} {l : Launch} {p : Program} {e : Env} {R : Room} {s : State} {m : MethodId} {args : Array Value} {below : List Frame} {meth : Method} {c : Code} (C : XC G 1 570 p s m args c prog_11_method_6_code 6 R_Taste) (hr : meth.sig.returnType = (some .int)) (hk : meth.locks = false) {d : Nat} (hd : 2 ≤ d + 1) (hR : xroom R (d + 1)) {t : Nat} {p0 : Nat} (ht : t ∈ xTastes) (hp0 : xin 1 570 p0 (2, 6, 0)) {σ' : LH} {r : Int32} {σ : LH} (h0 : s_Taste_worth_219 t p0 σ = some (r, σ')) : XJ G 1 570 p l e R s m args below meth c 6 (XQ G 1 570 below args s (some (.int r)) σ') 0 0 219 [] [] σ := by
  replace h0 := (show _ = _ from h0)
  unfold s_Taste_worth_219 at h0
  refine x_iconst (v := 0) C d_Taste_worth_219 (by decide) ?_
  exact x_iret C hr hk h0 d_Taste_worth_220
def s_Taste_worth_62 (t : Nat) (p0 : Nat) (σ : LH) : Option (Int32 × LH) :=
  some (0, σ)
theorem b_Taste_worth_62 {G : XG} {l : Launch} {p : Program} {e : Env} {R : Room} {s : State} {m : MethodId} {args : Array Value} {below : List Frame} {meth : Method} {c : Code} (C : XC G 1 570 p s m args c prog_11_method_6_code 6 R_Taste) (hr : meth.sig.returnType = (some .int)) (hk : meth.locks = false) {d : Nat} (hd : 2 ≤ d + 1) (hR : xroom R (d + 1)) {t : Nat} {p0 : Nat} (ht : t ∈ xTastes) (hp0 : xin 1 570 p0 (2, 6, 0)) {σ' : LH} {r : Int32} {σ : LH} (h0 : s_Taste_worth_62 t p0 σ = some (r, σ')) : XJ G 1 570 p l e R s m args below meth c 6 (XQ G 1 570 below args s (some (.int r)) σ') 0 0 62 [] [] σ := by
  replace h0 := (show _ = _ from h0)
  unfold s_Taste_worth_62 at h0
  refine x_iconst (v := 0) C d_Taste_worth_62 (by decide) ?_
  exact x_iret C hr hk h0 d_Taste_worth_63
def s_Taste_worth_7_b (t : Nat) (p0 : Nat) (rec7 : Int32 → Int32 → Int32 → LH → Option (Int32 × LH)) (y2 : Int32) (y3 : Int32) (y4 : Int32) (σ : LH) : Option (Int32 × LH) :=
  if 480 ≤ y4 then (
   s_Taste_worth_257 t p0 σ)
  else (
   if y3 < 0 then (
    s_Taste_worth_257 t p0 σ)
   else (
    if (σ.1 t 1) ≤ y3 then (
     s_Taste_worth_257 t p0 σ)
    else (
     if 480 ≤ y3 then (
      s_Taste_worth_257 t p0 σ)
     else (
      if ib y3 480 then (
      xl (((σ.1 (t + 1) (Int32.toNatClampNeg y3))) : Int32) fun x6 =>
      xl ((y3 + 1) : Int32) fun x7 =>
      if x6 ≤ (-11) then (
       if x6 = (-20) then (
        if y2 < 1 then (
         s_Taste_worth_100 t p0 σ)
        else (
         if y2 ≤ 64 then (
          if ib (y2 - 1) 64 then (
          if ib (y2 - 1) 64 then (
          xl ((stI σ (t + 2) (Int32.toNatClampNeg (y2 - 1)) (1 - (σ.1 (t + 2) (Int32.toNatClampNeg (y2 - 1))))) : LH) fun σ14 =>
          s_Taste_worth_251 t p0 rec7 y2 x7 y4 σ14) else none) else none)
         else (
          s_Taste_worth_100 t p0 σ)))
       else (
        if x6 = (-21) then (
         if y2 < 1 then (
          s_Taste_worth_148 t p0 σ)
         else (
          if 64 < y2 then (
           s_Taste_worth_148 t p0 σ)
          else (
           if x7 < 480 then (
            xl ((y2 + (-1)) : Int32) fun x20 =>
            if ib x20 64 then (
            if (σ.1 (t + 2) (Int32.toNatClampNeg x20)) = 0 then (
             if ib x7 480 then (
             s_Taste_worth_174 t p0 rec7 x20 y4 (σ.1 (t + 1) (Int32.toNatClampNeg x7)) σ) else none)
            else (
             s_Taste_worth_174 t p0 rec7 x20 y4 (x7 + 1) σ)) else none)
           else (
            s_Taste_worth_148 t p0 σ))))
        else (
         if x6 = (-22) then (
          if y2 ≤ 0 then (
           s_Taste_worth_206 t p0 σ)
          else (
           if 64 < y2 then (
            s_Taste_worth_206 t p0 σ)
           else (
            if ib (y2 - 1) 64 then (
            s_Taste_worth_207 t p0 (σ.1 (t + 2) (Int32.toNatClampNeg (y2 - 1))) σ) else none)))
         else (
          if y2 < 2 then (
           s_Taste_worth_219 t p0 σ)
          else (
           if y2 ≤ 64 then (
            xl ((y2 + (-1)) : Int32) fun x30 =>
            if ib (x30 - 1) 64 then (
            if ib x30 64 then (
            xb2 (s_Taste_join x6 (σ.1 (t + 2) (Int32.toNatClampNeg (x30 - 1))) (σ.1 (t + 2) (Int32.toNatClampNeg x30)) σ) fun r34 σ35 =>
            if ib (x30 - 1) 64 then (
            xl ((stI σ35 (t + 2) (Int32.toNatClampNeg (x30 - 1)) r34) : LH) fun σ37 =>
            s_Taste_worth_251 t p0 rec7 x30 x7 y4 σ37) else none) else none) else none)
           else (
            s_Taste_worth_219 t p0 σ))))))
      else (
       if y2 < 0 then (
        s_Taste_worth_62 t p0 σ)
       else (
        if y2 < 64 then (
         xb2 (s_Taste_valueOf x6 p0 σ) fun r41 σ42 =>
         if ib y2 64 then (
         xl ((stI σ42 (t + 2) (Int32.toNatClampNeg y2) r41) : LH) fun σ44 =>
         xl ((y2 + 1) : Int32) fun x45 =>
         s_Taste_worth_251 t p0 rec7 x45 x7 y4 σ44) else none)
        else (
         s_Taste_worth_62 t p0 σ)))) else none))))
def s_Taste_worth_7 (t : Nat) (p0 : Nat) : Nat → Int32 → Int32 → Int32 → LH → Option (Int32 × LH)
  | 0, _, _, _, _ => none
  | n + 1, y2, y3, y4, σ => s_Taste_worth_7_b t p0 (s_Taste_worth_7 t p0 n) y2 y3 y4 σ
theorem bb_Taste_worth_7 {G : XG} {l : Launch} {p : Program} {e : Env} {R : Room} {s : State} {m : MethodId} {args : Array Value} {below : List Frame} {meth : Method} {c : Code} (C : XC G 1 570 p s m args c prog_11_method_6_code 6 R_Taste) (hr : meth.sig.returnType = (some .int)) (hk : meth.locks = false) {d : Nat} (hd : 2 ≤ d + 1) (hR : xroom R (d + 1)) {t : Nat} {p0 : Nat} (ht : t ∈ xTastes) (hp0 : xin 1 570 p0 (2, 6, 0)) {rec7 : Int32 → Int32 → Int32 → LH → Option (Int32 × LH)} {σ' : LH} {r : Int32} (hrec7 : ∀ (y2 : Int32) (y3 : Int32) (y4 : Int32) (σ : LH), rec7 y2 y3 y4 σ = some (r, σ') → XJ G 1 570 p l e R s m args below meth c 6 (XQ G 1 570 below args s (some (.int r)) σ') 0 0 7 [(0, .ref (G.2.2.1 + t)), (1, .ref (G.2.2.1 + p0)), (2, .int y2), (3, .int y3), (4, .int y4)] [] σ) {y2 : Int32} {y3 : Int32} {y4 : Int32} {σ : LH} (h0 : s_Taste_worth_7_b t p0 rec7 y2 y3 y4 σ = some (r, σ')) : XJ G 1 570 p l e R s m args below meth c 6 (XQ G 1 570 below args s (some (.int r)) σ') 0 0 7 [(0, .ref (G.2.2.1 + t)), (1, .ref (G.2.2.1 + p0)), (2, .int y2), (3, .int y3), (4, .int y4)] [] σ := by
  replace h0 := (show _ = _ from h0)
  unfold s_Taste_worth_7_b at h0
  refine x_iload C d_Taste_worth_7 4 rfl ?_
  refine x_sipush (v := 480) C d_Taste_worth_9 (by decide) ?_
  refine x_icmp_ge C 257 d_Taste_worth_12 (by decide) (fun q1 => ?_) (fun q1 => ?_)
  · replace h0 := xit q1 h0
    exact x_lv C [] rfl (b_Taste_worth_257 C hr hk hd hR ht hp0 h0)
  · replace h0 := xif q1 h0
    refine x_iload_n C d_Taste_worth_15 3 rfl ?_
    refine x_if_lt C 257 d_Taste_worth_16 (by decide) (fun q2 => ?_) (fun q2 => ?_)
    · replace h0 := xit q2 h0
      exact x_lv C [] rfl (b_Taste_worth_257 C hr hk hd hR ht hp0 h0)
    · replace h0 := xif q2 h0
      refine x_iload_n C d_Taste_worth_19 3 rfl ?_
      refine x_aload_n C d_Taste_worth_20 0 rfl ?_
      refine x_getI (y := 0) C fg_Taste_15 (ta_0 ht) rfl d_Taste_worth_21 ?_
      refine x_icmp_ge C 257 d_Taste_worth_24 (by decide) (fun q3 => ?_) (fun q3 => ?_)
      · replace h0 := xit q3 h0
        exact x_lv C [] rfl (b_Taste_worth_257 C hr hk hd hR ht hp0 h0)
      · replace h0 := xif q3 h0
        refine x_iload_n C d_Taste_worth_27 3 rfl ?_
        refine x_sipush (v := 480) C d_Taste_worth_28 (by decide) ?_
        refine x_icmp_ge C 257 d_Taste_worth_31 (by decide) (fun q4 => ?_) (fun q4 => ?_)
        · replace h0 := xit q4 h0
          exact x_lv C [] rfl (b_Taste_worth_257 C hr hk hd hR ht hp0 h0)
        · replace h0 := xif q4 h0
          refine x_aload_n C d_Taste_worth_34 0 rfl ?_
          refine x_getR (y := 1) C fg_Taste_11 (ta_0 ht) rfl d_Taste_worth_35 ?_
          refine x_iload_n C d_Taste_worth_38 3 rfl ?_
          obtain ⟨g5, h0⟩ := xgo h0
          refine x_iald C (ta_1 ht) (ib_in g5) d_Taste_worth_39 ?_
          obtain ⟨x6, ex6, h0⟩ := xlet h0
          refine x_name C ex6 ?_
          refine x_istore (lv' := [(5, .int x6), (0, .ref (G.2.2.1 + t)), (1, .ref (G.2.2.1 + p0)), (2, .int y2), (3, .int y3), (4, .int y4)]) C d_Taste_worth_40 (by decide) rfl ?_
          obtain ⟨x7, ex7, h0⟩ := xlet h0
          refine x_iinc (lv' := [(3, .int x7), (5, .int x6), (0, .ref (G.2.2.1 + t)), (1, .ref (G.2.2.1 + p0)), (2, .int y2), (4, .int y4)]) C d_Taste_worth_42 4 rfl ex7 (by decide) rfl ?_
          refine x_iload C d_Taste_worth_45 1 rfl ?_
          refine x_bipush (v := (-11)) C d_Taste_worth_47 (by decide) ?_
          refine x_icmp_le C 82 d_Taste_worth_49 (by decide) (fun q8 => ?_) (fun q8 => ?_)
          · replace h0 := xit q8 h0
            refine x_iload C d_Taste_worth_82 1 rfl ?_
            refine x_bipush (v := (-20)) C d_Taste_worth_84 (by decide) ?_
            refine x_icmp_ne C 123 d_Taste_worth_86 (by decide) (fun q9 => ?_) (fun q9 => ?_)
            · replace h0 := xif q9 h0
              refine x_iload C d_Taste_worth_123 1 rfl ?_
              refine x_bipush (v := (-21)) C d_Taste_worth_125 (by decide) ?_
              refine x_icmp_ne C 178 d_Taste_worth_127 (by decide) (fun q16 => ?_) (fun q16 => ?_)
              · replace h0 := xif q16 h0
                refine x_iload C d_Taste_worth_178 1 rfl ?_
                refine x_bipush (v := (-22)) C d_Taste_worth_180 (by decide) ?_
                refine x_icmp_ne C 208 d_Taste_worth_182 (by decide) (fun q24 => ?_) (fun q24 => ?_)
                · replace h0 := xif q24 h0
                  refine x_iload_n C d_Taste_worth_208 4 rfl ?_
                  refine x_iconst (v := 2) C d_Taste_worth_209 (by decide) ?_
                  refine x_icmp_lt C 219 d_Taste_worth_210 (by decide) (fun q28 => ?_) (fun q28 => ?_)
                  · replace h0 := xit q28 h0
                    exact x_lv C [] rfl (b_Taste_worth_219 C hr hk hd hR ht hp0 h0)
                  · replace h0 := xif q28 h0
                    refine x_iload_n C d_Taste_worth_213 4 rfl ?_
                    refine x_bipush (v := 64) C d_Taste_worth_214 (by decide) ?_
                    refine x_icmp_le C 221 d_Taste_worth_216 (by decide) (fun q29 => ?_) (fun q29 => ?_)
                    · replace h0 := xit q29 h0
                      obtain ⟨x30, ex30, h0⟩ := xlet h0
                      refine x_iinc (lv' := [(2, .int x30), (3, .int x7), (5, .int x6), (0, .ref (G.2.2.1 + t)), (1, .ref (G.2.2.1 + p0)), (4, .int y4)]) C d_Taste_worth_221 4 rfl ex30 (by decide) rfl ?_
                      refine x_aload_n C d_Taste_worth_224 3 rfl ?_
                      refine x_getR (y := 2) C fg_Taste_19 (ta_0 ht) rfl d_Taste_worth_225 ?_
                      refine x_iload_n C d_Taste_worth_228 0 rfl ?_
                      refine x_iconst (v := 1) C d_Taste_worth_229 (by decide) ?_
                      refine x_isub C d_Taste_worth_230 ?_
                      refine x_iload C d_Taste_worth_231 2 rfl ?_
                      refine x_aload_n C d_Taste_worth_233 3 rfl ?_
                      refine x_getR (y := 2) C fg_Taste_19 (ta_0 ht) rfl d_Taste_worth_234 ?_
                      refine x_iload_n C d_Taste_worth_237 0 rfl ?_
                      refine x_iconst (v := 1) C d_Taste_worth_238 (by decide) ?_
                      refine x_isub C d_Taste_worth_239 ?_
                      obtain ⟨g31, h0⟩ := xgo h0
                      refine x_iald C (ta_2 ht) (ib_in g31) d_Taste_worth_240 ?_
                      refine x_aload_n C d_Taste_worth_241 3 rfl ?_
                      refine x_getR (y := 2) C fg_Taste_19 (ta_0 ht) rfl d_Taste_worth_242 ?_
                      refine x_iload_n C d_Taste_worth_245 0 rfl ?_
                      obtain ⟨g32, h0⟩ := xgo h0
                      refine x_iald C (ta_2 ht) (ib_in g32) d_Taste_worth_246 ?_
                      obtain ⟨r34, σ35, k33, h0⟩ := xbind2 h0
                      refine x_callSi C hR (c_Taste_join (d := d) (by omega) k33) cw_Taste_34 w_942 rfl rfl (Nat.le_of_ble_eq_true rfl) ⟨Nat.zero_le _, Nat.zero_le _⟩ d_Taste_worth_247 ?_
                      obtain ⟨g36, h0⟩ := xgo h0
                      refine x_iast C (ta_2 ht) (ib_in g36) d_Taste_worth_250 ?_
                      obtain ⟨σ37, eσ37, h0⟩ := xlet h0
                      refine x_sig C eσ37 ?_
                      exact x_lv C [3, 4, 0, 1, 5] rfl (b_Taste_worth_251 C hr hk hd hR ht hp0 hrec7 h0)
                    · replace h0 := xif q29 h0
                      exact x_lv C [] rfl (b_Taste_worth_219 C hr hk hd hR ht hp0 h0)
                · replace h0 := xit q24 h0
                  refine x_iload_n C d_Taste_worth_185 4 rfl ?_
                  refine x_if_le C 206 d_Taste_worth_186 (by decide) (fun q25 => ?_) (fun q25 => ?_)
                  · replace h0 := xit q25 h0
                    exact x_lv C [] rfl (b_Taste_worth_206 C hr hk hd hR ht hp0 h0)
                  · replace h0 := xif q25 h0
                    refine x_iload_n C d_Taste_worth_189 4 rfl ?_
                    refine x_bipush (v := 64) C d_Taste_worth_190 (by decide) ?_
                    refine x_icmp_gt C 206 d_Taste_worth_192 (by decide) (fun q26 => ?_) (fun q26 => ?_)
                    · replace h0 := xit q26 h0
                      exact x_lv C [] rfl (b_Taste_worth_206 C hr hk hd hR ht hp0 h0)
                    · replace h0 := xif q26 h0
                      refine x_aload_n C d_Taste_worth_195 2 rfl ?_
                      refine x_getR (y := 2) C fg_Taste_19 (ta_0 ht) rfl d_Taste_worth_196 ?_
                      refine x_iload_n C d_Taste_worth_199 4 rfl ?_
                      refine x_iconst (v := 1) C d_Taste_worth_200 (by decide) ?_
                      refine x_isub C d_Taste_worth_201 ?_
                      obtain ⟨g27, h0⟩ := xgo h0
                      refine x_iald C (ta_2 ht) (ib_in g27) d_Taste_worth_202 ?_
                      refine x_goto C 207 d_Taste_worth_203 (by decide) ?_
                      exact x_lv C [] rfl (b_Taste_worth_207 C hr hk hd hR ht hp0 h0)
              · replace h0 := xit q16 h0
                refine x_iload_n C d_Taste_worth_130 4 rfl ?_
                refine x_iconst (v := 1) C d_Taste_worth_131 (by decide) ?_
                refine x_icmp_lt C 148 d_Taste_worth_132 (by decide) (fun q17 => ?_) (fun q17 => ?_)
                · replace h0 := xit q17 h0
                  exact x_lv C [] rfl (b_Taste_worth_148 C hr hk hd hR ht hp0 h0)
                · replace h0 := xif q17 h0
                  refine x_iload_n C d_Taste_worth_135 4 rfl ?_
                  refine x_bipush (v := 64) C d_Taste_worth_136 (by decide) ?_
                  refine x_icmp_gt C 148 d_Taste_worth_138 (by decide) (fun q18 => ?_) (fun q18 => ?_)
                  · replace h0 := xit q18 h0
                    exact x_lv C [] rfl (b_Taste_worth_148 C hr hk hd hR ht hp0 h0)
                  · replace h0 := xif q18 h0
                    refine x_iload_n C d_Taste_worth_141 0 rfl ?_
                    refine x_sipush (v := 480) C d_Taste_worth_142 (by decide) ?_
                    refine x_icmp_lt C 150 d_Taste_worth_145 (by decide) (fun q19 => ?_) (fun q19 => ?_)
                    · replace h0 := xit q19 h0
                      obtain ⟨x20, ex20, h0⟩ := xlet h0
                      refine x_iinc (lv' := [(2, .int x20), (3, .int x7), (5, .int x6), (0, .ref (G.2.2.1 + t)), (1, .ref (G.2.2.1 + p0)), (4, .int y4)]) C d_Taste_worth_150 4 rfl ex20 (by decide) rfl ?_
                      refine x_aload_n C d_Taste_worth_153 3 rfl ?_
                      refine x_getR (y := 2) C fg_Taste_19 (ta_0 ht) rfl d_Taste_worth_154 ?_
                      refine x_iload_n C d_Taste_worth_157 0 rfl ?_
                      obtain ⟨g21, h0⟩ := xgo h0
                      refine x_iald C (ta_2 ht) (ib_in g21) d_Taste_worth_158 ?_
                      refine x_if_eq C 168 d_Taste_worth_159 (by decide) (fun q22 => ?_) (fun q22 => ?_)
                      · replace h0 := xit q22 h0
                        refine x_aload_n C d_Taste_worth_168 3 rfl ?_
                        refine x_getR (y := 1) C fg_Taste_11 (ta_0 ht) rfl d_Taste_worth_169 ?_
                        refine x_iload_n C d_Taste_worth_172 1 rfl ?_
                        obtain ⟨g23, h0⟩ := xgo h0
                        refine x_iald C (ta_1 ht) (ib_in g23) d_Taste_worth_173 ?_
                        exact x_lv C [3, 4, 0, 5] rfl (b_Taste_worth_174 C hr hk hd hR ht hp0 hrec7 h0)
                      · replace h0 := xif q22 h0
                        refine x_iload_n C d_Taste_worth_162 1 rfl ?_
                        refine x_iconst (v := 1) C d_Taste_worth_163 (by decide) ?_
                        refine x_iadd C d_Taste_worth_164 ?_
                        refine x_goto C 174 d_Taste_worth_165 (by decide) ?_
                        exact x_lv C [3, 4, 0, 5] rfl (b_Taste_worth_174 C hr hk hd hR ht hp0 hrec7 h0)
                    · replace h0 := xif q19 h0
                      exact x_lv C [] rfl (b_Taste_worth_148 C hr hk hd hR ht hp0 h0)
            · replace h0 := xit q9 h0
              refine x_iload_n C d_Taste_worth_89 4 rfl ?_
              refine x_iconst (v := 1) C d_Taste_worth_90 (by decide) ?_
              refine x_icmp_lt C 100 d_Taste_worth_91 (by decide) (fun q10 => ?_) (fun q10 => ?_)
              · replace h0 := xit q10 h0
                exact x_lv C [] rfl (b_Taste_worth_100 C hr hk hd hR ht hp0 h0)
              · replace h0 := xif q10 h0
                refine x_iload_n C d_Taste_worth_94 4 rfl ?_
                refine x_bipush (v := 64) C d_Taste_worth_95 (by decide) ?_
                refine x_icmp_le C 102 d_Taste_worth_97 (by decide) (fun q11 => ?_) (fun q11 => ?_)
                · replace h0 := xit q11 h0
                  refine x_aload_n C d_Taste_worth_102 2 rfl ?_
                  refine x_getR (y := 2) C fg_Taste_19 (ta_0 ht) rfl d_Taste_worth_103 ?_
                  refine x_iload_n C d_Taste_worth_106 4 rfl ?_
                  refine x_iconst (v := 1) C d_Taste_worth_107 (by decide) ?_
                  refine x_isub C d_Taste_worth_108 ?_
                  refine x_iconst (v := 1) C d_Taste_worth_109 (by decide) ?_
                  refine x_aload_n C d_Taste_worth_110 2 rfl ?_
                  refine x_getR (y := 2) C fg_Taste_19 (ta_0 ht) rfl d_Taste_worth_111 ?_
                  refine x_iload_n C d_Taste_worth_114 4 rfl ?_
                  refine x_iconst (v := 1) C d_Taste_worth_115 (by decide) ?_
                  refine x_isub C d_Taste_worth_116 ?_
                  obtain ⟨g12, h0⟩ := xgo h0
                  refine x_iald C (ta_2 ht) (ib_in g12) d_Taste_worth_117 ?_
                  refine x_isub C d_Taste_worth_118 ?_
                  obtain ⟨g13, h0⟩ := xgo h0
                  refine x_iast C (ta_2 ht) (ib_in g13) d_Taste_worth_119 ?_
                  obtain ⟨σ14, eσ14, h0⟩ := xlet h0
                  refine x_sig C eσ14 ?_
                  refine x_goto C 251 d_Taste_worth_120 (by decide) ?_
                  exact x_lv C [2, 3, 4, 0, 5] rfl (b_Taste_worth_251 C hr hk hd hR ht hp0 hrec7 h0)
                · replace h0 := xif q11 h0
                  exact x_lv C [] rfl (b_Taste_worth_100 C hr hk hd hR ht hp0 h0)
          · replace h0 := xif q8 h0
            refine x_iload_n C d_Taste_worth_52 4 rfl ?_
            refine x_if_lt C 62 d_Taste_worth_53 (by decide) (fun q38 => ?_) (fun q38 => ?_)
            · replace h0 := xit q38 h0
              exact x_lv C [] rfl (b_Taste_worth_62 C hr hk hd hR ht hp0 h0)
            · replace h0 := xif q38 h0
              refine x_iload_n C d_Taste_worth_56 4 rfl ?_
              refine x_bipush (v := 64) C d_Taste_worth_57 (by decide) ?_
              refine x_icmp_lt C 64 d_Taste_worth_59 (by decide) (fun q39 => ?_) (fun q39 => ?_)
              · replace h0 := xit q39 h0
                refine x_aload_n C d_Taste_worth_64 2 rfl ?_
                refine x_getR (y := 2) C fg_Taste_19 (ta_0 ht) rfl d_Taste_worth_65 ?_
                refine x_iload_n C d_Taste_worth_68 4 rfl ?_
                refine x_iload C d_Taste_worth_69 1 rfl ?_
                refine x_aload_n C d_Taste_worth_71 3 rfl ?_
                obtain ⟨r41, σ42, k40, h0⟩ := xbind2 h0
                refine x_callSi C hR (c_Taste_valueOf (d := d) (by omega) hp0 k40) cw_Taste_30 w_939 rfl rfl (Nat.le_of_ble_eq_true rfl) ⟨Nat.zero_le _, Nat.zero_le _⟩ d_Taste_worth_72 ?_
                obtain ⟨g43, h0⟩ := xgo h0
                refine x_iast C (ta_2 ht) (ib_in g43) d_Taste_worth_75 ?_
                obtain ⟨σ44, eσ44, h0⟩ := xlet h0
                refine x_sig C eσ44 ?_
                obtain ⟨x45, ex45, h0⟩ := xlet h0
                refine x_iinc (lv' := [(2, .int x45), (3, .int x7), (5, .int x6), (0, .ref (G.2.2.1 + t)), (1, .ref (G.2.2.1 + p0)), (4, .int y4)]) C d_Taste_worth_76 4 rfl ex45 (by decide) rfl ?_
                refine x_goto C 251 d_Taste_worth_79 (by decide) ?_
                exact x_lv C [3, 4, 0, 1, 5] rfl (b_Taste_worth_251 C hr hk hd hR ht hp0 hrec7 h0)
              · replace h0 := xif q39 h0
                exact x_lv C [] rfl (b_Taste_worth_62 C hr hk hd hR ht hp0 h0)
theorem b_Taste_worth_7 {G : XG} {l : Launch} {p : Program} {e : Env} {R : Room} {s : State} {m : MethodId} {args : Array Value} {below : List Frame} {meth : Method} {c : Code} (C : XC G 1 570 p s m args c prog_11_method_6_code 6 R_Taste) (hr : meth.sig.returnType = (some .int)) (hk : meth.locks = false) {d : Nat} (hd : 2 ≤ d + 1) (hR : xroom R (d + 1)) {t : Nat} {p0 : Nat} (ht : t ∈ xTastes) (hp0 : xin 1 570 p0 (2, 6, 0)) {σ' : LH} {r : Int32} : ∀ (n : Nat) (y2 : Int32) (y3 : Int32) (y4 : Int32) (σ : LH), s_Taste_worth_7 t p0 n y2 y3 y4 σ = some (r, σ') → XJ G 1 570 p l e R s m args below meth c 6 (XQ G 1 570 below args s (some (.int r)) σ') 0 0 7 [(0, .ref (G.2.2.1 + t)), (1, .ref (G.2.2.1 + p0)), (2, .int y2), (3, .int y3), (4, .int y4)] [] σ := by
  intro n
  induction n with
  | zero => intro y2 y3 y4 σ h0; cases h0
  | succ n ih => intro y2 y3 y4 σ h0; exact bb_Taste_worth_7 C hr hk hd hR ht hp0 ih h0
def s_Taste_worth (t : Nat) (p0 : Nat) (σ : LH) : Option (Int32 × LH) :=
  s_Taste_worth_7 t p0 FUEL 0 0 0 σ
theorem c_Taste_worth {G : XG} {l : Launch} {d : Nat} (hd : 2 ≤ d) {t : Nat} {p0 : Nat} (ht : t ∈ xTastes) (hp0 : xin 1 570 p0 (2, 6, 0)) {σ σ' : LH} {r : Int32} (h0 : s_Taste_worth t p0 σ = some (r, σ')) : xM G 1 570 l y_Taste_worth prog_11_method_6_code 6 (some .int) d [.ref (G.2.2.1 + t), .ref (G.2.2.1 + p0)] σ (some (.int r)) σ' := by
  obtain ⟨d, rfl⟩ : ∃ q, d = q + 1 := ⟨d - 1, by omega⟩
  refine x_met R_Taste rfl (by decide +kernel) (Nat.le_of_ble_eq_true rfl) fun p e s m below meth c C hr hk hR => ?_
  refine x_lv (lv' := [(0, .ref (G.2.2.1 + t)), (1, .ref (G.2.2.1 + p0))]) C [0, 1] rfl ?_
  generalize xrm (d + 1) = R at hR ⊢
  unfold s_Taste_worth at h0
  refine x_iconst (v := 0) C d_Taste_worth_0 (by decide) ?_
  refine x_istore_n (lv' := [(2, .int 0), (0, .ref (G.2.2.1 + t)), (1, .ref (G.2.2.1 + p0))]) C d_Taste_worth_1 rfl (by decide) rfl ?_
  refine x_iconst (v := 0) C d_Taste_worth_2 (by decide) ?_
  refine x_istore_n (lv' := [(3, .int 0), (2, .int 0), (0, .ref (G.2.2.1 + t)), (1, .ref (G.2.2.1 + p0))]) C d_Taste_worth_3 rfl (by decide) rfl ?_
  refine x_iconst (v := 0) C d_Taste_worth_4 (by decide) ?_
  refine x_istore (lv' := [(4, .int 0), (3, .int 0), (2, .int 0), (0, .ref (G.2.2.1 + t)), (1, .ref (G.2.2.1 + p0))]) C d_Taste_worth_5 (by decide) rfl ?_
  exact x_lv C [3, 4, 2, 1, 0] rfl (b_Taste_worth_7 C hr hk hd hR ht hp0 FUEL _ _ _ _ h0)
-- LostPlaces$Likings.fill(ILLostPlaces$Taste;)V
theorem d_Likings_fill_0 : decode prog_7_method_3_code 0 = .ok (.iconst 0, 1) := by decide +kernel
theorem d_Likings_fill_1 : decode prog_7_method_3_code 1 = .ok (.istore_n 3, 1) := by decide +kernel
theorem d_Likings_fill_2 : decode prog_7_method_3_code 2 = .ok (.iload_n 3, 1) := by decide +kernel
theorem d_Likings_fill_3 : decode prog_7_method_3_code 3 = .ok (.aload_n 0, 1) := by decide +kernel
theorem d_Likings_fill_4 : decode prog_7_method_3_code 4 = .ok (.getfield 38, 3) := by decide +kernel
theorem d_Likings_fill_7 : decode prog_7_method_3_code 7 = .ok (.getfield 62, 3) := by decide +kernel
theorem d_Likings_fill_10 : decode prog_7_method_3_code 10 = .ok (.if_icmp .ge 216, 3) := by decide +kernel
theorem d_Likings_fill_13 : decode prog_7_method_3_code 13 = .ok (.iconst 0, 1) := by decide +kernel
theorem d_Likings_fill_14 : decode prog_7_method_3_code 14 = .ok (.istore 4, 2) := by decide +kernel
theorem d_Likings_fill_16 : decode prog_7_method_3_code 16 = .ok (.iload 4, 2) := by decide +kernel
theorem d_Likings_fill_18 : decode prog_7_method_3_code 18 = .ok (.aload_n 0, 1) := by decide +kernel
theorem d_Likings_fill_19 : decode prog_7_method_3_code 19 = .ok (.getfield 38, 3) := by decide +kernel
theorem d_Likings_fill_22 : decode prog_7_method_3_code 22 = .ok (.getfield 65, 3) := by decide +kernel
theorem d_Likings_fill_25 : decode prog_7_method_3_code 25 = .ok (.if_icmp .ge 195, 3) := by decide +kernel
theorem d_Likings_fill_28 : decode prog_7_method_3_code 28 = .ok (.aload_n 0, 1) := by decide +kernel
theorem d_Likings_fill_29 : decode prog_7_method_3_code 29 = .ok (.getfield 31, 3) := by decide +kernel
theorem d_Likings_fill_32 : decode prog_7_method_3_code 32 = .ok (.iconst 0, 1) := by decide +kernel
theorem d_Likings_fill_33 : decode prog_7_method_3_code 33 = .ok (.aload_n 0, 1) := by decide +kernel
theorem d_Likings_fill_34 : decode prog_7_method_3_code 34 = .ok (.getfield 38, 3) := by decide +kernel
theorem d_Likings_fill_37 : decode prog_7_method_3_code 37 = .ok (.getfield 68, 3) := by decide +kernel
theorem d_Likings_fill_40 : decode prog_7_method_3_code 40 = .ok (.iload 4, 2) := by decide +kernel
theorem d_Likings_fill_42 : decode prog_7_method_3_code 42 = .ok (.iaload, 1) := by decide +kernel
theorem d_Likings_fill_43 : decode prog_7_method_3_code 43 = .ok (.iastore, 1) := by decide +kernel
theorem d_Likings_fill_44 : decode prog_7_method_3_code 44 = .ok (.aload_n 0, 1) := by decide +kernel
theorem d_Likings_fill_45 : decode prog_7_method_3_code 45 = .ok (.getfield 31, 3) := by decide +kernel
theorem d_Likings_fill_48 : decode prog_7_method_3_code 48 = .ok (.iconst 1, 1) := by decide +kernel
theorem d_Likings_fill_49 : decode prog_7_method_3_code 49 = .ok (.iload_n 1, 1) := by decide +kernel
theorem d_Likings_fill_50 : decode prog_7_method_3_code 50 = .ok (.aload_n 0, 1) := by decide +kernel
theorem d_Likings_fill_51 : decode prog_7_method_3_code 51 = .ok (.getfield 38, 3) := by decide +kernel
theorem d_Likings_fill_54 : decode prog_7_method_3_code 54 = .ok (.getfield 51, 3) := by decide +kernel
theorem d_Likings_fill_57 : decode prog_7_method_3_code 57 = .ok (.if_icmp .ge 7, 3) := by decide +kernel
theorem d_Likings_fill_60 : decode prog_7_method_3_code 60 = .ok (.iconst 0, 1) := by decide +kernel
theorem d_Likings_fill_61 : decode prog_7_method_3_code 61 = .ok (.goto 13, 3) := by decide +kernel
theorem d_Likings_fill_64 : decode prog_7_method_3_code 64 = .ok (.aload_n 0, 1) := by decide +kernel
theorem d_Likings_fill_65 : decode prog_7_method_3_code 65 = .ok (.getfield 38, 3) := by decide +kernel
theorem d_Likings_fill_68 : decode prog_7_method_3_code 68 = .ok (.getfield 71, 3) := by decide +kernel
theorem d_Likings_fill_71 : decode prog_7_method_3_code 71 = .ok (.iload 4, 2) := by decide +kernel
theorem d_Likings_fill_73 : decode prog_7_method_3_code 73 = .ok (.iaload, 1) := by decide +kernel
theorem d_Likings_fill_74 : decode prog_7_method_3_code 74 = .ok (.iastore, 1) := by decide +kernel
theorem d_Likings_fill_75 : decode prog_7_method_3_code 75 = .ok (.aload_n 0, 1) := by decide +kernel
theorem d_Likings_fill_76 : decode prog_7_method_3_code 76 = .ok (.getfield 31, 3) := by decide +kernel
theorem d_Likings_fill_79 : decode prog_7_method_3_code 79 = .ok (.iconst 2, 1) := by decide +kernel
theorem d_Likings_fill_80 : decode prog_7_method_3_code 80 = .ok (.aload_n 0, 1) := by decide +kernel
theorem d_Likings_fill_81 : decode prog_7_method_3_code 81 = .ok (.getfield 38, 3) := by decide +kernel
theorem d_Likings_fill_84 : decode prog_7_method_3_code 84 = .ok (.getfield 74, 3) := by decide +kernel
theorem d_Likings_fill_87 : decode prog_7_method_3_code 87 = .ok (.iload 4, 2) := by decide +kernel
theorem d_Likings_fill_89 : decode prog_7_method_3_code 89 = .ok (.iaload, 1) := by decide +kernel
theorem d_Likings_fill_90 : decode prog_7_method_3_code 90 = .ok (.iastore, 1) := by decide +kernel
theorem d_Likings_fill_91 : decode prog_7_method_3_code 91 = .ok (.aload_n 0, 1) := by decide +kernel
theorem d_Likings_fill_92 : decode prog_7_method_3_code 92 = .ok (.getfield 31, 3) := by decide +kernel
theorem d_Likings_fill_95 : decode prog_7_method_3_code 95 = .ok (.iconst 3, 1) := by decide +kernel
theorem d_Likings_fill_96 : decode prog_7_method_3_code 96 = .ok (.aload_n 0, 1) := by decide +kernel
theorem d_Likings_fill_97 : decode prog_7_method_3_code 97 = .ok (.getfield 38, 3) := by decide +kernel
theorem d_Likings_fill_100 : decode prog_7_method_3_code 100 = .ok (.getfield 77, 3) := by decide +kernel
theorem d_Likings_fill_103 : decode prog_7_method_3_code 103 = .ok (.iload_n 3, 1) := by decide +kernel
theorem d_Likings_fill_104 : decode prog_7_method_3_code 104 = .ok (.iaload, 1) := by decide +kernel
theorem d_Likings_fill_105 : decode prog_7_method_3_code 105 = .ok (.iastore, 1) := by decide +kernel
theorem d_Likings_fill_106 : decode prog_7_method_3_code 106 = .ok (.aload_n 0, 1) := by decide +kernel
theorem d_Likings_fill_107 : decode prog_7_method_3_code 107 = .ok (.getfield 31, 3) := by decide +kernel
theorem d_Likings_fill_110 : decode prog_7_method_3_code 110 = .ok (.iconst 4, 1) := by decide +kernel
theorem d_Likings_fill_111 : decode prog_7_method_3_code 111 = .ok (.iload_n 1, 1) := by decide +kernel
theorem d_Likings_fill_112 : decode prog_7_method_3_code 112 = .ok (.iastore, 1) := by decide +kernel
theorem d_Likings_fill_113 : decode prog_7_method_3_code 113 = .ok (.aload_n 0, 1) := by decide +kernel
theorem d_Likings_fill_114 : decode prog_7_method_3_code 114 = .ok (.getfield 31, 3) := by decide +kernel
theorem d_Likings_fill_117 : decode prog_7_method_3_code 117 = .ok (.iconst 5, 1) := by decide +kernel
theorem d_Likings_fill_118 : decode prog_7_method_3_code 118 = .ok (.iload_n 3, 1) := by decide +kernel
theorem d_Likings_fill_119 : decode prog_7_method_3_code 119 = .ok (.iastore, 1) := by decide +kernel
theorem d_Likings_fill_120 : decode prog_7_method_3_code 120 = .ok (.aload_n 2, 1) := by decide +kernel
theorem d_Likings_fill_121 : decode prog_7_method_3_code 121 = .ok (.ifnonnull 19, 3) := by decide +kernel
theorem d_Likings_fill_124 : decode prog_7_method_3_code 124 = .ok (.aload_n 0, 1) := by decide +kernel
theorem d_Likings_fill_125 : decode prog_7_method_3_code 125 = .ok (.getfield 31, 3) := by decide +kernel
theorem d_Likings_fill_128 : decode prog_7_method_3_code 128 = .ok (.iconst 0, 1) := by decide +kernel
theorem d_Likings_fill_129 : decode prog_7_method_3_code 129 = .ok (.iaload, 1) := by decide +kernel
theorem d_Likings_fill_130 : decode prog_7_method_3_code 130 = .ok (.aload_n 0, 1) := by decide +kernel
theorem d_Likings_fill_131 : decode prog_7_method_3_code 131 = .ok (.getfield 31, 3) := by decide +kernel
theorem d_Likings_fill_134 : decode prog_7_method_3_code 134 = .ok (.iconst 1, 1) := by decide +kernel
theorem d_Likings_fill_135 : decode prog_7_method_3_code 135 = .ok (.iaload, 1) := by decide +kernel
theorem d_Likings_fill_136 : decode prog_7_method_3_code 136 = .ok (.iadd, 1) := by decide +kernel
theorem d_Likings_fill_137 : decode prog_7_method_3_code 137 = .ok (.goto 11, 3) := by decide +kernel
theorem d_Likings_fill_140 : decode prog_7_method_3_code 140 = .ok (.aload_n 2, 1) := by decide +kernel
theorem d_Likings_fill_141 : decode prog_7_method_3_code 141 = .ok (.aload_n 0, 1) := by decide +kernel
theorem d_Likings_fill_142 : decode prog_7_method_3_code 142 = .ok (.getfield 31, 3) := by decide +kernel
theorem d_Likings_fill_145 : decode prog_7_method_3_code 145 = .ok (.invokevirtual 80, 3) := by decide +kernel
theorem d_Likings_fill_148 : decode prog_7_method_3_code 148 = .ok (.istore 5, 2) := by decide +kernel
theorem d_Likings_fill_150 : decode prog_7_method_3_code 150 = .ok (.iload_n 1, 1) := by decide +kernel
theorem d_Likings_fill_151 : decode prog_7_method_3_code 151 = .ok (.bipush 64, 2) := by decide +kernel
theorem d_Likings_fill_153 : decode prog_7_method_3_code 153 = .ok (.imul, 1) := by decide +kernel
theorem d_Likings_fill_154 : decode prog_7_method_3_code 154 = .ok (.iload_n 3, 1) := by decide +kernel
theorem d_Likings_fill_155 : decode prog_7_method_3_code 155 = .ok (.bipush 8, 2) := by decide +kernel
theorem d_Likings_fill_157 : decode prog_7_method_3_code 157 = .ok (.imul, 1) := by decide +kernel
theorem d_Likings_fill_158 : decode prog_7_method_3_code 158 = .ok (.iadd, 1) := by decide +kernel
theorem d_Likings_fill_159 : decode prog_7_method_3_code 159 = .ok (.iload 4, 2) := by decide +kernel
theorem d_Likings_fill_161 : decode prog_7_method_3_code 161 = .ok (.iadd, 1) := by decide +kernel
theorem d_Likings_fill_162 : decode prog_7_method_3_code 162 = .ok (.istore 6, 2) := by decide +kernel
theorem d_Likings_fill_164 : decode prog_7_method_3_code 164 = .ok (.iload 6, 2) := by decide +kernel
theorem d_Likings_fill_166 : decode prog_7_method_3_code 166 = .ok (.ifCond .lt 48, 3) := by decide +kernel
theorem d_Likings_fill_169 : decode prog_7_method_3_code 169 = .ok (.iload 6, 2) := by decide +kernel
theorem d_Likings_fill_171 : decode prog_7_method_3_code 171 = .ok (.aload_n 0, 1) := by decide +kernel
theorem d_Likings_fill_172 : decode prog_7_method_3_code 172 = .ok (.getfield 11, 3) := by decide +kernel
theorem d_Likings_fill_175 : decode prog_7_method_3_code 175 = .ok (.arraylength, 1) := by decide +kernel
theorem d_Likings_fill_176 : decode prog_7_method_3_code 176 = .ok (.if_icmp .lt 6, 3) := by decide +kernel
theorem d_Likings_fill_179 : decode prog_7_method_3_code 179 = .ok (.goto 35, 3) := by decide +kernel
theorem d_Likings_fill_182 : decode prog_7_method_3_code 182 = .ok (.aload_n 0, 1) := by decide +kernel
theorem d_Likings_fill_183 : decode prog_7_method_3_code 183 = .ok (.getfield 11, 3) := by decide +kernel
theorem d_Likings_fill_186 : decode prog_7_method_3_code 186 = .ok (.iload 6, 2) := by decide +kernel
theorem d_Likings_fill_188 : decode prog_7_method_3_code 188 = .ok (.iload 5, 2) := by decide +kernel
theorem d_Likings_fill_190 : decode prog_7_method_3_code 190 = .ok (.ifCond .ge 7, 3) := by decide +kernel
theorem d_Likings_fill_193 : decode prog_7_method_3_code 193 = .ok (.iconst 0, 1) := by decide +kernel
theorem d_Likings_fill_194 : decode prog_7_method_3_code 194 = .ok (.goto 19, 3) := by decide +kernel
theorem d_Likings_fill_197 : decode prog_7_method_3_code 197 = .ok (.iload 5, 2) := by decide +kernel
theorem d_Likings_fill_199 : decode prog_7_method_3_code 199 = .ok (.sipush 999, 3) := by decide +kernel
theorem d_Likings_fill_202 : decode prog_7_method_3_code 202 = .ok (.if_icmp .le 9, 3) := by decide +kernel
theorem d_Likings_fill_205 : decode prog_7_method_3_code 205 = .ok (.sipush 999, 3) := by decide +kernel
theorem d_Likings_fill_208 : decode prog_7_method_3_code 208 = .ok (.goto 5, 3) := by decide +kernel
theorem d_Likings_fill_211 : decode prog_7_method_3_code 211 = .ok (.iload 5, 2) := by decide +kernel
theorem d_Likings_fill_213 : decode prog_7_method_3_code 213 = .ok (.iastore, 1) := by decide +kernel
theorem d_Likings_fill_214 : decode prog_7_method_3_code 214 = .ok (.iinc 4 1, 3) := by decide +kernel
theorem d_Likings_fill_217 : decode prog_7_method_3_code 217 = .ok (.goto (-201), 3) := by decide +kernel
theorem d_Likings_fill_220 : decode prog_7_method_3_code 220 = .ok (.iinc 3 1, 3) := by decide +kernel
theorem d_Likings_fill_223 : decode prog_7_method_3_code 223 = .ok (.goto (-221), 3) := by decide +kernel
theorem d_Likings_fill_226 : decode prog_7_method_3_code 226 = .ok (.return_, 1) := by decide +kernel
def s_Likings_fill_214 (p0 : Int32) (p1 : Nat) (rec16 : Int32 → Int32 → LH → Option (LH)) (y3 : Int32) (y4 : Int32) (σ : LH) : Option (LH) :=
  xl ((y4 + 1) : Int32) fun x26 =>
  rec16 y3 x26 σ
theorem b_Likings_fill_214 {G : XG} {l : Launch} {p : Program} {e : Env} {R : Room} {s : State} {m : MethodId} {args : Array Value} {below : List Frame} {meth : Method} {c : Code} (C : XC G 1 570 p s m args c prog_7_method_3_code 7 R_Likings) (hr : meth.sig.returnType = none) (hk : meth.locks = false) {d : Nat} (hd : 3 ≤ d + 1) (hR : xroom R (d + 1)) {p0 : Int32} {p1 : Nat} (hp1 : p1 = 0 ∨ p1 ∈ xTastes) {rec16 : Int32 → Int32 → LH → Option (LH)} {σ' : LH} (hrec16 : ∀ (y3 : Int32) (y4 : Int32) (σ : LH), rec16 y3 y4 σ = some σ' → XJ G 1 570 p l e R s m args below meth c 7 (XQ G 1 570 below args s none σ') 0 0 16 [(0, .ref (G.2.2.1 + 33)), (1, .int p0), (2, (xq G p1)), (3, .int y3), (4, .int y4)] [] σ) {y3 : Int32} {y4 : Int32} {σ : LH} (h0 : s_Likings_fill_214 p0 p1 rec16 y3 y4 σ = some σ') : XJ G 1 570 p l e R s m args below meth c 7 (XQ G 1 570 below args s none σ') 0 0 214 [(0, .ref (G.2.2.1 + 33)), (1, .int p0), (2, (xq G p1)), (3, .int y3), (4, .int y4)] [] σ := by
  replace h0 := (show _ = _ from h0)
  unfold s_Likings_fill_214 at h0
  obtain ⟨x26, ex26, h0⟩ := xlet h0
  refine x_iinc (lv' := [(4, .int x26), (0, .ref (G.2.2.1 + 33)), (1, .int p0), (2, (xq G p1)), (3, .int y3)]) C d_Likings_fill_214 4 rfl ex26 (by decide) (by unfold xq; split <;> rfl) ?_
  refine x_goto C 16 d_Likings_fill_217 (by decide) ?_
  exact x_lv C [1, 2, 3, 4, 0] rfl (hrec16 _ _ _ h0)
def s_Likings_fill_213 (p0 : Int32) (p1 : Nat) (rec16 : Int32 → Int32 → LH → Option (LH)) (y3 : Int32) (y4 : Int32) (z1 : Int32) (z2 : Int32) (σ : LH) : Option (LH) :=
  if ib z1 6400 then (
  xl ((stI σ 34 (Int32.toNatClampNeg z1) z2) : LH) fun σ31 =>
  s_Likings_fill_214 p0 p1 rec16 y3 y4 σ31) else none
theorem b_Likings_fill_213 {G : XG} {l : Launch} {p : Program} {e : Env} {R : Room} {s : State} {m : MethodId} {args : Array Value} {below : List Frame} {meth : Method} {c : Code} (C : XC G 1 570 p s m args c prog_7_method_3_code 7 R_Likings) (hr : meth.sig.returnType = none) (hk : meth.locks = false) {d : Nat} (hd : 3 ≤ d + 1) (hR : xroom R (d + 1)) {p0 : Int32} {p1 : Nat} (hp1 : p1 = 0 ∨ p1 ∈ xTastes) {rec16 : Int32 → Int32 → LH → Option (LH)} {σ' : LH} (hrec16 : ∀ (y3 : Int32) (y4 : Int32) (σ : LH), rec16 y3 y4 σ = some σ' → XJ G 1 570 p l e R s m args below meth c 7 (XQ G 1 570 below args s none σ') 0 0 16 [(0, .ref (G.2.2.1 + 33)), (1, .int p0), (2, (xq G p1)), (3, .int y3), (4, .int y4)] [] σ) {y3 : Int32} {y4 : Int32} {z1 : Int32} {z2 : Int32} {σ : LH} (h0 : s_Likings_fill_213 p0 p1 rec16 y3 y4 z1 z2 σ = some σ') : XJ G 1 570 p l e R s m args below meth c 7 (XQ G 1 570 below args s none σ') 0 0 213 [(0, .ref (G.2.2.1 + 33)), (1, .int p0), (2, (xq G p1)), (3, .int y3), (4, .int y4)] [.int z2, .int z1, .ref (G.2.2.1 + 34)] σ := by
  replace h0 := (show _ = _ from h0)
  unfold s_Likings_fill_213 at h0
  obtain ⟨g30, h0⟩ := xgo h0
  refine x_iast C k_34 (ib_in g30) d_Likings_fill_213 ?_
  obtain ⟨σ31, eσ31, h0⟩ := xlet h0
  refine x_sig C eσ31 ?_
  exact x_lv C [0, 1, 2, 3, 4] rfl (b_Likings_fill_214 C hr hk hd hR hp1 hrec16 h0)
def s_Likings_fill_148 (p0 : Int32) (p1 : Nat) (rec16 : Int32 → Int32 → LH → Option (LH)) (y3 : Int32) (y4 : Int32) (z0 : Int32) (σ : LH) : Option (LH) :=
  xl (((((p0 * 64) + (y3 * 8)) + y4)) : Int32) fun x24 =>
  if x24 < 0 then (
   s_Likings_fill_214 p0 p1 rec16 y3 y4 σ)
  else (
   if x24 < 6400 then (
    if 0 ≤ z0 then (
     if z0 ≤ 999 then (
      s_Likings_fill_213 p0 p1 rec16 y3 y4 x24 z0 σ)
     else (
      s_Likings_fill_213 p0 p1 rec16 y3 y4 x24 999 σ))
    else (
     s_Likings_fill_213 p0 p1 rec16 y3 y4 x24 0 σ))
   else (
    s_Likings_fill_214 p0 p1 rec16 y3 y4 σ))
theorem b_Likings_fill_148 {G : XG} {l : Launch} {p : Program} {e : Env} {R : Room} {s : State} {m : MethodId} {args : Array Value} {below : List Frame} {meth : Method} {c : Code} (C : XC G 1 570 p s m args c prog_7_method_3_code 7 R_Likings) (hr : meth.sig.returnType = none) (hk : meth.locks = false) {d : Nat} (hd : 3 ≤ d + 1) (hR : xroom R (d + 1)) {p0 : Int32} {p1 : Nat} (hp1 : p1 = 0 ∨ p1 ∈ xTastes) {rec16 : Int32 → Int32 → LH → Option (LH)} {σ' : LH} (hrec16 : ∀ (y3 : Int32) (y4 : Int32) (σ : LH), rec16 y3 y4 σ = some σ' → XJ G 1 570 p l e R s m args below meth c 7 (XQ G 1 570 below args s none σ') 0 0 16 [(0, .ref (G.2.2.1 + 33)), (1, .int p0), (2, (xq G p1)), (3, .int y3), (4, .int y4)] [] σ) {y3 : Int32} {y4 : Int32} {z0 : Int32} {σ : LH} (h0 : s_Likings_fill_148 p0 p1 rec16 y3 y4 z0 σ = some σ') : XJ G 1 570 p l e R s m args below meth c 7 (XQ G 1 570 below args s none σ') 0 0 148 [(0, .ref (G.2.2.1 + 33)), (1, .int p0), (2, (xq G p1)), (3, .int y3), (4, .int y4)] [.int z0] σ := by
  replace h0 := (show _ = _ from h0)
  unfold s_Likings_fill_148 at h0
  refine x_istore (lv' := [(5, .int z0), (0, .ref (G.2.2.1 + 33)), (1, .int p0), (2, (xq G p1)), (3, .int y3), (4, .int y4)]) C d_Likings_fill_148 (by decide) (by unfold xq; split <;> rfl) ?_
  refine x_iload_n C d_Likings_fill_150 2 rfl ?_
  refine x_bipush (v := 64) C d_Likings_fill_151 (by decide) ?_
  refine x_imul C d_Likings_fill_153 ?_
  refine x_iload_n C d_Likings_fill_154 4 rfl ?_
  refine x_bipush (v := 8) C d_Likings_fill_155 (by decide) ?_
  refine x_imul C d_Likings_fill_157 ?_
  refine x_iadd C d_Likings_fill_158 ?_
  refine x_iload C d_Likings_fill_159 5 rfl ?_
  refine x_iadd C d_Likings_fill_161 ?_
  obtain ⟨x24, ex24, h0⟩ := xlet h0
  refine x_name C ex24 ?_
  refine x_istore (lv' := [(6, .int x24), (5, .int z0), (0, .ref (G.2.2.1 + 33)), (1, .int p0), (2, (xq G p1)), (3, .int y3), (4, .int y4)]) C d_Likings_fill_162 (by decide) (by unfold xq; split <;> rfl) ?_
  refine x_iload C d_Likings_fill_164 0 rfl ?_
  refine x_if_lt C 214 d_Likings_fill_166 (by decide) (fun q25 => ?_) (fun q25 => ?_)
  · replace h0 := xit q25 h0
    exact x_lv C [2, 3, 4, 5, 6] rfl (b_Likings_fill_214 C hr hk hd hR hp1 hrec16 h0)
  · replace h0 := xif q25 h0
    refine x_iload C d_Likings_fill_169 0 rfl ?_
    refine x_aload_n C d_Likings_fill_171 2 rfl ?_
    refine x_getA (y := 34) C fg_Likings_11 k_33 rfl d_Likings_fill_172 ?_
    refine x_ilen (v := 6400) C k_34 rfl d_Likings_fill_175 ?_
    refine x_icmp_lt C 182 d_Likings_fill_176 (by decide) (fun q27 => ?_) (fun q27 => ?_)
    · replace h0 := xit q27 h0
      refine x_aload_n C d_Likings_fill_182 2 rfl ?_
      refine x_getA (y := 34) C fg_Likings_11 k_33 rfl d_Likings_fill_183 ?_
      refine x_iload C d_Likings_fill_186 0 rfl ?_
      refine x_iload C d_Likings_fill_188 1 rfl ?_
      refine x_if_ge C 197 d_Likings_fill_190 (by decide) (fun q28 => ?_) (fun q28 => ?_)
      · replace h0 := xit q28 h0
        refine x_iload C d_Likings_fill_197 1 rfl ?_
        refine x_sipush (v := 999) C d_Likings_fill_199 (by decide) ?_
        refine x_icmp_le C 211 d_Likings_fill_202 (by decide) (fun q29 => ?_) (fun q29 => ?_)
        · replace h0 := xit q29 h0
          refine x_iload C d_Likings_fill_211 1 rfl ?_
          exact x_lv C [2, 3, 4, 5, 6] rfl (b_Likings_fill_213 C hr hk hd hR hp1 hrec16 h0)
        · replace h0 := xif q29 h0
          refine x_sipush (v := 999) C d_Likings_fill_205 (by decide) ?_
          refine x_goto C 213 d_Likings_fill_208 (by decide) ?_
          exact x_lv C [2, 3, 4, 5, 6] rfl (b_Likings_fill_213 C hr hk hd hR hp1 hrec16 h0)
      · replace h0 := xif q28 h0
        refine x_iconst (v := 0) C d_Likings_fill_193 (by decide) ?_
        refine x_goto C 213 d_Likings_fill_194 (by decide) ?_
        exact x_lv C [2, 3, 4, 5, 6] rfl (b_Likings_fill_213 C hr hk hd hR hp1 hrec16 h0)
    · replace h0 := xif q27 h0
      refine x_goto C 214 d_Likings_fill_179 (by decide) ?_
      exact x_lv C [2, 3, 4, 5, 6] rfl (b_Likings_fill_214 C hr hk hd hR hp1 hrec16 h0)
def s_Likings_fill_74 (p0 : Int32) (p1 : Nat) (rec16 : Int32 → Int32 → LH → Option (LH)) (y3 : Int32) (y4 : Int32) (z1 : Int32) (z2 : Int32) (σ : LH) : Option (LH) :=
  if ib z1 6 then (
  xl ((stI σ 37 (Int32.toNatClampNeg z1) z2) : LH) fun σ10 =>
  if ib y4 8 then (
  if ib 2 6 then (
  xl ((stI σ10 37 (Int32.toNatClampNeg 2) (σ10.1 7 (Int32.toNatClampNeg y4))) : LH) fun σ13 =>
  if ib y3 8 then (
  if ib 3 6 then (
  xl ((stI σ13 37 (Int32.toNatClampNeg 3) (σ13.1 9 (Int32.toNatClampNeg y3))) : LH) fun σ16 =>
  if ib 4 6 then (
  xl ((stI σ16 37 (Int32.toNatClampNeg 4) p0) : LH) fun σ18 =>
  if ib 5 6 then (
  xl ((stI σ18 37 (Int32.toNatClampNeg 5) y3) : LH) fun σ20 =>
  if p1 = 0 then (
   if ib 0 6 then (
   if ib 1 6 then (
   s_Likings_fill_148 p0 p1 rec16 y3 y4 ((σ20.1 37 (Int32.toNatClampNeg 0)) + (σ20.1 37 (Int32.toNatClampNeg 1))) σ20) else none) else none)
  else (
   if ¬ p1 = 0 then (
   xb2 (s_Taste_worth p1 37 σ20) fun r34 σ35 =>
   s_Likings_fill_148 p0 p1 rec16 y3 y4 r34 σ35) else none)) else none) else none) else none) else none) else none) else none) else none
theorem b_Likings_fill_74 {G : XG} {l : Launch} {p : Program} {e : Env} {R : Room} {s : State} {m : MethodId} {args : Array Value} {below : List Frame} {meth : Method} {c : Code} (C : XC G 1 570 p s m args c prog_7_method_3_code 7 R_Likings) (hr : meth.sig.returnType = none) (hk : meth.locks = false) {d : Nat} (hd : 3 ≤ d + 1) (hR : xroom R (d + 1)) {p0 : Int32} {p1 : Nat} (hp1 : p1 = 0 ∨ p1 ∈ xTastes) {rec16 : Int32 → Int32 → LH → Option (LH)} {σ' : LH} (hrec16 : ∀ (y3 : Int32) (y4 : Int32) (σ : LH), rec16 y3 y4 σ = some σ' → XJ G 1 570 p l e R s m args below meth c 7 (XQ G 1 570 below args s none σ') 0 0 16 [(0, .ref (G.2.2.1 + 33)), (1, .int p0), (2, (xq G p1)), (3, .int y3), (4, .int y4)] [] σ) {y3 : Int32} {y4 : Int32} {z1 : Int32} {z2 : Int32} {σ : LH} (h0 : s_Likings_fill_74 p0 p1 rec16 y3 y4 z1 z2 σ = some σ') : XJ G 1 570 p l e R s m args below meth c 7 (XQ G 1 570 below args s none σ') 0 0 74 [(0, .ref (G.2.2.1 + 33)), (1, .int p0), (2, (xq G p1)), (3, .int y3), (4, .int y4)] [.int z2, .int z1, .ref (G.2.2.1 + 37)] σ := by
  replace h0 := (show _ = _ from h0)
  unfold s_Likings_fill_74 at h0
  obtain ⟨g9, h0⟩ := xgo h0
  refine x_iast C k_37 (ib_in g9) d_Likings_fill_74 ?_
  obtain ⟨σ10, eσ10, h0⟩ := xlet h0
  refine x_sig C eσ10 ?_
  refine x_aload_n C d_Likings_fill_75 0 rfl ?_
  refine x_getA (y := 37) C fg_Likings_31 k_33 rfl d_Likings_fill_76 ?_
  refine x_iconst (v := 2) C d_Likings_fill_79 (by decide) ?_
  refine x_aload_n C d_Likings_fill_80 0 rfl ?_
  refine x_getA (y := 4) C fg_Likings_38 k_33 rfl d_Likings_fill_81 ?_
  refine x_getR (y := 3) C fg_Likings_74 k_4 rfl d_Likings_fill_84 ?_
  show XJ _ _ _ _ _ _ _ _ _ _ _ _ _ _ _ _ _ _ _ (.ref (G.2.2.1 + 7) :: _) _
  refine x_iload C d_Likings_fill_87 4 rfl ?_
  obtain ⟨g11, h0⟩ := xgo h0
  refine x_iald C k_7 (ib_in g11) d_Likings_fill_89 ?_
  obtain ⟨g12, h0⟩ := xgo h0
  refine x_iast C k_37 (ib_in g12) d_Likings_fill_90 ?_
  obtain ⟨σ13, eσ13, h0⟩ := xlet h0
  refine x_sig C eσ13 ?_
  refine x_aload_n C d_Likings_fill_91 0 rfl ?_
  refine x_getA (y := 37) C fg_Likings_31 k_33 rfl d_Likings_fill_92 ?_
  refine x_iconst (v := 3) C d_Likings_fill_95 (by decide) ?_
  refine x_aload_n C d_Likings_fill_96 0 rfl ?_
  refine x_getA (y := 4) C fg_Likings_38 k_33 rfl d_Likings_fill_97 ?_
  refine x_getR (y := 5) C fg_Likings_77 k_4 rfl d_Likings_fill_100 ?_
  show XJ _ _ _ _ _ _ _ _ _ _ _ _ _ _ _ _ _ _ _ (.ref (G.2.2.1 + 9) :: _) _
  refine x_iload_n C d_Likings_fill_103 3 rfl ?_
  obtain ⟨g14, h0⟩ := xgo h0
  refine x_iald C k_9 (ib_in g14) d_Likings_fill_104 ?_
  obtain ⟨g15, h0⟩ := xgo h0
  refine x_iast C k_37 (ib_in g15) d_Likings_fill_105 ?_
  obtain ⟨σ16, eσ16, h0⟩ := xlet h0
  refine x_sig C eσ16 ?_
  refine x_aload_n C d_Likings_fill_106 0 rfl ?_
  refine x_getA (y := 37) C fg_Likings_31 k_33 rfl d_Likings_fill_107 ?_
  refine x_iconst (v := 4) C d_Likings_fill_110 (by decide) ?_
  refine x_iload_n C d_Likings_fill_111 1 rfl ?_
  obtain ⟨g17, h0⟩ := xgo h0
  refine x_iast C k_37 (ib_in g17) d_Likings_fill_112 ?_
  obtain ⟨σ18, eσ18, h0⟩ := xlet h0
  refine x_sig C eσ18 ?_
  refine x_aload_n C d_Likings_fill_113 0 rfl ?_
  refine x_getA (y := 37) C fg_Likings_31 k_33 rfl d_Likings_fill_114 ?_
  refine x_iconst (v := 5) C d_Likings_fill_117 (by decide) ?_
  refine x_iload_n C d_Likings_fill_118 3 rfl ?_
  obtain ⟨g19, h0⟩ := xgo h0
  refine x_iast C k_37 (ib_in g19) d_Likings_fill_119 ?_
  obtain ⟨σ20, eσ20, h0⟩ := xlet h0
  refine x_sig C eσ20 ?_
  refine x_aloadQ_n C d_Likings_fill_120 2 rfl ?_
  refine x_ifnonnullQ C 140 d_Likings_fill_121 (by decide) (fun q21 => ?_) (fun q21 => ?_)
  · replace h0 := xif q21 h0
    refine x_aloadQ_n C d_Likings_fill_140 2 rfl ?_
    refine x_aload_n C d_Likings_fill_141 0 rfl ?_
    refine x_getA (y := 37) C fg_Likings_31 k_33 rfl d_Likings_fill_142 ?_
    obtain ⟨g32, h0⟩ := xgo h0
    refine x_fromQ1 C g32 ?_
    obtain ⟨r34, σ35, k33, h0⟩ := xbind2 h0
    refine x_callVi C hR (c_Taste_worth (d := d) (by omega) (hp1.resolve_left g32) k_37 k33) cw_Likings_80 (ta_0 (hp1.resolve_left g32)) rfl rfl rfl (Nat.le_of_ble_eq_true rfl) ⟨Nat.zero_le _, Nat.zero_le _⟩ d_Likings_fill_145 ?_
    exact x_lv C [0, 1, 2, 3, 4] rfl (b_Likings_fill_148 C hr hk hd hR hp1 hrec16 h0)
  · replace h0 := xit q21 h0
    refine x_aload_n C d_Likings_fill_124 0 rfl ?_
    refine x_getA (y := 37) C fg_Likings_31 k_33 rfl d_Likings_fill_125 ?_
    refine x_iconst (v := 0) C d_Likings_fill_128 (by decide) ?_
    obtain ⟨g22, h0⟩ := xgo h0
    refine x_iald C k_37 (ib_in g22) d_Likings_fill_129 ?_
    refine x_aload_n C d_Likings_fill_130 0 rfl ?_
    refine x_getA (y := 37) C fg_Likings_31 k_33 rfl d_Likings_fill_131 ?_
    refine x_iconst (v := 1) C d_Likings_fill_134 (by decide) ?_
    obtain ⟨g23, h0⟩ := xgo h0
    refine x_iald C k_37 (ib_in g23) d_Likings_fill_135 ?_
    refine x_iadd C d_Likings_fill_136 ?_
    refine x_goto C 148 d_Likings_fill_137 (by decide) ?_
    exact x_lv C [0, 1, 2, 3, 4] rfl (b_Likings_fill_148 C hr hk hd hR hp1 hrec16 h0)
def s_Likings_fill_16_b (p0 : Int32) (p1 : Nat) (rec2 : Int32 → LH → Option (LH)) (rec16 : Int32 → Int32 → LH → Option (LH)) (y3 : Int32) (y4 : Int32) (σ : LH) : Option (LH) :=
  if (σ.1 4 0) ≤ y4 then (
   xl ((y3 + 1) : Int32) fun x3 =>
   rec2 x3 σ)
  else (
   if ib y4 8 then (
   if ib 0 6 then (
   xl ((stI σ 37 (Int32.toNatClampNeg 0) (σ.1 5 (Int32.toNatClampNeg y4))) : LH) fun σ6 =>
   if (σ6.1 4 14) ≤ p0 then (
    if ib y4 8 then (
    s_Likings_fill_74 p0 p1 rec16 y3 y4 1 (σ6.1 6 (Int32.toNatClampNeg y4)) σ6) else none)
   else (
    s_Likings_fill_74 p0 p1 rec16 y3 y4 1 0 σ6)) else none) else none)
def s_Likings_fill_16 (p0 : Int32) (p1 : Nat) (rec2 : Int32 → LH → Option (LH)) : Nat → Int32 → Int32 → LH → Option (LH)
  | 0, _, _, _ => none
  | n + 1, y3, y4, σ => s_Likings_fill_16_b p0 p1 rec2 (s_Likings_fill_16 p0 p1 rec2 n) y3 y4 σ
theorem bb_Likings_fill_16 {G : XG} {l : Launch} {p : Program} {e : Env} {R : Room} {s : State} {m : MethodId} {args : Array Value} {below : List Frame} {meth : Method} {c : Code} (C : XC G 1 570 p s m args c prog_7_method_3_code 7 R_Likings) (hr : meth.sig.returnType = none) (hk : meth.locks = false) {d : Nat} (hd : 3 ≤ d + 1) (hR : xroom R (d + 1)) {p0 : Int32} {p1 : Nat} (hp1 : p1 = 0 ∨ p1 ∈ xTastes) {rec2 : Int32 → LH → Option (LH)} {rec16 : Int32 → Int32 → LH → Option (LH)} {σ' : LH} (hrec2 : ∀ (y3 : Int32) (σ : LH), rec2 y3 σ = some σ' → XJ G 1 570 p l e R s m args below meth c 7 (XQ G 1 570 below args s none σ') 0 0 2 [(0, .ref (G.2.2.1 + 33)), (1, .int p0), (2, (xq G p1)), (3, .int y3)] [] σ) (hrec16 : ∀ (y3 : Int32) (y4 : Int32) (σ : LH), rec16 y3 y4 σ = some σ' → XJ G 1 570 p l e R s m args below meth c 7 (XQ G 1 570 below args s none σ') 0 0 16 [(0, .ref (G.2.2.1 + 33)), (1, .int p0), (2, (xq G p1)), (3, .int y3), (4, .int y4)] [] σ) {y3 : Int32} {y4 : Int32} {σ : LH} (h0 : s_Likings_fill_16_b p0 p1 rec2 rec16 y3 y4 σ = some σ') : XJ G 1 570 p l e R s m args below meth c 7 (XQ G 1 570 below args s none σ') 0 0 16 [(0, .ref (G.2.2.1 + 33)), (1, .int p0), (2, (xq G p1)), (3, .int y3), (4, .int y4)] [] σ := by
  replace h0 := (show _ = _ from h0)
  unfold s_Likings_fill_16_b at h0
  refine x_iload C d_Likings_fill_16 4 rfl ?_
  refine x_aload_n C d_Likings_fill_18 0 rfl ?_
  refine x_getA (y := 4) C fg_Likings_38 k_33 rfl d_Likings_fill_19 ?_
  refine x_getI (y := 0) C fg_Likings_65 k_4 rfl d_Likings_fill_22 ?_
  refine x_icmp_ge C 220 d_Likings_fill_25 (by decide) (fun q2 => ?_) (fun q2 => ?_)
  · replace h0 := xit q2 h0
    obtain ⟨x3, ex3, h0⟩ := xlet h0
    refine x_iinc (lv' := [(3, .int x3), (0, .ref (G.2.2.1 + 33)), (1, .int p0), (2, (xq G p1)), (4, .int y4)]) C d_Likings_fill_220 3 rfl ex3 (by decide) (by unfold xq; split <;> rfl) ?_
    refine x_goto C 2 d_Likings_fill_223 (by decide) ?_
    exact x_lv C [1, 2, 3, 0] rfl (hrec2 _ _ h0)
  · replace h0 := xif q2 h0
    refine x_aload_n C d_Likings_fill_28 0 rfl ?_
    refine x_getA (y := 37) C fg_Likings_31 k_33 rfl d_Likings_fill_29 ?_
    refine x_iconst (v := 0) C d_Likings_fill_32 (by decide) ?_
    refine x_aload_n C d_Likings_fill_33 0 rfl ?_
    refine x_getA (y := 4) C fg_Likings_38 k_33 rfl d_Likings_fill_34 ?_
    refine x_getR (y := 1) C fg_Likings_68 k_4 rfl d_Likings_fill_37 ?_
    show XJ _ _ _ _ _ _ _ _ _ _ _ _ _ _ _ _ _ _ _ (.ref (G.2.2.1 + 5) :: _) _
    refine x_iload C d_Likings_fill_40 4 rfl ?_
    obtain ⟨g4, h0⟩ := xgo h0
    refine x_iald C k_5 (ib_in g4) d_Likings_fill_42 ?_
    obtain ⟨g5, h0⟩ := xgo h0
    refine x_iast C k_37 (ib_in g5) d_Likings_fill_43 ?_
    obtain ⟨σ6, eσ6, h0⟩ := xlet h0
    refine x_sig C eσ6 ?_
    refine x_aload_n C d_Likings_fill_44 0 rfl ?_
    refine x_getA (y := 37) C fg_Likings_31 k_33 rfl d_Likings_fill_45 ?_
    refine x_iconst (v := 1) C d_Likings_fill_48 (by decide) ?_
    refine x_iload_n C d_Likings_fill_49 1 rfl ?_
    refine x_aload_n C d_Likings_fill_50 0 rfl ?_
    refine x_getA (y := 4) C fg_Likings_38 k_33 rfl d_Likings_fill_51 ?_
    refine x_getI (y := 0) C fg_Likings_51 k_4 rfl d_Likings_fill_54 ?_
    refine x_icmp_ge C 64 d_Likings_fill_57 (by decide) (fun q7 => ?_) (fun q7 => ?_)
    · replace h0 := xit q7 h0
      refine x_aload_n C d_Likings_fill_64 0 rfl ?_
      refine x_getA (y := 4) C fg_Likings_38 k_33 rfl d_Likings_fill_65 ?_
      refine x_getR (y := 2) C fg_Likings_71 k_4 rfl d_Likings_fill_68 ?_
      show XJ _ _ _ _ _ _ _ _ _ _ _ _ _ _ _ _ _ _ _ (.ref (G.2.2.1 + 6) :: _) _
      refine x_iload C d_Likings_fill_71 4 rfl ?_
      obtain ⟨g8, h0⟩ := xgo h0
      refine x_iald C k_6 (ib_in g8) d_Likings_fill_73 ?_
      exact x_lv C [0, 1, 2, 3, 4] rfl (b_Likings_fill_74 C hr hk hd hR hp1 hrec16 h0)
    · replace h0 := xif q7 h0
      refine x_iconst (v := 0) C d_Likings_fill_60 (by decide) ?_
      refine x_goto C 74 d_Likings_fill_61 (by decide) ?_
      exact x_lv C [0, 1, 2, 3, 4] rfl (b_Likings_fill_74 C hr hk hd hR hp1 hrec16 h0)
theorem b_Likings_fill_16 {G : XG} {l : Launch} {p : Program} {e : Env} {R : Room} {s : State} {m : MethodId} {args : Array Value} {below : List Frame} {meth : Method} {c : Code} (C : XC G 1 570 p s m args c prog_7_method_3_code 7 R_Likings) (hr : meth.sig.returnType = none) (hk : meth.locks = false) {d : Nat} (hd : 3 ≤ d + 1) (hR : xroom R (d + 1)) {p0 : Int32} {p1 : Nat} (hp1 : p1 = 0 ∨ p1 ∈ xTastes) {rec2 : Int32 → LH → Option (LH)} {σ' : LH} (hrec2 : ∀ (y3 : Int32) (σ : LH), rec2 y3 σ = some σ' → XJ G 1 570 p l e R s m args below meth c 7 (XQ G 1 570 below args s none σ') 0 0 2 [(0, .ref (G.2.2.1 + 33)), (1, .int p0), (2, (xq G p1)), (3, .int y3)] [] σ) : ∀ (n : Nat) (y3 : Int32) (y4 : Int32) (σ : LH), s_Likings_fill_16 p0 p1 rec2 n y3 y4 σ = some σ' → XJ G 1 570 p l e R s m args below meth c 7 (XQ G 1 570 below args s none σ') 0 0 16 [(0, .ref (G.2.2.1 + 33)), (1, .int p0), (2, (xq G p1)), (3, .int y3), (4, .int y4)] [] σ := by
  intro n
  induction n with
  | zero => intro y3 y4 σ h0; cases h0
  | succ n ih => intro y3 y4 σ h0; exact bb_Likings_fill_16 C hr hk hd hR hp1 hrec2 ih h0
def s_Likings_fill_2_b (p0 : Int32) (p1 : Nat) (rec2 : Int32 → LH → Option (LH)) (y3 : Int32) (σ : LH) : Option (LH) :=
  if (σ.1 4 1) ≤ y3 then (
   some σ)
  else (
   s_Likings_fill_16 p0 p1 rec2 FUEL y3 0 σ)
def s_Likings_fill_2 (p0 : Int32) (p1 : Nat) : Nat → Int32 → LH → Option (LH)
  | 0, _, _ => none
  | n + 1, y3, σ => s_Likings_fill_2_b p0 p1 (s_Likings_fill_2 p0 p1 n) y3 σ
theorem bb_Likings_fill_2 {G : XG} {l : Launch} {p : Program} {e : Env} {R : Room} {s : State} {m : MethodId} {args : Array Value} {below : List Frame} {meth : Method} {c : Code} (C : XC G 1 570 p s m args c prog_7_method_3_code 7 R_Likings) (hr : meth.sig.returnType = none) (hk : meth.locks = false) {d : Nat} (hd : 3 ≤ d + 1) (hR : xroom R (d + 1)) {p0 : Int32} {p1 : Nat} (hp1 : p1 = 0 ∨ p1 ∈ xTastes) {rec2 : Int32 → LH → Option (LH)} {σ' : LH} (hrec2 : ∀ (y3 : Int32) (σ : LH), rec2 y3 σ = some σ' → XJ G 1 570 p l e R s m args below meth c 7 (XQ G 1 570 below args s none σ') 0 0 2 [(0, .ref (G.2.2.1 + 33)), (1, .int p0), (2, (xq G p1)), (3, .int y3)] [] σ) {y3 : Int32} {σ : LH} (h0 : s_Likings_fill_2_b p0 p1 rec2 y3 σ = some σ') : XJ G 1 570 p l e R s m args below meth c 7 (XQ G 1 570 below args s none σ') 0 0 2 [(0, .ref (G.2.2.1 + 33)), (1, .int p0), (2, (xq G p1)), (3, .int y3)] [] σ := by
  replace h0 := (show _ = _ from h0)
  unfold s_Likings_fill_2_b at h0
  refine x_iload_n C d_Likings_fill_2 3 rfl ?_
  refine x_aload_n C d_Likings_fill_3 0 rfl ?_
  refine x_getA (y := 4) C fg_Likings_38 k_33 rfl d_Likings_fill_4 ?_
  refine x_getI (y := 0) C fg_Likings_62 k_4 rfl d_Likings_fill_7 ?_
  refine x_icmp_ge C 226 d_Likings_fill_10 (by decide) (fun q1 => ?_) (fun q1 => ?_)
  · replace h0 := xit q1 h0
    exact x_vret C hr hk h0 d_Likings_fill_226
  · replace h0 := xif q1 h0
    refine x_iconst (v := 0) C d_Likings_fill_13 (by decide) ?_
    refine x_istore (lv' := [(4, .int 0), (0, .ref (G.2.2.1 + 33)), (1, .int p0), (2, (xq G p1)), (3, .int y3)]) C d_Likings_fill_14 (by decide) (by unfold xq; split <;> rfl) ?_
    exact x_lv C [1, 2, 3, 4, 0] rfl (b_Likings_fill_16 C hr hk hd hR hp1 hrec2 FUEL _ _ _ h0)
theorem b_Likings_fill_2 {G : XG} {l : Launch} {p : Program} {e : Env} {R : Room} {s : State} {m : MethodId} {args : Array Value} {below : List Frame} {meth : Method} {c : Code} (C : XC G 1 570 p s m args c prog_7_method_3_code 7 R_Likings) (hr : meth.sig.returnType = none) (hk : meth.locks = false) {d : Nat} (hd : 3 ≤ d + 1) (hR : xroom R (d + 1)) {p0 : Int32} {p1 : Nat} (hp1 : p1 = 0 ∨ p1 ∈ xTastes) {σ' : LH} : ∀ (n : Nat) (y3 : Int32) (σ : LH), s_Likings_fill_2 p0 p1 n y3 σ = some σ' → XJ G 1 570 p l e R s m args below meth c 7 (XQ G 1 570 below args s none σ') 0 0 2 [(0, .ref (G.2.2.1 + 33)), (1, .int p0), (2, (xq G p1)), (3, .int y3)] [] σ := by
  intro n
  induction n with
  | zero => intro y3 σ h0; cases h0
  | succ n ih => intro y3 σ h0; exact bb_Likings_fill_2 C hr hk hd hR hp1 ih h0
def s_Likings_fill (p0 : Int32) (p1 : Nat) (σ : LH) : Option (LH) :=
  s_Likings_fill_2 p0 p1 FUEL 0 σ
theorem c_Likings_fill {G : XG} {l : Launch} {d : Nat} (hd : 3 ≤ d) {p0 : Int32} {p1 : Nat} (hp1 : p1 = 0 ∨ p1 ∈ xTastes) {σ σ' : LH} (h0 : s_Likings_fill p0 p1 σ = some σ') : xM G 1 570 l y_Likings_fill prog_7_method_3_code 7 none d [.ref (G.2.2.1 + 33), .int p0, (xq G p1)] σ none σ' := by
  obtain ⟨d, rfl⟩ : ∃ q, d = q + 1 := ⟨d - 1, by omega⟩
  refine x_met R_Likings rfl (by decide +kernel) (by unfold xq; split <;> exact Nat.le_of_ble_eq_true rfl) fun p e s m below meth c C hr hk hR => ?_
  refine x_lv (lv' := [(0, .ref (G.2.2.1 + 33)), (1, .int p0), (2, (xq G p1))]) C [0, 1, 2] (by unfold xq; split <;> rfl) ?_
  generalize xrm (d + 1) = R at hR ⊢
  unfold s_Likings_fill at h0
  refine x_iconst (v := 0) C d_Likings_fill_0 (by decide) ?_
  refine x_istore_n (lv' := [(3, .int 0), (0, .ref (G.2.2.1 + 33)), (1, .int p0), (2, (xq G p1))]) C d_Likings_fill_1 rfl (by decide) (by unfold xq; split <;> rfl) ?_
  exact x_lv C [1, 2, 3, 0] rfl (b_Likings_fill_2 C hr hk hd hR hp1 FUEL _ _ h0)
-- LostPlaces$Likings.at(III)I
theorem d_Likings_at_0 : decode prog_7_method_8_code 0 = .ok (.iload_n 3, 1) := by decide +kernel
theorem d_Likings_at_1 : decode prog_7_method_8_code 1 = .ok (.ifCond .ge 5, 3) := by decide +kernel
theorem d_Likings_at_4 : decode prog_7_method_8_code 4 = .ok (.iconst 0, 1) := by decide +kernel
theorem d_Likings_at_5 : decode prog_7_method_8_code 5 = .ok (.ireturn, 1) := by decide +kernel
theorem d_Likings_at_6 : decode prog_7_method_8_code 6 = .ok (.iload_n 1, 1) := by decide +kernel
theorem d_Likings_at_7 : decode prog_7_method_8_code 7 = .ok (.bipush 64, 2) := by decide +kernel
theorem d_Likings_at_9 : decode prog_7_method_8_code 9 = .ok (.imul, 1) := by decide +kernel
theorem d_Likings_at_10 : decode prog_7_method_8_code 10 = .ok (.iload_n 2, 1) := by decide +kernel
theorem d_Likings_at_11 : decode prog_7_method_8_code 11 = .ok (.bipush 8, 2) := by decide +kernel
theorem d_Likings_at_13 : decode prog_7_method_8_code 13 = .ok (.imul, 1) := by decide +kernel
theorem d_Likings_at_14 : decode prog_7_method_8_code 14 = .ok (.iadd, 1) := by decide +kernel
theorem d_Likings_at_15 : decode prog_7_method_8_code 15 = .ok (.iload_n 3, 1) := by decide +kernel
theorem d_Likings_at_16 : decode prog_7_method_8_code 16 = .ok (.iadd, 1) := by decide +kernel
theorem d_Likings_at_17 : decode prog_7_method_8_code 17 = .ok (.istore 4, 2) := by decide +kernel
theorem d_Likings_at_19 : decode prog_7_method_8_code 19 = .ok (.iload 4, 2) := by decide +kernel
theorem d_Likings_at_21 : decode prog_7_method_8_code 21 = .ok (.ifCond .lt 23, 3) := by decide +kernel
theorem d_Likings_at_24 : decode prog_7_method_8_code 24 = .ok (.iload 4, 2) := by decide +kernel
theorem d_Likings_at_26 : decode prog_7_method_8_code 26 = .ok (.aload_n 0, 1) := by decide +kernel
theorem d_Likings_at_27 : decode prog_7_method_8_code 27 = .ok (.getfield 11, 3) := by decide +kernel
theorem d_Likings_at_30 : decode prog_7_method_8_code 30 = .ok (.arraylength, 1) := by decide +kernel
theorem d_Likings_at_31 : decode prog_7_method_8_code 31 = .ok (.if_icmp .ge 13, 3) := by decide +kernel
theorem d_Likings_at_34 : decode prog_7_method_8_code 34 = .ok (.aload_n 0, 1) := by decide +kernel
theorem d_Likings_at_35 : decode prog_7_method_8_code 35 = .ok (.getfield 11, 3) := by decide +kernel
theorem d_Likings_at_38 : decode prog_7_method_8_code 38 = .ok (.iload 4, 2) := by decide +kernel
theorem d_Likings_at_40 : decode prog_7_method_8_code 40 = .ok (.iaload, 1) := by decide +kernel
theorem d_Likings_at_41 : decode prog_7_method_8_code 41 = .ok (.goto 4, 3) := by decide +kernel
theorem d_Likings_at_44 : decode prog_7_method_8_code 44 = .ok (.iconst 0, 1) := by decide +kernel
theorem d_Likings_at_45 : decode prog_7_method_8_code 45 = .ok (.ireturn, 1) := by decide +kernel
def s_Likings_at_45 (p0 : Int32) (p1 : Int32) (p2 : Int32) (z0 : Int32) (σ : LH) : Option (Int32 × LH) :=
  some (z0, σ)
theorem b_Likings_at_45 {G : XG} {l : Launch} {p : Program} {e : Env} {R : Room} {s : State} {m : MethodId} {args : Array Value} {below : List Frame} {meth : Method} {c : Code} (C : XC G 1 570 p s m args c prog_7_method_8_code 5 R_Likings) (hr : meth.sig.returnType = (some .int)) (hk : meth.locks = false) {d : Nat} (hd : 1 ≤ d + 1) (hR : xroom R (d + 1)) {p0 : Int32} {p1 : Int32} {p2 : Int32} {σ' : LH} {r : Int32} {z0 : Int32} {σ : LH} (h0 : s_Likings_at_45 p0 p1 p2 z0 σ = some (r, σ')) : XJ G 1 570 p l e R s m args below meth c 5 (XQ G 1 570 below args s (some (.int r)) σ') 0 0 45 [] [.int z0] σ := by
  replace h0 := (show _ = _ from h0)
  unfold s_Likings_at_45 at h0
  exact x_iret C hr hk h0 d_Likings_at_45
def s_Likings_at_44 (p0 : Int32) (p1 : Int32) (p2 : Int32) (σ : LH) : Option (Int32 × LH) :=
  s_Likings_at_45 p0 p1 p2 0 σ
theorem b_Likings_at_44 {G : XG} {l : Launch} {p : Program} {e : Env} {R : Room} {s : State} {m : MethodId} {args : Array Value} {below : List Frame} {meth : Method} {c : Code} (C : XC G 1 570 p s m args c prog_7_method_8_code 5 R_Likings) (hr : meth.sig.returnType = (some .int)) (hk : meth.locks = false) {d : Nat} (hd : 1 ≤ d + 1) (hR : xroom R (d + 1)) {p0 : Int32} {p1 : Int32} {p2 : Int32} {σ' : LH} {r : Int32} {σ : LH} (h0 : s_Likings_at_44 p0 p1 p2 σ = some (r, σ')) : XJ G 1 570 p l e R s m args below meth c 5 (XQ G 1 570 below args s (some (.int r)) σ') 0 0 44 [] [] σ := by
  replace h0 := (show _ = _ from h0)
  unfold s_Likings_at_44 at h0
  refine x_iconst (v := 0) C d_Likings_at_44 (by decide) ?_
  exact x_lv C [] rfl (b_Likings_at_45 C hr hk hd hR h0)
def s_Likings_at (p0 : Int32) (p1 : Int32) (p2 : Int32) (σ : LH) : Option (Int32 × LH) :=
  if 0 ≤ p2 then (
   xl (((((p0 * 64) + (p1 * 8)) + p2)) : Int32) fun x2 =>
   if x2 < 0 then (
    s_Likings_at_44 p0 p1 p2 σ)
   else (
    if 6400 ≤ x2 then (
     s_Likings_at_44 p0 p1 p2 σ)
    else (
     if ib x2 6400 then (
     s_Likings_at_45 p0 p1 p2 (σ.1 34 (Int32.toNatClampNeg x2)) σ) else none)))
  else (
   some (0, σ))
theorem c_Likings_at {G : XG} {l : Launch} {d : Nat} (hd : 1 ≤ d) {p0 : Int32} {p1 : Int32} {p2 : Int32} {σ σ' : LH} {r : Int32} (h0 : s_Likings_at p0 p1 p2 σ = some (r, σ')) : xM G 1 570 l y_Likings_at prog_7_method_8_code 5 (some .int) d [.ref (G.2.2.1 + 33), .int p0, .int p1, .int p2] σ (some (.int r)) σ' := by
  obtain ⟨d, rfl⟩ : ∃ q, d = q + 1 := ⟨d - 1, by omega⟩
  refine x_met R_Likings rfl (by decide +kernel) (Nat.le_of_ble_eq_true rfl) fun p e s m below meth c C hr hk hR => ?_
  refine x_lv (lv' := [(0, .ref (G.2.2.1 + 33)), (1, .int p0), (2, .int p1), (3, .int p2)]) C [0, 1, 2, 3] rfl ?_
  generalize xrm (d + 1) = R at hR ⊢
  unfold s_Likings_at at h0
  refine x_iload_n C d_Likings_at_0 3 rfl ?_
  refine x_if_ge C 6 d_Likings_at_1 (by decide) (fun q1 => ?_) (fun q1 => ?_)
  · replace h0 := xit q1 h0
    refine x_iload_n C d_Likings_at_6 1 rfl ?_
    refine x_bipush (v := 64) C d_Likings_at_7 (by decide) ?_
    refine x_imul C d_Likings_at_9 ?_
    refine x_iload_n C d_Likings_at_10 2 rfl ?_
    refine x_bipush (v := 8) C d_Likings_at_11 (by decide) ?_
    refine x_imul C d_Likings_at_13 ?_
    refine x_iadd C d_Likings_at_14 ?_
    refine x_iload_n C d_Likings_at_15 3 rfl ?_
    refine x_iadd C d_Likings_at_16 ?_
    obtain ⟨x2, ex2, h0⟩ := xlet h0
    refine x_name C ex2 ?_
    refine x_istore (lv' := [(4, .int x2), (0, .ref (G.2.2.1 + 33)), (1, .int p0), (2, .int p1), (3, .int p2)]) C d_Likings_at_17 (by decide) rfl ?_
    refine x_iload C d_Likings_at_19 0 rfl ?_
    refine x_if_lt C 44 d_Likings_at_21 (by decide) (fun q3 => ?_) (fun q3 => ?_)
    · replace h0 := xit q3 h0
      exact x_lv C [] rfl (b_Likings_at_44 C hr hk hd hR h0)
    · replace h0 := xif q3 h0
      refine x_iload C d_Likings_at_24 0 rfl ?_
      refine x_aload_n C d_Likings_at_26 1 rfl ?_
      refine x_getA (y := 34) C fg_Likings_11 k_33 rfl d_Likings_at_27 ?_
      refine x_ilen (v := 6400) C k_34 rfl d_Likings_at_30 ?_
      refine x_icmp_ge C 44 d_Likings_at_31 (by decide) (fun q4 => ?_) (fun q4 => ?_)
      · replace h0 := xit q4 h0
        exact x_lv C [] rfl (b_Likings_at_44 C hr hk hd hR h0)
      · replace h0 := xif q4 h0
        refine x_aload_n C d_Likings_at_34 1 rfl ?_
        refine x_getA (y := 34) C fg_Likings_11 k_33 rfl d_Likings_at_35 ?_
        refine x_iload C d_Likings_at_38 0 rfl ?_
        obtain ⟨g5, h0⟩ := xgo h0
        refine x_iald C k_34 (ib_in g5) d_Likings_at_40 ?_
        refine x_goto C 45 d_Likings_at_41 (by decide) ?_
        exact x_lv C [] rfl (b_Likings_at_45 C hr hk hd hR h0)
  · replace h0 := xif q1 h0
    refine x_iconst (v := 0) C d_Likings_at_4 (by decide) ?_
    exact x_iret C hr hk h0 d_Likings_at_5
-- LostPlaces$Likings.isAlike(II)Z
theorem d_Likings_isAlike_0 : decode prog_7_method_4_code 0 = .ok (.iconst 0, 1) := by decide +kernel
theorem d_Likings_isAlike_1 : decode prog_7_method_4_code 1 = .ok (.istore_n 3, 1) := by decide +kernel
theorem d_Likings_isAlike_2 : decode prog_7_method_4_code 2 = .ok (.iload_n 3, 1) := by decide +kernel
theorem d_Likings_isAlike_3 : decode prog_7_method_4_code 3 = .ok (.aload_n 0, 1) := by decide +kernel
theorem d_Likings_isAlike_4 : decode prog_7_method_4_code 4 = .ok (.getfield 38, 3) := by decide +kernel
theorem d_Likings_isAlike_7 : decode prog_7_method_4_code 7 = .ok (.getfield 62, 3) := by decide +kernel
theorem d_Likings_isAlike_10 : decode prog_7_method_4_code 10 = .ok (.if_icmp .ge 51, 3) := by decide +kernel
theorem d_Likings_isAlike_13 : decode prog_7_method_4_code 13 = .ok (.iconst 0, 1) := by decide +kernel
theorem d_Likings_isAlike_14 : decode prog_7_method_4_code 14 = .ok (.istore 4, 2) := by decide +kernel
theorem d_Likings_isAlike_16 : decode prog_7_method_4_code 16 = .ok (.iload 4, 2) := by decide +kernel
theorem d_Likings_isAlike_18 : decode prog_7_method_4_code 18 = .ok (.aload_n 0, 1) := by decide +kernel
theorem d_Likings_isAlike_19 : decode prog_7_method_4_code 19 = .ok (.getfield 38, 3) := by decide +kernel
theorem d_Likings_isAlike_22 : decode prog_7_method_4_code 22 = .ok (.getfield 65, 3) := by decide +kernel
theorem d_Likings_isAlike_25 : decode prog_7_method_4_code 25 = .ok (.if_icmp .ge 30, 3) := by decide +kernel
theorem d_Likings_isAlike_28 : decode prog_7_method_4_code 28 = .ok (.aload_n 0, 1) := by decide +kernel
theorem d_Likings_isAlike_29 : decode prog_7_method_4_code 29 = .ok (.iload_n 1, 1) := by decide +kernel
theorem d_Likings_isAlike_30 : decode prog_7_method_4_code 30 = .ok (.iload_n 3, 1) := by decide +kernel
theorem d_Likings_isAlike_31 : decode prog_7_method_4_code 31 = .ok (.iload 4, 2) := by decide +kernel
theorem d_Likings_isAlike_33 : decode prog_7_method_4_code 33 = .ok (.invokevirtual 83, 3) := by decide +kernel
theorem d_Likings_isAlike_36 : decode prog_7_method_4_code 36 = .ok (.aload_n 0, 1) := by decide +kernel
theorem d_Likings_isAlike_37 : decode prog_7_method_4_code 37 = .ok (.iload_n 2, 1) := by decide +kernel
theorem d_Likings_isAlike_38 : decode prog_7_method_4_code 38 = .ok (.iload_n 3, 1) := by decide +kernel
theorem d_Likings_isAlike_39 : decode prog_7_method_4_code 39 = .ok (.iload 4, 2) := by decide +kernel
theorem d_Likings_isAlike_41 : decode prog_7_method_4_code 41 = .ok (.invokevirtual 83, 3) := by decide +kernel
theorem d_Likings_isAlike_44 : decode prog_7_method_4_code 44 = .ok (.if_icmp .eq 5, 3) := by decide +kernel
theorem d_Likings_isAlike_47 : decode prog_7_method_4_code 47 = .ok (.iconst 0, 1) := by decide +kernel
theorem d_Likings_isAlike_48 : decode prog_7_method_4_code 48 = .ok (.ireturn, 1) := by decide +kernel
theorem d_Likings_isAlike_49 : decode prog_7_method_4_code 49 = .ok (.iinc 4 1, 3) := by decide +kernel
theorem d_Likings_isAlike_52 : decode prog_7_method_4_code 52 = .ok (.goto (-36), 3) := by decide +kernel
theorem d_Likings_isAlike_55 : decode prog_7_method_4_code 55 = .ok (.iinc 3 1, 3) := by decide +kernel
theorem d_Likings_isAlike_58 : decode prog_7_method_4_code 58 = .ok (.goto (-56), 3) := by decide +kernel
theorem d_Likings_isAlike_61 : decode prog_7_method_4_code 61 = .ok (.iconst 1, 1) := by decide +kernel
theorem d_Likings_isAlike_62 : decode prog_7_method_4_code 62 = .ok (.ireturn, 1) := by decide +kernel
def s_Likings_isAlike_16_b (p0 : Int32) (p1 : Int32) (rec2 : Int32 → LH → Option (Int32 × LH)) (rec16 : Int32 → Int32 → LH → Option (Int32 × LH)) (y3 : Int32) (y4 : Int32) (σ : LH) : Option (Int32 × LH) :=
  if (σ.1 4 0) ≤ y4 then (
   xl ((y3 + 1) : Int32) fun x3 =>
   rec2 x3 σ)
  else (
   xb2 (s_Likings_at p0 y3 y4 σ) fun r5 σ6 =>
   xb2 (s_Likings_at p1 y3 y4 σ6) fun r8 σ9 =>
   if r5 = r8 then (
    xl ((y4 + 1) : Int32) fun x11 =>
    rec16 y3 x11 σ9)
   else (
    some (0, σ9)))
def s_Likings_isAlike_16 (p0 : Int32) (p1 : Int32) (rec2 : Int32 → LH → Option (Int32 × LH)) : Nat → Int32 → Int32 → LH → Option (Int32 × LH)
  | 0, _, _, _ => none
  | n + 1, y3, y4, σ => s_Likings_isAlike_16_b p0 p1 rec2 (s_Likings_isAlike_16 p0 p1 rec2 n) y3 y4 σ
theorem bb_Likings_isAlike_16 {G : XG} {l : Launch} {p : Program} {e : Env} {R : Room} {s : State} {m : MethodId} {args : Array Value} {below : List Frame} {meth : Method} {c : Code} (C : XC G 1 570 p s m args c prog_7_method_4_code 5 R_Likings) (hr : meth.sig.returnType = (some .boolean)) (hk : meth.locks = false) {d : Nat} (hd : 2 ≤ d + 1) (hR : xroom R (d + 1)) {p0 : Int32} {p1 : Int32} {rec2 : Int32 → LH → Option (Int32 × LH)} {rec16 : Int32 → Int32 → LH → Option (Int32 × LH)} {σ' : LH} {r : Int32} (hrec2 : ∀ (y3 : Int32) (σ : LH), rec2 y3 σ = some (r, σ') → XJ G 1 570 p l e R s m args below meth c 5 (XQ G 1 570 below args s (some (.int r)) σ') 0 0 2 [(0, .ref (G.2.2.1 + 33)), (1, .int p0), (2, .int p1), (3, .int y3)] [] σ) (hrec16 : ∀ (y3 : Int32) (y4 : Int32) (σ : LH), rec16 y3 y4 σ = some (r, σ') → XJ G 1 570 p l e R s m args below meth c 5 (XQ G 1 570 below args s (some (.int r)) σ') 0 0 16 [(0, .ref (G.2.2.1 + 33)), (1, .int p0), (2, .int p1), (3, .int y3), (4, .int y4)] [] σ) {y3 : Int32} {y4 : Int32} {σ : LH} (h0 : s_Likings_isAlike_16_b p0 p1 rec2 rec16 y3 y4 σ = some (r, σ')) : XJ G 1 570 p l e R s m args below meth c 5 (XQ G 1 570 below args s (some (.int r)) σ') 0 0 16 [(0, .ref (G.2.2.1 + 33)), (1, .int p0), (2, .int p1), (3, .int y3), (4, .int y4)] [] σ := by
  replace h0 := (show _ = _ from h0)
  unfold s_Likings_isAlike_16_b at h0
  refine x_iload C d_Likings_isAlike_16 4 rfl ?_
  refine x_aload_n C d_Likings_isAlike_18 0 rfl ?_
  refine x_getA (y := 4) C fg_Likings_38 k_33 rfl d_Likings_isAlike_19 ?_
  refine x_getI (y := 0) C fg_Likings_65 k_4 rfl d_Likings_isAlike_22 ?_
  refine x_icmp_ge C 55 d_Likings_isAlike_25 (by decide) (fun q2 => ?_) (fun q2 => ?_)
  · replace h0 := xit q2 h0
    obtain ⟨x3, ex3, h0⟩ := xlet h0
    refine x_iinc (lv' := [(3, .int x3), (0, .ref (G.2.2.1 + 33)), (1, .int p0), (2, .int p1), (4, .int y4)]) C d_Likings_isAlike_55 3 rfl ex3 (by decide) rfl ?_
    refine x_goto C 2 d_Likings_isAlike_58 (by decide) ?_
    exact x_lv C [1, 2, 3, 0] rfl (hrec2 _ _ h0)
  · replace h0 := xif q2 h0
    refine x_aload_n C d_Likings_isAlike_28 0 rfl ?_
    refine x_iload_n C d_Likings_isAlike_29 1 rfl ?_
    refine x_iload_n C d_Likings_isAlike_30 3 rfl ?_
    refine x_iload C d_Likings_isAlike_31 4 rfl ?_
    obtain ⟨r5, σ6, k4, h0⟩ := xbind2 h0
    refine x_callVi C hR (c_Likings_at (d := d) (by omega) k4) cw_Likings_83 k_33 rfl rfl rfl (Nat.le_of_ble_eq_true rfl) ⟨Nat.zero_le _, Nat.zero_le _⟩ d_Likings_isAlike_33 ?_
    refine x_aload_n C d_Likings_isAlike_36 0 rfl ?_
    refine x_iload_n C d_Likings_isAlike_37 2 rfl ?_
    refine x_iload_n C d_Likings_isAlike_38 3 rfl ?_
    refine x_iload C d_Likings_isAlike_39 4 rfl ?_
    obtain ⟨r8, σ9, k7, h0⟩ := xbind2 h0
    refine x_callVi C hR (c_Likings_at (d := d) (by omega) k7) cw_Likings_83 k_33 rfl rfl rfl (Nat.le_of_ble_eq_true rfl) ⟨Nat.zero_le _, Nat.zero_le _⟩ d_Likings_isAlike_41 ?_
    refine x_icmp_eq C 49 d_Likings_isAlike_44 (by decide) (fun q10 => ?_) (fun q10 => ?_)
    · replace h0 := xit q10 h0
      obtain ⟨x11, ex11, h0⟩ := xlet h0
      refine x_iinc (lv' := [(4, .int x11), (0, .ref (G.2.2.1 + 33)), (1, .int p0), (2, .int p1), (3, .int y3)]) C d_Likings_isAlike_49 4 rfl ex11 (by decide) rfl ?_
      refine x_goto C 16 d_Likings_isAlike_52 (by decide) ?_
      exact x_lv C [1, 2, 3, 4, 0] rfl (hrec16 _ _ _ h0)
    · replace h0 := xif q10 h0
      refine x_iconst (v := 0) C d_Likings_isAlike_47 (by decide) ?_
      exact x_zret C hr hk (by decide) h0 d_Likings_isAlike_48
theorem b_Likings_isAlike_16 {G : XG} {l : Launch} {p : Program} {e : Env} {R : Room} {s : State} {m : MethodId} {args : Array Value} {below : List Frame} {meth : Method} {c : Code} (C : XC G 1 570 p s m args c prog_7_method_4_code 5 R_Likings) (hr : meth.sig.returnType = (some .boolean)) (hk : meth.locks = false) {d : Nat} (hd : 2 ≤ d + 1) (hR : xroom R (d + 1)) {p0 : Int32} {p1 : Int32} {rec2 : Int32 → LH → Option (Int32 × LH)} {σ' : LH} {r : Int32} (hrec2 : ∀ (y3 : Int32) (σ : LH), rec2 y3 σ = some (r, σ') → XJ G 1 570 p l e R s m args below meth c 5 (XQ G 1 570 below args s (some (.int r)) σ') 0 0 2 [(0, .ref (G.2.2.1 + 33)), (1, .int p0), (2, .int p1), (3, .int y3)] [] σ) : ∀ (n : Nat) (y3 : Int32) (y4 : Int32) (σ : LH), s_Likings_isAlike_16 p0 p1 rec2 n y3 y4 σ = some (r, σ') → XJ G 1 570 p l e R s m args below meth c 5 (XQ G 1 570 below args s (some (.int r)) σ') 0 0 16 [(0, .ref (G.2.2.1 + 33)), (1, .int p0), (2, .int p1), (3, .int y3), (4, .int y4)] [] σ := by
  intro n
  induction n with
  | zero => intro y3 y4 σ h0; cases h0
  | succ n ih => intro y3 y4 σ h0; exact bb_Likings_isAlike_16 C hr hk hd hR hrec2 ih h0
def s_Likings_isAlike_2_b (p0 : Int32) (p1 : Int32) (rec2 : Int32 → LH → Option (Int32 × LH)) (y3 : Int32) (σ : LH) : Option (Int32 × LH) :=
  if (σ.1 4 1) ≤ y3 then (
   some (1, σ))
  else (
   s_Likings_isAlike_16 p0 p1 rec2 FUEL y3 0 σ)
def s_Likings_isAlike_2 (p0 : Int32) (p1 : Int32) : Nat → Int32 → LH → Option (Int32 × LH)
  | 0, _, _ => none
  | n + 1, y3, σ => s_Likings_isAlike_2_b p0 p1 (s_Likings_isAlike_2 p0 p1 n) y3 σ
theorem bb_Likings_isAlike_2 {G : XG} {l : Launch} {p : Program} {e : Env} {R : Room} {s : State} {m : MethodId} {args : Array Value} {below : List Frame} {meth : Method} {c : Code} (C : XC G 1 570 p s m args c prog_7_method_4_code 5 R_Likings) (hr : meth.sig.returnType = (some .boolean)) (hk : meth.locks = false) {d : Nat} (hd : 2 ≤ d + 1) (hR : xroom R (d + 1)) {p0 : Int32} {p1 : Int32} {rec2 : Int32 → LH → Option (Int32 × LH)} {σ' : LH} {r : Int32} (hrec2 : ∀ (y3 : Int32) (σ : LH), rec2 y3 σ = some (r, σ') → XJ G 1 570 p l e R s m args below meth c 5 (XQ G 1 570 below args s (some (.int r)) σ') 0 0 2 [(0, .ref (G.2.2.1 + 33)), (1, .int p0), (2, .int p1), (3, .int y3)] [] σ) {y3 : Int32} {σ : LH} (h0 : s_Likings_isAlike_2_b p0 p1 rec2 y3 σ = some (r, σ')) : XJ G 1 570 p l e R s m args below meth c 5 (XQ G 1 570 below args s (some (.int r)) σ') 0 0 2 [(0, .ref (G.2.2.1 + 33)), (1, .int p0), (2, .int p1), (3, .int y3)] [] σ := by
  replace h0 := (show _ = _ from h0)
  unfold s_Likings_isAlike_2_b at h0
  refine x_iload_n C d_Likings_isAlike_2 3 rfl ?_
  refine x_aload_n C d_Likings_isAlike_3 0 rfl ?_
  refine x_getA (y := 4) C fg_Likings_38 k_33 rfl d_Likings_isAlike_4 ?_
  refine x_getI (y := 0) C fg_Likings_62 k_4 rfl d_Likings_isAlike_7 ?_
  refine x_icmp_ge C 61 d_Likings_isAlike_10 (by decide) (fun q1 => ?_) (fun q1 => ?_)
  · replace h0 := xit q1 h0
    refine x_iconst (v := 1) C d_Likings_isAlike_61 (by decide) ?_
    exact x_zret C hr hk (by decide) h0 d_Likings_isAlike_62
  · replace h0 := xif q1 h0
    refine x_iconst (v := 0) C d_Likings_isAlike_13 (by decide) ?_
    refine x_istore (lv' := [(4, .int 0), (0, .ref (G.2.2.1 + 33)), (1, .int p0), (2, .int p1), (3, .int y3)]) C d_Likings_isAlike_14 (by decide) rfl ?_
    exact x_lv C [1, 2, 3, 4, 0] rfl (b_Likings_isAlike_16 C hr hk hd hR hrec2 FUEL _ _ _ h0)
theorem b_Likings_isAlike_2 {G : XG} {l : Launch} {p : Program} {e : Env} {R : Room} {s : State} {m : MethodId} {args : Array Value} {below : List Frame} {meth : Method} {c : Code} (C : XC G 1 570 p s m args c prog_7_method_4_code 5 R_Likings) (hr : meth.sig.returnType = (some .boolean)) (hk : meth.locks = false) {d : Nat} (hd : 2 ≤ d + 1) (hR : xroom R (d + 1)) {p0 : Int32} {p1 : Int32} {σ' : LH} {r : Int32} : ∀ (n : Nat) (y3 : Int32) (σ : LH), s_Likings_isAlike_2 p0 p1 n y3 σ = some (r, σ') → XJ G 1 570 p l e R s m args below meth c 5 (XQ G 1 570 below args s (some (.int r)) σ') 0 0 2 [(0, .ref (G.2.2.1 + 33)), (1, .int p0), (2, .int p1), (3, .int y3)] [] σ := by
  intro n
  induction n with
  | zero => intro y3 σ h0; cases h0
  | succ n ih => intro y3 σ h0; exact bb_Likings_isAlike_2 C hr hk hd hR ih h0
def s_Likings_isAlike (p0 : Int32) (p1 : Int32) (σ : LH) : Option (Int32 × LH) :=
  s_Likings_isAlike_2 p0 p1 FUEL 0 σ
theorem c_Likings_isAlike {G : XG} {l : Launch} {d : Nat} (hd : 2 ≤ d) {p0 : Int32} {p1 : Int32} {σ σ' : LH} {r : Int32} (h0 : s_Likings_isAlike p0 p1 σ = some (r, σ')) : xM G 1 570 l y_Likings_isAlike prog_7_method_4_code 5 (some .boolean) d [.ref (G.2.2.1 + 33), .int p0, .int p1] σ (some (.int r)) σ' := by
  obtain ⟨d, rfl⟩ : ∃ q, d = q + 1 := ⟨d - 1, by omega⟩
  refine x_met R_Likings rfl (by decide +kernel) (Nat.le_of_ble_eq_true rfl) fun p e s m below meth c C hr hk hR => ?_
  refine x_lv (lv' := [(0, .ref (G.2.2.1 + 33)), (1, .int p0), (2, .int p1)]) C [0, 1, 2] rfl ?_
  generalize xrm (d + 1) = R at hR ⊢
  unfold s_Likings_isAlike at h0
  refine x_iconst (v := 0) C d_Likings_isAlike_0 (by decide) ?_
  refine x_istore_n (lv' := [(3, .int 0), (0, .ref (G.2.2.1 + 33)), (1, .int p0), (2, .int p1)]) C d_Likings_isAlike_1 rfl (by decide) rfl ?_
  exact x_lv C [1, 2, 3, 0] rfl (b_Likings_isAlike_2 C hr hk hd hR FUEL _ _ h0)
-- LostPlaces$Likings.renew(LLostPlaces$Taste;)V
theorem d_Likings_renew_0 : decode prog_7_method_2_code 0 = .ok (.aload_n 0, 1) := by decide +kernel
theorem d_Likings_renew_1 : decode prog_7_method_2_code 1 = .ok (.dup, 1) := by decide +kernel
theorem d_Likings_renew_2 : decode prog_7_method_2_code 2 = .ok (.getfield 34, 3) := by decide +kernel
theorem d_Likings_renew_5 : decode prog_7_method_2_code 5 = .ok (.iconst 1, 1) := by decide +kernel
theorem d_Likings_renew_6 : decode prog_7_method_2_code 6 = .ok (.iadd, 1) := by decide +kernel
theorem d_Likings_renew_7 : decode prog_7_method_2_code 7 = .ok (.putfield 34, 3) := by decide +kernel
theorem d_Likings_renew_10 : decode prog_7_method_2_code 10 = .ok (.aload_n 1, 1) := by decide +kernel
theorem d_Likings_renew_11 : decode prog_7_method_2_code 11 = .ok (.ifnull 14, 3) := by decide +kernel
theorem d_Likings_renew_14 : decode prog_7_method_2_code 14 = .ok (.aload_n 1, 1) := by decide +kernel
theorem d_Likings_renew_15 : decode prog_7_method_2_code 15 = .ok (.getfield 42, 3) := by decide +kernel
theorem d_Likings_renew_18 : decode prog_7_method_2_code 18 = .ok (.ifCond .eq 7, 3) := by decide +kernel
theorem d_Likings_renew_21 : decode prog_7_method_2_code 21 = .ok (.iconst 1, 1) := by decide +kernel
theorem d_Likings_renew_22 : decode prog_7_method_2_code 22 = .ok (.goto 4, 3) := by decide +kernel
theorem d_Likings_renew_25 : decode prog_7_method_2_code 25 = .ok (.iconst 0, 1) := by decide +kernel
theorem d_Likings_renew_26 : decode prog_7_method_2_code 26 = .ok (.istore_n 2, 1) := by decide +kernel
theorem d_Likings_renew_27 : decode prog_7_method_2_code 27 = .ok (.aload_n 0, 1) := by decide +kernel
theorem d_Likings_renew_28 : decode prog_7_method_2_code 28 = .ok (.getfield 38, 3) := by decide +kernel
theorem d_Likings_renew_31 : decode prog_7_method_2_code 31 = .ok (.getfield 46, 3) := by decide +kernel
theorem d_Likings_renew_34 : decode prog_7_method_2_code 34 = .ok (.bipush 100, 2) := by decide +kernel
theorem d_Likings_renew_36 : decode prog_7_method_2_code 36 = .ok (.if_icmp .ge 13, 3) := by decide +kernel
theorem d_Likings_renew_39 : decode prog_7_method_2_code 39 = .ok (.aload_n 0, 1) := by decide +kernel
theorem d_Likings_renew_40 : decode prog_7_method_2_code 40 = .ok (.getfield 38, 3) := by decide +kernel
theorem d_Likings_renew_43 : decode prog_7_method_2_code 43 = .ok (.getfield 46, 3) := by decide +kernel
theorem d_Likings_renew_46 : decode prog_7_method_2_code 46 = .ok (.goto 5, 3) := by decide +kernel
theorem d_Likings_renew_49 : decode prog_7_method_2_code 49 = .ok (.bipush 99, 2) := by decide +kernel
theorem d_Likings_renew_51 : decode prog_7_method_2_code 51 = .ok (.istore_n 3, 1) := by decide +kernel
theorem d_Likings_renew_52 : decode prog_7_method_2_code 52 = .ok (.iconst 0, 1) := by decide +kernel
theorem d_Likings_renew_53 : decode prog_7_method_2_code 53 = .ok (.istore 4, 2) := by decide +kernel
theorem d_Likings_renew_55 : decode prog_7_method_2_code 55 = .ok (.iload 4, 2) := by decide +kernel
theorem d_Likings_renew_57 : decode prog_7_method_2_code 57 = .ok (.iload_n 3, 1) := by decide +kernel
theorem d_Likings_renew_58 : decode prog_7_method_2_code 58 = .ok (.if_icmp .gt 105, 3) := by decide +kernel
theorem d_Likings_renew_61 : decode prog_7_method_2_code 61 = .ok (.iload 4, 2) := by decide +kernel
theorem d_Likings_renew_63 : decode prog_7_method_2_code 63 = .ok (.ifCond .le 23, 3) := by decide +kernel
theorem d_Likings_renew_66 : decode prog_7_method_2_code 66 = .ok (.iload_n 2, 1) := by decide +kernel
theorem d_Likings_renew_67 : decode prog_7_method_2_code 67 = .ok (.ifCond .ne 19, 3) := by decide +kernel
theorem d_Likings_renew_70 : decode prog_7_method_2_code 70 = .ok (.iload 4, 2) := by decide +kernel
theorem d_Likings_renew_72 : decode prog_7_method_2_code 72 = .ok (.aload_n 0, 1) := by decide +kernel
theorem d_Likings_renew_73 : decode prog_7_method_2_code 73 = .ok (.getfield 38, 3) := by decide +kernel
theorem d_Likings_renew_76 : decode prog_7_method_2_code 76 = .ok (.getfield 51, 3) := by decide +kernel
theorem d_Likings_renew_79 : decode prog_7_method_2_code 79 = .ok (.if_icmp .eq 7, 3) := by decide +kernel
theorem d_Likings_renew_82 : decode prog_7_method_2_code 82 = .ok (.iconst 1, 1) := by decide +kernel
theorem d_Likings_renew_83 : decode prog_7_method_2_code 83 = .ok (.goto 4, 3) := by decide +kernel
theorem d_Likings_renew_86 : decode prog_7_method_2_code 86 = .ok (.iconst 0, 1) := by decide +kernel
theorem d_Likings_renew_87 : decode prog_7_method_2_code 87 = .ok (.istore 5, 2) := by decide +kernel
theorem d_Likings_renew_89 : decode prog_7_method_2_code 89 = .ok (.iload 5, 2) := by decide +kernel
theorem d_Likings_renew_91 : decode prog_7_method_2_code 91 = .ok (.ifCond .ne 40, 3) := by decide +kernel
theorem d_Likings_renew_94 : decode prog_7_method_2_code 94 = .ok (.aload_n 0, 1) := by decide +kernel
theorem d_Likings_renew_95 : decode prog_7_method_2_code 95 = .ok (.iload 4, 2) := by decide +kernel
theorem d_Likings_renew_97 : decode prog_7_method_2_code 97 = .ok (.aload_n 1, 1) := by decide +kernel
theorem d_Likings_renew_98 : decode prog_7_method_2_code 98 = .ok (.invokevirtual 54, 3) := by decide +kernel
theorem d_Likings_renew_101 : decode prog_7_method_2_code 101 = .ok (.iload 4, 2) := by decide +kernel
theorem d_Likings_renew_103 : decode prog_7_method_2_code 103 = .ok (.ifCond .le 25, 3) := by decide +kernel
theorem d_Likings_renew_106 : decode prog_7_method_2_code 106 = .ok (.aload_n 0, 1) := by decide +kernel
theorem d_Likings_renew_107 : decode prog_7_method_2_code 107 = .ok (.iload 4, 2) := by decide +kernel
theorem d_Likings_renew_109 : decode prog_7_method_2_code 109 = .ok (.aload_n 0, 1) := by decide +kernel
theorem d_Likings_renew_110 : decode prog_7_method_2_code 110 = .ok (.getfield 15, 3) := by decide +kernel
theorem d_Likings_renew_113 : decode prog_7_method_2_code 113 = .ok (.iload 4, 2) := by decide +kernel
theorem d_Likings_renew_115 : decode prog_7_method_2_code 115 = .ok (.iconst 1, 1) := by decide +kernel
theorem d_Likings_renew_116 : decode prog_7_method_2_code 116 = .ok (.isub, 1) := by decide +kernel
theorem d_Likings_renew_117 : decode prog_7_method_2_code 117 = .ok (.iaload, 1) := by decide +kernel
theorem d_Likings_renew_118 : decode prog_7_method_2_code 118 = .ok (.invokevirtual 58, 3) := by decide +kernel
theorem d_Likings_renew_121 : decode prog_7_method_2_code 121 = .ok (.ifCond .eq 7, 3) := by decide +kernel
theorem d_Likings_renew_124 : decode prog_7_method_2_code 124 = .ok (.iconst 1, 1) := by decide +kernel
theorem d_Likings_renew_125 : decode prog_7_method_2_code 125 = .ok (.goto 4, 3) := by decide +kernel
theorem d_Likings_renew_128 : decode prog_7_method_2_code 128 = .ok (.iconst 0, 1) := by decide +kernel
theorem d_Likings_renew_129 : decode prog_7_method_2_code 129 = .ok (.istore 5, 2) := by decide +kernel
theorem d_Likings_renew_131 : decode prog_7_method_2_code 131 = .ok (.aload_n 0, 1) := by decide +kernel
theorem d_Likings_renew_132 : decode prog_7_method_2_code 132 = .ok (.getfield 15, 3) := by decide +kernel
theorem d_Likings_renew_135 : decode prog_7_method_2_code 135 = .ok (.iload 4, 2) := by decide +kernel
theorem d_Likings_renew_137 : decode prog_7_method_2_code 137 = .ok (.iload 5, 2) := by decide +kernel
theorem d_Likings_renew_139 : decode prog_7_method_2_code 139 = .ok (.ifCond .eq 15, 3) := by decide +kernel
theorem d_Likings_renew_142 : decode prog_7_method_2_code 142 = .ok (.aload_n 0, 1) := by decide +kernel
theorem d_Likings_renew_143 : decode prog_7_method_2_code 143 = .ok (.getfield 15, 3) := by decide +kernel
theorem d_Likings_renew_146 : decode prog_7_method_2_code 146 = .ok (.iload 4, 2) := by decide +kernel
theorem d_Likings_renew_148 : decode prog_7_method_2_code 148 = .ok (.iconst 1, 1) := by decide +kernel
theorem d_Likings_renew_149 : decode prog_7_method_2_code 149 = .ok (.isub, 1) := by decide +kernel
theorem d_Likings_renew_150 : decode prog_7_method_2_code 150 = .ok (.iaload, 1) := by decide +kernel
theorem d_Likings_renew_151 : decode prog_7_method_2_code 151 = .ok (.goto 5, 3) := by decide +kernel
theorem d_Likings_renew_154 : decode prog_7_method_2_code 154 = .ok (.iload 4, 2) := by decide +kernel
theorem d_Likings_renew_156 : decode prog_7_method_2_code 156 = .ok (.iastore, 1) := by decide +kernel
theorem d_Likings_renew_157 : decode prog_7_method_2_code 157 = .ok (.iinc 4 1, 3) := by decide +kernel
theorem d_Likings_renew_160 : decode prog_7_method_2_code 160 = .ok (.goto (-105), 3) := by decide +kernel
theorem d_Likings_renew_163 : decode prog_7_method_2_code 163 = .ok (.iload_n 3, 1) := by decide +kernel
theorem d_Likings_renew_164 : decode prog_7_method_2_code 164 = .ok (.istore 4, 2) := by decide +kernel
theorem d_Likings_renew_166 : decode prog_7_method_2_code 166 = .ok (.iload 4, 2) := by decide +kernel
theorem d_Likings_renew_168 : decode prog_7_method_2_code 168 = .ok (.ifCond .lt 57, 3) := by decide +kernel
theorem d_Likings_renew_171 : decode prog_7_method_2_code 171 = .ok (.aload_n 0, 1) := by decide +kernel
theorem d_Likings_renew_172 : decode prog_7_method_2_code 172 = .ok (.getfield 18, 3) := by decide +kernel
theorem d_Likings_renew_175 : decode prog_7_method_2_code 175 = .ok (.iload 4, 2) := by decide +kernel
theorem d_Likings_renew_177 : decode prog_7_method_2_code 177 = .ok (.iload 4, 2) := by decide +kernel
theorem d_Likings_renew_179 : decode prog_7_method_2_code 179 = .ok (.iload_n 3, 1) := by decide +kernel
theorem d_Likings_renew_180 : decode prog_7_method_2_code 180 = .ok (.if_icmp .ge 34, 3) := by decide +kernel
theorem d_Likings_renew_183 : decode prog_7_method_2_code 183 = .ok (.aload_n 0, 1) := by decide +kernel
theorem d_Likings_renew_184 : decode prog_7_method_2_code 184 = .ok (.getfield 15, 3) := by decide +kernel
theorem d_Likings_renew_187 : decode prog_7_method_2_code 187 = .ok (.iload 4, 2) := by decide +kernel
theorem d_Likings_renew_189 : decode prog_7_method_2_code 189 = .ok (.iconst 1, 1) := by decide +kernel
theorem d_Likings_renew_190 : decode prog_7_method_2_code 190 = .ok (.iadd, 1) := by decide +kernel
theorem d_Likings_renew_191 : decode prog_7_method_2_code 191 = .ok (.iaload, 1) := by decide +kernel
theorem d_Likings_renew_192 : decode prog_7_method_2_code 192 = .ok (.aload_n 0, 1) := by decide +kernel
theorem d_Likings_renew_193 : decode prog_7_method_2_code 193 = .ok (.getfield 15, 3) := by decide +kernel
theorem d_Likings_renew_196 : decode prog_7_method_2_code 196 = .ok (.iload 4, 2) := by decide +kernel
theorem d_Likings_renew_198 : decode prog_7_method_2_code 198 = .ok (.iaload, 1) := by decide +kernel
theorem d_Likings_renew_199 : decode prog_7_method_2_code 199 = .ok (.if_icmp .ne 15, 3) := by decide +kernel
theorem d_Likings_renew_202 : decode prog_7_method_2_code 202 = .ok (.aload_n 0, 1) := by decide +kernel
theorem d_Likings_renew_203 : decode prog_7_method_2_code 203 = .ok (.getfield 18, 3) := by decide +kernel
theorem d_Likings_renew_206 : decode prog_7_method_2_code 206 = .ok (.iload 4, 2) := by decide +kernel
theorem d_Likings_renew_208 : decode prog_7_method_2_code 208 = .ok (.iconst 1, 1) := by decide +kernel
theorem d_Likings_renew_209 : decode prog_7_method_2_code 209 = .ok (.iadd, 1) := by decide +kernel
theorem d_Likings_renew_210 : decode prog_7_method_2_code 210 = .ok (.iaload, 1) := by decide +kernel
theorem d_Likings_renew_211 : decode prog_7_method_2_code 211 = .ok (.goto 7, 3) := by decide +kernel
theorem d_Likings_renew_214 : decode prog_7_method_2_code 214 = .ok (.iload 4, 2) := by decide +kernel
theorem d_Likings_renew_216 : decode prog_7_method_2_code 216 = .ok (.iconst 1, 1) := by decide +kernel
theorem d_Likings_renew_217 : decode prog_7_method_2_code 217 = .ok (.iadd, 1) := by decide +kernel
theorem d_Likings_renew_218 : decode prog_7_method_2_code 218 = .ok (.iastore, 1) := by decide +kernel
theorem d_Likings_renew_219 : decode prog_7_method_2_code 219 = .ok (.iinc 4 (-1), 3) := by decide +kernel
theorem d_Likings_renew_222 : decode prog_7_method_2_code 222 = .ok (.goto (-56), 3) := by decide +kernel
theorem d_Likings_renew_225 : decode prog_7_method_2_code 225 = .ok (.return_, 1) := by decide +kernel
def s_Likings_renew_218 (p0 : Nat) (rec166 : Int32 → Int32 → LH → Option (LH)) (y3 : Int32) (y4 : Int32) (z1 : Int32) (z2 : Int32) (σ : LH) : Option (LH) :=
  if ib z1 100 then (
  xl ((stI σ 36 (Int32.toNatClampNeg z1) z2) : LH) fun σ8 =>
  xl ((y4 + (-1)) : Int32) fun x9 =>
  rec166 y3 x9 σ8) else none
theorem b_Likings_renew_218 {G : XG} {l : Launch} {p : Program} {e : Env} {R : Room} {s : State} {m : MethodId} {args : Array Value} {below : List Frame} {meth : Method} {c : Code} (C : XC G 1 570 p s m args c prog_7_method_2_code 6 R_Likings) (hr : meth.sig.returnType = none) (hk : meth.locks = false) {d : Nat} (hd : 4 ≤ d + 1) (hR : xroom R (d + 1)) {p0 : Nat} (hp0 : p0 = 0 ∨ p0 ∈ xTastes) {rec166 : Int32 → Int32 → LH → Option (LH)} {σ' : LH} (hrec166 : ∀ (y3 : Int32) (y4 : Int32) (σ : LH), rec166 y3 y4 σ = some σ' → XJ G 1 570 p l e R s m args below meth c 6 (XQ G 1 570 below args s none σ') 0 0 166 [(0, .ref (G.2.2.1 + 33)), (3, .int y3), (4, .int y4)] [] σ) {y3 : Int32} {y4 : Int32} {z1 : Int32} {z2 : Int32} {σ : LH} (h0 : s_Likings_renew_218 p0 rec166 y3 y4 z1 z2 σ = some σ') : XJ G 1 570 p l e R s m args below meth c 6 (XQ G 1 570 below args s none σ') 0 0 218 [(0, .ref (G.2.2.1 + 33)), (3, .int y3), (4, .int y4)] [.int z2, .int z1, .ref (G.2.2.1 + 36)] σ := by
  replace h0 := (show _ = _ from h0)
  unfold s_Likings_renew_218 at h0
  obtain ⟨g7, h0⟩ := xgo h0
  refine x_iast C k_36 (ib_in g7) d_Likings_renew_218 ?_
  obtain ⟨σ8, eσ8, h0⟩ := xlet h0
  refine x_sig C eσ8 ?_
  obtain ⟨x9, ex9, h0⟩ := xlet h0
  refine x_iinc (lv' := [(4, .int x9), (0, .ref (G.2.2.1 + 33)), (3, .int y3)]) C d_Likings_renew_219 2 rfl ex9 (by decide) rfl ?_
  refine x_goto C 166 d_Likings_renew_222 (by decide) ?_
  exact x_lv C [1, 2, 0] rfl (hrec166 _ _ _ h0)
def s_Likings_renew_214 (p0 : Nat) (rec166 : Int32 → Int32 → LH → Option (LH)) (y3 : Int32) (y4 : Int32) (z1 : Int32) (σ : LH) : Option (LH) :=
  s_Likings_renew_218 p0 rec166 y3 y4 z1 (y4 + 1) σ
theorem b_Likings_renew_214 {G : XG} {l : Launch} {p : Program} {e : Env} {R : Room} {s : State} {m : MethodId} {args : Array Value} {below : List Frame} {meth : Method} {c : Code} (C : XC G 1 570 p s m args c prog_7_method_2_code 6 R_Likings) (hr : meth.sig.returnType = none) (hk : meth.locks = false) {d : Nat} (hd : 4 ≤ d + 1) (hR : xroom R (d + 1)) {p0 : Nat} (hp0 : p0 = 0 ∨ p0 ∈ xTastes) {rec166 : Int32 → Int32 → LH → Option (LH)} {σ' : LH} (hrec166 : ∀ (y3 : Int32) (y4 : Int32) (σ : LH), rec166 y3 y4 σ = some σ' → XJ G 1 570 p l e R s m args below meth c 6 (XQ G 1 570 below args s none σ') 0 0 166 [(0, .ref (G.2.2.1 + 33)), (3, .int y3), (4, .int y4)] [] σ) {y3 : Int32} {y4 : Int32} {z1 : Int32} {σ : LH} (h0 : s_Likings_renew_214 p0 rec166 y3 y4 z1 σ = some σ') : XJ G 1 570 p l e R s m args below meth c 6 (XQ G 1 570 below args s none σ') 0 0 214 [(0, .ref (G.2.2.1 + 33)), (3, .int y3), (4, .int y4)] [.int z1, .ref (G.2.2.1 + 36)] σ := by
  replace h0 := (show _ = _ from h0)
  unfold s_Likings_renew_214 at h0
  refine x_iload C d_Likings_renew_214 2 rfl ?_
  refine x_iconst (v := 1) C d_Likings_renew_216 (by decide) ?_
  refine x_iadd C d_Likings_renew_217 ?_
  exact x_lv C [0, 1, 2] rfl (b_Likings_renew_218 C hr hk hd hR hp0 hrec166 h0)
def s_Likings_renew_166_b (p0 : Nat) (rec166 : Int32 → Int32 → LH → Option (LH)) (y3 : Int32) (y4 : Int32) (σ : LH) : Option (LH) :=
  if y4 < 0 then (
   some σ)
  else (
   if y3 ≤ y4 then (
    s_Likings_renew_214 p0 rec166 y3 y4 y4 σ)
   else (
    if ib (y4 + 1) 100 then (
    if ib y4 100 then (
    if (σ.1 35 (Int32.toNatClampNeg (y4 + 1))) = (σ.1 35 (Int32.toNatClampNeg y4)) then (
     if ib (y4 + 1) 100 then (
     s_Likings_renew_218 p0 rec166 y3 y4 y4 (σ.1 36 (Int32.toNatClampNeg (y4 + 1))) σ) else none)
    else (
     s_Likings_renew_214 p0 rec166 y3 y4 y4 σ)) else none) else none))
def s_Likings_renew_166 (p0 : Nat) : Nat → Int32 → Int32 → LH → Option (LH)
  | 0, _, _, _ => none
  | n + 1, y3, y4, σ => s_Likings_renew_166_b p0 (s_Likings_renew_166 p0 n) y3 y4 σ
theorem bb_Likings_renew_166 {G : XG} {l : Launch} {p : Program} {e : Env} {R : Room} {s : State} {m : MethodId} {args : Array Value} {below : List Frame} {meth : Method} {c : Code} (C : XC G 1 570 p s m args c prog_7_method_2_code 6 R_Likings) (hr : meth.sig.returnType = none) (hk : meth.locks = false) {d : Nat} (hd : 4 ≤ d + 1) (hR : xroom R (d + 1)) {p0 : Nat} (hp0 : p0 = 0 ∨ p0 ∈ xTastes) {rec166 : Int32 → Int32 → LH → Option (LH)} {σ' : LH} (hrec166 : ∀ (y3 : Int32) (y4 : Int32) (σ : LH), rec166 y3 y4 σ = some σ' → XJ G 1 570 p l e R s m args below meth c 6 (XQ G 1 570 below args s none σ') 0 0 166 [(0, .ref (G.2.2.1 + 33)), (3, .int y3), (4, .int y4)] [] σ) {y3 : Int32} {y4 : Int32} {σ : LH} (h0 : s_Likings_renew_166_b p0 rec166 y3 y4 σ = some σ') : XJ G 1 570 p l e R s m args below meth c 6 (XQ G 1 570 below args s none σ') 0 0 166 [(0, .ref (G.2.2.1 + 33)), (3, .int y3), (4, .int y4)] [] σ := by
  replace h0 := (show _ = _ from h0)
  unfold s_Likings_renew_166_b at h0
  refine x_iload C d_Likings_renew_166 2 rfl ?_
  refine x_if_lt C 225 d_Likings_renew_168 (by decide) (fun q5 => ?_) (fun q5 => ?_)
  · replace h0 := xit q5 h0
    exact x_vret C hr hk h0 d_Likings_renew_225
  · replace h0 := xif q5 h0
    refine x_aload_n C d_Likings_renew_171 0 rfl ?_
    refine x_getA (y := 36) C fg_Likings_18 k_33 rfl d_Likings_renew_172 ?_
    refine x_iload C d_Likings_renew_175 2 rfl ?_
    refine x_iload C d_Likings_renew_177 2 rfl ?_
    refine x_iload_n C d_Likings_renew_179 1 rfl ?_
    refine x_icmp_ge C 214 d_Likings_renew_180 (by decide) (fun q6 => ?_) (fun q6 => ?_)
    · replace h0 := xit q6 h0
      exact x_lv C [0, 1, 2] rfl (b_Likings_renew_214 C hr hk hd hR hp0 hrec166 h0)
    · replace h0 := xif q6 h0
      refine x_aload_n C d_Likings_renew_183 0 rfl ?_
      refine x_getA (y := 35) C fg_Likings_15 k_33 rfl d_Likings_renew_184 ?_
      refine x_iload C d_Likings_renew_187 2 rfl ?_
      refine x_iconst (v := 1) C d_Likings_renew_189 (by decide) ?_
      refine x_iadd C d_Likings_renew_190 ?_
      obtain ⟨g10, h0⟩ := xgo h0
      refine x_iald C k_35 (ib_in g10) d_Likings_renew_191 ?_
      refine x_aload_n C d_Likings_renew_192 0 rfl ?_
      refine x_getA (y := 35) C fg_Likings_15 k_33 rfl d_Likings_renew_193 ?_
      refine x_iload C d_Likings_renew_196 2 rfl ?_
      obtain ⟨g11, h0⟩ := xgo h0
      refine x_iald C k_35 (ib_in g11) d_Likings_renew_198 ?_
      refine x_icmp_ne C 214 d_Likings_renew_199 (by decide) (fun q12 => ?_) (fun q12 => ?_)
      · replace h0 := xif q12 h0
        exact x_lv C [0, 1, 2] rfl (b_Likings_renew_214 C hr hk hd hR hp0 hrec166 h0)
      · replace h0 := xit q12 h0
        refine x_aload_n C d_Likings_renew_202 0 rfl ?_
        refine x_getA (y := 36) C fg_Likings_18 k_33 rfl d_Likings_renew_203 ?_
        refine x_iload C d_Likings_renew_206 2 rfl ?_
        refine x_iconst (v := 1) C d_Likings_renew_208 (by decide) ?_
        refine x_iadd C d_Likings_renew_209 ?_
        obtain ⟨g13, h0⟩ := xgo h0
        refine x_iald C k_36 (ib_in g13) d_Likings_renew_210 ?_
        refine x_goto C 218 d_Likings_renew_211 (by decide) ?_
        exact x_lv C [0, 1, 2] rfl (b_Likings_renew_218 C hr hk hd hR hp0 hrec166 h0)
theorem b_Likings_renew_166 {G : XG} {l : Launch} {p : Program} {e : Env} {R : Room} {s : State} {m : MethodId} {args : Array Value} {below : List Frame} {meth : Method} {c : Code} (C : XC G 1 570 p s m args c prog_7_method_2_code 6 R_Likings) (hr : meth.sig.returnType = none) (hk : meth.locks = false) {d : Nat} (hd : 4 ≤ d + 1) (hR : xroom R (d + 1)) {p0 : Nat} (hp0 : p0 = 0 ∨ p0 ∈ xTastes) {σ' : LH} : ∀ (n : Nat) (y3 : Int32) (y4 : Int32) (σ : LH), s_Likings_renew_166 p0 n y3 y4 σ = some σ' → XJ G 1 570 p l e R s m args below meth c 6 (XQ G 1 570 below args s none σ') 0 0 166 [(0, .ref (G.2.2.1 + 33)), (3, .int y3), (4, .int y4)] [] σ := by
  intro n
  induction n with
  | zero => intro y3 y4 σ h0; cases h0
  | succ n ih => intro y3 y4 σ h0; exact bb_Likings_renew_166 C hr hk hd hR hp0 ih h0
def s_Likings_renew_156 (p0 : Nat) (rec55 : Int32 → Int32 → Int32 → LH → Option (LH)) (y2 : Int32) (y3 : Int32) (y4 : Int32) (z1 : Int32) (z2 : Int32) (σ : LH) : Option (LH) :=
  if ib z1 100 then (
  xl ((stI σ 35 (Int32.toNatClampNeg z1) z2) : LH) fun σ21 =>
  xl ((y4 + 1) : Int32) fun x22 =>
  rec55 y2 y3 x22 σ21) else none
theorem b_Likings_renew_156 {G : XG} {l : Launch} {p : Program} {e : Env} {R : Room} {s : State} {m : MethodId} {args : Array Value} {below : List Frame} {meth : Method} {c : Code} (C : XC G 1 570 p s m args c prog_7_method_2_code 6 R_Likings) (hr : meth.sig.returnType = none) (hk : meth.locks = false) {d : Nat} (hd : 4 ≤ d + 1) (hR : xroom R (d + 1)) {p0 : Nat} (hp0 : p0 = 0 ∨ p0 ∈ xTastes) {rec55 : Int32 → Int32 → Int32 → LH → Option (LH)} {σ' : LH} (hrec55 : ∀ (y2 : Int32) (y3 : Int32) (y4 : Int32) (σ : LH), rec55 y2 y3 y4 σ = some σ' → XJ G 1 570 p l e R s m args below meth c 6 (XQ G 1 570 below args s none σ') 0 0 55 [(0, .ref (G.2.2.1 + 33)), (1, (xq G p0)), (2, .int y2), (3, .int y3), (4, .int y4)] [] σ) {y2 : Int32} {y3 : Int32} {y4 : Int32} {z1 : Int32} {z2 : Int32} {σ : LH} (h0 : s_Likings_renew_156 p0 rec55 y2 y3 y4 z1 z2 σ = some σ') : XJ G 1 570 p l e R s m args below meth c 6 (XQ G 1 570 below args s none σ') 0 0 156 [(0, .ref (G.2.2.1 + 33)), (1, (xq G p0)), (2, .int y2), (3, .int y3), (4, .int y4)] [.int z2, .int z1, .ref (G.2.2.1 + 35)] σ := by
  replace h0 := (show _ = _ from h0)
  unfold s_Likings_renew_156 at h0
  obtain ⟨g20, h0⟩ := xgo h0
  refine x_iast C k_35 (ib_in g20) d_Likings_renew_156 ?_
  obtain ⟨σ21, eσ21, h0⟩ := xlet h0
  refine x_sig C eσ21 ?_
  obtain ⟨x22, ex22, h0⟩ := xlet h0
  refine x_iinc (lv' := [(4, .int x22), (0, .ref (G.2.2.1 + 33)), (1, (xq G p0)), (2, .int y2), (3, .int y3)]) C d_Likings_renew_157 4 rfl ex22 (by decide) (by unfold xq; split <;> rfl) ?_
  refine x_goto C 55 d_Likings_renew_160 (by decide) ?_
  exact x_lv C [1, 2, 3, 4, 0] rfl (hrec55 _ _ _ _ h0)
def s_Likings_renew_131 (p0 : Nat) (rec55 : Int32 → Int32 → Int32 → LH → Option (LH)) (y2 : Int32) (y3 : Int32) (y4 : Int32) (y5 : Int32) (σ : LH) : Option (LH) :=
  if y5 = 0 then (
   s_Likings_renew_156 p0 rec55 y2 y3 y4 y4 y4 σ)
  else (
   if ib (y4 - 1) 100 then (
   s_Likings_renew_156 p0 rec55 y2 y3 y4 y4 (σ.1 35 (Int32.toNatClampNeg (y4 - 1))) σ) else none)
theorem b_Likings_renew_131 {G : XG} {l : Launch} {p : Program} {e : Env} {R : Room} {s : State} {m : MethodId} {args : Array Value} {below : List Frame} {meth : Method} {c : Code} (C : XC G 1 570 p s m args c prog_7_method_2_code 6 R_Likings) (hr : meth.sig.returnType = none) (hk : meth.locks = false) {d : Nat} (hd : 4 ≤ d + 1) (hR : xroom R (d + 1)) {p0 : Nat} (hp0 : p0 = 0 ∨ p0 ∈ xTastes) {rec55 : Int32 → Int32 → Int32 → LH → Option (LH)} {σ' : LH} (hrec55 : ∀ (y2 : Int32) (y3 : Int32) (y4 : Int32) (σ : LH), rec55 y2 y3 y4 σ = some σ' → XJ G 1 570 p l e R s m args below meth c 6 (XQ G 1 570 below args s none σ') 0 0 55 [(0, .ref (G.2.2.1 + 33)), (1, (xq G p0)), (2, .int y2), (3, .int y3), (4, .int y4)] [] σ) {y2 : Int32} {y3 : Int32} {y4 : Int32} {y5 : Int32} {σ : LH} (h0 : s_Likings_renew_131 p0 rec55 y2 y3 y4 y5 σ = some σ') : XJ G 1 570 p l e R s m args below meth c 6 (XQ G 1 570 below args s none σ') 0 0 131 [(0, .ref (G.2.2.1 + 33)), (1, (xq G p0)), (2, .int y2), (3, .int y3), (4, .int y4), (5, .int y5)] [] σ := by
  replace h0 := (show _ = _ from h0)
  unfold s_Likings_renew_131 at h0
  refine x_aload_n C d_Likings_renew_131 0 rfl ?_
  refine x_getA (y := 35) C fg_Likings_15 k_33 rfl d_Likings_renew_132 ?_
  refine x_iload C d_Likings_renew_135 4 rfl ?_
  refine x_iload C d_Likings_renew_137 5 rfl ?_
  refine x_if_eq C 154 d_Likings_renew_139 (by decide) (fun q19 => ?_) (fun q19 => ?_)
  · replace h0 := xit q19 h0
    refine x_iload C d_Likings_renew_154 4 rfl ?_
    exact x_lv C [0, 1, 2, 3, 4] rfl (b_Likings_renew_156 C hr hk hd hR hp0 hrec55 h0)
  · replace h0 := xif q19 h0
    refine x_aload_n C d_Likings_renew_142 0 rfl ?_
    refine x_getA (y := 35) C fg_Likings_15 k_33 rfl d_Likings_renew_143 ?_
    refine x_iload C d_Likings_renew_146 4 rfl ?_
    refine x_iconst (v := 1) C d_Likings_renew_148 (by decide) ?_
    refine x_isub C d_Likings_renew_149 ?_
    obtain ⟨g23, h0⟩ := xgo h0
    refine x_iald C k_35 (ib_in g23) d_Likings_renew_150 ?_
    refine x_goto C 156 d_Likings_renew_151 (by decide) ?_
    exact x_lv C [0, 1, 2, 3, 4] rfl (b_Likings_renew_156 C hr hk hd hR hp0 hrec55 h0)
def s_Likings_renew_129 (p0 : Nat) (rec55 : Int32 → Int32 → Int32 → LH → Option (LH)) (y2 : Int32) (y3 : Int32) (y4 : Int32) (z0 : Int32) (σ : LH) : Option (LH) :=
  s_Likings_renew_131 p0 rec55 y2 y3 y4 z0 σ
theorem b_Likings_renew_129 {G : XG} {l : Launch} {p : Program} {e : Env} {R : Room} {s : State} {m : MethodId} {args : Array Value} {below : List Frame} {meth : Method} {c : Code} (C : XC G 1 570 p s m args c prog_7_method_2_code 6 R_Likings) (hr : meth.sig.returnType = none) (hk : meth.locks = false) {d : Nat} (hd : 4 ≤ d + 1) (hR : xroom R (d + 1)) {p0 : Nat} (hp0 : p0 = 0 ∨ p0 ∈ xTastes) {rec55 : Int32 → Int32 → Int32 → LH → Option (LH)} {σ' : LH} (hrec55 : ∀ (y2 : Int32) (y3 : Int32) (y4 : Int32) (σ : LH), rec55 y2 y3 y4 σ = some σ' → XJ G 1 570 p l e R s m args below meth c 6 (XQ G 1 570 below args s none σ') 0 0 55 [(0, .ref (G.2.2.1 + 33)), (1, (xq G p0)), (2, .int y2), (3, .int y3), (4, .int y4)] [] σ) {y2 : Int32} {y3 : Int32} {y4 : Int32} {z0 : Int32} {σ : LH} (h0 : s_Likings_renew_129 p0 rec55 y2 y3 y4 z0 σ = some σ') : XJ G 1 570 p l e R s m args below meth c 6 (XQ G 1 570 below args s none σ') 0 0 129 [(0, .ref (G.2.2.1 + 33)), (1, (xq G p0)), (2, .int y2), (3, .int y3), (4, .int y4)] [.int z0] σ := by
  replace h0 := (show _ = _ from h0)
  unfold s_Likings_renew_129 at h0
  refine x_istore (lv' := [(5, .int z0), (0, .ref (G.2.2.1 + 33)), (1, (xq G p0)), (2, .int y2), (3, .int y3), (4, .int y4)]) C d_Likings_renew_129 (by decide) (by unfold xq; split <;> rfl) ?_
  exact x_lv C [1, 2, 3, 4, 5, 0] rfl (b_Likings_renew_131 C hr hk hd hR hp0 hrec55 h0)
def s_Likings_renew_128 (p0 : Nat) (rec55 : Int32 → Int32 → Int32 → LH → Option (LH)) (y2 : Int32) (y3 : Int32) (y4 : Int32) (σ : LH) : Option (LH) :=
  s_Likings_renew_129 p0 rec55 y2 y3 y4 0 σ
theorem b_Likings_renew_128 {G : XG} {l : Launch} {p : Program} {e : Env} {R : Room} {s : State} {m : MethodId} {args : Array Value} {below : List Frame} {meth : Method} {c : Code} (C : XC G 1 570 p s m args c prog_7_method_2_code 6 R_Likings) (hr : meth.sig.returnType = none) (hk : meth.locks = false) {d : Nat} (hd : 4 ≤ d + 1) (hR : xroom R (d + 1)) {p0 : Nat} (hp0 : p0 = 0 ∨ p0 ∈ xTastes) {rec55 : Int32 → Int32 → Int32 → LH → Option (LH)} {σ' : LH} (hrec55 : ∀ (y2 : Int32) (y3 : Int32) (y4 : Int32) (σ : LH), rec55 y2 y3 y4 σ = some σ' → XJ G 1 570 p l e R s m args below meth c 6 (XQ G 1 570 below args s none σ') 0 0 55 [(0, .ref (G.2.2.1 + 33)), (1, (xq G p0)), (2, .int y2), (3, .int y3), (4, .int y4)] [] σ) {y2 : Int32} {y3 : Int32} {y4 : Int32} {σ : LH} (h0 : s_Likings_renew_128 p0 rec55 y2 y3 y4 σ = some σ') : XJ G 1 570 p l e R s m args below meth c 6 (XQ G 1 570 below args s none σ') 0 0 128 [(0, .ref (G.2.2.1 + 33)), (1, (xq G p0)), (2, .int y2), (3, .int y3), (4, .int y4)] [] σ := by
  replace h0 := (show _ = _ from h0)
  unfold s_Likings_renew_128 at h0
  refine x_iconst (v := 0) C d_Likings_renew_128 (by decide) ?_
  exact x_lv C [0, 1, 2, 3, 4] rfl (b_Likings_renew_129 C hr hk hd hR hp0 hrec55 h0)
def s_Likings_renew_87 (p0 : Nat) (rec55 : Int32 → Int32 → Int32 → LH → Option (LH)) (y2 : Int32) (y3 : Int32) (y4 : Int32) (z0 : Int32) (σ : LH) : Option (LH) :=
  if z0 = 0 then (
   xb1 (s_Likings_fill y4 p0 σ) fun σ17 =>
   if y4 ≤ 0 then (
    s_Likings_renew_128 p0 rec55 y2 y3 y4 σ17)
   else (
    if ib (y4 - 1) 100 then (
    xb2 (s_Likings_isAlike y4 (σ17.1 35 (Int32.toNatClampNeg (y4 - 1))) σ17) fun r26 σ27 =>
    if r26 = 0 then (
     s_Likings_renew_128 p0 rec55 y2 y3 y4 σ27)
    else (
     s_Likings_renew_129 p0 rec55 y2 y3 y4 1 σ27)) else none))
  else (
   s_Likings_renew_131 p0 rec55 y2 y3 y4 z0 σ)
theorem b_Likings_renew_87 {G : XG} {l : Launch} {p : Program} {e : Env} {R : Room} {s : State} {m : MethodId} {args : Array Value} {below : List Frame} {meth : Method} {c : Code} (C : XC G 1 570 p s m args c prog_7_method_2_code 6 R_Likings) (hr : meth.sig.returnType = none) (hk : meth.locks = false) {d : Nat} (hd : 4 ≤ d + 1) (hR : xroom R (d + 1)) {p0 : Nat} (hp0 : p0 = 0 ∨ p0 ∈ xTastes) {rec55 : Int32 → Int32 → Int32 → LH → Option (LH)} {σ' : LH} (hrec55 : ∀ (y2 : Int32) (y3 : Int32) (y4 : Int32) (σ : LH), rec55 y2 y3 y4 σ = some σ' → XJ G 1 570 p l e R s m args below meth c 6 (XQ G 1 570 below args s none σ') 0 0 55 [(0, .ref (G.2.2.1 + 33)), (1, (xq G p0)), (2, .int y2), (3, .int y3), (4, .int y4)] [] σ) {y2 : Int32} {y3 : Int32} {y4 : Int32} {z0 : Int32} {σ : LH} (h0 : s_Likings_renew_87 p0 rec55 y2 y3 y4 z0 σ = some σ') : XJ G 1 570 p l e R s m args below meth c 6 (XQ G 1 570 below args s none σ') 0 0 87 [(0, .ref (G.2.2.1 + 33)), (1, (xq G p0)), (2, .int y2), (3, .int y3), (4, .int y4)] [.int z0] σ := by
  replace h0 := (show _ = _ from h0)
  unfold s_Likings_renew_87 at h0
  refine x_istore (lv' := [(5, .int z0), (0, .ref (G.2.2.1 + 33)), (1, (xq G p0)), (2, .int y2), (3, .int y3), (4, .int y4)]) C d_Likings_renew_87 (by decide) (by unfold xq; split <;> rfl) ?_
  refine x_iload C d_Likings_renew_89 0 rfl ?_
  refine x_if_ne C 131 d_Likings_renew_91 (by decide) (fun q15 => ?_) (fun q15 => ?_)
  · replace h0 := xif q15 h0
    exact x_lv C [1, 2, 3, 4, 5, 0] rfl (b_Likings_renew_131 C hr hk hd hR hp0 hrec55 h0)
  · replace h0 := xit q15 h0
    refine x_aload_n C d_Likings_renew_94 1 rfl ?_
    refine x_iload C d_Likings_renew_95 5 rfl ?_
    refine x_aloadQ_n C d_Likings_renew_97 2 rfl ?_
    obtain ⟨σ17, k16, h0⟩ := xbind1 h0
    refine x_callVv C hR (c_Likings_fill (d := d) (by omega) hp0 k16) cw_Likings_54 k_33 rfl rfl rfl (Nat.le_of_ble_eq_true rfl) ⟨Nat.zero_le _, Nat.zero_le _⟩ d_Likings_renew_98 ?_
    refine x_iload C d_Likings_renew_101 5 rfl ?_
    refine x_if_le C 128 d_Likings_renew_103 (by decide) (fun q18 => ?_) (fun q18 => ?_)
    · replace h0 := xit q18 h0
      exact x_lv C [1, 2, 3, 4, 5] rfl (b_Likings_renew_128 C hr hk hd hR hp0 hrec55 h0)
    · replace h0 := xif q18 h0
      refine x_aload_n C d_Likings_renew_106 1 rfl ?_
      refine x_iload C d_Likings_renew_107 5 rfl ?_
      refine x_aload_n C d_Likings_renew_109 1 rfl ?_
      refine x_getA (y := 35) C fg_Likings_15 k_33 rfl d_Likings_renew_110 ?_
      refine x_iload C d_Likings_renew_113 5 rfl ?_
      refine x_iconst (v := 1) C d_Likings_renew_115 (by decide) ?_
      refine x_isub C d_Likings_renew_116 ?_
      obtain ⟨g24, h0⟩ := xgo h0
      refine x_iald C k_35 (ib_in g24) d_Likings_renew_117 ?_
      obtain ⟨r26, σ27, k25, h0⟩ := xbind2 h0
      refine x_callVi C hR (c_Likings_isAlike (d := d) (by omega) k25) cw_Likings_58 k_33 rfl rfl rfl (Nat.le_of_ble_eq_true rfl) ⟨Nat.zero_le _, Nat.zero_le _⟩ d_Likings_renew_118 ?_
      refine x_if_eq C 128 d_Likings_renew_121 (by decide) (fun q28 => ?_) (fun q28 => ?_)
      · replace h0 := xit q28 h0
        exact x_lv C [1, 2, 3, 4, 5] rfl (b_Likings_renew_128 C hr hk hd hR hp0 hrec55 h0)
      · replace h0 := xif q28 h0
        refine x_iconst (v := 1) C d_Likings_renew_124 (by decide) ?_
        refine x_goto C 129 d_Likings_renew_125 (by decide) ?_
        exact x_lv C [1, 2, 3, 4, 5] rfl (b_Likings_renew_129 C hr hk hd hR hp0 hrec55 h0)
def s_Likings_renew_86 (p0 : Nat) (rec55 : Int32 → Int32 → Int32 → LH → Option (LH)) (y2 : Int32) (y3 : Int32) (y4 : Int32) (σ : LH) : Option (LH) :=
  s_Likings_renew_87 p0 rec55 y2 y3 y4 0 σ
theorem b_Likings_renew_86 {G : XG} {l : Launch} {p : Program} {e : Env} {R : Room} {s : State} {m : MethodId} {args : Array Value} {below : List Frame} {meth : Method} {c : Code} (C : XC G 1 570 p s m args c prog_7_method_2_code 6 R_Likings) (hr : meth.sig.returnType = none) (hk : meth.locks = false) {d : Nat} (hd : 4 ≤ d + 1) (hR : xroom R (d + 1)) {p0 : Nat} (hp0 : p0 = 0 ∨ p0 ∈ xTastes) {rec55 : Int32 → Int32 → Int32 → LH → Option (LH)} {σ' : LH} (hrec55 : ∀ (y2 : Int32) (y3 : Int32) (y4 : Int32) (σ : LH), rec55 y2 y3 y4 σ = some σ' → XJ G 1 570 p l e R s m args below meth c 6 (XQ G 1 570 below args s none σ') 0 0 55 [(0, .ref (G.2.2.1 + 33)), (1, (xq G p0)), (2, .int y2), (3, .int y3), (4, .int y4)] [] σ) {y2 : Int32} {y3 : Int32} {y4 : Int32} {σ : LH} (h0 : s_Likings_renew_86 p0 rec55 y2 y3 y4 σ = some σ') : XJ G 1 570 p l e R s m args below meth c 6 (XQ G 1 570 below args s none σ') 0 0 86 [(0, .ref (G.2.2.1 + 33)), (1, (xq G p0)), (2, .int y2), (3, .int y3), (4, .int y4)] [] σ := by
  replace h0 := (show _ = _ from h0)
  unfold s_Likings_renew_86 at h0
  refine x_iconst (v := 0) C d_Likings_renew_86 (by decide) ?_
  exact x_lv C [0, 1, 2, 3, 4] rfl (b_Likings_renew_87 C hr hk hd hR hp0 hrec55 h0)
def s_Likings_renew_55_b (p0 : Nat) (rec55 : Int32 → Int32 → Int32 → LH → Option (LH)) (y2 : Int32) (y3 : Int32) (y4 : Int32) (σ : LH) : Option (LH) :=
  if y3 < y4 then (
   s_Likings_renew_166 p0 FUEL y3 y3 σ)
  else (
   if y4 ≤ 0 then (
    s_Likings_renew_86 p0 rec55 y2 y3 y4 σ)
   else (
    if y2 = 0 then (
     if y4 = (σ.1 4 14) then (
      s_Likings_renew_86 p0 rec55 y2 y3 y4 σ)
     else (
      s_Likings_renew_87 p0 rec55 y2 y3 y4 1 σ))
    else (
     s_Likings_renew_86 p0 rec55 y2 y3 y4 σ)))
def s_Likings_renew_55 (p0 : Nat) : Nat → Int32 → Int32 → Int32 → LH → Option (LH)
  | 0, _, _, _, _ => none
  | n + 1, y2, y3, y4, σ => s_Likings_renew_55_b p0 (s_Likings_renew_55 p0 n) y2 y3 y4 σ
theorem bb_Likings_renew_55 {G : XG} {l : Launch} {p : Program} {e : Env} {R : Room} {s : State} {m : MethodId} {args : Array Value} {below : List Frame} {meth : Method} {c : Code} (C : XC G 1 570 p s m args c prog_7_method_2_code 6 R_Likings) (hr : meth.sig.returnType = none) (hk : meth.locks = false) {d : Nat} (hd : 4 ≤ d + 1) (hR : xroom R (d + 1)) {p0 : Nat} (hp0 : p0 = 0 ∨ p0 ∈ xTastes) {rec55 : Int32 → Int32 → Int32 → LH → Option (LH)} {σ' : LH} (hrec55 : ∀ (y2 : Int32) (y3 : Int32) (y4 : Int32) (σ : LH), rec55 y2 y3 y4 σ = some σ' → XJ G 1 570 p l e R s m args below meth c 6 (XQ G 1 570 below args s none σ') 0 0 55 [(0, .ref (G.2.2.1 + 33)), (1, (xq G p0)), (2, .int y2), (3, .int y3), (4, .int y4)] [] σ) {y2 : Int32} {y3 : Int32} {y4 : Int32} {σ : LH} (h0 : s_Likings_renew_55_b p0 rec55 y2 y3 y4 σ = some σ') : XJ G 1 570 p l e R s m args below meth c 6 (XQ G 1 570 below args s none σ') 0 0 55 [(0, .ref (G.2.2.1 + 33)), (1, (xq G p0)), (2, .int y2), (3, .int y3), (4, .int y4)] [] σ := by
  replace h0 := (show _ = _ from h0)
  unfold s_Likings_renew_55_b at h0
  refine x_iload C d_Likings_renew_55 4 rfl ?_
  refine x_iload_n C d_Likings_renew_57 3 rfl ?_
  refine x_icmp_gt C 163 d_Likings_renew_58 (by decide) (fun q4 => ?_) (fun q4 => ?_)
  · replace h0 := xit q4 h0
    refine x_iload_n C d_Likings_renew_163 3 rfl ?_
    refine x_istore (lv' := [(4, .int y3), (0, .ref (G.2.2.1 + 33)), (1, (xq G p0)), (2, .int y2), (3, .int y3)]) C d_Likings_renew_164 (by decide) (by unfold xq; split <;> rfl) ?_
    exact x_lv C [1, 4, 0] rfl (b_Likings_renew_166 C hr hk hd hR hp0 FUEL _ _ _ h0)
  · replace h0 := xif q4 h0
    refine x_iload C d_Likings_renew_61 4 rfl ?_
    refine x_if_le C 86 d_Likings_renew_63 (by decide) (fun q14 => ?_) (fun q14 => ?_)
    · replace h0 := xit q14 h0
      exact x_lv C [0, 1, 2, 3, 4] rfl (b_Likings_renew_86 C hr hk hd hR hp0 hrec55 h0)
    · replace h0 := xif q14 h0
      refine x_iload_n C d_Likings_renew_66 2 rfl ?_
      refine x_if_ne C 86 d_Likings_renew_67 (by decide) (fun q29 => ?_) (fun q29 => ?_)
      · replace h0 := xif q29 h0
        exact x_lv C [0, 1, 2, 3, 4] rfl (b_Likings_renew_86 C hr hk hd hR hp0 hrec55 h0)
      · replace h0 := xit q29 h0
        refine x_iload C d_Likings_renew_70 4 rfl ?_
        refine x_aload_n C d_Likings_renew_72 0 rfl ?_
        refine x_getA (y := 4) C fg_Likings_38 k_33 rfl d_Likings_renew_73 ?_
        refine x_getI (y := 0) C fg_Likings_51 k_4 rfl d_Likings_renew_76 ?_
        refine x_icmp_eq C 86 d_Likings_renew_79 (by decide) (fun q30 => ?_) (fun q30 => ?_)
        · replace h0 := xit q30 h0
          exact x_lv C [0, 1, 2, 3, 4] rfl (b_Likings_renew_86 C hr hk hd hR hp0 hrec55 h0)
        · replace h0 := xif q30 h0
          refine x_iconst (v := 1) C d_Likings_renew_82 (by decide) ?_
          refine x_goto C 87 d_Likings_renew_83 (by decide) ?_
          exact x_lv C [0, 1, 2, 3, 4] rfl (b_Likings_renew_87 C hr hk hd hR hp0 hrec55 h0)
theorem b_Likings_renew_55 {G : XG} {l : Launch} {p : Program} {e : Env} {R : Room} {s : State} {m : MethodId} {args : Array Value} {below : List Frame} {meth : Method} {c : Code} (C : XC G 1 570 p s m args c prog_7_method_2_code 6 R_Likings) (hr : meth.sig.returnType = none) (hk : meth.locks = false) {d : Nat} (hd : 4 ≤ d + 1) (hR : xroom R (d + 1)) {p0 : Nat} (hp0 : p0 = 0 ∨ p0 ∈ xTastes) {σ' : LH} : ∀ (n : Nat) (y2 : Int32) (y3 : Int32) (y4 : Int32) (σ : LH), s_Likings_renew_55 p0 n y2 y3 y4 σ = some σ' → XJ G 1 570 p l e R s m args below meth c 6 (XQ G 1 570 below args s none σ') 0 0 55 [(0, .ref (G.2.2.1 + 33)), (1, (xq G p0)), (2, .int y2), (3, .int y3), (4, .int y4)] [] σ := by
  intro n
  induction n with
  | zero => intro y2 y3 y4 σ h0; cases h0
  | succ n ih => intro y2 y3 y4 σ h0; exact bb_Likings_renew_55 C hr hk hd hR hp0 ih h0
def s_Likings_renew_51 (p0 : Nat) (y2 : Int32) (z0 : Int32) (σ : LH) : Option (LH) :=
  s_Likings_renew_55 p0 FUEL y2 z0 0 σ
theorem b_Likings_renew_51 {G : XG} {l : Launch} {p : Program} {e : Env} {R : Room} {s : State} {m : MethodId} {args : Array Value} {below : List Frame} {meth : Method} {c : Code} (C : XC G 1 570 p s m args c prog_7_method_2_code 6 R_Likings) (hr : meth.sig.returnType = none) (hk : meth.locks = false) {d : Nat} (hd : 4 ≤ d + 1) (hR : xroom R (d + 1)) {p0 : Nat} (hp0 : p0 = 0 ∨ p0 ∈ xTastes) {σ' : LH} {y2 : Int32} {z0 : Int32} {σ : LH} (h0 : s_Likings_renew_51 p0 y2 z0 σ = some σ') : XJ G 1 570 p l e R s m args below meth c 6 (XQ G 1 570 below args s none σ') 0 0 51 [(0, .ref (G.2.2.1 + 33)), (1, (xq G p0)), (2, .int y2)] [.int z0] σ := by
  replace h0 := (show _ = _ from h0)
  unfold s_Likings_renew_51 at h0
  refine x_istore_n (lv' := [(3, .int z0), (0, .ref (G.2.2.1 + 33)), (1, (xq G p0)), (2, .int y2)]) C d_Likings_renew_51 rfl (by decide) (by unfold xq; split <;> rfl) ?_
  refine x_iconst (v := 0) C d_Likings_renew_52 (by decide) ?_
  refine x_istore (lv' := [(4, .int 0), (3, .int z0), (0, .ref (G.2.2.1 + 33)), (1, (xq G p0)), (2, .int y2)]) C d_Likings_renew_53 (by decide) (by unfold xq; split <;> rfl) ?_
  exact x_lv C [2, 3, 4, 1, 0] rfl (b_Likings_renew_55 C hr hk hd hR hp0 FUEL _ _ _ _ h0)
def s_Likings_renew_26 (p0 : Nat) (z0 : Int32) (σ : LH) : Option (LH) :=
  if 100 ≤ (σ.1 4 15) then (
   s_Likings_renew_51 p0 z0 99 σ)
  else (
   s_Likings_renew_51 p0 z0 (σ.1 4 15) σ)
theorem b_Likings_renew_26 {G : XG} {l : Launch} {p : Program} {e : Env} {R : Room} {s : State} {m : MethodId} {args : Array Value} {below : List Frame} {meth : Method} {c : Code} (C : XC G 1 570 p s m args c prog_7_method_2_code 6 R_Likings) (hr : meth.sig.returnType = none) (hk : meth.locks = false) {d : Nat} (hd : 4 ≤ d + 1) (hR : xroom R (d + 1)) {p0 : Nat} (hp0 : p0 = 0 ∨ p0 ∈ xTastes) {σ' : LH} {z0 : Int32} {σ : LH} (h0 : s_Likings_renew_26 p0 z0 σ = some σ') : XJ G 1 570 p l e R s m args below meth c 6 (XQ G 1 570 below args s none σ') 0 0 26 [(0, .ref (G.2.2.1 + 33)), (1, (xq G p0))] [.int z0] σ := by
  replace h0 := (show _ = _ from h0)
  unfold s_Likings_renew_26 at h0
  refine x_istore_n (lv' := [(2, .int z0), (0, .ref (G.2.2.1 + 33)), (1, (xq G p0))]) C d_Likings_renew_26 rfl (by decide) (by unfold xq; split <;> rfl) ?_
  refine x_aload_n C d_Likings_renew_27 1 rfl ?_
  refine x_getA (y := 4) C fg_Likings_38 k_33 rfl d_Likings_renew_28 ?_
  refine x_getI (y := 0) C fg_Likings_46 k_4 rfl d_Likings_renew_31 ?_
  refine x_bipush (v := 100) C d_Likings_renew_34 (by decide) ?_
  refine x_icmp_ge C 49 d_Likings_renew_36 (by decide) (fun q3 => ?_) (fun q3 => ?_)
  · replace h0 := xit q3 h0
    refine x_bipush (v := 99) C d_Likings_renew_49 (by decide) ?_
    exact x_lv C [1, 2, 0] rfl (b_Likings_renew_51 C hr hk hd hR hp0 h0)
  · replace h0 := xif q3 h0
    refine x_aload_n C d_Likings_renew_39 1 rfl ?_
    refine x_getA (y := 4) C fg_Likings_38 k_33 rfl d_Likings_renew_40 ?_
    refine x_getI (y := 0) C fg_Likings_46 k_4 rfl d_Likings_renew_43 ?_
    refine x_goto C 51 d_Likings_renew_46 (by decide) ?_
    exact x_lv C [1, 2, 0] rfl (b_Likings_renew_51 C hr hk hd hR hp0 h0)
def s_Likings_renew_25 (p0 : Nat) (σ : LH) : Option (LH) :=
  s_Likings_renew_26 p0 0 σ
theorem b_Likings_renew_25 {G : XG} {l : Launch} {p : Program} {e : Env} {R : Room} {s : State} {m : MethodId} {args : Array Value} {below : List Frame} {meth : Method} {c : Code} (C : XC G 1 570 p s m args c prog_7_method_2_code 6 R_Likings) (hr : meth.sig.returnType = none) (hk : meth.locks = false) {d : Nat} (hd : 4 ≤ d + 1) (hR : xroom R (d + 1)) {p0 : Nat} (hp0 : p0 = 0 ∨ p0 ∈ xTastes) {σ' : LH} {σ : LH} (h0 : s_Likings_renew_25 p0 σ = some σ') : XJ G 1 570 p l e R s m args below meth c 6 (XQ G 1 570 below args s none σ') 0 0 25 [(0, .ref (G.2.2.1 + 33)), (1, (xq G p0))] [] σ := by
  replace h0 := (show _ = _ from h0)
  unfold s_Likings_renew_25 at h0
  refine x_iconst (v := 0) C d_Likings_renew_25 (by decide) ?_
  exact x_lv C [0, 1] rfl (b_Likings_renew_26 C hr hk hd hR hp0 h0)
def s_Likings_renew (p0 : Nat) (σ : LH) : Option (LH) :=
  xl ((stI σ 33 5 ((σ.1 33 5) + 1)) : LH) fun σ1 =>
  if p0 = 0 then (
   s_Likings_renew_25 p0 σ1)
  else (
   if ¬ p0 = 0 then (
   if (σ1.1 p0 3) = 0 then (
    s_Likings_renew_25 p0 σ1)
   else (
    s_Likings_renew_26 p0 1 σ1)) else none)
theorem c_Likings_renew {G : XG} {l : Launch} {d : Nat} (hd : 4 ≤ d) {p0 : Nat} (hp0 : p0 = 0 ∨ p0 ∈ xTastes) {σ σ' : LH} (h0 : s_Likings_renew p0 σ = some σ') : xM G 1 570 l y_Likings_renew prog_7_method_2_code 6 none d [.ref (G.2.2.1 + 33), (xq G p0)] σ none σ' := by
  obtain ⟨d, rfl⟩ : ∃ q, d = q + 1 := ⟨d - 1, by omega⟩
  refine x_met R_Likings rfl (by decide +kernel) (by unfold xq; split <;> exact Nat.le_of_ble_eq_true rfl) fun p e s m below meth c C hr hk hR => ?_
  refine x_lv (lv' := [(0, .ref (G.2.2.1 + 33)), (1, (xq G p0))]) C [0, 1] (by unfold xq; split <;> rfl) ?_
  generalize xrm (d + 1) = R at hR ⊢
  unfold s_Likings_renew at h0
  refine x_aload_n C d_Likings_renew_0 0 rfl ?_
  refine x_dup C d_Likings_renew_1 rfl ?_
  refine x_getI (y := 0) C fg_Likings_34 k_33 rfl d_Likings_renew_2 ?_
  refine x_iconst (v := 1) C d_Likings_renew_5 (by decide) ?_
  refine x_iadd C d_Likings_renew_6 ?_
  refine x_putI (y := 0) C fp_Likings_34 k_33 rfl rfl rfl d_Likings_renew_7 ?_
  obtain ⟨σ1, eσ1, h0⟩ := xlet h0
  refine x_sig C eσ1 ?_
  refine x_aloadQ_n C d_Likings_renew_10 1 rfl ?_
  refine x_ifnullQ C 25 d_Likings_renew_11 (by decide) (fun q2 => ?_) (fun q2 => ?_)
  · replace h0 := xit q2 h0
    exact x_lv C [0, 1] rfl (b_Likings_renew_25 C hr hk hd hR hp0 h0)
  · replace h0 := xif q2 h0
    refine x_aloadQ_n C d_Likings_renew_14 1 rfl ?_
    obtain ⟨g31, h0⟩ := xgo h0
    refine x_fromQ C g31 ?_
    refine x_getI (y := 0) C fg_Likings_42 (ta_0 (hp0.resolve_left g31)) rfl d_Likings_renew_15 ?_
    refine x_if_eq C 25 d_Likings_renew_18 (by decide) (fun q32 => ?_) (fun q32 => ?_)
    · replace h0 := xit q32 h0
      exact x_lv C [0, 1] rfl (b_Likings_renew_25 C hr hk hd hR hp0 h0)
    · replace h0 := xif q32 h0
      refine x_iconst (v := 1) C d_Likings_renew_21 (by decide) ?_
      refine x_goto C 26 d_Likings_renew_22 (by decide) ?_
      exact x_lv C [0, 1] rfl (b_Likings_renew_26 C hr hk hd hR hp0 h0)
-- LostPlaces.renewLikings()V
theorem d_Main_renewLikings_0 : decode prog_1_method_8_code 0 = .ok (.aload_n 0, 1) := by decide +kernel
theorem d_Main_renewLikings_1 : decode prog_1_method_8_code 1 = .ok (.getfield 52, 3) := by decide +kernel
theorem d_Main_renewLikings_4 : decode prog_1_method_8_code 4 = .ok (.ifCond .lt 30, 3) := by decide +kernel
theorem d_Main_renewLikings_7 : decode prog_1_method_8_code 7 = .ok (.aload_n 0, 1) := by decide +kernel
theorem d_Main_renewLikings_8 : decode prog_1_method_8_code 8 = .ok (.getfield 52, 3) := by decide +kernel
theorem d_Main_renewLikings_11 : decode prog_1_method_8_code 11 = .ok (.aload_n 0, 1) := by decide +kernel
theorem d_Main_renewLikings_12 : decode prog_1_method_8_code 12 = .ok (.getfield 48, 3) := by decide +kernel
theorem d_Main_renewLikings_15 : decode prog_1_method_8_code 15 = .ok (.if_icmp .ge 19, 3) := by decide +kernel
theorem d_Main_renewLikings_18 : decode prog_1_method_8_code 18 = .ok (.aload_n 0, 1) := by decide +kernel
theorem d_Main_renewLikings_19 : decode prog_1_method_8_code 19 = .ok (.getfield 52, 3) := by decide +kernel
theorem d_Main_renewLikings_22 : decode prog_1_method_8_code 22 = .ok (.aload_n 0, 1) := by decide +kernel
theorem d_Main_renewLikings_23 : decode prog_1_method_8_code 23 = .ok (.getfield 44, 3) := by decide +kernel
theorem d_Main_renewLikings_26 : decode prog_1_method_8_code 26 = .ok (.arraylength, 1) := by decide +kernel
theorem d_Main_renewLikings_27 : decode prog_1_method_8_code 27 = .ok (.if_icmp .ge 7, 3) := by decide +kernel
theorem d_Main_renewLikings_30 : decode prog_1_method_8_code 30 = .ok (.iconst 1, 1) := by decide +kernel
theorem d_Main_renewLikings_31 : decode prog_1_method_8_code 31 = .ok (.goto 4, 3) := by decide +kernel
theorem d_Main_renewLikings_34 : decode prog_1_method_8_code 34 = .ok (.iconst 0, 1) := by decide +kernel
theorem d_Main_renewLikings_35 : decode prog_1_method_8_code 35 = .ok (.istore_n 1, 1) := by decide +kernel
theorem d_Main_renewLikings_36 : decode prog_1_method_8_code 36 = .ok (.aload_n 0, 1) := by decide +kernel
theorem d_Main_renewLikings_37 : decode prog_1_method_8_code 37 = .ok (.getfield 63, 3) := by decide +kernel
theorem d_Main_renewLikings_40 : decode prog_1_method_8_code 40 = .ok (.iload_n 1, 1) := by decide +kernel
theorem d_Main_renewLikings_41 : decode prog_1_method_8_code 41 = .ok (.ifCond .eq 15, 3) := by decide +kernel
theorem d_Main_renewLikings_44 : decode prog_1_method_8_code 44 = .ok (.aload_n 0, 1) := by decide +kernel
theorem d_Main_renewLikings_45 : decode prog_1_method_8_code 45 = .ok (.getfield 44, 3) := by decide +kernel
theorem d_Main_renewLikings_48 : decode prog_1_method_8_code 48 = .ok (.aload_n 0, 1) := by decide +kernel
theorem d_Main_renewLikings_49 : decode prog_1_method_8_code 49 = .ok (.getfield 52, 3) := by decide +kernel
theorem d_Main_renewLikings_52 : decode prog_1_method_8_code 52 = .ok (.aaload, 1) := by decide +kernel
theorem d_Main_renewLikings_53 : decode prog_1_method_8_code 53 = .ok (.goto 4, 3) := by decide +kernel
theorem d_Main_renewLikings_56 : decode prog_1_method_8_code 56 = .ok (.aconst_null, 1) := by decide +kernel
theorem d_Main_renewLikings_57 : decode prog_1_method_8_code 57 = .ok (.invokevirtual 160, 3) := by decide +kernel
theorem d_Main_renewLikings_60 : decode prog_1_method_8_code 60 = .ok (.return_, 1) := by decide +kernel
def s_Main_renewLikings_57 (z1 : Nat) (σ : LH) : Option (LH) :=
  xb1 (s_Likings_renew z1 σ) fun σ4 =>
  some σ4
theorem b_Main_renewLikings_57 {G : XG} {l : Launch} {p : Program} {e : Env} {R : Room} {s : State} {m : MethodId} {args : Array Value} {below : List Frame} {meth : Method} {c : Code} (C : XC G 1 570 p s m args c prog_1_method_8_code 2 R_Main) (hr : meth.sig.returnType = none) (hk : meth.locks = false) {d : Nat} (hd : 5 ≤ d + 1) (hR : xroom R (d + 1)) {σ' : LH} {z1 : Nat} {σ : LH} (hz1 : z1 = 0 ∨ z1 ∈ xTastes) (h0 : s_Main_renewLikings_57 z1 σ = some σ') : XJ G 1 570 p l e R s m args below meth c 2 (XQ G 1 570 below args s none σ') 0 0 57 [] [(xq G z1), .ref (G.2.2.1 + 33)] σ := by
  replace h0 := (show _ = _ from h0)
  unfold s_Main_renewLikings_57 at h0
  obtain ⟨σ4, k3, h0⟩ := xbind1 h0
  refine x_callVv C hR (c_Likings_renew (d := d) (by omega) hz1 k3) cw_Main_160 k_33 rfl rfl rfl (Nat.le_of_ble_eq_true rfl) ⟨Nat.zero_le _, Nat.zero_le _⟩ d_Main_renewLikings_57 ?_
  exact x_vret C hr hk h0 d_Main_renewLikings_60
def s_Main_renewLikings_35 (z0 : Int32) (σ : LH) : Option (LH) :=
  if z0 = 0 then (
   s_Main_renewLikings_57 0 σ)
  else (
   if ib (σ.1 1 7) 5 then (
   xl ((195 + 3 * (Int32.toNatClampNeg (σ.1 1 7))) : Nat) fun t6 =>
   s_Main_renewLikings_57 t6 σ) else none)
theorem b_Main_renewLikings_35 {G : XG} {l : Launch} {p : Program} {e : Env} {R : Room} {s : State} {m : MethodId} {args : Array Value} {below : List Frame} {meth : Method} {c : Code} (C : XC G 1 570 p s m args c prog_1_method_8_code 2 R_Main) (hr : meth.sig.returnType = none) (hk : meth.locks = false) {d : Nat} (hd : 5 ≤ d + 1) (hR : xroom R (d + 1)) {σ' : LH} {z0 : Int32} {σ : LH} (h0 : s_Main_renewLikings_35 z0 σ = some σ') : XJ G 1 570 p l e R s m args below meth c 2 (XQ G 1 570 below args s none σ') 0 0 35 [(0, .ref (G.2.2.1 + 1))] [.int z0] σ := by
  replace h0 := (show _ = _ from h0)
  unfold s_Main_renewLikings_35 at h0
  refine x_istore_n (lv' := [(1, .int z0), (0, .ref (G.2.2.1 + 1))]) C d_Main_renewLikings_35 rfl (by decide) rfl ?_
  refine x_aload_n C d_Main_renewLikings_36 1 rfl ?_
  refine x_getA (y := 33) C fg_Main_63 k_1 rfl d_Main_renewLikings_37 ?_
  refine x_iload_n C d_Main_renewLikings_40 0 rfl ?_
  refine x_if_eq C 56 d_Main_renewLikings_41 (by decide) (fun q2 => ?_) (fun q2 => ?_)
  · replace h0 := xit q2 h0
    refine x_null C d_Main_renewLikings_56 ?_
    refine x_toN C ?_
    exact x_lv C [] rfl (b_Main_renewLikings_57 C hr hk hd hR (Or.inl rfl) h0)
  · replace h0 := xif q2 h0
    refine x_aload_n C d_Main_renewLikings_44 1 rfl ?_
    refine x_getA (y := 32) C fg_Main_44 k_1 rfl d_Main_renewLikings_45 ?_
    refine x_aload_n C d_Main_renewLikings_48 1 rfl ?_
    refine x_getI (y := 0) C fg_Main_52 k_1 rfl d_Main_renewLikings_49 ?_
    obtain ⟨g5, h0⟩ := xgo h0
    refine x_tald C k_32 (ib_in g5) d_Main_renewLikings_52 ?_
    obtain ⟨t6, et6, h0⟩ := xlet h0
    refine x_nameR C et6 ?_
    have ht6 : t6 ∈ xTastes := by rw [et6]; exact tastes_in g5
    refine x_goto C 57 d_Main_renewLikings_53 (by decide) ?_
    refine x_toQ C ht6 ?_
    exact x_lv C [] rfl (b_Main_renewLikings_57 C hr hk hd hR (Or.inr ht6) h0)
def s_Main_renewLikings_34 (σ : LH) : Option (LH) :=
  s_Main_renewLikings_35 0 σ
theorem b_Main_renewLikings_34 {G : XG} {l : Launch} {p : Program} {e : Env} {R : Room} {s : State} {m : MethodId} {args : Array Value} {below : List Frame} {meth : Method} {c : Code} (C : XC G 1 570 p s m args c prog_1_method_8_code 2 R_Main) (hr : meth.sig.returnType = none) (hk : meth.locks = false) {d : Nat} (hd : 5 ≤ d + 1) (hR : xroom R (d + 1)) {σ' : LH} {σ : LH} (h0 : s_Main_renewLikings_34 σ = some σ') : XJ G 1 570 p l e R s m args below meth c 2 (XQ G 1 570 below args s none σ') 0 0 34 [(0, .ref (G.2.2.1 + 1))] [] σ := by
  replace h0 := (show _ = _ from h0)
  unfold s_Main_renewLikings_34 at h0
  refine x_iconst (v := 0) C d_Main_renewLikings_34 (by decide) ?_
  exact x_lv C [0] rfl (b_Main_renewLikings_35 C hr hk hd hR h0)
def s_Main_renewLikings (σ : LH) : Option (LH) :=
  if (σ.1 1 7) < 0 then (
   s_Main_renewLikings_34 σ)
  else (
   if (σ.1 1 6) ≤ (σ.1 1 7) then (
    s_Main_renewLikings_34 σ)
   else (
    if 5 ≤ (σ.1 1 7) then (
     s_Main_renewLikings_34 σ)
    else (
     s_Main_renewLikings_35 1 σ)))
theorem c_Main_renewLikings {G : XG} {l : Launch} {d : Nat} (hd : 5 ≤ d) {σ σ' : LH} (h0 : s_Main_renewLikings σ = some σ') : xM G 1 570 l y_Main_renewLikings prog_1_method_8_code 2 none d [.ref (G.2.2.1 + 1)] σ none σ' := by
  obtain ⟨d, rfl⟩ : ∃ q, d = q + 1 := ⟨d - 1, by omega⟩
  refine x_met R_Main rfl (by decide +kernel) (Nat.le_of_ble_eq_true rfl) fun p e s m below meth c C hr hk hR => ?_
  refine x_lv (lv' := [(0, .ref (G.2.2.1 + 1))]) C [0] rfl ?_
  generalize xrm (d + 1) = R at hR ⊢
  unfold s_Main_renewLikings at h0
  refine x_aload_n C d_Main_renewLikings_0 0 rfl ?_
  refine x_getI (y := 0) C fg_Main_52 k_1 rfl d_Main_renewLikings_1 ?_
  refine x_if_lt C 34 d_Main_renewLikings_4 (by decide) (fun q1 => ?_) (fun q1 => ?_)
  · replace h0 := xit q1 h0
    exact x_lv C [0] rfl (b_Main_renewLikings_34 C hr hk hd hR h0)
  · replace h0 := xif q1 h0
    refine x_aload_n C d_Main_renewLikings_7 0 rfl ?_
    refine x_getI (y := 0) C fg_Main_52 k_1 rfl d_Main_renewLikings_8 ?_
    refine x_aload_n C d_Main_renewLikings_11 0 rfl ?_
    refine x_getI (y := 0) C fg_Main_48 k_1 rfl d_Main_renewLikings_12 ?_
    refine x_icmp_ge C 34 d_Main_renewLikings_15 (by decide) (fun q7 => ?_) (fun q7 => ?_)
    · replace h0 := xit q7 h0
      exact x_lv C [0] rfl (b_Main_renewLikings_34 C hr hk hd hR h0)
    · replace h0 := xif q7 h0
      refine x_aload_n C d_Main_renewLikings_18 0 rfl ?_
      refine x_getI (y := 0) C fg_Main_52 k_1 rfl d_Main_renewLikings_19 ?_
      refine x_aload_n C d_Main_renewLikings_22 0 rfl ?_
      refine x_getA (y := 32) C fg_Main_44 k_1 rfl d_Main_renewLikings_23 ?_
      refine x_tlen (v := 5) C k_32 rfl d_Main_renewLikings_26 ?_
      refine x_icmp_ge C 34 d_Main_renewLikings_27 (by decide) (fun q8 => ?_) (fun q8 => ?_)
      · replace h0 := xit q8 h0
        exact x_lv C [0] rfl (b_Main_renewLikings_34 C hr hk hd hR h0)
      · replace h0 := xif q8 h0
        refine x_iconst (v := 1) C d_Main_renewLikings_30 (by decide) ?_
        refine x_goto C 35 d_Main_renewLikings_31 (by decide) ?_
        exact x_lv C [0] rfl (b_Main_renewLikings_35 C hr hk hd hR h0)
-- LostPlaces.takeRoom()I
theorem d_Main_takeRoom_0 : decode prog_1_method_7_code 0 = .ok (.aload_n 0, 1) := by decide +kernel
theorem d_Main_takeRoom_1 : decode prog_1_method_7_code 1 = .ok (.getfield 31, 3) := by decide +kernel
theorem d_Main_takeRoom_4 : decode prog_1_method_7_code 4 = .ok (.aload_n 0, 1) := by decide +kernel
theorem d_Main_takeRoom_5 : decode prog_1_method_7_code 5 = .ok (.getfield 19, 3) := by decide +kernel
theorem d_Main_takeRoom_8 : decode prog_1_method_7_code 8 = .ok (.invokevirtual 133, 3) := by decide +kernel
theorem d_Main_takeRoom_11 : decode prog_1_method_7_code 11 = .ok (.pop, 1) := by decide +kernel
theorem d_Main_takeRoom_12 : decode prog_1_method_7_code 12 = .ok (.aload_n 0, 1) := by decide +kernel
theorem d_Main_takeRoom_13 : decode prog_1_method_7_code 13 = .ok (.getfield 10, 3) := by decide +kernel
theorem d_Main_takeRoom_16 : decode prog_1_method_7_code 16 = .ok (.iconst 0, 1) := by decide +kernel
theorem d_Main_takeRoom_17 : decode prog_1_method_7_code 17 = .ok (.putfield 126, 3) := by decide +kernel
theorem d_Main_takeRoom_20 : decode prog_1_method_7_code 20 = .ok (.aload_n 0, 1) := by decide +kernel
theorem d_Main_takeRoom_21 : decode prog_1_method_7_code 21 = .ok (.iconst 0, 1) := by decide +kernel
theorem d_Main_takeRoom_22 : decode prog_1_method_7_code 22 = .ok (.putfield 87, 3) := by decide +kernel
theorem d_Main_takeRoom_25 : decode prog_1_method_7_code 25 = .ok (.aload_n 0, 1) := by decide +kernel
theorem d_Main_takeRoom_26 : decode prog_1_method_7_code 26 = .ok (.iconst 0, 1) := by decide +kernel
theorem d_Main_takeRoom_27 : decode prog_1_method_7_code 27 = .ok (.putfield 96, 3) := by decide +kernel
theorem d_Main_takeRoom_30 : decode prog_1_method_7_code 30 = .ok (.aload_n 0, 1) := by decide +kernel
theorem d_Main_takeRoom_31 : decode prog_1_method_7_code 31 = .ok (.getfield 121, 3) := by decide +kernel
theorem d_Main_takeRoom_34 : decode prog_1_method_7_code 34 = .ok (.iconst 0, 1) := by decide +kernel
theorem d_Main_takeRoom_35 : decode prog_1_method_7_code 35 = .ok (.putfield 148, 3) := by decide +kernel
theorem d_Main_takeRoom_38 : decode prog_1_method_7_code 38 = .ok (.aload_n 0, 1) := by decide +kernel
theorem d_Main_takeRoom_39 : decode prog_1_method_7_code 39 = .ok (.getfield 79, 3) := by decide +kernel
theorem d_Main_takeRoom_42 : decode prog_1_method_7_code 42 = .ok (.aload_n 0, 1) := by decide +kernel
theorem d_Main_takeRoom_43 : decode prog_1_method_7_code 43 = .ok (.getfield 19, 3) := by decide +kernel
theorem d_Main_takeRoom_46 : decode prog_1_method_7_code 46 = .ok (.invokevirtual 151, 3) := by decide +kernel
theorem d_Main_takeRoom_49 : decode prog_1_method_7_code 49 = .ok (.aload_n 0, 1) := by decide +kernel
theorem d_Main_takeRoom_50 : decode prog_1_method_7_code 50 = .ok (.invokevirtual 154, 3) := by decide +kernel
theorem d_Main_takeRoom_53 : decode prog_1_method_7_code 53 = .ok (.aload_n 0, 1) := by decide +kernel
theorem d_Main_takeRoom_54 : decode prog_1_method_7_code 54 = .ok (.getfield 19, 3) := by decide +kernel
theorem d_Main_takeRoom_57 : decode prog_1_method_7_code 57 = .ok (.getfield 157, 3) := by decide +kernel
theorem d_Main_takeRoom_60 : decode prog_1_method_7_code 60 = .ok (.ireturn, 1) := by decide +kernel
def s_Main_takeRoom (σ : LH) : Option (Int32 × LH) :=
  xb2 (s_RoomReader_read 4 σ) fun r2 σ3 =>
  xl ((stI σ3 2 1 0) : LH) fun σ4 =>
  xl ((stI σ4 1 13 0) : LH) fun σ5 =>
  xl ((stI σ5 1 16 0) : LH) fun σ6 =>
  xl ((stI σ6 81 10 0) : LH) fun σ7 =>
  xb1 (s_Hall_open 39 4 σ7) fun σ9 =>
  xb1 (s_Main_renewLikings σ9) fun σ11 =>
  some ((σ11.1 4 1), σ11)
theorem c_Main_takeRoom {G : XG} {l : Launch} {d : Nat} (hd : 13 ≤ d) {σ σ' : LH} {r : Int32} (h0 : s_Main_takeRoom σ = some (r, σ')) : xM G 1 570 l y_Main_takeRoom prog_1_method_7_code 1 (some .int) d [.ref (G.2.2.1 + 1)] σ (some (.int r)) σ' := by
  obtain ⟨d, rfl⟩ : ∃ q, d = q + 1 := ⟨d - 1, by omega⟩
  refine x_met R_Main rfl (by decide +kernel) (Nat.le_of_ble_eq_true rfl) fun p e s m below meth c C hr hk hR => ?_
  refine x_lv (lv' := [(0, .ref (G.2.2.1 + 1))]) C [0] rfl ?_
  generalize xrm (d + 1) = R at hR ⊢
  unfold s_Main_takeRoom at h0
  refine x_aload_n C d_Main_takeRoom_0 0 rfl ?_
  refine x_getA (y := 26) C fg_Main_31 k_1 rfl d_Main_takeRoom_1 ?_
  refine x_aload_n C d_Main_takeRoom_4 0 rfl ?_
  refine x_getA (y := 4) C fg_Main_19 k_1 rfl d_Main_takeRoom_5 ?_
  obtain ⟨r2, σ3, k1, h0⟩ := xbind2 h0
  refine x_callVi C hR (c_RoomReader_read (d := d) (by omega) (show 4 ∈ xRooms by decide) k1) cw_Main_133 k_26 rfl rfl rfl (Nat.le_of_ble_eq_true rfl) ⟨Nat.zero_le _, Nat.zero_le _⟩ d_Main_takeRoom_8 ?_
  refine x_pop C d_Main_takeRoom_11 rfl ?_
  refine x_aload_n C d_Main_takeRoom_12 0 rfl ?_
  refine x_getA (y := 2) C fg_Main_10 k_1 rfl d_Main_takeRoom_13 ?_
  refine x_iconst (v := 0) C d_Main_takeRoom_16 (by decide) ?_
  refine x_putI (y := 0) C fp_Main_126 k_2 rfl rfl rfl d_Main_takeRoom_17 ?_
  obtain ⟨σ4, eσ4, h0⟩ := xlet h0
  refine x_sig C eσ4 ?_
  refine x_aload_n C d_Main_takeRoom_20 0 rfl ?_
  refine x_iconst (v := 0) C d_Main_takeRoom_21 (by decide) ?_
  refine x_putI (y := 0) C fp_Main_87 k_1 rfl rfl rfl d_Main_takeRoom_22 ?_
  obtain ⟨σ5, eσ5, h0⟩ := xlet h0
  refine x_sig C eσ5 ?_
  refine x_aload_n C d_Main_takeRoom_25 0 rfl ?_
  refine x_iconst (v := 0) C d_Main_takeRoom_26 (by decide) ?_
  refine x_putI (y := 0) C fp_Main_96 k_1 rfl rfl rfl d_Main_takeRoom_27 ?_
  obtain ⟨σ6, eσ6, h0⟩ := xlet h0
  refine x_sig C eσ6 ?_
  refine x_aload_n C d_Main_takeRoom_30 0 rfl ?_
  refine x_getA (y := 81) C fg_Main_121 k_1 rfl d_Main_takeRoom_31 ?_
  refine x_iconst (v := 0) C d_Main_takeRoom_34 (by decide) ?_
  refine x_putI (y := 0) C fp_Main_148 k_81 rfl rfl rfl d_Main_takeRoom_35 ?_
  obtain ⟨σ7, eσ7, h0⟩ := xlet h0
  refine x_sig C eσ7 ?_
  refine x_aload_n C d_Main_takeRoom_38 0 rfl ?_
  refine x_getA (y := 39) C fg_Main_79 k_1 rfl d_Main_takeRoom_39 ?_
  refine x_aload_n C d_Main_takeRoom_42 0 rfl ?_
  refine x_getA (y := 4) C fg_Main_19 k_1 rfl d_Main_takeRoom_43 ?_
  obtain ⟨σ9, k8, h0⟩ := xbind1 h0
  refine x_callVv C hR (c_Hall_open (d := d) (by omega) (show 39 ∈ xHalls by decide) (show 4 ∈ xRooms by decide) k8) cw_Main_151 k_39 rfl rfl rfl (Nat.le_of_ble_eq_true rfl) ⟨Nat.zero_le _, Nat.zero_le _⟩ d_Main_takeRoom_46 ?_
  refine x_aload_n C d_Main_takeRoom_49 0 rfl ?_
  obtain ⟨σ11, k10, h0⟩ := xbind1 h0
  refine x_callVv C hR (c_Main_renewLikings (d := d) (by omega) k10) cw_Main_154 k_1 rfl rfl rfl (Nat.le_of_ble_eq_true rfl) ⟨Nat.zero_le _, Nat.zero_le _⟩ d_Main_takeRoom_50 ?_
  refine x_aload_n C d_Main_takeRoom_53 0 rfl ?_
  refine x_getA (y := 4) C fg_Main_19 k_1 rfl d_Main_takeRoom_54 ?_
  refine x_getI (y := 0) C fg_Main_157 k_4 rfl d_Main_takeRoom_57 ?_
  exact x_iret C hr hk h0 d_Main_takeRoom_60
-- LostPlaces.text(I)I
theorem d_Main_text_0 : decode prog_1_method_5_code 0 = .ok (.iload_n 1, 1) := by decide +kernel
theorem d_Main_text_1 : decode prog_1_method_5_code 1 = .ok (.ifCond .ne 23, 3) := by decide +kernel
theorem d_Main_text_4 : decode prog_1_method_5_code 4 = .ok (.aload_n 0, 1) := by decide +kernel
theorem d_Main_text_5 : decode prog_1_method_5_code 5 = .ok (.getfield 31, 3) := by decide +kernel
theorem d_Main_text_8 : decode prog_1_method_5_code 8 = .ok (.aload_n 0, 1) := by decide +kernel
theorem d_Main_text_9 : decode prog_1_method_5_code 9 = .ok (.getfield 23, 3) := by decide +kernel
theorem d_Main_text_12 : decode prog_1_method_5_code 12 = .ok (.invokevirtual 133, 3) := by decide +kernel
theorem d_Main_text_15 : decode prog_1_method_5_code 15 = .ok (.iconst (-1), 1) := by decide +kernel
theorem d_Main_text_16 : decode prog_1_method_5_code 16 = .ok (.if_icmp .ne 8, 3) := by decide +kernel
theorem d_Main_text_19 : decode prog_1_method_5_code 19 = .ok (.aload_n 0, 1) := by decide +kernel
theorem d_Main_text_20 : decode prog_1_method_5_code 20 = .ok (.invokevirtual 144, 3) := by decide +kernel
theorem d_Main_text_23 : decode prog_1_method_5_code 23 = .ok (.ireturn, 1) := by decide +kernel
theorem d_Main_text_24 : decode prog_1_method_5_code 24 = .ok (.iload_n 1, 1) := by decide +kernel
theorem d_Main_text_25 : decode prog_1_method_5_code 25 = .ok (.iconst 1, 1) := by decide +kernel
theorem d_Main_text_26 : decode prog_1_method_5_code 26 = .ok (.if_icmp .ne 51, 3) := by decide +kernel
theorem d_Main_text_29 : decode prog_1_method_5_code 29 = .ok (.aload_n 0, 1) := by decide +kernel
theorem d_Main_text_30 : decode prog_1_method_5_code 30 = .ok (.getfield 48, 3) := by decide +kernel
theorem d_Main_text_33 : decode prog_1_method_5_code 33 = .ok (.iconst 4, 1) := by decide +kernel
theorem d_Main_text_34 : decode prog_1_method_5_code 34 = .ok (.if_icmp .ge 43, 3) := by decide +kernel
theorem d_Main_text_37 : decode prog_1_method_5_code 37 = .ok (.aload_n 0, 1) := by decide +kernel
theorem d_Main_text_38 : decode prog_1_method_5_code 38 = .ok (.getfield 38, 3) := by decide +kernel
theorem d_Main_text_41 : decode prog_1_method_5_code 41 = .ok (.aload_n 0, 1) := by decide +kernel
theorem d_Main_text_42 : decode prog_1_method_5_code 42 = .ok (.invokevirtual 137, 3) := by decide +kernel
theorem d_Main_text_45 : decode prog_1_method_5_code 45 = .ok (.invokevirtual 141, 3) := by decide +kernel
theorem d_Main_text_48 : decode prog_1_method_5_code 48 = .ok (.iconst (-1), 1) := by decide +kernel
theorem d_Main_text_49 : decode prog_1_method_5_code 49 = .ok (.if_icmp .ne 28, 3) := by decide +kernel
theorem d_Main_text_52 : decode prog_1_method_5_code 52 = .ok (.aload_n 0, 1) := by decide +kernel
theorem d_Main_text_53 : decode prog_1_method_5_code 53 = .ok (.getfield 10, 3) := by decide +kernel
theorem d_Main_text_56 : decode prog_1_method_5_code 56 = .ok (.iconst 0, 1) := by decide +kernel
theorem d_Main_text_57 : decode prog_1_method_5_code 57 = .ok (.putfield 126, 3) := by decide +kernel
theorem d_Main_text_60 : decode prog_1_method_5_code 60 = .ok (.aload_n 0, 1) := by decide +kernel
theorem d_Main_text_61 : decode prog_1_method_5_code 61 = .ok (.dup, 1) := by decide +kernel
theorem d_Main_text_62 : decode prog_1_method_5_code 62 = .ok (.getfield 48, 3) := by decide +kernel
theorem d_Main_text_65 : decode prog_1_method_5_code 65 = .ok (.iconst 1, 1) := by decide +kernel
theorem d_Main_text_66 : decode prog_1_method_5_code 66 = .ok (.iadd, 1) := by decide +kernel
theorem d_Main_text_67 : decode prog_1_method_5_code 67 = .ok (.putfield 48, 3) := by decide +kernel
theorem d_Main_text_70 : decode prog_1_method_5_code 70 = .ok (.aload_n 0, 1) := by decide +kernel
theorem d_Main_text_71 : decode prog_1_method_5_code 71 = .ok (.getfield 48, 3) := by decide +kernel
theorem d_Main_text_74 : decode prog_1_method_5_code 74 = .ok (.iconst 1, 1) := by decide +kernel
theorem d_Main_text_75 : decode prog_1_method_5_code 75 = .ok (.isub, 1) := by decide +kernel
theorem d_Main_text_76 : decode prog_1_method_5_code 76 = .ok (.ireturn, 1) := by decide +kernel
theorem d_Main_text_77 : decode prog_1_method_5_code 77 = .ok (.iconst (-1), 1) := by decide +kernel
theorem d_Main_text_78 : decode prog_1_method_5_code 78 = .ok (.ireturn, 1) := by decide +kernel
def s_Main_text_77 (p0 : Int32) (σ : LH) : Option (Int32 × LH) :=
  some ((-1), σ)
theorem b_Main_text_77 {G : XG} {l : Launch} {p : Program} {e : Env} {R : Room} {s : State} {m : MethodId} {args : Array Value} {below : List Frame} {meth : Method} {c : Code} (C : XC G 1 570 p s m args c prog_1_method_5_code 2 R_Main) (hr : meth.sig.returnType = (some .int)) (hk : meth.locks = false) {d : Nat} (hd : 114 ≤ d + 1) (hR : xroom R (d + 1)) {p0 : Int32} {σ' : LH} {r : Int32} {σ : LH} (h0 : s_Main_text_77 p0 σ = some (r, σ')) : XJ G 1 570 p l e R s m args below meth c 2 (XQ G 1 570 below args s (some (.int r)) σ') 0 0 77 [] [] σ := by
  replace h0 := (show _ = _ from h0)
  unfold s_Main_text_77 at h0
  refine x_iconst (v := (-1)) C d_Main_text_77 (by decide) ?_
  exact x_iret C hr hk h0 d_Main_text_78
def s_Main_text_24 (p0 : Int32) (σ : LH) : Option (Int32 × LH) :=
  if p0 = 1 then (
   if 4 ≤ (σ.1 1 6) then (
    s_Main_text_77 p0 σ)
   else (
    xb2 (s_Main_nextTaste σ) fun r12 σ13 =>
    xb2 (s_TasteReader_read r12 σ13) fun r15 σ16 =>
    if r15 = (-1) then (
     xl ((stI σ16 2 1 0) : LH) fun σ18 =>
     xl ((stI σ18 1 6 ((σ18.1 1 6) + 1)) : LH) fun σ19 =>
     some (((σ19.1 1 6) - 1), σ19))
    else (
     s_Main_text_77 p0 σ16)))
  else (
   s_Main_text_77 p0 σ)
theorem b_Main_text_24 {G : XG} {l : Launch} {p : Program} {e : Env} {R : Room} {s : State} {m : MethodId} {args : Array Value} {below : List Frame} {meth : Method} {c : Code} (C : XC G 1 570 p s m args c prog_1_method_5_code 2 R_Main) (hr : meth.sig.returnType = (some .int)) (hk : meth.locks = false) {d : Nat} (hd : 114 ≤ d + 1) (hR : xroom R (d + 1)) {p0 : Int32} {σ' : LH} {r : Int32} {σ : LH} (h0 : s_Main_text_24 p0 σ = some (r, σ')) : XJ G 1 570 p l e R s m args below meth c 2 (XQ G 1 570 below args s (some (.int r)) σ') 0 0 24 [(0, .ref (G.2.2.1 + 1)), (1, .int p0)] [] σ := by
  replace h0 := (show _ = _ from h0)
  unfold s_Main_text_24 at h0
  refine x_iload_n C d_Main_text_24 1 rfl ?_
  refine x_iconst (v := 1) C d_Main_text_25 (by decide) ?_
  refine x_icmp_ne C 77 d_Main_text_26 (by decide) (fun q9 => ?_) (fun q9 => ?_)
  · replace h0 := xif q9 h0
    exact x_lv C [] rfl (b_Main_text_77 C hr hk hd hR h0)
  · replace h0 := xit q9 h0
    refine x_aload_n C d_Main_text_29 0 rfl ?_
    refine x_getI (y := 0) C fg_Main_48 k_1 rfl d_Main_text_30 ?_
    refine x_iconst (v := 4) C d_Main_text_33 (by decide) ?_
    refine x_icmp_ge C 77 d_Main_text_34 (by decide) (fun q10 => ?_) (fun q10 => ?_)
    · replace h0 := xit q10 h0
      exact x_lv C [] rfl (b_Main_text_77 C hr hk hd hR h0)
    · replace h0 := xif q10 h0
      refine x_aload_n C d_Main_text_37 0 rfl ?_
      refine x_getA (y := 28) C fg_Main_38 k_1 rfl d_Main_text_38 ?_
      refine x_aload_n C d_Main_text_41 0 rfl ?_
      obtain ⟨r12, σ13, k11, h0⟩ := xbind2 h0
      refine x_callVr C hR (c_Main_nextTaste (d := d) (by omega) k11) cw_Main_137 k_1 rfl rfl rfl (Nat.le_of_ble_eq_true rfl) ⟨Nat.zero_le _, Nat.zero_le _⟩ d_Main_text_42 ?_
      have hr12 : r12 ∈ xTastes := p_Main_nextTaste k11
      obtain ⟨r15, σ16, k14, h0⟩ := xbind2 h0
      refine x_callVi C hR (c_TasteReader_read (d := d) (by omega) hr12 k14) cw_Main_141 k_28 rfl rfl rfl (Nat.le_of_ble_eq_true rfl) ⟨Nat.zero_le _, Nat.zero_le _⟩ d_Main_text_45 ?_
      refine x_iconst (v := (-1)) C d_Main_text_48 (by decide) ?_
      refine x_icmp_ne C 77 d_Main_text_49 (by decide) (fun q17 => ?_) (fun q17 => ?_)
      · replace h0 := xif q17 h0
        exact x_lv C [] rfl (b_Main_text_77 C hr hk hd hR h0)
      · replace h0 := xit q17 h0
        refine x_aload_n C d_Main_text_52 0 rfl ?_
        refine x_getA (y := 2) C fg_Main_10 k_1 rfl d_Main_text_53 ?_
        refine x_iconst (v := 0) C d_Main_text_56 (by decide) ?_
        refine x_putI (y := 0) C fp_Main_126 k_2 rfl rfl rfl d_Main_text_57 ?_
        obtain ⟨σ18, eσ18, h0⟩ := xlet h0
        refine x_sig C eσ18 ?_
        refine x_aload_n C d_Main_text_60 0 rfl ?_
        refine x_dup C d_Main_text_61 rfl ?_
        refine x_getI (y := 0) C fg_Main_48 k_1 rfl d_Main_text_62 ?_
        refine x_iconst (v := 1) C d_Main_text_65 (by decide) ?_
        refine x_iadd C d_Main_text_66 ?_
        refine x_putI (y := 0) C fp_Main_48 k_1 rfl rfl rfl d_Main_text_67 ?_
        obtain ⟨σ19, eσ19, h0⟩ := xlet h0
        refine x_sig C eσ19 ?_
        refine x_aload_n C d_Main_text_70 0 rfl ?_
        refine x_getI (y := 0) C fg_Main_48 k_1 rfl d_Main_text_71 ?_
        refine x_iconst (v := 1) C d_Main_text_74 (by decide) ?_
        refine x_isub C d_Main_text_75 ?_
        exact x_iret C hr hk h0 d_Main_text_76
def s_Main_text (p0 : Int32) (σ : LH) : Option (Int32 × LH) :=
  if p0 = 0 then (
   xb2 (s_RoomReader_read 15 σ) fun r3 σ4 =>
   if r3 = (-1) then (
    xb2 (s_Main_takeRoom σ4) fun r7 σ8 =>
    some (r7, σ8))
   else (
    s_Main_text_24 p0 σ4))
  else (
   s_Main_text_24 p0 σ)
theorem c_Main_text {G : XG} {l : Launch} {d : Nat} (hd : 114 ≤ d) {p0 : Int32} {σ σ' : LH} {r : Int32} (h0 : s_Main_text p0 σ = some (r, σ')) : xM G 1 570 l y_Main_text prog_1_method_5_code 2 (some .int) d [.ref (G.2.2.1 + 1), .int p0] σ (some (.int r)) σ' := by
  obtain ⟨d, rfl⟩ : ∃ q, d = q + 1 := ⟨d - 1, by omega⟩
  refine x_met R_Main rfl (by decide +kernel) (Nat.le_of_ble_eq_true rfl) fun p e s m below meth c C hr hk hR => ?_
  refine x_lv (lv' := [(0, .ref (G.2.2.1 + 1)), (1, .int p0)]) C [0, 1] rfl ?_
  generalize xrm (d + 1) = R at hR ⊢
  unfold s_Main_text at h0
  refine x_iload_n C d_Main_text_0 1 rfl ?_
  refine x_if_ne C 24 d_Main_text_1 (by decide) (fun q1 => ?_) (fun q1 => ?_)
  · replace h0 := xif q1 h0
    exact x_lv C [0, 1] rfl (b_Main_text_24 C hr hk hd hR h0)
  · replace h0 := xit q1 h0
    refine x_aload_n C d_Main_text_4 0 rfl ?_
    refine x_getA (y := 26) C fg_Main_31 k_1 rfl d_Main_text_5 ?_
    refine x_aload_n C d_Main_text_8 0 rfl ?_
    refine x_getA (y := 15) C fg_Main_23 k_1 rfl d_Main_text_9 ?_
    obtain ⟨r3, σ4, k2, h0⟩ := xbind2 h0
    refine x_callVi C hR (c_RoomReader_read (d := d) (by omega) (show 15 ∈ xRooms by decide) k2) cw_Main_133 k_26 rfl rfl rfl (Nat.le_of_ble_eq_true rfl) ⟨Nat.zero_le _, Nat.zero_le _⟩ d_Main_text_12 ?_
    refine x_iconst (v := (-1)) C d_Main_text_15 (by decide) ?_
    refine x_icmp_ne C 24 d_Main_text_16 (by decide) (fun q5 => ?_) (fun q5 => ?_)
    · replace h0 := xif q5 h0
      exact x_lv C [0, 1] rfl (b_Main_text_24 C hr hk hd hR h0)
    · replace h0 := xit q5 h0
      refine x_aload_n C d_Main_text_19 0 rfl ?_
      obtain ⟨r7, σ8, k6, h0⟩ := xbind2 h0
      refine x_callVi C hR (c_Main_takeRoom (d := d) (by omega) k6) cw_Main_144 k_1 rfl rfl rfl (Nat.le_of_ble_eq_true rfl) ⟨Nat.zero_le _, Nat.zero_le _⟩ d_Main_text_20 ?_
      exact x_iret C hr hk h0 d_Main_text_23
-- LostPlaces.isSeat(I)Z
theorem d_Main_isSeat_0 : decode prog_1_method_15_code 0 = .ok (.iload_n 1, 1) := by decide +kernel
theorem d_Main_isSeat_1 : decode prog_1_method_15_code 1 = .ok (.ifCond .lt 24, 3) := by decide +kernel
theorem d_Main_isSeat_4 : decode prog_1_method_15_code 4 = .ok (.iload_n 1, 1) := by decide +kernel
theorem d_Main_isSeat_5 : decode prog_1_method_15_code 5 = .ok (.aload_n 0, 1) := by decide +kernel
theorem d_Main_isSeat_6 : decode prog_1_method_15_code 6 = .ok (.getfield 19, 3) := by decide +kernel
theorem d_Main_isSeat_9 : decode prog_1_method_15_code 9 = .ok (.getfield 238, 3) := by decide +kernel
theorem d_Main_isSeat_12 : decode prog_1_method_15_code 12 = .ok (.if_icmp .ge 13, 3) := by decide +kernel
theorem d_Main_isSeat_15 : decode prog_1_method_15_code 15 = .ok (.iload_n 1, 1) := by decide +kernel
theorem d_Main_isSeat_16 : decode prog_1_method_15_code 16 = .ok (.bipush 8, 2) := by decide +kernel
theorem d_Main_isSeat_18 : decode prog_1_method_15_code 18 = .ok (.if_icmp .ge 7, 3) := by decide +kernel
theorem d_Main_isSeat_21 : decode prog_1_method_15_code 21 = .ok (.iconst 1, 1) := by decide +kernel
theorem d_Main_isSeat_22 : decode prog_1_method_15_code 22 = .ok (.goto 4, 3) := by decide +kernel
theorem d_Main_isSeat_25 : decode prog_1_method_15_code 25 = .ok (.iconst 0, 1) := by decide +kernel
theorem d_Main_isSeat_26 : decode prog_1_method_15_code 26 = .ok (.ireturn, 1) := by decide +kernel
def s_Main_isSeat_26 (p0 : Int32) (z0 : Int32) (σ : LH) : Option (Int32 × LH) :=
  if zb z0 then (
  some (z0, σ)) else none
theorem b_Main_isSeat_26 {G : XG} {l : Launch} {p : Program} {e : Env} {R : Room} {s : State} {m : MethodId} {args : Array Value} {below : List Frame} {meth : Method} {c : Code} (C : XC G 1 570 p s m args c prog_1_method_15_code 2 R_Main) (hr : meth.sig.returnType = (some .boolean)) (hk : meth.locks = false) {d : Nat} (hd : 1 ≤ d + 1) (hR : xroom R (d + 1)) {p0 : Int32} {σ' : LH} {r : Int32} {z0 : Int32} {σ : LH} (h0 : s_Main_isSeat_26 p0 z0 σ = some (r, σ')) : XJ G 1 570 p l e R s m args below meth c 2 (XQ G 1 570 below args s (some (.int r)) σ') 0 0 26 [] [.int z0] σ := by
  replace h0 := (show _ = _ from h0)
  unfold s_Main_isSeat_26 at h0
  obtain ⟨g2, h0⟩ := xgo h0
  exact x_zret C hr hk g2 h0 d_Main_isSeat_26
def s_Main_isSeat_25 (p0 : Int32) (σ : LH) : Option (Int32 × LH) :=
  s_Main_isSeat_26 p0 0 σ
theorem b_Main_isSeat_25 {G : XG} {l : Launch} {p : Program} {e : Env} {R : Room} {s : State} {m : MethodId} {args : Array Value} {below : List Frame} {meth : Method} {c : Code} (C : XC G 1 570 p s m args c prog_1_method_15_code 2 R_Main) (hr : meth.sig.returnType = (some .boolean)) (hk : meth.locks = false) {d : Nat} (hd : 1 ≤ d + 1) (hR : xroom R (d + 1)) {p0 : Int32} {σ' : LH} {r : Int32} {σ : LH} (h0 : s_Main_isSeat_25 p0 σ = some (r, σ')) : XJ G 1 570 p l e R s m args below meth c 2 (XQ G 1 570 below args s (some (.int r)) σ') 0 0 25 [] [] σ := by
  replace h0 := (show _ = _ from h0)
  unfold s_Main_isSeat_25 at h0
  refine x_iconst (v := 0) C d_Main_isSeat_25 (by decide) ?_
  exact x_lv C [] rfl (b_Main_isSeat_26 C hr hk hd hR h0)
def s_Main_isSeat (p0 : Int32) (σ : LH) : Option (Int32 × LH) :=
  if p0 < 0 then (
   s_Main_isSeat_25 p0 σ)
  else (
   if (σ.1 4 0) ≤ p0 then (
    s_Main_isSeat_25 p0 σ)
   else (
    if 8 ≤ p0 then (
     s_Main_isSeat_25 p0 σ)
    else (
     s_Main_isSeat_26 p0 1 σ)))
theorem c_Main_isSeat {G : XG} {l : Launch} {d : Nat} (hd : 1 ≤ d) {p0 : Int32} {σ σ' : LH} {r : Int32} (h0 : s_Main_isSeat p0 σ = some (r, σ')) : xM G 1 570 l y_Main_isSeat prog_1_method_15_code 2 (some .boolean) d [.ref (G.2.2.1 + 1), .int p0] σ (some (.int r)) σ' := by
  obtain ⟨d, rfl⟩ : ∃ q, d = q + 1 := ⟨d - 1, by omega⟩
  refine x_met R_Main rfl (by decide +kernel) (Nat.le_of_ble_eq_true rfl) fun p e s m below meth c C hr hk hR => ?_
  refine x_lv (lv' := [(0, .ref (G.2.2.1 + 1)), (1, .int p0)]) C [0, 1] rfl ?_
  generalize xrm (d + 1) = R at hR ⊢
  unfold s_Main_isSeat at h0
  refine x_iload_n C d_Main_isSeat_0 1 rfl ?_
  refine x_if_lt C 25 d_Main_isSeat_1 (by decide) (fun q1 => ?_) (fun q1 => ?_)
  · replace h0 := xit q1 h0
    exact x_lv C [] rfl (b_Main_isSeat_25 C hr hk hd hR h0)
  · replace h0 := xif q1 h0
    refine x_iload_n C d_Main_isSeat_4 1 rfl ?_
    refine x_aload_n C d_Main_isSeat_5 0 rfl ?_
    refine x_getA (y := 4) C fg_Main_19 k_1 rfl d_Main_isSeat_6 ?_
    refine x_getI (y := 0) C fg_Main_238 k_4 rfl d_Main_isSeat_9 ?_
    refine x_icmp_ge C 25 d_Main_isSeat_12 (by decide) (fun q3 => ?_) (fun q3 => ?_)
    · replace h0 := xit q3 h0
      exact x_lv C [] rfl (b_Main_isSeat_25 C hr hk hd hR h0)
    · replace h0 := xif q3 h0
      refine x_iload_n C d_Main_isSeat_15 1 rfl ?_
      refine x_bipush (v := 8) C d_Main_isSeat_16 (by decide) ?_
      refine x_icmp_ge C 25 d_Main_isSeat_18 (by decide) (fun q4 => ?_) (fun q4 => ?_)
      · replace h0 := xit q4 h0
        exact x_lv C [] rfl (b_Main_isSeat_25 C hr hk hd hR h0)
      · replace h0 := xif q4 h0
        refine x_iconst (v := 1) C d_Main_isSeat_21 (by decide) ?_
        refine x_goto C 26 d_Main_isSeat_22 (by decide) ?_
        exact x_lv C [] rfl (b_Main_isSeat_26 C hr hk hd hR h0)
-- LostPlaces.seat(II)I
theorem d_Main_seat_0 : decode prog_1_method_9_code 0 = .ok (.aload_n 0, 1) := by decide +kernel
theorem d_Main_seat_1 : decode prog_1_method_9_code 1 = .ok (.iload_n 1, 1) := by decide +kernel
theorem d_Main_seat_2 : decode prog_1_method_9_code 2 = .ok (.invokevirtual 164, 3) := by decide +kernel
theorem d_Main_seat_5 : decode prog_1_method_9_code 5 = .ok (.ifCond .ne 5, 3) := by decide +kernel
theorem d_Main_seat_8 : decode prog_1_method_9_code 8 = .ok (.iconst (-1), 1) := by decide +kernel
theorem d_Main_seat_9 : decode prog_1_method_9_code 9 = .ok (.ireturn, 1) := by decide +kernel
theorem d_Main_seat_10 : decode prog_1_method_9_code 10 = .ok (.iload_n 2, 1) := by decide +kernel
theorem d_Main_seat_11 : decode prog_1_method_9_code 11 = .ok (.tableswitch 97 0 5 #[37, 47, 57, 67, 77, 87], 37) := by decide +kernel
theorem d_Main_seat_48 : decode prog_1_method_9_code 48 = .ok (.aload_n 0, 1) := by decide +kernel
theorem d_Main_seat_49 : decode prog_1_method_9_code 49 = .ok (.getfield 19, 3) := by decide +kernel
theorem d_Main_seat_52 : decode prog_1_method_9_code 52 = .ok (.getfield 167, 3) := by decide +kernel
theorem d_Main_seat_55 : decode prog_1_method_9_code 55 = .ok (.iload_n 1, 1) := by decide +kernel
theorem d_Main_seat_56 : decode prog_1_method_9_code 56 = .ok (.iaload, 1) := by decide +kernel
theorem d_Main_seat_57 : decode prog_1_method_9_code 57 = .ok (.ireturn, 1) := by decide +kernel
theorem d_Main_seat_58 : decode prog_1_method_9_code 58 = .ok (.aload_n 0, 1) := by decide +kernel
theorem d_Main_seat_59 : decode prog_1_method_9_code 59 = .ok (.getfield 19, 3) := by decide +kernel
theorem d_Main_seat_62 : decode prog_1_method_9_code 62 = .ok (.getfield 171, 3) := by decide +kernel
theorem d_Main_seat_65 : decode prog_1_method_9_code 65 = .ok (.iload_n 1, 1) := by decide +kernel
theorem d_Main_seat_66 : decode prog_1_method_9_code 66 = .ok (.iaload, 1) := by decide +kernel
theorem d_Main_seat_67 : decode prog_1_method_9_code 67 = .ok (.ireturn, 1) := by decide +kernel
theorem d_Main_seat_68 : decode prog_1_method_9_code 68 = .ok (.aload_n 0, 1) := by decide +kernel
theorem d_Main_seat_69 : decode prog_1_method_9_code 69 = .ok (.getfield 19, 3) := by decide +kernel
theorem d_Main_seat_72 : decode prog_1_method_9_code 72 = .ok (.getfield 174, 3) := by decide +kernel
theorem d_Main_seat_75 : decode prog_1_method_9_code 75 = .ok (.iload_n 1, 1) := by decide +kernel
theorem d_Main_seat_76 : decode prog_1_method_9_code 76 = .ok (.iaload, 1) := by decide +kernel
theorem d_Main_seat_77 : decode prog_1_method_9_code 77 = .ok (.ireturn, 1) := by decide +kernel
theorem d_Main_seat_78 : decode prog_1_method_9_code 78 = .ok (.aload_n 0, 1) := by decide +kernel
theorem d_Main_seat_79 : decode prog_1_method_9_code 79 = .ok (.getfield 79, 3) := by decide +kernel
theorem d_Main_seat_82 : decode prog_1_method_9_code 82 = .ok (.getfield 177, 3) := by decide +kernel
theorem d_Main_seat_85 : decode prog_1_method_9_code 85 = .ok (.iload_n 1, 1) := by decide +kernel
theorem d_Main_seat_86 : decode prog_1_method_9_code 86 = .ok (.iaload, 1) := by decide +kernel
theorem d_Main_seat_87 : decode prog_1_method_9_code 87 = .ok (.ireturn, 1) := by decide +kernel
theorem d_Main_seat_88 : decode prog_1_method_9_code 88 = .ok (.aload_n 0, 1) := by decide +kernel
theorem d_Main_seat_89 : decode prog_1_method_9_code 89 = .ok (.getfield 79, 3) := by decide +kernel
theorem d_Main_seat_92 : decode prog_1_method_9_code 92 = .ok (.getfield 180, 3) := by decide +kernel
theorem d_Main_seat_95 : decode prog_1_method_9_code 95 = .ok (.iload_n 1, 1) := by decide +kernel
theorem d_Main_seat_96 : decode prog_1_method_9_code 96 = .ok (.iaload, 1) := by decide +kernel
theorem d_Main_seat_97 : decode prog_1_method_9_code 97 = .ok (.ireturn, 1) := by decide +kernel
theorem d_Main_seat_98 : decode prog_1_method_9_code 98 = .ok (.aload_n 0, 1) := by decide +kernel
theorem d_Main_seat_99 : decode prog_1_method_9_code 99 = .ok (.getfield 79, 3) := by decide +kernel
theorem d_Main_seat_102 : decode prog_1_method_9_code 102 = .ok (.getfield 183, 3) := by decide +kernel
theorem d_Main_seat_105 : decode prog_1_method_9_code 105 = .ok (.iload_n 1, 1) := by decide +kernel
theorem d_Main_seat_106 : decode prog_1_method_9_code 106 = .ok (.iaload, 1) := by decide +kernel
theorem d_Main_seat_107 : decode prog_1_method_9_code 107 = .ok (.ireturn, 1) := by decide +kernel
theorem d_Main_seat_108 : decode prog_1_method_9_code 108 = .ok (.iconst (-1), 1) := by decide +kernel
theorem d_Main_seat_109 : decode prog_1_method_9_code 109 = .ok (.ireturn, 1) := by decide +kernel
def s_Main_seat (p0 : Int32) (p1 : Int32) (σ : LH) : Option (Int32 × LH) :=
  xb2 (s_Main_isSeat p0 σ) fun r2 σ3 =>
  if r2 = 0 then (
   some ((-1), σ3))
  else (
   if p1.toInt = 0 then (
    if ib p0 8 then (
    some ((σ3.1 5 (Int32.toNatClampNeg p0)), σ3)) else none)
   else (
   if p1.toInt = 1 then (
    if ib p0 8 then (
    some ((σ3.1 6 (Int32.toNatClampNeg p0)), σ3)) else none)
   else (
   if p1.toInt = 2 then (
    if ib p0 8 then (
    some ((σ3.1 7 (Int32.toNatClampNeg p0)), σ3)) else none)
   else (
   if p1.toInt = 3 then (
    if ib p0 8 then (
    some ((σ3.1 44 (Int32.toNatClampNeg p0)), σ3)) else none)
   else (
   if p1.toInt = 4 then (
    if ib p0 8 then (
    some ((σ3.1 45 (Int32.toNatClampNeg p0)), σ3)) else none)
   else (
   if p1.toInt = 5 then (
    if ib p0 8 then (
    some ((σ3.1 46 (Int32.toNatClampNeg p0)), σ3)) else none)
   else (
    some ((-1), σ3))))))))
theorem c_Main_seat {G : XG} {l : Launch} {d : Nat} (hd : 2 ≤ d) {p0 : Int32} {p1 : Int32} {σ σ' : LH} {r : Int32} (h0 : s_Main_seat p0 p1 σ = some (r, σ')) : xM G 1 570 l y_Main_seat prog_1_method_9_code 3 (some .int) d [.ref (G.2.2.1 + 1), .int p0, .int p1] σ (some (.int r)) σ' := by
  obtain ⟨d, rfl⟩ : ∃ q, d = q + 1 := ⟨d - 1, by omega⟩
  refine x_met R_Main rfl (by decide +kernel) (Nat.le_of_ble_eq_true rfl) fun p e s m below meth c C hr hk hR => ?_
  refine x_lv (lv' := [(0, .ref (G.2.2.1 + 1)), (1, .int p0), (2, .int p1)]) C [0, 1, 2] rfl ?_
  generalize xrm (d + 1) = R at hR ⊢
  unfold s_Main_seat at h0
  refine x_aload_n C d_Main_seat_0 0 rfl ?_
  refine x_iload_n C d_Main_seat_1 1 rfl ?_
  obtain ⟨r2, σ3, k1, h0⟩ := xbind2 h0
  refine x_callVi C hR (c_Main_isSeat (d := d) (by omega) k1) cw_Main_164 k_1 rfl rfl rfl (Nat.le_of_ble_eq_true rfl) ⟨Nat.zero_le _, Nat.zero_le _⟩ d_Main_seat_2 ?_
  refine x_if_ne C 10 d_Main_seat_5 (by decide) (fun q4 => ?_) (fun q4 => ?_)
  · replace h0 := xif q4 h0
    refine x_iload_n C d_Main_seat_10 2 rfl ?_
    by_cases q0 : p1.toInt = 0
    · replace h0 := xit q0 h0
      refine x_tableIn C 48 d_Main_seat_11 (by omega) (by omega) (by rw [q0]; rfl) (by decide) ?_
      refine x_aload_n C d_Main_seat_48 0 rfl ?_
      refine x_getA (y := 4) C fg_Main_19 k_1 rfl d_Main_seat_49 ?_
      refine x_getR (y := 1) C fg_Main_167 k_4 rfl d_Main_seat_52 ?_
      show XJ _ _ _ _ _ _ _ _ _ _ _ _ _ _ _ _ _ _ _ (.ref (G.2.2.1 + 5) :: _) _
      refine x_iload_n C d_Main_seat_55 1 rfl ?_
      obtain ⟨g5, h0⟩ := xgo h0
      refine x_iald C k_5 (ib_in g5) d_Main_seat_56 ?_
      exact x_iret C hr hk h0 d_Main_seat_57
    replace h0 := xif q0 h0
    by_cases q1 : p1.toInt = 1
    · replace h0 := xit q1 h0
      refine x_tableIn C 58 d_Main_seat_11 (by omega) (by omega) (by rw [q1]; rfl) (by decide) ?_
      refine x_aload_n C d_Main_seat_58 0 rfl ?_
      refine x_getA (y := 4) C fg_Main_19 k_1 rfl d_Main_seat_59 ?_
      refine x_getR (y := 2) C fg_Main_171 k_4 rfl d_Main_seat_62 ?_
      show XJ _ _ _ _ _ _ _ _ _ _ _ _ _ _ _ _ _ _ _ (.ref (G.2.2.1 + 6) :: _) _
      refine x_iload_n C d_Main_seat_65 1 rfl ?_
      obtain ⟨g6, h0⟩ := xgo h0
      refine x_iald C k_6 (ib_in g6) d_Main_seat_66 ?_
      exact x_iret C hr hk h0 d_Main_seat_67
    replace h0 := xif q1 h0
    by_cases q2 : p1.toInt = 2
    · replace h0 := xit q2 h0
      refine x_tableIn C 68 d_Main_seat_11 (by omega) (by omega) (by rw [q2]; rfl) (by decide) ?_
      refine x_aload_n C d_Main_seat_68 0 rfl ?_
      refine x_getA (y := 4) C fg_Main_19 k_1 rfl d_Main_seat_69 ?_
      refine x_getR (y := 3) C fg_Main_174 k_4 rfl d_Main_seat_72 ?_
      show XJ _ _ _ _ _ _ _ _ _ _ _ _ _ _ _ _ _ _ _ (.ref (G.2.2.1 + 7) :: _) _
      refine x_iload_n C d_Main_seat_75 1 rfl ?_
      obtain ⟨g7, h0⟩ := xgo h0
      refine x_iald C k_7 (ib_in g7) d_Main_seat_76 ?_
      exact x_iret C hr hk h0 d_Main_seat_77
    replace h0 := xif q2 h0
    by_cases q3 : p1.toInt = 3
    · replace h0 := xit q3 h0
      refine x_tableIn C 78 d_Main_seat_11 (by omega) (by omega) (by rw [q3]; rfl) (by decide) ?_
      refine x_aload_n C d_Main_seat_78 0 rfl ?_
      refine x_getA (y := 39) C fg_Main_79 k_1 rfl d_Main_seat_79 ?_
      refine x_getR (y := 5) C fg_Main_177 k_39 rfl d_Main_seat_82 ?_
      show XJ _ _ _ _ _ _ _ _ _ _ _ _ _ _ _ _ _ _ _ (.ref (G.2.2.1 + 44) :: _) _
      refine x_iload_n C d_Main_seat_85 1 rfl ?_
      obtain ⟨g8, h0⟩ := xgo h0
      refine x_iald C k_44 (ib_in g8) d_Main_seat_86 ?_
      exact x_iret C hr hk h0 d_Main_seat_87
    replace h0 := xif q3 h0
    by_cases q4 : p1.toInt = 4
    · replace h0 := xit q4 h0
      refine x_tableIn C 88 d_Main_seat_11 (by omega) (by omega) (by rw [q4]; rfl) (by decide) ?_
      refine x_aload_n C d_Main_seat_88 0 rfl ?_
      refine x_getA (y := 39) C fg_Main_79 k_1 rfl d_Main_seat_89 ?_
      refine x_getR (y := 6) C fg_Main_180 k_39 rfl d_Main_seat_92 ?_
      show XJ _ _ _ _ _ _ _ _ _ _ _ _ _ _ _ _ _ _ _ (.ref (G.2.2.1 + 45) :: _) _
      refine x_iload_n C d_Main_seat_95 1 rfl ?_
      obtain ⟨g9, h0⟩ := xgo h0
      refine x_iald C k_45 (ib_in g9) d_Main_seat_96 ?_
      exact x_iret C hr hk h0 d_Main_seat_97
    replace h0 := xif q4 h0
    by_cases q5 : p1.toInt = 5
    · replace h0 := xit q5 h0
      refine x_tableIn C 98 d_Main_seat_11 (by omega) (by omega) (by rw [q5]; rfl) (by decide) ?_
      refine x_aload_n C d_Main_seat_98 0 rfl ?_
      refine x_getA (y := 39) C fg_Main_79 k_1 rfl d_Main_seat_99 ?_
      refine x_getR (y := 7) C fg_Main_183 k_39 rfl d_Main_seat_102 ?_
      show XJ _ _ _ _ _ _ _ _ _ _ _ _ _ _ _ _ _ _ _ (.ref (G.2.2.1 + 46) :: _) _
      refine x_iload_n C d_Main_seat_105 1 rfl ?_
      obtain ⟨g10, h0⟩ := xgo h0
      refine x_iald C k_46 (ib_in g10) d_Main_seat_106 ?_
      exact x_iret C hr hk h0 d_Main_seat_107
    replace h0 := xif q5 h0
    refine x_tableOut C 108 d_Main_seat_11 (by omega) (by decide) ?_
    refine x_iconst (v := (-1)) C d_Main_seat_108 (by decide) ?_
    exact x_iret C hr hk h0 d_Main_seat_109
  · replace h0 := xit q4 h0
    refine x_iconst (v := (-1)) C d_Main_seat_8 (by decide) ?_
    exact x_iret C hr hk h0 d_Main_seat_9
-- LostPlaces.isSitter(I)Z
theorem d_Main_isSitter_0 : decode prog_1_method_16_code 0 = .ok (.iload_n 1, 1) := by decide +kernel
theorem d_Main_isSitter_1 : decode prog_1_method_16_code 1 = .ok (.ifCond .lt 24, 3) := by decide +kernel
theorem d_Main_isSitter_4 : decode prog_1_method_16_code 4 = .ok (.iload_n 1, 1) := by decide +kernel
theorem d_Main_isSitter_5 : decode prog_1_method_16_code 5 = .ok (.aload_n 0, 1) := by decide +kernel
theorem d_Main_isSitter_6 : decode prog_1_method_16_code 6 = .ok (.getfield 19, 3) := by decide +kernel
theorem d_Main_isSitter_9 : decode prog_1_method_16_code 9 = .ok (.getfield 157, 3) := by decide +kernel
theorem d_Main_isSitter_12 : decode prog_1_method_16_code 12 = .ok (.if_icmp .ge 13, 3) := by decide +kernel
theorem d_Main_isSitter_15 : decode prog_1_method_16_code 15 = .ok (.iload_n 1, 1) := by decide +kernel
theorem d_Main_isSitter_16 : decode prog_1_method_16_code 16 = .ok (.bipush 8, 2) := by decide +kernel
theorem d_Main_isSitter_18 : decode prog_1_method_16_code 18 = .ok (.if_icmp .ge 7, 3) := by decide +kernel
theorem d_Main_isSitter_21 : decode prog_1_method_16_code 21 = .ok (.iconst 1, 1) := by decide +kernel
theorem d_Main_isSitter_22 : decode prog_1_method_16_code 22 = .ok (.goto 4, 3) := by decide +kernel
theorem d_Main_isSitter_25 : decode prog_1_method_16_code 25 = .ok (.iconst 0, 1) := by decide +kernel
theorem d_Main_isSitter_26 : decode prog_1_method_16_code 26 = .ok (.ireturn, 1) := by decide +kernel
def s_Main_isSitter_26 (p0 : Int32) (z0 : Int32) (σ : LH) : Option (Int32 × LH) :=
  if zb z0 then (
  some (z0, σ)) else none
theorem b_Main_isSitter_26 {G : XG} {l : Launch} {p : Program} {e : Env} {R : Room} {s : State} {m : MethodId} {args : Array Value} {below : List Frame} {meth : Method} {c : Code} (C : XC G 1 570 p s m args c prog_1_method_16_code 2 R_Main) (hr : meth.sig.returnType = (some .boolean)) (hk : meth.locks = false) {d : Nat} (hd : 1 ≤ d + 1) (hR : xroom R (d + 1)) {p0 : Int32} {σ' : LH} {r : Int32} {z0 : Int32} {σ : LH} (h0 : s_Main_isSitter_26 p0 z0 σ = some (r, σ')) : XJ G 1 570 p l e R s m args below meth c 2 (XQ G 1 570 below args s (some (.int r)) σ') 0 0 26 [] [.int z0] σ := by
  replace h0 := (show _ = _ from h0)
  unfold s_Main_isSitter_26 at h0
  obtain ⟨g2, h0⟩ := xgo h0
  exact x_zret C hr hk g2 h0 d_Main_isSitter_26
def s_Main_isSitter_25 (p0 : Int32) (σ : LH) : Option (Int32 × LH) :=
  s_Main_isSitter_26 p0 0 σ
theorem b_Main_isSitter_25 {G : XG} {l : Launch} {p : Program} {e : Env} {R : Room} {s : State} {m : MethodId} {args : Array Value} {below : List Frame} {meth : Method} {c : Code} (C : XC G 1 570 p s m args c prog_1_method_16_code 2 R_Main) (hr : meth.sig.returnType = (some .boolean)) (hk : meth.locks = false) {d : Nat} (hd : 1 ≤ d + 1) (hR : xroom R (d + 1)) {p0 : Int32} {σ' : LH} {r : Int32} {σ : LH} (h0 : s_Main_isSitter_25 p0 σ = some (r, σ')) : XJ G 1 570 p l e R s m args below meth c 2 (XQ G 1 570 below args s (some (.int r)) σ') 0 0 25 [] [] σ := by
  replace h0 := (show _ = _ from h0)
  unfold s_Main_isSitter_25 at h0
  refine x_iconst (v := 0) C d_Main_isSitter_25 (by decide) ?_
  exact x_lv C [] rfl (b_Main_isSitter_26 C hr hk hd hR h0)
def s_Main_isSitter (p0 : Int32) (σ : LH) : Option (Int32 × LH) :=
  if p0 < 0 then (
   s_Main_isSitter_25 p0 σ)
  else (
   if (σ.1 4 1) ≤ p0 then (
    s_Main_isSitter_25 p0 σ)
   else (
    if 8 ≤ p0 then (
     s_Main_isSitter_25 p0 σ)
    else (
     s_Main_isSitter_26 p0 1 σ)))
theorem c_Main_isSitter {G : XG} {l : Launch} {d : Nat} (hd : 1 ≤ d) {p0 : Int32} {σ σ' : LH} {r : Int32} (h0 : s_Main_isSitter p0 σ = some (r, σ')) : xM G 1 570 l y_Main_isSitter prog_1_method_16_code 2 (some .boolean) d [.ref (G.2.2.1 + 1), .int p0] σ (some (.int r)) σ' := by
  obtain ⟨d, rfl⟩ : ∃ q, d = q + 1 := ⟨d - 1, by omega⟩
  refine x_met R_Main rfl (by decide +kernel) (Nat.le_of_ble_eq_true rfl) fun p e s m below meth c C hr hk hR => ?_
  refine x_lv (lv' := [(0, .ref (G.2.2.1 + 1)), (1, .int p0)]) C [0, 1] rfl ?_
  generalize xrm (d + 1) = R at hR ⊢
  unfold s_Main_isSitter at h0
  refine x_iload_n C d_Main_isSitter_0 1 rfl ?_
  refine x_if_lt C 25 d_Main_isSitter_1 (by decide) (fun q1 => ?_) (fun q1 => ?_)
  · replace h0 := xit q1 h0
    exact x_lv C [] rfl (b_Main_isSitter_25 C hr hk hd hR h0)
  · replace h0 := xif q1 h0
    refine x_iload_n C d_Main_isSitter_4 1 rfl ?_
    refine x_aload_n C d_Main_isSitter_5 0 rfl ?_
    refine x_getA (y := 4) C fg_Main_19 k_1 rfl d_Main_isSitter_6 ?_
    refine x_getI (y := 0) C fg_Main_157 k_4 rfl d_Main_isSitter_9 ?_
    refine x_icmp_ge C 25 d_Main_isSitter_12 (by decide) (fun q3 => ?_) (fun q3 => ?_)
    · replace h0 := xit q3 h0
      exact x_lv C [] rfl (b_Main_isSitter_25 C hr hk hd hR h0)
    · replace h0 := xif q3 h0
      refine x_iload_n C d_Main_isSitter_15 1 rfl ?_
      refine x_bipush (v := 8) C d_Main_isSitter_16 (by decide) ?_
      refine x_icmp_ge C 25 d_Main_isSitter_18 (by decide) (fun q4 => ?_) (fun q4 => ?_)
      · replace h0 := xit q4 h0
        exact x_lv C [] rfl (b_Main_isSitter_25 C hr hk hd hR h0)
      · replace h0 := xif q4 h0
        refine x_iconst (v := 1) C d_Main_isSitter_21 (by decide) ?_
        refine x_goto C 26 d_Main_isSitter_22 (by decide) ?_
        exact x_lv C [] rfl (b_Main_isSitter_26 C hr hk hd hR h0)
-- LostPlaces.sitter(II)I
theorem d_Main_sitter_0 : decode prog_1_method_10_code 0 = .ok (.aload_n 0, 1) := by decide +kernel
theorem d_Main_sitter_1 : decode prog_1_method_10_code 1 = .ok (.iload_n 1, 1) := by decide +kernel
theorem d_Main_sitter_2 : decode prog_1_method_10_code 2 = .ok (.invokevirtual 186, 3) := by decide +kernel
theorem d_Main_sitter_5 : decode prog_1_method_10_code 5 = .ok (.ifCond .eq 12, 3) := by decide +kernel
theorem d_Main_sitter_8 : decode prog_1_method_10_code 8 = .ok (.iload_n 2, 1) := by decide +kernel
theorem d_Main_sitter_9 : decode prog_1_method_10_code 9 = .ok (.ifCond .lt 8, 3) := by decide +kernel
theorem d_Main_sitter_12 : decode prog_1_method_10_code 12 = .ok (.iload_n 2, 1) := by decide +kernel
theorem d_Main_sitter_13 : decode prog_1_method_10_code 13 = .ok (.iconst 5, 1) := by decide +kernel
theorem d_Main_sitter_14 : decode prog_1_method_10_code 14 = .ok (.if_icmp .le 13, 3) := by decide +kernel
theorem d_Main_sitter_17 : decode prog_1_method_10_code 17 = .ok (.new 189, 3) := by decide +kernel
theorem d_Main_sitter_27 : decode prog_1_method_10_code 27 = .ok (.iload_n 2, 1) := by decide +kernel
theorem d_Main_sitter_28 : decode prog_1_method_10_code 28 = .ok (.tableswitch 86 0 4 #[36, 46, 56, 66, 76], 36) := by decide +kernel
theorem d_Main_sitter_64 : decode prog_1_method_10_code 64 = .ok (.aload_n 0, 1) := by decide +kernel
theorem d_Main_sitter_65 : decode prog_1_method_10_code 65 = .ok (.getfield 79, 3) := by decide +kernel
theorem d_Main_sitter_68 : decode prog_1_method_10_code 68 = .ok (.getfield 196, 3) := by decide +kernel
theorem d_Main_sitter_71 : decode prog_1_method_10_code 71 = .ok (.iload_n 1, 1) := by decide +kernel
theorem d_Main_sitter_72 : decode prog_1_method_10_code 72 = .ok (.iaload, 1) := by decide +kernel
theorem d_Main_sitter_73 : decode prog_1_method_10_code 73 = .ok (.ireturn, 1) := by decide +kernel
theorem d_Main_sitter_74 : decode prog_1_method_10_code 74 = .ok (.aload_n 0, 1) := by decide +kernel
theorem d_Main_sitter_75 : decode prog_1_method_10_code 75 = .ok (.getfield 79, 3) := by decide +kernel
theorem d_Main_sitter_78 : decode prog_1_method_10_code 78 = .ok (.getfield 199, 3) := by decide +kernel
theorem d_Main_sitter_81 : decode prog_1_method_10_code 81 = .ok (.iload_n 1, 1) := by decide +kernel
theorem d_Main_sitter_82 : decode prog_1_method_10_code 82 = .ok (.iaload, 1) := by decide +kernel
theorem d_Main_sitter_83 : decode prog_1_method_10_code 83 = .ok (.ireturn, 1) := by decide +kernel
theorem d_Main_sitter_84 : decode prog_1_method_10_code 84 = .ok (.aload_n 0, 1) := by decide +kernel
theorem d_Main_sitter_85 : decode prog_1_method_10_code 85 = .ok (.getfield 19, 3) := by decide +kernel
theorem d_Main_sitter_88 : decode prog_1_method_10_code 88 = .ok (.getfield 202, 3) := by decide +kernel
theorem d_Main_sitter_91 : decode prog_1_method_10_code 91 = .ok (.iload_n 1, 1) := by decide +kernel
theorem d_Main_sitter_92 : decode prog_1_method_10_code 92 = .ok (.iaload, 1) := by decide +kernel
theorem d_Main_sitter_93 : decode prog_1_method_10_code 93 = .ok (.ireturn, 1) := by decide +kernel
theorem d_Main_sitter_94 : decode prog_1_method_10_code 94 = .ok (.aload_n 0, 1) := by decide +kernel
theorem d_Main_sitter_95 : decode prog_1_method_10_code 95 = .ok (.getfield 19, 3) := by decide +kernel
theorem d_Main_sitter_98 : decode prog_1_method_10_code 98 = .ok (.getfield 205, 3) := by decide +kernel
theorem d_Main_sitter_101 : decode prog_1_method_10_code 101 = .ok (.iload_n 1, 1) := by decide +kernel
theorem d_Main_sitter_102 : decode prog_1_method_10_code 102 = .ok (.iaload, 1) := by decide +kernel
theorem d_Main_sitter_103 : decode prog_1_method_10_code 103 = .ok (.ireturn, 1) := by decide +kernel
theorem d_Main_sitter_104 : decode prog_1_method_10_code 104 = .ok (.aload_n 0, 1) := by decide +kernel
theorem d_Main_sitter_105 : decode prog_1_method_10_code 105 = .ok (.getfield 79, 3) := by decide +kernel
theorem d_Main_sitter_108 : decode prog_1_method_10_code 108 = .ok (.getfield 208, 3) := by decide +kernel
theorem d_Main_sitter_111 : decode prog_1_method_10_code 111 = .ok (.iload_n 1, 1) := by decide +kernel
theorem d_Main_sitter_112 : decode prog_1_method_10_code 112 = .ok (.iaload, 1) := by decide +kernel
theorem d_Main_sitter_113 : decode prog_1_method_10_code 113 = .ok (.ireturn, 1) := by decide +kernel
theorem d_Main_sitter_114 : decode prog_1_method_10_code 114 = .ok (.aload_n 0, 1) := by decide +kernel
theorem d_Main_sitter_115 : decode prog_1_method_10_code 115 = .ok (.getfield 79, 3) := by decide +kernel
theorem d_Main_sitter_118 : decode prog_1_method_10_code 118 = .ok (.getfield 211, 3) := by decide +kernel
theorem d_Main_sitter_121 : decode prog_1_method_10_code 121 = .ok (.iload_n 1, 1) := by decide +kernel
theorem d_Main_sitter_122 : decode prog_1_method_10_code 122 = .ok (.iaload, 1) := by decide +kernel
theorem d_Main_sitter_123 : decode prog_1_method_10_code 123 = .ok (.ireturn, 1) := by decide +kernel
def s_Main_sitter_17 (p0 : Int32) (p1 : Int32) (σ : LH) : Option (Int32 × LH) :=
  none
theorem b_Main_sitter_17 {G : XG} {l : Launch} {p : Program} {e : Env} {R : Room} {s : State} {m : MethodId} {args : Array Value} {below : List Frame} {meth : Method} {c : Code} (C : XC G 1 570 p s m args c prog_1_method_10_code 3 R_Main) (hr : meth.sig.returnType = (some .int)) (hk : meth.locks = false) {d : Nat} (hd : 2 ≤ d + 1) (hR : xroom R (d + 1)) {p0 : Int32} {p1 : Int32} {σ' : LH} {r : Int32} {σ : LH} (h0 : s_Main_sitter_17 p0 p1 σ = some (r, σ')) : XJ G 1 570 p l e R s m args below meth c 3 (XQ G 1 570 below args s (some (.int r)) σ') 0 0 17 [] [] σ := by
  replace h0 := (show _ = _ from h0)
  unfold s_Main_sitter_17 at h0
  cases h0
def s_Main_sitter (p0 : Int32) (p1 : Int32) (σ : LH) : Option (Int32 × LH) :=
  xb2 (s_Main_isSitter p0 σ) fun r2 σ3 =>
  if r2 = 0 then (
   s_Main_sitter_17 p0 p1 σ3)
  else (
   if p1 < 0 then (
    s_Main_sitter_17 p0 p1 σ3)
   else (
    if p1 ≤ 5 then (
     if p1.toInt = 0 then (
      if ib p0 8 then (
      some ((σ3.1 40 (Int32.toNatClampNeg p0)), σ3)) else none)
     else (
     if p1.toInt = 1 then (
      if ib p0 8 then (
      some ((σ3.1 41 (Int32.toNatClampNeg p0)), σ3)) else none)
     else (
     if p1.toInt = 2 then (
      if ib p0 8 then (
      some ((σ3.1 9 (Int32.toNatClampNeg p0)), σ3)) else none)
     else (
     if p1.toInt = 3 then (
      if ib p0 8 then (
      some ((σ3.1 10 (Int32.toNatClampNeg p0)), σ3)) else none)
     else (
     if p1.toInt = 4 then (
      if ib p0 8 then (
      some ((σ3.1 42 (Int32.toNatClampNeg p0)), σ3)) else none)
     else (
      if ib p0 8 then (
      some ((σ3.1 43 (Int32.toNatClampNeg p0)), σ3)) else none))))))
    else (
     s_Main_sitter_17 p0 p1 σ3)))
theorem c_Main_sitter {G : XG} {l : Launch} {d : Nat} (hd : 2 ≤ d) {p0 : Int32} {p1 : Int32} {σ σ' : LH} {r : Int32} (h0 : s_Main_sitter p0 p1 σ = some (r, σ')) : xM G 1 570 l y_Main_sitter prog_1_method_10_code 3 (some .int) d [.ref (G.2.2.1 + 1), .int p0, .int p1] σ (some (.int r)) σ' := by
  obtain ⟨d, rfl⟩ : ∃ q, d = q + 1 := ⟨d - 1, by omega⟩
  refine x_met R_Main rfl (by decide +kernel) (Nat.le_of_ble_eq_true rfl) fun p e s m below meth c C hr hk hR => ?_
  refine x_lv (lv' := [(0, .ref (G.2.2.1 + 1)), (1, .int p0), (2, .int p1)]) C [0, 1, 2] rfl ?_
  generalize xrm (d + 1) = R at hR ⊢
  unfold s_Main_sitter at h0
  refine x_aload_n C d_Main_sitter_0 0 rfl ?_
  refine x_iload_n C d_Main_sitter_1 1 rfl ?_
  obtain ⟨r2, σ3, k1, h0⟩ := xbind2 h0
  refine x_callVi C hR (c_Main_isSitter (d := d) (by omega) k1) cw_Main_186 k_1 rfl rfl rfl (Nat.le_of_ble_eq_true rfl) ⟨Nat.zero_le _, Nat.zero_le _⟩ d_Main_sitter_2 ?_
  refine x_if_eq C 17 d_Main_sitter_5 (by decide) (fun q4 => ?_) (fun q4 => ?_)
  · replace h0 := xit q4 h0
    exact x_lv C [] rfl (b_Main_sitter_17 C hr hk hd hR h0)
  · replace h0 := xif q4 h0
    refine x_iload_n C d_Main_sitter_8 2 rfl ?_
    refine x_if_lt C 17 d_Main_sitter_9 (by decide) (fun q5 => ?_) (fun q5 => ?_)
    · replace h0 := xit q5 h0
      exact x_lv C [] rfl (b_Main_sitter_17 C hr hk hd hR h0)
    · replace h0 := xif q5 h0
      refine x_iload_n C d_Main_sitter_12 2 rfl ?_
      refine x_iconst (v := 5) C d_Main_sitter_13 (by decide) ?_
      refine x_icmp_le C 27 d_Main_sitter_14 (by decide) (fun q6 => ?_) (fun q6 => ?_)
      · replace h0 := xit q6 h0
        refine x_iload_n C d_Main_sitter_27 2 rfl ?_
        by_cases q0 : p1.toInt = 0
        · replace h0 := xit q0 h0
          refine x_tableIn C 64 d_Main_sitter_28 (by omega) (by omega) (by rw [q0]; rfl) (by decide) ?_
          refine x_aload_n C d_Main_sitter_64 0 rfl ?_
          refine x_getA (y := 39) C fg_Main_79 k_1 rfl d_Main_sitter_65 ?_
          refine x_getR (y := 1) C fg_Main_196 k_39 rfl d_Main_sitter_68 ?_
          show XJ _ _ _ _ _ _ _ _ _ _ _ _ _ _ _ _ _ _ _ (.ref (G.2.2.1 + 40) :: _) _
          refine x_iload_n C d_Main_sitter_71 1 rfl ?_
          obtain ⟨g7, h0⟩ := xgo h0
          refine x_iald C k_40 (ib_in g7) d_Main_sitter_72 ?_
          exact x_iret C hr hk h0 d_Main_sitter_73
        replace h0 := xif q0 h0
        by_cases q1 : p1.toInt = 1
        · replace h0 := xit q1 h0
          refine x_tableIn C 74 d_Main_sitter_28 (by omega) (by omega) (by rw [q1]; rfl) (by decide) ?_
          refine x_aload_n C d_Main_sitter_74 0 rfl ?_
          refine x_getA (y := 39) C fg_Main_79 k_1 rfl d_Main_sitter_75 ?_
          refine x_getR (y := 2) C fg_Main_199 k_39 rfl d_Main_sitter_78 ?_
          show XJ _ _ _ _ _ _ _ _ _ _ _ _ _ _ _ _ _ _ _ (.ref (G.2.2.1 + 41) :: _) _
          refine x_iload_n C d_Main_sitter_81 1 rfl ?_
          obtain ⟨g8, h0⟩ := xgo h0
          refine x_iald C k_41 (ib_in g8) d_Main_sitter_82 ?_
          exact x_iret C hr hk h0 d_Main_sitter_83
        replace h0 := xif q1 h0
        by_cases q2 : p1.toInt = 2
        · replace h0 := xit q2 h0
          refine x_tableIn C 84 d_Main_sitter_28 (by omega) (by omega) (by rw [q2]; rfl) (by decide) ?_
          refine x_aload_n C d_Main_sitter_84 0 rfl ?_
          refine x_getA (y := 4) C fg_Main_19 k_1 rfl d_Main_sitter_85 ?_
          refine x_getR (y := 5) C fg_Main_202 k_4 rfl d_Main_sitter_88 ?_
          show XJ _ _ _ _ _ _ _ _ _ _ _ _ _ _ _ _ _ _ _ (.ref (G.2.2.1 + 9) :: _) _
          refine x_iload_n C d_Main_sitter_91 1 rfl ?_
          obtain ⟨g9, h0⟩ := xgo h0
          refine x_iald C k_9 (ib_in g9) d_Main_sitter_92 ?_
          exact x_iret C hr hk h0 d_Main_sitter_93
        replace h0 := xif q2 h0
        by_cases q3 : p1.toInt = 3
        · replace h0 := xit q3 h0
          refine x_tableIn C 94 d_Main_sitter_28 (by omega) (by omega) (by rw [q3]; rfl) (by decide) ?_
          refine x_aload_n C d_Main_sitter_94 0 rfl ?_
          refine x_getA (y := 4) C fg_Main_19 k_1 rfl d_Main_sitter_95 ?_
          refine x_getR (y := 6) C fg_Main_205 k_4 rfl d_Main_sitter_98 ?_
          show XJ _ _ _ _ _ _ _ _ _ _ _ _ _ _ _ _ _ _ _ (.ref (G.2.2.1 + 10) :: _) _
          refine x_iload_n C d_Main_sitter_101 1 rfl ?_
          obtain ⟨g10, h0⟩ := xgo h0
          refine x_iald C k_10 (ib_in g10) d_Main_sitter_102 ?_
          exact x_iret C hr hk h0 d_Main_sitter_103
        replace h0 := xif q3 h0
        by_cases q4 : p1.toInt = 4
        · replace h0 := xit q4 h0
          refine x_tableIn C 104 d_Main_sitter_28 (by omega) (by omega) (by rw [q4]; rfl) (by decide) ?_
          refine x_aload_n C d_Main_sitter_104 0 rfl ?_
          refine x_getA (y := 39) C fg_Main_79 k_1 rfl d_Main_sitter_105 ?_
          refine x_getR (y := 3) C fg_Main_208 k_39 rfl d_Main_sitter_108 ?_
          show XJ _ _ _ _ _ _ _ _ _ _ _ _ _ _ _ _ _ _ _ (.ref (G.2.2.1 + 42) :: _) _
          refine x_iload_n C d_Main_sitter_111 1 rfl ?_
          obtain ⟨g11, h0⟩ := xgo h0
          refine x_iald C k_42 (ib_in g11) d_Main_sitter_112 ?_
          exact x_iret C hr hk h0 d_Main_sitter_113
        replace h0 := xif q4 h0
        refine x_tableOut C 114 d_Main_sitter_28 (by omega) (by decide) ?_
        refine x_aload_n C d_Main_sitter_114 0 rfl ?_
        refine x_getA (y := 39) C fg_Main_79 k_1 rfl d_Main_sitter_115 ?_
        refine x_getR (y := 4) C fg_Main_211 k_39 rfl d_Main_sitter_118 ?_
        show XJ _ _ _ _ _ _ _ _ _ _ _ _ _ _ _ _ _ _ _ (.ref (G.2.2.1 + 43) :: _) _
        refine x_iload_n C d_Main_sitter_121 1 rfl ?_
        obtain ⟨g12, h0⟩ := xgo h0
        refine x_iald C k_43 (ib_in g12) d_Main_sitter_122 ?_
        exact x_iret C hr hk h0 d_Main_sitter_123
      · replace h0 := xif q6 h0
        exact x_lv C [] rfl (b_Main_sitter_17 C hr hk hd hR h0)
-- LostPlaces.going(II)I
theorem d_Main_going_0 : decode prog_1_method_11_code 0 = .ok (.iload_n 1, 1) := by decide +kernel
theorem d_Main_going_1 : decode prog_1_method_11_code 1 = .ok (.ifCond .lt 20, 3) := by decide +kernel
theorem d_Main_going_4 : decode prog_1_method_11_code 4 = .ok (.iload_n 1, 1) := by decide +kernel
theorem d_Main_going_5 : decode prog_1_method_11_code 5 = .ok (.aload_n 0, 1) := by decide +kernel
theorem d_Main_going_6 : decode prog_1_method_11_code 6 = .ok (.getfield 19, 3) := by decide +kernel
theorem d_Main_going_9 : decode prog_1_method_11_code 9 = .ok (.getfield 214, 3) := by decide +kernel
theorem d_Main_going_12 : decode prog_1_method_11_code 12 = .ok (.if_icmp .ge 9, 3) := by decide +kernel
theorem d_Main_going_15 : decode prog_1_method_11_code 15 = .ok (.iload_n 1, 1) := by decide +kernel
theorem d_Main_going_16 : decode prog_1_method_11_code 16 = .ok (.bipush 10, 2) := by decide +kernel
theorem d_Main_going_18 : decode prog_1_method_11_code 18 = .ok (.if_icmp .lt 5, 3) := by decide +kernel
theorem d_Main_going_21 : decode prog_1_method_11_code 21 = .ok (.iconst (-1), 1) := by decide +kernel
theorem d_Main_going_22 : decode prog_1_method_11_code 22 = .ok (.ireturn, 1) := by decide +kernel
theorem d_Main_going_23 : decode prog_1_method_11_code 23 = .ok (.iload_n 2, 1) := by decide +kernel
theorem d_Main_going_24 : decode prog_1_method_11_code 24 = .ok (.tableswitch 58 0 2 #[28, 38, 48], 28) := by decide +kernel
theorem d_Main_going_52 : decode prog_1_method_11_code 52 = .ok (.aload_n 0, 1) := by decide +kernel
theorem d_Main_going_53 : decode prog_1_method_11_code 53 = .ok (.getfield 19, 3) := by decide +kernel
theorem d_Main_going_56 : decode prog_1_method_11_code 56 = .ok (.getfield 217, 3) := by decide +kernel
theorem d_Main_going_59 : decode prog_1_method_11_code 59 = .ok (.iload_n 1, 1) := by decide +kernel
theorem d_Main_going_60 : decode prog_1_method_11_code 60 = .ok (.iaload, 1) := by decide +kernel
theorem d_Main_going_61 : decode prog_1_method_11_code 61 = .ok (.ireturn, 1) := by decide +kernel
theorem d_Main_going_62 : decode prog_1_method_11_code 62 = .ok (.aload_n 0, 1) := by decide +kernel
theorem d_Main_going_63 : decode prog_1_method_11_code 63 = .ok (.getfield 19, 3) := by decide +kernel
theorem d_Main_going_66 : decode prog_1_method_11_code 66 = .ok (.getfield 220, 3) := by decide +kernel
theorem d_Main_going_69 : decode prog_1_method_11_code 69 = .ok (.iload_n 1, 1) := by decide +kernel
theorem d_Main_going_70 : decode prog_1_method_11_code 70 = .ok (.iaload, 1) := by decide +kernel
theorem d_Main_going_71 : decode prog_1_method_11_code 71 = .ok (.ireturn, 1) := by decide +kernel
theorem d_Main_going_72 : decode prog_1_method_11_code 72 = .ok (.aload_n 0, 1) := by decide +kernel
theorem d_Main_going_73 : decode prog_1_method_11_code 73 = .ok (.getfield 19, 3) := by decide +kernel
theorem d_Main_going_76 : decode prog_1_method_11_code 76 = .ok (.getfield 223, 3) := by decide +kernel
theorem d_Main_going_79 : decode prog_1_method_11_code 79 = .ok (.iload_n 1, 1) := by decide +kernel
theorem d_Main_going_80 : decode prog_1_method_11_code 80 = .ok (.iaload, 1) := by decide +kernel
theorem d_Main_going_81 : decode prog_1_method_11_code 81 = .ok (.ireturn, 1) := by decide +kernel
theorem d_Main_going_82 : decode prog_1_method_11_code 82 = .ok (.iconst (-1), 1) := by decide +kernel
theorem d_Main_going_83 : decode prog_1_method_11_code 83 = .ok (.ireturn, 1) := by decide +kernel
def s_Main_going_21 (p0 : Int32) (p1 : Int32) (σ : LH) : Option (Int32 × LH) :=
  some ((-1), σ)
theorem b_Main_going_21 {G : XG} {l : Launch} {p : Program} {e : Env} {R : Room} {s : State} {m : MethodId} {args : Array Value} {below : List Frame} {meth : Method} {c : Code} (C : XC G 1 570 p s m args c prog_1_method_11_code 3 R_Main) (hr : meth.sig.returnType = (some .int)) (hk : meth.locks = false) {d : Nat} (hd : 1 ≤ d + 1) (hR : xroom R (d + 1)) {p0 : Int32} {p1 : Int32} {σ' : LH} {r : Int32} {σ : LH} (h0 : s_Main_going_21 p0 p1 σ = some (r, σ')) : XJ G 1 570 p l e R s m args below meth c 3 (XQ G 1 570 below args s (some (.int r)) σ') 0 0 21 [] [] σ := by
  replace h0 := (show _ = _ from h0)
  unfold s_Main_going_21 at h0
  refine x_iconst (v := (-1)) C d_Main_going_21 (by decide) ?_
  exact x_iret C hr hk h0 d_Main_going_22
def s_Main_going (p0 : Int32) (p1 : Int32) (σ : LH) : Option (Int32 × LH) :=
  if p0 < 0 then (
   s_Main_going_21 p0 p1 σ)
  else (
   if (σ.1 4 2) ≤ p0 then (
    s_Main_going_21 p0 p1 σ)
   else (
    if p0 < 10 then (
     if p1.toInt = 0 then (
      if ib p0 10 then (
      some ((σ.1 12 (Int32.toNatClampNeg p0)), σ)) else none)
     else (
     if p1.toInt = 1 then (
      if ib p0 10 then (
      some ((σ.1 13 (Int32.toNatClampNeg p0)), σ)) else none)
     else (
     if p1.toInt = 2 then (
      if ib p0 10 then (
      some ((σ.1 14 (Int32.toNatClampNeg p0)), σ)) else none)
     else (
      some ((-1), σ)))))
    else (
     s_Main_going_21 p0 p1 σ)))
theorem c_Main_going {G : XG} {l : Launch} {d : Nat} (hd : 1 ≤ d) {p0 : Int32} {p1 : Int32} {σ σ' : LH} {r : Int32} (h0 : s_Main_going p0 p1 σ = some (r, σ')) : xM G 1 570 l y_Main_going prog_1_method_11_code 3 (some .int) d [.ref (G.2.2.1 + 1), .int p0, .int p1] σ (some (.int r)) σ' := by
  obtain ⟨d, rfl⟩ : ∃ q, d = q + 1 := ⟨d - 1, by omega⟩
  refine x_met R_Main rfl (by decide +kernel) (Nat.le_of_ble_eq_true rfl) fun p e s m below meth c C hr hk hR => ?_
  refine x_lv (lv' := [(0, .ref (G.2.2.1 + 1)), (1, .int p0), (2, .int p1)]) C [0, 1, 2] rfl ?_
  generalize xrm (d + 1) = R at hR ⊢
  unfold s_Main_going at h0
  refine x_iload_n C d_Main_going_0 1 rfl ?_
  refine x_if_lt C 21 d_Main_going_1 (by decide) (fun q1 => ?_) (fun q1 => ?_)
  · replace h0 := xit q1 h0
    exact x_lv C [] rfl (b_Main_going_21 C hr hk hd hR h0)
  · replace h0 := xif q1 h0
    refine x_iload_n C d_Main_going_4 1 rfl ?_
    refine x_aload_n C d_Main_going_5 0 rfl ?_
    refine x_getA (y := 4) C fg_Main_19 k_1 rfl d_Main_going_6 ?_
    refine x_getI (y := 0) C fg_Main_214 k_4 rfl d_Main_going_9 ?_
    refine x_icmp_ge C 21 d_Main_going_12 (by decide) (fun q2 => ?_) (fun q2 => ?_)
    · replace h0 := xit q2 h0
      exact x_lv C [] rfl (b_Main_going_21 C hr hk hd hR h0)
    · replace h0 := xif q2 h0
      refine x_iload_n C d_Main_going_15 1 rfl ?_
      refine x_bipush (v := 10) C d_Main_going_16 (by decide) ?_
      refine x_icmp_lt C 23 d_Main_going_18 (by decide) (fun q3 => ?_) (fun q3 => ?_)
      · replace h0 := xit q3 h0
        refine x_iload_n C d_Main_going_23 2 rfl ?_
        by_cases q0 : p1.toInt = 0
        · replace h0 := xit q0 h0
          refine x_tableIn C 52 d_Main_going_24 (by omega) (by omega) (by rw [q0]; rfl) (by decide) ?_
          refine x_aload_n C d_Main_going_52 0 rfl ?_
          refine x_getA (y := 4) C fg_Main_19 k_1 rfl d_Main_going_53 ?_
          refine x_getR (y := 8) C fg_Main_217 k_4 rfl d_Main_going_56 ?_
          show XJ _ _ _ _ _ _ _ _ _ _ _ _ _ _ _ _ _ _ _ (.ref (G.2.2.1 + 12) :: _) _
          refine x_iload_n C d_Main_going_59 1 rfl ?_
          obtain ⟨g4, h0⟩ := xgo h0
          refine x_iald C k_12 (ib_in g4) d_Main_going_60 ?_
          exact x_iret C hr hk h0 d_Main_going_61
        replace h0 := xif q0 h0
        by_cases q1 : p1.toInt = 1
        · replace h0 := xit q1 h0
          refine x_tableIn C 62 d_Main_going_24 (by omega) (by omega) (by rw [q1]; rfl) (by decide) ?_
          refine x_aload_n C d_Main_going_62 0 rfl ?_
          refine x_getA (y := 4) C fg_Main_19 k_1 rfl d_Main_going_63 ?_
          refine x_getR (y := 9) C fg_Main_220 k_4 rfl d_Main_going_66 ?_
          show XJ _ _ _ _ _ _ _ _ _ _ _ _ _ _ _ _ _ _ _ (.ref (G.2.2.1 + 13) :: _) _
          refine x_iload_n C d_Main_going_69 1 rfl ?_
          obtain ⟨g5, h0⟩ := xgo h0
          refine x_iald C k_13 (ib_in g5) d_Main_going_70 ?_
          exact x_iret C hr hk h0 d_Main_going_71
        replace h0 := xif q1 h0
        by_cases q2 : p1.toInt = 2
        · replace h0 := xit q2 h0
          refine x_tableIn C 72 d_Main_going_24 (by omega) (by omega) (by rw [q2]; rfl) (by decide) ?_
          refine x_aload_n C d_Main_going_72 0 rfl ?_
          refine x_getA (y := 4) C fg_Main_19 k_1 rfl d_Main_going_73 ?_
          refine x_getR (y := 10) C fg_Main_223 k_4 rfl d_Main_going_76 ?_
          show XJ _ _ _ _ _ _ _ _ _ _ _ _ _ _ _ _ _ _ _ (.ref (G.2.2.1 + 14) :: _) _
          refine x_iload_n C d_Main_going_79 1 rfl ?_
          obtain ⟨g6, h0⟩ := xgo h0
          refine x_iald C k_14 (ib_in g6) d_Main_going_80 ?_
          exact x_iret C hr hk h0 d_Main_going_81
        replace h0 := xif q2 h0
        refine x_tableOut C 82 d_Main_going_24 (by omega) (by decide) ?_
        refine x_iconst (v := (-1)) C d_Main_going_82 (by decide) ?_
        exact x_iret C hr hk h0 d_Main_going_83
      · replace h0 := xif q3 h0
        exact x_lv C [] rfl (b_Main_going_21 C hr hk hd hR h0)
-- LostPlaces.taste(I)Z
theorem d_Main_taste_0 : decode prog_1_method_12_code 0 = .ok (.iload_n 1, 1) := by decide +kernel
theorem d_Main_taste_1 : decode prog_1_method_12_code 1 = .ok (.iconst (-1), 1) := by decide +kernel
theorem d_Main_taste_2 : decode prog_1_method_12_code 2 = .ok (.if_icmp .lt 11, 3) := by decide +kernel
theorem d_Main_taste_5 : decode prog_1_method_12_code 5 = .ok (.iload_n 1, 1) := by decide +kernel
theorem d_Main_taste_6 : decode prog_1_method_12_code 6 = .ok (.aload_n 0, 1) := by decide +kernel
theorem d_Main_taste_7 : decode prog_1_method_12_code 7 = .ok (.getfield 48, 3) := by decide +kernel
theorem d_Main_taste_10 : decode prog_1_method_12_code 10 = .ok (.if_icmp .lt 5, 3) := by decide +kernel
theorem d_Main_taste_13 : decode prog_1_method_12_code 13 = .ok (.iconst 0, 1) := by decide +kernel
theorem d_Main_taste_14 : decode prog_1_method_12_code 14 = .ok (.ireturn, 1) := by decide +kernel
theorem d_Main_taste_15 : decode prog_1_method_12_code 15 = .ok (.aload_n 0, 1) := by decide +kernel
theorem d_Main_taste_16 : decode prog_1_method_12_code 16 = .ok (.iload_n 1, 1) := by decide +kernel
theorem d_Main_taste_17 : decode prog_1_method_12_code 17 = .ok (.putfield 52, 3) := by decide +kernel
theorem d_Main_taste_20 : decode prog_1_method_12_code 20 = .ok (.aload_n 0, 1) := by decide +kernel
theorem d_Main_taste_21 : decode prog_1_method_12_code 21 = .ok (.invokevirtual 154, 3) := by decide +kernel
theorem d_Main_taste_24 : decode prog_1_method_12_code 24 = .ok (.iconst 1, 1) := by decide +kernel
theorem d_Main_taste_25 : decode prog_1_method_12_code 25 = .ok (.ireturn, 1) := by decide +kernel
def s_Main_taste_13 (p0 : Int32) (σ : LH) : Option (Int32 × LH) :=
  some (0, σ)
theorem b_Main_taste_13 {G : XG} {l : Launch} {p : Program} {e : Env} {R : Room} {s : State} {m : MethodId} {args : Array Value} {below : List Frame} {meth : Method} {c : Code} (C : XC G 1 570 p s m args c prog_1_method_12_code 2 R_Main) (hr : meth.sig.returnType = (some .boolean)) (hk : meth.locks = false) {d : Nat} (hd : 6 ≤ d + 1) (hR : xroom R (d + 1)) {p0 : Int32} {σ' : LH} {r : Int32} {σ : LH} (h0 : s_Main_taste_13 p0 σ = some (r, σ')) : XJ G 1 570 p l e R s m args below meth c 2 (XQ G 1 570 below args s (some (.int r)) σ') 0 0 13 [] [] σ := by
  replace h0 := (show _ = _ from h0)
  unfold s_Main_taste_13 at h0
  refine x_iconst (v := 0) C d_Main_taste_13 (by decide) ?_
  exact x_zret C hr hk (by decide) h0 d_Main_taste_14
def s_Main_taste (p0 : Int32) (σ : LH) : Option (Int32 × LH) :=
  if p0 < (-1) then (
   s_Main_taste_13 p0 σ)
  else (
   if p0 < (σ.1 1 6) then (
    xl ((stI σ 1 7 p0) : LH) fun σ3 =>
    xb1 (s_Main_renewLikings σ3) fun σ5 =>
    some (1, σ5))
   else (
    s_Main_taste_13 p0 σ))
theorem c_Main_taste {G : XG} {l : Launch} {d : Nat} (hd : 6 ≤ d) {p0 : Int32} {σ σ' : LH} {r : Int32} (h0 : s_Main_taste p0 σ = some (r, σ')) : xM G 1 570 l y_Main_taste prog_1_method_12_code 2 (some .boolean) d [.ref (G.2.2.1 + 1), .int p0] σ (some (.int r)) σ' := by
  obtain ⟨d, rfl⟩ : ∃ q, d = q + 1 := ⟨d - 1, by omega⟩
  refine x_met R_Main rfl (by decide +kernel) (Nat.le_of_ble_eq_true rfl) fun p e s m below meth c C hr hk hR => ?_
  refine x_lv (lv' := [(0, .ref (G.2.2.1 + 1)), (1, .int p0)]) C [0, 1] rfl ?_
  generalize xrm (d + 1) = R at hR ⊢
  unfold s_Main_taste at h0
  refine x_iload_n C d_Main_taste_0 1 rfl ?_
  refine x_iconst (v := (-1)) C d_Main_taste_1 (by decide) ?_
  refine x_icmp_lt C 13 d_Main_taste_2 (by decide) (fun q1 => ?_) (fun q1 => ?_)
  · replace h0 := xit q1 h0
    exact x_lv C [] rfl (b_Main_taste_13 C hr hk hd hR h0)
  · replace h0 := xif q1 h0
    refine x_iload_n C d_Main_taste_5 1 rfl ?_
    refine x_aload_n C d_Main_taste_6 0 rfl ?_
    refine x_getI (y := 0) C fg_Main_48 k_1 rfl d_Main_taste_7 ?_
    refine x_icmp_lt C 15 d_Main_taste_10 (by decide) (fun q2 => ?_) (fun q2 => ?_)
    · replace h0 := xit q2 h0
      refine x_aload_n C d_Main_taste_15 0 rfl ?_
      refine x_iload_n C d_Main_taste_16 1 rfl ?_
      refine x_putI (y := 0) C fp_Main_52 k_1 rfl rfl rfl d_Main_taste_17 ?_
      obtain ⟨σ3, eσ3, h0⟩ := xlet h0
      refine x_sig C eσ3 ?_
      refine x_aload_n C d_Main_taste_20 0 rfl ?_
      obtain ⟨σ5, k4, h0⟩ := xbind1 h0
      refine x_callVv C hR (c_Main_renewLikings (d := d) (by omega) k4) cw_Main_154 k_1 rfl rfl rfl (Nat.le_of_ble_eq_true rfl) ⟨Nat.zero_le _, Nat.zero_le _⟩ d_Main_taste_21 ?_
      refine x_iconst (v := 1) C d_Main_taste_24 (by decide) ?_
      exact x_zret C hr hk (by decide) h0 d_Main_taste_25
    · replace h0 := xif q2 h0
      exact x_lv C [] rfl (b_Main_taste_13 C hr hk hd hR h0)
-- LostPlaces.restless(I)Z
theorem d_Main_restless_0 : decode prog_1_method_13_code 0 = .ok (.iload_n 1, 1) := by decide +kernel
theorem d_Main_restless_1 : decode prog_1_method_13_code 1 = .ok (.ifCond .lt 17, 3) := by decide +kernel
theorem d_Main_restless_4 : decode prog_1_method_13_code 4 = .ok (.iload_n 1, 1) := by decide +kernel
theorem d_Main_restless_5 : decode prog_1_method_13_code 5 = .ok (.bipush 99, 2) := by decide +kernel
theorem d_Main_restless_7 : decode prog_1_method_13_code 7 = .ok (.if_icmp .gt 11, 3) := by decide +kernel
theorem d_Main_restless_10 : decode prog_1_method_13_code 10 = .ok (.iload_n 1, 1) := by decide +kernel
theorem d_Main_restless_11 : decode prog_1_method_13_code 11 = .ok (.aload_n 0, 1) := by decide +kernel
theorem d_Main_restless_12 : decode prog_1_method_13_code 12 = .ok (.getfield 55, 3) := by decide +kernel
theorem d_Main_restless_15 : decode prog_1_method_13_code 15 = .ok (.if_icmp .ne 5, 3) := by decide +kernel
theorem d_Main_restless_18 : decode prog_1_method_13_code 18 = .ok (.iconst 0, 1) := by decide +kernel
theorem d_Main_restless_19 : decode prog_1_method_13_code 19 = .ok (.ireturn, 1) := by decide +kernel
theorem d_Main_restless_20 : decode prog_1_method_13_code 20 = .ok (.aload_n 0, 1) := by decide +kernel
theorem d_Main_restless_21 : decode prog_1_method_13_code 21 = .ok (.iload_n 1, 1) := by decide +kernel
theorem d_Main_restless_22 : decode prog_1_method_13_code 22 = .ok (.putfield 55, 3) := by decide +kernel
theorem d_Main_restless_25 : decode prog_1_method_13_code 25 = .ok (.iconst 1, 1) := by decide +kernel
theorem d_Main_restless_26 : decode prog_1_method_13_code 26 = .ok (.ireturn, 1) := by decide +kernel
def s_Main_restless_18 (p0 : Int32) (σ : LH) : Option (Int32 × LH) :=
  some (0, σ)
theorem b_Main_restless_18 {G : XG} {l : Launch} {p : Program} {e : Env} {R : Room} {s : State} {m : MethodId} {args : Array Value} {below : List Frame} {meth : Method} {c : Code} (C : XC G 1 570 p s m args c prog_1_method_13_code 2 R_Main) (hr : meth.sig.returnType = (some .boolean)) (hk : meth.locks = false) {d : Nat} (hd : 1 ≤ d + 1) (hR : xroom R (d + 1)) {p0 : Int32} {σ' : LH} {r : Int32} {σ : LH} (h0 : s_Main_restless_18 p0 σ = some (r, σ')) : XJ G 1 570 p l e R s m args below meth c 2 (XQ G 1 570 below args s (some (.int r)) σ') 0 0 18 [] [] σ := by
  replace h0 := (show _ = _ from h0)
  unfold s_Main_restless_18 at h0
  refine x_iconst (v := 0) C d_Main_restless_18 (by decide) ?_
  exact x_zret C hr hk (by decide) h0 d_Main_restless_19
def s_Main_restless (p0 : Int32) (σ : LH) : Option (Int32 × LH) :=
  if p0 < 0 then (
   s_Main_restless_18 p0 σ)
  else (
   if 99 < p0 then (
    s_Main_restless_18 p0 σ)
   else (
    if p0 = (σ.1 1 8) then (
     s_Main_restless_18 p0 σ)
    else (
     xl ((stI σ 1 8 p0) : LH) fun σ4 =>
     some (1, σ4))))
theorem c_Main_restless {G : XG} {l : Launch} {d : Nat} (hd : 1 ≤ d) {p0 : Int32} {σ σ' : LH} {r : Int32} (h0 : s_Main_restless p0 σ = some (r, σ')) : xM G 1 570 l y_Main_restless prog_1_method_13_code 2 (some .boolean) d [.ref (G.2.2.1 + 1), .int p0] σ (some (.int r)) σ' := by
  obtain ⟨d, rfl⟩ : ∃ q, d = q + 1 := ⟨d - 1, by omega⟩
  refine x_met R_Main rfl (by decide +kernel) (Nat.le_of_ble_eq_true rfl) fun p e s m below meth c C hr hk hR => ?_
  refine x_lv (lv' := [(0, .ref (G.2.2.1 + 1)), (1, .int p0)]) C [0, 1] rfl ?_
  generalize xrm (d + 1) = R at hR ⊢
  unfold s_Main_restless at h0
  refine x_iload_n C d_Main_restless_0 1 rfl ?_
  refine x_if_lt C 18 d_Main_restless_1 (by decide) (fun q1 => ?_) (fun q1 => ?_)
  · replace h0 := xit q1 h0
    exact x_lv C [] rfl (b_Main_restless_18 C hr hk hd hR h0)
  · replace h0 := xif q1 h0
    refine x_iload_n C d_Main_restless_4 1 rfl ?_
    refine x_bipush (v := 99) C d_Main_restless_5 (by decide) ?_
    refine x_icmp_gt C 18 d_Main_restless_7 (by decide) (fun q2 => ?_) (fun q2 => ?_)
    · replace h0 := xit q2 h0
      exact x_lv C [] rfl (b_Main_restless_18 C hr hk hd hR h0)
    · replace h0 := xif q2 h0
      refine x_iload_n C d_Main_restless_10 1 rfl ?_
      refine x_aload_n C d_Main_restless_11 0 rfl ?_
      refine x_getI (y := 0) C fg_Main_55 k_1 rfl d_Main_restless_12 ?_
      refine x_icmp_ne C 20 d_Main_restless_15 (by decide) (fun q3 => ?_) (fun q3 => ?_)
      · replace h0 := xif q3 h0
        refine x_aload_n C d_Main_restless_20 0 rfl ?_
        refine x_iload_n C d_Main_restless_21 1 rfl ?_
        refine x_putI (y := 0) C fp_Main_55 k_1 rfl rfl rfl d_Main_restless_22 ?_
        obtain ⟨σ4, eσ4, h0⟩ := xlet h0
        refine x_sig C eσ4 ?_
        refine x_iconst (v := 1) C d_Main_restless_25 (by decide) ?_
        exact x_zret C hr hk (by decide) h0 d_Main_restless_26
      · replace h0 := xit q3 h0
        exact x_lv C [] rfl (b_Main_restless_18 C hr hk hd hR h0)
-- LostPlaces$Likings.row(I)I
theorem d_Likings_row_0 : decode prog_7_method_5_code 0 = .ok (.iload_n 1, 1) := by decide +kernel
theorem d_Likings_row_1 : decode prog_7_method_5_code 1 = .ok (.ifCond .lt 21, 3) := by decide +kernel
theorem d_Likings_row_4 : decode prog_7_method_5_code 4 = .ok (.iload_n 1, 1) := by decide +kernel
theorem d_Likings_row_5 : decode prog_7_method_5_code 5 = .ok (.aload_n 0, 1) := by decide +kernel
theorem d_Likings_row_6 : decode prog_7_method_5_code 6 = .ok (.getfield 15, 3) := by decide +kernel
theorem d_Likings_row_9 : decode prog_7_method_5_code 9 = .ok (.arraylength, 1) := by decide +kernel
theorem d_Likings_row_10 : decode prog_7_method_5_code 10 = .ok (.if_icmp .ge 12, 3) := by decide +kernel
theorem d_Likings_row_13 : decode prog_7_method_5_code 13 = .ok (.aload_n 0, 1) := by decide +kernel
theorem d_Likings_row_14 : decode prog_7_method_5_code 14 = .ok (.getfield 15, 3) := by decide +kernel
theorem d_Likings_row_17 : decode prog_7_method_5_code 17 = .ok (.iload_n 1, 1) := by decide +kernel
theorem d_Likings_row_18 : decode prog_7_method_5_code 18 = .ok (.iaload, 1) := by decide +kernel
theorem d_Likings_row_19 : decode prog_7_method_5_code 19 = .ok (.goto 4, 3) := by decide +kernel
theorem d_Likings_row_22 : decode prog_7_method_5_code 22 = .ok (.iconst 0, 1) := by decide +kernel
theorem d_Likings_row_23 : decode prog_7_method_5_code 23 = .ok (.ireturn, 1) := by decide +kernel
def s_Likings_row_23 (p0 : Int32) (z0 : Int32) (σ : LH) : Option (Int32 × LH) :=
  some (z0, σ)
theorem b_Likings_row_23 {G : XG} {l : Launch} {p : Program} {e : Env} {R : Room} {s : State} {m : MethodId} {args : Array Value} {below : List Frame} {meth : Method} {c : Code} (C : XC G 1 570 p s m args c prog_7_method_5_code 2 R_Likings) (hr : meth.sig.returnType = (some .int)) (hk : meth.locks = false) {d : Nat} (hd : 1 ≤ d + 1) (hR : xroom R (d + 1)) {p0 : Int32} {σ' : LH} {r : Int32} {z0 : Int32} {σ : LH} (h0 : s_Likings_row_23 p0 z0 σ = some (r, σ')) : XJ G 1 570 p l e R s m args below meth c 2 (XQ G 1 570 below args s (some (.int r)) σ') 0 0 23 [] [.int z0] σ := by
  replace h0 := (show _ = _ from h0)
  unfold s_Likings_row_23 at h0
  exact x_iret C hr hk h0 d_Likings_row_23
def s_Likings_row_22 (p0 : Int32) (σ : LH) : Option (Int32 × LH) :=
  s_Likings_row_23 p0 0 σ
theorem b_Likings_row_22 {G : XG} {l : Launch} {p : Program} {e : Env} {R : Room} {s : State} {m : MethodId} {args : Array Value} {below : List Frame} {meth : Method} {c : Code} (C : XC G 1 570 p s m args c prog_7_method_5_code 2 R_Likings) (hr : meth.sig.returnType = (some .int)) (hk : meth.locks = false) {d : Nat} (hd : 1 ≤ d + 1) (hR : xroom R (d + 1)) {p0 : Int32} {σ' : LH} {r : Int32} {σ : LH} (h0 : s_Likings_row_22 p0 σ = some (r, σ')) : XJ G 1 570 p l e R s m args below meth c 2 (XQ G 1 570 below args s (some (.int r)) σ') 0 0 22 [] [] σ := by
  replace h0 := (show _ = _ from h0)
  unfold s_Likings_row_22 at h0
  refine x_iconst (v := 0) C d_Likings_row_22 (by decide) ?_
  exact x_lv C [] rfl (b_Likings_row_23 C hr hk hd hR h0)
def s_Likings_row (p0 : Int32) (σ : LH) : Option (Int32 × LH) :=
  if p0 < 0 then (
   s_Likings_row_22 p0 σ)
  else (
   if 100 ≤ p0 then (
    s_Likings_row_22 p0 σ)
   else (
    if ib p0 100 then (
    s_Likings_row_23 p0 (σ.1 35 (Int32.toNatClampNeg p0)) σ) else none))
theorem c_Likings_row {G : XG} {l : Launch} {d : Nat} (hd : 1 ≤ d) {p0 : Int32} {σ σ' : LH} {r : Int32} (h0 : s_Likings_row p0 σ = some (r, σ')) : xM G 1 570 l y_Likings_row prog_7_method_5_code 2 (some .int) d [.ref (G.2.2.1 + 33), .int p0] σ (some (.int r)) σ' := by
  obtain ⟨d, rfl⟩ : ∃ q, d = q + 1 := ⟨d - 1, by omega⟩
  refine x_met R_Likings rfl (by decide +kernel) (Nat.le_of_ble_eq_true rfl) fun p e s m below meth c C hr hk hR => ?_
  refine x_lv (lv' := [(0, .ref (G.2.2.1 + 33)), (1, .int p0)]) C [0, 1] rfl ?_
  generalize xrm (d + 1) = R at hR ⊢
  unfold s_Likings_row at h0
  refine x_iload_n C d_Likings_row_0 1 rfl ?_
  refine x_if_lt C 22 d_Likings_row_1 (by decide) (fun q1 => ?_) (fun q1 => ?_)
  · replace h0 := xit q1 h0
    exact x_lv C [] rfl (b_Likings_row_22 C hr hk hd hR h0)
  · replace h0 := xif q1 h0
    refine x_iload_n C d_Likings_row_4 1 rfl ?_
    refine x_aload_n C d_Likings_row_5 0 rfl ?_
    refine x_getA (y := 35) C fg_Likings_15 k_33 rfl d_Likings_row_6 ?_
    refine x_ilen (v := 100) C k_35 rfl d_Likings_row_9 ?_
    refine x_icmp_ge C 22 d_Likings_row_10 (by decide) (fun q2 => ?_) (fun q2 => ?_)
    · replace h0 := xit q2 h0
      exact x_lv C [] rfl (b_Likings_row_22 C hr hk hd hR h0)
    · replace h0 := xif q2 h0
      refine x_aload_n C d_Likings_row_13 0 rfl ?_
      refine x_getA (y := 35) C fg_Likings_15 k_33 rfl d_Likings_row_14 ?_
      refine x_iload_n C d_Likings_row_17 1 rfl ?_
      obtain ⟨g3, h0⟩ := xgo h0
      refine x_iald C k_35 (ib_in g3) d_Likings_row_18 ?_
      refine x_goto C 23 d_Likings_row_19 (by decide) ?_
      exact x_lv C [] rfl (b_Likings_row_23 C hr hk hd hR h0)
-- LostPlaces.likes(II)I
theorem d_Main_likes_0 : decode prog_1_method_14_code 0 = .ok (.aload_n 0, 1) := by decide +kernel
theorem d_Main_likes_1 : decode prog_1_method_14_code 1 = .ok (.iload_n 1, 1) := by decide +kernel
theorem d_Main_likes_2 : decode prog_1_method_14_code 2 = .ok (.invokevirtual 186, 3) := by decide +kernel
theorem d_Main_likes_5 : decode prog_1_method_14_code 5 = .ok (.ifCond .eq 16, 3) := by decide +kernel
theorem d_Main_likes_8 : decode prog_1_method_14_code 8 = .ok (.iload_n 2, 1) := by decide +kernel
theorem d_Main_likes_9 : decode prog_1_method_14_code 9 = .ok (.iconst (-1), 1) := by decide +kernel
theorem d_Main_likes_10 : decode prog_1_method_14_code 10 = .ok (.if_icmp .eq 14, 3) := by decide +kernel
theorem d_Main_likes_13 : decode prog_1_method_14_code 13 = .ok (.aload_n 0, 1) := by decide +kernel
theorem d_Main_likes_14 : decode prog_1_method_14_code 14 = .ok (.iload_n 2, 1) := by decide +kernel
theorem d_Main_likes_15 : decode prog_1_method_14_code 15 = .ok (.invokevirtual 164, 3) := by decide +kernel
theorem d_Main_likes_18 : decode prog_1_method_14_code 18 = .ok (.ifCond .ne 6, 3) := by decide +kernel
theorem d_Main_likes_21 : decode prog_1_method_14_code 21 = .ok (.ldc 226, 2) := by decide +kernel
theorem d_Main_likes_23 : decode prog_1_method_14_code 23 = .ok (.ireturn, 1) := by decide +kernel
theorem d_Main_likes_24 : decode prog_1_method_14_code 24 = .ok (.aload_n 0, 1) := by decide +kernel
theorem d_Main_likes_25 : decode prog_1_method_14_code 25 = .ok (.getfield 63, 3) := by decide +kernel
theorem d_Main_likes_28 : decode prog_1_method_14_code 28 = .ok (.aload_n 0, 1) := by decide +kernel
theorem d_Main_likes_29 : decode prog_1_method_14_code 29 = .ok (.getfield 63, 3) := by decide +kernel
theorem d_Main_likes_32 : decode prog_1_method_14_code 32 = .ok (.aload_n 0, 1) := by decide +kernel
theorem d_Main_likes_33 : decode prog_1_method_14_code 33 = .ok (.getfield 79, 3) := by decide +kernel
theorem d_Main_likes_36 : decode prog_1_method_14_code 36 = .ok (.getfield 227, 3) := by decide +kernel
theorem d_Main_likes_39 : decode prog_1_method_14_code 39 = .ok (.invokevirtual 230, 3) := by decide +kernel
theorem d_Main_likes_42 : decode prog_1_method_14_code 42 = .ok (.iload_n 1, 1) := by decide +kernel
theorem d_Main_likes_43 : decode prog_1_method_14_code 43 = .ok (.iload_n 2, 1) := by decide +kernel
theorem d_Main_likes_44 : decode prog_1_method_14_code 44 = .ok (.invokevirtual 234, 3) := by decide +kernel
theorem d_Main_likes_47 : decode prog_1_method_14_code 47 = .ok (.ireturn, 1) := by decide +kernel
def s_Main_likes_21 (p0 : Int32) (p1 : Int32) (σ : LH) : Option (Int32 × LH) :=
  some ((-1000000), σ)
theorem b_Main_likes_21 {G : XG} {l : Launch} {p : Program} {e : Env} {R : Room} {s : State} {m : MethodId} {args : Array Value} {below : List Frame} {meth : Method} {c : Code} (C : XC G 1 570 p s m args c prog_1_method_14_code 3 R_Main) (hr : meth.sig.returnType = (some .int)) (hk : meth.locks = false) {d : Nat} (hd : 2 ≤ d + 1) (hR : xroom R (d + 1)) {p0 : Int32} {p1 : Int32} {σ' : LH} {r : Int32} {σ : LH} (h0 : s_Main_likes_21 p0 p1 σ = some (r, σ')) : XJ G 1 570 p l e R s m args below meth c 3 (XQ G 1 570 below args s (some (.int r)) σ') 0 0 21 [] [] σ := by
  replace h0 := (show _ = _ from h0)
  unfold s_Main_likes_21 at h0
  refine x_ldc (v := (-1000000)) C w_982 d_Main_likes_21 ?_
  exact x_iret C hr hk h0 d_Main_likes_23
def s_Main_likes_24 (p0 : Int32) (p1 : Int32) (σ : LH) : Option (Int32 × LH) :=
  xb2 (s_Likings_row (σ.1 39 7) σ) fun r7 σ8 =>
  xb2 (s_Likings_at r7 p0 p1 σ8) fun r10 σ11 =>
  some (r10, σ11)
theorem b_Main_likes_24 {G : XG} {l : Launch} {p : Program} {e : Env} {R : Room} {s : State} {m : MethodId} {args : Array Value} {below : List Frame} {meth : Method} {c : Code} (C : XC G 1 570 p s m args c prog_1_method_14_code 3 R_Main) (hr : meth.sig.returnType = (some .int)) (hk : meth.locks = false) {d : Nat} (hd : 2 ≤ d + 1) (hR : xroom R (d + 1)) {p0 : Int32} {p1 : Int32} {σ' : LH} {r : Int32} {σ : LH} (h0 : s_Main_likes_24 p0 p1 σ = some (r, σ')) : XJ G 1 570 p l e R s m args below meth c 3 (XQ G 1 570 below args s (some (.int r)) σ') 0 0 24 [(0, .ref (G.2.2.1 + 1)), (1, .int p0), (2, .int p1)] [] σ := by
  replace h0 := (show _ = _ from h0)
  unfold s_Main_likes_24 at h0
  refine x_aload_n C d_Main_likes_24 0 rfl ?_
  refine x_getA (y := 33) C fg_Main_63 k_1 rfl d_Main_likes_25 ?_
  refine x_aload_n C d_Main_likes_28 0 rfl ?_
  refine x_getA (y := 33) C fg_Main_63 k_1 rfl d_Main_likes_29 ?_
  refine x_aload_n C d_Main_likes_32 0 rfl ?_
  refine x_getA (y := 39) C fg_Main_79 k_1 rfl d_Main_likes_33 ?_
  refine x_getI (y := 0) C fg_Main_227 k_39 rfl d_Main_likes_36 ?_
  obtain ⟨r7, σ8, k6, h0⟩ := xbind2 h0
  refine x_callVi C hR (c_Likings_row (d := d) (by omega) k6) cw_Main_230 k_33 rfl rfl rfl (Nat.le_of_ble_eq_true rfl) ⟨Nat.zero_le _, Nat.zero_le _⟩ d_Main_likes_39 ?_
  refine x_iload_n C d_Main_likes_42 1 rfl ?_
  refine x_iload_n C d_Main_likes_43 2 rfl ?_
  obtain ⟨r10, σ11, k9, h0⟩ := xbind2 h0
  refine x_callVi C hR (c_Likings_at (d := d) (by omega) k9) cw_Main_234 k_33 rfl rfl rfl (Nat.le_of_ble_eq_true rfl) ⟨Nat.zero_le _, Nat.zero_le _⟩ d_Main_likes_44 ?_
  exact x_iret C hr hk h0 d_Main_likes_47
def s_Main_likes (p0 : Int32) (p1 : Int32) (σ : LH) : Option (Int32 × LH) :=
  xb2 (s_Main_isSitter p0 σ) fun r2 σ3 =>
  if r2 = 0 then (
   s_Main_likes_21 p0 p1 σ3)
  else (
   if p1 = (-1) then (
    s_Main_likes_24 p0 p1 σ3)
   else (
    xb2 (s_Main_isSeat p1 σ3) fun r13 σ14 =>
    if r13 = 0 then (
     s_Main_likes_21 p0 p1 σ14)
    else (
     s_Main_likes_24 p0 p1 σ14)))
theorem c_Main_likes {G : XG} {l : Launch} {d : Nat} (hd : 2 ≤ d) {p0 : Int32} {p1 : Int32} {σ σ' : LH} {r : Int32} (h0 : s_Main_likes p0 p1 σ = some (r, σ')) : xM G 1 570 l y_Main_likes prog_1_method_14_code 3 (some .int) d [.ref (G.2.2.1 + 1), .int p0, .int p1] σ (some (.int r)) σ' := by
  obtain ⟨d, rfl⟩ : ∃ q, d = q + 1 := ⟨d - 1, by omega⟩
  refine x_met R_Main rfl (by decide +kernel) (Nat.le_of_ble_eq_true rfl) fun p e s m below meth c C hr hk hR => ?_
  refine x_lv (lv' := [(0, .ref (G.2.2.1 + 1)), (1, .int p0), (2, .int p1)]) C [0, 1, 2] rfl ?_
  generalize xrm (d + 1) = R at hR ⊢
  unfold s_Main_likes at h0
  refine x_aload_n C d_Main_likes_0 0 rfl ?_
  refine x_iload_n C d_Main_likes_1 1 rfl ?_
  obtain ⟨r2, σ3, k1, h0⟩ := xbind2 h0
  refine x_callVi C hR (c_Main_isSitter (d := d) (by omega) k1) cw_Main_186 k_1 rfl rfl rfl (Nat.le_of_ble_eq_true rfl) ⟨Nat.zero_le _, Nat.zero_le _⟩ d_Main_likes_2 ?_
  refine x_if_eq C 21 d_Main_likes_5 (by decide) (fun q4 => ?_) (fun q4 => ?_)
  · replace h0 := xit q4 h0
    exact x_lv C [] rfl (b_Main_likes_21 C hr hk hd hR h0)
  · replace h0 := xif q4 h0
    refine x_iload_n C d_Main_likes_8 2 rfl ?_
    refine x_iconst (v := (-1)) C d_Main_likes_9 (by decide) ?_
    refine x_icmp_eq C 24 d_Main_likes_10 (by decide) (fun q5 => ?_) (fun q5 => ?_)
    · replace h0 := xit q5 h0
      exact x_lv C [0, 1, 2] rfl (b_Main_likes_24 C hr hk hd hR h0)
    · replace h0 := xif q5 h0
      refine x_aload_n C d_Main_likes_13 0 rfl ?_
      refine x_iload_n C d_Main_likes_14 2 rfl ?_
      obtain ⟨r13, σ14, k12, h0⟩ := xbind2 h0
      refine x_callVi C hR (c_Main_isSeat (d := d) (by omega) k12) cw_Main_164 k_1 rfl rfl rfl (Nat.le_of_ble_eq_true rfl) ⟨Nat.zero_le _, Nat.zero_le _⟩ d_Main_likes_15 ?_
      refine x_if_ne C 24 d_Main_likes_18 (by decide) (fun q15 => ?_) (fun q15 => ?_)
      · replace h0 := xif q15 h0
        exact x_lv C [0, 1, 2] rfl (b_Main_likes_24 C hr hk hd hR h0)
      · replace h0 := xit q15 h0
        exact x_lv C [] rfl (b_Main_likes_21 C hr hk hd hR h0)
-- LostPlaces.isHere(I)Z
theorem d_Main_isHere_0 : decode prog_1_method_17_code 0 = .ok (.aload_n 0, 1) := by decide +kernel
theorem d_Main_isHere_1 : decode prog_1_method_17_code 1 = .ok (.iload_n 1, 1) := by decide +kernel
theorem d_Main_isHere_2 : decode prog_1_method_17_code 2 = .ok (.invokevirtual 186, 3) := by decide +kernel
theorem d_Main_isHere_5 : decode prog_1_method_17_code 5 = .ok (.ifCond .eq 21, 3) := by decide +kernel
theorem d_Main_isHere_8 : decode prog_1_method_17_code 8 = .ok (.aload_n 0, 1) := by decide +kernel
theorem d_Main_isHere_9 : decode prog_1_method_17_code 9 = .ok (.getfield 79, 3) := by decide +kernel
theorem d_Main_isHere_12 : decode prog_1_method_17_code 12 = .ok (.getfield 196, 3) := by decide +kernel
theorem d_Main_isHere_15 : decode prog_1_method_17_code 15 = .ok (.iload_n 1, 1) := by decide +kernel
theorem d_Main_isHere_16 : decode prog_1_method_17_code 16 = .ok (.iaload, 1) := by decide +kernel
theorem d_Main_isHere_17 : decode prog_1_method_17_code 17 = .ok (.bipush (-2), 2) := by decide +kernel
theorem d_Main_isHere_19 : decode prog_1_method_17_code 19 = .ok (.if_icmp .eq 7, 3) := by decide +kernel
theorem d_Main_isHere_22 : decode prog_1_method_17_code 22 = .ok (.iconst 1, 1) := by decide +kernel
theorem d_Main_isHere_23 : decode prog_1_method_17_code 23 = .ok (.goto 4, 3) := by decide +kernel
theorem d_Main_isHere_26 : decode prog_1_method_17_code 26 = .ok (.iconst 0, 1) := by decide +kernel
theorem d_Main_isHere_27 : decode prog_1_method_17_code 27 = .ok (.ireturn, 1) := by decide +kernel
def s_Main_isHere_27 (p0 : Int32) (z0 : Int32) (σ : LH) : Option (Int32 × LH) :=
  if zb z0 then (
  some (z0, σ)) else none
theorem b_Main_isHere_27 {G : XG} {l : Launch} {p : Program} {e : Env} {R : Room} {s : State} {m : MethodId} {args : Array Value} {below : List Frame} {meth : Method} {c : Code} (C : XC G 1 570 p s m args c prog_1_method_17_code 2 R_Main) (hr : meth.sig.returnType = (some .boolean)) (hk : meth.locks = false) {d : Nat} (hd : 2 ≤ d + 1) (hR : xroom R (d + 1)) {p0 : Int32} {σ' : LH} {r : Int32} {z0 : Int32} {σ : LH} (h0 : s_Main_isHere_27 p0 z0 σ = some (r, σ')) : XJ G 1 570 p l e R s m args below meth c 2 (XQ G 1 570 below args s (some (.int r)) σ') 0 0 27 [] [.int z0] σ := by
  replace h0 := (show _ = _ from h0)
  unfold s_Main_isHere_27 at h0
  obtain ⟨g5, h0⟩ := xgo h0
  exact x_zret C hr hk g5 h0 d_Main_isHere_27
def s_Main_isHere_26 (p0 : Int32) (σ : LH) : Option (Int32 × LH) :=
  s_Main_isHere_27 p0 0 σ
theorem b_Main_isHere_26 {G : XG} {l : Launch} {p : Program} {e : Env} {R : Room} {s : State} {m : MethodId} {args : Array Value} {below : List Frame} {meth : Method} {c : Code} (C : XC G 1 570 p s m args c prog_1_method_17_code 2 R_Main) (hr : meth.sig.returnType = (some .boolean)) (hk : meth.locks = false) {d : Nat} (hd : 2 ≤ d + 1) (hR : xroom R (d + 1)) {p0 : Int32} {σ' : LH} {r : Int32} {σ : LH} (h0 : s_Main_isHere_26 p0 σ = some (r, σ')) : XJ G 1 570 p l e R s m args below meth c 2 (XQ G 1 570 below args s (some (.int r)) σ') 0 0 26 [] [] σ := by
  replace h0 := (show _ = _ from h0)
  unfold s_Main_isHere_26 at h0
  refine x_iconst (v := 0) C d_Main_isHere_26 (by decide) ?_
  exact x_lv C [] rfl (b_Main_isHere_27 C hr hk hd hR h0)
def s_Main_isHere (p0 : Int32) (σ : LH) : Option (Int32 × LH) :=
  xb2 (s_Main_isSitter p0 σ) fun r2 σ3 =>
  if r2 = 0 then (
   s_Main_isHere_26 p0 σ3)
  else (
   if ib p0 8 then (
   if (σ3.1 40 (Int32.toNatClampNeg p0)) = (-2) then (
    s_Main_isHere_26 p0 σ3)
   else (
    s_Main_isHere_27 p0 1 σ3)) else none)
theorem c_Main_isHere {G : XG} {l : Launch} {d : Nat} (hd : 2 ≤ d) {p0 : Int32} {σ σ' : LH} {r : Int32} (h0 : s_Main_isHere p0 σ = some (r, σ')) : xM G 1 570 l y_Main_isHere prog_1_method_17_code 2 (some .boolean) d [.ref (G.2.2.1 + 1), .int p0] σ (some (.int r)) σ' := by
  obtain ⟨d, rfl⟩ : ∃ q, d = q + 1 := ⟨d - 1, by omega⟩
  refine x_met R_Main rfl (by decide +kernel) (Nat.le_of_ble_eq_true rfl) fun p e s m below meth c C hr hk hR => ?_
  refine x_lv (lv' := [(0, .ref (G.2.2.1 + 1)), (1, .int p0)]) C [0, 1] rfl ?_
  generalize xrm (d + 1) = R at hR ⊢
  unfold s_Main_isHere at h0
  refine x_aload_n C d_Main_isHere_0 0 rfl ?_
  refine x_iload_n C d_Main_isHere_1 1 rfl ?_
  obtain ⟨r2, σ3, k1, h0⟩ := xbind2 h0
  refine x_callVi C hR (c_Main_isSitter (d := d) (by omega) k1) cw_Main_186 k_1 rfl rfl rfl (Nat.le_of_ble_eq_true rfl) ⟨Nat.zero_le _, Nat.zero_le _⟩ d_Main_isHere_2 ?_
  refine x_if_eq C 26 d_Main_isHere_5 (by decide) (fun q4 => ?_) (fun q4 => ?_)
  · replace h0 := xit q4 h0
    exact x_lv C [] rfl (b_Main_isHere_26 C hr hk hd hR h0)
  · replace h0 := xif q4 h0
    refine x_aload_n C d_Main_isHere_8 0 rfl ?_
    refine x_getA (y := 39) C fg_Main_79 k_1 rfl d_Main_isHere_9 ?_
    refine x_getR (y := 1) C fg_Main_196 k_39 rfl d_Main_isHere_12 ?_
    show XJ _ _ _ _ _ _ _ _ _ _ _ _ _ _ _ _ _ _ _ (.ref (G.2.2.1 + 40) :: _) _
    refine x_iload_n C d_Main_isHere_15 1 rfl ?_
    obtain ⟨g6, h0⟩ := xgo h0
    refine x_iald C k_40 (ib_in g6) d_Main_isHere_16 ?_
    refine x_bipush (v := (-2)) C d_Main_isHere_17 (by decide) ?_
    refine x_icmp_eq C 26 d_Main_isHere_19 (by decide) (fun q7 => ?_) (fun q7 => ?_)
    · replace h0 := xit q7 h0
      exact x_lv C [] rfl (b_Main_isHere_26 C hr hk hd hR h0)
    · replace h0 := xif q7 h0
      refine x_iconst (v := 1) C d_Main_isHere_22 (by decide) ?_
      refine x_goto C 27 d_Main_isHere_23 (by decide) ?_
      exact x_lv C [] rfl (b_Main_isHere_27 C hr hk hd hR h0)
-- LostPlaces.hasRoom()Z
theorem d_Main_hasRoom_0 : decode prog_1_method_18_code 0 = .ok (.aload_n 0, 1) := by decide +kernel
theorem d_Main_hasRoom_1 : decode prog_1_method_18_code 1 = .ok (.getfield 19, 3) := by decide +kernel
theorem d_Main_hasRoom_4 : decode prog_1_method_18_code 4 = .ok (.getfield 238, 3) := by decide +kernel
theorem d_Main_hasRoom_7 : decode prog_1_method_18_code 7 = .ok (.ifCond .le 7, 3) := by decide +kernel
theorem d_Main_hasRoom_10 : decode prog_1_method_18_code 10 = .ok (.iconst 1, 1) := by decide +kernel
theorem d_Main_hasRoom_11 : decode prog_1_method_18_code 11 = .ok (.goto 4, 3) := by decide +kernel
theorem d_Main_hasRoom_14 : decode prog_1_method_18_code 14 = .ok (.iconst 0, 1) := by decide +kernel
theorem d_Main_hasRoom_15 : decode prog_1_method_18_code 15 = .ok (.ireturn, 1) := by decide +kernel
def s_Main_hasRoom_15 (z0 : Int32) (σ : LH) : Option (Int32 × LH) :=
  if zb z0 then (
  some (z0, σ)) else none
theorem b_Main_hasRoom_15 {G : XG} {l : Launch} {p : Program} {e : Env} {R : Room} {s : State} {m : MethodId} {args : Array Value} {below : List Frame} {meth : Method} {c : Code} (C : XC G 1 570 p s m args c prog_1_method_18_code 1 R_Main) (hr : meth.sig.returnType = (some .boolean)) (hk : meth.locks = false) {d : Nat} (hd : 1 ≤ d + 1) (hR : xroom R (d + 1)) {σ' : LH} {r : Int32} {z0 : Int32} {σ : LH} (h0 : s_Main_hasRoom_15 z0 σ = some (r, σ')) : XJ G 1 570 p l e R s m args below meth c 1 (XQ G 1 570 below args s (some (.int r)) σ') 0 0 15 [] [.int z0] σ := by
  replace h0 := (show _ = _ from h0)
  unfold s_Main_hasRoom_15 at h0
  obtain ⟨g2, h0⟩ := xgo h0
  exact x_zret C hr hk g2 h0 d_Main_hasRoom_15
def s_Main_hasRoom (σ : LH) : Option (Int32 × LH) :=
  if (σ.1 4 0) ≤ 0 then (
   s_Main_hasRoom_15 0 σ)
  else (
   s_Main_hasRoom_15 1 σ)
theorem c_Main_hasRoom {G : XG} {l : Launch} {d : Nat} (hd : 1 ≤ d) {σ σ' : LH} {r : Int32} (h0 : s_Main_hasRoom σ = some (r, σ')) : xM G 1 570 l y_Main_hasRoom prog_1_method_18_code 1 (some .boolean) d [.ref (G.2.2.1 + 1)] σ (some (.int r)) σ' := by
  obtain ⟨d, rfl⟩ : ∃ q, d = q + 1 := ⟨d - 1, by omega⟩
  refine x_met R_Main rfl (by decide +kernel) (Nat.le_of_ble_eq_true rfl) fun p e s m below meth c C hr hk hR => ?_
  refine x_lv (lv' := [(0, .ref (G.2.2.1 + 1))]) C [0] rfl ?_
  generalize xrm (d + 1) = R at hR ⊢
  unfold s_Main_hasRoom at h0
  refine x_aload_n C d_Main_hasRoom_0 0 rfl ?_
  refine x_getA (y := 4) C fg_Main_19 k_1 rfl d_Main_hasRoom_1 ?_
  refine x_getI (y := 0) C fg_Main_238 k_4 rfl d_Main_hasRoom_4 ?_
  refine x_if_le C 14 d_Main_hasRoom_7 (by decide) (fun q1 => ?_) (fun q1 => ?_)
  · replace h0 := xit q1 h0
    refine x_iconst (v := 0) C d_Main_hasRoom_14 (by decide) ?_
    exact x_lv C [] rfl (b_Main_hasRoom_15 C hr hk hd hR h0)
  · replace h0 := xif q1 h0
    refine x_iconst (v := 1) C d_Main_hasRoom_10 (by decide) ?_
    refine x_goto C 15 d_Main_hasRoom_11 (by decide) ?_
    exact x_lv C [] rfl (b_Main_hasRoom_15 C hr hk hd hR h0)
-- LostPlaces.minutesLeft()I
theorem d_Main_minutesLeft_0 : decode prog_1_method_19_code 0 = .ok (.aload_n 0, 1) := by decide +kernel
theorem d_Main_minutesLeft_1 : decode prog_1_method_19_code 1 = .ok (.getfield 19, 3) := by decide +kernel
theorem d_Main_minutesLeft_4 : decode prog_1_method_19_code 4 = .ok (.getfield 241, 3) := by decide +kernel
theorem d_Main_minutesLeft_7 : decode prog_1_method_19_code 7 = .ok (.aload_n 0, 1) := by decide +kernel
theorem d_Main_minutesLeft_8 : decode prog_1_method_19_code 8 = .ok (.getfield 79, 3) := by decide +kernel
theorem d_Main_minutesLeft_11 : decode prog_1_method_19_code 11 = .ok (.getfield 227, 3) := by decide +kernel
theorem d_Main_minutesLeft_14 : decode prog_1_method_19_code 14 = .ok (.isub, 1) := by decide +kernel
theorem d_Main_minutesLeft_15 : decode prog_1_method_19_code 15 = .ok (.ireturn, 1) := by decide +kernel
def s_Main_minutesLeft (σ : LH) : Option (Int32 × LH) :=
  some (((σ.1 4 15) - (σ.1 39 7)), σ)
theorem c_Main_minutesLeft {G : XG} {l : Launch} {d : Nat} (hd : 1 ≤ d) {σ σ' : LH} {r : Int32} (h0 : s_Main_minutesLeft σ = some (r, σ')) : xM G 1 570 l y_Main_minutesLeft prog_1_method_19_code 1 (some .int) d [.ref (G.2.2.1 + 1)] σ (some (.int r)) σ' := by
  obtain ⟨d, rfl⟩ : ∃ q, d = q + 1 := ⟨d - 1, by omega⟩
  refine x_met R_Main rfl (by decide +kernel) (Nat.le_of_ble_eq_true rfl) fun p e s m below meth c C hr hk hR => ?_
  refine x_lv (lv' := [(0, .ref (G.2.2.1 + 1))]) C [0] rfl ?_
  generalize xrm (d + 1) = R at hR ⊢
  unfold s_Main_minutesLeft at h0
  refine x_aload_n C d_Main_minutesLeft_0 0 rfl ?_
  refine x_getA (y := 4) C fg_Main_19 k_1 rfl d_Main_minutesLeft_1 ?_
  refine x_getI (y := 0) C fg_Main_241 k_4 rfl d_Main_minutesLeft_4 ?_
  refine x_aload_n C d_Main_minutesLeft_7 0 rfl ?_
  refine x_getA (y := 39) C fg_Main_79 k_1 rfl d_Main_minutesLeft_8 ?_
  refine x_getI (y := 0) C fg_Main_227 k_39 rfl d_Main_minutesLeft_11 ?_
  refine x_isub C d_Main_minutesLeft_14 ?_
  exact x_iret C hr hk h0 d_Main_minutesLeft_15
-- LostPlaces$Hall.beginAs(LLostPlaces$Hall;)V
theorem d_Hall_beginAs_0 : decode prog_6_method_3_code 0 = .ok (.aload_n 1, 1) := by decide +kernel
theorem d_Hall_beginAs_1 : decode prog_6_method_3_code 1 = .ok (.getfield 9, 3) := by decide +kernel
theorem d_Hall_beginAs_4 : decode prog_6_method_3_code 4 = .ok (.iconst 0, 1) := by decide +kernel
theorem d_Hall_beginAs_5 : decode prog_6_method_3_code 5 = .ok (.aload_n 0, 1) := by decide +kernel
theorem d_Hall_beginAs_6 : decode prog_6_method_3_code 6 = .ok (.getfield 9, 3) := by decide +kernel
theorem d_Hall_beginAs_9 : decode prog_6_method_3_code 9 = .ok (.iconst 0, 1) := by decide +kernel
theorem d_Hall_beginAs_10 : decode prog_6_method_3_code 10 = .ok (.bipush 8, 2) := by decide +kernel
theorem d_Hall_beginAs_12 : decode prog_6_method_3_code 12 = .ok (.invokestatic 62, 3) := by decide +kernel
theorem d_Hall_beginAs_15 : decode prog_6_method_3_code 15 = .ok (.aload_n 1, 1) := by decide +kernel
theorem d_Hall_beginAs_16 : decode prog_6_method_3_code 16 = .ok (.getfield 15, 3) := by decide +kernel
theorem d_Hall_beginAs_19 : decode prog_6_method_3_code 19 = .ok (.iconst 0, 1) := by decide +kernel
theorem d_Hall_beginAs_20 : decode prog_6_method_3_code 20 = .ok (.aload_n 0, 1) := by decide +kernel
theorem d_Hall_beginAs_21 : decode prog_6_method_3_code 21 = .ok (.getfield 15, 3) := by decide +kernel
theorem d_Hall_beginAs_24 : decode prog_6_method_3_code 24 = .ok (.iconst 0, 1) := by decide +kernel
theorem d_Hall_beginAs_25 : decode prog_6_method_3_code 25 = .ok (.bipush 8, 2) := by decide +kernel
theorem d_Hall_beginAs_27 : decode prog_6_method_3_code 27 = .ok (.invokestatic 62, 3) := by decide +kernel
theorem d_Hall_beginAs_30 : decode prog_6_method_3_code 30 = .ok (.aload_n 1, 1) := by decide +kernel
theorem d_Hall_beginAs_31 : decode prog_6_method_3_code 31 = .ok (.getfield 18, 3) := by decide +kernel
theorem d_Hall_beginAs_34 : decode prog_6_method_3_code 34 = .ok (.iconst 0, 1) := by decide +kernel
theorem d_Hall_beginAs_35 : decode prog_6_method_3_code 35 = .ok (.aload_n 0, 1) := by decide +kernel
theorem d_Hall_beginAs_36 : decode prog_6_method_3_code 36 = .ok (.getfield 18, 3) := by decide +kernel
theorem d_Hall_beginAs_39 : decode prog_6_method_3_code 39 = .ok (.iconst 0, 1) := by decide +kernel
theorem d_Hall_beginAs_40 : decode prog_6_method_3_code 40 = .ok (.bipush 8, 2) := by decide +kernel
theorem d_Hall_beginAs_42 : decode prog_6_method_3_code 42 = .ok (.invokestatic 62, 3) := by decide +kernel
theorem d_Hall_beginAs_45 : decode prog_6_method_3_code 45 = .ok (.aload_n 1, 1) := by decide +kernel
theorem d_Hall_beginAs_46 : decode prog_6_method_3_code 46 = .ok (.getfield 21, 3) := by decide +kernel
theorem d_Hall_beginAs_49 : decode prog_6_method_3_code 49 = .ok (.iconst 0, 1) := by decide +kernel
theorem d_Hall_beginAs_50 : decode prog_6_method_3_code 50 = .ok (.aload_n 0, 1) := by decide +kernel
theorem d_Hall_beginAs_51 : decode prog_6_method_3_code 51 = .ok (.getfield 21, 3) := by decide +kernel
theorem d_Hall_beginAs_54 : decode prog_6_method_3_code 54 = .ok (.iconst 0, 1) := by decide +kernel
theorem d_Hall_beginAs_55 : decode prog_6_method_3_code 55 = .ok (.bipush 8, 2) := by decide +kernel
theorem d_Hall_beginAs_57 : decode prog_6_method_3_code 57 = .ok (.invokestatic 62, 3) := by decide +kernel
theorem d_Hall_beginAs_60 : decode prog_6_method_3_code 60 = .ok (.aload_n 1, 1) := by decide +kernel
theorem d_Hall_beginAs_61 : decode prog_6_method_3_code 61 = .ok (.getfield 24, 3) := by decide +kernel
theorem d_Hall_beginAs_64 : decode prog_6_method_3_code 64 = .ok (.iconst 0, 1) := by decide +kernel
theorem d_Hall_beginAs_65 : decode prog_6_method_3_code 65 = .ok (.aload_n 0, 1) := by decide +kernel
theorem d_Hall_beginAs_66 : decode prog_6_method_3_code 66 = .ok (.getfield 24, 3) := by decide +kernel
theorem d_Hall_beginAs_69 : decode prog_6_method_3_code 69 = .ok (.iconst 0, 1) := by decide +kernel
theorem d_Hall_beginAs_70 : decode prog_6_method_3_code 70 = .ok (.bipush 8, 2) := by decide +kernel
theorem d_Hall_beginAs_72 : decode prog_6_method_3_code 72 = .ok (.invokestatic 62, 3) := by decide +kernel
theorem d_Hall_beginAs_75 : decode prog_6_method_3_code 75 = .ok (.aload_n 1, 1) := by decide +kernel
theorem d_Hall_beginAs_76 : decode prog_6_method_3_code 76 = .ok (.getfield 27, 3) := by decide +kernel
theorem d_Hall_beginAs_79 : decode prog_6_method_3_code 79 = .ok (.iconst 0, 1) := by decide +kernel
theorem d_Hall_beginAs_80 : decode prog_6_method_3_code 80 = .ok (.aload_n 0, 1) := by decide +kernel
theorem d_Hall_beginAs_81 : decode prog_6_method_3_code 81 = .ok (.getfield 27, 3) := by decide +kernel
theorem d_Hall_beginAs_84 : decode prog_6_method_3_code 84 = .ok (.iconst 0, 1) := by decide +kernel
theorem d_Hall_beginAs_85 : decode prog_6_method_3_code 85 = .ok (.bipush 8, 2) := by decide +kernel
theorem d_Hall_beginAs_87 : decode prog_6_method_3_code 87 = .ok (.invokestatic 62, 3) := by decide +kernel
theorem d_Hall_beginAs_90 : decode prog_6_method_3_code 90 = .ok (.aload_n 1, 1) := by decide +kernel
theorem d_Hall_beginAs_91 : decode prog_6_method_3_code 91 = .ok (.getfield 30, 3) := by decide +kernel
theorem d_Hall_beginAs_94 : decode prog_6_method_3_code 94 = .ok (.iconst 0, 1) := by decide +kernel
theorem d_Hall_beginAs_95 : decode prog_6_method_3_code 95 = .ok (.aload_n 0, 1) := by decide +kernel
theorem d_Hall_beginAs_96 : decode prog_6_method_3_code 96 = .ok (.getfield 30, 3) := by decide +kernel
theorem d_Hall_beginAs_99 : decode prog_6_method_3_code 99 = .ok (.iconst 0, 1) := by decide +kernel
theorem d_Hall_beginAs_100 : decode prog_6_method_3_code 100 = .ok (.bipush 8, 2) := by decide +kernel
theorem d_Hall_beginAs_102 : decode prog_6_method_3_code 102 = .ok (.invokestatic 62, 3) := by decide +kernel
theorem d_Hall_beginAs_105 : decode prog_6_method_3_code 105 = .ok (.aload_n 0, 1) := by decide +kernel
theorem d_Hall_beginAs_106 : decode prog_6_method_3_code 106 = .ok (.aload_n 1, 1) := by decide +kernel
theorem d_Hall_beginAs_107 : decode prog_6_method_3_code 107 = .ok (.getfield 33, 3) := by decide +kernel
theorem d_Hall_beginAs_110 : decode prog_6_method_3_code 110 = .ok (.putfield 33, 3) := by decide +kernel
theorem d_Hall_beginAs_113 : decode prog_6_method_3_code 113 = .ok (.aload_n 0, 1) := by decide +kernel
theorem d_Hall_beginAs_114 : decode prog_6_method_3_code 114 = .ok (.aload_n 1, 1) := by decide +kernel
theorem d_Hall_beginAs_115 : decode prog_6_method_3_code 115 = .ok (.getfield 37, 3) := by decide +kernel
theorem d_Hall_beginAs_118 : decode prog_6_method_3_code 118 = .ok (.putfield 37, 3) := by decide +kernel
theorem d_Hall_beginAs_121 : decode prog_6_method_3_code 121 = .ok (.aload_n 0, 1) := by decide +kernel
theorem d_Hall_beginAs_122 : decode prog_6_method_3_code 122 = .ok (.aload_n 1, 1) := by decide +kernel
theorem d_Hall_beginAs_123 : decode prog_6_method_3_code 123 = .ok (.getfield 43, 3) := by decide +kernel
theorem d_Hall_beginAs_126 : decode prog_6_method_3_code 126 = .ok (.putfield 43, 3) := by decide +kernel
theorem d_Hall_beginAs_129 : decode prog_6_method_3_code 129 = .ok (.return_, 1) := by decide +kernel
def s_Hall_beginAs (h : Nat) (p0 : Nat) (σ : LH) : Option (LH) :=
  xl ((stF σ (h + 1) (va_cpy (σ.1 (p0 + 1)) (σ.1 (h + 1)) (Int32.toNatClampNeg 0) (Int32.toNatClampNeg 0) (Int32.toNatClampNeg 8))) : LH) fun σ1 =>
  xl ((stF σ1 (h + 2) (va_cpy (σ1.1 (p0 + 2)) (σ1.1 (h + 2)) (Int32.toNatClampNeg 0) (Int32.toNatClampNeg 0) (Int32.toNatClampNeg 8))) : LH) fun σ2 =>
  xl ((stF σ2 (h + 3) (va_cpy (σ2.1 (p0 + 3)) (σ2.1 (h + 3)) (Int32.toNatClampNeg 0) (Int32.toNatClampNeg 0) (Int32.toNatClampNeg 8))) : LH) fun σ3 =>
  xl ((stF σ3 (h + 4) (va_cpy (σ3.1 (p0 + 4)) (σ3.1 (h + 4)) (Int32.toNatClampNeg 0) (Int32.toNatClampNeg 0) (Int32.toNatClampNeg 8))) : LH) fun σ4 =>
  xl ((stF σ4 (h + 5) (va_cpy (σ4.1 (p0 + 5)) (σ4.1 (h + 5)) (Int32.toNatClampNeg 0) (Int32.toNatClampNeg 0) (Int32.toNatClampNeg 8))) : LH) fun σ5 =>
  xl ((stF σ5 (h + 6) (va_cpy (σ5.1 (p0 + 6)) (σ5.1 (h + 6)) (Int32.toNatClampNeg 0) (Int32.toNatClampNeg 0) (Int32.toNatClampNeg 8))) : LH) fun σ6 =>
  xl ((stF σ6 (h + 7) (va_cpy (σ6.1 (p0 + 7)) (σ6.1 (h + 7)) (Int32.toNatClampNeg 0) (Int32.toNatClampNeg 0) (Int32.toNatClampNeg 8))) : LH) fun σ7 =>
  xl ((stI σ7 h 7 (σ7.1 p0 7)) : LH) fun σ8 =>
  xl ((stI σ8 h 8 (σ8.1 p0 8)) : LH) fun σ9 =>
  xl ((stI σ9 h 10 (σ9.1 p0 10)) : LH) fun σ10 =>
  some σ10
theorem c_Hall_beginAs {G : XG} {l : Launch} {d : Nat} (hd : 2 ≤ d) {h : Nat} {p0 : Nat} (hh : h ∈ xHalls) (hp0 : p0 ∈ xHalls) {σ σ' : LH} (h0 : s_Hall_beginAs h p0 σ = some σ') : xM G 1 570 l y_Hall_beginAs prog_6_method_3_code 2 none d [.ref (G.2.2.1 + h), .ref (G.2.2.1 + p0)] σ none σ' := by
  obtain ⟨d, rfl⟩ : ∃ q, d = q + 1 := ⟨d - 1, by omega⟩
  refine x_met R_Hall rfl (by decide +kernel) (Nat.le_of_ble_eq_true rfl) fun p e s m below meth c C hr hk hR => ?_
  refine x_lv (lv' := [(0, .ref (G.2.2.1 + h)), (1, .ref (G.2.2.1 + p0))]) C [0, 1] rfl ?_
  generalize xrm (d + 1) = R at hR ⊢
  unfold s_Hall_beginAs at h0
  refine x_aload_n C d_Hall_beginAs_0 1 rfl ?_
  refine x_getR (y := 1) C fg_Hall_9 (hl_0 hp0) rfl d_Hall_beginAs_1 ?_
  refine x_iconst (v := 0) C d_Hall_beginAs_4 (by decide) ?_
  refine x_aload_n C d_Hall_beginAs_5 0 rfl ?_
  refine x_getR (y := 1) C fg_Hall_9 (hl_0 hh) rfl d_Hall_beginAs_6 ?_
  refine x_iconst (v := 0) C d_Hall_beginAs_9 (by decide) ?_
  refine x_bipush (v := 8) C d_Hall_beginAs_10 (by decide) ?_
  refine x_copyi C (hl_1 hp0) (hl_1 hh) (xroom1 hR) w_1012 w_1014 w_1013 w_131 (by decide) (by decide) (by decide) (by decide) (by decide) (Nat.le_of_ble_eq_true rfl) d_Hall_beginAs_12 ?_
  obtain ⟨σ1, eσ1, h0⟩ := xlet h0
  refine x_sig C eσ1 ?_
  refine x_aload_n C d_Hall_beginAs_15 1 rfl ?_
  refine x_getR (y := 2) C fg_Hall_15 (hl_0 hp0) rfl d_Hall_beginAs_16 ?_
  refine x_iconst (v := 0) C d_Hall_beginAs_19 (by decide) ?_
  refine x_aload_n C d_Hall_beginAs_20 0 rfl ?_
  refine x_getR (y := 2) C fg_Hall_15 (hl_0 hh) rfl d_Hall_beginAs_21 ?_
  refine x_iconst (v := 0) C d_Hall_beginAs_24 (by decide) ?_
  refine x_bipush (v := 8) C d_Hall_beginAs_25 (by decide) ?_
  refine x_copyi C (hl_2 hp0) (hl_2 hh) (xroom1 hR) w_1012 w_1014 w_1013 w_131 (by decide) (by decide) (by decide) (by decide) (by decide) (Nat.le_of_ble_eq_true rfl) d_Hall_beginAs_27 ?_
  obtain ⟨σ2, eσ2, h0⟩ := xlet h0
  refine x_sig C eσ2 ?_
  refine x_aload_n C d_Hall_beginAs_30 1 rfl ?_
  refine x_getR (y := 3) C fg_Hall_18 (hl_0 hp0) rfl d_Hall_beginAs_31 ?_
  refine x_iconst (v := 0) C d_Hall_beginAs_34 (by decide) ?_
  refine x_aload_n C d_Hall_beginAs_35 0 rfl ?_
  refine x_getR (y := 3) C fg_Hall_18 (hl_0 hh) rfl d_Hall_beginAs_36 ?_
  refine x_iconst (v := 0) C d_Hall_beginAs_39 (by decide) ?_
  refine x_bipush (v := 8) C d_Hall_beginAs_40 (by decide) ?_
  refine x_copyi C (hl_3 hp0) (hl_3 hh) (xroom1 hR) w_1012 w_1014 w_1013 w_131 (by decide) (by decide) (by decide) (by decide) (by decide) (Nat.le_of_ble_eq_true rfl) d_Hall_beginAs_42 ?_
  obtain ⟨σ3, eσ3, h0⟩ := xlet h0
  refine x_sig C eσ3 ?_
  refine x_aload_n C d_Hall_beginAs_45 1 rfl ?_
  refine x_getR (y := 4) C fg_Hall_21 (hl_0 hp0) rfl d_Hall_beginAs_46 ?_
  refine x_iconst (v := 0) C d_Hall_beginAs_49 (by decide) ?_
  refine x_aload_n C d_Hall_beginAs_50 0 rfl ?_
  refine x_getR (y := 4) C fg_Hall_21 (hl_0 hh) rfl d_Hall_beginAs_51 ?_
  refine x_iconst (v := 0) C d_Hall_beginAs_54 (by decide) ?_
  refine x_bipush (v := 8) C d_Hall_beginAs_55 (by decide) ?_
  refine x_copyi C (hl_4 hp0) (hl_4 hh) (xroom1 hR) w_1012 w_1014 w_1013 w_131 (by decide) (by decide) (by decide) (by decide) (by decide) (Nat.le_of_ble_eq_true rfl) d_Hall_beginAs_57 ?_
  obtain ⟨σ4, eσ4, h0⟩ := xlet h0
  refine x_sig C eσ4 ?_
  refine x_aload_n C d_Hall_beginAs_60 1 rfl ?_
  refine x_getR (y := 5) C fg_Hall_24 (hl_0 hp0) rfl d_Hall_beginAs_61 ?_
  refine x_iconst (v := 0) C d_Hall_beginAs_64 (by decide) ?_
  refine x_aload_n C d_Hall_beginAs_65 0 rfl ?_
  refine x_getR (y := 5) C fg_Hall_24 (hl_0 hh) rfl d_Hall_beginAs_66 ?_
  refine x_iconst (v := 0) C d_Hall_beginAs_69 (by decide) ?_
  refine x_bipush (v := 8) C d_Hall_beginAs_70 (by decide) ?_
  refine x_copyi C (hl_5 hp0) (hl_5 hh) (xroom1 hR) w_1012 w_1014 w_1013 w_131 (by decide) (by decide) (by decide) (by decide) (by decide) (Nat.le_of_ble_eq_true rfl) d_Hall_beginAs_72 ?_
  obtain ⟨σ5, eσ5, h0⟩ := xlet h0
  refine x_sig C eσ5 ?_
  refine x_aload_n C d_Hall_beginAs_75 1 rfl ?_
  refine x_getR (y := 6) C fg_Hall_27 (hl_0 hp0) rfl d_Hall_beginAs_76 ?_
  refine x_iconst (v := 0) C d_Hall_beginAs_79 (by decide) ?_
  refine x_aload_n C d_Hall_beginAs_80 0 rfl ?_
  refine x_getR (y := 6) C fg_Hall_27 (hl_0 hh) rfl d_Hall_beginAs_81 ?_
  refine x_iconst (v := 0) C d_Hall_beginAs_84 (by decide) ?_
  refine x_bipush (v := 8) C d_Hall_beginAs_85 (by decide) ?_
  refine x_copyi C (hl_6 hp0) (hl_6 hh) (xroom1 hR) w_1012 w_1014 w_1013 w_131 (by decide) (by decide) (by decide) (by decide) (by decide) (Nat.le_of_ble_eq_true rfl) d_Hall_beginAs_87 ?_
  obtain ⟨σ6, eσ6, h0⟩ := xlet h0
  refine x_sig C eσ6 ?_
  refine x_aload_n C d_Hall_beginAs_90 1 rfl ?_
  refine x_getR (y := 7) C fg_Hall_30 (hl_0 hp0) rfl d_Hall_beginAs_91 ?_
  refine x_iconst (v := 0) C d_Hall_beginAs_94 (by decide) ?_
  refine x_aload_n C d_Hall_beginAs_95 0 rfl ?_
  refine x_getR (y := 7) C fg_Hall_30 (hl_0 hh) rfl d_Hall_beginAs_96 ?_
  refine x_iconst (v := 0) C d_Hall_beginAs_99 (by decide) ?_
  refine x_bipush (v := 8) C d_Hall_beginAs_100 (by decide) ?_
  refine x_copyi C (hl_7 hp0) (hl_7 hh) (xroom1 hR) w_1012 w_1014 w_1013 w_131 (by decide) (by decide) (by decide) (by decide) (by decide) (Nat.le_of_ble_eq_true rfl) d_Hall_beginAs_102 ?_
  obtain ⟨σ7, eσ7, h0⟩ := xlet h0
  refine x_sig C eσ7 ?_
  refine x_aload_n C d_Hall_beginAs_105 0 rfl ?_
  refine x_aload_n C d_Hall_beginAs_106 1 rfl ?_
  refine x_getI (y := 0) C fg_Hall_33 (hl_0 hp0) rfl d_Hall_beginAs_107 ?_
  refine x_putI (y := 0) C fp_Hall_33 (hl_0 hh) rfl rfl rfl d_Hall_beginAs_110 ?_
  obtain ⟨σ8, eσ8, h0⟩ := xlet h0
  refine x_sig C eσ8 ?_
  refine x_aload_n C d_Hall_beginAs_113 0 rfl ?_
  refine x_aload_n C d_Hall_beginAs_114 1 rfl ?_
  refine x_getI (y := 0) C fg_Hall_37 (hl_0 hp0) rfl d_Hall_beginAs_115 ?_
  refine x_putI (y := 0) C fp_Hall_37 (hl_0 hh) rfl rfl rfl d_Hall_beginAs_118 ?_
  obtain ⟨σ9, eσ9, h0⟩ := xlet h0
  refine x_sig C eσ9 ?_
  refine x_aload_n C d_Hall_beginAs_121 0 rfl ?_
  refine x_aload_n C d_Hall_beginAs_122 1 rfl ?_
  refine x_getI (y := 0) C fg_Hall_43 (hl_0 hp0) rfl d_Hall_beginAs_123 ?_
  refine x_putI (y := 0) C fp_Hall_43 (hl_0 hh) rfl rfl rfl d_Hall_beginAs_126 ?_
  obtain ⟨σ10, eσ10, h0⟩ := xlet h0
  refine x_sig C eσ10 ?_
  exact x_vret C hr hk h0 d_Hall_beginAs_129
-- LostPlaces$Hall.copyFrom(LLostPlaces$Hall;)V
theorem d_Hall_copyFrom_0 : decode prog_6_method_4_code 0 = .ok (.aload_n 0, 1) := by decide +kernel
theorem d_Hall_copyFrom_1 : decode prog_6_method_4_code 1 = .ok (.aload_n 1, 1) := by decide +kernel
theorem d_Hall_copyFrom_2 : decode prog_6_method_4_code 2 = .ok (.invokevirtual 68, 3) := by decide +kernel
theorem d_Hall_copyFrom_5 : decode prog_6_method_4_code 5 = .ok (.aload_n 1, 1) := by decide +kernel
theorem d_Hall_copyFrom_6 : decode prog_6_method_4_code 6 = .ok (.getfield 40, 3) := by decide +kernel
theorem d_Hall_copyFrom_9 : decode prog_6_method_4_code 9 = .ok (.iconst 0, 1) := by decide +kernel
theorem d_Hall_copyFrom_10 : decode prog_6_method_4_code 10 = .ok (.aload_n 0, 1) := by decide +kernel
theorem d_Hall_copyFrom_11 : decode prog_6_method_4_code 11 = .ok (.getfield 40, 3) := by decide +kernel
theorem d_Hall_copyFrom_14 : decode prog_6_method_4_code 14 = .ok (.iconst 0, 1) := by decide +kernel
theorem d_Hall_copyFrom_15 : decode prog_6_method_4_code 15 = .ok (.sipush 240, 3) := by decide +kernel
theorem d_Hall_copyFrom_18 : decode prog_6_method_4_code 18 = .ok (.invokestatic 62, 3) := by decide +kernel
theorem d_Hall_copyFrom_21 : decode prog_6_method_4_code 21 = .ok (.return_, 1) := by decide +kernel
def s_Hall_copyFrom (h : Nat) (p0 : Nat) (σ : LH) : Option (LH) :=
  xb1 (s_Hall_beginAs h p0 σ) fun σ2 =>
  xl ((stF σ2 (h + 8) (va_cpy (σ2.1 (p0 + 8)) (σ2.1 (h + 8)) (Int32.toNatClampNeg 0) (Int32.toNatClampNeg 0) (Int32.toNatClampNeg 240))) : LH) fun σ3 =>
  some σ3
theorem c_Hall_copyFrom {G : XG} {l : Launch} {d : Nat} (hd : 3 ≤ d) {h : Nat} {p0 : Nat} (hh : h ∈ xHalls) (hp0 : p0 ∈ xHalls) {σ σ' : LH} (h0 : s_Hall_copyFrom h p0 σ = some σ') : xM G 1 570 l y_Hall_copyFrom prog_6_method_4_code 2 none d [.ref (G.2.2.1 + h), .ref (G.2.2.1 + p0)] σ none σ' := by
  obtain ⟨d, rfl⟩ : ∃ q, d = q + 1 := ⟨d - 1, by omega⟩
  refine x_met R_Hall rfl (by decide +kernel) (Nat.le_of_ble_eq_true rfl) fun p e s m below meth c C hr hk hR => ?_
  refine x_lv (lv' := [(0, .ref (G.2.2.1 + h)), (1, .ref (G.2.2.1 + p0))]) C [0, 1] rfl ?_
  generalize xrm (d + 1) = R at hR ⊢
  unfold s_Hall_copyFrom at h0
  refine x_aload_n C d_Hall_copyFrom_0 0 rfl ?_
  refine x_aload_n C d_Hall_copyFrom_1 1 rfl ?_
  obtain ⟨σ2, k1, h0⟩ := xbind1 h0
  refine x_callVv C hR (c_Hall_beginAs (d := d) (by omega) hh hp0 k1) cw_Hall_68 (hl_0 hh) rfl rfl rfl (Nat.le_of_ble_eq_true rfl) ⟨Nat.zero_le _, Nat.zero_le _⟩ d_Hall_copyFrom_2 ?_
  refine x_aload_n C d_Hall_copyFrom_5 1 rfl ?_
  refine x_getR (y := 8) C fg_Hall_40 (hl_0 hp0) rfl d_Hall_copyFrom_6 ?_
  refine x_iconst (v := 0) C d_Hall_copyFrom_9 (by decide) ?_
  refine x_aload_n C d_Hall_copyFrom_10 0 rfl ?_
  refine x_getR (y := 8) C fg_Hall_40 (hl_0 hh) rfl d_Hall_copyFrom_11 ?_
  refine x_iconst (v := 0) C d_Hall_copyFrom_14 (by decide) ?_
  refine x_sipush (v := 240) C d_Hall_copyFrom_15 (by decide) ?_
  refine x_copyi C (hl_8 hp0) (hl_8 hh) (xroom1 hR) w_1012 w_1014 w_1013 w_131 (by decide) (by decide) (by decide) (by decide) (by decide) (Nat.le_of_ble_eq_true rfl) d_Hall_copyFrom_18 ?_
  obtain ⟨σ3, eσ3, h0⟩ := xlet h0
  refine x_sig C eσ3 ?_
  exact x_vret C hr hk h0 d_Hall_copyFrom_21
