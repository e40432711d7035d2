/-! sitter that throws: LostPlaces.sitter where nothing is told by that number -/
def zE : String := "java/util/NoSuchElementException"
def zAl : List Cond := zx_atoms "LostPlaces" 193 zE 13 prog_29_method_4_code "java/lang/RuntimeException" ["java/lang/Exception"]
def zAt : List Cond := zAl.filter vx_no
def zNb : List Cond := [.declares ⟨"java/lang/RuntimeException", "<init>", "(Ljava/lang/String;)V"⟩, .declares ⟨"java/lang/Exception", "<init>", "(Ljava/lang/String;)V"⟩, .declares ⟨"java/lang/Throwable", "<init>", "(Ljava/lang/String;)V"⟩, .castable zE zE]
theorem zAt_good : ∀ w ∈ zAt.filter goodWord, w ∈ TG := tg_sub [127, 1438, 1447, 1449, 1452, 1454, 1439, 1440, 138, 139, 1441, 1446, 1450, 1470, 1428, 1471, 1430, 1472, 1432, 1442, 1444, 1434, 1466, 1467, 1469, 1434, 1457, 1458, 1459, 1460, 1460, 1461, 1462, 1463, 1463, 1464, 1465, 1466, 1456, 1417, 1425, 1426, 1427, 1429, 1431, 1433, 1437, 1436, 1435] (by decide +kernel) (by decide +kernel)
theorem zAt_bad : ∀ w ∈ zAt.filter (fun w => !goodWord w), w ∈ zNb := by decide +kernel
theorem zAt_ot : ∀ w ∈ Cond.classLink "LostPlaces" 189 zE :: Cond.initialized zE :: zAt, vx_ot w = true := by decide +kernel
/-- what an exception's making needs of the state: two statics of Throwable, four words of the tables -/
def zN (A : Nat → Prop) (U : State) (H : Heap) : Prop := vx_Zq Bundle.tN "UNASSIGNED_STACK" Bundle.steD A U H ∧ vx_Zq Bundle.tN "SUPPRESSED_SENTINEL" Bundle.listD A U H ∧ ∀ w ∈ zNb, va_Nw w U
theorem zN.kept {A : Nat → Prop} {U : State} {H H1 : Heap} (h : zN A U H) (hq : ∀ a : Nat, a < H.size → ¬ A a → H1[a]? = H[a]?) : zN A U H1 := ⟨h.1.kept hq, h.2.1.kept hq, h.2.2⟩
theorem zN.narrow {A B : Nat → Prop} {U : State} {H : Heap} (h : zN A U H) (hAB : ∀ q, B q → A q) : zN B U H := ⟨h.1.narrow hAB, h.2.1.narrow hAB, h.2.2⟩
theorem zNb_warm {s U : State} (hW : s.WarmedH U.vm) (h : ∀ w ∈ zNb, va_Nw w s) : ∀ w ∈ zNb, va_Nw w U := by
  intro w hw
  have h0 := h w hw
  simp only [zNb, List.mem_cons, List.not_mem_nil, or_false] at hw
  rcases hw with rfl | rfl | rfl | rfl
  · exact va_Nw.warmD hW h0
  · exact va_Nw.warmD hW h0
  · exact va_Nw.warmD hW h0
  · exact va_Nw.warmC hW h0
theorem zN.warm {A : Nat → Prop} {s U : State} {H : Heap} (hW : s.WarmedH U.vm) (h : zN A s H) : zN A U H := ⟨h.1.moved hW.alike, h.2.1.moved hW.alike, zNb_warm hW h.2.2⟩
theorem zNb_ot : ∀ w ∈ zNb, w.onTables = true := by decide +kernel
theorem zN.same {A : Nat → Prop} {u U : State} {H : Heap} (hv : U.vm = u.vm) (h : zN A u H) : zN A U H := by
  have ha : u.vm.Alike U.vm := by rw [hv]; exact Vm.Alike.refl _
  exact ⟨h.1.moved ha, h.2.1.moved ha, fun w hw => va_Nw.same (zNb_ot w hw) hv.symm (h.2.2 w hw)⟩
theorem zAt_all {A : Nat → Prop} {s : State} {H : Heap} {args : Array Value} (ht : ∀ w ∈ TG, w.before args s = true) (h : zN A s H) : ∀ w ∈ zAt, w.before args s = true := by
  intro w hw
  by_cases hg : goodWord w = true
  · exact ht w (zAt_good w (List.mem_filter.mpr ⟨hw, hg⟩))
  · have hb := zAt_bad w (List.mem_filter.mpr ⟨hw, by simpa using hg⟩)
    exact va_Nw.use (zNb_ot w hb) (h.2.2 w hb)
theorem zw_189 : Cond.classLink "LostPlaces" 189 zE ∈ TG := tg_in 1416 (by decide +kernel) rfl
theorem zw_ini : Cond.initialized zE ∈ TG := by
  refine List.mem_filter.mpr ⟨?_, rfl⟩
  decide +kernel
/-- the state at a call of it -/
def zW (G : XG) (σ : LH) (U : State) : Prop := xW G 1 570 σ U ∧ zN (xA G 1 570) U U.heap
theorem zW.blind {G : XG} {σ : LH} {As : List Value} : FrameBlind (va_Pc As (zW G σ)) := fun a U g mk q => ⟨q.1, (xW.blind a U g mk ⟨q.1, q.2.1⟩).2, zN.same (u := U) (U := U.calling g mk a) rfl q.2.2⟩
/-- where it throws -/
def zX (G : XG) (σ : LH) : String → State → State → Prop := fun E st t => E = zE ∧ xP G 1 570 σ t.heap ∧ va_F (xA G 1 570) st t
theorem sit_isS {x : Int32} {σ : LH} : ∃ r, s_Main_isSitter x σ = some (r, σ) ∧ (r ≠ 0 → ib x 8) := by
  unfold s_Main_isSitter s_Main_isSitter_25 s_Main_isSitter_26
  by_cases h1 : x < 0
  · exact ⟨0, by rw [if_pos h1]; simp [zb], fun h => absurd rfl h⟩
  · rw [if_neg h1]
    by_cases h2 : σ.1 4 1 ≤ x
    · exact ⟨0, by rw [if_pos h2]; simp [zb], fun h => absurd rfl h⟩
    · rw [if_neg h2]
      by_cases h3 : 8 ≤ x
      · exact ⟨0, by rw [if_pos h3]; simp [zb], fun h => absurd rfl h⟩
      · refine ⟨1, by rw [if_neg h3]; simp [zb], fun _ => ?_⟩
        have e1 := Int32.not_lt.mp h1
        have e2 := Int32.not_le.mp h3
        rw [Int32.le_iff_toInt_le] at e1
        rw [Int32.lt_iff_toInt_lt] at e2
        have e0 : (0 : Int32).toInt = 0 := rfl
        have e8 : (8 : Int32).toInt = 8 := rfl
        exact ⟨by omega, by omega⟩
theorem sit_none {x y : Int32} {σ : LH} (h : s_Main_sitter x y σ = none) : ∃ r, s_Main_isSitter x σ = some (r, σ) ∧ (r = 0 ∨ y < 0 ∨ ¬ y ≤ 5) := by
  obtain ⟨r, h1, h2⟩ := @sit_isS x σ
  refine ⟨r, h1, ?_⟩
  by_cases g1 : r = 0
  · exact Or.inl g1
  · by_cases g2 : y < 0
    · exact Or.inr (Or.inl g2)
    · refine Or.inr (Or.inr fun g3 => ?_)
      have g4 := h2 g1
      unfold s_Main_sitter at h
      rw [h1, xb2_so, if_neg g1, if_neg g2, if_pos g3] at h
      simp only [if_pos g4] at h
      split at h
      · cases h
      · split at h
        · cases h
        · split at h
          · cases h
          · split at h
            · cases h
            · split at h
              · cases h
              · cases h
theorem dz_Main_sitter_17 : decode prog_1_method_10_code 17 = .ok (.new 189, 3) := by decide +kernel
theorem dz_Main_sitter_20 : decode prog_1_method_10_code (17 + 3) = .ok (.dup, 1) := by decide +kernel
theorem dz_Main_sitter_21 : decode prog_1_method_10_code (17 + 4) = .ok (.ldc 191, 2) := by decide +kernel
theorem dz_Main_sitter_23 : decode prog_1_method_10_code (17 + 6) = .ok (.invokespecial 193, 3) := by decide +kernel
theorem dz_Main_sitter_26 : decode prog_1_method_10_code (17 + 9) = .ok (.athrow, 1) := by decide +kernel
theorem dx_0 : decode prog_29_method_4_code 0 = .ok (.aload_n 0, 1) := by decide +kernel
theorem dx_1 : decode prog_29_method_4_code 1 = .ok (.aload_n 1, 1) := by decide +kernel
theorem dx_2 : decode prog_29_method_4_code 2 = .ok (.invokespecial 13, 3) := by decide +kernel
theorem dx_5 : decode prog_29_method_4_code 5 = .ok (.return_, 1) := by decide +kernel
/-- the contract of sitter where it throws -/
theorem cx_Main_sitter {G : XG} {l : Launch} (hl0 : l.stackTraces = false) {p0 p1 : Int32} {σ : LH} (h0 : s_Main_sitter p0 p1 σ = none) (Qc : Array Value → State → Outcome → State → Prop) :
    vx_Met l y_Main_sitter (Cond.code y_Main_sitter prog_1_method_10_code 3 (some .int) :: TG) (yrm 10 1 6) (va_Pc [.ref (G.2.2.1 + 1), .int p0, .int p1] (zW G σ)) Qc (zX G σ) 1 6 (xA G 1 570) := by
  obtain ⟨r, hr1, hr2⟩ := sit_none h0
  refine vx_ofW (cc := prog_1_method_10_code) (maxL := 3) (ret := some .int) (by decide +kernel) rfl ?_
  intro p e s m args below meth c s₁ B hml hex hv
  obtain ⟨rfl, hW, hZ⟩ := hv
  have hts := atoms_spec (ws := Cond.code y_Main_sitter prog_1_method_10_code 3 (some .int) :: TG) B.pre
  have C : XC G 1 570 p s m #[.ref (G.2.2.1 + 1), .int p0, .int p1] c prog_1_method_10_code 3 R_Main := ⟨B.exec, B.bytes, hml, findClass_of_methodNamed B.named, fun w hw => hts w (List.mem_cons_of_mem _ hw), hW.2.2.1, hW.2.2.2⟩
  have hl := lv_entry [.ref (G.2.2.1 + 1), .int p0, .int p1] (n := 3) (Nat.le_of_ble_eq_true rfl)
  rw [lg_entry_eq]
  -- the throw itself
  have T : ∀ (lv : List (Nat × Value)), XJ G 1 570 p l e (yrm 10 1 6) s m #[.ref (G.2.2.1 + 1), .int p0, .int p1] below meth c 3 (vx_MQ below Qc (zX G σ) #[.ref (G.2.2.1 + 1), .int p0, .int p1] s 1 6 (xA G 1 570)) 0 0 17 lv [] σ := by
    intro lv H locs ls hl hP ho hS
    refine zx_makeS (A := xA G 1 570) (ik := 189) (is := 191) (ic := 193) (names := ["java/lang/Exception"]) C.1 C.2.1 hl0 dx_0 dx_1 dx_2 dx_5 (by decide +kernel) (own := "LostPlaces") (cls := zE) C.2.2.2.1 (by decide +kernel) (by decide +kernel) (C.2.2.2.2.1 _ zw_189) (C.2.2.2.2.1 _ zw_ini) (C.2.2.2.2.2.2.2.2.2.1 ("LostPlaces", 191, 8) (by decide +kernel)) (zAt_all C.2.2.2.2.1 hZ) zAt_ot hZ.1 hZ.2.1 hS (hl.1.trans C.2.2.1.symm) dz_Main_sitter_17 dz_Main_sitter_20 dz_Main_sitter_21 dz_Main_sitter_23 (by decide) (by decide) (by decide) (by decide) ?_
    intro H1 ce h1 h2 h3 h4 h5 h6
    refine vx_athrow C.1 C.2.1 dz_Main_sitter_26 (vx_out (fun x hx => absurd (hex x hx) id) B.notSynchronized h1 h2 h3 (fun t ht _ => ⟨rfl, ?_, h6.F ht⟩) h6.2.2 (Nat.le_refl _) (Nat.le_refl _))
    subst ht
    intro a g1 g2 x hx
    have g3 := hP a g1 g2 x hx
    exact va_at.kept g3 (h5 _ g3.lt)
  refine (?_ : XJ G 1 570 p l e (yrm 10 1 6) s m #[.ref (G.2.2.1 + 1), .int p0, .int p1] below meth c 3 (vx_MQ below Qc (zX G σ) #[.ref (G.2.2.1 + 1), .int p0, .int p1] s 1 6 (xA G 1 570)) 0 0 0 (lv_args 0 [.ref (G.2.2.1 + 1), .int p0, .int p1]) [] σ) s.heap [] _ hl hW.1 hW.2.1 va_S.rf
  refine x_lv (lv' := [(0, .ref (G.2.2.1 + 1)), (1, .int p0), (2, .int p1)]) C [0, 1, 2] rfl ?_
  refine x_aload_n C d_Main_sitter_0 0 rfl ?_
  refine x_iload_n C d_Main_sitter_1 1 rfl ?_
  refine x_callVi C (d := 8) ⟨by decide, by decide⟩ (c_Main_isSitter (d := 8) (by omega) hr1) cw_Main_186 k_1 rfl rfl rfl (Nat.le_of_ble_eq_true rfl) ⟨Nat.zero_le _, Nat.zero_le _⟩ d_Main_sitter_2 ?_
  refine x_if_eq C 17 d_Main_sitter_5 (by decide) (fun q4 => T _) (fun q4 => ?_)
  refine x_iload_n C d_Main_sitter_8 2 rfl ?_
  refine x_if_lt C 17 d_Main_sitter_9 (by decide) (fun q5 => T _) (fun q5 => ?_)
  refine x_iload_n C d_Main_sitter_12 2 rfl ?_
  refine x_iconst (v := 5) C d_Main_sitter_13 (by decide) ?_
  refine x_icmp_le C 27 d_Main_sitter_14 (by decide) (fun q6 => ?_) (fun q6 => T _)
  rcases hr2 with h | h | h
  · exact absurd h q4
  · exact absurd h q5
  · exact absurd q6 h
