/-! the law's helper that catches -/
theorem dh_0 : decode method_3_code 0 = .ok (.aload_n 3, 1) := by decide +kernel
theorem dh_1 : decode method_3_code 1 = .ok (.iconst 0, 1) := by decide +kernel
theorem dh_2 : decode method_3_code 2 = .ok (.aload_n 0, 1) := by decide +kernel
theorem dh_3 : decode method_3_code 3 = .ok (.iload_n 1, 1) := by decide +kernel
theorem dh_4 : decode method_3_code 4 = .ok (.iload_n 2, 1) := by decide +kernel
theorem dh_5 : decode method_3_code 5 = .ok (.invokevirtual 7, 3) := by decide +kernel
theorem dh_8 : decode method_3_code 8 = .ok (.i2l, 1) := by decide +kernel
theorem dh_9 : decode method_3_code 9 = .ok (.lastore, 1) := by decide +kernel
theorem dh_10 : decode method_3_code 10 = .ok (.goto 7, 3) := by decide +kernel
theorem dh_13 : decode method_3_code 13 = .ok (.astore 4, 2) := by decide +kernel
theorem dh_15 : decode method_3_code 15 = .ok (.iconst 1, 1) := by decide +kernel
theorem dh_16 : decode method_3_code 16 = .ok (.ireturn, 1) := by decide +kernel
theorem dh_17 : decode method_3_code 17 = .ok (.iconst 0, 1) := by decide +kernel
theorem dh_18 : decode method_3_code 18 = .ok (.ireturn, 1) := by decide +kernel
def zQc (G : XG) (k : Int32) (σ : LwS) : Array Value → State → Outcome → State → Prop := fun _ st oc t => (oc = .returned (some (.int k)) ∧ lwW G σ t) ∧ va_F (xA G 1 599) st t
theorem l_W {G : XG} {p : Program} {s : State} {m : MethodId} {args : Array Value} {c : Code} {cc : ByteArray} {nL : Nat} {own : String} {σ : LwS} (C : XC G 1 599 p s m args c cc nL own) (hZ : zN (xA G 1 599) s s.heap) {H : Heap} {locs : List Loc} {t : State} (hP : lwH G σ H) (hS : va_S (xA G 1 599) s.heap H locs) (ht : t.heap = H) (hW : s.WarmedH t.vm) : lwW G σ t := by
  subst ht
  exact ⟨hP, va_K.moved hW.alike C.2.2.2.2.2.1, xS.warm hW (xS.kept C.2.2.2.2.2.2 hS.2.1), zN.warm hW (hZ.kept hS.2.1)⟩
theorem cx_good : GoodIn TG (Cond.code y_Main_sitter prog_1_method_10_code 3 (some .int) :: TG) := by
  intro w hw
  rcases List.mem_cons.mp hw with q | q
  · rw [q]; exact ⟨cl_7.1.2.2.1, tg_good _ cl_7.1.2.2.1⟩
  · exact ⟨q, tg_good _ q⟩
/-- the helper: 0 and the answer in the row, or 1 where the class throws -/
theorem c_Law_sitter {G : XG} {l : Launch} (hl0 : l.stackTraces = false) {p0 p1 k : Int32} {σ σ' : LwS} (h : (∃ r σ1, s_Main_sitter p0 p1 σ.1 = some (r, σ1) ∧ k = 0 ∧ σ' = (σ1, σ.2.1, vp_updL σ.2.2 0 r.toInt64)) ∨ (s_Main_sitter p0 p1 σ.1 = none ∧ k = 1 ∧ σ' = σ)) :
    Met l y_Law_sitter (Cond.codeWith y_Law_sitter method_3_code 5 (some .int) [(0, 10, 13, 13)] :: TG) (yrm 12 1 6) (va_Pc [.ref (G.2.2.1 + 1), .int p0, .int p1, .ref (G.2.2.1 + 598)] (lwW G σ)) (zQc G k σ') 1 6 (xA G 1 599) := by
  refine va_MetW (cc := method_3_code) (maxL := 5) (ret := some .int) (hh := [(0, 10, 13, 13)]) (by decide +kernel) rfl ?_
  intro p e s m args below meth c s₁ B hml hv
  obtain ⟨rfl, hH, hK, hX, hZ⟩ := hv
  have hts := atoms_spec (ws := Cond.codeWith y_Law_sitter method_3_code 5 (some .int) [(0, 10, 13, 13)] :: TG) B.pre
  have htab := vx_table (x := y_Law_sitter) B (hts _ List.mem_cons_self)
  have C : XC G 1 599 p s m #[.ref (G.2.2.1 + 1), .int p0, .int p1, .ref (G.2.2.1 + 598)] c method_3_code 5 R_Lw := ⟨B.exec, B.bytes, hml, findClass_of_methodNamed B.named, fun w hw => hts w (List.mem_cons_of_mem _ hw), hK, hX⟩
  have ht := C.2.2.2.2.1
  have hl := lv_entry [.ref (G.2.2.1 + 1), .int p0, .int p1, .ref (G.2.2.1 + 598)] (n := 5) (Nat.le_of_ble_eq_true rfl)
  rw [lg_entry_eq]
  generalize hQ : MQ below (zQc G k σ') #[.ref (G.2.2.1 + 1), .int p0, .int p1, .ref (G.2.2.1 + 598)] s 1 6 (xA G 1 599) = Q
  refine (?_ : LJ G p l e (yrm 12 1 6) s m #[.ref (G.2.2.1 + 1), .int p0, .int p1, .ref (G.2.2.1 + 598)] below meth c 5 Q 0 0 0 (lv_args 0 [.ref (G.2.2.1 + 1), .int p0, .int p1, .ref (G.2.2.1 + 598)]) [] σ) s.heap [] _ hl hH va_S.rf
  refine l_lv (lv' := [(0, .ref (G.2.2.1 + 1)), (1, .int p0), (2, .int p1), (3, .ref (G.2.2.1 + 598))]) C [0, 1, 2, 3] rfl ?_
  refine l_aload_n C dh_0 3 rfl ?_
  refine l_iconst (v := 0) C dh_1 (by decide) ?_
  refine l_aload_n C dh_2 0 rfl ?_
  refine l_iload_n C dh_3 1 rfl ?_
  refine l_iload_n C dh_4 2 rfl ?_
  rcases h with ⟨r, σ1, h0, rfl, rfl⟩ | ⟨h0, rfl, rfl⟩
  · refine l_callC (d := 8) C ⟨by decide, by decide⟩ (c_Main_sitter (d := 8) (by omega) h0) cl_7 rfl rfl rfl (Nat.le_of_ble_eq_true rfl) ⟨Nat.zero_le _, Nat.zero_le _⟩ dh_5 ?_
    refine l_i2l C dh_8 ?_
    refine l_last C ((show vp_in 0 1 from ib_in (by decide))) dh_9 ?_
    refine l_goto C 17 dh_10 (by decide) ?_
    refine l_iconst (v := 0) C dh_17 (by decide) ?_
    intro H locs ls hl2 hP hS
    subst hQ
    refine W.widen (k := 1) (n := 6) (by decide) (by decide) ?_
    exact W.iret C.1 C.2.1 B.returns (fun t ht2 hW => ⟨⟨rfl, l_W C hZ hP hS ht2 hW⟩, hS.F ht2⟩) hS.2.2 dh_18 B.notSynchronized
  · intro H locs ls hl2 hP hS
    obtain ⟨r0, g1, cell, q1, q2, q3, q4⟩ := (xP_cell hP.1 k_1 rfl) 0 _ rfl
    obtain ⟨hSl, hfc, -⟩ := C.2.2.2.2.2.1.1 0 _ rfl
    have hr := vx_runV (p := p) (l := l) (e := e) (R := yrm 12 1 6) (below := below) (meth := meth) (H := H) (locs := locs) (cells := 0) (slots := 0) (g := F0 m 5 ls [.int p1, .int p0, .ref (G.2.2.1 + 1), .int 0, .ref (G.2.2.1 + 598)]) (As := [.int p0, .int p1]) (rest := [.int 0, .ref (G.2.2.1 + 598)]) (C := R_Main) (b := G.2.2.1 + 1) ⟨C.1, C.2.1, C.2.2.1, C.2.2.2.1, ht⟩ (cx_Main_sitter (G := G) hl0 h0 (fun _ _ _ _ => False)) ⟨callB_of 2 ht cx_good rfl rfl rfl (ht _ cl_7.1.2.1) (ht _ cl_7.1.1) cl_7.1.2.2.2.1 ⟨by decide, by decide⟩, ht _ cl_7.2.1, ht _ cl_7.2.2⟩ ⟨zW.blind, ⟨cell, q1, by rw [q3]; rfl, by rw [q2]; exact hfc⟩, fun U hU hW2 => ⟨rfl, by subst hU; exact ⟨(l_world C hP hS rfl hW2).1, zN.warm hW2 ((hZ.kept hS.2.1).narrow fun q => xA_1)⟩⟩⟩ rfl rfl hl2.1 rfl (Nat.le_of_ble_eq_true rfl) dh_5 ⟨by decide, by decide⟩
    intro T hT X
    rcases hr T hT X with ⟨v, st₀, t, T', L, g0, X', hL, e1, e2, hf, stp⟩ | ⟨q, st₀, t, T', L, E, ce, g0, X', hL, e1, e2, ⟨rfl, hx1, hF⟩, hce, hcv, hcl, stp⟩
    · exact absurd hf id
    · have hF2 := hF
      unfold va_F at hF2
      rw [g0, ← e1] at hF2
      have hS2 := l_keep (L := L) hS (fun q => xA_1) hF2.1 hF2.2 hL
      have hP2 : lwH G σ' T'.heap := l_mixC hP (by rw [e1]; exact hx1) hP.2.1 hF2.2
      have hk : W p l e (yrm 12 1 6) s m #[.ref (G.2.2.1 + 1), .int p0, .int p1, .ref (G.2.2.1 + 598)] below meth c T'.heap (locs ++ L) (0 + 1) (0 + 6) Q (F0 m 13 ls [.ref q]) := by
        refine lv_astore C.1 C.2.1 dh_13 hl2 (by decide) rfl fun ls2 hl3 => ?_
        refine lv_iconst C.1 C.2.1 dh_15 (by decide : Int32.ofInt 1 = 1) ?_
        subst hQ
        exact W.iret C.1 C.2.1 B.returns (fun t2 ht2 hW => ⟨⟨rfl, l_W C hZ hP2 hS2 ht2 hW⟩, hS2.F ht2⟩) hS2.2.2 dh_16 B.notSynchronized
      have hcast : (Cond.castable zE zE).before #[.ref (G.2.2.1 + 1), .int p0, .int p1, .ref (G.2.2.1 + 598)] s = true := va_Nw.use (by decide +kernel) (hZ.2.2 _ (by simp [zNb]))
      have hw : vx_W p l e (yrm 12 1 6) s m #[.ref (G.2.2.1 + 1), .int p0, .int p1, .ref (G.2.2.1 + 598)] below meth c T'.heap (locs ++ L) (0 + 1) (0 + 6) Q (F0 m 5 ls [.int 0, .ref (G.2.2.1 + 598)]) q :=
        vx_catch (E := zE) (name := zE) C.2.2.2.1 [] { startPc := 0, endPc := 10, handlerPc := 13, catchType := 13 } [] (by rw [htab]; rfl) (fun z hz => nomatch hz) (by decide) (by decide) (ht _ wl_1411) hcast (by rw [e1]; exact hce) hcv hcl hk
      obtain ⟨t2, a1, b1⟩ := hw T' rfl X'
      exact ⟨t2, stp.trans a1, b1⟩
