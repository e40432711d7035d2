/-! the law from its entry: both are made, the row of one long; the loop; its end -/
theorem wf_108 : (Jvm.Cond.initialized "LostPlaces") ∈ TG := tg_in 108 (by decide +kernel) rfl
theorem wf_121 : (Jvm.Cond.initialized "LostPlacesModel") ∈ TG := tg_in 121 (by decide +kernel) rfl
theorem wf_132 : (Jvm.Cond.classLink "LostPlacesLaw" (8 : Nat) "LostPlaces") ∈ TG := tg_in 132 (by decide +kernel) rfl
theorem wf_133 : (Jvm.Cond.instantiable "LostPlaces" (20 : Nat)) ∈ TG := tg_in 133 (by decide +kernel) rfl
theorem wf_134 : (Jvm.Cond.methodLink "LostPlacesLaw" (15 : Nat) ({ cls := "LostPlaces", name := "<init>", desc := "()V" } : Jvm.MethodName)) ∈ TG := tg_in 134 (by decide +kernel) rfl
theorem wf_135 : (Jvm.Cond.instanceMethod ({ cls := "LostPlaces", name := "<init>", desc := "()V" } : Jvm.MethodName)) ∈ TG := tg_in 135 (by decide +kernel) rfl
theorem wf_136 : (Jvm.Cond.code ({ cls := "LostPlaces", name := "<init>", desc := "()V" } : Jvm.MethodName) prog_1_method_1_code (2 : Nat) (Option.none : Option Jvm.ClassFile.FieldType)) ∈ TG := tg_in 136 (by decide +kernel) rfl
theorem wf_1481 : (Jvm.Cond.classLink "LostPlacesLaw" (16 : Nat) "LostPlacesModel") ∈ TG := tg_in 1481 (by decide +kernel) rfl
theorem wf_1482 : (Jvm.Cond.instantiable "LostPlacesModel" (60 : Nat)) ∈ TG := tg_in 1482 (by decide +kernel) rfl
theorem wf_1483 : (Jvm.Cond.methodLink "LostPlacesLaw" (18 : Nat) ({ cls := "LostPlacesModel", name := "<init>", desc := "()V" } : Jvm.MethodName)) ∈ TG := tg_in 1483 (by decide +kernel) rfl
theorem wf_1484 : (Jvm.Cond.instanceMethod ({ cls := "LostPlacesModel", name := "<init>", desc := "()V" } : Jvm.MethodName)) ∈ TG := tg_in 1484 (by decide +kernel) rfl
theorem wf_1485 : (Jvm.Cond.code ({ cls := "LostPlacesModel", name := "<init>", desc := "()V" } : Jvm.MethodName) prog_14_method_1_code (1 : Nat) (Option.none : Option Jvm.ClassFile.FieldType)) ∈ TG := tg_in 1485 (by decide +kernel) rfl
theorem wf_1670 : (Jvm.Cond.arrayClass Jvm.ClassFile.FieldType.long) ∈ TG := tg_in 1670 (by decide +kernel) rfl
theorem yn_Law_8 : ynw R_Lw 8 0 20 [.null, .null, .null, .null, .null, .null, .int 0, .int 0, .int 0, .null, .null, .null, .null, .int 0, .int 0, .null, .int 0, .null, .null, .null] := ⟨R_Main, F_Main, t_Main, rfl, i_Main, t_Main_ok, wf_132, wf_133, wf_108, fun j hj => match j, hj with | 0, _ => rfl | 1, _ => rfl | 2, _ => rfl | 3, _ => rfl | 4, _ => rfl | 5, _ => rfl | 6, _ => rfl | 7, _ => rfl | 8, _ => rfl | 9, _ => rfl | 10, _ => rfl | 11, _ => rfl | 12, _ => rfl | 13, _ => rfl | 14, _ => rfl | 15, _ => rfl | 16, _ => rfl | 17, _ => rfl | 18, _ => rfl | 19, _ => rfl | j + 20, h => absurd h (by omega)⟩
theorem yn_Law_16 : ynw R_Lw 16 12 60 [.int 0, .null, .null, .null, .null, .null, .int 0, .int 0, .int 0, .int 0, .int 0, .int 0, .int 0, .int 0, .int 0, .null, .null, .int 0, .null, .null, .null, .null, .null, .null, .null, .null, .int 0, .int 0, .int 0, .int 0, .int 0, .int 0, .int 0, .null, .null, .int 0, .int 0, .null, .null, .int 0, .int 0, .int 0, .null, .null, .null, .null, .int 0, .long 0, .null, .null, .null, .int 0, .null, .int 0, .int 0, .null, .null, .int 0, .null, .int 0] := ⟨R_Model, F_Model, t_Model, rfl, i_Model, t_Model_ok, wf_1481, wf_1482, wf_121, fun j hj => match j, hj with | 0, _ => rfl | 1, _ => rfl | 2, _ => rfl | 3, _ => rfl | 4, _ => rfl | 5, _ => rfl | 6, _ => rfl | 7, _ => rfl | 8, _ => rfl | 9, _ => rfl | 10, _ => rfl | 11, _ => rfl | 12, _ => rfl | 13, _ => rfl | 14, _ => rfl | 15, _ => rfl | 16, _ => rfl | 17, _ => rfl | 18, _ => rfl | 19, _ => rfl | 20, _ => rfl | 21, _ => rfl | 22, _ => rfl | 23, _ => rfl | 24, _ => rfl | 25, _ => rfl | 26, _ => rfl | 27, _ => rfl | 28, _ => rfl | 29, _ => rfl | 30, _ => rfl | 31, _ => rfl | 32, _ => rfl | 33, _ => rfl | 34, _ => rfl | 35, _ => rfl | 36, _ => rfl | 37, _ => rfl | 38, _ => rfl | 39, _ => rfl | 40, _ => rfl | 41, _ => rfl | 42, _ => rfl | 43, _ => rfl | 44, _ => rfl | 45, _ => rfl | 46, _ => rfl | 47, _ => rfl | 48, _ => rfl | 49, _ => rfl | 50, _ => rfl | 51, _ => rfl | 52, _ => rfl | 53, _ => rfl | 54, _ => rfl | 55, _ => rfl | 56, _ => rfl | 57, _ => rfl | 58, _ => rfl | 59, _ => rfl | j + 60, h => absurd h (by omega)⟩
theorem yc_Law_15 : ycw R_Lw 15 0 y_Main_init prog_1_method_1_code 2 := ⟨wf_108, wf_136, ⟨by decide +kernel, by decide +kernel, by decide +kernel⟩, by decide, rfl, wf_135⟩
theorem yc_Law_18 : ycw R_Lw 18 0 y_Model_init prog_14_method_1_code 1 := ⟨wf_121, wf_1485, ⟨by decide +kernel, by decide +kernel, by decide +kernel⟩, by decide, rfl, wf_1484⟩
theorem df_0 : decode code 0 = .ok (.new 8, 3) := by decide +kernel
theorem df_3 : decode code 3 = .ok (.dup, 1) := by decide +kernel
theorem df_4 : decode code 4 = .ok (.invokespecial 15, 3) := by decide +kernel
theorem df_7 : decode code 7 = .ok (.astore_n 1, 1) := by decide +kernel
theorem df_8 : decode code 8 = .ok (.new 16, 3) := by decide +kernel
theorem df_11 : decode code 11 = .ok (.dup, 1) := by decide +kernel
theorem df_12 : decode code 12 = .ok (.invokespecial 18, 3) := by decide +kernel
theorem df_15 : decode code 15 = .ok (.astore_n 2, 1) := by decide +kernel
theorem df_16 : decode code 16 = .ok (.iconst 1, 1) := by decide +kernel
theorem df_17 : decode code 17 = .ok (.newarray .long, 2) := by decide +kernel
theorem df_19 : decode code 19 = .ok (.astore_n 3, 1) := by decide +kernel
theorem df_20 : decode code 20 = .ok (.iconst 0, 1) := by decide +kernel
theorem df_21 : decode code 21 = .ok (.istore 4, 2) := by decide +kernel
theorem y_astore_n {G : XG} {hi : Nat} {p : Program} {l : Launch} {e : Env} {R : Room} {s : State} {m : MethodId} {args : Array Value} {below : List Frame} {meth : Method} {c : Code} {nL : Nat} {Q : State → Prop} {cells slots : Nat} {cc : ByteArray} {own : String} {pc n : Nat} {lv lv' : List (Nat × Value)} {st : List Value} {E : List (Nat × va_E)} (C : XC G 1 hi p s m args c cc nL own) {q : Fin 4} {i : Nat} {x : Nat} (hdg : decode cc pc = .ok (.astore_n q, 1)) (hqi : (q : Nat) = i) (hn : i < nL) (hl : (i, Value.ref x) :: lv.filter (fun q => !(q.1 == i) && !(q.1 + 1 == i && q.2.category == 2)) = lv') (k : YJ G hi p l e R s m args below meth c nL Q cells slots (pc + 1) lv' st n E) : YJ G hi p l e R s m args below meth c nL Q cells slots pc lv (.ref x :: st) n E := fun H locs ls h hP hz hS => lv_astore_n C.1 C.2.1 hdg hqi h hn hl (fun ls' h' => k H locs ls' h' hP hz hS)
theorem l_astore_n {G : XG} {p : Program} {l : Launch} {e : Env} {R : Room} {s : State} {m : MethodId} {args : Array Value} {below : List Frame} {meth : Method} {c : Code} {nL : Nat} {Q : State → Prop} {cells slots : Nat} {cc : ByteArray} {own : String} {pc : Nat} {lv lv' : List (Nat × Value)} {st : List Value} {σ : LwS} (C : XC G 1 599 p s m args c cc nL own) {q : Fin 4} {i : Nat} {x : Nat} (hdg : decode cc pc = .ok (.astore_n q, 1)) (hqi : (q : Nat) = i) (hn : i < nL) (hl : (i, Value.ref x) :: lv.filter (fun q => !(q.1 == i) && !(q.1 + 1 == i && q.2.category == 2)) = lv') (k : LJ G p l e R s m args below meth c nL Q cells slots (pc + 1) lv' st σ) : LJ G p l e R s m args below meth c nL Q cells slots pc lv (.ref x :: st) σ := fun H locs ls h hP hS => lv_astore_n C.1 C.2.1 hdg hqi h hn hl (fun ls' h' => k H locs ls' h' hP hS)
/-- the row of one long is made: from here both worlds and the row -/
theorem y_toL {G : XG} {p : Program} {l : Launch} {e : Env} {s : State} {m : MethodId} {b : Nat} {below : List Frame} {meth : Method} {c : Code} {Q : State → Prop} {cells slots : Nat} {lv : List (Nat × Value)} (C : XC G 1 600 p s m #[.ref b] c code 7 R_Lw) (h00 : s.heap.size = G.2.2.1 + 1) (hc : cells + 1 ≤ room_1.cells) (hs : slots + 1 ≤ room_1.slots) (k : LJ G p l e room_1 s m #[.ref b] below meth c 7 Q (cells + 1) (slots + 1) 19 lv [.ref (G.2.2.1 + 598)] (sz0, sz0, fun _ => 0)) : YJ G 600 p l e room_1 s m #[.ref b] below meth c 7 Q cells slots 17 lv [.int 1] 597 [] := by
  intro H locs ls h hP hz hS
  refine va_forget (fun q hq => by rw [h00]; exact (hS.2.2 q hq).1) ?_
  have hra : s.vm.findClass ("[" ++ (FieldType.long).toString) = some (G.2.1 3) := (C.2.2.2.2.2.1.2 3 _ rfl).2
  refine va_newaK C.1 C.2.1 (atype := .long) (C.2.2.2.2.1 _ wf_1670) rfl df_17 rfl (by decide) (rfl : (1 : Int32).toNatClampNeg = 1) (by decide) hc hs hP.1 fun H1 cA e1 z1 o1 hAr hNm => ?_
  have hA : cA = G.2.1 3 := Option.some.inj (hNm.symm.trans hra)
  subst hA
  have hat : ∀ a, 1 ≤ a → a ≤ 597 → ∀ x, xE G sz0 a = some x → va_at G.1 xcl (G.2.2.1 + a, x) H1 := fun a g1 g2 x hx => va_at.kept (hP.2.2.2 a g1 g2 (fun i q hq => by simp at hq) x hx) (o1 _ (by show G.2.2.1 + a < _; omega))
  have hok : xok sz0 := ⟨by decide, Or.inl rfl⟩
  refine k H1 [] ls h ⟨fun a g1 g2 => hat a (by omega) (by omega), hok, fun a g1 g2 => hat a (by omega) (by omega), hok, ?_⟩ ⟨by have := hS.1; have := hP.1; omega, fun q g1 g2 => (o1 q (by have := hS.1; have := hP.1; omega)).trans (hS.2.1 q g1 (fun z => by have := z.1; omega)), fun q hq => (by cases hq)⟩
  show H1[G.2.2.1 + 598]? = some (vp_cell _ _)
  rw [vp_cell_l]
  exact e1
theorem whole_start {p : Program} {e : Env} {s : State} {m : MethodId} {below : List Frame} {meth : Method} {c : Code} (l : Launch) (hflags : l.flags = flags0) {b L : Nat} {xs : Nat → Int32} (hL : L ≤ 3072) (C0 : lw_At p s m meth c b L xs) : W p l e room_1 s m #[Value.ref b] below meth c s.heap [] 0 0 (lw_Z below #[Value.ref b] s) (entryFrame m ([Value.ref b] : List Value).toArray 7) := by
  have hl0 : l.stackTraces = false := by unfold Launch.stackTraces; rw [hflags]; decide +kernel
  obtain ⟨G, hz, C, hN, hZ⟩ := st_G C0
  obtain ⟨hx, hb, hr, hml, hown, hts, hX, hbl, hlk, hg⟩ := C0
  have n599 : ∀ q, xA G 1 599 q → xA G 1 600 q := fun q h => ⟨h.1, by have := h.2; omega⟩
  have C9 : XC G 1 599 p s m #[.ref b] c code 7 R_Lw := ⟨C.1, C.2.1, C.2.2.1, C.2.2.2.1, C.2.2.2.2.1, C.2.2.2.2.2.1, C.2.2.2.2.2.2.narrow n599⟩
  have hbA : ¬ xA G 1 599 b := fun h => by have := h.1; omega
  have hl := lv_entry [Value.ref b] (n := 7) (Nat.le_of_ble_eq_true rfl)
  rw [lg_entry_eq]
  generalize hQ : lw_Z below #[Value.ref b] s = Q
  refine (?_ : YJ G 600 p l e room_1 s m #[.ref b] below meth c 7 Q 0 0 0 (lv_args 0 [.ref b]) [] 0 []) s.heap [] _ hl ⟨hz, fun i q hq => by simp at hq, fun i j q r hq => by simp at hq, fun a g1 g2 => by omega⟩ rfl va_S.rf
  refine y_new (n1 := 1) (c1 := 1) (s1 := 20) C yn_Law_8 rfl rfl rfl (by decide) (by decide) df_0 ?_
  refine y_dup C df_3 rfl ?_
  refine y_call (d := 10) (mc := 568) (ms := 28769) (n' := 569) (c1 := 569) (s1 := 28789) (As := []) C hN (c_Main_init (Nat.le_refl _) (E0 := []) (fun j q hq => by simp at hq)) yc_Law_15 (Or.inl wf_134) rfl rfl (Nat.le_of_ble_eq_true rfl) ⟨by decide, by decide⟩ rfl rfl ⟨by decide, by decide⟩ rfl df_4 ?_
  refine y_astore_n (i := 1) (lv' := [(1, .ref (G.2.2.1 + 1)), (0, .ref b)]) C df_7 rfl (by decide) rfl ?_
  refine y_new (n1 := 570) (c1 := 570) (s1 := 28849) C yn_Law_16 rfl rfl rfl (by decide) (by decide) df_8 ?_
  refine y_dup C df_11 rfl ?_
  refine y_call (d := 1) (mc := 27) (ms := 24728) (n' := 597) (c1 := 597) (s1 := 53577) (As := []) C hN (c_Model_init (Nat.le_refl _) (E0 := [])) yc_Law_18 (Or.inl wf_1483) rfl rfl (Nat.le_of_ble_eq_true rfl) ⟨by decide, by decide⟩ rfl rfl ⟨by decide, by decide⟩ rfl df_12 ?_
  refine y_astore_n (i := 2) (lv' := [(2, .ref (G.2.2.1 + 570)), (1, .ref (G.2.2.1 + 1)), (0, .ref b)]) C df_15 rfl (by decide) rfl ?_
  refine y_iconst (v := 1) C df_16 (by decide) ?_
  refine y_toL C hz (by decide) (by decide) ?_
  refine l_astore_n (i := 3) (lv' := [(3, .ref (G.2.2.1 + 598)), (2, .ref (G.2.2.1 + 570)), (1, .ref (G.2.2.1 + 1)), (0, .ref b)]) C9 df_19 rfl (by decide) rfl ?_
  refine l_iconst (v := 0) C9 df_20 (by decide) ?_
  refine l_istore (lv' := [(4, .int 0), (3, .ref (G.2.2.1 + 598)), (2, .ref (G.2.2.1 + 570)), (1, .ref (G.2.2.1 + 1)), (0, .ref b)]) C9 df_21 (by decide) rfl ?_
  refine l_lv (lv' := lvL G b 0) C9 [4, 3, 2, 1, 0] rfl ?_
  refine l_loop C9 hX hbl hbA hL (hZ.narrow n599) hl0 ?_ L 0 0 _ _ _ (by omega) rfl (by omega) (Nat.le_of_ble_eq_true rfl) (Nat.le_of_ble_eq_true rfl) nv_start
  intro σ lv cells slots hc hs H locs ls hl2 hP hS
  refine va_forget (fun q hq => ?_) ?_
  · have h1 := (hS.2.2 q hq).1
    rw [hz]
    exact h1
  · refine lv_iconst C.1 C.2.1 dl_1467 (by decide : Int32.ofInt 1 = 1) ?_
    refine W.widen (k := 601024) (n := 7293034) (Nat.le_trans hc (Nat.le_of_ble_eq_true rfl)) (Nat.le_trans hs (Nat.le_of_ble_eq_true rfl)) ?_
    subst hQ
    exact lw_ret hx hb hr hlk dl_1468
