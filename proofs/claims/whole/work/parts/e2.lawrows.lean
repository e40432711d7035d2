/-! the law: what the heap holds while it runs (both objects, the row of one long), the judgement, its rows -/
abbrev LwS : Type := LH × LH × (Nat → Int64)
def lwH (G : XG) (σ : LwS) (H : Heap) : Prop := xP G 1 570 σ.1 H ∧ xok σ.1 ∧ xP G 570 598 σ.2.1 H ∧ xok σ.2.1 ∧ va_at G.1 xcl (G.2.2.1 + 598, .inl (G.2.1 3, 1, .inr (.inl σ.2.2))) H
def lwW (G : XG) (σ : LwS) (U : State) : Prop := lwH G σ U.heap ∧ va_K G.1 xcl (xty G) U ∧ xS G (xA G 1 599) U U.heap ∧ zN (xA G 1 599) U U.heap
theorem lwW.blind {G : XG} {σ : LwS} {As : List Value} : FrameBlind (va_Pc As (lwW G σ)) := fun a U g mk q => ⟨q.1, q.2.1, va_K.moved (u := U) (U := U.calling g mk a) (Vm.Alike.refl U.vm) q.2.2.1, xS.same (u := U) (U := U.calling g mk a) rfl q.2.2.2.1, zN.same (u := U) (U := U.calling g mk a) rfl q.2.2.2.2⟩
/-- from here the walk comes to Q, whatever heap holds both -/
def LJ (G : XG) (p : Program) (l : Launch) (e : Env) (R : Room) (s : State) (m : MethodId) (args : Array Value) (below : List Frame) (meth : Method) (c : Code) (nL : Nat) (Q : State → Prop) (cells slots : Nat) (pc : Nat) (lv : List (Nat × Value)) (st : List Value) (σ : LwS) : Prop :=
  ∀ (H : Heap) (locs : List Loc) (ls : Array Slot), lv_has ls nL lv → lwH G σ H → va_S (xA G 1 599) s.heap H locs → W p l e R s m args below meth c H locs cells slots Q (F0 m pc ls st)
section LR
variable {G : XG} {p : Program} {l : Launch} {e : Env} {R : Room} {s : State} {m : MethodId} {args : Array Value} {below : List Frame} {meth : Method} {c : Code} {nL : Nat} {Q : State → Prop} {cells slots : Nat}
variable {cc : ByteArray} {own : String} {pc : Nat} {lv lv' : List (Nat × Value)} {st : List Value} {σ : LwS}
theorem l_iconst (C : XC G 1 599 p s m args c cc nL own) {n : Int} {v : Int32} (hdg : decode cc pc = .ok (.iconst n, 1)) (hv : Int32.ofInt n = v) (k : LJ G p l e R s m args below meth c nL Q cells slots (pc + 1) lv (.int v :: st) σ) : LJ G p l e R s m args below meth c nL Q cells slots pc lv st σ := fun H locs ls hl hP hS => lv_iconst C.1 C.2.1 hdg hv (k H locs ls hl hP hS)
theorem l_bipush (C : XC G 1 599 p s m args c cc nL own) {n : Int} {v : Int32} (hdg : decode cc pc = .ok (.bipush n, 2)) (hv : (Int8.ofInt n).toInt32 = v) (k : LJ G p l e R s m args below meth c nL Q cells slots (pc + 2) lv (.int v :: st) σ) : LJ G p l e R s m args below meth c nL Q cells slots pc lv st σ := fun H locs ls hl hP hS => lv_bipush C.1 C.2.1 hdg hv (k H locs ls hl hP hS)
theorem l_iadd (C : XC G 1 599 p s m args c cc nL own) {x y : Int32} (hdg : decode cc pc = .ok (.iadd, 1))  (k : LJ G p l e R s m args below meth c nL Q cells slots (pc + 1) lv (.int (x + y) :: st) σ) : LJ G p l e R s m args below meth c nL Q cells slots pc lv (.int y :: .int x :: st) σ := fun H locs ls hl hP hS => lv_iadd C.1 C.2.1 hdg  (k H locs ls hl hP hS)
theorem l_isub (C : XC G 1 599 p s m args c cc nL own) {x y : Int32} (hdg : decode cc pc = .ok (.isub, 1))  (k : LJ G p l e R s m args below meth c nL Q cells slots (pc + 1) lv (.int (x - y) :: st) σ) : LJ G p l e R s m args below meth c nL Q cells slots pc lv (.int y :: .int x :: st) σ := fun H locs ls hl hP hS => lv_isub C.1 C.2.1 hdg  (k H locs ls hl hP hS)
theorem l_iand (C : XC G 1 599 p s m args c cc nL own) {x y : Int32} (hdg : decode cc pc = .ok (.iand, 1))  (k : LJ G p l e R s m args below meth c nL Q cells slots (pc + 1) lv (.int (x &&& y) :: st) σ) : LJ G p l e R s m args below meth c nL Q cells slots pc lv (.int y :: .int x :: st) σ := fun H locs ls hl hP hS => lv_iand C.1 C.2.1 hdg  (k H locs ls hl hP hS)
theorem l_iload (C : XC G 1 599 p s m args c cc nL own) {q : Nat} {x : Int32} (hdg : decode cc pc = .ok (.iload q, 2)) (i : Nat) (hl : lv[i]? = some (q, .int x)) (k : LJ G p l e R s m args below meth c nL Q cells slots (pc + 2) lv (.int x :: st) σ) : LJ G p l e R s m args below meth c nL Q cells slots pc lv st σ := fun H locs ls h hP hS => lv_iload C.1 C.2.1 hdg (lv_at h i hl) (k H locs ls h hP hS)
theorem l_iload_n (C : XC G 1 599 p s m args c cc nL own) {q : Fin 4} {x : Int32} (hdg : decode cc pc = .ok (.iload_n q, 1)) (i : Nat) (hl : lv[i]? = some ((q : Nat), .int x)) (k : LJ G p l e R s m args below meth c nL Q cells slots (pc + 1) lv (.int x :: st) σ) : LJ G p l e R s m args below meth c nL Q cells slots pc lv st σ := fun H locs ls h hP hS => lv_iload_n C.1 C.2.1 hdg rfl (lv_at h i hl) (k H locs ls h hP hS)
theorem l_istore (C : XC G 1 599 p s m args c cc nL own) {i : Nat} {x : Int32} (hdg : decode cc pc = .ok (.istore i, 2)) (hn : i < nL) (hl : (i, Value.int x) :: lv.filter (fun q => !(q.1 == i) && !(q.1 + 1 == i && q.2.category == 2)) = lv') (k : LJ G p l e R s m args below meth c nL Q cells slots (pc + 2) lv' st σ) : LJ G p l e R s m args below meth c nL Q cells slots pc lv (.int x :: st) σ := fun H locs ls h hP hS => lv_istore C.1 C.2.1 hdg h hn hl (fun ls' h' => k H locs ls' h' hP hS)
theorem l_aload_n (C : XC G 1 599 p s m args c cc nL own) {q : Fin 4} {x : Nat} (hdg : decode cc pc = .ok (.aload_n q, 1)) (i : Nat) (hl : lv[i]? = some ((q : Nat), .ref x)) (k : LJ G p l e R s m args below meth c nL Q cells slots (pc + 1) lv (.ref x :: st) σ) : LJ G p l e R s m args below meth c nL Q cells slots pc lv st σ := fun H locs ls h hP hS => lv_aload_n C.1 C.2.1 hdg rfl (lv_at h i hl) (k H locs ls h hP hS)
theorem l_iinc (C : XC G 1 599 p s m args c cc nL own) {i : Nat} {n : Int} {x v : Int32} (hdg : decode cc pc = .ok (.iinc i n, 3)) (j : Nat) (hk : lv[j]? = some (i, .int x)) (hv : v = x + Int32.ofInt n) (hn : i < nL) (hl : (i, Value.int v) :: lv.filter (fun q => !(q.1 == i) && !(q.1 + 1 == i && q.2.category == 2)) = lv') (k : LJ G p l e R s m args below meth c nL Q cells slots (pc + 3) lv' st σ) : LJ G p l e R s m args below meth c nL Q cells slots pc lv st σ := fun H locs ls h hP hS => lv_iinc C.1 C.2.1 hdg h hk hv.symm hn hl (fun ls' h' => k H locs ls' h' hP hS)
theorem l_goto (C : XC G 1 599 p s m args c cc nL own) {off : Int} (tgt : Nat) (hdg : decode cc pc = .ok (.goto off, 3)) (ht : (pc : Int) + off = (tgt : Int)) (k : LJ G p l e R s m args below meth c nL Q cells slots tgt lv st σ) : LJ G p l e R s m args below meth c nL Q cells slots pc lv st σ := fun H locs ls hl hP hS => lv_goto C.1 C.2.1 hdg ht (k H locs ls hl hP hS)
theorem l_icmp_eq (C : XC G 1 599 p s m args c cc nL own) {x y : Int32} {off : Int} (tgt : Nat) (hdg : decode cc pc = .ok (.if_icmp .eq off, 3)) (ht : (pc : Int) + off = (tgt : Int)) (kt : x = y → LJ G p l e R s m args below meth c nL Q cells slots tgt lv st σ) (kf : ¬ x = y → LJ G p l e R s m args below meth c nL Q cells slots (pc + 3) lv st σ) : LJ G p l e R s m args below meth c nL Q cells slots pc lv (.int y :: .int x :: st) σ := fun H locs ls hl hP hS => lv_icmp_eq C.1 C.2.1 hdg ht (fun q => kt q H locs ls hl hP hS) (fun q => kf q H locs ls hl hP hS)
theorem l_icmp_gt (C : XC G 1 599 p s m args c cc nL own) {x y : Int32} {off : Int} (tgt : Nat) (hdg : decode cc pc = .ok (.if_icmp .gt off, 3)) (ht : (pc : Int) + off = (tgt : Int)) (kt : y < x → LJ G p l e R s m args below meth c nL Q cells slots tgt lv st σ) (kf : ¬ y < x → LJ G p l e R s m args below meth c nL Q cells slots (pc + 3) lv st σ) : LJ G p l e R s m args below meth c nL Q cells slots pc lv (.int y :: .int x :: st) σ := fun H locs ls hl hP hS => lv_icmp_gt C.1 C.2.1 hdg ht (fun q => kt q H locs ls hl hP hS) (fun q => kf q H locs ls hl hP hS)
theorem l_if_eq (C : XC G 1 599 p s m args c cc nL own) {x : Int32} {off : Int} (tgt : Nat) (hdg : decode cc pc = .ok (.ifCond .eq off, 3)) (ht : (pc : Int) + off = (tgt : Int)) (kt : x = 0 → LJ G p l e R s m args below meth c nL Q cells slots tgt lv st σ) (kf : ¬ x = 0 → LJ G p l e R s m args below meth c nL Q cells slots (pc + 3) lv st σ) : LJ G p l e R s m args below meth c nL Q cells slots pc lv (.int x :: st) σ := fun H locs ls hl hP hS => lv_if_eq C.1 C.2.1 hdg ht (fun q => kt q H locs ls hl hP hS) (fun q => kf q H locs ls hl hP hS)
theorem l_if_ne (C : XC G 1 599 p s m args c cc nL own) {x : Int32} {off : Int} (tgt : Nat) (hdg : decode cc pc = .ok (.ifCond .ne off, 3)) (ht : (pc : Int) + off = (tgt : Int)) (kt : ¬ x = 0 → LJ G p l e R s m args below meth c nL Q cells slots tgt lv st σ) (kf : x = 0 → LJ G p l e R s m args below meth c nL Q cells slots (pc + 3) lv st σ) : LJ G p l e R s m args below meth c nL Q cells slots pc lv (.int x :: st) σ := fun H locs ls hl hP hS => lv_if_ne C.1 C.2.1 hdg ht (fun q => kt q H locs ls hl hP hS) (fun q => kf q H locs ls hl hP hS)
theorem l_lcmp (C : XC G 1 599 p s m args c cc nL own) {x y : Int64} (hdg : decode cc pc = .ok (.lcmp, 1)) (k : LJ G p l e R s m args below meth c nL Q cells slots (pc + 1) lv (.int (lg_cmp x y) :: st) σ) : LJ G p l e R s m args below meth c nL Q cells slots pc lv (.long y :: .long x :: st) σ := fun H locs ls hl hP hS => W.lcmp C.1 C.2.1 hdg (k H locs ls hl hP hS)
theorem l_i2l (C : XC G 1 599 p s m args c cc nL own) {x : Int32} (hdg : decode cc pc = .ok (.i2l, 1)) (k : LJ G p l e R s m args below meth c nL Q cells slots (pc + 1) lv (.long (x.toInt64) :: st) σ) : LJ G p l e R s m args below meth c nL Q cells slots pc lv (.int x :: st) σ := fun H locs ls hl hP hS => lv_i2l C.1 C.2.1 hdg rfl (k H locs ls hl hP hS)
theorem l_lshl (C : XC G 1 599 p s m args c cc nL own) {x : Int64} {y : Int32} (hdg : decode cc pc = .ok (.lshl, 1)) (k : LJ G p l e R s m args below meth c nL Q cells slots (pc + 1) lv (.long (x <<< (y.toInt64 &&& 63)) :: st) σ) : LJ G p l e R s m args below meth c nL Q cells slots pc lv (.int y :: .long x :: st) σ := fun H locs ls hl hP hS => lv_lshl C.1 C.2.1 hdg rfl (k H locs ls hl hP hS)
theorem l_land (C : XC G 1 599 p s m args c cc nL own) {x y : Int64} (hdg : decode cc pc = .ok (.land, 1))  (k : LJ G p l e R s m args below meth c nL Q cells slots (pc + 1) lv (.long (x &&& y) :: st) σ) : LJ G p l e R s m args below meth c nL Q cells slots pc lv (.long y :: .long x :: st) σ := fun H locs ls hl hP hS => lv_land C.1 C.2.1 hdg  (k H locs ls hl hP hS)
theorem l_lor (C : XC G 1 599 p s m args c cc nL own) {x y : Int64} (hdg : decode cc pc = .ok (.lor, 1))  (k : LJ G p l e R s m args below meth c nL Q cells slots (pc + 1) lv (.long (x ||| y) :: st) σ) : LJ G p l e R s m args below meth c nL Q cells slots pc lv (.long y :: .long x :: st) σ := fun H locs ls hl hP hS => lv_lor C.1 C.2.1 hdg  (k H locs ls hl hP hS)
theorem l_ldc2 (C : XC G 1 599 p s m args c cc nL own) {index : Nat} {v : Int64} (hw : Cond.constantLong own index v ∈ TG) (hdg : decode cc pc = .ok (.ldc2_w index, 3)) (k : LJ G p l e R s m args below meth c nL Q cells slots (pc + 3) lv (.long v :: st) σ) : LJ G p l e R s m args below meth c nL Q cells slots pc lv st σ := fun H locs ls hl hP hS => lv_ldc2 C.1 C.2.1 C.2.2.2.1 (C.2.2.2.2.1 _ hw) hdg (k H locs ls hl hP hS)
theorem l_tableIn (C : XC G 1 599 p s m args c cc nL own) {dflt slo shi : Int} {offs : Array Int} {len : Nat} {x : Int32} {off : Int} (tgt : Nat) (hdg : decode cc pc = .ok (.tableswitch dflt slo shi offs, len)) (h1 : ¬ x.toInt < slo) (h2 : ¬ shi < x.toInt) (ho : offs[(x.toInt - slo).toNat]? = some off) (ht : (pc : Int) + off = (tgt : Int)) (k : LJ G p l e R s m args below meth c nL Q cells slots tgt lv st σ) : LJ G p l e R s m args below meth c nL Q cells slots pc lv (.int x :: st) σ := fun H locs ls hl hP hS => lv_tableIn C.1 C.2.1 hdg h1 h2 ho ht (k H locs ls hl hP hS)
theorem l_tableOut (C : XC G 1 599 p s m args c cc nL own) {dflt slo shi : Int} {offs : Array Int} {len : Nat} {x : Int32} (tgt : Nat) (hdg : decode cc pc = .ok (.tableswitch dflt slo shi offs, len)) (h : x.toInt < slo ∨ shi < x.toInt) (ht : (pc : Int) + dflt = (tgt : Int)) (k : LJ G p l e R s m args below meth c nL Q cells slots tgt lv st σ) : LJ G p l e R s m args below meth c nL Q cells slots pc lv (.int x :: st) σ := fun H locs ls hl hP hS => lv_tableOut C.1 C.2.1 hdg h ht (k H locs ls hl hP hS)
theorem l_lv (C : XC G 1 599 p s m args c cc nL own) (is : List Nat) (hl : lv_pick lv is = lv') (k : LJ G p l e R s m args below meth c nL Q cells slots pc lv' st σ) : LJ G p l e R s m args below meth c nL Q cells slots pc lv st σ := fun H locs ls h hP hS => k H locs ls (lv_sub h is hl) hP hS
theorem xA_1 {q : Nat} (h : xA G 1 570 q) : xA G 1 599 q := ⟨h.1, by have := h.2; omega⟩
theorem xA_2 {q : Nat} (h : xA G 570 598 q) : xA G 1 599 q := ⟨by have := h.1; omega, by have := h.2; omega⟩
theorem l_world (C : XC G 1 599 p s m args c cc nL own) {H : Heap} {locs : List Loc} {t : State} (hP : lwH G σ H) (hS : va_S (xA G 1 599) s.heap H locs) (ht : t.heap = H) (hW : s.WarmedH t.vm) : xW G 1 570 σ.1 t ∧ xW G 570 598 σ.2.1 t := by
  subst ht
  have h1 := va_K.moved hW.alike C.2.2.2.2.2.1
  have h2 := xS.warm hW (xS.kept C.2.2.2.2.2.2 hS.2.1)
  exact ⟨⟨hP.1, hP.2.1, h1, h2.narrow fun q => xA_1⟩, ⟨hP.2.2.1, hP.2.2.2.1, h1, h2.narrow fun q => xA_2⟩⟩
/-- behind a call of one of the two: the other and the row are as they were -/
theorem l_mixC {σ' : LH} {H H1 : Heap} (hP : lwH G σ H) (h1 : xP G 1 570 σ' H1) (h2 : xok σ') (hk : ∀ q : Nat, q < H.size → ¬ xA G 1 570 q → H1[q]? = H[q]?) : lwH G (σ', σ.2) H1 :=
  ⟨h1, h2, fun a g1 g2 x hx => va_at.kept (hP.2.2.1 a g1 g2 x hx) (hk _ (hP.2.2.1 a g1 g2 x hx).lt (fun z => by have e := z.2; have e' : G.2.2.1 + a < G.2.2.1 + 570 := e; omega)), hP.2.2.2.1, va_at.kept hP.2.2.2.2 (hk _ hP.2.2.2.2.lt (fun z => by have e := z.2; have e' : G.2.2.1 + 598 < G.2.2.1 + 570 := e; omega))⟩
theorem l_mixM {τ' : LH} {H H1 : Heap} (hP : lwH G σ H) (h1 : xP G 570 598 τ' H1) (h2 : xok τ') (hk : ∀ q : Nat, q < H.size → ¬ xA G 570 598 q → H1[q]? = H[q]?) : lwH G (σ.1, τ', σ.2.2) H1 :=
  ⟨fun a g1 g2 x hx => va_at.kept (hP.1 a g1 g2 x hx) (hk _ (hP.1 a g1 g2 x hx).lt (fun z => by have e := z.1; have e' : G.2.2.1 + 570 ≤ G.2.2.1 + a := e; omega)), hP.2.1, h1, h2, va_at.kept hP.2.2.2.2 (hk _ hP.2.2.2.2.lt (fun z => by have e := z.2; have e' : G.2.2.1 + 598 < G.2.2.1 + 598 := e; omega))⟩
theorem l_keep {A : Nat → Prop} {H H1 : Heap} {locs L : List Loc} (hS : va_S (xA G 1 599) s.heap H locs) (hA : ∀ q, A q → xA G 1 599 q) (hz : H.size ≤ H1.size) (hk : ∀ q : Nat, q < H.size → ¬ A q → H1[q]? = H[q]?) (hL : ∀ q ∈ L, A q.base) : va_S (xA G 1 599) s.heap H1 (locs ++ L) :=
  ⟨Nat.le_trans hS.1 hz, fun q h1 h2 => by rw [hk q (Nat.lt_of_lt_of_le h1 hS.1) (fun z => h2 (hA q z))]; exact hS.2.1 q h1 h2, fun q hq => by
      rcases List.mem_append.mp hq with h | h
      · exact hS.2.2 q h
      · exact hA _ (hL q h)⟩
theorem l_callC (C : XC G 1 599 p s m args c cc nL own) {index n maxL d : Nat} {y : MethodName} {bytes : ByteArray} {ret : Option FieldType} {As st0 : List Value} {r : Int32} {σ' : LH} (hR : xroom R (d + 1)) (hM : xM G 1 570 l y bytes maxL ret d (.ref (G.2.2.1 + 1) :: As) σ.1 (some (.int r)) σ') (hw : xcv own index n y bytes maxL ret) (hyc : y.cls = R_Main) (hn : As.length = n) (hst : st0 = As.reverse ++ .ref (G.2.2.1 + 1) :: st) (hW : (st.map fun v => v.category).sum ≤ 8) (hcs : cells ≤ R.cells ∧ slots ≤ R.slots) (hdg : decode cc pc = .ok (.invokevirtual index, 3)) (k : LJ G p l e R s m args below meth c nL Q cells slots (pc + 3) lv (.int r :: st) (σ', σ.2)) : LJ G p l e R s m args below meth c nL Q cells slots pc lv st0 σ := by
  intro H locs ls hl hP hS
  have ht := C.2.2.2.2.1
  obtain ⟨r0, g1, cell, q1, q2, q3, q4⟩ := (xP_cell hP.1 k_1 rfl) 0 _ rfl
  obtain ⟨hSl, hfc, -⟩ := C.2.2.2.2.2.1.1 0 _ rfl
  have hr := va_runV (p := p) (l := l) (e := e) (R := R) (below := below) (meth := meth) (H := H) (locs := locs) (cells := cells) (slots := slots) (g := F0 m pc ls st0) (As := As) (rest := st) (C := y.cls) (b := G.2.2.1 + 1) ⟨C.1, C.2.1, C.2.2.1, C.2.2.2.1, ht⟩ hM ⟨xcw.B C hw.1 hR, ht _ hw.2.1, ht _ hw.2.2⟩ ⟨xW.blind, ⟨cell, q1, by rw [q3]; rfl, by rw [q2, hyc]; exact hfc⟩, fun U hU hW2 => ⟨rfl, by subst hU; exact (l_world C hP hS rfl hW2).1⟩⟩ rfl hn hl.1 hst (by show 2 * 0 + _ ≤ 8; omega) hdg hcs
  intro T2 hT X
  obtain ⟨v0, st₀, t, T', L, h0, X', hL, e1, e2, ⟨⟨v1, u, hv, ⟨rfl, rfl⟩, hb⟩, hz, hk⟩, stp⟩ := hr T2 hT X
  cases hv
  rw [h0] at hz hk
  rw [← e1] at hz hk
  obtain ⟨t2, a1, b1⟩ := k T'.heap (locs ++ L) ls hl (l_mixC hP (by rw [e1]; exact hb.1) hb.2.1 hk) (l_keep hS (fun q => xA_1) hz hk hL) T' rfl X'
  exact ⟨t2, stp t2 a1, b1⟩
theorem l_callM (C : XC G 1 599 p s m args c cc nL own) {index n maxL d : Nat} {y : MethodName} {bytes : ByteArray} {ret : Option FieldType} {As st0 : List Value} {r : Int32} {τ' : LH} (hR : xroom R (d + 1)) (hM : xM G 570 598 l y bytes maxL ret d (.ref (G.2.2.1 + 570) :: As) σ.2.1 (some (.int r)) τ') (hw : xcv own index n y bytes maxL ret) (hyc : y.cls = R_Model) (hn : As.length = n) (hst : st0 = As.reverse ++ .ref (G.2.2.1 + 570) :: st) (hW : (st.map fun v => v.category).sum ≤ 8) (hcs : cells ≤ R.cells ∧ slots ≤ R.slots) (hdg : decode cc pc = .ok (.invokevirtual index, 3)) (k : LJ G p l e R s m args below meth c nL Q cells slots (pc + 3) lv (.int r :: st) (σ.1, τ', σ.2.2)) : LJ G p l e R s m args below meth c nL Q cells slots pc lv st0 σ := by
  intro H locs ls hl hP hS
  have ht := C.2.2.2.2.1
  obtain ⟨r0, g1, cell, q1, q2, q3, q4⟩ := (xP_cell hP.2.2.1 k_570 rfl) 0 _ rfl
  obtain ⟨hSl, hfc, -⟩ := C.2.2.2.2.2.1.1 12 _ rfl
  have hr := va_runV (p := p) (l := l) (e := e) (R := R) (below := below) (meth := meth) (H := H) (locs := locs) (cells := cells) (slots := slots) (g := F0 m pc ls st0) (As := As) (rest := st) (C := y.cls) (b := G.2.2.1 + 570) ⟨C.1, C.2.1, C.2.2.1, C.2.2.2.1, ht⟩ hM ⟨xcw.B C hw.1 hR, ht _ hw.2.1, ht _ hw.2.2⟩ ⟨xW.blind, ⟨cell, q1, by rw [q3]; rfl, by rw [q2, hyc]; exact hfc⟩, fun U hU hW2 => ⟨rfl, by subst hU; exact (l_world C hP hS rfl hW2).2⟩⟩ rfl hn hl.1 hst (by show 2 * 0 + _ ≤ 8; omega) hdg hcs
  intro T2 hT X
  obtain ⟨v0, st₀, t, T', L, h0, X', hL, e1, e2, ⟨⟨v1, u, hv, ⟨rfl, rfl⟩, hb⟩, hz, hk⟩, stp⟩ := hr T2 hT X
  cases hv
  rw [h0] at hz hk
  rw [← e1] at hz hk
  obtain ⟨t2, a1, b1⟩ := k T'.heap (locs ++ L) ls hl (l_mixM hP (by rw [e1]; exact hb.1) hb.2.1 hk) (l_keep hS (fun q => xA_2) hz hk hL) T' rfl X'
  exact ⟨t2, stp t2 a1, b1⟩
theorem lwH.one {H : Heap} (hP : lwH G σ H) : va_P G.1 xcl [(G.2.2.1 + 598, .inl (G.2.1 3, 1, .inr (.inl σ.2.2)))] H := by
  intro j q hq
  cases j with
  | zero => simp at hq; subst hq; exact hP.2.2.2.2
  | succ j => simp at hq
theorem l_lald (C : XC G 1 599 p s m args c cc nL own) {i : Int32} (hin : vp_in i 1) (hdg : decode cc pc = .ok (.laload, 1)) (k : LJ G p l e R s m args below meth c nL Q cells slots (pc + 1) lv (.long (σ.2.2 i.toNatClampNeg) :: st) σ) : LJ G p l e R s m args below meth c nL Q cells slots pc lv (.int i :: .ref (G.2.2.1 + 598) :: st) σ := fun H locs ls hl hP hS => va_lald C.1 C.2.1 C.2.2.2.2.2.1 hP.one 0 3 rfl rfl hin hdg (k H locs ls hl hP hS)
theorem l_last (C : XC G 1 599 p s m args c cc nL own) {i : Int32} {x : Int64} (hin : vp_in i 1) (hdg : decode cc pc = .ok (.lastore, 1)) (k : LJ G p l e R s m args below meth c nL Q cells slots (pc + 1) lv st (σ.1, σ.2.1, vp_updL σ.2.2 i.toNatClampNeg x)) : LJ G p l e R s m args below meth c nL Q cells slots pc lv (.long x :: .int i :: .ref (G.2.2.1 + 598) :: st) σ := by
  intro H locs ls hl hP hS
  have h598 : xA G 1 599 (G.2.2.1 + 598) := ⟨by omega, by omega⟩
  refine W.last C.1 C.2.1 (hP.one 0 _ rfl) ((C.2.2.2.2.2.1.2 3 _ rfl).1 1 (fun j => .long (σ.2.2 j))) (fun q => by cases q) (by show ¬ (i < 0 ∨ (arrV _ _ _).slots.size ≤ _); rw [arrV_size]; exact hin) rfl rfl hdg fun H1 e z oq => ?_
  refine k H1 _ ls hl ⟨fun a g1 g2 y hy => va_at.kept (hP.1 a g1 g2 y hy) (oq _ (by show G.2.2.1 + a ≠ _; omega)), hP.2.1, fun a g1 g2 y hy => va_at.kept (hP.2.2.1 a g1 g2 y hy) (oq _ (by show G.2.2.1 + a ≠ _; omega)), hP.2.2.2.1, ?_⟩ (hS.put z oq h598)
  show H1[G.2.2.1 + 598]? = some (vp_cell _ _)
  rw [e]
  rw [vp_cell_l, vp_cell_l, arrV_store]
  congr 2
  funext q
  by_cases hq : q = i.toNatClampNeg
  · subst hq
    simp [updV, vp_updL]
  · simp [updV, vp_updL, hq]
end LR
