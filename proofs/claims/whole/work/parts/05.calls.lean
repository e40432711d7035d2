/-! returns, calls, entries; the members of Math and System that are met -/
def xrm (d : Nat) : Room := { frames := d, cells := 0, slots := 0, locals := 60 * d + 60 }
/-- the room left holds d frames -/
def xroom (R : Room) (d : Nat) : Prop := d ≤ R.frames ∧ 60 * d + 60 ≤ R.locals
def xQc (G : XG) (lo hi : Nat) (post : Option Value → LH → Prop) : Array Value → State → Outcome → State → Prop := fun _ st oc t => (∃ (v : Option Value) (u : LH), oc = .returned v ∧ post v u ∧ xW G lo hi u t) ∧ va_F (xA G lo hi) st t
abbrev XQ (G : XG) (lo hi : Nat) (below : List Frame) (args : Array Value) (s : State) (v : Option Value) (σ' : LH) : State → Prop := MQ below (xQc G lo hi (fun w u => w = v ∧ u = σ')) args s 0 0 (xA G lo hi)
/-- a method's contract: from the abstract heap σ it answers v and leaves σ' -/
def xM (G : XG) (lo hi : Nat) (l : Launch) (y : MethodName) (cc : ByteArray) (nL : Nat) (ret : Option FieldType) (d : Nat) (As : List Value) (σ : LH) (v : Option Value) (σ' : LH) : Prop :=
  Met l y (Cond.code y cc nL ret :: TG) (xrm d) (va_Pc As (xW G lo hi σ)) (xQc G lo hi (fun w u => w = v ∧ u = σ')) 0 0 (xA G lo hi)
theorem xS.same {G : XG} {A : Nat → Prop} {u U : State} {H : Heap} (hv : U.vm = u.vm) (h : xS G A u H) : xS G A U H := by
  have ha : u.vm.Alike U.vm := by rw [hv]; exact Vm.Alike.refl _
  exact ⟨h.1.moved ha, h.2.1.moved ha, fun k hk => ⟨(h.2.2.1 k hk).1.moved ha, (h.2.2.1 k hk).2.moved ha⟩, fun q hq => vk_R.same hv (h.2.2.2.1 q hq), h.2.2.2.2.elim fun w q => ⟨w, q.1, q.2.moved ha⟩⟩
theorem xW.blind {G : XG} {lo hi : Nat} {σ : LH} {As : List Value} : FrameBlind (va_Pc As (xW G lo hi σ)) := fun a U g mk q => ⟨q.1, q.2.1, q.2.2.1, va_K.moved (u := U) (U := U.calling g mk a) (Vm.Alike.refl U.vm) q.2.2.2.1, xS.same (u := U) (U := U.calling g mk a) rfl q.2.2.2.2⟩
def xl {α β : Type} (a : α) (f : α → β) : β := f a
theorem xlet {α β : Type} {a : α} {f : α → β} {o : β} (h : xl a f = o) : ∃ x, x = a ∧ f x = o := ⟨a, rfl, h⟩
theorem xgo {α : Type} {c : Prop} [Decidable c] {k : Option α} {o : α} (h : (if c then k else none) = some o) : c ∧ k = some o := by
  by_cases q : c
  · rw [if_pos q] at h; exact ⟨q, h⟩
  · rw [if_neg q] at h; cases h
theorem xit {α : Type} {c : Prop} [Decidable c] {a b o : α} (q : c) (h : (if c then a else b) = o) : a = o := by rw [if_pos q] at h; exact h
theorem xif {α : Type} {c : Prop} [Decidable c] {a b o : α} (q : ¬ c) (h : (if c then a else b) = o) : b = o := by rw [if_neg q] at h; exact h
theorem xbind {α β : Type} {x : Option α} {f : α → Option β} {o : β} (h : x.bind f = some o) : ∃ q, x = some q ∧ f q = some o := by
  cases x with
  | none => cases h
  | some q => exact ⟨q, rfl, h⟩
abbrev ib (i : Int32) (n : Nat) : Prop := 0 ≤ i.toInt ∧ i.toInt < n
abbrev zb (x : Int32) : Prop := x = 0 ∨ x = 1
theorem ib_in {i : Int32} {n : Nat} (h : ib i n) : vp_in i n := vp_in_iff.mpr h
theorem zb_nar {x : Int32} (h : zb x) : narrow .boolean (.int x) = .int x := by rcases h with h | h <;> (subst h; rfl)
theorem zb_fits {x : Int32} (h : zb x) : fits .boolean (.int x) = true := by rcases h with h | h <;> (subst h; rfl)
theorem xts {x : Int32} {a b : Int} (h : ∀ k : Int, a ≤ k → k ≤ b → ¬ x.toInt = k) : x.toInt < a ∨ b < x.toInt := by
  by_cases q : x.toInt < a
  · exact Or.inl q
  · by_cases r : b < x.toInt
    · exact Or.inr r
    · exact absurd rfl (h x.toInt (by omega) (by omega))
section XR2
variable {G : XG} {lo hi : Nat} {p : Program} {l : Launch} {e : Env} {R : Room} {s : State} {m : MethodId} {args : Array Value} {below : List Frame} {meth : Method} {c : Code} {nL : Nat} {Q : State → Prop} {cells slots : Nat}
variable {cc : ByteArray} {own : String} {pc : Nat} {lv lv' : List (Nat × Value)} {st : List Value} {σ : LH}
theorem x_sig (C : XC G lo hi p s m args c cc nL own) {τ : LH} (h : τ = σ) (k : XJ G lo hi p l e R s m args below meth c nL Q cells slots pc lv st τ) : XJ G lo hi p l e R s m args below meth c nL Q cells slots pc lv st σ := h ▸ k
theorem x_world (C : XC G lo hi p s m args c cc nL own) {H : Heap} {locs : List Loc} {t : State} (hP : xP G lo hi σ H) (ho : xok σ) (hS : va_S (xA G lo hi) s.heap H locs) (ht : t.heap = H) (hW : s.WarmedH t.vm) : xW G lo hi σ t := by
  subst ht
  exact ⟨hP, ho, va_K.moved hW.alike C.2.2.2.2.2.1, xS.warm hW (xS.kept C.2.2.2.2.2.2 hS.2.1)⟩
theorem x_iret (C : XC G lo hi p s m args c cc nL own) (hr : meth.sig.returnType = some .int) (hk : meth.locks = false) {x r : Int32} {σ' : LH} (h0 : some (x, σ) = some (r, σ')) (hdg : decode cc pc = .ok (.ireturn, 1)) : XJ G lo hi p l e R s m args below meth c nL (XQ G lo hi below args s (some (.int r)) σ') 0 0 pc lv [.int x] σ := by
  cases h0
  exact fun H locs ls hl hP ho hS => W.iret C.1 C.2.1 hr (fun t ht hW => ⟨⟨_, _, rfl, ⟨rfl, rfl⟩, x_world C hP ho hS ht hW⟩, hS.F ht⟩) hS.2.2 hdg hk
theorem x_zret (C : XC G lo hi p s m args c cc nL own) (hr : meth.sig.returnType = some .boolean) (hk : meth.locks = false) {x r : Int32} {σ' : LH} (hz : zb x) (h0 : some (x, σ) = some (r, σ')) (hdg : decode cc pc = .ok (.ireturn, 1)) : XJ G lo hi p l e R s m args below meth c nL (XQ G lo hi below args s (some (.int r)) σ') 0 0 pc lv [.int x] σ := by
  cases h0
  exact fun H locs ls hl hP ho hS => W.zret C.1 C.2.1 hr (zb_nar hz) (hlocks := hk) (fun t ht hW => ⟨⟨_, _, rfl, ⟨rfl, rfl⟩, x_world C hP ho hS ht hW⟩, hS.F ht⟩) hS.2.2 hdg
theorem x_vret (C : XC G lo hi p s m args c cc nL own) (hr : meth.sig.returnType = none) (hk : meth.locks = false) {σ' : LH} (h0 : some σ = some σ') (hdg : decode cc pc = .ok (.return_, 1)) : XJ G lo hi p l e R s m args below meth c nL (XQ G lo hi below args s none σ') 0 0 pc lv [] σ := by
  cases h0
  exact fun H locs ls hl hP ho hS => W.vret C.1 C.2.1 hr (hlocks := hk) (fun t ht hW => ⟨⟨_, _, rfl, ⟨rfl, rfl⟩, x_world C hP ho hS ht hW⟩, hS.F ht⟩) hS.2.2 hdg
theorem x_aretC (C : XC G lo hi p s m args c cc nL own) {rt : FieldType} (hr : meth.sig.returnType = some rt) (hrt : (∃ n, rt = .object n) ∨ ∃ t, rt = .array t) (hk : meth.locks = false) {a r : Nat} {σ' : LH} (h0 : some (a, σ) = some (r, σ')) (hdg : decode cc pc = .ok (.areturn, 1)) : XJ G lo hi p l e R s m args below meth c nL (XQ G lo hi below args s (some (.ref (G.2.2.1 + r))) σ') 0 0 pc lv [.ref (G.2.2.1 + a)] σ := by
  cases h0
  exact fun H locs ls hl hP ho hS => W.aret (v := .ref (G.2.2.1 + a)) C.1 C.2.1 hr hrt (Or.inr ⟨_, rfl⟩) (hlocks := hk) (fun t ht hW => ⟨⟨_, _, rfl, ⟨rfl, rfl⟩, x_world C hP ho hS ht hW⟩, hS.F ht⟩) hS.2.2 hdg
theorem x_aretS (C : XC G lo hi p s m args c cc nL own) {rt : FieldType} (hr : meth.sig.returnType = some rt) (hrt : (∃ n, rt = .object n) ∨ ∃ t, rt = .array t) (hk : meth.locks = false) {a r : Nat} {σ' : LH} (h0 : some (a, σ) = some (r, σ')) (hdg : decode cc pc = .ok (.areturn, 1)) : XJ G lo hi p l e R s m args below meth c nL (XQ G lo hi below args s (some (.ref (G.2.2.2.1 r))) σ') 0 0 pc lv [.ref (G.2.2.2.1 a)] σ := by
  cases h0
  exact fun H locs ls hl hP ho hS => W.aret (v := .ref (G.2.2.2.1 a)) C.1 C.2.1 hr hrt (Or.inr ⟨_, rfl⟩) (hlocks := hk) (fun t ht hW => ⟨⟨_, _, rfl, ⟨rfl, rfl⟩, x_world C hP ho hS ht hW⟩, hS.F ht⟩) hS.2.2 hdg
/-- the words that a call needs -/
def xcw (own : String) (index n : Nat) (y : MethodName) (bytes : ByteArray) (maxL : Nat) (ret : Option FieldType) : Prop := Cond.methodLink own index y ∈ TG ∧ Cond.initialized y.cls ∈ TG ∧ Cond.code y bytes maxL ret ∈ TG ∧ (y.cls ≠ "java/lang/invoke/MethodHandle" ∧ y.cls ≠ "java/lang/invoke/VarHandle" ∧ (parseMethodDescriptor y.desc).map (fun d => d.parameters.length) = some n) ∧ maxL ≤ 41
def xcv (own : String) (index n : Nat) (y : MethodName) (bytes : ByteArray) (maxL : Nat) (ret : Option FieldType) : Prop := xcw own index n y bytes maxL ret ∧ Cond.instanceMethod y ∈ TG ∧ Cond.selects y.cls y y ∈ TG
theorem xcw.B (C : XC G lo hi p s m args c cc nL own) {index n maxL d : Nat} {y : MethodName} {bytes : ByteArray} {ret : Option FieldType} (h : xcw own index n y bytes maxL ret) (hR : xroom R (d + 1)) : CallB R s args own index y bytes maxL ret (Cond.code y bytes maxL ret :: TG) (xrm d) 0 0 n := by
  obtain ⟨h1, h2, h3, h4, h5⟩ := h
  have ht := C.2.2.2.2.1
  refine callB_of n ht (fun w hw => ?_) rfl rfl rfl (ht _ h2) (ht _ h1) h4 ⟨hR.1, ?_⟩
  · rcases List.mem_cons.mp hw with q | q
    · rw [q]; exact ⟨h3, tg_good _ h3⟩
    · exact ⟨q, tg_good _ q⟩
  · have := hR.2
    show 8 + (maxL + 11) + (60 * d + 60) ≤ R.locals
    omega
theorem x_callV (C : XC G lo hi p s m args c cc nL own) {index n maxL d : Nat} {y : MethodName} {bytes : ByteArray} {ret : Option FieldType} {a ci : Nat} {As st0 : List Value} {v : Option Value} {σ' : LH} {T : u_T} {N : Nat} (hR : xroom R (d + 1)) (hM : xM G lo hi l y bytes maxL ret d (.ref (G.2.2.1 + a) :: As) σ v σ') (hw : xcv own index n y bytes maxL ret) (ha : xin lo hi a (1, ci, 0)) (hc : xcl[ci]? = some (y.cls, T, N)) (hn : As.length = n) (hst : st0 = As.reverse ++ .ref (G.2.2.1 + a) :: st) (hW : (st.map fun v => v.category).sum ≤ 8) (hcs : cells ≤ R.cells ∧ slots ≤ R.slots) (hdg : decode cc pc = .ok (.invokevirtual index, 3)) (k : XJ G lo hi p l e R s m args below meth c nL Q cells slots (pc + 3) lv (v.toList ++ st) σ') : XJ G lo hi p l e R s m args below meth c nL Q cells slots pc lv st0 σ := by
  intro H locs ls hl hP ho hS
  have ht := C.2.2.2.2.1
  obtain ⟨r, g1, cell, q1, q2, q3, q4⟩ := (xP_cell hP ha rfl) 0 _ rfl
  have hr0 := Option.some.inj (g1.symm.trans hc)
  obtain ⟨hSl, hfc, -⟩ := C.2.2.2.2.2.1.1 ci _ hc
  have hr := va_runV (p := p) (l := l) (e := e) (R := R) (below := below) (meth := meth) (H := H) (locs := locs) (cells := cells) (slots := slots) (g := F0 m pc ls st0) (As := As) (rest := st) (C := y.cls) (b := G.2.2.1 + a) ⟨C.1, C.2.1, C.2.2.1, C.2.2.2.1, ht⟩ hM ⟨xcw.B C hw.1 hR, ht _ hw.2.1, ht _ hw.2.2⟩ ⟨xW.blind, ⟨cell, q1, by rw [q3]; rfl, by rw [q2]; exact hfc⟩, fun U hU hW2 => ⟨rfl, by subst hU; exact x_world C hP ho hS rfl hW2⟩⟩ rfl hn hl.1 hst (by show 2 * 0 + _ ≤ 8; omega) hdg hcs
  intro T2 hT X
  obtain ⟨v0, st₀, t, T', L, h0, X', hL, e1, e2, ⟨⟨v1, u, hv, ⟨rfl, rfl⟩, hb⟩, hz, hk⟩, stp⟩ := hr T2 hT X
  cases hv
  rw [h0] at hz hk
  obtain ⟨t2, a1, b1⟩ := k T'.heap (locs ++ L) ls hl (by rw [e1]; exact hb.1) hb.2.1 ⟨Nat.le_trans hS.1 (by rw [e1]; exact hz), fun q h1 h2 => by rw [e1, hk q (Nat.lt_of_lt_of_le h1 hS.1) h2]; exact hS.2.1 q h1 h2, fun q hq => by
      rcases List.mem_append.mp hq with h | h
      · exact hS.2.2 q h
      · exact hL q h⟩ T' rfl X'
  exact ⟨t2, stp t2 a1, b1⟩
theorem x_callS (C : XC G lo hi p s m args c cc nL own) {index n maxL d : Nat} {y : MethodName} {bytes : ByteArray} {ret : Option FieldType} {As st0 : List Value} {v : Option Value} {σ' : LH} (hR : xroom R (d + 1)) (hM : xM G lo hi l y bytes maxL ret d As σ v σ') (hw : xcw own index n y bytes maxL ret) (hsta : Cond.static y ∈ TG) (hn : As.length = n) (hst : st0 = As.reverse ++ st) (hW : (st.map fun v => v.category).sum ≤ 8) (hcs : cells ≤ R.cells ∧ slots ≤ R.slots) (hdg : decode cc pc = .ok (.invokestatic index, 3)) (k : XJ G lo hi p l e R s m args below meth c nL Q cells slots (pc + 3) lv (v.toList ++ st) σ') : XJ G lo hi p l e R s m args below meth c nL Q cells slots pc lv st0 σ := by
  intro H locs ls hl hP ho hS
  have ht := C.2.2.2.2.1
  have hr := va_runS (p := p) (l := l) (e := e) (R := R) (below := below) (meth := meth) (H := H) (locs := locs) (cells := cells) (slots := slots) (g := F0 m pc ls st0) (As := As) (rest := st) ⟨C.1, C.2.1, C.2.2.1, C.2.2.2.1, ht⟩ hM ⟨xcw.B C hw hR, ht _ hsta⟩ ⟨xW.blind, fun U hU hW2 => ⟨rfl, by subst hU; exact x_world C hP ho hS rfl hW2⟩⟩ rfl hn hl.1 hst (by show 2 * 0 + _ ≤ 8; omega) hdg hcs
  intro T2 hT X
  obtain ⟨v0, st₀, t, T', L, h0, X', hL, e1, e2, ⟨⟨v1, u, hv, ⟨rfl, rfl⟩, hb⟩, hz, hk⟩, stp⟩ := hr T2 hT X
  cases hv
  rw [h0] at hz hk
  obtain ⟨t2, a1, b1⟩ := k T'.heap (locs ++ L) ls hl (by rw [e1]; exact hb.1) hb.2.1 ⟨Nat.le_trans hS.1 (by rw [e1]; exact hz), fun q h1 h2 => by rw [e1, hk q (Nat.lt_of_lt_of_le h1 hS.1) h2]; exact hS.2.1 q h1 h2, fun q hq => by
      rcases List.mem_append.mp hq with h | h
      · exact hS.2.2 q h
      · exact hL q h⟩ T' rfl X'
  exact ⟨t2, stp t2 a1, b1⟩
/-- a contract out of a walk -/
theorem x_met {y : MethodName} {cc : ByteArray} {nL : Nat} {ret : Option FieldType} {d : Nat} {As : List Value} {v : Option Value} {σ' : LH} (own : String) (hown : y.cls = own) (hpl : plainName y.cls = true) (hlen : (lg_sl As).length ≤ nL) (body : ∀ (p : Program) (e : Env) (s : State) (m : MethodId) (below : List Frame) (meth : Method) (c : Code), XC G lo hi p s m As.toArray c cc nL own → meth.sig.returnType = ret → meth.locks = false → xroom (xrm d) d → XJ G lo hi p l e (xrm d) s m As.toArray below meth c nL (XQ G lo hi below As.toArray s v σ') 0 0 0 (lv_args 0 As) [] σ) : xM G lo hi l y cc nL ret d As σ v σ' := by
  refine Met.ofW (cc := cc) (maxL := nL) (ret := ret) hpl rfl ?_
  intro p e s m args below meth c s₁ B hml hv
  obtain ⟨rfl, hW⟩ := hv
  subst hown
  have hts := atoms_spec (ws := Cond.code y cc nL ret :: TG) B.pre
  have CC : XC G lo hi p s m As.toArray c cc nL y.cls := ⟨B.exec, B.bytes, hml, findClass_of_methodNamed B.named, fun w hw => hts w (List.mem_cons_of_mem _ hw), hW.2.2.1, hW.2.2.2⟩
  have hl := lv_entry As (n := nL) hlen
  rw [lg_entry_eq]
  exact body p e s m below meth c CC B.returns B.notSynchronized ⟨Nat.le_refl _, Nat.le_refl _⟩ s.heap [] _ hl hW.1 hW.2.1 va_S.rf
theorem x_mmax (C : XC G lo hi p s m args c cc nL own) {index : Nat} {x y : Int32} (hR : xroom R 1) (hw : Cond.methodLink own index Lib.Math.max.name ∈ TG) (hw2 : Cond.static Lib.Math.max.name ∈ TG) (hw3 : Cond.initialized "java/lang/Math" ∈ TG) (hw4 : Cond.code Lib.Math.max.name Lib.Math.max.code 2 (some .int) ∈ TG) (hW : (st.map fun v => v.category).sum ≤ 8) (hcs : cells ≤ R.cells ∧ slots ≤ R.slots) (hdg : decode cc pc = .ok (.invokestatic index, 3)) (k : XJ G lo hi p l e R s m args below meth c nL Q cells slots (pc + 3) lv (.int (if x < y then y else x) :: st) σ) : XJ G lo hi p l e R s m args below meth c nL Q cells slots pc lv (.int y :: .int x :: st) σ := fun H locs ls hl hP ho hS => va_mmax C.1 C.2.1 (C.2.2.1.trans hl.1.symm) C.2.2.2.1 (C.2.2.2.2.1 _ hw) (C.2.2.2.2.1 _ hw2) (C.2.2.2.2.1 _ hw3) (C.2.2.2.2.1 _ hw4) hR.1 (by have := hR.2; omega) hcs.1 hcs.2 hdg (k H locs ls hl hP ho hS)
theorem x_mmin (C : XC G lo hi p s m args c cc nL own) {index : Nat} {x y : Int32} (hR : xroom R 1) (hw : Cond.methodLink own index Lib.Math.min.name ∈ TG) (hw2 : Cond.static Lib.Math.min.name ∈ TG) (hw3 : Cond.initialized "java/lang/Math" ∈ TG) (hw4 : Cond.code Lib.Math.min.name Lib.Math.min.code 2 (some .int) ∈ TG) (hW : (st.map fun v => v.category).sum ≤ 8) (hcs : cells ≤ R.cells ∧ slots ≤ R.slots) (hdg : decode cc pc = .ok (.invokestatic index, 3)) (k : XJ G lo hi p l e R s m args below meth c nL Q cells slots (pc + 3) lv (.int (if y < x then y else x) :: st) σ) : XJ G lo hi p l e R s m args below meth c nL Q cells slots pc lv (.int y :: .int x :: st) σ := fun H locs ls hl hP ho hS => va_mmin C.1 C.2.1 (C.2.2.1.trans hl.1.symm) C.2.2.2.1 (C.2.2.2.2.1 _ hw) (C.2.2.2.2.1 _ hw2) (C.2.2.2.2.1 _ hw3) (C.2.2.2.2.1 _ hw4) hR.1 (by have := hR.2; omega) hcs.1 hcs.2 hdg (k H locs ls hl hP ho hS)
theorem x_mabs (C : XC G lo hi p s m args c cc nL own) {index : Nat} {x : Int32} (hR : xroom R 1) (hw : Cond.methodLink own index Lib.Math.abs.name ∈ TG) (hw2 : Cond.static Lib.Math.abs.name ∈ TG) (hw3 : Cond.initialized "java/lang/Math" ∈ TG) (hw4 : Cond.code Lib.Math.abs.name Lib.Math.abs.code 1 (some .int) ∈ TG) (hW : (st.map fun v => v.category).sum ≤ 8) (hcs : cells ≤ R.cells ∧ slots ≤ R.slots) (hdg : decode cc pc = .ok (.invokestatic index, 3)) (k : XJ G lo hi p l e R s m args below meth c nL Q cells slots (pc + 3) lv (.int (if 0 ≤ x then x else 0 - x) :: st) σ) : XJ G lo hi p l e R s m args below meth c nL Q cells slots pc lv (.int x :: st) σ := fun H locs ls hl hP ho hS => va_mabs C.1 C.2.1 (C.2.2.1.trans hl.1.symm) C.2.2.2.1 (C.2.2.2.2.1 _ hw) (C.2.2.2.2.1 _ hw2) (C.2.2.2.2.1 _ hw3) (C.2.2.2.2.1 _ hw4) hR.1 (by have := hR.2; omega) hcs.1 hcs.2 hdg (k H locs ls hl hP ho hS)
theorem x_mmax_long (C : XC G lo hi p s m args c cc nL own) {index : Nat} {x y : Int64} (hR : xroom R 1) (hw : Cond.methodLink own index Lib.MathLoose.max_long.x ∈ TG) (hw2 : Cond.static Lib.MathLoose.max_long.x ∈ TG) (hw3 : Cond.initialized "java/lang/Math" ∈ TG) (hw4 : Cond.code Lib.MathLoose.max_long.x Lib.MathLoose.max_long.code 4 (some .long) ∈ TG) (hW : (st.map fun v => v.category).sum ≤ 8) (hcs : cells ≤ R.cells ∧ slots ≤ R.slots) (hdg : decode cc pc = .ok (.invokestatic index, 3)) (k : XJ G lo hi p l e R s m args below meth c nL Q cells slots (pc + 3) lv (.long (if y < x then x else y) :: st) σ) : XJ G lo hi p l e R s m args below meth c nL Q cells slots pc lv (.long y :: .long x :: st) σ := fun H locs ls hl hP ho hS => va_mmax_long C.1 C.2.1 (C.2.2.1.trans hl.1.symm) C.2.2.2.1 (C.2.2.2.2.1 _ hw) (C.2.2.2.2.1 _ hw2) (C.2.2.2.2.1 _ hw3) (C.2.2.2.2.1 _ hw4) hR.1 (by have := hR.2; omega) hcs.1 hcs.2 hdg (k H locs ls hl hP ho hS)
theorem x_mmin_long (C : XC G lo hi p s m args c cc nL own) {index : Nat} {x y : Int64} (hR : xroom R 1) (hw : Cond.methodLink own index Lib.MathLoose.min_long.x ∈ TG) (hw2 : Cond.static Lib.MathLoose.min_long.x ∈ TG) (hw3 : Cond.initialized "java/lang/Math" ∈ TG) (hw4 : Cond.code Lib.MathLoose.min_long.x Lib.MathLoose.min_long.code 4 (some .long) ∈ TG) (hW : (st.map fun v => v.category).sum ≤ 8) (hcs : cells ≤ R.cells ∧ slots ≤ R.slots) (hdg : decode cc pc = .ok (.invokestatic index, 3)) (k : XJ G lo hi p l e R s m args below meth c nL Q cells slots (pc + 3) lv (.long (if y < x then y else x) :: st) σ) : XJ G lo hi p l e R s m args below meth c nL Q cells slots pc lv (.long y :: .long x :: st) σ := fun H locs ls hl hP ho hS => va_mmin_long C.1 C.2.1 (C.2.2.1.trans hl.1.symm) C.2.2.2.1 (C.2.2.2.2.1 _ hw) (C.2.2.2.2.1 _ hw2) (C.2.2.2.2.1 _ hw3) (C.2.2.2.2.1 _ hw4) hR.1 (by have := hR.2; omega) hcs.1 hcs.2 hdg (k H locs ls hl hP ho hS)
theorem x_copyi (C : XC G lo hi p s m args c cc nL own) {index a0 a1 n0 n1 : Nat} {sp dp n : Int32} (h0 : xin lo hi a0 (2, n0, 0)) (h1 : xin lo hi a1 (2, n1, 0)) (hR : xroom R 1) (hw : Cond.methodLink own index arraycopyName ∈ TG) (hw2 : Cond.native arraycopyName ∈ TG) (hw3 : Cond.static arraycopyName ∈ TG) (hw4 : Cond.initialized "java/lang/System" ∈ TG) (g1 : ¬ sp < 0) (g2 : ¬ dp < 0) (g3 : ¬ n < 0) (g4 : sp.toNatClampNeg + n.toNatClampNeg ≤ n0) (g5 : dp.toNatClampNeg + n.toNatClampNeg ≤ n1) (hW : (st.map fun v => v.category).sum ≤ 8) (hdg : decode cc pc = .ok (.invokestatic index, 3)) (k : XJ G lo hi p l e R s m args below meth c nL Q cells slots (pc + 3) lv st (stF σ a1 (va_cpy (σ.1 a0) (σ.1 a1) sp.toNatClampNeg dp.toNatClampNeg n.toNatClampNeg))) : XJ G lo hi p l e R s m args below meth c nL Q cells slots pc lv (.int n :: .int dp :: .ref (G.2.2.1 + a1) :: .int sp :: .ref (G.2.2.1 + a0) :: st) σ := by
  intro H locs ls hl hP ho hS
  have nn : ∀ z : Int32, ¬ z < 0 → z.toInt = (z.toNatClampNeg : Int) := by
    intro z hz
    have hz0 : (0 : Int) ≤ z.toInt := by
      have := Int32.not_lt.mp hz
      simpa using Int32.le_iff_toInt_le.mp this
    show z.toInt = ((z.toInt.toNat : Nat) : Int)
    omega
  have hnw : nativeFrameWords "java/lang/System" "arraycopy" 5 ≤ 60 := by decide +kernel
  have hloc : 2 * 0 + (st.map fun v => v.category).sum + (nativeFrameWords "java/lang/System" "arraycopy" 5 + 11) ≤ R.locals := by have := hR.2; omega
  intro T hT XX
  have hc0 : H[G.2.2.1 + a0]? = some (vp_cell (G.2.1 0) (n0, .inl (σ.1 a0))) := xP_cell hP h0 rfl 0 _ rfl
  have hc1 : H[G.2.2.1 + a1]? = some (vp_cell (G.2.1 0) (n1, .inl (σ.1 a1))) := xP_cell hP h1 rfl 0 _ rfl
  obtain ⟨-, k0, hk0, cm0, hkk0⟩ := (C.2.2.2.2.2.1.2 0 _ rfl).1 n0 (fun j => .int (σ.1 a0 j))
  obtain ⟨-, k1, hk1, cm1, hkk1⟩ := (C.2.2.2.2.2.1.2 0 _ rfl).1 n1 (fun j => .int (σ.1 a1 j))
  obtain ⟨vm', X', step⟩ := XX.arraycopy C.1 C.2.2.2.1 (C.2.2.2.2.1 _ hw) (C.2.2.2.2.1 _ hw2) (C.2.2.2.2.1 _ hw3) (C.2.2.2.2.1 _ hw4) (src := G.2.2.1 + a0) (dst := G.2.2.1 + a1) (cs := vp_cell (G.2.1 0) (n0, .inl (σ.1 a0))) (cd := vp_cell (G.2.1 0) (n1, .inl (σ.1 a1))) (srcPos := sp) (destPos := dp) (n := n) (by rw [hT]; exact hc0) (by rw [hT]; exact hc1)
    (fun _ h => by cases h) (fun _ h => by cases h) (fun h => by cases h) (fun h => by cases h) hk0 hk1 hkk0 hkk1 (by simp [refKind]) g1 g2 g3
    (by rw [nn sp g1, nn n g3]; show ¬ _ > ((arrV (G.2.1 0) n0 (fun j => .int (σ.1 a0 j))).slots.size : Int); rw [arrV_size]; omega)
    (by rw [nn dp g2, nn n g3]; show ¬ _ > ((arrV (G.2.1 0) n1 (fun j => .int (σ.1 a1 j))).slots.size : Int); rw [arrV_size]; omega)
    (fun vm₁ _ i hi => by
      have e : (vp_cell (G.2.1 0) (n0, .inl (σ.1 a0))).slots.getD (sp.toNatClampNeg + i) .null = .int (σ.1 a0 (sp.toNatClampNeg + i)) := by
        show (arrV (G.2.1 0) n0 (fun j => .int (σ.1 a0 j))).slots.getD _ _ = _
        rw [Array.getD_eq_getD_getElem?, arrV_read _ _ (by omega)]
        rfl
      refine ⟨?_, ?_⟩
      · rw [e]
        rfl
      · rw [e]
        exact trivial)
    (g := F0 m pc ls (.int n :: .int dp :: .ref (G.2.2.1 + a1) :: .int sp :: .ref (G.2.2.1 + a0) :: st)) rfl (by rw [C.2.2.1]; exact hl.1) (rest := st) rfl (by rw [C.2.1]; exact hdg) hR.1 hloc
  have e1 : copied (vp_cell (G.2.1 0) (n0, .inl (σ.1 a0))) (vp_cell (G.2.1 0) (n1, .inl (σ.1 a1))) sp dp n = vp_cell (G.2.1 0) (n1, .inl (va_cpy (σ.1 a0) (σ.1 a1) sp.toNatClampNeg dp.toNatClampNeg n.toNatClampNeg)) := va_copied (fun z => .int z) (G.2.1 0) (G.2.1 0) (σ.1 a0) (σ.1 a1) g4
  rw [e1] at X' step
  generalize hcell : vp_cell (G.2.1 0) (n1, .inl (va_cpy (σ.1 a0) (σ.1 a1) sp.toNatClampNeg dp.toNatClampNeg n.toNatClampNeg)) = cl at X' step
  have hlt : G.2.2.1 + a1 < H.size := (Array.getElem?_eq_some_iff.mp hc1).1
  have hheap : ((T.setVm vm').setCell (G.2.2.1 + a1) cl).heap = H.setIfInBounds (G.2.2.1 + a1) cl := by rw [← hT]; rfl
  have oq : ∀ q : Nat, q ≠ G.2.2.1 + a1 → (H.setIfInBounds (G.2.2.1 + a1) cl)[q]? = H[q]? := fun q hq => by simp [Array.getElem?_setIfInBounds, Ne.symm hq]
  have hnew : (H.setIfInBounds (G.2.2.1 + a1) cl)[G.2.2.1 + a1]? = some cl := by simp [Array.getElem?_setIfInBounds, hlt]
  obtain ⟨t, a2, b2⟩ := k _ _ ls hl (xP_set (a := a1) (e := .inl (G.2.1 0, n1, .inl (va_cpy (σ.1 a0) (σ.1 a1) sp.toNatClampNeg dp.toNatClampNeg n.toNatClampNeg))) hP (by unfold xE; rw [h1.1]; simp [stF, xEf]) (by show (H.setIfInBounds (G.2.2.1 + a1) cl)[G.2.2.1 + a1]? = some (vp_cell _ _); rw [hnew, ← hcell]) oq (fun b hb => xE_stF hb)) ho ⟨by simp; exact hS.1, fun q z1 z2 => by
      rw [oq q (fun e => z2 (by rw [e]; exact xA_in h1))]
      exact hS.2.1 q z1 z2, fun q hq => by
      rcases List.mem_append.mp hq with h | h
      · exact hS.2.2 q h
      · obtain ⟨z, -, hz⟩ := List.mem_map.mp h
        rw [← hz]
        exact xA_in h1⟩ _ hheap X'
  exact ⟨t, step t a2, b2⟩
end XR2
