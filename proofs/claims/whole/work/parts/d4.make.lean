/-! objects in the making: what the heap holds while a constructor runs; the judgement and its rows -/
def szf (ci j : Nat) : Int32 :=
  if ci = 0 then (if j = 7 then -1 else 0)
  else if ci = 1 then (if j = 7 ∨ j = 15 ∨ j = 16 then -1 else 0)
  else if ci = 2 then (if j = 2 then 1023 else if j = 3 then -1 else 0)
  else if ci = 4 then (if j = 5 then -1 else 0)
  else if ci = 5 then (if j = 10 then -1 else 0)
  else if ci = 9 then (if j = 3 then -1 else 0)
  else if ci = 12 then (if j = 35 ∨ j = 39 then -1 else 0)
  else 0
/-- what both objects hold when they are made -/
def sz0 : LH := (fun a j => if (xkd a).1 = 1 then szf (xkd a).2.1 j else 0, fun _ _ => 0, 29, 571)
/-- n cells are made: those of E are as E says, the others as they stay -/
def yH (G : XG) (n : Nat) (E : List (Nat × va_E)) (H : Heap) : Prop :=
  H.size = G.2.2.1 + (n + 1) ∧ (∀ (i : Nat) (q : Nat × va_E), E[i]? = some q → 1 ≤ q.1 ∧ q.1 ≤ n ∧ va_at G.1 xcl (G.2.2.1 + q.1, q.2) H) ∧ (∀ (i j : Nat) (q r : Nat × va_E), E[i]? = some q → E[j]? = some r → q.1 = r.1 → i = j) ∧
  ∀ a, 1 ≤ a → a ≤ n → (∀ (i : Nat) (q : Nat × va_E), E[i]? = some q → q.1 ≠ a) → ∀ e, xE G sz0 a = some e → va_at G.1 xcl (G.2.2.1 + a, e) H
theorem yH.push {G : XG} {n : Nat} {E : List (Nat × va_E)} {H H1 : Heap} (h : yH G n E H) {v : va_E} (hz : H1.size = H.size + 1) (ho : ∀ q : Nat, q < H.size → H1[q]? = H[q]?) (hv : va_at G.1 xcl (G.2.2.1 + (n + 1), v) H1) : yH G (n + 1) ((n + 1, v) :: E) H1 := by
  obtain ⟨h1, h2, h3, h4⟩ := h
  refine ⟨by rw [hz, h1]; omega, fun i q hq => ?_, fun i j q r hq hr he => ?_, fun a ha1 ha2 hE x hx => ?_⟩
  · cases i with
    | zero => simp at hq; subst hq; exact ⟨by simp, by simp, hv⟩
    | succ i =>
      simp at hq
      obtain ⟨g1, g2, g3⟩ := h2 i q hq
      exact ⟨g1, by omega, va_at.kept g3 (ho _ (by show G.2.2.1 + q.1 < _; omega))⟩
  · cases i with
    | zero =>
      cases j with
      | zero => rfl
      | succ j => simp at hq hr; subst hq; have := (h2 j r hr).2.1; simp at he; omega
    | succ i =>
      cases j with
      | zero => simp at hq hr; subst hr; have := (h2 i q hq).2.1; simp at he; omega
      | succ j => simp at hq hr; rw [h3 i j q r hq hr he]
  · have hne : a ≠ n + 1 := fun e => hE 0 (n + 1, v) rfl e.symm
    exact va_at.kept (h4 a ha1 (by omega) (fun i q hq => hE (i + 1) q (by simpa using hq)) x hx) (ho _ (by show G.2.2.1 + a < _; omega))
theorem yH.done {G : XG} {n a : Nat} {v w : va_E} {E : List (Nat × va_E)} {H : Heap} (h : yH G n ((a, v) :: E) H) (hx : xE G sz0 a = some w) (hv : va_at G.1 xcl (G.2.2.1 + a, v) H → va_at G.1 xcl (G.2.2.1 + a, w) H) : yH G n E H := by
  obtain ⟨h1, h2, h3, h4⟩ := h
  refine ⟨h1, fun i q hq => h2 (i + 1) q (by simpa using hq), fun i j q r hq hr he => by have := h3 (i + 1) (j + 1) q r (by simpa using hq) (by simpa using hr) he; omega, fun b hb1 hb2 hE x hx' => ?_⟩
  by_cases hb : b = a
  · subst hb
    rw [hx] at hx'
    cases hx'
    exact hv (h2 0 _ rfl).2.2
  · refine h4 b hb1 hb2 (fun i q hq => ?_) x hx'
    cases i with
    | zero => simp at hq; subst hq; exact fun e => hb e.symm
    | succ i => exact hE i q (by simpa using hq)
theorem yH.swap {G : XG} {n : Nat} {q r : Nat × va_E} {E : List (Nat × va_E)} {H : Heap} (h : yH G n (q :: r :: E) H) : yH G n (r :: q :: E) H := by
  obtain ⟨h1, h2, h3, h4⟩ := h
  have f : ∀ (i : Nat) (x : Nat × va_E), (r :: q :: E)[i]? = some x → (q :: r :: E)[if i = 0 then 1 else if i = 1 then 0 else i]? = some x := by
    intro i x hx
    match i, hx with
    | 0, hx => simpa using hx
    | 1, hx => simpa using hx
    | i + 2, hx => simpa using hx
  refine ⟨h1, fun i x hx => h2 _ x (f i x hx), fun i j x y hx hy he => ?_, fun a ha1 ha2 hE x hx => h4 a ha1 ha2 (fun i y hy => ?_) x hx⟩
  · have := h3 _ _ x y (f i x hx) (f j y hy) he
    split at this <;> split at this <;> (try split at this) <;> (try split at this) <;> omega
  · match i, hy with
    | 0, hy => exact hE 1 y (by simpa using hy)
    | 1, hy => exact hE 0 y (by simpa using hy)
    | i + 2, hy => exact hE (i + 2) y (by simpa using hy)
theorem yH.set {G : XG} {n i a : Nat} {v w : va_E} {E : List (Nat × va_E)} {H H1 : Heap} (h : yH G n E H) (hi : E[i]? = some (a, v)) (hz : H1.size = H.size) (ho : ∀ q : Nat, q ≠ G.2.2.1 + a → H1[q]? = H[q]?) (hv : va_at G.1 xcl (G.2.2.1 + a, w) H1) : yH G n (E.set i (a, w)) H1 := by
  obtain ⟨h1, h2, h3, h4⟩ := h
  have hlt : i < E.length := (List.getElem?_eq_some_iff.mp hi).1
  have f : ∀ (j : Nat) (q : Nat × va_E), (E.set i (a, w))[j]? = some q → (j = i ∧ q = (a, w)) ∨ (j ≠ i ∧ E[j]? = some q) := by
    intro j q hq
    by_cases hj : j = i
    · subst hj
      rw [List.getElem?_set_self hlt] at hq
      cases hq
      exact Or.inl ⟨rfl, rfl⟩
    · rw [List.getElem?_set_ne (Ne.symm hj)] at hq
      exact Or.inr ⟨hj, hq⟩
  have g : ∀ (j : Nat) (q : Nat × va_E), (E.set i (a, w))[j]? = some q → ∃ r, E[j]? = some r ∧ r.1 = q.1 := by
    intro j q hq
    rcases f j q hq with ⟨rfl, rfl⟩ | ⟨-, hq'⟩
    · exact ⟨_, hi, rfl⟩
    · exact ⟨q, hq', rfl⟩
  refine ⟨by rw [hz, h1], fun j q hq => ?_, fun j k q r hq hr he => ?_, fun b hb1 hb2 hE x hx => ?_⟩
  · rcases f j q hq with ⟨rfl, rfl⟩ | ⟨hj, hq'⟩
    · exact ⟨(h2 j _ hi).1, (h2 j _ hi).2.1, hv⟩
    · refine ⟨(h2 j _ hq').1, (h2 j _ hq').2.1, va_at.kept (h2 j _ hq').2.2 (ho _ (fun e => hj (h3 j i _ _ hq' hi ?_)))⟩
      show q.1 = a
      have e' : G.2.2.1 + q.1 = G.2.2.1 + a := e
      omega
  · obtain ⟨x, hx, ex⟩ := g j q hq
    obtain ⟨y, hy, ey⟩ := g k r hr
    exact h3 j k x y hx hy (by rw [ex, ey, he])
  · have hba : b ≠ a := fun e => hE i (a, w) (List.getElem?_set_self hlt) e.symm
    refine va_at.kept (h4 b hb1 hb2 (fun j q hq => ?_) x hx) (ho _ (fun e => hba (by have e' : G.2.2.1 + b = G.2.2.1 + a := e; omega)))
    by_cases hj : j = i
    · subst hj
      rw [hi] at hq
      cases hq
      exact fun e => hba e.symm
    · exact hE j q (by rw [List.getElem?_set_ne (Ne.symm hj)]; exact hq)
/-- the words of the tables that don't go by themselves -/
def yNw : List (String × Nat × MethodName × String) := [("LostPlaces", 9, ⟨"LostPlaces$Tape", "<init>", "()V"⟩, "LostPlaces"), ("LostPlaces", 18, ⟨"LostPlaces$Room", "<init>", "()V"⟩, "LostPlaces"), ("LostPlaces$TasteReader", 11, ⟨"LostPlaces$Taste", "<init>", "()V"⟩, "LostPlaces"), ("LostPlaces", 78, ⟨"LostPlaces$Hall", "<init>", "()V"⟩, "LostPlaces"), ("LostPlaces$Guess", 11, ⟨"LostPlaces$Hall", "<init>", "()V"⟩, "LostPlaces"), ("LostPlaces$Game", 13, ⟨"LostPlaces$Hall", "<init>", "()V"⟩, "LostPlaces"), ("LostPlaces$Branches", 47, ⟨"LostPlaces$Hall", "<init>", "()V"⟩, "LostPlaces"), ("LostPlaces", 125, ⟨"LostPlaces$Taste", "<init>", "()V"⟩, "LostPlaces")]
def yN (U : State) : Prop := (∀ w ∈ yNw, va_Nw (.methodLinkNest w.1 w.2.1 w.2.2.1 w.2.2.2) U) ∧ va_AO R_Hall U ∧ va_AO R_Taste U
theorem yN.warm {s U : State} (hW : s.WarmedH U.vm) (h : yN s) : yN U := ⟨fun w hw => va_Nw.warmM hW (h.1 w hw), va_AO.moved hW.alike h.2.1, va_AO.moved hW.alike h.2.2⟩
theorem yN.same {u U : State} (hv : U.vm = u.vm) (h : yN u) : yN U := by
  have ha : u.vm.Alike U.vm := by rw [hv]; exact Vm.Alike.refl _
  exact ⟨fun w hw => va_Nw.same rfl hv.symm (h.1 w hw), va_AO.moved ha h.2.1, va_AO.moved ha h.2.2⟩
def yW (G : XG) (hi n : Nat) (E : List (Nat × va_E)) (U : State) : Prop := yH G n E U.heap ∧ va_K G.1 xcl (xty G) U ∧ xS G (xA G 1 hi) U U.heap ∧ yN U
/-- from here the walk comes to Q, whatever heap holds the cells made so far -/
def YJ (G : XG) (hi : Nat) (p : Program) (l : Launch) (e : Env) (R : Room) (s : State) (m : MethodId) (args : Array Value) (below : List Frame) (meth : Method) (c : Code) (nL : Nat) (Q : State → Prop) (cells slots : Nat) (pc : Nat) (lv : List (Nat × Value)) (st : List Value) (n : Nat) (E : List (Nat × va_E)) : Prop :=
  ∀ (H : Heap) (locs : List Loc) (ls : Array Slot), lv_has ls nL lv → yH G n E H → H.size = s.heap.size + cells → va_S (xA G 1 hi) s.heap H locs → W p l e R s m args below meth c H locs cells slots Q (F0 m pc ls st)
/-- a field of one's own, put for the first time -/
def yfp (own : String) (index ci j : Nat) (ty : FieldType) : Prop := ∃ (Cn : String) (T : u_T) (N : Nat) (ty0 : Nat → FieldType), xcl[ci]? = some (Cn, T, N) ∧ j < N ∧ Cond.fieldLink own index Cn (T j).2.1 (T j).2.2.1 ∈ TG ∧ (T j).1 = Cn ∧ (∀ w ∈ u_ws Cn T N, w ∈ TG) ∧ ((T j).2.2.2 = true ∧ (T j).1 = own) ∧ parseFieldDescriptor (T j).2.2.1 = some ty ∧ (∀ k, k < N → parseFieldDescriptor (T k).2.2.1 = some (ty0 k)) ∧ (∀ a, a < N → ∀ b, b < N → a ≠ b → (T a).2.1 ≠ (T b).2.1)
/-- a class of which one makes an object -/
def ynw (own : String) (index ci N : Nat) (fs : List Value) : Prop := ∃ (Cn : String) (T : u_T) (ty : Nat → FieldType), xcl[ci]? = some (Cn, T, N) ∧ (∀ w ∈ u_ws Cn T N, w ∈ TG) ∧ (∀ k, k < N → parseFieldDescriptor (T k).2.2.1 = some (ty k)) ∧ Cond.classLink own index Cn ∈ TG ∧ Cond.instantiable Cn N ∈ TG ∧ Cond.initialized Cn ∈ TG ∧ ∀ j, j < N → defaultValue (ty j) = vp_V fs j
def yQc (G : XG) (hi n : Nat) (E : List (Nat × va_E)) : Array Value → State → Outcome → State → Prop := fun _ st oc t => (oc = .returned none ∧ yW G hi n E t) ∧ va_F (xA G 1 hi) st t
def yrm (d mc ms : Nat) : Room := { frames := d, cells := mc, slots := ms, locals := 60 * d + 60 }
/-- a constructor's contract -/
def yM (G : XG) (hi : Nat) (l : Launch) (y : MethodName) (cc : ByteArray) (nL d mc ms : Nat) (As : List Value) (n : Nat) (E : List (Nat × va_E)) (n' : Nat) (E' : List (Nat × va_E)) : Prop :=
  Met l y (Cond.code y cc nL none :: TG) (yrm d mc ms) (va_Pc As (yW G hi n E)) (yQc G hi n' E') mc ms (xA G 1 hi)
theorem yW.blind {G : XG} {hi n : Nat} {E : List (Nat × va_E)} {As : List Value} : FrameBlind (va_Pc As (yW G hi n E)) := fun a U g mk q => ⟨q.1, q.2.1, va_K.moved (u := U) (U := U.calling g mk a) (Vm.Alike.refl U.vm) q.2.2.1, xS.same (u := U) (U := U.calling g mk a) rfl q.2.2.2.1, yN.same (u := U) (U := U.calling g mk a) rfl q.2.2.2.2⟩
section YR
variable {G : XG} {hi : Nat} {p : Program} {l : Launch} {e : Env} {R : Room} {s : State} {m : MethodId} {args : Array Value} {below : List Frame} {meth : Method} {c : Code} {nL : Nat} {Q : State → Prop} {cells slots : Nat}
variable {cc : ByteArray} {own : String} {pc n : Nat} {lv lv' : List (Nat × Value)} {st : List Value} {E : List (Nat × va_E)}
theorem y_iconst (C : XC G 1 hi p s m args c cc nL own) {i : Int} {v : Int32} (hdg : decode cc pc = .ok (.iconst i, 1)) (hv : Int32.ofInt i = v) (k : YJ G hi p l e R s m args below meth c nL Q cells slots (pc + 1) lv (.int v :: st) n E) : YJ G hi p l e R s m args below meth c nL Q cells slots pc lv st n E := fun H locs ls h hP hz hS => lv_iconst C.1 C.2.1 hdg hv (k H locs ls h hP hz hS)
theorem y_bipush (C : XC G 1 hi p s m args c cc nL own) {i : Int} {v : Int32} (hdg : decode cc pc = .ok (.bipush i, 2)) (hv : (Int8.ofInt i).toInt32 = v) (k : YJ G hi p l e R s m args below meth c nL Q cells slots (pc + 2) lv (.int v :: st) n E) : YJ G hi p l e R s m args below meth c nL Q cells slots pc lv st n E := fun H locs ls h hP hz hS => lv_bipush C.1 C.2.1 hdg hv (k H locs ls h hP hz hS)
theorem y_sipush (C : XC G 1 hi p s m args c cc nL own) {i : Int} {v : Int32} (hdg : decode cc pc = .ok (.sipush i, 3)) (hv : (Int16.ofInt i).toInt32 = v) (k : YJ G hi p l e R s m args below meth c nL Q cells slots (pc + 3) lv (.int v :: st) n E) : YJ G hi p l e R s m args below meth c nL Q cells slots pc lv st n E := fun H locs ls h hP hz hS => lv_sipush C.1 C.2.1 hdg hv (k H locs ls h hP hz hS)
theorem y_lconst (C : XC G 1 hi p s m args c cc nL own) {i : Fin 2} {v : Int64} (hdg : decode cc pc = .ok (.lconst i, 1)) (hv : Int64.ofNat (i : Nat) = v) (k : YJ G hi p l e R s m args below meth c nL Q cells slots (pc + 1) lv (.long v :: st) n E) : YJ G hi p l e R s m args below meth c nL Q cells slots pc lv st n E := fun H locs ls h hP hz hS => lv_lconst C.1 C.2.1 hdg hv (k H locs ls h hP hz hS)
theorem y_iload_n (C : XC G 1 hi p s m args c cc nL own) {q : Fin 4} {x : Int32} (hdg : decode cc pc = .ok (.iload_n q, 1)) (i : Nat) (hl : lv[i]? = some ((q : Nat), .int x)) (k : YJ G hi p l e R s m args below meth c nL Q cells slots (pc + 1) lv (.int x :: st) n E) : YJ G hi p l e R s m args below meth c nL Q cells slots pc lv st n E := fun H locs ls h hP hz hS => lv_iload_n C.1 C.2.1 hdg rfl (lv_at h i hl) (k H locs ls h hP hz hS)
theorem y_iload (C : XC G 1 hi p s m args c cc nL own) {q : Nat} {x : Int32} (hdg : decode cc pc = .ok (.iload q, 2)) (i : Nat) (hl : lv[i]? = some (q, .int x)) (k : YJ G hi p l e R s m args below meth c nL Q cells slots (pc + 2) lv (.int x :: st) n E) : YJ G hi p l e R s m args below meth c nL Q cells slots pc lv st n E := fun H locs ls h hP hz hS => lv_iload C.1 C.2.1 hdg (lv_at h i hl) (k H locs ls h hP hz hS)
theorem y_aload_n (C : XC G 1 hi p s m args c cc nL own) {q : Fin 4} {x : Nat} (hdg : decode cc pc = .ok (.aload_n q, 1)) (i : Nat) (hl : lv[i]? = some ((q : Nat), .ref x)) (k : YJ G hi p l e R s m args below meth c nL Q cells slots (pc + 1) lv (.ref x :: st) n E) : YJ G hi p l e R s m args below meth c nL Q cells slots pc lv st n E := fun H locs ls h hP hz hS => lv_aload_n C.1 C.2.1 hdg rfl (lv_at h i hl) (k H locs ls h hP hz hS)
theorem y_aload (C : XC G 1 hi p s m args c cc nL own) {q : Nat} {x : Nat} (hdg : decode cc pc = .ok (.aload q, 2)) (i : Nat) (hl : lv[i]? = some (q, .ref x)) (k : YJ G hi p l e R s m args below meth c nL Q cells slots (pc + 2) lv (.ref x :: st) n E) : YJ G hi p l e R s m args below meth c nL Q cells slots pc lv st n E := fun H locs ls h hP hz hS => lv_aload C.1 C.2.1 hdg (lv_at h i hl) (k H locs ls h hP hz hS)
theorem y_istore_n (C : XC G 1 hi p s m args c cc nL own) {q : Fin 4} {i : Nat} {x : Int32} (hdg : decode cc pc = .ok (.istore_n q, 1)) (hqi : (q : Nat) = i) (hn : i < nL) (hl : (i, Value.int x) :: lv.filter (fun q => !(q.1 == i) && !(q.1 + 1 == i && q.2.category == 2)) = lv') (k : YJ G hi p l e R s m args below meth c nL Q cells slots (pc + 1) lv' st n E) : YJ G hi p l e R s m args below meth c nL Q cells slots pc lv (.int x :: st) n E := fun H locs ls h hP hz hS => lv_istore_n C.1 C.2.1 hdg hqi h hn hl (fun ls' h' => k H locs ls' h' hP hz hS)
theorem y_istore (C : XC G 1 hi p s m args c cc nL own) {i : Nat} {x : Int32} (hdg : decode cc pc = .ok (.istore i, 2)) (hn : i < nL) (hl : (i, Value.int x) :: lv.filter (fun q => !(q.1 == i) && !(q.1 + 1 == i && q.2.category == 2)) = lv') (k : YJ G hi p l e R s m args below meth c nL Q cells slots (pc + 2) lv' st n E) : YJ G hi p l e R s m args below meth c nL Q cells slots pc lv (.int x :: st) n E := fun H locs ls h hP hz hS => lv_istore C.1 C.2.1 hdg h hn hl (fun ls' h' => k H locs ls' h' hP hz hS)
theorem y_iinc (C : XC G 1 hi p s m args c cc nL own) {i : Nat} {d : Int} {x v : Int32} (hdg : decode cc pc = .ok (.iinc i d, 3)) (j : Nat) (hk : lv[j]? = some (i, .int x)) (hv : v = x + Int32.ofInt d) (hn : i < nL) (hl : (i, Value.int v) :: lv.filter (fun q => !(q.1 == i) && !(q.1 + 1 == i && q.2.category == 2)) = lv') (k : YJ G hi p l e R s m args below meth c nL Q cells slots (pc + 3) lv' st n E) : YJ G hi p l e R s m args below meth c nL Q cells slots pc lv st n E := fun H locs ls h hP hz hS => lv_iinc C.1 C.2.1 hdg h hk hv.symm hn hl (fun ls' h' => k H locs ls' h' hP hz hS)
theorem y_dup (C : XC G 1 hi p s m args c cc nL own) {v : Value} (hdg : decode cc pc = .ok (.dup, 1)) (hv : v.category = 1) (k : YJ G hi p l e R s m args below meth c nL Q cells slots (pc + 1) lv (v :: v :: st) n E) : YJ G hi p l e R s m args below meth c nL Q cells slots pc lv (v :: st) n E := fun H locs ls h hP hz hS => lv_dup C.1 C.2.1 hdg hv (k H locs ls h hP hz hS)
theorem y_goto (C : XC G 1 hi p s m args c cc nL own) {off : Int} (tgt : Nat) (hdg : decode cc pc = .ok (.goto off, 3)) (ht : (pc : Int) + off = (tgt : Int)) (k : YJ G hi p l e R s m args below meth c nL Q cells slots tgt lv st n E) : YJ G hi p l e R s m args below meth c nL Q cells slots pc lv st n E := fun H locs ls h hP hz hS => lv_goto C.1 C.2.1 hdg ht (k H locs ls h hP hz hS)
theorem y_icmp_ge (C : XC G 1 hi p s m args c cc nL own) {x y : Int32} {off : Int} (tgt : Nat) (hdg : decode cc pc = .ok (.if_icmp .ge off, 3)) (ht : (pc : Int) + off = (tgt : Int)) (kt : y ≤ x → YJ G hi p l e R s m args below meth c nL Q cells slots tgt lv st n E) (kf : ¬ y ≤ x → YJ G hi p l e R s m args below meth c nL Q cells slots (pc + 3) lv st n E) : YJ G hi p l e R s m args below meth c nL Q cells slots pc lv (.int y :: .int x :: st) n E := fun H locs ls h hP hz hS => lv_icmp_ge C.1 C.2.1 hdg ht (fun q => kt q H locs ls h hP hz hS) (fun q => kf q H locs ls h hP hz hS)
theorem y_ldcS (C : XC G 1 hi p s m args c cc nL own) {index i : Nat} (hw : (own, index, i) ∈ xstr) (hdg : decode cc pc = .ok (.ldc index, 2)) (k : YJ G hi p l e R s m args below meth c nL Q cells slots (pc + 2) lv (.ref (G.2.2.2.1 i) :: st) n E) : YJ G hi p l e R s m args below meth c nL Q cells slots pc lv st n E := fun H locs ls h hP hz hS => va_ldcS C.1 C.2.1 C.2.2.2.1 (C.2.2.2.2.2.2.2.2.2.1 _ hw) hdg (k H locs ls h hP hz hS)
theorem y_E (C : XC G 1 hi p s m args c cc nL own) {E1 : List (Nat × va_E)} (hE : E = E1) (k : YJ G hi p l e R s m args below meth c nL Q cells slots pc lv st n E1) : YJ G hi p l e R s m args below meth c nL Q cells slots pc lv st n E := by subst hE; exact k
theorem y_swap (C : XC G 1 hi p s m args c cc nL own) {q r : Nat × va_E} (k : YJ G hi p l e R s m args below meth c nL Q cells slots pc lv st n (r :: q :: E)) : YJ G hi p l e R s m args below meth c nL Q cells slots pc lv st n (q :: r :: E) := fun H locs ls h hP hz hS => k H locs ls h hP.swap hz hS
theorem y_done (C : XC G 1 hi p s m args c cc nL own) {a : Nat} {v w : va_E} (hx : xE G sz0 a = some w) (hv : ∀ H : Heap, va_at G.1 xcl (G.2.2.1 + a, v) H → va_at G.1 xcl (G.2.2.1 + a, w) H) (k : YJ G hi p l e R s m args below meth c nL Q cells slots pc lv st n E) : YJ G hi p l e R s m args below meth c nL Q cells slots pc lv st n ((a, v) :: E) := fun H locs ls h hP hz hS => k H locs ls h (hP.done hx (hv H)) hz hS
theorem y_obj (C : XC G 1 hi p s m args c cc nL own) {idx : Nat} {a : Nat} (hw : Cond.methodLink own idx Lib.objectInit ∈ TG) (hw2 : Cond.instanceMethod Lib.objectInit ∈ TG) (hw3 : Cond.code Lib.objectInit ⟨#[0xb1]⟩ 1 none ∈ TG) (hR : xroom R 1) (hW : (st.map fun v => v.category).sum ≤ 8) (hdg : decode cc pc = .ok (.invokespecial idx, 3)) (k : YJ G hi p l e R s m args below meth c nL Q cells slots (pc + 3) lv st n E) : YJ G hi p l e R s m args below meth c nL Q cells slots pc lv (.ref a :: st) n E := fun H locs ls h hP hz hS => W.objInit C.1 C.2.1 C.2.2.2.1 (C.2.2.2.2.1 _ hw) (C.2.2.2.2.1 _ hw2) (C.2.2.2.2.1 _ hw3) rfl (by rw [C.2.2.1]; exact h.1) rfl hdg hR.1 (by show 2 * 0 + _ + 12 ≤ _; have := hR.2; omega) (k H locs ls h hP hz hS)
theorem y_new (C : XC G 1 hi p s m args c cc nL own) {index ci N n1 c1 s1 : Nat} {fs : List Value} (f : ynw own index ci N fs) (en : n + 1 = n1) (ec : cells + 1 = c1) (es : slots + N = s1) (hc : c1 ≤ R.cells) (hs : s1 ≤ R.slots) (hdg : decode cc pc = .ok (.new index, 3)) (k : YJ G hi p l e R s m args below meth c nL Q c1 s1 (pc + 3) lv (.ref (G.2.2.1 + n1) :: st) n1 ((n1, .inr (ci, fs)) :: E)) : YJ G hi p l e R s m args below meth c nL Q cells slots pc lv st n E := by
  subst en; subst ec; subst es
  intro H locs ls h hP hz hS
  obtain ⟨Cn, T, ty, h1, h2, h3, h4, h5, h6, h7⟩ := f
  have hKn := C.2.2.2.2.2.1.1 ci _ h1
  refine W.newcK C.1 C.2.1 C.2.2.2.1 (C.2.2.2.2.1 _ h4) (C.2.2.2.2.1 _ h5) (C.2.2.2.2.1 _ h6) rfl hdg hc hs hKn.2.1 hP.1 fun H1 kC hkC e1 z1 o1 => ?_
  refine k H1 locs ls h (hP.push (by rw [z1, hP.1]) (fun q hq => o1 q (by rw [← hP.1]; exact hq)) ⟨_, h1, (u_born ty C.2.2.2.2.1 h2 hKn hkC e1 h3).to h7⟩) (by rw [z1, ← hP.1]; omega) ⟨by have := hS.1; have := hP.1; omega, fun x g1 g2 => (o1 x (by have := hS.1; have := hP.1; omega)).trans (hS.2.1 x g1 g2), hS.2.2⟩
theorem y_newa0 (C : XC G 1 hi p s m args c cc nL own) {atype : ArrayType} {ty : FieldType} {tix N n1 c1 s1 : Nat} (en : n + 1 = n1) (ec : cells + 1 = c1) (es : slots + N = s1) {a0 : vp_A} {v : Int32} (hty : newarray.typeOf atype = ty) (hw : Cond.arrayClass ty ∈ TG) (hra : s.vm.findClass ("[" ++ ty.toString) = some (G.2.1 tix)) (ha : vp_cell (G.2.1 tix) a0 = arrV (G.2.1 tix) N (fun _ => defaultValue ty)) (hx : xE G sz0 n1 = some (.inl (G.2.1 tix, a0))) (hv0 : ¬ v < 0) (hv : v.toNatClampNeg = N) (hb : N * componentBytes ty ≤ 536870912) (hc : c1 ≤ R.cells) (hs : s1 ≤ R.slots) (hdg : decode cc pc = .ok (.newarray atype, 2)) (k : YJ G hi p l e R s m args below meth c nL Q c1 s1 (pc + 2) lv (.ref (G.2.2.1 + n1) :: st) n1 E) : YJ G hi p l e R s m args below meth c nL Q cells slots pc lv (.int v :: st) n E := by
  subst hty; subst en; subst ec; subst es
  intro H locs ls h hP hz hS
  refine va_newaK C.1 C.2.1 (C.2.2.2.2.1 _ hw) rfl hdg rfl hv0 hv hb hc hs hP.1 fun H1 cA e1 z1 o1 hAr hNm => ?_
  have hA : cA = G.2.1 tix := Option.some.inj (hNm.symm.trans hra)
  subst hA
  refine k H1 locs ls h (yH.done (hP.push (v := .inl (G.2.1 tix, a0)) (by rw [z1, hP.1]) (fun q hq => o1 q (by rw [← hP.1]; exact hq)) ?_) hx (fun q => q)) (by rw [z1, ← hP.1]; omega) ⟨by have := hS.1; have := hP.1; omega, fun x g1 g2 => (o1 x (by have := hS.1; have := hP.1; omega)).trans (hS.2.1 x g1 g2), hS.2.2⟩
  show H1[G.2.2.1 + (n + 1)]? = some (vp_cell _ _)
  rw [ha]
  exact e1
theorem sz_a {a t N y : Nat} (h : xkd a = (t, N, y)) (ht : t ≠ 1) : sz0.1 a = fun _ => 0 := by
  funext j
  simp [sz0, h, ht]
theorem y_newI (C : XC G 1 hi p s m args c cc nL own) {N n1 c1 s1 : Nat} {v : Int32} (en : n + 1 = n1) (ec : cells + 1 = c1) (es : slots + N = s1) (hw : Cond.arrayClass .int ∈ TG) (hk : xkd n1 = (2, N, 0)) (hv0 : ¬ v < 0) (hv : v.toNatClampNeg = N) (hb : N ≤ 20000) (hc : c1 ≤ R.cells) (hs : s1 ≤ R.slots) (hdg : decode cc pc = .ok (.newarray .int, 2)) (k : YJ G hi p l e R s m args below meth c nL Q c1 s1 (pc + 2) lv (.ref (G.2.2.1 + n1) :: st) n1 E) : YJ G hi p l e R s m args below meth c nL Q cells slots pc lv (.int v :: st) n E :=
  y_newa0 (atype := .int) (tix := 0) (a0 := (N, .inl (fun _ => 0))) C en ec es rfl hw (C.2.2.2.2.2.1.2 0 _ rfl).2 rfl (by unfold xE; rw [hk]; show xEf G _ _ _ _ _ = _; rw [sz_a hk (by decide)]; rfl) hv0 hv (by show N * 4 ≤ _; omega) hc hs hdg k
theorem y_newB (C : XC G 1 hi p s m args c cc nL own) {N n1 c1 s1 : Nat} {v : Int32} (en : n + 1 = n1) (ec : cells + 1 = c1) (es : slots + N = s1) (hw : Cond.arrayClass .byte ∈ TG) (hk : xkd n1 = (3, N, 0)) (hv0 : ¬ v < 0) (hv : v.toNatClampNeg = N) (hb : N ≤ 20000) (hc : c1 ≤ R.cells) (hs : s1 ≤ R.slots) (hdg : decode cc pc = .ok (.newarray .byte, 2)) (k : YJ G hi p l e R s m args below meth c nL Q c1 s1 (pc + 2) lv (.ref (G.2.2.1 + n1) :: st) n1 E) : YJ G hi p l e R s m args below meth c nL Q cells slots pc lv (.int v :: st) n E :=
  y_newa0 (atype := .byte) (tix := 1) (a0 := (N, .inl (fun _ => 0))) C en ec es rfl hw (C.2.2.2.2.2.1.2 1 _ rfl).2 rfl (by unfold xE; rw [hk]; show xEf G _ _ _ _ _ = _; rw [sz_a hk (by decide)]; rfl) hv0 hv (by show N * 1 ≤ _; omega) hc hs hdg k
theorem y_newZ (C : XC G 1 hi p s m args c cc nL own) {N n1 c1 s1 : Nat} {v : Int32} (en : n + 1 = n1) (ec : cells + 1 = c1) (es : slots + N = s1) (hw : Cond.arrayClass .boolean ∈ TG) (hk : xkd n1 = (4, N, 0)) (hv0 : ¬ v < 0) (hv : v.toNatClampNeg = N) (hb : N ≤ 20000) (hc : c1 ≤ R.cells) (hs : s1 ≤ R.slots) (hdg : decode cc pc = .ok (.newarray .boolean, 2)) (k : YJ G hi p l e R s m args below meth c nL Q c1 s1 (pc + 2) lv (.ref (G.2.2.1 + n1) :: st) n1 E) : YJ G hi p l e R s m args below meth c nL Q cells slots pc lv (.int v :: st) n E :=
  y_newa0 (atype := .boolean) (tix := 2) (a0 := (N, .inl (fun _ => 0))) C en ec es rfl hw (C.2.2.2.2.2.1.2 2 _ rfl).2 rfl (by unfold xE; rw [hk]; show xEf G _ _ _ _ _ = _; rw [sz_a hk (by decide)]; rfl) hv0 hv (by show N * 1 ≤ _; omega) hc hs hdg k
theorem y_newL (C : XC G 1 hi p s m args c cc nL own) {N n1 c1 s1 : Nat} {v : Int32} (en : n + 1 = n1) (ec : cells + 1 = c1) (es : slots + N = s1) (hw : Cond.arrayClass .long ∈ TG) (hk : xkd n1 = (5, N, 0)) (hv0 : ¬ v < 0) (hv : v.toNatClampNeg = N) (hb : N ≤ 20000) (hc : c1 ≤ R.cells) (hs : s1 ≤ R.slots) (hdg : decode cc pc = .ok (.newarray .long, 2)) (k : YJ G hi p l e R s m args below meth c nL Q c1 s1 (pc + 2) lv (.ref (G.2.2.1 + n1) :: st) n1 E) : YJ G hi p l e R s m args below meth c nL Q cells slots pc lv (.int v :: st) n E :=
  y_newa0 (atype := .long) (tix := 3) (a0 := (N, .inr (.inl (fun _ => 0)))) C en ec es rfl hw (C.2.2.2.2.2.1.2 3 _ rfl).2 rfl (by unfold xE; rw [hk]; show xEf G _ _ _ _ _ = _; rfl) hv0 hv (by show N * 8 ≤ _; omega) hc hs hdg k
theorem y_newqH (C : XC G 1 hi p s m args c cc nL own) {index N n1 c1 s1 : Nat} {v : Int32} (en : n + 1 = n1) (ec : cells + 1 = c1) (es : slots + N = s1) (hA : va_AO R_Hall s) (hw : Cond.classLink own index R_Hall ∈ TG) (hv0 : ¬ v < 0) (hv : v.toNatClampNeg = N) (hb : N ≤ 20000) (hc : c1 ≤ R.cells) (hs : s1 ≤ R.slots) (hdg : decode cc pc = .ok (.anewarray index, 3)) (k : YJ G hi p l e R s m args below meth c nL Q c1 s1 (pc + 3) lv (.ref (G.2.2.1 + n1) :: st) n1 ((n1, .inl (G.2.1 4, N, .inr (.inr (.inr (.inr (fun _ => none)))))) :: E)) : YJ G hi p l e R s m args below meth c nL Q cells slots pc lv (.int v :: st) n E := by
  subst hv; subst en; subst ec; subst es
  intro H locs ls h hP hz hS
  refine W.anew C.1 C.2.1 C.2.2.2.1 (C.2.2.2.2.1 _ hw) (va_AO.use hA) rfl hdg rfl hv0 (by omega) hc hs fun cA kA comp f1 f2 f3 f4 => ?_
  obtain ⟨kA2, comp2, -, -, -, g4⟩ := (C.2.2.2.2.2.1.2 4 _ rfl).2
  have hcA : cA = G.2.1 4 := Option.some.inj (f1.symm.trans g4)
  subst hcA
  rw [hP.1]
  refine k _ locs ls h (hP.push (by simp) (fun q hq => by rw [Array.getElem?_push, if_neg (Nat.ne_of_lt hq)]) ?_) (by simp; omega) ⟨by have := hS.1; simp; omega, fun x g1 g2 => (by rw [Array.getElem?_push, if_neg (by have := hS.1; omega)]; exact hS.2.1 x g1 g2), hS.2.2⟩
  show (H.push _)[G.2.2.1 + (n + 1)]? = some (vp_cell _ _)
  rw [← hP.1, Array.getElem?_push_size, vp_cell_q, arrV_new]
  rfl
theorem y_newqT (C : XC G 1 hi p s m args c cc nL own) {index N n1 c1 s1 : Nat} {v : Int32} (en : n + 1 = n1) (ec : cells + 1 = c1) (es : slots + N = s1) (hA : va_AO R_Taste s) (hw : Cond.classLink own index R_Taste ∈ TG) (hv0 : ¬ v < 0) (hv : v.toNatClampNeg = N) (hb : N ≤ 20000) (hc : c1 ≤ R.cells) (hs : s1 ≤ R.slots) (hdg : decode cc pc = .ok (.anewarray index, 3)) (k : YJ G hi p l e R s m args below meth c nL Q c1 s1 (pc + 3) lv (.ref (G.2.2.1 + n1) :: st) n1 ((n1, .inl (G.2.1 5, N, .inr (.inr (.inr (.inr (fun _ => none)))))) :: E)) : YJ G hi p l e R s m args below meth c nL Q cells slots pc lv (.int v :: st) n E := by
  subst hv; subst en; subst ec; subst es
  intro H locs ls h hP hz hS
  refine W.anew C.1 C.2.1 C.2.2.2.1 (C.2.2.2.2.1 _ hw) (va_AO.use hA) rfl hdg rfl hv0 (by omega) hc hs fun cA kA comp f1 f2 f3 f4 => ?_
  obtain ⟨kA2, comp2, -, -, -, g4⟩ := (C.2.2.2.2.2.1.2 5 _ rfl).2
  have hcA : cA = G.2.1 5 := Option.some.inj (f1.symm.trans g4)
  subst hcA
  rw [hP.1]
  refine k _ locs ls h (hP.push (by simp) (fun q hq => by rw [Array.getElem?_push, if_neg (Nat.ne_of_lt hq)]) ?_) (by simp; omega) ⟨by have := hS.1; simp; omega, fun x g1 g2 => (by rw [Array.getElem?_push, if_neg (by have := hS.1; omega)]; exact hS.2.1 x g1 g2), hS.2.2⟩
  show (H.push _)[G.2.2.1 + (n + 1)]? = some (vp_cell _ _)
  rw [← hP.1, Array.getElem?_push_size, vp_cell_q, arrV_new]
  rfl
theorem y_put (C : XC G 1 hi p s m args c cc nL own) {a index ci j i : Nat} {ty : FieldType} {v : Value} {fs : List Value} {E1 : List (Nat × va_E)} (f : xfp own index ci j ty) (hi' : E[i]? = some (a, .inr (ci, fs))) (hE : E.set i (a, .inr (ci, fs.set j v)) = E1) (hlt : j < fs.length) (hn : narrow ty v = v) (hfit : fits ty v = true) (ha : a < hi) (hdg : decode cc pc = .ok (.putfield index, 3)) (k : YJ G hi p l e R s m args below meth c nL Q cells slots (pc + 3) lv st n E1) : YJ G hi p l e R s m args below meth c nL Q cells slots pc lv (v :: .ref (G.2.2.1 + a) :: st) n E := by
  subst hE
  intro H locs ls hl hP hz hS
  obtain ⟨Cn, T, N, ty0, h1, h2, h3, h4, h5, h6, h7, h8, h9⟩ := f
  have hap := va_apart (own := own) C.2.2.2.2.1 h5 ty0 h8 h9 C.2.2.2.2.2.1 h1
  obtain ⟨ha1, ha2, r, g1, cell, q1, q2, q3, q4⟩ := hP.2.1 i _ hi'
  have hr : r = (Cn, T, N) := Option.some.inj (g1.symm.trans h1)
  subst hr
  obtain ⟨hSl, hfc, kC, hkC, hkind⟩ := C.2.2.2.2.2.1.1 ci _ h1
  obtain ⟨cf, kf, fi, f, hi2, hsl⟩ := hSl j h2
  have hlay := C.2.2.2.2.1 _ (h5 _ (u_in_lay h2))
  unfold u_lay at hlay
  rw [if_neg (by rw [h6]; decide)] at hlay
  have hst := (u_facts hfc hkC (u_lays C.2.2.2.2.1 h5 h2) hi2).1
  have h10 := u_store hfc hkC hkind hlay hi2 h7 hn hfit
  refine W.putK C.1 C.2.1 (f := f) ⟨C.2.2.2.1, C.2.2.2.2.1 _ h3, ⟨_, _, _, (by rw [h4] at hi2; exact hi2)⟩, hst⟩ (by rw [q2]; exact h10) q1 q3 (by rw [hsl]; exact k2_hasslot (q4 j h2)) rfl rfl hdg fun H' e1 e2 e3 => ?_
  rw [hsl] at e1 ⊢
  exact k H' _ ls hl (hP.set hi' e2 e3 ⟨_, h1, t_OB.to (V := updV (vp_V fs) j v) ⟨_, e1, q2, q3, t_set q4 hap h2 v⟩ (fun z _ => vp_updV_set hlt v z)⟩) (by rw [e2]; exact hz) (hS.put e2 e3 ⟨by show G.2.2.1 + 1 ≤ G.2.2.1 + a; omega, by show G.2.2.1 + a < G.2.2.1 + hi; omega⟩)
theorem y_putF (C : XC G 1 hi p s m args c cc nL own) (hinit : meth.name = "<init>") {a index ci j i : Nat} {ty : FieldType} {v : Value} {fs : List Value} {E1 : List (Nat × va_E)} (f : yfp own index ci j ty) (hi' : E[i]? = some (a, .inr (ci, fs))) (hE : E.set i (a, .inr (ci, fs.set j v)) = E1) (hlt : j < fs.length) (hn : narrow ty v = v) (hfit : fits ty v = true) (ha : a < hi) (hdg : decode cc pc = .ok (.putfield index, 3)) (k : YJ G hi p l e R s m args below meth c nL Q cells slots (pc + 3) lv st n E1) : YJ G hi p l e R s m args below meth c nL Q cells slots pc lv (v :: .ref (G.2.2.1 + a) :: st) n E := by
  subst hE
  intro H locs ls hl hP hz hS
  obtain ⟨Cn, T, N, ty0, h1, h2, h3, h4, h5, ⟨h6, hdecl⟩, h7, h8, h9⟩ := f
  have hap := va_apart (own := own) C.2.2.2.2.1 h5 ty0 h8 h9 C.2.2.2.2.2.1 h1
  obtain ⟨ha1, ha2, r, g1, cell, q1, q2, q3, q4⟩ := hP.2.1 i _ hi'
  have hr : r = (Cn, T, N) := Option.some.inj (g1.symm.trans h1)
  subst hr
  obtain ⟨hSl, hfc, kC, hkC, hkind⟩ := C.2.2.2.2.2.1.1 ci _ h1
  obtain ⟨cf, kf, fi, f, hi2, hsl⟩ := hSl j h2
  have hlay := C.2.2.2.2.1 _ (h5 _ (u_in_lay h2))
  unfold u_lay at hlay
  rw [if_pos h6] at hlay
  have hst := (u_facts hfc hkC (u_lays C.2.2.2.2.1 h5 h2) hi2).1
  have hcf : m.cls = cf := by
    obtain ⟨_, _, c', _, _, _, -, -, hf', -, -, -, hown2, -⟩ := Cond.laysFinal_spec hlay
    have e1 : c' = cf := by have := hi2.symm.trans hf'; simp at this; exact this.1.symm
    rw [hdecl] at hown2
    rw [← e1]; exact Option.some.inj (C.2.2.2.1.symm.trans hown2)
  have h10 := u_fits hfc hkC hkind (Or.inr hlay) hi2 h7 hn hfit
  refine W.putFinK C.1 C.2.1 C.2.2.2.1 (C.2.2.2.2.1 _ h3) (by rw [h4] at hi2; exact hi2) hst hcf hinit (by rw [q2]; exact h10) q1 q3 (by rw [hsl]; exact k2_hasslot (q4 j h2)) rfl rfl hdg fun H' e1 e2 e3 => ?_
  rw [hsl] at e1 ⊢
  exact k H' _ ls hl (hP.set hi' e2 e3 ⟨_, h1, t_OB.to (V := updV (vp_V fs) j v) ⟨_, e1, q2, q3, t_set q4 hap h2 v⟩ (fun z _ => vp_updV_set hlt v z)⟩) (by rw [e2]; exact hz) (hS.put e2 e3 ⟨by show G.2.2.1 + 1 ≤ G.2.2.1 + a; omega, by show G.2.2.1 + a < G.2.2.1 + hi; omega⟩)
theorem yH.one {G : XG} {H : Heap} {n i a : Nat} {v : va_E} {E : List (Nat × va_E)} (hP : yH G n E H) (hi' : E[i]? = some (a, v)) : va_P G.1 xcl [(G.2.2.1 + a, v)] H := by
  intro j q hq
  cases j with
  | zero => simp at hq; subst hq; exact (hP.2.1 i _ hi').2.2
  | succ j => simp at hq
theorem y_get (C : XC G 1 hi p s m args c cc nL own) {a index ci j i : Nat} {v : Value} {fs : List Value} (f : xfg own index ci j) (hi' : E[i]? = some (a, .inr (ci, fs))) (hq : fs[j]? = some v) (hdg : decode cc pc = .ok (.getfield index, 3)) (k : YJ G hi p l e R s m args below meth c nL Q cells slots (pc + 3) lv (v :: st) n E) : YJ G hi p l e R s m args below meth c nL Q cells slots pc lv (.ref (G.2.2.1 + a) :: st) n E := by
  intro H locs ls h hP hz hS
  obtain ⟨Cn, T, N, h1, h2, h3, h4, h5⟩ := f
  exact va_get (Ts := TG) (ref := Cn) C.1 C.2.1 C.2.2.2.2.1 h5 C.2.2.2.1 C.2.2.2.2.2.1 (hP.one hi') 0 rfl h1 j h2 (C.2.2.2.2.1 _ h3) (fun x hx => by rw [h4] at hx; exact hx) hq hdg (k H locs ls h hP hz hS)
theorem y_alen (C : XC G 1 hi p s m args c cc nL own) {a i tix N : Nat} {f : Nat → Option Nat} {v : Int32} {ty : FieldType} (hi' : E[i]? = some (a, .inl (G.2.1 tix, N, .inr (.inr (.inr (.inr f)))))) (ht : (xty G)[tix]? = some (G.2.1 tix, ty)) (hv : Int32.ofNat N = v) (hdg : decode cc pc = .ok (.arraylength, 1)) (k : YJ G hi p l e R s m args below meth c nL Q cells slots (pc + 1) lv (.int v :: st) n E) : YJ G hi p l e R s m args below meth c nL Q cells slots pc lv (.ref (G.2.2.1 + a) :: st) n E := fun H locs ls h hP hz hS => va_alen C.1 C.2.1 C.2.2.2.2.2.1 (hP.one hi') 0 tix rfl ht hv hdg (k H locs ls h hP hz hS)
theorem y_ast (C : XC G 1 hi p s m args c cc nL own) {a b i tix N ci : Nat} {f : Nat → Option Nat} {v : Int32} {r : vw_C} {vs : List Value} (hi' : E[i]? = some (a, .inl (G.2.1 tix, N, .inr (.inr (.inr (.inr f)))))) (ht : (xty G)[tix]? = some (G.2.1 tix, .object r.1)) {E1 : List (Nat × va_E)} (hb : 1 ≤ b ∧ b ≤ n ∧ ∀ (j : Nat) (q : Nat × va_E), E[j]? = some q → q.1 < b) (hE : E.set i (a, .inl (G.2.1 tix, N, .inr (.inr (.inr (.inr (va_up f v.toNatClampNeg (some (G.2.2.1 + b)))))))) = E1) (hx : xE G sz0 b = some (.inr (ci, vs))) (hc : xcl[ci]? = some r) (hin : vp_in v N) (ha : a < hi) (hdg : decode cc pc = .ok (.aastore, 1)) (k : YJ G hi p l e R s m args below meth c nL Q cells slots (pc + 1) lv st n E1) : YJ G hi p l e R s m args below meth c nL Q cells slots pc lv (.ref (G.2.2.1 + b) :: .int v :: .ref (G.2.2.1 + a) :: st) n E := by
  subst hE
  intro H locs ls h hP hz hS
  obtain ⟨ha1, ha2, hat⟩ := hP.2.1 i _ hi'
  have hlt : v.toNatClampNeg < N := Nat.not_le.mp fun q => hin (Or.inr q)
  have h0 : ¬ v < 0 := fun q => hin (Or.inl q)
  obtain ⟨r', hr', cellV, g1, g2, g3, -⟩ := hP.2.2.2 b hb.1 hb.2.1 (fun j q hq => Nat.ne_of_lt (hb.2.2 j q hq)) _ hx
  have hcls := (C.2.2.2.2.2.1.1 ci r hc).2
  obtain ⟨kA, comp, k1, k2, k3, -⟩ := (C.2.2.2.2.2.1.2 tix _ ht).2
  have hcomp : comp = G.1.1 ci := Option.some.inj (k3.symm.trans hcls.1)
  subst hcomp
  obtain ⟨kC, hkC, -⟩ := hcls.2
  refine W.aast C.1 C.2.1 hat (fun q h => by cases h) (fun h => by cases h) k1 k2 rfl hkC ⟨h0, by show _ < (arrV _ _ _).slots.size; rw [arrV_size]; exact hlt⟩ g1 (fun q h => by rw [g3] at h; cases h) (by rw [g2]; exact hkC) (by rw [g2]; exact va_assign hcls) rfl rfl hdg fun H1 e z oq => ?_
  refine k H1 _ ls h (hP.set hi' z oq ?_) (by rw [z]; exact hz) (hS.put z oq ⟨by show G.2.2.1 + 1 ≤ G.2.2.1 + a; omega, by show G.2.2.1 + a < G.2.2.1 + hi; omega⟩)
  show H1[G.2.2.1 + a]? = some (vp_cell _ _)
  rw [e]
  rw [vp_cell_q, vp_cell_q, arrV_store]
  congr 2
  funext q
  by_cases hq : q = v.toNatClampNeg
  · subst hq
    simp [updV, va_up, va_rf]
  · simp [updV, va_up, hq]
theorem y_world (C : XC G 1 hi p s m args c cc nL own) (hN : yN s) {H : Heap} {locs : List Loc} {t : State} (hP : yH G n E H) (hS : va_S (xA G 1 hi) s.heap H locs) (ht : t.heap = H) (hW : s.WarmedH t.vm) : yW G hi n E t := by
  subst ht
  exact ⟨hP, va_K.moved hW.alike C.2.2.2.2.2.1, xS.warm hW (xS.kept C.2.2.2.2.2.2 hS.2.1), hN.warm hW⟩
theorem y_vret (C : XC G 1 hi p s m args c cc nL own) (hN : yN s) (hr : meth.sig.returnType = none) (hk : meth.locks = false) (hdg : decode cc pc = .ok (.return_, 1)) : YJ G hi p l e R s m args below meth c nL (MQ below (yQc G hi n E) args s cells slots (xA G 1 hi)) cells slots pc lv [] n E :=
  fun H locs ls hl hP hz hS => W.vret C.1 C.2.1 hr (hlocks := hk) (fun t ht hW => ⟨⟨rfl, y_world C hN hP hS ht hW⟩, hS.F ht⟩) hS.2.2 hdg
/-- behind a call's run -/
theorem y_back {mc ms : Nat} {st0 : List Value} {Qa : State → Outcome → State → Prop} {ls : Array Slot} {H : Heap} {locs : List Loc} {free : Addr → Prop} {n' : Nat} {E' : List (Nat × va_E)} (hr : va_Run p l e R s m args below meth c H locs cells slots mc ms (F0 m pc ls st0) st Qa free) (hf : ∀ q, free q → xA G 1 hi q) (hQ : ∀ (st₀ t : State) (v : Option Value), Qa st₀ (.returned v) t → v = none ∧ yW G hi n' E' t ∧ va_F (xA G 1 hi) st₀ t) (hl : lv_has ls nL lv) (hz : H.size = s.heap.size + cells) (hS : va_S (xA G 1 hi) s.heap H locs) (hn : n' + (G.2.2.1 + 1) = H.size + mc) (k : YJ G hi p l e R s m args below meth c nL Q (cells + mc) (slots + ms) (pc + 3) lv st n' E') : W p l e R s m args below meth c H locs cells slots Q (F0 m pc ls st0) := by
  intro T2 hT X
  obtain ⟨v0, st₀, t, T', L, h0, X', hL, e1, e2, hq, stp⟩ := hr T2 hT X
  obtain ⟨rfl, hW, hz2, hk2⟩ := hQ _ _ _ hq
  rw [h0] at hz2 hk2
  obtain ⟨t2, a1, b1⟩ := k T'.heap (locs ++ L) ls hl (by rw [e1]; exact hW.1) (by rw [e1, hW.1.1]; omega) ⟨Nat.le_trans hS.1 (by rw [e1]; exact hz2), fun q h1 h2 => by rw [e1, hk2 q (Nat.lt_of_lt_of_le h1 hS.1) h2]; exact hS.2.1 q h1 h2, fun q hq => by
      rcases List.mem_append.mp hq with h | h
      · exact hS.2.2 q h
      · exact hf _ (hL q h)⟩ T' rfl X'
  exact ⟨t2, stp t2 a1, b1⟩
/-- the room of a constructor that makes mc cells of ms slots -/
def yroom (R : Room) (d : Nat) : Prop := xroom R d
def ycw (own : String) (index n : Nat) (y : MethodName) (bytes : ByteArray) (maxL : Nat) : Prop := Cond.initialized y.cls ∈ TG ∧ Cond.code y bytes maxL none ∈ TG ∧ (y.cls ≠ "java/lang/invoke/MethodHandle" ∧ y.cls ≠ "java/lang/invoke/VarHandle" ∧ (parseMethodDescriptor y.desc).map (fun d => d.parameters.length) = some n) ∧ maxL ≤ 41 ∧ y.name = "<init>" ∧ Cond.instanceMethod y ∈ TG
theorem ycw.good {index k maxL : Nat} {y : MethodName} {bytes : ByteArray} (h : ycw own index k y bytes maxL) : GoodIn TG (Cond.code y bytes maxL none :: TG) := by
  intro w hw
  rcases List.mem_cons.mp hw with q | q
  · rw [q]; exact ⟨h.2.1, tg_good _ h.2.1⟩
  · exact ⟨q, tg_good _ q⟩
theorem y_call (C : XC G 1 hi p s m args c cc nL own) (hN : yN s) {index k0 maxL d mc ms b n' c1 s1 : Nat} {y : MethodName} {bytes : ByteArray} {As st0 : List Value} {E' : List (Nat × va_E)} (hM : yM G hi l y bytes maxL d mc ms (.ref b :: As) n E n' E') (hw : ycw own index k0 y bytes maxL) (hl0 : Cond.methodLink own index y ∈ TG ∨ ∃ host, (own, index, y, host) ∈ yNw) (hn : As.length = k0) (hst : st0 = As.reverse ++ .ref b :: st) (hW : (st.map fun v => v.category).sum ≤ 8) (hR : xroom R (d + 1)) (ec : cells + mc = c1) (es : slots + ms = s1) (hcs : c1 ≤ R.cells ∧ s1 ≤ R.slots) (hn' : n' = n + mc) (hdg : decode cc pc = .ok (.invokespecial index, 3)) (k : YJ G hi p l e R s m args below meth c nL Q c1 s1 (pc + 3) lv st n' E') : YJ G hi p l e R s m args below meth c nL Q cells slots pc lv st0 n E := by
  subst ec; subst es
  intro H locs ls hl hP hz hS
  have ht := C.2.2.2.2.1
  have hRr : (yrm d mc ms).frames + 1 ≤ R.frames ∧ 8 + (maxL + 11) + (yrm d mc ms).locals ≤ R.locals := ⟨hR.1, by have := hR.2; have := hw.2.2.2.1; show 8 + (maxL + 11) + (60 * d + 60) ≤ R.locals; omega⟩
  have hpre : PreS s H (va_Pc (.ref b :: As) (yW G hi n E)) (.ref b :: As) := ⟨yW.blind, fun U hU hW2 => ⟨rfl, by subst hU; exact y_world C hN hP hS rfl hW2⟩⟩
  have hq : ∀ (st₀ t : State) (v : Option Value), yQc G hi n' E' (Value.ref b :: As).toArray st₀ (.returned v) t → v = none ∧ yW G hi n' E' t ∧ va_F (xA G 1 hi) st₀ t := by
    intro st₀ t v h
    obtain ⟨⟨h1, h2⟩, h3⟩ := h
    cases h1
    exact ⟨rfl, h2, h3⟩
  have hz2 : n' + (G.2.2.1 + 1) = H.size + mc := by rw [hP.1]; omega
  rcases hl0 with hlk | ⟨host, hlk⟩
  · exact y_back (va_runI (p := p) (l := l) (e := e) (R := R) (below := below) (meth := meth) (H := H) (locs := locs) (cells := cells) (slots := slots) (g := F0 m pc ls st0) (As := As) (rest := st) (b := b) ⟨C.1, C.2.1, C.2.2.1, C.2.2.2.1, ht⟩ hM ⟨callB_of k0 ht hw.good rfl rfl rfl (ht _ hw.1) (ht _ hlk) hw.2.2.1 hRr, hw.2.2.2.2.1, ht _ hw.2.2.2.2.2⟩ hpre rfl hn hl.1 hst (by show 2 * 0 + _ ≤ 8; omega) hdg hcs) (fun q h => h) hq hl hz hS hz2 k
  · exact y_back (va_runIN (p := p) (l := l) (e := e) (R := R) (below := below) (meth := meth) (H := H) (locs := locs) (cells := cells) (slots := slots) (g := F0 m pc ls st0) (As := As) (rest := st) (b := b) ⟨C.1, C.2.1, C.2.2.1, C.2.2.2.1, ht⟩ hM ⟨va_cnB k0 ht hw.good rfl rfl rfl (hN.1 _ hlk) (ht _ hw.1) hw.2.2.1 hRr, hw.2.2.2.2.1, ht _ hw.2.2.2.2.2⟩ hpre rfl hn hl.1 hst (by show 2 * 0 + _ ≤ 8; omega) hdg hcs) (fun q h => h) hq hl hz hS hz2 k
theorem y_met {y : MethodName} {cc : ByteArray} {nL d mc ms : Nat} {As : List Value} {n n' : Nat} {E E' : List (Nat × va_E)} (own : String) (hown : y.cls = own) (hpl : plainName y.cls = true) (hlen : (lg_sl As).length ≤ nL) (body : ∀ (p : Program) (e : Env) (s : State) (m : MethodId) (below : List Frame) (meth : Method) (c : Code), XC G 1 hi p s m As.toArray c cc nL own → yN s → meth.name = y.name → meth.sig.returnType = none → meth.locks = false → xroom (yrm d mc ms) d → YJ G hi p l e (yrm d mc ms) s m As.toArray below meth c nL (MQ below (yQc G hi n' E') As.toArray s mc ms (xA G 1 hi)) 0 0 0 (lv_args 0 As) [] n E) : yM G hi l y cc nL d mc ms As n E n' E' := by
  refine Met.ofW (cc := cc) (maxL := nL) (ret := none) hpl rfl ?_
  intro p e s m args below meth c s₁ B hml hv
  obtain ⟨rfl, hW⟩ := hv
  subst hown
  have hts := atoms_spec (ws := Cond.code y cc nL none :: TG) B.pre
  have CC : XC G 1 hi p s m As.toArray c cc nL y.cls := ⟨B.exec, B.bytes, hml, findClass_of_methodNamed B.named, fun w hw => hts w (List.mem_cons_of_mem _ hw), hW.2.1, hW.2.2.1⟩
  have hl := lv_entry As (n := nL) hlen
  rw [lg_entry_eq]
  exact body p e s m below meth c CC hW.2.2.2 ((name_of_methodNamed B.named B.method).1) B.returns B.notSynchronized ⟨Nat.le_refl _, Nat.le_refl _⟩ s.heap [] _ hl hW.1 (by simp) va_S.rf
theorem yltE {x : Nat × va_E} {b : Nat} (hx : x.1 < b) (h : ∀ (j : Nat) (q : Nat × va_E), E[j]? = some q → q.1 < b) : ∀ (j : Nat) (q : Nat × va_E), (x :: E)[j]? = some q → q.1 < b := by
  intro j q hq
  cases j with
  | zero => simp at hq; subst hq; exact hx
  | succ j => exact h j q (by simpa using hq)
theorem xS.narrow {A B : Nat → Prop} {U : State} {H : Heap} (h : xS G A U H) (hAB : ∀ q, B q → A q) : xS G B U H :=
  ⟨h.1.narrow hAB, h.2.1.narrow hAB, fun k hk => ⟨(h.2.2.1 k hk).1.narrow hAB, (h.2.2.1 k hk).2.narrow hAB⟩, h.2.2.2.1, h.2.2.2.2.elim fun w q => ⟨w, q.1, q.2.narrow hAB⟩⟩
theorem y_sLen (C : XC G 1 hi p s m args c cc nL own) (hhi : 1 ≤ hi) {index i : Nat} (hR : xroom R 9) (hi9 : i < 10) (hw : Cond.methodLink own index ({ cls := "java/lang/String", name := "length", desc := "()I" } : Jvm.MethodName) ∈ TG) (hW : (st.map fun v => v.category).sum ≤ 8) (hcs : cells ≤ R.cells ∧ slots ≤ R.slots) (hdg : decode cc pc = .ok (.invokevirtual index, 3)) (k : YJ G hi p l e R s m args below meth c nL Q cells slots (pc + 3) lv (.int (js_len i) :: st) n E) : YJ G hi p l e R s m args below meth c nL Q cells slots pc lv (.ref (G.2.2.2.1 i) :: st) n E := by
  intro H locs ls hl hP hz hS
  have ht := C.2.2.2.2.1
  have hn0 : ∀ q, xA G 1 1 q → xA G 1 hi q := fun q h => ⟨h.1, by have := h.2; show q < G.2.2.1 + hi; omega⟩
  have hno : ∀ q, ¬ xA G 1 1 q := fun q h => by have := h.1; have := h.2; omega
  have hM := c_JS_length (lo := 1) (hi := 1) (G := G) (l := l) (d := 8) (by omega) hi9 (jl_ok (σ := sz0) hi9)
  have hr := va_runV (p := p) (l := l) (e := e) (R := R) (below := below) (meth := meth) (H := H) (locs := locs) (cells := cells) (slots := slots) (g := F0 m pc ls (.ref (G.2.2.2.1 i) :: st)) (As := []) (rest := st) (C := "java/lang/String") (b := G.2.2.2.1 i) ⟨C.1, C.2.1, C.2.2.1, C.2.2.2.1, ht⟩ hM ⟨xcw.B C ⟨hw, w_115, w_330, ⟨by decide +kernel, by decide +kernel, by decide +kernel⟩, by decide⟩ hR, ht _ w_328, ht _ w_329⟩ ⟨xW.blind, vk_recv C.2.2.2.2.2.2.1 hi9 hS, fun U hU hW2 => ⟨rfl, by subst hU; exact ⟨fun a g1 g2 => absurd g2 (by omega), by unfold xok; exact ⟨by decide, Or.inl rfl⟩, va_K.moved hW2.alike C.2.2.2.2.2.1, (xS.warm hW2 (xS.kept C.2.2.2.2.2.2 hS.2.1)).narrow hn0⟩⟩⟩ rfl rfl hl.1 rfl (by show 2 * 0 + _ ≤ 8; omega) hdg hcs
  intro T2 hT X
  obtain ⟨v0, st₀, t, T', L, h0, X', hL, e1, e2, ⟨⟨v1, u, hv, ⟨rfl, rfl⟩, hb⟩, hz2, hk⟩, stp⟩ := hr T2 hT X
  cases hv
  rw [h0] at hz2 hk
  have hsz := X'.heapSize
  have hHe : T'.heap = H := by
    apply Array.ext_getElem?
    intro q
    by_cases hq : q < H.size
    · rw [e1]; exact hk q hq (hno q)
    · rw [Array.getElem?_eq_none (by omega), Array.getElem?_eq_none (by omega)]
  obtain ⟨t2, a1, b1⟩ := k T'.heap (locs ++ L) ls hl (by rw [hHe]; exact hP) (by rw [hHe]; exact hz) ⟨by rw [hHe]; exact hS.1, fun q h1 h2 => by rw [hHe]; exact hS.2.1 q h1 h2, fun q hq => by
      rcases List.mem_append.mp hq with h | h
      · exact hS.2.2 q h
      · exact absurd (hL q h) (hno _)⟩ T' rfl X'
  exact ⟨t2, stp t2 a1, b1⟩
def yfn (Z first sc k : Nat) : Nat → Option Nat := fun j => if j < k then some (Z + (first + sc * j)) else none
theorem yfn_zero {Z first sc : Nat} : yfn Z first sc 0 = fun _ => none := by funext j; simp [yfn]
theorem yfn_succ {Z first sc k : Nat} : yfn Z first sc (k + 1) = va_up (yfn Z first sc k) k (some (Z + (first + sc * k))) := by
  funext j
  unfold yfn va_up
  by_cases h : j = k
  · subst h; simp
  · by_cases h2 : j < k
    · simp [h, h2, Nat.lt_succ_of_lt h2]
    · simp [h, h2, show ¬ j < k + 1 by omega]
theorem yfn_at {cA : ClassId} {a N Z first sc : Nat} {D : va_G} {cl : List vw_C} (H : Heap) (h : va_at D cl (a, .inl (cA, N, .inr (.inr (.inr (.inr (yfn Z first sc N)))))) H) : va_at D cl (a, .inl (cA, N, .inr (.inr (.inr (.inr (fun j => some (Z + (first + sc * j)))))))) H := by
  have e : vp_cell cA (N, .inr (.inr (.inr (.inr (yfn Z first sc N))))) = vp_cell cA (N, .inr (.inr (.inr (.inr (fun j => some (Z + (first + sc * j))))))) := by
    rw [vp_cell_q, vp_cell_q]
    unfold arrV
    congr 1
    apply Array.ext_getElem?
    intro j
    by_cases hj : j < N
    · simp [hj, yfn]
    · simp [hj]
  show H[a]? = some (vp_cell _ _)
  rw [← e]
  exact h
theorem yM.to {y : MethodName} {cc : ByteArray} {nL d mc ms : Nat} {As : List Value} {n n' n2 : Nat} {E E' : List (Nat × va_E)} (h : yM G hi l y cc nL d mc ms As n E n' E') (e : n' = n2) : yM G hi l y cc nL d mc ms As n E n2 E' := e ▸ h
theorem yE_obj {a ci y : Nat} {fs : List Value} (h : xkd a = (1, ci, y)) (hf : xF G a (szf ci) (fun _ => 0) (29, 571) 0 (xfk ci) = fs) : xE G sz0 a = some (.inr (ci, fs)) := by
  have h1 : sz0.1 a = szf ci := by funext j; simp [sz0, h]
  unfold xE
  rw [h, h1, ← hf]
  rfl
end YR
