/-! rows that the printed walks use; the cells of halls, rooms, tastes -/
def FUEL : Nat := 100000
def RF : Nat := 16
def xb1 {β : Type} (o : Option LH) (f : LH → Option β) : Option β := match o with
  | none => none
  | some s => f s
def xb2 {α β : Type} (o : Option (α × LH)) (f : α → LH → Option β) : Option β := match o with
  | none => none
  | some q => f q.1 q.2
theorem xbind1 {β : Type} {x : Option LH} {f : LH → Option β} {o : β} (h : xb1 x f = some o) : ∃ q, x = some q ∧ f q = some o := by
  cases x with
  | none => cases h
  | some q => exact ⟨q, rfl, h⟩
theorem xbind2 {α β : Type} {x : Option (α × LH)} {f : α → LH → Option β} {o : β} (h : xb2 x f = some o) : ∃ a q, x = some (a, q) ∧ f a q = some o := by
  cases x with
  | none => cases h
  | some q => exact ⟨q.1, q.2, rfl, h⟩
theorem xroom1 {R : Room} {d : Nat} (h : xroom R (d + 1)) : xroom R 1 := ⟨by have := h.1; omega, by have := h.2; omega⟩
theorem xroomS {R : Room} {d : Nat} (h : xroom R (d + 1)) (hd : 9 ≤ d + 1) : xroom R 9 := ⟨by have := h.1; omega, by have := h.2; omega⟩
def xq (G : XG) (t : Nat) : Value := if t = 0 then .null else .ref (G.2.2.1 + t)
theorem xts_ne {t : Nat} (h : t ∈ xTastes) : t ≠ 0 := by
  intro e; subst e; exact absurd h (by decide)
theorem hl_0 {h : Nat} (hh : h ∈ xHalls) : xin 1 570 h (1, 5, 0) := (show ∀ h ∈ xHalls, xkd h = (1, 5, 0) ∧ 1 ≤ h ∧ h < 570 by decide +kernel) h hh
theorem hl_1 {h : Nat} (hh : h ∈ xHalls) : xin 1 570 (h + 1) (2, 8, 0) := (show ∀ h ∈ xHalls, xkd (h + 1) = (2, 8, 0) ∧ 1 ≤ (h + 1) ∧ (h + 1) < 570 by decide +kernel) h hh
theorem hl_2 {h : Nat} (hh : h ∈ xHalls) : xin 1 570 (h + 2) (2, 8, 0) := (show ∀ h ∈ xHalls, xkd (h + 2) = (2, 8, 0) ∧ 1 ≤ (h + 2) ∧ (h + 2) < 570 by decide +kernel) h hh
theorem hl_3 {h : Nat} (hh : h ∈ xHalls) : xin 1 570 (h + 3) (2, 8, 0) := (show ∀ h ∈ xHalls, xkd (h + 3) = (2, 8, 0) ∧ 1 ≤ (h + 3) ∧ (h + 3) < 570 by decide +kernel) h hh
theorem hl_4 {h : Nat} (hh : h ∈ xHalls) : xin 1 570 (h + 4) (2, 8, 0) := (show ∀ h ∈ xHalls, xkd (h + 4) = (2, 8, 0) ∧ 1 ≤ (h + 4) ∧ (h + 4) < 570 by decide +kernel) h hh
theorem hl_5 {h : Nat} (hh : h ∈ xHalls) : xin 1 570 (h + 5) (2, 8, 0) := (show ∀ h ∈ xHalls, xkd (h + 5) = (2, 8, 0) ∧ 1 ≤ (h + 5) ∧ (h + 5) < 570 by decide +kernel) h hh
theorem hl_6 {h : Nat} (hh : h ∈ xHalls) : xin 1 570 (h + 6) (2, 8, 0) := (show ∀ h ∈ xHalls, xkd (h + 6) = (2, 8, 0) ∧ 1 ≤ (h + 6) ∧ (h + 6) < 570 by decide +kernel) h hh
theorem hl_7 {h : Nat} (hh : h ∈ xHalls) : xin 1 570 (h + 7) (2, 8, 0) := (show ∀ h ∈ xHalls, xkd (h + 7) = (2, 8, 0) ∧ 1 ≤ (h + 7) ∧ (h + 7) < 570 by decide +kernel) h hh
theorem hl_8 {h : Nat} (hh : h ∈ xHalls) : xin 1 570 (h + 8) (2, 240, 0) := (show ∀ h ∈ xHalls, xkd (h + 8) = (2, 240, 0) ∧ 1 ≤ (h + 8) ∧ (h + 8) < 570 by decide +kernel) h hh
theorem rm_0 {h : Nat} (hh : h ∈ xRooms) : xin 1 570 h (1, 7, 0) := (show ∀ h ∈ xRooms, xkd h = (1, 7, 0) ∧ 1 ≤ h ∧ h < 570 by decide +kernel) h hh
theorem rm_1 {h : Nat} (hh : h ∈ xRooms) : xin 1 570 (h + 1) (2, 8, 0) := (show ∀ h ∈ xRooms, xkd (h + 1) = (2, 8, 0) ∧ 1 ≤ (h + 1) ∧ (h + 1) < 570 by decide +kernel) h hh
theorem rm_2 {h : Nat} (hh : h ∈ xRooms) : xin 1 570 (h + 2) (2, 8, 0) := (show ∀ h ∈ xRooms, xkd (h + 2) = (2, 8, 0) ∧ 1 ≤ (h + 2) ∧ (h + 2) < 570 by decide +kernel) h hh
theorem rm_3 {h : Nat} (hh : h ∈ xRooms) : xin 1 570 (h + 3) (2, 8, 0) := (show ∀ h ∈ xRooms, xkd (h + 3) = (2, 8, 0) ∧ 1 ≤ (h + 3) ∧ (h + 3) < 570 by decide +kernel) h hh
theorem rm_4 {h : Nat} (hh : h ∈ xRooms) : xin 1 570 (h + 4) (2, 8, 0) := (show ∀ h ∈ xRooms, xkd (h + 4) = (2, 8, 0) ∧ 1 ≤ (h + 4) ∧ (h + 4) < 570 by decide +kernel) h hh
theorem rm_5 {h : Nat} (hh : h ∈ xRooms) : xin 1 570 (h + 5) (2, 8, 0) := (show ∀ h ∈ xRooms, xkd (h + 5) = (2, 8, 0) ∧ 1 ≤ (h + 5) ∧ (h + 5) < 570 by decide +kernel) h hh
theorem rm_6 {h : Nat} (hh : h ∈ xRooms) : xin 1 570 (h + 6) (2, 8, 0) := (show ∀ h ∈ xRooms, xkd (h + 6) = (2, 8, 0) ∧ 1 ≤ (h + 6) ∧ (h + 6) < 570 by decide +kernel) h hh
theorem rm_7 {h : Nat} (hh : h ∈ xRooms) : xin 1 570 (h + 7) (2, 8, 0) := (show ∀ h ∈ xRooms, xkd (h + 7) = (2, 8, 0) ∧ 1 ≤ (h + 7) ∧ (h + 7) < 570 by decide +kernel) h hh
theorem rm_8 {h : Nat} (hh : h ∈ xRooms) : xin 1 570 (h + 8) (2, 10, 0) := (show ∀ h ∈ xRooms, xkd (h + 8) = (2, 10, 0) ∧ 1 ≤ (h + 8) ∧ (h + 8) < 570 by decide +kernel) h hh
theorem rm_9 {h : Nat} (hh : h ∈ xRooms) : xin 1 570 (h + 9) (2, 10, 0) := (show ∀ h ∈ xRooms, xkd (h + 9) = (2, 10, 0) ∧ 1 ≤ (h + 9) ∧ (h + 9) < 570 by decide +kernel) h hh
theorem rm_10 {h : Nat} (hh : h ∈ xRooms) : xin 1 570 (h + 10) (2, 10, 0) := (show ∀ h ∈ xRooms, xkd (h + 10) = (2, 10, 0) ∧ 1 ≤ (h + 10) ∧ (h + 10) < 570 by decide +kernel) h hh
theorem ta_0 {h : Nat} (hh : h ∈ xTastes) : xin 1 570 h (1, 10, 0) := (show ∀ h ∈ xTastes, xkd h = (1, 10, 0) ∧ 1 ≤ h ∧ h < 570 by decide +kernel) h hh
theorem ta_1 {h : Nat} (hh : h ∈ xTastes) : xin 1 570 (h + 1) (2, 480, 0) := (show ∀ h ∈ xTastes, xkd (h + 1) = (2, 480, 0) ∧ 1 ≤ (h + 1) ∧ (h + 1) < 570 by decide +kernel) h hh
theorem ta_2 {h : Nat} (hh : h ∈ xTastes) : xin 1 570 (h + 2) (2, 64, 0) := (show ∀ h ∈ xTastes, xkd (h + 2) = (2, 64, 0) ∧ 1 ≤ (h + 2) ∧ (h + 2) < 570 by decide +kernel) h hh
theorem tx_in {b : Nat} (h : b = 571 ∨ b = 572) : xin 570 598 b (3, (if b = 571 then 240 else 960), 0) := by
  rcases h with h | h <;> (subst h; exact ⟨by decide +kernel, by decide, by decide⟩)
theorem ib_nat {i : Int32} {n : Nat} (h : ib i n) : i.toNatClampNeg < n := by
  obtain ⟨h1, h2⟩ := h
  show i.toInt.toNat < n
  omega
theorem past_in {i : Int32} (h : ib i 40) : 210 + 9 * Int32.toNatClampNeg i ∈ xHalls := (show ∀ j, j < 40 → 210 + 9 * j ∈ xHalls by decide +kernel) _ (ib_nat h)
theorem ways_in {i : Int32} (h : ib i 11) : 96 + 9 * Int32.toNatClampNeg i ∈ xHalls := (show ∀ j, j < 11 → 96 + 9 * j ∈ xHalls by decide +kernel) _ (ib_nat h)
theorem tastes_in {i : Int32} (h : ib i 5) : 195 + 3 * Int32.toNatClampNeg i ∈ xTastes := (show ∀ j, j < 5 → 195 + 3 * j ∈ xTastes by decide +kernel) _ (ib_nat h)
/-- texts: length, the sign at a place, the place of a sign -/
def js_len (i : Nat) : Int32 := nI (xlen.getD i 0)
def js_at (i : Nat) (k : Int32) : Int32 := (xbyt.getD i []).getD (Int32.toNatClampNeg k) 0
def js_ixF (c : Int32) : List Int32 → Nat → Int32
  | [], _ => -1
  | b :: l, k => if b = c then nI k else js_ixF c l (k + 1)
def js_ix (i : Nat) (c : Int32) : Int32 := js_ixF c (xbyt.getD i []) 0
theorem xF_noT {G : XG} {a : Nat} {fI : Nat → Int32} {fJ : Nat → Int64} {τ : Nat × Nat} (t : Nat) : ∀ (l : List (Nat × Nat)) (n : Nat), (l.all fun q => q.1 != 4) = true → xF G a fI fJ τ n l = xF G a fI fJ (t, τ.2) n l := by
  intro l
  induction l with
  | nil => intro n _; rfl
  | cons d l ih =>
    intro n h
    simp only [List.all_cons, Bool.and_eq_true, bne_iff_ne] at h
    simp only [xF]
    rw [ih (n + 1) h.2]
    congr 1
    unfold xV
    split <;> first | rfl | (rename_i q; exact absurd q h.1)
theorem xF_noX {G : XG} {a : Nat} {fI : Nat → Int32} {fJ : Nat → Int64} {τ : Nat × Nat} (t : Nat) : ∀ (l : List (Nat × Nat)) (n : Nat), (l.all fun q => q.1 != 5) = true → xF G a fI fJ τ n l = xF G a fI fJ (τ.1, t) n l := by
  intro l
  induction l with
  | nil => intro n _; rfl
  | cons d l ih =>
    intro n h
    simp only [List.all_cons, Bool.and_eq_true, bne_iff_ne] at h
    simp only [xF]
    rw [ih (n + 1) h.2]
    congr 1
    unfold xV
    split <;> first | rfl | (rename_i q; exact absurd q h.1)
theorem xkd_T : ∀ b, b ≠ 28 → ((xkd b).1 ≠ 1 ∨ ((xfk (xkd b).2.1).all fun q => q.1 != 4) = true) := by
  intro b hb
  by_cases h : b < 598
  · exact (show ∀ b, b < 598 → b ≠ 28 → ((xkd b).1 ≠ 1 ∨ ((xfk (xkd b).2.1).all fun q => q.1 != 4) = true) by decide +kernel) b h hb
  · left
    unfold xkd
    rw [List.getD_eq_getElem?_getD, List.getElem?_eq_none (by rw [show xkL.length = 598 by decide +kernel]; omega)]
    decide
theorem xkd_X : ∀ b, b ≠ 570 → ((xkd b).1 ≠ 1 ∨ ((xfk (xkd b).2.1).all fun q => q.1 != 5) = true) := by
  intro b hb
  by_cases h : b < 598
  · exact (show ∀ b, b < 598 → b ≠ 570 → ((xkd b).1 ≠ 1 ∨ ((xfk (xkd b).2.1).all fun q => q.1 != 5) = true) by decide +kernel) b h hb
  · left
    unfold xkd
    rw [List.getD_eq_getElem?_getD, List.getElem?_eq_none (by rw [show xkL.length = 598 by decide +kernel]; omega)]
    decide
theorem xE_stT {G : XG} {σ : LH} {t b : Nat} (hb : b ≠ 28) : xE G (stT σ t) b = xE G σ b := by
  unfold xE xEf
  rcases xkd_T b hb with h | h
  · split <;> first | rfl | (rename_i q; exact absurd q h)
  · split <;> first | rfl | (show some (Sum.inr _) = some (Sum.inr _); rw [xF_noT t _ _ h (τ := σ.2.2)]; rfl)
theorem xE_stX {G : XG} {σ : LH} {t b : Nat} (hb : b ≠ 570) : xE G (stX σ t) b = xE G σ b := by
  unfold xE xEf
  rcases xkd_X b hb with h | h
  · split <;> first | rfl | (rename_i q; exact absurd q h)
  · split <;> first | rfl | (show some (Sum.inr _) = some (Sum.inr _); rw [xF_noX t _ _ h (τ := σ.2.2)]; rfl)
section XR4
variable {G : XG} {lo hi : Nat} {p : Program} {l : Launch} {e : Env} {R : Room} {s : State} {m : MethodId} {args : Array Value} {below : List Frame} {meth : Method} {c : Code} {nL : Nat} {Q : State → Prop} {cells slots : Nat}
variable {cc : ByteArray} {own : String} {pc : Nat} {lv lv' : List (Nat × Value)} {st : List Value} {σ : LH}
theorem x_nameR (C : XC G lo hi p s m args c cc nL own) {x y : Nat} (h : y = x) (k : XJ G lo hi p l e R s m args below meth c nL Q cells slots pc lv (.ref (G.2.2.1 + y) :: st) σ) : XJ G lo hi p l e R s m args below meth c nL Q cells slots pc lv (.ref (G.2.2.1 + x) :: st) σ := h ▸ k
theorem x_fromQ (C : XC G lo hi p s m args c cc nL own) {t : Nat} (h : ¬ t = 0) (k : XJ G lo hi p l e R s m args below meth c nL Q cells slots pc lv (.ref (G.2.2.1 + t) :: st) σ) : XJ G lo hi p l e R s m args below meth c nL Q cells slots pc lv (xq G t :: st) σ := by
  unfold xq
  rw [if_neg h]
  exact k
theorem x_fromQ1 (C : XC G lo hi p s m args c cc nL own) {t : Nat} {v : Value} (h : ¬ t = 0) (k : XJ G lo hi p l e R s m args below meth c nL Q cells slots pc lv (v :: .ref (G.2.2.1 + t) :: st) σ) : XJ G lo hi p l e R s m args below meth c nL Q cells slots pc lv (v :: xq G t :: st) σ := by
  unfold xq
  rw [if_neg h]
  exact k
theorem x_toQ (C : XC G lo hi p s m args c cc nL own) {t : Nat} (h : t ∈ xTastes) (k : XJ G lo hi p l e R s m args below meth c nL Q cells slots pc lv (xq G t :: st) σ) : XJ G lo hi p l e R s m args below meth c nL Q cells slots pc lv (.ref (G.2.2.1 + t) :: st) σ := by
  unfold xq at k
  rw [if_neg (xts_ne h)] at k
  exact k
theorem x_toN (C : XC G lo hi p s m args c cc nL own) (k : XJ G lo hi p l e R s m args below meth c nL Q cells slots pc lv (xq G 0 :: st) σ) : XJ G lo hi p l e R s m args below meth c nL Q cells slots pc lv (.null :: st) σ := k
theorem x_aloadQ_n (C : XC G lo hi p s m args c cc nL own) {q : Fin 4} {t : Nat} (hdg : decode cc pc = .ok (.aload_n q, 1)) (i : Nat) (hl : lv[i]? = some ((q : Nat), xq G t)) (k : XJ G lo hi p l e R s m args below meth c nL Q cells slots (pc + 1) lv (xq G t :: st) σ) : XJ G lo hi p l e R s m args below meth c nL Q cells slots pc lv st σ := by
  intro H locs ls h hP ho hS
  have h1 := lv_at h i hl
  have h2 := k H locs ls h hP ho hS
  unfold xq at h1 h2
  by_cases z : t = 0
  · rw [if_pos z] at h1 h2
    exact lv_aload_nN C.1 C.2.1 hdg rfl h1 h2
  · rw [if_neg z] at h1 h2
    exact lv_aload_n C.1 C.2.1 hdg rfl h1 h2
theorem x_ifnullQ (C : XC G lo hi p s m args c cc nL own) {t : Nat} {off : Int} (tgt : Nat) (hdg : decode cc pc = .ok (.ifnull off, 3)) (ht : (pc : Int) + off = (tgt : Int)) (kt : t = 0 → XJ G lo hi p l e R s m args below meth c nL Q cells slots tgt lv st σ) (kf : ¬ t = 0 → XJ G lo hi p l e R s m args below meth c nL Q cells slots (pc + 3) lv st σ) : XJ G lo hi p l e R s m args below meth c nL Q cells slots pc lv (xq G t :: st) σ := by
  unfold xq
  by_cases z : t = 0
  · rw [if_pos z]; exact x_ifnull_n C tgt hdg ht (kt z)
  · rw [if_neg z]; exact x_ifnull_r C hdg (kf z)
theorem x_ifnonnullQ (C : XC G lo hi p s m args c cc nL own) {t : Nat} {off : Int} (tgt : Nat) (hdg : decode cc pc = .ok (.ifnonnull off, 3)) (ht : (pc : Int) + off = (tgt : Int)) (kt : ¬ t = 0 → XJ G lo hi p l e R s m args below meth c nL Q cells slots tgt lv st σ) (kf : t = 0 → XJ G lo hi p l e R s m args below meth c nL Q cells slots (pc + 3) lv st σ) : XJ G lo hi p l e R s m args below meth c nL Q cells slots pc lv (xq G t :: st) σ := by
  unfold xq
  by_cases z : t = 0
  · rw [if_pos z]; exact x_ifnonnull_n C hdg (kf z)
  · rw [if_neg z]; exact x_ifnonnull_r C tgt hdg ht (kt z)
theorem x_putT (C : XC G lo hi p s m args c cc nL own) {t index : Nat} (f : xfp own index 11 1 (.object "LostPlaces$Taste")) (ht : t ∈ xTastes) (hdg : decode cc pc = .ok (.putfield index, 3)) (k : XJ G 1 570 p l e R s m args below meth c nL Q cells slots (pc + 3) lv st (stT σ t)) (hlo : lo = 1 := by rfl) (hhi : hi = 570 := by rfl) : XJ G 1 570 p l e R s m args below meth c nL Q cells slots pc lv (.ref (G.2.2.1 + t) :: .ref (G.2.2.1 + 28) :: st) σ := by
  subst hlo; subst hhi
  exact x_put0 (a := 28) (σ' := stT σ t) C f ⟨by decide +kernel, by decide, by decide⟩ rfl (by unfold xE; rw [show xkd 28 = (1, 11, 0) by decide +kernel]; rfl) (fun b hb => xE_stT hb) (fun q => ⟨ht, q.2⟩) (by rw [xF_len]; decide) rfl rfl hdg k
set_option maxRecDepth 20000 in
theorem x_putX (C : XC G lo hi p s m args c cc nL own) {t index : Nat} (f : xfp own index 12 5 (.array .byte)) (ht : t = 571 ∨ t = 572) (hdg : decode cc pc = .ok (.putfield index, 3)) (k : XJ G 570 598 p l e R s m args below meth c nL Q cells slots (pc + 3) lv st (stX σ t)) (hlo : lo = 570 := by rfl) (hhi : hi = 598 := by rfl) : XJ G 570 598 p l e R s m args below meth c nL Q cells slots pc lv (.ref (G.2.2.1 + t) :: .ref (G.2.2.1 + 570) :: st) σ := by
  subst hlo; subst hhi
  exact x_put0 (a := 570) (σ' := stX σ t) C f ⟨by decide +kernel, by decide, by decide⟩ rfl (by unfold xE; rw [show xkd 570 = (1, 12, 0) by decide +kernel]; rfl) (fun b hb => xE_stX hb) (fun q => ⟨q.1, ht⟩) (by rw [xF_len]; decide) rfl rfl hdg k
theorem x_callVi (C : XC G lo hi p s m args c cc nL own) {index n maxL d : Nat} {y : MethodName} {bytes : ByteArray} {ret : Option FieldType} {a ci : Nat} {As st0 : List Value} {r : Int32} {σ' : LH} {T : u_T} {N : Nat} (hR : xroom R (d + 1)) (hM : xM G lo hi l y bytes maxL ret d (.ref (G.2.2.1 + a) :: As) σ (some (.int r)) σ') (hw : xcv own index n y bytes maxL ret) (ha : xin lo hi a (1, ci, 0)) (hc : xcl[ci]? = some (y.cls, T, N)) (hn : As.length = n) (hst : st0 = As.reverse ++ .ref (G.2.2.1 + a) :: st) (hW : (st.map fun v => v.category).sum ≤ 8) (hcs : cells ≤ R.cells ∧ slots ≤ R.slots) (hdg : decode cc pc = .ok (.invokevirtual index, 3)) (k : XJ G lo hi p l e R s m args below meth c nL Q cells slots (pc + 3) lv (.int r :: st) σ') : XJ G lo hi p l e R s m args below meth c nL Q cells slots pc lv st0 σ := x_callV C hR hM hw ha hc hn hst hW hcs hdg k
theorem x_callSi (C : XC G lo hi p s m args c cc nL own) {index n maxL d : Nat} {y : MethodName} {bytes : ByteArray} {ret : Option FieldType} {As st0 : List Value} {r : Int32} {σ' : LH} (hR : xroom R (d + 1)) (hM : xM G lo hi l y bytes maxL ret d As σ (some (.int r)) σ') (hw : xcw own index n y bytes maxL ret) (hsta : Cond.static y ∈ TG) (hn : As.length = n) (hst : st0 = As.reverse ++ st) (hW : (st.map fun v => v.category).sum ≤ 8) (hcs : cells ≤ R.cells ∧ slots ≤ R.slots) (hdg : decode cc pc = .ok (.invokestatic index, 3)) (k : XJ G lo hi p l e R s m args below meth c nL Q cells slots (pc + 3) lv (.int r :: st) σ') : XJ G lo hi p l e R s m args below meth c nL Q cells slots pc lv st0 σ := x_callS C hR hM hw hsta hn hst hW hcs hdg k
theorem x_callVl (C : XC G lo hi p s m args c cc nL own) {index n maxL d : Nat} {y : MethodName} {bytes : ByteArray} {ret : Option FieldType} {a ci : Nat} {As st0 : List Value} {r : Int64} {σ' : LH} {T : u_T} {N : Nat} (hR : xroom R (d + 1)) (hM : xM G lo hi l y bytes maxL ret d (.ref (G.2.2.1 + a) :: As) σ (some (.long r)) σ') (hw : xcv own index n y bytes maxL ret) (ha : xin lo hi a (1, ci, 0)) (hc : xcl[ci]? = some (y.cls, T, N)) (hn : As.length = n) (hst : st0 = As.reverse ++ .ref (G.2.2.1 + a) :: st) (hW : (st.map fun v => v.category).sum ≤ 8) (hcs : cells ≤ R.cells ∧ slots ≤ R.slots) (hdg : decode cc pc = .ok (.invokevirtual index, 3)) (k : XJ G lo hi p l e R s m args below meth c nL Q cells slots (pc + 3) lv (.long r :: st) σ') : XJ G lo hi p l e R s m args below meth c nL Q cells slots pc lv st0 σ := x_callV C hR hM hw ha hc hn hst hW hcs hdg k
theorem x_callSl (C : XC G lo hi p s m args c cc nL own) {index n maxL d : Nat} {y : MethodName} {bytes : ByteArray} {ret : Option FieldType} {As st0 : List Value} {r : Int64} {σ' : LH} (hR : xroom R (d + 1)) (hM : xM G lo hi l y bytes maxL ret d As σ (some (.long r)) σ') (hw : xcw own index n y bytes maxL ret) (hsta : Cond.static y ∈ TG) (hn : As.length = n) (hst : st0 = As.reverse ++ st) (hW : (st.map fun v => v.category).sum ≤ 8) (hcs : cells ≤ R.cells ∧ slots ≤ R.slots) (hdg : decode cc pc = .ok (.invokestatic index, 3)) (k : XJ G lo hi p l e R s m args below meth c nL Q cells slots (pc + 3) lv (.long r :: st) σ') : XJ G lo hi p l e R s m args below meth c nL Q cells slots pc lv st0 σ := x_callS C hR hM hw hsta hn hst hW hcs hdg k
theorem x_callVr (C : XC G lo hi p s m args c cc nL own) {index n maxL d : Nat} {y : MethodName} {bytes : ByteArray} {ret : Option FieldType} {a ci : Nat} {As st0 : List Value} {r : Nat} {σ' : LH} {T : u_T} {N : Nat} (hR : xroom R (d + 1)) (hM : xM G lo hi l y bytes maxL ret d (.ref (G.2.2.1 + a) :: As) σ (some (.ref r)) σ') (hw : xcv own index n y bytes maxL ret) (ha : xin lo hi a (1, ci, 0)) (hc : xcl[ci]? = some (y.cls, T, N)) (hn : As.length = n) (hst : st0 = As.reverse ++ .ref (G.2.2.1 + a) :: st) (hW : (st.map fun v => v.category).sum ≤ 8) (hcs : cells ≤ R.cells ∧ slots ≤ R.slots) (hdg : decode cc pc = .ok (.invokevirtual index, 3)) (k : XJ G lo hi p l e R s m args below meth c nL Q cells slots (pc + 3) lv (.ref r :: st) σ') : XJ G lo hi p l e R s m args below meth c nL Q cells slots pc lv st0 σ := x_callV C hR hM hw ha hc hn hst hW hcs hdg k
theorem x_callSr (C : XC G lo hi p s m args c cc nL own) {index n maxL d : Nat} {y : MethodName} {bytes : ByteArray} {ret : Option FieldType} {As st0 : List Value} {r : Nat} {σ' : LH} (hR : xroom R (d + 1)) (hM : xM G lo hi l y bytes maxL ret d As σ (some (.ref r)) σ') (hw : xcw own index n y bytes maxL ret) (hsta : Cond.static y ∈ TG) (hn : As.length = n) (hst : st0 = As.reverse ++ st) (hW : (st.map fun v => v.category).sum ≤ 8) (hcs : cells ≤ R.cells ∧ slots ≤ R.slots) (hdg : decode cc pc = .ok (.invokestatic index, 3)) (k : XJ G lo hi p l e R s m args below meth c nL Q cells slots (pc + 3) lv (.ref r :: st) σ') : XJ G lo hi p l e R s m args below meth c nL Q cells slots pc lv st0 σ := x_callS C hR hM hw hsta hn hst hW hcs hdg k
theorem x_callVv (C : XC G lo hi p s m args c cc nL own) {index n maxL d : Nat} {y : MethodName} {bytes : ByteArray} {ret : Option FieldType} {a ci : Nat} {As st0 : List Value} {σ' : LH} {T : u_T} {N : Nat} (hR : xroom R (d + 1)) (hM : xM G lo hi l y bytes maxL ret d (.ref (G.2.2.1 + a) :: As) σ none σ') (hw : xcv own index n y bytes maxL ret) (ha : xin lo hi a (1, ci, 0)) (hc : xcl[ci]? = some (y.cls, T, N)) (hn : As.length = n) (hst : st0 = As.reverse ++ .ref (G.2.2.1 + a) :: st) (hW : (st.map fun v => v.category).sum ≤ 8) (hcs : cells ≤ R.cells ∧ slots ≤ R.slots) (hdg : decode cc pc = .ok (.invokevirtual index, 3)) (k : XJ G lo hi p l e R s m args below meth c nL Q cells slots (pc + 3) lv (st) σ') : XJ G lo hi p l e R s m args below meth c nL Q cells slots pc lv st0 σ := x_callV C hR hM hw ha hc hn hst hW hcs hdg k
theorem x_callSv (C : XC G lo hi p s m args c cc nL own) {index n maxL d : Nat} {y : MethodName} {bytes : ByteArray} {ret : Option FieldType} {As st0 : List Value} {σ' : LH} (hR : xroom R (d + 1)) (hM : xM G lo hi l y bytes maxL ret d As σ none σ') (hw : xcw own index n y bytes maxL ret) (hsta : Cond.static y ∈ TG) (hn : As.length = n) (hst : st0 = As.reverse ++ st) (hW : (st.map fun v => v.category).sum ≤ 8) (hcs : cells ≤ R.cells ∧ slots ≤ R.slots) (hdg : decode cc pc = .ok (.invokestatic index, 3)) (k : XJ G lo hi p l e R s m args below meth c nL Q cells slots (pc + 3) lv (st) σ') : XJ G lo hi p l e R s m args below meth c nL Q cells slots pc lv st0 σ := x_callS C hR hM hw hsta hn hst hW hcs hdg k
theorem x_callVS (C : XC G lo hi p s m args c cc nL own) {index n maxL d : Nat} {y : MethodName} {bytes : ByteArray} {ret : Option FieldType} {i : Nat} {As st0 : List Value} {v : Option Value} {σ' : LH} (hR : xroom R (d + 1)) (hM : xM G lo hi l y bytes maxL ret d (.ref (G.2.2.2.1 i) :: As) σ v σ') (hw : xcv own index n y bytes maxL ret) (hi9 : i < 10) (hyc : y.cls = "java/lang/String") (hn : As.length = n) (hst : st0 = As.reverse ++ .ref (G.2.2.2.1 i) :: st) (hW : (st.map fun v => v.category).sum ≤ 8) (hcs : cells ≤ R.cells ∧ slots ≤ R.slots) (hdg : decode cc pc = .ok (.invokevirtual index, 3)) (k : XJ G lo hi p l e R s m args below meth c nL Q cells slots (pc + 3) lv (v.toList ++ st) σ') : XJ G lo hi p l e R s m args below meth c nL Q cells slots pc lv st0 σ := by
  intro H locs ls hl hP ho hS
  have ht := C.2.2.2.2.1
  have hr := va_runV (p := p) (l := l) (e := e) (R := R) (below := below) (meth := meth) (H := H) (locs := locs) (cells := cells) (slots := slots) (g := F0 m pc ls st0) (As := As) (rest := st) (C := y.cls) (b := G.2.2.2.1 i) ⟨C.1, C.2.1, C.2.2.1, C.2.2.2.1, ht⟩ hM ⟨xcw.B C hw.1 hR, ht _ hw.2.1, ht _ hw.2.2⟩ ⟨xW.blind, (by rw [hyc]; exact vk_recv C.2.2.2.2.2.2.1 hi9 hS), fun U hU hW2 => ⟨rfl, by subst hU; exact x_world C hP ho hS rfl hW2⟩⟩ rfl hn hl.1 hst (by show 2 * 0 + _ ≤ 8; omega) hdg hcs
  intro T2 hT X
  obtain ⟨v0, st₀, t, T', L, h0, X', hL, e1, e2, ⟨⟨v1, u, hv, ⟨rfl, rfl⟩, hb⟩, hz, hk⟩, stp⟩ := hr T2 hT X
  cases hv
  rw [h0] at hz hk
  obtain ⟨t2, a1, b1⟩ := k T'.heap (locs ++ L) ls hl (by rw [e1]; exact hb.1) hb.2.1 ⟨Nat.le_trans hS.1 (by rw [e1]; exact hz), fun q h1 h2 => by rw [e1, hk q (Nat.lt_of_lt_of_le h1 hS.1) h2]; exact hS.2.1 q h1 h2, fun q hq => by
      rcases List.mem_append.mp hq with h | h
      · exact hS.2.2 q h
      · exact hL q h⟩ T' rfl X'
  exact ⟨t2, stp t2 a1, b1⟩

theorem x_callVSi (C : XC G lo hi p s m args c cc nL own) {index n maxL d : Nat} {y : MethodName} {bytes : ByteArray} {ret : Option FieldType} {i : Nat} {As st0 : List Value} {r : Int32} {σ' : LH} (hR : xroom R (d + 1)) (hM : xM G lo hi l y bytes maxL ret d (.ref (G.2.2.2.1 i) :: As) σ (some (.int r)) σ') (hw : xcv own index n y bytes maxL ret) (hi9 : i < 10) (hyc : y.cls = "java/lang/String") (hn : As.length = n) (hst : st0 = As.reverse ++ .ref (G.2.2.2.1 i) :: st) (hW : (st.map fun v => v.category).sum ≤ 8) (hcs : cells ≤ R.cells ∧ slots ≤ R.slots) (hdg : decode cc pc = .ok (.invokevirtual index, 3)) (k : XJ G lo hi p l e R s m args below meth c nL Q cells slots (pc + 3) lv (.int r :: st) σ') : XJ G lo hi p l e R s m args below meth c nL Q cells slots pc lv st0 σ := x_callVS C hR hM hw hi9 hyc hn hst hW hcs hdg k
theorem x_sgetV (C : XC G lo hi p s m args c cc nL own) {index i : Nat} (hi9 : i < 10) (hw : Cond.fieldLink own index "java/lang/String" "value" "[B" ∈ TG) (hdg : decode cc pc = .ok (.getfield index, 3)) (k : XJ G lo hi p l e R s m args below meth c nL Q cells slots (pc + 3) lv (.ref (G.2.2.2.2.1 i) :: st) σ) : XJ G lo hi p l e R s m args below meth c nL Q cells slots pc lv (.ref (G.2.2.2.1 i) :: st) σ := fun H locs ls hl hP ho hS => vk_getf C.1 C.2.1 (C.2.2.2.2.2.2.1.1 i hi9).2.2.1 hS C.2.2.2.1 (C.2.2.2.2.1 _ hw) (fun x hx => hx) hdg (k H locs ls hl hP ho hS)
theorem x_sgetC (C : XC G lo hi p s m args c cc nL own) {index i : Nat} (hi9 : i < 10) (hw : Cond.fieldLink own index "java/lang/String" "coder" "B" ∈ TG) (hdg : decode cc pc = .ok (.getfield index, 3)) (k : XJ G lo hi p l e R s m args below meth c nL Q cells slots (pc + 3) lv (.int 0 :: st) σ) : XJ G lo hi p l e R s m args below meth c nL Q cells slots pc lv (.ref (G.2.2.2.1 i) :: st) σ := fun H locs ls hl hP ho hS => vk_getf C.1 C.2.1 (C.2.2.2.2.2.2.1.1 i hi9).2.1 hS C.2.2.2.1 (C.2.2.2.2.1 _ hw) (fun x hx => hx) hdg (k H locs ls hl hP ho hS)
theorem x_sgetCS (C : XC G lo hi p s m args c cc nL own) {index : Nat} (hw : Cond.fieldLink own index "java/lang/String" "COMPACT_STRINGS" "Z" ∈ TG) (hdg : decode cc pc = .ok (.getstatic index, 3)) (k : XJ G lo hi p l e R s m args below meth c nL Q cells slots (pc + 3) lv (.int 1 :: st) σ) : XJ G lo hi p l e R s m args below meth c nL Q cells slots pc lv st σ := fun H locs ls hl hP ho hS => va_gets C.1 C.2.1 C.2.2.2.2.2.2.2.1 hS C.2.2.2.1 (C.2.2.2.2.1 _ hw) (fun x hx => hx) hdg (k H locs ls hl hP ho hS)
theorem x_sgetSI (C : XC G lo hi p s m args c cc nL own) {index : Nat} (hw : Cond.fieldLink own index "jdk/internal/util/Preconditions" "SIOOBE_FORMATTER" "Ljava/util/function/BiFunction;" ∈ TG) (hdg : decode cc pc = .ok (.getstatic index, 3)) (k : ∀ w : Value, w.category = 1 → XJ G lo hi p l e R s m args below meth c nL Q cells slots (pc + 3) lv (w :: st) σ) : XJ G lo hi p l e R s m args below meth c nL Q cells slots pc lv st σ := fun H locs ls hl hP ho hS => C.2.2.2.2.2.2.2.2.2.2.elim fun w q => va_gets C.1 C.2.1 q.2 hS C.2.2.2.1 (C.2.2.2.2.1 _ hw) (fun x hx => hx) hdg (k w q.1 H locs ls hl hP ho hS)
theorem x_sbald (C : XC G lo hi p s m args c cc nL own) {i : Nat} {k : Int32} (hi9 : i < 10) (hk : ib k (xlen.getD i 0)) (hdg : decode cc pc = .ok (.baload, 1)) (kk : XJ G lo hi p l e R s m args below meth c nL Q cells slots (pc + 1) lv (.int (js_at i k) :: st) σ) : XJ G lo hi p l e R s m args below meth c nL Q cells slots pc lv (.int k :: .ref (G.2.2.2.2.1 i) :: st) σ := fun H locs ls hl hP ho hS => va_tb C.1 C.2.1 (C.2.2.2.2.2.2.1.1 i hi9).2.2.2 hS (ib_in hk) rfl hdg (kk H locs ls hl hP ho hS)
theorem x_sblen (C : XC G lo hi p s m args c cc nL own) {i : Nat} (hi9 : i < 10) (hdg : decode cc pc = .ok (.arraylength, 1)) (kk : XJ G lo hi p l e R s m args below meth c nL Q cells slots (pc + 1) lv (.int (js_len i) :: st) σ) : XJ G lo hi p l e R s m args below meth c nL Q cells slots pc lv (.ref (G.2.2.2.2.1 i) :: st) σ := fun H locs ls hl hP ho hS => va_tlen C.1 C.2.1 (C.2.2.2.2.2.2.1.1 i hi9).2.2.2 hS rfl hdg (kk H locs ls hl hP ho hS)
theorem x_cret (C : XC G lo hi p s m args c cc nL own) (hr : meth.sig.returnType = some .char) (hk : meth.locks = false) {x r : Int32} {σ' : LH} (hz : ((Int32.toUInt32 x) % 65536).toInt32 = x) (h0 : some (x, σ) = some (r, σ')) (hdg : decode cc pc = .ok (.ireturn, 1)) : XJ G lo hi p l e R s m args below meth c nL (XQ G lo hi below args s (some (.int r)) σ') 0 0 pc lv [.int x] σ := by
  cases h0
  exact fun H locs ls hl hP ho hS => W.zret C.1 C.2.1 hr (by show Value.int _ = _; exact congrArg Value.int hz) (hlocks := hk) (fun t ht hW => ⟨⟨_, _, rfl, ⟨rfl, rfl⟩, x_world C hP ho hS ht hW⟩, hS.F ht⟩) hS.2.2 hdg
theorem x_bret (C : XC G lo hi p s m args c cc nL own) (hr : meth.sig.returnType = some .byte) (hk : meth.locks = false) {x r : Int32} {σ' : LH} (hz : (Int32.toInt8 x).toInt32 = x) (h0 : some (x, σ) = some (r, σ')) (hdg : decode cc pc = .ok (.ireturn, 1)) : XJ G lo hi p l e R s m args below meth c nL (XQ G lo hi below args s (some (.int r)) σ') 0 0 pc lv [.int x] σ := by
  cases h0
  exact fun H locs ls hl hP ho hS => W.zret C.1 C.2.1 hr (by show Value.int _ = _; exact congrArg Value.int hz) (hlocks := hk) (fun t ht hW => ⟨⟨_, _, rfl, ⟨rfl, rfl⟩, x_world C hP ho hS ht hW⟩, hS.F ht⟩) hS.2.2 hdg
end XR4
