/-! the abstract heap: ints, longs, and the two cells' numbers that change; what it says of the machine's heap -/
abbrev LH : Type := (Nat → Nat → Int32) × (Nat → Nat → Int64) × Nat × Nat
/-- the class numbers and slots; the array classes; the address ahead of the first cell; the texts' addresses and their bytes'; the static arrays' addresses -/
abbrev XG : Type := va_G × (Nat → ClassId) × Nat × (Nat → Nat) × (Nat → Nat) × (Nat → Nat)
def stF (σ : LH) (a : Nat) (f : Nat → Int32) : LH := (fun b => if b = a then f else σ.1 b, σ.2)
def stI (σ : LH) (a i : Nat) (v : Int32) : LH := stF σ a (upd (σ.1 a) i v)
def stJ (σ : LH) (a i : Nat) (v : Int64) : LH := (σ.1, fun b => if b = a then vp_updL (σ.2.1 a) i v else σ.2.1 b, σ.2.2)
def stT (σ : LH) (t : Nat) : LH := (σ.1, σ.2.1, t, σ.2.2.2)
def stX (σ : LH) (t : Nat) : LH := (σ.1, σ.2.1, σ.2.2.1, t)
def xV (G : XG) (a : Nat) (fI : Nat → Int32) (fJ : Nat → Int64) (τ : Nat × Nat) (j : Nat) (c : Nat × Nat) : Value := match c.1 with
  | 0 => .int (fI j)
  | 1 => .long (fJ j)
  | 2 => .ref (G.2.2.1 + (a + c.2))
  | 3 => .ref (G.2.2.1 + c.2)
  | 4 => .ref (G.2.2.1 + τ.1)
  | 5 => .ref (G.2.2.1 + τ.2)
  | _ => .ref (G.2.2.2.1 c.2)
def xF (G : XG) (a : Nat) (fI : Nat → Int32) (fJ : Nat → Int64) (τ : Nat × Nat) : Nat → List (Nat × Nat) → List Value
  | _, [] => []
  | j, c :: l => xV G a fI fJ τ j c :: xF G a fI fJ τ (j + 1) l
def xEf (G : XG) (k : Nat × Nat × Nat) (a : Nat) (fI : Nat → Int32) (fJ : Nat → Int64) (τ : Nat × Nat) : Option va_E := match k.1 with
  | 1 => some (.inr (k.2.1, xF G a fI fJ τ 0 (xfk k.2.1)))
  | 2 => some (.inl (G.2.1 0, k.2.1, .inl fI))
  | 3 => some (.inl (G.2.1 1, k.2.1, .inl fI))
  | 4 => some (.inl (G.2.1 2, k.2.1, .inl fI))
  | 5 => some (.inl (G.2.1 3, k.2.1, .inr (.inl fJ)))
  | 6 => some (.inl (G.2.1 4, k.2.1, .inr (.inr (.inr (.inr (fun j => some (G.2.2.1 + (k.2.2 + 9 * j))))))))
  | 7 => some (.inl (G.2.1 5, k.2.1, .inr (.inr (.inr (.inr (fun j => some (G.2.2.1 + (k.2.2 + 3 * j))))))))
  | _ => none
def xE (G : XG) (σ : LH) (a : Nat) : Option va_E := xEf G (xkd a) a (σ.1 a) (σ.2.1 a) σ.2.2
def xP (G : XG) (lo hi : Nat) (σ : LH) (H : Heap) : Prop := ∀ a, lo ≤ a → a < hi → ∀ e, xE G σ a = some e → va_at G.1 xcl (G.2.2.1 + a, e) H
def xA (G : XG) (lo hi : Nat) : Nat → Prop := fun q => G.2.2.1 + lo ≤ q ∧ q < G.2.2.1 + hi
abbrev xty (G : XG) : List (ClassId × FieldType) := [(G.2.1 0, .int), (G.2.1 1, .byte), (G.2.1 2, .boolean), (G.2.1 3, .long), (G.2.1 4, .object R_Hall), (G.2.1 5, .object R_Taste)]
/-- a cell that is one of ours -/
def xin (lo hi a : Nat) (k : Nat × Nat × Nat) : Prop := xkd a = k ∧ lo ≤ a ∧ a < hi
/-- the two that change are of their kinds -/
def xok (σ : LH) : Prop := σ.2.2.1 ∈ xTastes ∧ (σ.2.2.2 = 571 ∨ σ.2.2.2 = 572)
theorem xF_get {G : XG} {a : Nat} {fI : Nat → Int32} {fJ : Nat → Int64} {τ : Nat × Nat} : ∀ (l : List (Nat × Nat)) (n j : Nat) (c : Nat × Nat), l[j]? = some c → (xF G a fI fJ τ n l)[j]? = some (xV G a fI fJ τ (n + j) c) := by
  intro l
  induction l with
  | nil => intro n j c h; simp at h
  | cons d l ih =>
    intro n j c h
    cases j with
    | zero => simp at h; subst h; simp [xF]
    | succ j =>
      simp only [List.getElem?_cons_succ] at h
      simp only [xF, List.getElem?_cons_succ]
      rw [ih (n + 1) j c h, show n + 1 + j = n + (j + 1) by omega]
theorem xF_len {G : XG} {a : Nat} {fI : Nat → Int32} {fJ : Nat → Int64} {τ : Nat × Nat} : ∀ (l : List (Nat × Nat)) (n : Nat), (xF G a fI fJ τ n l).length = l.length := by
  intro l
  induction l with
  | nil => intro n; rfl
  | cons d l ih => intro n; simp [xF, ih]
theorem xF_setI {G : XG} {a : Nat} {fI : Nat → Int32} {fJ : Nat → Int64} {τ : Nat × Nat} {v : Int32} : ∀ (l : List (Nat × Nat)) (n j y : Nat), l[j]? = some (0, y) → (xF G a fI fJ τ n l).set j (.int v) = xF G a (upd fI (n + j) v) fJ τ n l := by
  intro l
  induction l with
  | nil => intro n j y h; simp at h
  | cons d l ih =>
    intro n j y h
    cases j with
    | zero =>
      simp at h; subst h
      simp only [xF, List.set_cons_zero]
      have h1 : ∀ (l : List (Nat × Nat)) (k : Nat), n < k → xF G a fI fJ τ k l = xF G a (upd fI (n + 0) v) fJ τ k l := by
        intro l
        induction l with
        | nil => intro k _; rfl
        | cons e l ih2 =>
          intro k hk
          simp only [xF]
          rw [ih2 (k + 1) (by omega)]
          congr 1
          unfold xV
          split <;> first | rfl | (simp [upd]; omega)
      rw [h1 l (n + 1) (by omega)]
      simp [xV, upd]
    | succ j =>
      simp only [List.getElem?_cons_succ] at h
      simp only [xF, List.set_cons_succ]
      rw [ih (n + 1) j y h, show n + 1 + j = n + (j + 1) by omega]
      congr 1
      unfold xV
      split <;> first | rfl | simp [upd]
theorem xF_setJ {G : XG} {a : Nat} {fI : Nat → Int32} {fJ : Nat → Int64} {τ : Nat × Nat} {v : Int64} : ∀ (l : List (Nat × Nat)) (n j y : Nat), l[j]? = some (1, y) → (xF G a fI fJ τ n l).set j (.long v) = xF G a fI (vp_updL fJ (n + j) v) τ n l := by
  intro l
  induction l with
  | nil => intro n j y h; simp at h
  | cons d l ih =>
    intro n j y h
    cases j with
    | zero =>
      simp at h; subst h
      simp only [xF, List.set_cons_zero]
      have h1 : ∀ (l : List (Nat × Nat)) (k : Nat), n < k → xF G a fI fJ τ k l = xF G a fI (vp_updL fJ (n + 0) v) τ k l := by
        intro l
        induction l with
        | nil => intro k _; rfl
        | cons e l ih2 =>
          intro k hk
          simp only [xF]
          rw [ih2 (k + 1) (by omega)]
          congr 1
          unfold xV
          split <;> first | rfl | (simp [vp_updL]; omega)
      rw [h1 l (n + 1) (by omega)]
      simp [xV, vp_updL]
    | succ j =>
      simp only [List.getElem?_cons_succ] at h
      simp only [xF, List.set_cons_succ]
      rw [ih (n + 1) j y h, show n + 1 + j = n + (j + 1) by omega]
      congr 1
      unfold xV
      split <;> first | rfl | simp [vp_updL]
theorem xE_stF {G : XG} {σ : LH} {a : Nat} {f : Nat → Int32} {b : Nat} (h : b ≠ a) : xE G (stF σ a f) b = xE G σ b := by simp [xE, stF, h]
theorem xE_stI {G : XG} {σ : LH} {a i : Nat} {v : Int32} {b : Nat} (h : b ≠ a) : xE G (stI σ a i v) b = xE G σ b := xE_stF h
theorem xE_stJ {G : XG} {σ : LH} {a i : Nat} {v : Int64} {b : Nat} (h : b ≠ a) : xE G (stJ σ a i v) b = xE G σ b := by simp [xE, stJ, h]
theorem xP_set {G : XG} {lo hi : Nat} {σ σ' : LH} {H H1 : Heap} (h : xP G lo hi σ H) {a : Nat} {e : va_E} (he : xE G σ' a = some e) (hat : va_at G.1 xcl (G.2.2.1 + a, e) H1) (oq : ∀ q : Nat, q ≠ G.2.2.1 + a → H1[q]? = H[q]?) (ho : ∀ b, b ≠ a → xE G σ' b = xE G σ b) : xP G lo hi σ' H1 := by
  intro b h1 h2 e' he'
  by_cases hb : b = a
  · subst hb
    rw [he] at he'
    cases he'
    exact hat
  · rw [ho b hb] at he'
    exact va_at.kept (h b h1 h2 e' he') (oq (G.2.2.1 + b) (by omega))
