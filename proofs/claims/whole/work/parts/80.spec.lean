/-! tastes: what a text of one says, by itself -/
def skN (B : Nat → Nat) : Nat → Nat → Nat
  | 0, a => a
  | n + 1, a => if B a = 32 then skN B n (a + 1) else a
def sk (B : Nat → Nat) (e a : Nat) : Nat := skN B (e - a) a
def chA (B : Nat → Nat) (e a : Nat) : Nat := if a < e then B a else 0
abbrev TR : Type := Nat ⊕ (Nat × List Int32)
theorem skN_ge {B : Nat → Nat} : ∀ (n a : Nat), a ≤ skN B n a ∧ skN B n a ≤ a + n := by
  intro n
  induction n with
  | zero => intro a; exact ⟨Nat.le_refl _, Nat.le_refl _⟩
  | succ n ih =>
    intro a
    unfold skN
    split
    · have := ih (a + 1); omega
    · omega
theorem sk_ge {B : Nat → Nat} {e a : Nat} : a ≤ sk B e a := (skN_ge _ _).1
theorem sk_le {B : Nat → Nat} {e a : Nat} (h : a ≤ e) : sk B e a ≤ e := by
  have := (skN_ge (B := B) (e - a) a).2
  unfold sk
  omega
theorem skN_no {B : Nat → Nat} : ∀ (n a : Nat), skN B n a < a + n → B (skN B n a) ≠ 32 := by
  intro n
  induction n with
  | zero => intro a h; unfold skN at h; omega
  | succ n ih =>
    intro a
    unfold skN
    split
    · intro h; exact ih (a + 1) (by omega)
    · rename_i q; intro _; exact q
theorem sk_no {B : Nat → Nat} {e a : Nat} (h : a ≤ e) (h1 : sk B e a < e) : B (sk B e a) ≠ 32 := skN_no _ _ (by unfold sk at h1; omega)
theorem sk_sk {B : Nat → Nat} {e a : Nat} (h : a ≤ e) : sk B e (sk B e a) = sk B e a := by
  by_cases q : sk B e a < e
  · have := sk_no h q
    generalize sk B e a = x at this q ⊢
    unfold sk
    obtain ⟨m, hm⟩ : ∃ m, e - x = m + 1 := ⟨e - x - 1, by omega⟩
    rw [hm]
    unfold skN
    rw [if_neg this]
  · have := sk_le (B := B) h
    have e1 : sk B e a = e := by omega
    rw [e1]
    unfold sk
    rw [Nat.sub_self]
    rfl
/-- one step of skipping -/
theorem sk_step {B : Nat → Nat} {e a : Nat} (h : a < e) : sk B e a = if B a = 32 then sk B e (a + 1) else a := by
  unfold sk
  obtain ⟨m, hm⟩ : ∃ m, e - a = m + 1 := ⟨e - a - 1, by omega⟩
  rw [hm, show e - (a + 1) = m by omega]
  rfl
theorem sk_end {B : Nat → Nat} {e a : Nat} (h : e ≤ a) : sk B e a = a := by
  unfold sk
  rw [show e - a = 0 by omega]
  rfl
def pdN (B : Nat → Nat) (e : Nat) : Nat → Nat → Nat → Nat × Nat
  | 0, a, v => (v, a)
  | m + 1, a, v => if 48 ≤ chA B e a ∧ chA B e a ≤ 57 then pdN B e m (a + 1) (10 * v + (chA B e a - 48)) else (v, a)
def pNum (B : Nat → Nat) (e a : Nat) : TR :=
  if 48 ≤ chA B e a ∧ chA B e a ≤ 57 then (if 48 ≤ chA B e (pdN B e 4 a 0).2 ∧ chA B e (pdN B e 4 a 0).2 ≤ 57 then .inl (pdN B e 4 a 0).2 else .inr ((pdN B e 4 a 0).2, [nI (pdN B e 4 a 0).1]))
  else .inl a
def lix (c : Nat) : Option Nat := if c = 119 then some 0 else if c = 102 then some 1 else if c = 120 then some 2 else if c = 113 then some 3 else if c = 109 then some 4 else if c = 112 then some 5 else none
def lco (i : Nat) : Int32 := -1 - nI i
/-- behind a bracket's inside: its other side -/
def pShut (B : Nat → Nat) (e c : Nat) (r : TR) : TR := match r with
  | .inl f => .inl f
  | .inr q => if chA B e (sk B e q.1) = c then .inr (sk B e q.1 + 1, q.2) else .inl (sk B e q.1)
def pAtom (B : Nat → Nat) (e : Nat) (rf : Nat → Nat → TR) (d a : Nat) : TR := match lix (chA B e (sk B e a)) with
  | some i => .inr (sk B e a + 1, [lco i])
  | none => if chA B e (sk B e a) = 91 then (if d = 6 then .inl (sk B e a) else pShut B e 93 (rf (d + 1) (sk B e a + 1))) else pNum B e (sk B e a)
def pSeq (r : TR) (K : Nat → List Int32 → TR) : TR := match r with
  | .inl f => .inl f
  | .inr q => K q.1 q.2
def pLoop (B : Nat → Nat) (e c1 c2 : Nat) (k1 k2 : Int32) (F : Nat → TR) : Nat → Nat → List Int32 → TR
  | 0, a, _ => .inl a
  | n + 1, a, cs => if chA B e (sk B e a) = c1 ∨ chA B e (sk B e a) = c2 then pSeq (F (sk B e a + 1)) (fun a' cs' => pLoop B e c1 c2 k1 k2 F n a' (cs ++ cs' ++ [if chA B e (sk B e a) = c1 then k1 else k2])) else .inr (sk B e a, cs)
def pTerm (B : Nat → Nat) (e : Nat) (rf : Nat → Nat → TR) (d a : Nat) : TR := pSeq (pAtom B e rf d a) (pLoop B e 42 47 (-13) (-14) (pAtom B e rf d) (e + 1))
def pSum (B : Nat → Nat) (e : Nat) : Nat → Nat → Nat → TR
  | 0, _, a => .inl a
  | n + 1, d, a => pSeq (pTerm B e (pSum B e n) d a) (pLoop B e 43 45 (-11) (-12) (pTerm B e (pSum B e n) d) (e + 1))
def sgn (c : Nat) : Option Int32 := if c = 61 then some (-15) else if c = 60 then some (-16) else if c = 62 then some (-17) else none
def pCmp (B : Nat → Nat) (e d a : Nat) (cs : List Int32) : TR := match sgn (chA B e (sk B e a)) with
  | none => .inl (sk B e a)
  | some k => pSeq (pSum B e 16 d (sk B e a + 1)) (fun a' cs' => .inr (a', cs ++ cs' ++ [k]))
def pPart (B : Nat → Nat) (e : Nat) (un : Nat → TR) (r : TR) : TR := pSeq r (pLoop B e 38 38 (-18) (-18) un (e + 1))
def pCnd (B : Nat → Nat) (e : Nat) (un : Nat → TR) (r : TR) : TR := pSeq (pPart B e un r) (pLoop B e 124 124 (-19) (-19) (fun a => pPart B e un (un a)) (e + 1))
def pUnit (B : Nat → Nat) (e : Nat) : Nat → Nat → Nat → TR
  | 0, _, a => .inl a
  | n + 1, d, a =>
    if chA B e (sk B e a) = 33 then (if d = 6 then .inl (sk B e a) else pSeq (pUnit B e n (d + 1) (sk B e a + 1)) (fun a' cs => .inr (a', cs ++ [-20])))
    else if chA B e (sk B e a) = 40 then (if d = 6 then .inl (sk B e a) else pShut B e 41 (pCnd B e (pUnit B e n (d + 1)) (pUnit B e n (d + 1) (sk B e a + 1))))
    else pSeq (pSum B e 16 d (sk B e a)) (pCmp B e d)
abbrev TC : Type := Nat ⊕ (Nat × Option (List Int32) × List Int32)
def pTail (B : Nat → Nat) (e : Nat) (r : TR) : TC := match r with
  | .inl f => .inl f
  | .inr q => if chA B e (sk B e q.1) = 63 then (match pSum B e 16 0 (sk B e q.1 + 1) with
    | .inl f => .inl f
    | .inr u => .inr (u.1, some q.2, u.2)) else .inl (sk B e q.1)
/-- behind y and : -/
def pBody (B : Nat → Nat) (e a : Nat) : TC :=
  if chA B e a = 33 ∨ chA B e a = 40 then pTail B e (pCnd B e (pUnit B e 16 0) (pUnit B e 16 0 a))
  else match pSum B e 16 0 a with
    | .inl f => .inl f
    | .inr q => if (sgn (chA B e (sk B e q.1))).isSome = true then pTail B e (pCnd B e (pUnit B e 16 0) (pCmp B e 0 (sk B e q.1) q.2)) else .inr (sk B e q.1, none, q.2)
def pClause (B : Nat → Nat) (e a : Nat) : TC :=
  if chA B e (sk B e a) = 121 then (if chA B e (sk B e (sk B e a + 1)) = 58 then pBody B e (sk B e (sk B e (sk B e a + 1) + 1)) else .inl (sk B e (sk B e a + 1))) else .inl (sk B e a)
abbrev CL : Type := List (Option (List Int32) × List Int32)
def pAll (B : Nat → Nat) (e : Nat) : Nat → Nat → CL → Nat ⊕ CL
  | 0, a, _ => .inl a
  | n + 1, a, acc => match pClause B e a with
    | .inl f => .inl f
    | .inr q => if chA B e (sk B e q.1) = 59 then pAll B e n (sk B e q.1 + 1) (acc ++ [q.2]) else if chA B e (sk B e q.1) = 0 then .inr (acc ++ [q.2]) else .inl (sk B e q.1)
/-! where they end, how many codes -/
/-- read from a on, behind so many codes -/
def Bd (e a m : Nat) (r : TR) : Prop := match r with
  | .inl f => a ≤ f ∧ f ≤ e
  | .inr q => a < q.1 ∧ q.1 ≤ e ∧ q.2.length + a ≤ m + q.1
theorem chA_lt {B : Nat → Nat} {e a : Nat} (h : chA B e a ≠ 0) : a < e := by
  unfold chA at h
  split at h
  · assumption
  · exact absurd rfl h
theorem pdN_bd {B : Nat → Nat} {e : Nat} : ∀ (m a v : Nat), a ≤ e → a ≤ (pdN B e m a v).2 ∧ (pdN B e m a v).2 ≤ e := by
  intro m
  induction m with
  | zero => intro a v h; exact ⟨Nat.le_refl _, h⟩
  | succ m ih =>
    intro a v h
    unfold pdN
    split
    · rename_i q
      have := chA_lt (B := B) (e := e) (a := a) (by omega)
      have := ih (a + 1) (10 * v + (chA B e a - 48)) (by omega)
      omega
    · exact ⟨Nat.le_refl _, h⟩
theorem pdN_lt {B : Nat → Nat} {e : Nat} : ∀ (m a v k : Nat), v < 10 ^ k → (pdN B e m a v).1 < 10 ^ (k + m) := by
  intro m
  induction m with
  | zero => intro a v k h; exact h
  | succ m ih =>
    intro a v k h
    unfold pdN
    split
    · rename_i q
      have h2 : 10 * v + (chA B e a - 48) < 10 ^ (k + 1) := by
        rw [Nat.pow_succ]
        omega
      have := ih (a + 1) _ (k + 1) h2
      rw [show k + (m + 1) = k + 1 + m by omega]
      exact this
    · exact Nat.lt_of_lt_of_le h (Nat.pow_le_pow_right (by omega) (by omega))
theorem pNum_bd {B : Nat → Nat} {e a : Nat} (h : a ≤ e) : Bd e a 0 (pNum B e a) := by
  unfold pNum
  split
  · rename_i q
    have h1 := chA_lt (B := B) (e := e) (a := a) (by omega)
    have h2 := pdN_bd (B := B) (e := e) 3 (a + 1) (10 * 0 + (chA B e a - 48)) (by omega)
    have h3 : pdN B e 4 a 0 = pdN B e 3 (a + 1) (10 * 0 + (chA B e a - 48)) := by
      conv => lhs; unfold pdN
      rw [if_pos q]
    rw [h3]
    split
    · exact ⟨by omega, h2.2⟩
    · refine ⟨by show a < _; omega, h2.2, ?_⟩
      show 1 + a ≤ 0 + _
      omega
  · exact ⟨Nat.le_refl _, h⟩
theorem Bd.up {e a a' m m' : Nat} {r : TR} (h : Bd e a' m' r) (h1 : a ≤ a') (h2 : m' + a ≤ m + a') : Bd e a m r := by
  unfold Bd at h ⊢
  split at h
  · omega
  · omega
theorem pShut_bd {B : Nat → Nat} {e c a : Nat} {r : TR} (hc : c ≠ 0) (h : Bd e a 0 r) : Bd e a 0 (pShut B e c r) := by
  unfold pShut
  cases r with
  | inl f => exact h
  | inr q =>
    obtain ⟨h1, h2, h3⟩ := h
    have g1 := sk_ge (B := B) (e := e) (a := q.1)
    have g2 := sk_le (B := B) (e := e) (a := q.1) h2
    show Bd e a 0 (if chA B e (sk B e q.1) = c then .inr (sk B e q.1 + 1, q.2) else .inl (sk B e q.1))
    split
    · rename_i z
      have := chA_lt (B := B) (e := e) (a := sk B e q.1) (by omega)
      refine ⟨by show a < _ + 1; omega, by show _ + 1 ≤ e; omega, ?_⟩
      show q.2.length + a ≤ 0 + (sk B e q.1 + 1)
      omega
    · exact ⟨by omega, g2⟩
theorem lix_0 : lix 0 = none := by decide
theorem pAtom_bd {B : Nat → Nat} {e : Nat} {rf : Nat → Nat → TR} (hr : ∀ d a, a ≤ e → Bd e a 0 (rf d a)) {d a : Nat} (h : a ≤ e) : Bd e a 0 (pAtom B e rf d a) := by
  have g1 := sk_ge (B := B) (e := e) (a := a)
  have g2 := sk_le (B := B) (e := e) (a := a) h
  unfold pAtom
  split
  · rename_i i hi
    have : sk B e a < e := chA_lt (B := B) (fun z => by rw [z, lix_0] at hi; cases hi)
    refine ⟨by show a < _ + 1; omega, by show _ + 1 ≤ e; omega, ?_⟩
    show 1 + a ≤ 0 + (sk B e a + 1)
    omega
  · split
    · rename_i z
      have : sk B e a < e := chA_lt (B := B) (by omega)
      split
      · exact ⟨g1, g2⟩
      · exact pShut_bd (by omega) ((hr (d + 1) (sk B e a + 1) (by omega)).up (by omega) (by omega))
    · exact (pNum_bd g2).up g1 (by omega)
theorem pLoop_bd {B : Nat → Nat} {e c1 c2 : Nat} {k1 k2 : Int32} {F : Nat → TR} (h1 : c1 ≠ 0) (h2 : c2 ≠ 0) (hF : ∀ a, a ≤ e → Bd e a 0 (F a)) {a0 : Nat} : ∀ (n a : Nat) (cs : List Int32), a0 < a → a ≤ e → e < n + a → cs.length + a0 ≤ a → Bd e a0 0 (pLoop B e c1 c2 k1 k2 F n a cs) := by
  intro n
  induction n with
  | zero => intro a cs h0 h3 h4; omega
  | succ n ih =>
    intro a cs h0 h3 h4 h5
    have g1 := sk_ge (B := B) (e := e) (a := a)
    have g2 := sk_le (B := B) (e := e) (a := a) h3
    unfold pLoop
    split
    · rename_i z
      have : sk B e a < e := chA_lt (B := B) (by omega)
      have hf := hF (sk B e a + 1) (by omega)
      unfold pSeq
      cases hq : F (sk B e a + 1) with
      | inl f =>
        rw [hq] at hf
        exact ⟨by have := hf.1; omega, hf.2⟩
      | inr q =>
        rw [hq] at hf
        obtain ⟨f1, f2, f3⟩ := hf
        refine ih q.1 _ (by omega) f2 (by omega) ?_
        rw [List.length_append, List.length_append]
        show cs.length + q.2.length + 1 + a0 ≤ q.1
        omega
    · exact ⟨by show a0 < sk B e a; omega, g2, by show cs.length + a0 ≤ 0 + sk B e a; omega⟩
theorem pSeq_bd {B : Nat → Nat} {e a c1 c2 : Nat} {k1 k2 : Int32} {F : Nat → TR} {r : TR} (h1 : c1 ≠ 0) (h2 : c2 ≠ 0) (hF : ∀ a, a ≤ e → Bd e a 0 (F a)) (hr : Bd e a 0 r) : Bd e a 0 (pSeq r (pLoop B e c1 c2 k1 k2 F (e + 1))) := by
  unfold pSeq
  cases r with
  | inl f => exact hr
  | inr q =>
    obtain ⟨f1, f2, f3⟩ := hr
    exact pLoop_bd h1 h2 hF (e + 1) q.1 q.2 f1 f2 (by omega) (by omega)
theorem pTerm_bd {B : Nat → Nat} {e : Nat} {rf : Nat → Nat → TR} (hr : ∀ d a, a ≤ e → Bd e a 0 (rf d a)) {d a : Nat} (h : a ≤ e) : Bd e a 0 (pTerm B e rf d a) := pSeq_bd (by omega) (by omega) (fun a ha => pAtom_bd hr ha) (pAtom_bd hr h)
theorem pSum_bd {B : Nat → Nat} {e : Nat} : ∀ (n d a : Nat), a ≤ e → Bd e a 0 (pSum B e n d a) := by
  intro n
  induction n with
  | zero => intro d a h; exact ⟨Nat.le_refl _, h⟩
  | succ n ih => intro d a h; exact pSeq_bd (by omega) (by omega) (fun a ha => pTerm_bd ih ha) (pTerm_bd ih h)
theorem pCmp_bd {B : Nat → Nat} {e d a0 a : Nat} {cs : List Int32} (h : a ≤ e) (h0 : a0 < a) (hc : cs.length + a0 ≤ a) : Bd e a0 0 (pCmp B e d a cs) := by
  have g1 := sk_ge (B := B) (e := e) (a := a)
  have g2 := sk_le (B := B) (e := e) (a := a) h
  unfold pCmp
  split
  · exact ⟨by omega, g2⟩
  · rename_i k hk
    have : sk B e a < e := chA_lt (B := B) (fun z => by rw [z] at hk; cases hk)
    have hf := pSum_bd (B := B) (e := e) 16 d (sk B e a + 1) (by omega)
    unfold pSeq
    cases hq : pSum B e 16 d (sk B e a + 1) with
    | inl f => rw [hq] at hf; exact ⟨by have := hf.1; omega, hf.2⟩
    | inr q =>
      rw [hq] at hf
      obtain ⟨f1, f2, f3⟩ := hf
      refine ⟨by show a0 < q.1; omega, f2, ?_⟩
      show (cs ++ q.2 ++ [k]).length + a0 ≤ 0 + q.1
      rw [List.length_append, List.length_append]
      show cs.length + q.2.length + 1 + a0 ≤ 0 + q.1
      omega
theorem pPart_bd {B : Nat → Nat} {e a : Nat} {un : Nat → TR} {r : TR} (hu : ∀ a, a ≤ e → Bd e a 0 (un a)) (hr : Bd e a 0 r) : Bd e a 0 (pPart B e un r) := pSeq_bd (by omega) (by omega) hu hr
theorem pCnd_bd {B : Nat → Nat} {e a : Nat} {un : Nat → TR} {r : TR} (hu : ∀ a, a ≤ e → Bd e a 0 (un a)) (hr : Bd e a 0 r) : Bd e a 0 (pCnd B e un r) := pSeq_bd (by omega) (by omega) (fun a ha => pPart_bd hu (hu a ha)) (pPart_bd hu hr)
theorem pUnit_bd {B : Nat → Nat} {e : Nat} : ∀ (n d a : Nat), a ≤ e → Bd e a 0 (pUnit B e n d a) := by
  intro n
  induction n with
  | zero => intro d a h; exact ⟨Nat.le_refl _, h⟩
  | succ n ih =>
    intro d a h
    have g1 := sk_ge (B := B) (e := e) (a := a)
    have g2 := sk_le (B := B) (e := e) (a := a) h
    unfold pUnit
    split
    · rename_i z
      have : sk B e a < e := chA_lt (B := B) (by omega)
      split
      · exact ⟨g1, g2⟩
      · have hf := ih (d + 1) (sk B e a + 1) (by omega)
        unfold pSeq
        cases hq : pUnit B e n (d + 1) (sk B e a + 1) with
        | inl f => rw [hq] at hf; exact ⟨by have := hf.1; omega, hf.2⟩
        | inr q =>
          rw [hq] at hf
          obtain ⟨f1, f2, f3⟩ := hf
          refine ⟨by show a < q.1; omega, f2, ?_⟩
          show (q.2 ++ [-20]).length + a ≤ 0 + q.1
          rw [List.length_append]
          show q.2.length + 1 + a ≤ 0 + q.1
          omega
    · split
      · rename_i z
        have : sk B e a < e := chA_lt (B := B) (by omega)
        split
        · exact ⟨g1, g2⟩
        · exact (pShut_bd (by omega) (pCnd_bd (ih (d + 1)) (ih (d + 1) (sk B e a + 1) (by omega)))).up (by omega) (by omega)
      · have hf := pSum_bd (B := B) (e := e) 16 d (sk B e a) g2
        unfold pSeq
        cases hq : pSum B e 16 d (sk B e a) with
        | inl f => rw [hq] at hf; exact ⟨by have := hf.1; omega, hf.2⟩
        | inr q =>
          rw [hq] at hf
          obtain ⟨f1, f2, f3⟩ := hf
          exact pCmp_bd f2 (by omega) (by omega)
