/-! a room's text, by itself -/
def kiR (c : Nat) : Option Nat := if c = 115 then some 0 else if c = 112 then some 1 else if c = 103 then some 2 else if c = 101 then some 3 else none
def kcR (k : Nat) : Nat := [115, 112, 103, 101].getD k 0
def nKR (k : Nat) : Nat := [3, 4, 3, 2].getD k 0
def capR (k : Nat) : Nat := [8, 8, 10, 1].getD k 0
def lstR (k i : Nat) : Nat := [0, 0, 0, 0, 0, 0, 1, 0, 0, 0, 1, 0, 0, 1, 0, 0].getD (4 * k + i) 0
def mstR (k i : Nat) : Nat := [99, 99, 19, 0, 8, 9, 99, 9, 7, 99, 9, 0, 99, 99, 0, 0].getD (4 * k + i) 0
def usuR (k i : Nat) : Nat := [10, 0, 0, 0, 8, 5, 1, 0, 0, 1, 2, 0, 20, 60, 0, 0].getD (4 * k + i) 0
def ixR (c : Nat) : List Nat → Nat → Option Nat
  | [], _ => none
  | b :: l, k => if b = c then some k else ixR c l (k + 1)
def spotR (k c : Nat) : Option Nat := ixR c ([[119, 102, 120], [115, 113, 98, 107], [112, 109, 100], [102, 116]].getD k []) 0
/-- a number of two digits at most: where it fails, or itself and its end -/
def pN2 (B : Nat → Nat) (e a : Nat) : Nat ⊕ (Nat × Nat) :=
  if 48 ≤ chA B e (sk B e a) ∧ chA B e (sk B e a) ≤ 57 then (if 48 ≤ chA B e (pdN B e 2 (sk B e a) 0).2 ∧ chA B e (pdN B e 2 (sk B e a) 0).2 ≤ 57 then .inl (pdN B e 2 (sk B e a) 0).2 else .inr ((pdN B e 2 (sk B e a) 0).1, (pdN B e 2 (sk B e a) 0).2)) else .inl (sk B e a)
/-- the items of a clause -/
def pIt (B : Nat → Nat) (e k : Nat) : Nat → Nat → Int32 → (Nat → Nat) → Nat ⊕ ((Nat → Nat) × Nat)
  | 0, _, _, _ => .inl 0
  | n + 1, a, se, it => match spotR k (chA B e (sk B e a)) with
    | none => .inr (it, sk B e a)
    | some i => if ((se >>> (nI i &&& 31)) &&& 1) = 0 then (match pN2 B e (sk B e a + 1) with
      | .inl f => .inl f
      | .inr q => if lstR k i ≤ q.1 ∧ q.1 ≤ mstR k i then pIt B e k n q.2 (se ||| (1 <<< (nI i &&& 31))) (fun j => if j = i then q.1 else it j) else .inl (q.2 - 1)) else .inl (sk B e a)
/-- what a room's text tells: how many of each kind, their items -/
abbrev RM : Type := (Nat → Nat) × (Nat → Nat → Nat → Nat)
def rmZ : RM := (fun _ => 0, fun _ _ i => usuR 3 i)
def addR (R : RM) (k : Nat) (it : Nat → Nat) : RM := (fun j => if j = k then R.1 k + 1 else R.1 j, fun j r i => if j = k ∧ r = R.1 k then it i else R.2 j r i)
def whR (R : RM) : Bool := decide (1 ≤ R.1 0 ∧ 1 ≤ R.1 1 ∧ (∀ p, p < R.1 1 → R.2 1 p 0 = 8 ∨ (R.2 1 p 0 < R.1 0 ∧ ∀ q, q < p → R.2 1 q 0 ≠ R.2 1 p 0)) ∧ ∀ g, g < R.1 2 → R.2 2 g 0 < R.1 1)
def pRoom (B : Nat → Nat) (e : Nat) : Nat → Nat → RM → Nat ⊕ RM
  | 0, _, _ => .inl 0
  | n + 1, a, R => match kiR (chA B e (sk B e a)) with
    | none => .inl (sk B e a)
    | some k => if R.1 k < capR k then (match pIt B e k (e + 1) (sk B e a + 1) 0 (usuR k) with
      | .inl f => .inl f
      | .inr q => if chA B e q.2 = 59 then pRoom B e n (q.2 + 1) (addR R k q.1) else if chA B e q.2 = 0 then (if whR (addR R k q.1) = true then .inr (addR R k q.1) else .inl e) else .inl q.2) else .inl (sk B e a)
theorem spotR_lt : ∀ k, k < 4 → ∀ c, c < 256 → ∀ i, spotR k c = some i → i < nKR k := by decide +kernel
theorem spotR_0 : ∀ k, k < 4 → spotR k 0 = none ∧ spotR k 59 = none := by decide +kernel
theorem kiR_lt {c k : Nat} (h : kiR c = some k) : k < 4 := by
  unfold kiR at h
  split at h
  · cases h; omega
  · split at h
    · cases h; omega
    · split at h
      · cases h; omega
      · split at h
        · cases h; omega
        · cases h
theorem kiR_c : ∀ c, c < 256 → ∀ k, kiR c = some k → c = kcR k := by decide +kernel
theorem nKR_le {k : Nat} (hk : k < 4) : nKR k ≤ 4 ∧ 2 ≤ nKR k := by
  rcases (show k = 0 ∨ k = 1 ∨ k = 2 ∨ k = 3 by omega) with rfl | rfl | rfl | rfl <;> decide
theorem mstR_lt : ∀ k, k < 4 → ∀ i, i < 4 → mstR k i < 100 ∧ lstR k i < 100 ∧ usuR k i < 100 := by decide +kernel
theorem usuR_bd : ∀ k, k < 4 → ∀ i, i < nKR k → lstR k i ≤ usuR k i ∧ usuR k i ≤ mstR k i := by decide +kernel
theorem jx_1 : ∀ c, c < 256 → (c ≠ 0 → js_ix 1 (((Int32.toUInt32 (nI c)) % 65536).toInt32) = oI (kiR c)) := by decide +kernel
theorem jx_k : ∀ k, k < 4 → ∀ c, c < 256 → (c ≠ 0 → js_ix (k + 2) (((Int32.toUInt32 (nI c)) % 65536).toInt32) = oI (spotR k c)) := by decide +kernel
theorem and1 (x : Int32) : (x &&& 1) = 0 ↔ ¬ (x &&& 1) = 1 := by
  constructor
  · intro h h2
    rw [h] at h2
    exact absurd h2 (by decide)
  · intro h
    have hb : (x &&& 1).toBitVec = x.toBitVec &&& 1#32 := rfl
    apply Int32.toBitVec_inj.mp
    rw [hb]
    have h' : ¬ (x.toBitVec &&& 1#32) = 1#32 := fun z => h (Int32.toBitVec_inj.mp (hb.trans z))
    show x.toBitVec &&& 1#32 = 0#32
    generalize x.toBitVec = v at h'
    apply BitVec.eq_of_toNat_eq
    have h2 : ¬ (v &&& 1#32).toNat = 1 := fun z => h' (BitVec.eq_of_toNat_eq z)
    rw [BitVec.toNat_and] at h2 ⊢
    rw [show (1#32).toNat = 1 by decide, Nat.and_one_is_mod] at h2 ⊢
    show v.toNat % 2 = 0
    omega
section
variable {B : Nat → Nat} {e a k n : Nat}
theorem pdN_2 (hd : 48 ≤ chA B e a ∧ chA B e a ≤ 57) : pdN B e 2 a 0 = if 48 ≤ chA B e (a + 1) ∧ chA B e (a + 1) ≤ 57 then (10 * (chA B e a - 48) + (chA B e (a + 1) - 48), a + 2) else (chA B e a - 48, a + 1) := by
  unfold pdN
  rw [if_pos hd]
  unfold pdN
  by_cases q : 48 ≤ chA B e (a + 1) ∧ chA B e (a + 1) ≤ 57
  · rw [if_pos q, if_pos q]
    unfold pdN
    rw [Nat.mul_zero, Nat.zero_add]
  · rw [if_neg q, if_neg q, Nat.mul_zero, Nat.zero_add]
theorem pN2_bd (h : a ≤ e) : match pN2 B e a with
    | .inl f => f ≤ e
    | .inr q => a < q.2 ∧ q.2 ≤ e ∧ q.1 < 100 := by
  have h1 := sk_le (B := B) h
  have h2 := sk_ge (B := B) (e := e) (a := a)
  unfold pN2
  by_cases q : 48 ≤ chA B e (sk B e a) ∧ chA B e (sk B e a) ≤ 57
  · have l1 : sk B e a < e := chA_lt (B := B) (by omega)
    rw [if_pos q, pdN_2 q]
    by_cases q2 : 48 ≤ chA B e (sk B e a + 1) ∧ chA B e (sk B e a + 1) ≤ 57
    · have l2 : sk B e a + 1 < e := chA_lt (B := B) (by omega)
      rw [if_pos q2]
      simp only
      by_cases q3 : 48 ≤ chA B e (sk B e a + 2) ∧ chA B e (sk B e a + 2) ≤ 57
      · rw [if_pos q3]
        simp only
        omega
      · rw [if_neg q3]
        simp only
        omega
    · rw [if_neg q2]
      simp only
      rw [if_neg q2]
      simp only
      omega
  · rw [if_neg q]
    exact h1
def BI (k : Nat) (it : Nat → Nat) : Prop := ∀ i, i < nKR k → lstR k i ≤ it i ∧ it i ≤ mstR k i
theorem spot_in (hk : k < 4) {i : Nat} (h : spotR k (chA B e a) = some i) : a < e := by
  refine Decidable.byContradiction fun q => ?_
  rw [chA_out (by omega), (spotR_0 k hk).1] at h
  cases h
theorem pIt_bd (hk : k < 4) : ∀ (n a : Nat) (se : Int32) (it : Nat → Nat), a ≤ e → e < n + a → BI k it → match pIt B e k n a se it with
    | .inl f => f ≤ e
    | .inr q => a ≤ q.2 ∧ q.2 ≤ e ∧ sk B e q.2 = q.2 ∧ BI k q.1 := by
  intro n
  induction n with
  | zero => intro a se it h1 h2; omega
  | succ n ih =>
    intro a se it h1 h2 h3
    have g1 := sk_le (B := B) h1
    have g2 := sk_ge (B := B) (e := e) (a := a)
    rw [pIt]
    cases hs : spotR k (chA B e (sk B e a)) with
    | none => exact ⟨g2, g1, sk_sk h1, h3⟩
    | some i =>
      simp only
      have g3 := spot_in hk hs
      by_cases q : ((se >>> (nI i &&& 31)) &&& 1) = 0
      · rw [if_pos q]
        have hb := pN2_bd (B := B) (e := e) (a := sk B e a + 1) (by omega)
        cases hn : pN2 B e (sk B e a + 1) with
        | inl f => rw [hn] at hb; exact hb
        | inr v =>
          rw [hn] at hb
          simp only at hb ⊢
          by_cases q2 : lstR k i ≤ v.1 ∧ v.1 ≤ mstR k i
          · rw [if_pos q2]
            have hi := ih v.2 (se ||| (1 <<< (nI i &&& 31))) (fun j => if j = i then v.1 else it j) hb.2.1 (by omega) (fun j hj => by
              simp only
              by_cases z : j = i
              · rw [if_pos z, z]; exact q2
              · rw [if_neg z]; exact h3 j hj)
            cases hp : pIt B e k n v.2 (se ||| (1 <<< (nI i &&& 31))) (fun j => if j = i then v.1 else it j) with
            | inl f => rw [hp] at hi; exact hi
            | inr w =>
              rw [hp] at hi
              simp only at hi ⊢
              exact ⟨by omega, hi.2.1, hi.2.2.1, hi.2.2.2⟩
          · rw [if_neg q2]
            simp only
            omega
      · rw [if_neg q]
        exact g1
end
