/-! tastes: what codes are worth; the model's numbers -/
def bnd (v : Int64) : Int32 := Int64.toInt32 (if 1000000 < v then 1000000 else if v < -1000000 then -1000000 else v)
def jn (c a b : Int32) : Int32 := if c = -18 then a &&& b else if c = -17 then (if a ≤ b then 0 else 1) else if c = -16 then (if b ≤ a then 0 else 1) else if c = -15 then (if a = b then 1 else 0) else if c = -14 then bnd (if b = 0 then 0 else a.toInt64 / b.toInt64) else if c = -13 then bnd (a.toInt64 * b.toInt64) else if c = -12 then bnd (a.toInt64 - b.toInt64) else if c = -11 then bnd (a.toInt64 + b.toInt64) else a ||| b
def vof (l : Nat → Int32) (c : Int32) : Int32 := if c < 0 then (if (-1) - c < 0 ∨ 6 ≤ (-1) - c then 0 else l ((-1) - c).toNatClampNeg) else c
def ex1 (l : Nat → Int32) (c : Int32) (st : List Int32) : Option (List Int32) :=
  if c ≤ -11 then (if c = -20 then (match st with
    | x :: r => some ((1 - x) :: r)
    | [] => none) else if c = -21 ∨ c = -22 then none else match st with
    | b :: a :: r => some (jn c a b :: r)
    | _ => none)
  else if st.length < 64 then some (vof l c :: st) else none
def exs (l : Nat → Int32) : List Int32 → List Int32 → Option (List Int32)
  | [], st => some st
  | c :: cs, st => (ex1 l c st).bind (exs l cs)
theorem exs_app {l : Nat → Int32} : ∀ (cs cs' st : List Int32), exs l (cs ++ cs') st = (exs l cs st).bind (exs l cs') := by
  intro cs
  induction cs with
  | nil => intro cs' st; rfl
  | cons c cs ih =>
    intro cs' st
    show (ex1 l c st).bind (exs l (cs ++ cs')) = ((ex1 l c st).bind (exs l cs)).bind (exs l cs')
    cases ex1 l c st with
    | none => rfl
    | some s => exact ih cs' s
/-- these codes put this number on a stack, with so much room -/
def Val (l : Nat → Int32) (cs : List Int32) (v : Int32) (h : Nat) : Prop := ∀ st, st.length + h ≤ 64 → exs l cs st = some (v :: st)
theorem Val.up {l : Nat → Int32} {cs : List Int32} {v : Int32} {h h' : Nat} (H : Val l cs v h) (q : h ≤ h') : Val l cs v h' := fun st hs => H st (by omega)
theorem Val.num {l : Nat → Int32} {n : Nat} (hn : n < 100000) : Val l [nI n] (nI n) 1 := by
  intro st hs
  show (ex1 l (nI n) st).bind (exs l []) = _
  unfold ex1 vof
  rw [if_neg (show ¬ nI n ≤ -11 from fun z => absurd (Int32.le_trans (nI_pos' (n := n) (by omega)) z) (by decide)), if_pos (by omega), if_neg (nI_pos (by omega))]
  rfl
theorem lco_all : ∀ i, i < 6 → ¬ lco i ≤ -11 ∧ lco i < 0 ∧ ¬ ((-1) - lco i < 0 ∨ 6 ≤ (-1) - lco i) ∧ ((-1) - lco i).toNatClampNeg = i := by decide +kernel
theorem Val.let1 {l : Nat → Int32} {i : Nat} (hi : i < 6) : Val l [lco i] (l i) 1 := by
  intro st hs
  obtain ⟨h1, h2, h3, h4⟩ := lco_all i hi
  show (ex1 l (lco i) st).bind (exs l []) = _
  unfold ex1 vof
  rw [if_neg h1, if_pos (by omega), if_pos h2, if_neg h3, h4]
  rfl
theorem Val.op {l : Nat → Int32} {cs cs' : List Int32} {a b k : Int32} {h1 h2 h : Nat} (H1 : Val l cs a h1) (H2 : Val l cs' b h2) (hk : k ≤ -11) (hk2 : k ≠ -20 ∧ k ≠ -21 ∧ k ≠ -22) (q1 : h1 ≤ h) (q2 : h2 + 1 ≤ h) : Val l (cs ++ cs' ++ [k]) (jn k a b) h := by
  intro st hs
  rw [exs_app, exs_app, H1 st (by omega)]
  show ((exs l cs' (a :: st)).bind (exs l [k])) = _
  rw [H2 (a :: st) (by show st.length + 1 + h2 ≤ 64; omega)]
  show (ex1 l k (b :: a :: st)).bind (exs l []) = _
  unfold ex1
  rw [if_pos hk, if_neg hk2.1, if_neg (fun z => z.elim hk2.2.1 hk2.2.2)]
  rfl
theorem Val.no {l : Nat → Int32} {cs : List Int32} {v : Int32} {h : Nat} (H : Val l cs v h) : Val l (cs ++ [-20]) (1 - v) h := by
  intro st hs
  rw [exs_app, H st hs]
  rfl
theorem i64_lt {a b : Int64} : ¬ a < b ↔ b ≤ a := Int64.not_lt
theorem w_bnd {v : Int64} {σ : LH} : s_Model_within v σ = some (bnd v, σ) := by
  unfold s_Model_within bnd
  by_cases q1 : 1000000 < v
  · have h1 : ¬ v < 1000000 := fun z => absurd (Int64.lt_trans q1 z) (Int64.lt_irrefl)
    rw [if_pos q1, if_neg h1, if_neg (by decide)]
  · rw [if_neg q1]
    have h2 := Int64.not_lt.mp q1
    by_cases q2 : v < 1000000
    · rw [if_pos q2]
    · have h3 : v = 1000000 := Int64.le_antisymm h2 (Int64.not_lt.mp q2)
      rw [if_neg q2, h3]
/-- where the model stands, wherever -/
def mX (τ : LH) (x f y : Int32) : LH := stI (stI (stI τ 570 10 x) 570 11 f) 570 12 y
theorem mS_X {τ : LH} {a d : Nat} {f : Int32} : mS τ a f d = mX τ (nI a) f (nI d) := rfl
theorem mX_11 {τ : LH} {x y f : Int32} : (mX τ x f y).1 570 11 = f := by
  unfold mX
  rw [stI_570, if_neg (by omega), stI_570, if_pos rfl]
theorem mX_12 {τ : LH} {x y f : Int32} : (mX τ x f y).1 570 12 = y := by
  unfold mX
  rw [stI_570, if_pos rfl]
theorem mX_d {τ : LH} {x y y' f : Int32} : stI (mX τ x f y) 570 12 y' = mX τ x f y' := by
  unfold mX
  rw [stI_ov]
theorem mX_failsF {τ : LH} {x y : Int32} {g : Nat} (hg : g < 2 ^ 31) : s_Model_fails (mX τ x (nI g) y) = some (0, mX τ x (nI g) y) := by
  unfold s_Model_fails s_Model_fails_16
  rw [mX_11, if_neg (nI_m1 hg)]
theorem mX_takesF {τ : LH} {x y c : Int32} {g : Nat} (hg : g < 2 ^ 31) : s_Model_takes c (mX τ x (nI g) y) = some (0, mX τ x (nI g) y) := by
  unfold s_Model_takes s_Model_takes_16
  rw [mX_11, if_neg (nI_m1 hg), mX_failsF hg]
  rfl
/-- what comes of reading in the model: a fault, or a number that the codes are worth -/
def MO (τ : LH) (l : Nat → Int32) (d h : Nat) (r : TR) (o : Option (Int32 × LH)) : Prop := match r with
  | .inl f => f < 2 ^ 31 ∧ ∃ v x y, o = some (v, mX τ x (nI f) y)
  | .inr q => ∃ v, o = some (v, mS τ q.1 (-1) d) ∧ Val l q.2 v h
def LM (τ : LH) (l : Nat → Int32) : Prop := ∀ c i, lix c = some i → τ.1 574 c = l i
theorem lix_lt {c i : Nat} (h : lix c = some i) : i < 6 ∧ c < 128 := by
  unfold lix at h
  repeat (first | (split at h; · cases h; omega) | (cases h))
section
variable {τ : LH} {B : Nat → Nat} {e b b0 : Nat} {l : Nat → Int32}
theorem m_digits (h : TM τ B e b b0) {rf : LH → Option (Int32 × LH)} {d : Nat} : ∀ (m n j a v : Nat), j + m = 4 → m < n → a ≤ e → v < 10 ^ j → s_Model_atom_90 rf n (nI v) (nI j) (mS τ a (-1) d) = if 48 ≤ chA B e (pdN B e m a v).2 ∧ chA B e (pdN B e m a v).2 ≤ 57 then some (0, mS τ (pdN B e m a v).2 (nI (pdN B e m a v).2) d) else some (nI (pdN B e m a v).1, mS τ (pdN B e m a v).2 (-1) d) := by
  intro m
  induction m with
  | zero =>
    intro n j a v hj hn ha hv
    obtain ⟨n, rfl⟩ : ∃ q, n = q + 1 := ⟨n - 1, by omega⟩
    rw [s_Model_atom_90]
    unfold s_Model_atom_90_b s_Model_atom_156 pdN
    rw [m_isDigit h ha]
    simp only [xb2]
    by_cases q : 48 ≤ chA B e a ∧ chA B e a ≤ 57
    · rw [if_pos q, if_neg (show ¬ (1 : Int32) = 0 by decide), mS_11, if_pos rfl, if_pos (show nI j = 4 by rw [show j = 4 by omega]; rfl), m_fails, if_pos q]
    · rw [if_neg q, if_pos rfl, if_neg q]
  | succ m ih =>
    intro n j a v hj hn ha hv
    obtain ⟨n, rfl⟩ : ∃ q, n = q + 1 := ⟨n - 1, by omega⟩
    have h' := h.mS (a := a) (f := -1) (d := d)
    rw [s_Model_atom_90]
    unfold s_Model_atom_90_b s_Model_atom_156
    rw [m_isDigit h ha]
    simp only [xb2]
    by_cases q : 48 ≤ chA B e a ∧ chA B e a ≤ 57
    · have hlt : a < e := chA_lt (B := B) (by omega)
      have hc : chA B e a = B a := chA_in hlt
      obtain ⟨b1, b2, b3⟩ := h'.2.2.2.2 a hlt
      have hp : pdN B e (m + 1) a v = pdN B e m (a + 1) (10 * v + (chA B e a - 48)) := by
        conv => lhs; unfold pdN
        rw [if_pos q]
      have hj4 : 10 ^ j ≤ 1000 := by
        have : j ≤ 3 := by omega
        have := Nat.pow_le_pow_right (n := 10) (by omega) this
        omega
      have ev : (10 : Int32) * nI v + sx (B a) - 48 = nI (10 * v + (chA B e a - 48)) := by
        rw [sx_d _ (by omega), show (10 : Int32) = nI 10 from rfl, pk_mul, nI_add, show (48 : Int32) = nI 48 from rfl, pk_sub (by omega), hc]
        congr 1
        omega
      rw [if_pos q, if_neg (show ¬ (1 : Int32) = 0 by decide), mS_11, if_pos rfl, if_neg (show ¬ nI j = 4 from fun z => by have := nI_ij (b := 4) (by omega) (by omega) z; omega), h'.1]
      simp only [xl]
      rw [h'.2.2.1, mS_10, if_pos (h.ib hlt), h.cl hlt, b1, nI_1 a, mS_a, nI_1 j, ev, hp]
      exact ih n (j + 1) (a + 1) _ (by omega) (by omega) (by omega) (by rw [Nat.pow_succ]; omega)
    · have hp : pdN B e (m + 1) a v = (v, a) := by
        unfold pdN
        rw [if_neg q]
      rw [if_neg q, if_pos rfl, hp, if_neg q]
def ha9 (d : Nat) : Nat := 3 * (6 - d) + 1
theorem m_atom (h : TM τ B e b b0) (hl : LM τ l) {rf : LH → Option (Int32 × LH)} {prf : Nat → Nat → TR} (hp : ∀ d a, a ≤ e → Bd e a 0 (prf d a)) {d : Nat} (hd : d ≤ 6) (hrf : d < 6 → ∀ a, a ≤ e → MO τ l (d + 1) (3 * (6 - d)) (prf (d + 1) a) (rf (mS τ a (-1) (d + 1)))) {a : Nat} (ha : a ≤ e) : MO τ l d (ha9 d) (pAtom B e prf d a) (s_Model_atom rf (mS τ a (-1) d)) := by
  have g1 := sk_ge (B := B) (e := e) (a := a)
  have g2 := sk_le (B := B) (e := e) (a := a) ha
  have he := h.e9
  have hc := h.ch (a := sk B e a)
  unfold s_Model_atom
  rw [m_look h ha]
  simp only [xb2]
  rw [m_among0 hc]
  simp only
  unfold pAtom
  cases hx : lix (chA B e (sk B e a)) with
  | some i =>
    obtain ⟨i6, c128⟩ := lix_lt hx
    have c0 : chA B e (sk B e a) ≠ 0 := fun z => by rw [z, lix_0] at hx; cases hx
    rw [if_pos (show (some i).isSome = true from rfl), if_neg (show ¬ (1 : Int32) = 0 by decide)]
    simp only [xl]
    rw [mS_10, nI_1, mS_a, oc_n c0, if_pos (ib_nI c128 (by omega)), nI_clamp (by omega), mS_n (by omega), hl _ _ hx]
    exact ⟨l i, rfl, (Val.let1 i6).up (by unfold ha9; omega)⟩
  | none =>
    rw [if_neg (show ¬ (none : Option Nat).isSome = true by simp), if_pos rfl]
    have h91 := oc_eq (c := chA B e (sk B e a)) (k := 91) (by omega) (by omega) (by omega)
    by_cases q : chA B e (sk B e a) = 91
    · have hlt : sk B e a < e := chA_lt (B := B) (by omega)
      rw [if_pos (show oc (chA B e (sk B e a)) = 91 from h91.mpr q), m_goesIn hd]
      simp only [if_pos q]
      by_cases q6 : d = 6
      · simp only [if_pos q6]
        rw [if_pos trivial]
        exact ⟨by omega, 0, _, _, rfl⟩
      · simp only [if_neg q6]
        rw [if_neg (show ¬ (1 : Int32) = 0 by decide)]
        have hf := hrf (by omega) (sk B e a + 1) (by omega)
        have hb := hp (d + 1) (sk B e a + 1) (by omega)
        unfold pShut
        cases hq : prf (d + 1) (sk B e a + 1) with
        | inl f =>
          rw [hq] at hf
          obtain ⟨f1, v, x, y, f2⟩ := hf
          rw [f2]
          simp only
          rw [mX_takesF f1]
          simp only
          rw [if_pos trivial]
          exact ⟨f1, 0, x, y, rfl⟩
        | inr r =>
          rw [hq] at hf hb
          obtain ⟨v, f2, f3⟩ := hf
          rw [f2]
          simp only
          rw [show (93 : Int32) = nI 93 from rfl, m_takes h hb.2.1 (by omega) (by omega)]
          by_cases q93 : chA B e (sk B e r.1) = 93
          · simp only [if_pos q93]
            rw [if_neg (show ¬ (1 : Int32) = 0 by decide)]
            simp only [xl]
            rw [mS_12, nI_pred, mS_d]
            exact ⟨v, rfl, f3.up (by unfold ha9; omega)⟩
          · simp only [if_neg q93]
            rw [if_pos trivial]
            have g3 := sk_le (B := B) (e := e) (a := r.1) hb.2.1
            exact ⟨by omega, 0, _, _, rfl⟩
    · rw [if_neg (show ¬ oc (chA B e (sk B e a)) = 91 from fun z => q (h91.mp z)), m_isDigit h g2]
      simp only [if_neg q]
      unfold pNum s_Model_atom_86
      by_cases qd : 48 ≤ chA B e (sk B e a) ∧ chA B e (sk B e a) ≤ 57
      · rw [if_pos qd, if_pos qd, if_neg (show ¬ (1 : Int32) = 0 by decide), ← nI_0, m_digits h 4 FUEL 0 (sk B e a) 0 (by omega) (by unfold FUEL; omega) g2 (by omega)]
        have hb := pdN_bd (B := B) (e := e) 4 (sk B e a) 0 g2
        have hv := pdN_lt (B := B) (e := e) 4 (sk B e a) 0 0 (by omega)
        by_cases q5 : 48 ≤ chA B e (pdN B e 4 (sk B e a) 0).2 ∧ chA B e (pdN B e 4 (sk B e a) 0).2 ≤ 57
        · rw [if_pos q5, if_pos q5]
          exact ⟨by omega, 0, _, _, rfl⟩
        · rw [if_neg q5, if_neg q5]
          exact ⟨_, rfl, (Val.num (by have : (10 : Nat) ^ (0 + 4) = 10000 := rfl; omega)).up (by unfold ha9; omega)⟩
      · rw [if_neg qd, if_neg qd, if_pos rfl, m_fails]
        simp only
        have e0 : s_Model_atom_90 rf FUEL 0 0 (mS τ (sk B e a) (nI (sk B e a)) d) = some (0, mS τ (sk B e a) (nI (sk B e a)) d) := by
          rw [show FUEL = 99999 + 1 from rfl, s_Model_atom_90]
          unfold s_Model_atom_90_b s_Model_atom_156
          rw [m_isDigit h g2, if_neg qd]
          rfl
        rw [e0]
        exact ⟨by omega, 0, _, _, rfl⟩
end
