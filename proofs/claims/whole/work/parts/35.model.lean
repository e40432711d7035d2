/-! the model: its worlds' functions -/
theorem c4 {k : Nat} : (4 : Int32) * nI k = nI (4 * k) := by rw [show (4 : Int32) = nI 4 from rfl, pk_mul]
theorem c3 {k : Nat} : (3 : Int32) * nI k = nI (3 * k) := by rw [show (3 : Int32) = nI 3 from rfl, pk_mul]
theorem c2 {k : Nat} : (2 : Int32) * nI k = nI (2 * k) := by rw [show (2 : Int32) = nI 2 from rfl, pk_mul]
theorem c32 {k : Nat} : (32 : Int32) + nI k = nI (32 + k) := nI_add 32 k
theorem c49 {k : Nat} : (49 : Int32) + nI k = nI (49 + k) := nI_add 49 k
theorem c50 {k : Nat} : (50 : Int32) + nI k = nI (50 + k) := nI_add 50 k
theorem a1 {k : Nat} : nI k + 1 = nI (k + 1) := nI_1 k
theorem a2 {k : Nat} : nI k + 2 = nI (k + 2) := nI_add k 2
theorem a3 {k : Nat} : nI k + 3 = nI (k + 3) := nI_add k 3
theorem a4 {k : Nat} : nI k + 4 = nI (k + 4) := nI_add k 4
theorem stF_s {τ : LH} {a : Nat} {f : Nat → Int32} : (stF τ a f).1 a = f := by simp [stF]
theorem stF_n {τ : LH} {a b : Nat} {f : Nat → Int32} (h : b ≠ a) : (stF τ a f).1 b = τ.1 b := by simp [stF, h]
theorem stF_F {τ : LH} {a : Nat} {f g : Nat → Int32} : stF (stF τ a f) a g = stF τ a g := by
  unfold stF
  refine Prod.ext ?_ rfl
  funext b
  show (if b = a then g else if b = a then f else τ.1 b) = if b = a then g else τ.1 b
  by_cases q : b = a
  · rw [if_pos q, if_pos q]
  · rw [if_neg q, if_neg q, if_neg q]
theorem stF_id {τ : LH} {a : Nat} : stF τ a (τ.1 a) = τ := by
  unfold stF
  refine Prod.ext ?_ rfl
  funext b
  show (if b = a then τ.1 a else τ.1 b) = τ.1 b
  by_cases q : b = a
  · rw [if_pos q, q]
  · rw [if_neg q]
theorem stI_F {τ : LH} {a i : Nat} {f : Nat → Int32} {v : Int32} : stI (stF τ a f) a i v = stF τ a (upd f i v) := by
  unfold stI
  rw [stF_F, stF_s]
theorem stF_com {τ : LH} {a b : Nat} {f g : Nat → Int32} (h : a ≠ b) : stF (stF τ a f) b g = stF (stF τ b g) a f := by
  unfold stF
  refine Prod.ext ?_ rfl
  funext c
  show (if c = b then g else if c = a then f else τ.1 c) = if c = a then f else if c = b then g else τ.1 c
  by_cases q : c = b
  · subst q
    rw [if_pos rfl, if_neg (Ne.symm h), if_pos rfl]
  · rw [if_neg q, if_neg q]
theorem m_isHere {τ : LH} {a p : Nat} (hp : p < 8) : s_Model_isHere a (nI p) τ = some (if τ.1 a (4 * p) = -2 then 0 else 1, τ) := by
  unfold s_Model_isHere
  rw [c4, if_pos (ib_nI (by omega) (by omega)), nI_clamp (by omega)]
  by_cases q : τ.1 a (4 * p) = -2
  · rw [if_pos q, if_pos q]
    unfold s_Model_isHere_15
    rw [if_pos (Or.inl rfl)]
  · rw [if_neg q, if_neg q]
    unfold s_Model_isHere_15
    rw [if_pos (Or.inr rfl)]
def mUp (p : Nat) (d b : Int32) (A : Nat → Int32) : Nat → Int32 :=
  if A (4 * p) < 0 ∨ b = 0 ∨ A (4 * p + 2) = 0 then upd (upd A (4 * p) (-2)) (4 * p + 1) (A 48 + d)
  else upd (upd (upd (upd A (4 * p) (-2)) (4 * p + 1) (A 48 + d)) (32 + 2 * (A (4 * p)).toNatClampNeg) (nI p)) (32 + 2 * (A (4 * p)).toNatClampNeg + 1) (A 48 + A (4 * p + 2))
theorem m_goesUp {τ : LH} {a p : Nat} {d b : Int32} {A : Nat → Int32} (hp : p < 8) (hA : plc 8 (A (4 * p))) : s_Model_goesUp a (nI p) d b (stF τ a A) = some (stF τ a (mUp p d b A)) := by
  unfold s_Model_goesUp
  rw [c4, if_pos (ib_nI (by omega) (by omega)), nI_clamp (by omega)]
  simp only [xl]
  rw [stF_s, a2]
  have e23 : ∀ z : Int32, s_Model_goesUp_23 a (nI p) d b (A (4 * p)) z (stF τ a A) = some (stF τ a (if A (4 * p) < 0 ∨ z = 0 then upd (upd A (4 * p) (-2)) (4 * p + 1) (A 48 + d)
      else upd (upd (upd (upd A (4 * p) (-2)) (4 * p + 1) (A 48 + d)) (32 + 2 * (A (4 * p)).toNatClampNeg) (nI p)) (32 + 2 * (A (4 * p)).toNatClampNeg + 1) (A 48 + z))) := by
    intro z
    unfold s_Model_goesUp_23
    rw [c4, if_pos (ib_nI (by omega) (by omega)), nI_clamp (by omega)]
    simp only [xl]
    rw [if_pos (show ib 48 290 by decide), a1, if_pos (ib_nI (by omega) (by omega)), nI_clamp (by omega), stI_F, stF_s, stI_F]
    have u48 : ∀ v : Int32, upd A (4 * p) v (Int32.toNatClampNeg 48) = A 48 := fun v => pk_un (by show (48 : Nat) ≠ 4 * p; omega)
    rw [u48]
    by_cases q1 : A (4 * p) < 0
    · rw [if_pos q1, if_pos (Or.inl q1)]
      rfl
    · rw [if_neg q1]
      by_cases q2 : z = 0
      · rw [if_pos q2, if_pos (Or.inr q2)]
        rfl
      · rw [if_neg q2, if_neg (show ¬ (A (4 * p) < 0 ∨ z = 0) from fun q => q.elim q1 q2)]
        rcases hA with h | h | ⟨s, hs, h⟩
        · rw [h] at q1; exact absurd (by decide) q1
        · rw [h] at q1; exact absurd (by decide) q1
        · rw [h, c2, c32, a1, if_pos (ib_nI (by omega) (by omega)), if_pos (show ib 48 290 by decide), if_pos (ib_nI (by omega) (by omega)), nI_clamp (show s < 2 ^ 31 by omega), nI_clamp (show 32 + 2 * s < 2 ^ 31 by omega), nI_clamp (show 32 + 2 * s + 1 < 2 ^ 31 by omega), stI_F, stF_s, stI_F]
          have e1 : upd (upd (upd A (4 * p) (-2)) (4 * p + 1) (A 48 + d)) (32 + 2 * s) (nI p) (Int32.toNatClampNeg 48) = A 48 := by
            show upd (upd (upd A (4 * p) (-2)) (4 * p + 1) (A 48 + d)) (32 + 2 * s) (nI p) 48 = A 48
            rw [pk_un (by omega), pk_un (by omega), pk_un (by omega)]
          rw [e1]
  unfold mUp
  by_cases q1 : b = 0
  · rw [if_pos q1, e23, if_pos (Or.inr rfl), if_pos (Or.inr (Or.inl q1))]
  · rw [if_neg q1, if_pos (ib_nI (by omega) (by omega)), nI_clamp (by omega), e23]
    by_cases q2 : A (4 * p) < 0 ∨ A (4 * p + 2) = 0
    · rw [if_pos q2, if_pos (q2.elim Or.inl (fun z => Or.inr (Or.inr z)))]
    · rw [if_neg q2, if_neg (fun q => q.elim (fun z => q2 (Or.inl z)) (fun z => z.elim q1 (fun y => q2 (Or.inr y))))]
/-- who is on a seat -/
def soR (A : Nat → Int32) (x : Int32) : Nat → Nat → Int32
  | 0, _ => -1
  | m + 1, k => if A (4 * k) = x then nI k else soR A x m (k + 1)
theorem m_sitsOn_loop {τ : LH} {a P : Nat} {x : Int32} (hP : τ.1 570 27 = nI P) (hP8 : P ≤ 8) : ∀ (m n k : Nat), k + m = P → m < n → s_Model_sitsOn_2 a x n (nI k) τ = some (soR (τ.1 a) x m k, τ) := by
  intro m
  induction m with
  | zero =>
    intro n k hk hn
    obtain ⟨n, rfl⟩ : ∃ q, n = q + 1 := ⟨n - 1, by omega⟩
    simp only [s_Model_sitsOn_2, s_Model_sitsOn_2_b]
    rw [hP, if_pos (nI_le (by omega) (by omega))]
    rfl
  | succ m ih =>
    intro n k hk hn
    obtain ⟨n, rfl⟩ : ∃ q, n = q + 1 := ⟨n - 1, by omega⟩
    simp only [s_Model_sitsOn_2, s_Model_sitsOn_2_b]
    rw [hP, if_neg (nI_ge (by omega) (by omega)), c4, if_pos (ib_nI (by omega) (by omega)), nI_clamp (by omega)]
    unfold soR
    by_cases q : τ.1 a (4 * k) = x
    · rw [if_pos q, if_pos q]
    · rw [if_neg q, if_neg q]
      simp only [xl, a1]
      exact ih n (k + 1) (by omega) (by omega)
theorem m_sitsOn {τ : LH} {a P : Nat} {x : Int32} (hP : τ.1 570 27 = nI P) (hP8 : P ≤ 8) : s_Model_sitsOn a x τ = some (soR (τ.1 a) x P 0, τ) := by
  have := m_sitsOn_loop (a := a) (x := x) hP hP8 P FUEL 0 (by omega) (by unfold FUEL; omega)
  rw [nI_0] at this
  exact this
theorem m_isFree {τ : LH} {a P s : Nat} (hP : τ.1 570 27 = nI P) (hP8 : P ≤ 8) (hs : s < 8) : s_Model_isFree a (nI s) τ = some (if soR (τ.1 a) (nI s) P 0 = -1 ∧ τ.1 a (32 + 2 * s) = -1 then 1 else 0, τ) := by
  unfold s_Model_isFree
  rw [m_sitsOn hP hP8]
  simp only [xb2]
  have e0 : s_Model_isFree_26 a (nI s) τ = some (0, τ) := by
    unfold s_Model_isFree_26 s_Model_isFree_27
    rw [if_pos (Or.inl rfl)]
  by_cases q1 : soR (τ.1 a) (nI s) P 0 = -1
  · rw [if_pos q1, c2, c32, if_pos (ib_nI (by omega) (by omega)), nI_clamp (by omega)]
    by_cases q2 : τ.1 a (32 + 2 * s) = -1
    · rw [if_pos q2, if_pos ⟨q1, q2⟩]
      unfold s_Model_isFree_27
      rw [if_pos (Or.inr rfl)]
    · rw [if_neg q2, if_neg (fun q => q2 q.2), e0]
  · rw [if_neg q1, if_neg (fun q => q1 q.1), e0]
def kfR (A : Nat → Int32) (x : Int32) : Nat → Nat → Int32
  | 0, _ => -1
  | m + 1, k => if A (32 + 2 * k) = x then nI k else kfR A x m (k + 1)
theorem m_keptFor_loop {τ : LH} {a S : Nat} {x : Int32} (hS : τ.1 570 26 = nI S) (hS8 : S ≤ 8) : ∀ (m n k : Nat), k + m = S → m < n → s_Model_keptFor_2 a x n (nI k) τ = some (kfR (τ.1 a) x m k, τ) := by
  intro m
  induction m with
  | zero =>
    intro n k hk hn
    obtain ⟨n, rfl⟩ : ∃ q, n = q + 1 := ⟨n - 1, by omega⟩
    simp only [s_Model_keptFor_2, s_Model_keptFor_2_b]
    rw [hS, if_pos (nI_le (by omega) (by omega))]
    rfl
  | succ m ih =>
    intro n k hk hn
    obtain ⟨n, rfl⟩ : ∃ q, n = q + 1 := ⟨n - 1, by omega⟩
    simp only [s_Model_keptFor_2, s_Model_keptFor_2_b]
    rw [hS, if_neg (nI_ge (by omega) (by omega)), c2, c32, if_pos (ib_nI (by omega) (by omega)), nI_clamp (by omega)]
    unfold kfR
    by_cases q : τ.1 a (32 + 2 * k) = x
    · rw [if_pos q, if_pos q]
    · rw [if_neg q, if_neg q]
      simp only [xl, a1]
      exact ih n (k + 1) (by omega) (by omega)
theorem m_keptFor {τ : LH} {a S : Nat} {x : Int32} (hS : τ.1 570 26 = nI S) (hS8 : S ≤ 8) : s_Model_keptFor a x τ = some (kfR (τ.1 a) x S 0, τ) := by
  have := m_keptFor_loop (a := a) (x := x) hS hS8 S FUEL 0 (by omega) (by unfold FUEL; omega)
  rw [nI_0] at this
  exact this
def mRel (s : Nat) (A : Nat → Int32) : Nat → Int32 := upd (upd A (32 + 2 * s) (-1)) (32 + 2 * s + 1) (-1)
theorem m_frees {τ : LH} {a s : Nat} {A : Nat → Int32} (hs : s < 8) : s_Model_frees a (nI s) (stF τ a A) = some (stF τ a (mRel s A)) := by
  unfold s_Model_frees
  rw [c2, c32, a1, if_pos (ib_nI (by omega) (by omega)), nI_clamp (by omega)]
  simp only [xl]
  rw [if_pos (ib_nI (by omega) (by omega)), nI_clamp (by omega), stI_F, stI_F]
  rfl
theorem m_has {x : Int32} {g : Nat} {τ : LH} : s_Model_has x (nI g) τ = some (if ((x >>> (nI g &&& 31)) &&& 1) = 1 then 1 else 0, τ) := by
  unfold s_Model_has
  split
  · unfold s_Model_has_14
    rw [if_pos (Or.inr rfl)]
  · unfold s_Model_has_14
    rw [if_pos (Or.inl rfl)]
