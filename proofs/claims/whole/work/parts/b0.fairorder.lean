/-! fair: the goings added one by one in the model; digits; a place always left -/
theorem m_extraI {τ : LH} {x y d : Int32} {i : Nat} (hi : i < 8) (h : τ.1 570 40 = nI i) : s_Model_extra x y d τ = some (stI (stI (stI (stI τ 587 i x) 588 i y) 589 i d) 570 40 (nI (i + 1))) := by
  unfold s_Model_extra
  simp only [xl]
  rw [h, if_pos (ib_nI hi (by omega)), stI_n (b := 570) (by omega), h, if_pos (ib_nI hi (by omega)), stI_n (b := 570) (by omega), stI_n (b := 570) (by omega), h, if_pos (ib_nI hi (by omega)), stI_n (b := 570) (by omega), stI_n (b := 570) (by omega), stI_n (b := 570) (by omega), h, nI_clamp (show i < 2 ^ 31 by omega), nI_1]
def eX (ord : Nat → Nat) (mm d : Nat) (τ : LH) : Nat → LH
  | 0 => τ
  | i + 1 => stI (stI (stI (stI (eX ord mm d τ i) 587 i (nI (ord i))) 588 i (nI (mm + i))) 589 i (nI d)) 570 40 (nI (i + 1))
section
variable {τ : LH} {ord : Nat → Nat} {mm d : Nat}
theorem eX_n {b : Nat} (h1 : b ≠ 570) (h2 : b < 587 ∨ 589 < b) : ∀ i, (eX ord mm d τ i).1 b = τ.1 b := by
  intro i
  induction i with
  | zero => rfl
  | succ i ih =>
    show (stI (stI (stI (stI (eX ord mm d τ i) 587 i (nI (ord i))) 588 i (nI (mm + i))) 589 i (nI d)) 570 40 (nI (i + 1))).1 b = _
    rw [stI_n h1, stI_n (by omega), stI_n (by omega), stI_n (by omega), ih]
theorem eX_f {j : Nat} (hj : j ≠ 40) : ∀ i, (eX ord mm d τ i).1 570 j = τ.1 570 j := by
  intro i
  induction i with
  | zero => rfl
  | succ i ih =>
    show (stI (stI (stI (stI (eX ord mm d τ i) 587 i (nI (ord i))) 588 i (nI (mm + i))) 589 i (nI d)) 570 40 (nI (i + 1))).1 570 j = _
    rw [stI_570, if_neg hj, stI_n (by omega), stI_n (by omega), stI_n (by omega), ih]
theorem eX_40 (h : τ.1 570 40 = 0) : ∀ i, (eX ord mm d τ i).1 570 40 = nI i := by
  intro i
  cases i with
  | zero => exact h
  | succ i =>
    show (stI (stI (stI (stI (eX ord mm d τ i) 587 i (nI (ord i))) 588 i (nI (mm + i))) 589 i (nI d)) 570 40 (nI (i + 1))).1 570 40 = _
    rw [stI_570, if_pos rfl]
theorem eX_x : ∀ i e, e < i → (eX ord mm d τ i).1 588 e = nI (mm + e) ∧ (eX ord mm d τ i).1 589 e = nI d ∧ (eX ord mm d τ i).1 587 e = nI (ord e) := by
  intro i
  induction i with
  | zero => intro e he; omega
  | succ i ih =>
    intro e he
    show (stI (stI (stI (stI (eX ord mm d τ i) 587 i (nI (ord i))) 588 i (nI (mm + i))) 589 i (nI d)) 570 40 (nI (i + 1))).1 588 e = _ ∧ (stI (stI (stI (stI (eX ord mm d τ i) 587 i (nI (ord i))) 588 i (nI (mm + i))) 589 i (nI d)) 570 40 (nI (i + 1))).1 589 e = _ ∧ (stI (stI (stI (stI (eX ord mm d τ i) 587 i (nI (ord i))) 588 i (nI (mm + i))) 589 i (nI d)) 570 40 (nI (i + 1))).1 587 e = _
    rw [stI_n (b := 588) (by omega), stI_n (b := 588) (by omega), stI_e, stI_n (b := 588) (by omega), stI_n (b := 589) (by omega), stI_e, stI_n (b := 589) (by omega), stI_n (b := 589) (by omega), stI_n (b := 587) (by omega), stI_n (b := 587) (by omega), stI_n (b := 587) (by omega), stI_e]
    by_cases q : e = i
    · subst q
      rw [if_pos rfl, if_pos rfl, if_pos rfl]
      exact ⟨rfl, rfl, rfl⟩
    · rw [if_neg q, if_neg q, if_neg q]
      exact ih e (by omega)
theorem eX_2 : ∀ i, (eX ord mm d τ i).2 = τ.2 := by
  intro i
  induction i with
  | zero => rfl
  | succ i ih => exact ih
theorem FT.eX : ∀ i, FT scM τ (eX ord mm d τ i) := by
  intro i
  induction i with
  | zero => exact FT.rf
  | succ i ih => exact (((ih.tr (FT.I (by unfold scM; omega))).tr (FT.I (by unfold scM; omega))).tr (FT.I (by unfold scM; omega))).tr (FT.I (by unfold scM; omega))
theorem eX_run {P : Nat} {rf : Int32 → Int32 → Int32 → LH → Option LH} {p1 p2 : Int32} (h40 : τ.1 570 40 = 0) (h27 : τ.1 570 27 = nI P) (h48 : τ.1 583 48 = nI mm) (ho : ∀ j, j < P → τ.1 594 j = nI (ord j)) (hP8 : P ≤ 8) : ∀ (m f j : Nat), j + m = P → m < f → ∃ f', s_Model_goFair_22 rf (nI d) p1 p2 f (nI j) (eX ord mm d τ j) = s_Model_goFair_22 rf (nI d) p1 p2 (f' + 1) (nI P) (eX ord mm d τ P) := by
  intro m
  induction m with
  | zero =>
    intro f j hj hf
    obtain ⟨f, rfl⟩ : ∃ q, f = q + 1 := ⟨f - 1, by omega⟩
    exact ⟨f, by rw [show j = P by omega]⟩
  | succ m ih =>
    intro f j hj hf
    obtain ⟨f, rfl⟩ : ∃ q, f = q + 1 := ⟨f - 1, by omega⟩
    obtain ⟨f', e⟩ := ih f (j + 1) (by omega) (by omega)
    refine ⟨f', ?_⟩
    rw [← e]
    conv => lhs; rw [s_Model_goFair_22]
    unfold s_Model_goFair_22_b
    rw [eX_f (by omega), h27, if_neg (nI_ge (by omega) (by omega)), if_pos (ib_nI (by omega) (by omega)), if_pos (show ib 48 290 by decide), nI_clamp (show j < 2 ^ 31 by omega), eX_n (b := 594) (by omega) (by omega), eX_n (b := 583) (by omega) (by omega), ho j (by omega), show τ.1 583 (Int32.toNatClampNeg 48) = nI mm from h48, nI_add, m_extraI (i := j) (by omega) (eX_40 h40 j), xb1_so, xl_so, nI_1]
    rfl
end
def dgO (ord : Nat → Nat) : Nat → Int32
  | 0 => 0
  | k + 1 => 10 * dgO ord k + nI (ord k)
theorem dgO_cg {ord ord' : Nat → Nat} : ∀ k, (∀ i, i < k → ord' i = ord i) → dgO ord' k = dgO ord k := by
  intro k
  induction k with
  | zero => intro _; rfl
  | succ k ih =>
    intro h
    show 10 * dgO ord' k + nI (ord' k) = 10 * dgO ord k + nI (ord k)
    rw [ih (fun i hi => h i (by omega)), h k (by omega)]
theorem m_digO {τ : LH} {ord : Nat → Nat} {P : Nat} (hP8 : P ≤ 8) (ho : ∀ j, j < P → τ.1 594 j = nI (ord j)) : ∀ (m f k : Nat), k + m = P → m < f → s_Model_digitsIn_4 594 (nI P) f (dgO ord k) (nI k) τ = some (dgO ord P, τ) := by
  intro m
  induction m with
  | zero =>
    intro f k hk hf
    obtain ⟨f, rfl⟩ : ∃ q, f = q + 1 := ⟨f - 1, by omega⟩
    rw [s_Model_digitsIn_4]
    unfold s_Model_digitsIn_4_b
    rw [show k = P by omega, if_pos (Int32.le_refl _)]
  | succ m ih =>
    intro f k hk hf
    obtain ⟨f, rfl⟩ : ∃ q, f = q + 1 := ⟨f - 1, by omega⟩
    rw [s_Model_digitsIn_4]
    unfold s_Model_digitsIn_4_b
    rw [if_neg (nI_ge (by omega) (by omega)), if_pos (ib_nI (by omega) (by omega)), nI_clamp (show k < 2 ^ 31 by omega), ho k (by omega), xl_so, xl_so, nI_1]
    exact ih f (k + 1) (by omega) (by omega)
theorem php : ∀ (k : Nat) (f : Nat → Nat), ∃ p, p ≤ k ∧ ∀ i, i < k → f i ≠ p := by
  intro k
  induction k with
  | zero => intro f; exact ⟨0, Nat.le_refl 0, fun i hi => absurd hi (by omega)⟩
  | succ k ih =>
    intro f
    obtain ⟨p, h1, h2⟩ := ih (fun i => if f k < f i then f i - 1 else f i)
    by_cases q : f k ≤ p
    · refine ⟨p + 1, by omega, fun i hi z => ?_⟩
      by_cases e : i = k
      · subst e; omega
      · have this : (if f k < f i then f i - 1 else f i) ≠ p := h2 i (by omega)
        rw [if_pos (by omega)] at this
        omega
    · refine ⟨p, by omega, fun i hi z => ?_⟩
      by_cases e : i = k
      · subst e; omega
      · have this : (if f k < f i then f i - 1 else f i) ≠ p := h2 i (by omega)
        rw [if_neg (by omega)] at this
        omega
