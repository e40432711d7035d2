/-! the model: what is remembered -/
def shS (y : Nat) (R : Nat → Int32) : Nat → Int32 := fun j => if j < y then R (j + 290) else R j
def rwS (b y : Nat) (A R : Nat → Int32) : Nat → Int32 := fun j => if b ≤ j ∧ j < b + y then A (j - b) else R j
theorem m_rem11 {τ : LH} {R : Nat → Int32} : ∀ (m n k : Nat), k + m = 11310 → m < n → s_Model_remember_11 n (nI k) (stF τ 590 (shS k R)) = s_Model_remember_50 (stI (stF τ 590 (shS 11310 R)) 570 46 ((stF τ 590 (shS 11310 R)).1 570 46 - 1)) := by
  intro m
  induction m with
  | zero =>
    intro n k hk hn
    obtain ⟨n, rfl⟩ : ∃ q, n = q + 1 := ⟨n - 1, by omega⟩
    have : k = 11310 := by omega
    subst this
    rw [s_Model_remember_11]
    unfold s_Model_remember_11_b
    rw [if_pos (show (11310 : Int32) ≤ nI 11310 from Int32.le_refl _)]
    rfl
  | succ m ih =>
    intro n k hk hn
    obtain ⟨n, rfl⟩ : ∃ q, n = q + 1 := ⟨n - 1, by omega⟩
    rw [s_Model_remember_11]
    unfold s_Model_remember_11_b
    rw [if_neg (show ¬ (11310 : Int32) ≤ nI k from nI_ge (b := 11310) (by omega) (by omega)), show (290 : Int32) = nI 290 from rfl, nI_add, if_pos (ib_nI (by omega) (by omega)), if_pos (ib_nI (by omega) (by omega)), nI_clamp (show k < 2 ^ 31 by omega), nI_clamp (show k + 290 < 2 ^ 31 by omega), nI_1, stF_s, stI_F]
    simp only [xl]
    have e : upd (shS k R) k (shS k R (k + 290)) = shS (k + 1) R := by
      funext j
      rw [upd_e]
      unfold shS
      by_cases q : j = k
      · subst q
        rw [if_pos rfl, if_neg (by omega), if_pos (by omega)]
      · rw [if_neg q]
        by_cases q2 : j < k
        · rw [if_pos q2, if_pos (by omega)]
        · rw [if_neg q2, if_neg (by omega)]
    rw [e]
    exact ih n (k + 1) (by omega) (by omega)
theorem m_rem52 {τ : LH} {b c : Nat} {R : Nat → Int32} (hc : τ.1 570 46 = nI c) (hc1 : c < 40) (hb : b = 290 * c) : ∀ (m n k : Nat), k + m = 290 → m < n → s_Model_remember_52 n (nI k) (stF τ 590 (rwS b k (τ.1 583) R)) = some (stI (stF τ 590 (rwS b 290 (τ.1 583) R)) 570 46 (nI (c + 1))) := by
  intro m
  induction m with
  | zero =>
    intro n k hk hn
    obtain ⟨n, rfl⟩ : ∃ q, n = q + 1 := ⟨n - 1, by omega⟩
    have : k = 290 := by omega
    subst this
    rw [s_Model_remember_52]
    unfold s_Model_remember_52_b
    rw [if_pos (show (290 : Int32) ≤ nI 290 from Int32.le_refl _), stF_n (by omega), hc, nI_1]
    rfl
  | succ m ih =>
    intro n k hk hn
    obtain ⟨n, rfl⟩ : ∃ q, n = q + 1 := ⟨n - 1, by omega⟩
    rw [s_Model_remember_52]
    unfold s_Model_remember_52_b
    rw [if_neg (show ¬ (290 : Int32) ≤ nI k from nI_ge (b := 290) (by omega) (by omega)), if_pos (ib_nI (by omega) (by omega)), stF_n (by omega), stF_n (by omega), hc, show (290 : Int32) = nI 290 from rfl, pk_mul, nI_add, if_pos (ib_nI (by omega) (by omega)), nI_clamp (show k < 2 ^ 31 by omega), nI_clamp (show 290 * c + k < 2 ^ 31 by omega), nI_1, stI_F]
    simp only [xl]
    have e : upd (rwS b k (τ.1 583) R) (290 * c + k) (τ.1 583 k) = rwS b (k + 1) (τ.1 583) R := by
      funext j
      rw [upd_e]
      unfold rwS
      by_cases q : j = 290 * c + k
      · rw [if_pos q, if_pos (by omega)]
        exact congrArg (τ.1 583) (by omega)
      · rw [if_neg q]
        by_cases q2 : b ≤ j ∧ j < b + k
        · rw [if_pos q2, if_pos (by omega)]
        · rw [if_neg q2, if_neg (by omega)]
    rw [e]
    exact ih n (k + 1) (by omega) (by omega)
/-- the rows behind one act more -/
def pst (k : Nat) (A R : Nat → Int32) : Nat → Int32 := if k = 40 then rwS 11310 290 A (shS 11310 R) else rwS (290 * k) 290 A R
theorem m_remember {τ : LH} {k : Nat} (hk : τ.1 570 46 = nI k) (hk1 : k ≤ 40) : ∃ τ', s_Model_remember τ = some τ' ∧ τ'.1 570 46 = nI (min (k + 1) 40) ∧ τ'.1 590 = pst k (τ.1 583) (τ.1 590) ∧ (∀ b, b ≠ 570 → b ≠ 590 → τ'.1 b = τ.1 b) ∧ (∀ j, j ≠ 46 → τ'.1 570 j = τ.1 570 j) ∧ τ'.2 = τ.2 := by
  unfold s_Model_remember
  rw [hk]
  by_cases q : k = 40
  · subst q
    rw [if_pos (show nI 40 = 40 from rfl)]
    have e0 : stF τ 590 (shS 0 (τ.1 590)) = τ := by
      have : shS 0 (τ.1 590) = τ.1 590 := by funext j; unfold shS; rw [if_neg (by omega)]
      rw [this, stF_id]
    have l1 := m_rem11 (τ := τ) (R := τ.1 590) 11310 FUEL 0 (by omega) (by unfold FUEL; omega)
    rw [e0, nI_0] at l1
    rw [l1, stF_n (by omega), hk]
    have e39 : nI 40 - 1 = nI 39 := by decide
    rw [e39]
    unfold s_Model_remember_50
    have l2 := m_rem52 (τ := stI (stF τ 590 (shS 11310 (τ.1 590))) 570 46 (nI 39)) (b := 11310) (c := 39) (R := shS 11310 (τ.1 590)) (by rw [stI_570, if_pos rfl]) (by omega) (by omega) 290 FUEL 0 (by omega) (by unfold FUEL; omega)
    have e2 : stF (stI (stF τ 590 (shS 11310 (τ.1 590))) 570 46 (nI 39)) 590 (rwS 11310 0 ((stI (stF τ 590 (shS 11310 (τ.1 590))) 570 46 (nI 39)).1 583) (shS 11310 (τ.1 590))) = stI (stF τ 590 (shS 11310 (τ.1 590))) 570 46 (nI 39) := by
      have : rwS 11310 0 ((stI (stF τ 590 (shS 11310 (τ.1 590))) 570 46 (nI 39)).1 583) (shS 11310 (τ.1 590)) = (stI (stF τ 590 (shS 11310 (τ.1 590))) 570 46 (nI 39)).1 590 := by
        rw [stI_n (b := 590) (by omega), stF_s]
        funext j; unfold rwS; rw [if_neg (by omega)]
      rw [this, stF_id]
    rw [e2, nI_0] at l2
    rw [l2]
    refine ⟨_, rfl, ?_, ?_, fun b h1 h2 => ?_, fun j hj => ?_, rfl⟩
    · rw [stI_570, if_pos rfl]; rfl
    · rw [stI_n (by omega), stF_s, stI_n (by omega), stF_n (by omega)]
      exact (if_pos rfl).symm
    · rw [stI_n h1, stF_n h2, stI_n h1, stF_n h2]
    · rw [stI_570, if_neg hj, stF_n (by omega), stI_570, if_neg hj, stF_n (by omega)]
  · rw [if_neg (show ¬ nI k = 40 from fun z => q (nI_ij (b := 40) (by omega) (by omega) z))]
    unfold s_Model_remember_50
    have l2 := m_rem52 (τ := τ) (b := 290 * k) (c := k) (R := τ.1 590) hk (by omega) rfl 290 FUEL 0 (by omega) (by unfold FUEL; omega)
    have e2 : stF τ 590 (rwS (290 * k) 0 (τ.1 583) (τ.1 590)) = τ := by
      have : rwS (290 * k) 0 (τ.1 583) (τ.1 590) = τ.1 590 := by
        funext j; unfold rwS; rw [if_neg (by omega)]
      rw [this, stF_id]
    rw [e2, nI_0] at l2
    rw [l2]
    refine ⟨_, rfl, ?_, ?_, fun b h1 h2 => ?_, fun j hj => ?_, rfl⟩
    · rw [stI_570, if_pos rfl, show min (k + 1) 40 = k + 1 by omega]
    · rw [stI_n (by omega), stF_s]
      exact (if_neg q).symm
    · rw [stI_n h1, stF_n h2]
    · rw [stI_570, if_neg hj, stF_n (by omega)]
