/-! both: the call undo -/
theorem m_undo26 {τ : LH} {c : Nat} {Y : Nat → Int32} (hc : τ.1 570 46 = nI c) (hc1 : c < 40) : ∀ (m n y : Nat), y + m = 290 → m < n → s_Model_undo_26 n (nI y) (stF τ 583 (rwS 0 y (fun j => τ.1 590 (290 * c + j)) Y)) = some (nI c, stF τ 583 (rwS 0 290 (fun j => τ.1 590 (290 * c + j)) Y)) := by
  intro m
  induction m with
  | zero =>
    intro n y hy hn
    obtain ⟨n, rfl⟩ : ∃ q, n = q + 1 := ⟨n - 1, by omega⟩
    have : y = 290 := by omega
    subst this
    rw [s_Model_undo_26]
    unfold s_Model_undo_26_b
    rw [if_pos (show (290 : Int32) ≤ nI 290 from Int32.le_refl _), stF_n (by omega), hc]
  | succ m ih =>
    intro n y hy hn
    obtain ⟨n, rfl⟩ : ∃ q, n = q + 1 := ⟨n - 1, by omega⟩
    rw [s_Model_undo_26]
    unfold s_Model_undo_26_b
    rw [if_neg (show ¬ (290 : Int32) ≤ nI y from nI_ge (b := 290) (by omega) (by omega)), stF_n (by omega), stF_n (by omega), hc, show (290 : Int32) = nI 290 from rfl, pk_mul, nI_add, if_pos (ib_nI (by omega) (by omega)), if_pos (ib_nI (by omega) (by omega)), nI_clamp (show y < 2 ^ 31 by omega), nI_clamp (show 290 * c + y < 2 ^ 31 by omega), nI_1, stI_F]
    simp only [xl]
    have e : upd (rwS 0 y (fun j => τ.1 590 (290 * c + j)) Y) y (τ.1 590 (290 * c + y)) = rwS 0 (y + 1) (fun j => τ.1 590 (290 * c + j)) Y := by
      funext j
      rw [upd_e]
      unfold rwS
      by_cases q : j = y
      · subst q
        rw [if_pos rfl, if_pos (by omega)]
        rfl
      · rw [if_neg q]
        by_cases q2 : 0 ≤ j ∧ j < 0 + y
        · rw [if_pos q2, if_pos (by omega)]
        · rw [if_neg q2, if_neg (by omega)]
    rw [e]
    exact ih n (y + 1) (by omega) (by omega)
theorem m_undo {τ : LH} {k : Nat} (hk : τ.1 570 46 = nI (k + 1)) (hk1 : k < 40) : ∃ τ', s_Model_undo τ = some (nI k, τ') ∧ τ'.1 570 46 = nI k ∧ (∀ j, j < 290 → τ'.1 583 j = τ.1 590 (290 * k + j)) ∧ (∀ b, b ≠ 570 → b ≠ 583 → τ'.1 b = τ.1 b) ∧ (∀ j, j ≠ 46 → j ≠ 0 → τ'.1 570 j = τ.1 570 j) ∧ τ' = stI (stF (stI τ 570 0 0) 583 (τ'.1 583)) 570 46 (nI k) := by
  have e46 : (stI τ 570 0 0).1 570 46 = nI (k + 1) := by rw [stI_570, if_neg (by omega)]; exact hk
  unfold s_Model_undo
  simp only [xl]
  rw [e46, if_neg (show ¬ nI (k + 1) = 0 from fun z => by have := nI_ij (b := 0) (by omega) (by omega) z; omega), show nI (k + 1) - 1 = nI k from by rw [← nI_1, Int32.add_sub_cancel]]
  have l := m_undo26 (τ := stI (stI τ 570 0 0) 570 46 (nI k)) (c := k) (Y := τ.1 583) (by rw [stI_570, if_pos rfl]) hk1 290 FUEL 0 (by omega) (by unfold FUEL; omega)
  have e0 : stF (stI (stI τ 570 0 0) 570 46 (nI k)) 583 (rwS 0 0 (fun j => (stI (stI τ 570 0 0) 570 46 (nI k)).1 590 (290 * k + j)) (τ.1 583)) = stI (stI τ 570 0 0) 570 46 (nI k) := by
    have : rwS 0 0 (fun j => (stI (stI τ 570 0 0) 570 46 (nI k)).1 590 (290 * k + j)) (τ.1 583) = (stI (stI τ 570 0 0) 570 46 (nI k)).1 583 := by
      rw [stI_n (b := 583) (by omega), stI_n (b := 583) (by omega)]
      funext j; unfold rwS; rw [if_neg (by omega)]
    rw [this, stF_id]
  rw [e0, nI_0] at l
  rw [l]
  refine ⟨_, rfl, ?_, fun j hj => ?_, fun b h1 h2 => ?_, fun j h1 h2 => ?_, ?_⟩
  · rw [stF_n (by omega), stI_570, if_pos rfl]
  · rw [stF_s]
    unfold rwS
    rw [if_pos (by omega), stI_n (by omega), stI_n (by omega)]
    rfl
  · rw [stF_n h2, stI_n h1, stI_n h1]
  · rw [stF_n (by omega), stI_570, if_neg h1, stI_570, if_neg h2]
  · rw [stF_s]
    generalize rwS 0 290 _ _ = F
    unfold stI
    rw [stF_com (a := 570) (b := 583) (by omega), stF_n (a := 583) (b := 570) (by omega)]
