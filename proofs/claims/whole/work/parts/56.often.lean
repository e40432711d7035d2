/-! both: warm, often, even -/
theorem warm_loop {σ τ : LH} {M : Nat} (hL : Lg (gH σ 39) (τ.1 583) M) (hM2 : M < 2 ^ 29) : ∀ (r n n' i : Nat), i + r = min M 60 → r < n → r < n' → ∃ x, s_Main_warm_2 n (nI i) σ = some (x, σ) ∧ s_Model_warm_15 n' (nI r + (-1)) τ = some (x, τ) := by
  obtain ⟨h1, h2, h3⟩ := hL
  have h1 : σ.1 39 8 = nI M := h1
  intro r
  induction r with
  | zero =>
    intro n n' i hi hn hn'
    obtain ⟨n, rfl⟩ : ∃ q, n = q + 1 := ⟨n - 1, by omega⟩
    obtain ⟨n', rfl⟩ : ∃ q, n' = q + 1 := ⟨n' - 1, by omega⟩
    rw [s_Main_warm_2, s_Model_warm_15]
    unfold s_Main_warm_2_b s_Model_warm_15_b
    rw [h_logged h1 hM2, if_pos (show nI 0 + -1 < 0 by decide)]
    simp only [xb2]
    rw [if_pos (nI_le (by omega) (by omega))]
    exact ⟨_, rfl, rfl⟩
  | succ r ih =>
    intro n n' i hi hn hn'
    obtain ⟨n, rfl⟩ : ∃ q, n = q + 1 := ⟨n - 1, by omega⟩
    obtain ⟨n', rfl⟩ : ∃ q, n' = q + 1 := ⟨n' - 1, by omega⟩
    have e : s_Hall_entry 39 (nI i) 1 σ = _ := h_entry (j := i) (k := 1) h1 hM2 (by omega) (by omega)
    have h8 : σ.1 (39 + 8) ((M - 1 - i) % 60 * 4 + 1) = τ.1 583 (50 + 4 * r + 1) := by
      have := h3 i 1 (by omega) (by omega)
      rw [show min M 60 - 1 - i = r by omega] at this
      exact this
    rw [h8] at e
    rw [s_Main_warm_2, s_Model_warm_15]
    unfold s_Main_warm_2_b s_Model_warm_15_b
    rw [h_logged h1 hM2, nI_prd (by omega), show r + 1 - 1 = r by omega, if_neg (nI_pos (n := r) (by omega)), c4, c50, Jvm.Pilot.CLostPlacesLaw_law_r3427_12969d.a1 (k := 50 + 4 * r), if_pos (ib_nI (by omega) (by omega)), nI_clamp (show 50 + 4 * r + 1 < 2 ^ 31 by omega), if_pos (ib_nI (by omega) (by omega))]
    simp only [xb2]
    rw [if_neg (nI_ge (by omega) (by omega)), e]
    simp only
    by_cases q : τ.1 583 (50 + 4 * r + 1) = -1
    · rw [if_pos q, if_pos q]
      simp only [xl]
      rw [nI_1]
      exact ih n n' (i + 1) (by omega) (by omega) (by omega)
    · rw [if_neg q, if_neg q]
      exact ⟨_, rfl, rfl⟩
theorem a_warm {σ τ : LH} {M : Nat} (hL : Lg (gH σ 39) (τ.1 583) M) (hM2 : M < 2 ^ 29) : ∃ r, s_Main_warm σ = some (r, σ) ∧ s_Model_warm τ = some (r, stI τ 570 0 0) := by
  have e83 : (stI τ 570 0 0).1 583 = τ.1 583 := stI_n (by omega)
  obtain ⟨x, h1, h2⟩ := warm_loop (σ := σ) (τ := stI τ 570 0 0) (by rw [e83]; exact hL) hM2 (min M 60) FUEL FUEL 0 (by omega) (by unfold FUEL; omega) (by unfold FUEL; omega)
  refine ⟨x, ?_, ?_⟩
  · unfold s_Main_warm
    rw [nI_0] at h1
    exact h1
  · unfold s_Model_warm
    simp only [xl]
    rw [if_pos (show ib 49 290 by decide), e83, show τ.1 583 (Int32.toNatClampNeg 49) = nI (min M 60) from hL.2.1, Int32.sub_eq_add_neg]
    exact h2
theorem cnB_snoc {c : Nat → Bool} : ∀ (m k : Nat), cnB c (m + 1) k = cnB c m k + (if c (k + m) = true then 1 else 0) := by
  intro m
  induction m with
  | zero => intro k; unfold cnB; unfold cnB; simp
  | succ m ih =>
    intro k
    have e : cnB c (m + 1 + 1) k = (if c k = true then 1 else 0) + cnB c (m + 1) (k + 1) := rfl
    have e2 : cnB c (m + 1) k = (if c k = true then 1 else 0) + cnB c m (k + 1) := rfl
    rw [e, ih (k + 1), e2, show k + 1 + m = k + (m + 1) by omega]
    omega
theorem cnB_rev {c d : Nat → Bool} {n : Nat} : ∀ (m k : Nat), k + m = n → (∀ i, k ≤ i → i < n → d i = c (n - 1 - i)) → cnB d m k = cnB c m 0 := by
  intro m
  induction m with
  | zero => intro k _ _; rfl
  | succ m ih =>
    intro k hk h
    rw [cnB_snoc m 0]
    have e : cnB d (m + 1) k = (if d k = true then 1 else 0) + cnB d m (k + 1) := rfl
    rw [e, ih (k + 1) (by omega) (fun i h1 h2 => h i (by omega) h2), h k (by omega) (by omega), show n - 1 - k = 0 + m by omega]
    omega
theorem often_c {σ τ : LH} {M : Nat} {x : Int32} (hL : Lg (gH σ 39) (τ.1 583) M) (hM2 : M < 2 ^ 29) : ∀ (r n i t : Nat), i + r = min M 60 → r < n → s_Main_often_14 x n (nI t) (nI i) σ = some (nI (t + cnB (fun i => decide (τ.1 583 (50 + 4 * (min M 60 - 1 - i)) = x)) r i), σ) := by
  obtain ⟨h1, h2, h3⟩ := hL
  have h1 : σ.1 39 8 = nI M := h1
  intro r
  induction r with
  | zero =>
    intro n i t hi hn
    obtain ⟨n, rfl⟩ : ∃ q, n = q + 1 := ⟨n - 1, by omega⟩
    rw [s_Main_often_14]
    unfold s_Main_often_14_b
    rw [h_logged h1 hM2]
    simp only [xb2]
    rw [if_pos (nI_le (by omega) (by omega))]
    rfl
  | succ r ih =>
    intro n i t hi hn
    obtain ⟨n, rfl⟩ : ∃ q, n = q + 1 := ⟨n - 1, by omega⟩
    have e := h_entry (j := i) (k := 0) h1 hM2 (by omega) (by omega)
    have h8 : σ.1 (39 + 8) ((M - 1 - i) % 60 * 4 + 0) = τ.1 583 (50 + 4 * (min M 60 - 1 - i) + 0) := h3 i 0 (by omega) (by omega)
    rw [h8, Nat.add_zero] at e
    rw [s_Main_often_14]
    unfold s_Main_often_14_b
    rw [h_logged h1 hM2]
    simp only [xb2]
    rw [if_neg (nI_ge (by omega) (by omega)), show (0 : Int32) = nI 0 from rfl, e]
    simp only
    unfold cnB
    by_cases q : τ.1 583 (50 + 4 * (min M 60 - 1 - i)) = x
    · rw [if_pos q, if_pos (decide_eq_true q)]
      unfold s_Main_often_41
      simp only [xl]
      rw [nI_1, nI_1, ih n (i + 1) (t + 1) (by omega) (by omega), Nat.add_assoc]
    · rw [if_neg q, if_neg (show ¬ decide (τ.1 583 (50 + 4 * (min M 60 - 1 - i)) = x) = true from fun z => q (of_decide_eq_true z))]
      unfold s_Main_often_41
      simp only [xl]
      rw [nI_1, ih n (i + 1) t (by omega) (by omega), Nat.zero_add]
theorem often_m {τ : LH} {g : Nat} {x : Int32} (hg : τ.1 583 49 = nI g) (hg1 : g ≤ 60) : ∀ (r n i t : Nat), i + r = g → r < n → s_Model_often_19 x n (nI t) (nI i) τ = some (nI (t + cnB (fun i => decide (τ.1 583 (50 + 4 * i) = x)) r i), τ) := by
  intro r
  induction r with
  | zero =>
    intro n i t hi hn
    obtain ⟨n, rfl⟩ : ∃ q, n = q + 1 := ⟨n - 1, by omega⟩
    rw [s_Model_often_19]
    unfold s_Model_often_19_b
    rw [if_pos (show ib 49 290 by decide), show τ.1 583 (Int32.toNatClampNeg 49) = nI g from hg, if_pos (nI_le (by omega) (by omega))]
    rfl
  | succ r ih =>
    intro n i t hi hn
    obtain ⟨n, rfl⟩ : ∃ q, n = q + 1 := ⟨n - 1, by omega⟩
    rw [s_Model_often_19]
    unfold s_Model_often_19_b
    rw [if_pos (show ib 49 290 by decide), show τ.1 583 (Int32.toNatClampNeg 49) = nI g from hg, if_neg (nI_ge (by omega) (by omega)), c4, c50, if_pos (ib_nI (by omega) (by omega)), nI_clamp (show 50 + 4 * i < 2 ^ 31 by omega)]
    unfold cnB
    by_cases q : τ.1 583 (50 + 4 * i) = x
    · rw [if_pos q, if_pos (decide_eq_true q)]
      unfold s_Model_often_51
      simp only [xl]
      rw [nI_1, nI_1, ih n (i + 1) (t + 1) (by omega) (by omega), Nat.add_assoc]
    · rw [if_neg q, if_neg (show ¬ decide (τ.1 583 (50 + 4 * i) = x) = true from fun z => q (of_decide_eq_true z))]
      unfold s_Model_often_51
      simp only [xl]
      rw [nI_1, Int32.add_zero, ih n (i + 1) t (by omega) (by omega), Nat.zero_add]
theorem a_often {σ τ : LH} {M P : Nat} (hP : σ.1 4 1 = nI P) (hP8 : P ≤ 8) (hPm : τ.1 570 27 = nI P) (hL : Lg (gH σ 39) (τ.1 583) M) (hM2 : M < 2 ^ 29) (x : Int32) : ∃ r, s_Main_often x σ = some (r, σ) ∧ s_Model_often x τ = some (r, stI τ 570 0 0) := by
  have e83 : (stI τ 570 0 0).1 583 = τ.1 583 := stI_n (by omega)
  have e27 : (stI τ 570 0 0).1 570 27 = nI P := by rw [stI_570, if_neg (by omega)]; exact hPm
  unfold s_Main_often s_Model_often
  simp only [xl]
  rw [g_isSitter hP hP8, m_isSitter, e27]
  simp only [xb2]
  by_cases q : 0 ≤ x ∧ x < nI P
  · rw [if_pos q, if_neg (show ¬ (1 : Int32) = 0 by decide), if_neg (show ¬ (1 : Int32) = 0 by decide)]
    have a := often_c (x := x) hL hM2 (min M 60) FUEL 0 0 (by omega) (by unfold FUEL; omega)
    have b := often_m (τ := stI τ 570 0 0) (x := x) (by rw [e83]; exact hL.2.1) (by omega) (min M 60) FUEL 0 0 (by omega) (by unfold FUEL; omega)
    rw [nI_0] at a b
    rw [e83] at b
    refine ⟨_, a, ?_⟩
    rw [b]
    rw [cnB_rev (n := min M 60) (c := fun i => decide (τ.1 583 (50 + 4 * i) = x)) (d := fun i => decide (τ.1 583 (50 + 4 * (min M 60 - 1 - i)) = x)) (min M 60) 0 (by omega) (fun i _ _ => rfl)]
  · rw [if_neg q, if_pos rfl, if_pos rfl]
    exact ⟨_, rfl, rfl⟩
