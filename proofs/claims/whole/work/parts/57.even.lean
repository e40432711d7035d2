/-! both: even -/
def mnF (f : Nat → Int32) : Nat → Nat → Int32 → Int32
  | 0, _, y => y
  | m + 1, k, y => mnF f m (k + 1) (if f k < y then f k else y)
def mxF (f : Nat → Int32) : Nat → Nat → Int32 → Int32
  | 0, _, y => y
  | m + 1, k, y => mxF f m (k + 1) (if y < f k then f k else y)
theorem h_gap_loop {σ : LH} {h P : Nat} (hP8 : P ≤ 8) : ∀ (m n k : Nat) (a b : Int32), k + m = P → m < n → s_Hall_gap_17 h (nI P) n a b (nI k) σ = some (mxF (σ.1 (h + 4)) m k b - mnF (σ.1 (h + 4)) m k a, σ) := by
  intro m
  induction m with
  | zero =>
    intro n k a b hk hn
    obtain ⟨n, rfl⟩ : ∃ q, n = q + 1 := ⟨n - 1, by omega⟩
    rw [s_Hall_gap_17]
    unfold s_Hall_gap_17_b
    rw [if_pos (nI_le (by omega) (by omega))]
    rfl
  | succ m ih =>
    intro n k a b hk hn
    obtain ⟨n, rfl⟩ : ∃ q, n = q + 1 := ⟨n - 1, by omega⟩
    have i8 : ib (nI k) 8 := ib_nI (by omega) (by omega)
    have cl : (nI k).toNatClampNeg = k := nI_clamp (by omega)
    have e49 : ∀ a : Int32, s_Hall_gap_49 h (nI P) (s_Hall_gap_17 h (nI P) n) a b (nI k) σ = some (mxF (σ.1 (h + 4)) (m + 1) k b - mnF (σ.1 (h + 4)) m (k + 1) a, σ) := by
      intro a
      unfold s_Hall_gap_49 s_Hall_gap_68
      simp only [if_pos i8, cl, xl]
      rw [nI_1, ih n (k + 1) a b (by omega) (by omega), ih n (k + 1) a _ (by omega) (by omega)]
      show _ = some (mxF (σ.1 (h + 4)) m (k + 1) (if b < σ.1 (h + 4) k then σ.1 (h + 4) k else b) - _, σ)
      by_cases q : σ.1 (h + 4) k ≤ b
      · rw [if_pos q, if_neg (Int32.not_lt.mpr q)]
      · rw [if_neg q, if_pos (Int32.not_le.mp q)]
    rw [s_Hall_gap_17]
    unfold s_Hall_gap_17_b
    simp only [if_pos i8, cl, xl]
    rw [if_neg (nI_ge (by omega) (by omega)), if_neg (show ¬ (8 : Int32) ≤ nI k from nI_ge (b := 8) (by omega) (by omega)), e49, e49]
    show _ = some (_ - mnF (σ.1 (h + 4)) m (k + 1) (if σ.1 (h + 4) k < a then σ.1 (h + 4) k else a), σ)
    by_cases q : a ≤ σ.1 (h + 4) k
    · rw [if_pos q, if_neg (Int32.not_lt.mpr q)]
    · rw [if_neg q, if_pos (Int32.not_le.mp q)]
theorem h_gap {σ : LH} {h P : Nat} (hP8 : P ≤ 8) (hP1 : 1 ≤ P) : s_Hall_gap h (nI P) σ = some (mxF (σ.1 (h + 4)) (P - 1) 1 (σ.1 (h + 4) 0) - mnF (σ.1 (h + 4)) (P - 1) 1 (σ.1 (h + 4) 0), σ) := by
  unfold s_Hall_gap
  rw [if_pos (show ib 0 8 by decide)]
  simp only [xl, if_pos (show ib 0 8 by decide)]
  exact h_gap_loop hP8 (P - 1) FUEL 1 _ _ (by omega) (by unfold FUEL; omega)
theorem m_even_loop {τ : LH} {a P : Nat} (hP : τ.1 570 27 = nI P) (hP8 : P ≤ 8) : ∀ (m n k : Nat) (y z : Int32), k + m = P → m < n → s_Model_evenIn_11 a n y z (nI k) τ = some (mxF (fun p => τ.1 a (4 * p + 3)) m k z - mnF (fun p => τ.1 a (4 * p + 3)) m k y, τ) := by
  intro m
  induction m with
  | zero =>
    intro n k y z hk hn
    obtain ⟨n, rfl⟩ : ∃ q, n = q + 1 := ⟨n - 1, by omega⟩
    rw [s_Model_evenIn_11]
    unfold s_Model_evenIn_11_b
    rw [hP, if_pos (nI_le (by omega) (by omega))]
    rfl
  | succ m ih =>
    intro n k y z hk hn
    obtain ⟨n, rfl⟩ : ∃ q, n = q + 1 := ⟨n - 1, by omega⟩
    rw [s_Model_evenIn_11]
    unfold s_Model_evenIn_11_b
    rw [hP, if_neg (nI_ge (by omega) (by omega)), c4, a3, if_pos (ib_nI (by omega) (by omega)), nI_clamp (show 4 * k + 3 < 2 ^ 31 by omega)]
    simp only [xl]
    rw [if_pos (ib_nI (by omega) (by omega)), nI_1, ih n (k + 1) _ _ (by omega) (by omega)]
    rfl
theorem mxF_cg {f g : Nat → Int32} : ∀ (m k : Nat) (y : Int32), (∀ j, k ≤ j → j < k + m → f j = g j) → mxF f m k y = mxF g m k y ∧ mnF f m k y = mnF g m k y := by
  intro m
  induction m with
  | zero => intro k y _; exact ⟨rfl, rfl⟩
  | succ m ih =>
    intro k y h
    unfold mxF mnF
    rw [h k (by omega) (by omega)]
    exact ⟨(ih (k + 1) _ (fun j h1 h2 => h j (by omega) (by omega))).1, (ih (k + 1) _ (fun j h1 h2 => h j (by omega) (by omega))).2⟩
theorem a_even {σ τ : LH} {S P : Nat} (hS : σ.1 4 0 = nI S) (hP : σ.1 4 1 = nI P) (hS8 : S ≤ 8) (hP8 : P ≤ 8) (hPm : τ.1 570 27 = nI P) (hSP : S = 0 ↔ P = 0) (hR : Rw S P (gH σ 39) (τ.1 583)) : ∃ r, s_Main_even σ = some (r, σ) ∧ s_Model_even τ = some (r, stI τ 570 0 0) := by
  have e83 : (stI τ 570 0 0).1 583 = τ.1 583 := stI_n (by omega)
  have e27 : (stI τ 570 0 0).1 570 27 = nI P := by rw [stI_570, if_neg (by omega)]; exact hPm
  unfold s_Main_even s_Model_even s_Main_hasRoom
  simp only [xl]
  rw [hS, e27]
  by_cases q : S = 0
  · have q2 := hSP.mp q
    subst q q2
    rw [if_pos (show nI 0 ≤ 0 by decide), if_pos (show nI 0 = 0 by decide)]
    refine ⟨-1, ?_, rfl⟩
    unfold s_Main_hasRoom_15
    rw [if_pos (Or.inl rfl)]
    rfl
  · have q2 : ¬ P = 0 := fun z => q (hSP.mpr z)
    rw [if_neg (show ¬ nI S ≤ 0 from nI_ge (a := 0) (b := S) (by omega) (by omega)), if_neg (show ¬ nI P = 0 from fun z => q2 (nI_ij (b := 0) (by omega) (by omega) z))]
    unfold s_Main_hasRoom_15
    rw [if_pos (Or.inr rfl)]
    simp only [xb2]
    rw [if_neg (show ¬ (1 : Int32) = 0 by decide), hP, h_gap hP8 (by omega)]
    unfold s_Model_evenIn
    rw [if_pos (show ib 3 290 by decide)]
    simp only [xl, if_pos (show ib 3 290 by decide)]
    have ml := m_even_loop (τ := stI τ 570 0 0) (a := 583) e27 hP8 (P - 1) FUEL 1 ((stI τ 570 0 0).1 583 (Int32.toNatClampNeg 3)) ((stI τ 570 0 0).1 583 (Int32.toNatClampNeg 3)) (by omega) (by unfold FUEL; omega)
    rw [show nI 1 = (1 : Int32) from rfl] at ml
    rw [ml]
    refine ⟨_, rfl, ?_⟩
    have c4' : ∀ p, p < P → σ.1 (39 + 4) p = τ.1 583 (4 * p + 3) := fun p hp => hR.c4 p hp
    have z0 : σ.1 (39 + 4) 0 = (stI τ 570 0 0).1 583 (Int32.toNatClampNeg 3) := by rw [e83]; exact c4' 0 (by omega)
    obtain ⟨g1, -⟩ := mxF_cg (f := σ.1 (39 + 4)) (g := fun p => (stI τ 570 0 0).1 583 (4 * p + 3)) (P - 1) 1 (σ.1 (39 + 4) 0) (fun j _ h2 => by rw [e83]; exact c4' j (by omega))
    obtain ⟨-, g2⟩ := mxF_cg (f := σ.1 (39 + 4)) (g := fun p => (stI τ 570 0 0).1 583 (4 * p + 3)) (P - 1) 1 (σ.1 (39 + 4) 0) (fun j _ h2 => by rw [e83]; exact c4' j (by omega))
    rw [g1, g2, z0]
    rfl
