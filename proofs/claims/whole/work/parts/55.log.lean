/-! both: what a call asks first; the log -/
theorem lg_lt {x y : Int64} : lg_cmp x y < 0 ↔ x < y := by
  unfold lg_cmp
  by_cases q : x > y
  · rw [if_pos q]
    exact ⟨fun z => absurd z (by decide), fun z => absurd (Int64.lt_trans z q) (Int64.lt_irrefl)⟩
  · rw [if_neg q]
    by_cases q2 : x = y
    · rw [if_pos q2]
      exact ⟨fun z => absurd z (by decide), fun z => absurd z (by rw [q2]; exact Int64.lt_irrefl)⟩
    · rw [if_neg q2]
      refine ⟨fun _ => ?_, fun _ => by decide⟩
      have h : x ≤ y := Int64.not_lt.mp q
      exact Int64.lt_of_le_of_ne h q2
theorem lg_gt {x y : Int64} : 0 < lg_cmp x y ↔ y < x := by
  unfold lg_cmp
  by_cases q : x > y
  · rw [if_pos q]
    exact ⟨fun _ => q, fun _ => by decide⟩
  · rw [if_neg q]
    by_cases q2 : x = y
    · rw [if_pos q2]
      exact ⟨fun z => absurd z (by decide), fun z => absurd z q⟩
    · rw [if_neg q2]
      exact ⟨fun z => absurd z (by decide), fun z => absurd z q⟩
theorem to64_lt {a b : Int32} : a.toInt64 < b.toInt64 ↔ a < b := by
  rw [Int64.lt_iff_toInt_lt, Int32.lt_iff_toInt_lt, Int32.toInt_toInt64, Int32.toInt_toInt64]
theorem m_isIn {a b c : Int32} {τ : LH} : s_Model_isIn a.toInt64 b.toInt64 c.toInt64 τ = some (if b ≤ a ∧ a ≤ c then 1 else 0, τ) := by
  unfold s_Model_isIn
  by_cases q1 : a < b
  · rw [if_pos (lg_lt.mpr (to64_lt.mpr q1)), if_neg (fun z => Int32.not_le.mpr q1 z.1)]
    unfold s_Model_isIn_17 s_Model_isIn_18
    rw [if_pos (Or.inl rfl)]
  · rw [if_neg (fun z => q1 (to64_lt.mp (lg_lt.mp z)))]
    by_cases q2 : c < a
    · rw [if_pos (lg_gt.mpr (to64_lt.mpr q2)), if_neg (fun z => Int32.not_le.mpr q2 z.2)]
      unfold s_Model_isIn_17 s_Model_isIn_18
      rw [if_pos (Or.inl rfl)]
    · rw [if_neg (fun z => q2 (to64_lt.mp (lg_gt.mp z))), if_pos ⟨Int32.not_lt.mp q1, Int32.not_lt.mp q2⟩]
      unfold s_Model_isIn_18
      rw [if_pos (Or.inr rfl)]
theorem m_isSitter {x : Int32} {τ : LH} : s_Model_isSitter x τ = some (if 0 ≤ x ∧ x < τ.1 570 27 then 1 else 0, τ) := by
  unfold s_Model_isSitter
  by_cases q1 : x < 0
  · rw [if_pos q1, if_neg (fun z => Int32.not_le.mpr q1 z.1)]
    unfold s_Model_isSitter_16 s_Model_isSitter_17
    rw [if_pos (Or.inl rfl)]
  · rw [if_neg q1]
    by_cases q2 : τ.1 570 27 ≤ x
    · rw [if_pos q2, if_neg (fun z => Int32.not_le.mpr z.2 q2)]
      unfold s_Model_isSitter_16 s_Model_isSitter_17
      rw [if_pos (Or.inl rfl)]
    · rw [if_neg q2, if_pos ⟨Int32.not_lt.mp q1, Int32.not_le.mp q2⟩]
      unfold s_Model_isSitter_17
      rw [if_pos (Or.inr rfl)]
theorem g_isSitter {x : Int32} {σ : LH} {P : Nat} (hP : σ.1 4 1 = nI P) (hP8 : P ≤ 8) : s_Main_isSitter x σ = some (if 0 ≤ x ∧ x < nI P then 1 else 0, σ) := by
  unfold s_Main_isSitter
  rw [hP]
  by_cases q1 : x < 0
  · rw [if_pos q1, if_neg (fun z => Int32.not_le.mpr q1 z.1)]
    unfold s_Main_isSitter_25 s_Main_isSitter_26
    rw [if_pos (Or.inl rfl)]
  · rw [if_neg q1]
    by_cases q2 : nI P ≤ x
    · rw [if_pos q2, if_neg (fun z => Int32.not_le.mpr z.2 q2)]
      unfold s_Main_isSitter_25 s_Main_isSitter_26
      rw [if_pos (Or.inl rfl)]
    · have h8 : nI P ≤ 8 := nI_le (b := 8) hP8 (by omega)
      rw [if_neg q2, if_neg (fun z => q2 (Int32.le_trans h8 z)), if_pos ⟨Int32.not_lt.mp q1, Int32.not_le.mp q2⟩]
      unfold s_Main_isSitter_26
      rw [if_pos (Or.inr rfl)]
theorem nI_sb {b c : Nat} : nI (b + c) - nI b = nI c := by rw [← nI_add, Int32.add_comm, Int32.add_sub_cancel]
theorem nI_ofx {n : Nat} {x : Int32} (hn : n < 2 ^ 30) (h0 : 0 ≤ x) (h1 : x < nI n) : ∃ j, j < n ∧ x = nI j := by
  obtain ⟨t, e1, -, e3⟩ := nI_btw (a := 0) (b := n) hn (by omega) (show nI 0 ≤ x from h0) (Int32.le_of_lt h1)
  refine ⟨t, ?_, e1⟩
  by_cases q : t = n
  · subst q; rw [e1] at h1; exact absurd h1 Int32.lt_irrefl
  · omega
theorem h_logged {h M : Nat} {σ : LH} (hM : σ.1 h 8 = nI M) (hM2 : M < 2 ^ 29) : s_Hall_logged h σ = some (nI (min M 60), σ) := by
  unfold s_Hall_logged
  rw [hM]
  by_cases q : 60 ≤ M
  · rw [if_pos (show (60 : Int32) ≤ nI M from nI_le (a := 60) q (by omega)), show min M 60 = 60 by omega]
    rfl
  · rw [if_neg (show ¬ (60 : Int32) ≤ nI M from nI_ge (b := 60) (by omega) (by omega)), show min M 60 = M by omega]
    rfl
theorem h_entry {h M j k : Nat} {σ : LH} (hM : σ.1 h 8 = nI M) (hM2 : M < 2 ^ 29) (hj : j < min M 60) (hk : k < 4) : s_Hall_entry h (nI j) (nI k) σ = some (σ.1 (h + 8) ((M - 1 - j) % 60 * 4 + k), σ) := by
  unfold s_Hall_entry
  obtain ⟨a, ha⟩ : ∃ a, M = 1 + (j + a) := ⟨M - 1 - j, by omega⟩
  have e1 : σ.1 h 8 - 1 - nI j = nI a := by rw [hM, ha, show (1 : Int32) = nI 1 from rfl, nI_sb, nI_sb]
  rw [e1, show (60 : Int32) = nI 60 from rfl, pk_rem (by omega) (by omega) (by omega), show (4 : Int32) = nI 4 from rfl, pk_mul, nI_add]
  have hb : a % 60 * 4 + k < 240 := by have := Nat.mod_lt a (show 0 < 60 by omega); omega
  simp only [xl]
  rw [if_neg (nI_pos (n := a % 60 * 4 + k) (by omega)), if_neg (show ¬ (240 : Int32) ≤ nI (a % 60 * 4 + k) from nI_ge (b := 240) hb (by omega)), if_pos (ib_nI hb (by omega)), nI_clamp (show a % 60 * 4 + k < 2 ^ 31 by omega), show M - 1 - j = a by omega]
  rfl
/-- the log's entries -/
theorem a_log {σ τ : LH} {M : Nat} (hL : Lg (gH σ 39) (τ.1 583) M) (hM2 : M < 2 ^ 29) (i k : Int32) : ∃ r, s_Main_log i k σ = some (r, σ) ∧ s_Model_log i k τ = some (r, stI τ 570 0 0) := by
  obtain ⟨h1, h2, h3⟩ := hL
  have h1 : σ.1 39 8 = nI M := h1
  have e83 : (stI τ 570 0 0).1 583 = τ.1 583 := stI_n (by omega)
  have z : ∀ b c : Int32, (0 : Int64) = Int32.toInt64 0 ∧ (3 : Int64) = Int32.toInt64 3 := fun _ _ => ⟨rfl, rfl⟩
  unfold s_Main_log s_Model_log
  simp only [xl]
  rw [if_pos (show ib 49 290 by decide), e83, show τ.1 583 (Int32.toNatClampNeg 49) = nI (min M 60) from h2, (z 0 0).1, (z 0 0).2, m_isIn]
  simp only [xb2]
  by_cases q1 : i < 0
  · rw [if_pos q1, if_neg (show ¬ (0 ≤ i ∧ i ≤ nI (min M 60) - 1) from fun z => Int32.not_le.mpr q1 z.1), if_pos rfl]
    exact ⟨_, rfl, rfl⟩
  · rw [if_neg q1, h_logged h1 hM2]
    simp only
    by_cases q2 : nI (min M 60) ≤ i
    · have : ¬ (0 ≤ i ∧ i ≤ nI (min M 60) - 1) := by
        rintro ⟨-, z⟩
        have := Int32.le_trans q2 z
        generalize hg : min M 60 = g at this
        have hg2 : g < 61 := by omega
        by_cases g0 : g = 0
        · subst g0; exact absurd this (by decide)
        · obtain ⟨b, rfl⟩ : ∃ b, g = 1 + b := ⟨g - 1, by omega⟩
          rw [show (1 : Int32) = nI 1 from rfl, nI_sb] at this
          have := (nI_le1 (by omega) (by omega)).mp this
          omega
      rw [if_pos q2, if_neg this, if_pos rfl]
      exact ⟨_, rfl, rfl⟩
    · obtain ⟨j, hj, rfl⟩ := nI_ofx (by omega) (Int32.not_lt.mp q1) (Int32.not_le.mp q2)
      obtain ⟨b, hb⟩ : ∃ b, min M 60 = 1 + (j + b) := ⟨min M 60 - 1 - j, by omega⟩
      have e1 : nI (min M 60) - 1 = nI (j + b) := by rw [hb, show (1 : Int32) = nI 1 from rfl, nI_sb]
      have hin : 0 ≤ nI j ∧ nI j ≤ nI (min M 60) - 1 := ⟨Int32.not_lt.mp q1, by rw [e1]; exact nI_le (by omega) (by omega)⟩
      rw [if_neg q2, if_pos hin, if_neg (show ¬ (1 : Int32) = 0 by decide), m_isIn]
      simp only
      by_cases q3 : k < 0
      · rw [if_pos q3, if_neg (show ¬ (0 ≤ k ∧ k ≤ 3) from fun z => Int32.not_le.mpr q3 z.1), if_pos rfl]
        exact ⟨_, rfl, rfl⟩
      · rw [if_neg q3]
        by_cases q4 : k ≤ 3
        · rw [if_pos q4, if_pos (show 0 ≤ k ∧ k ≤ 3 from ⟨Int32.not_lt.mp q3, q4⟩), if_neg (show ¬ (1 : Int32) = 0 by decide), if_pos (show ib 49 290 by decide), e83, show τ.1 583 (Int32.toNatClampNeg 49) = nI (min M 60) from h2]
          obtain ⟨c, rfl, -, hc⟩ := nI_btw (a := 0) (b := 3) (by omega) (by omega) (Int32.not_lt.mp q3 : nI 0 ≤ k) q4
          rw [e1, nI_sb, c4, c50, nI_add, if_pos (ib_nI (by omega) (by omega)), nI_clamp (show 50 + 4 * b + c < 2 ^ 31 by omega), h_entry h1 hM2 hj (by omega)]
          refine ⟨_, rfl, ?_⟩
          have := h3 j c hj (by omega)
          rw [show min M 60 - 1 - j = b by omega] at this
          have h8 : σ.1 (39 + 8) ((M - 1 - j) % 60 * 4 + c) = τ.1 583 (50 + 4 * b + c) := this
          rw [h8]
          rfl
        · rw [if_neg q4, if_neg (show ¬ (0 ≤ k ∧ k ≤ 3) from fun z => q4 z.2), if_pos rfl]
          exact ⟨_, rfl, rfl⟩
