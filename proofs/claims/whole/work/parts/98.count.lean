/-! small answers: count, sitter, ladder -/
section
variable {I : LH → Prop} {σ τ σ' τ' : LH} {S P n0 ne ne' n E eN mm M : Nat} {go ex ex' : Nat → Nat} {who who' : Option Nat} {L : Nat → Nat → Nat → Int32} {ln : Nat → Nat → Nat → Nat} {qn sn : Nat → Nat}
theorem a_count {F : Nat} (hD : Idep I) (X : QX I σ τ S P n0 n E go L ln qn sn mm M) (hLg : Lg (gH σ 39) (τ.1 583) M) (hF1 : σ.1 4 14 = nI F) (hF2 : τ.1 581 0 = nI F) (hF0 : P = 0 → F = 0) (h3 : σ.1 1 6 = τ.1 570 7) (h4 : σ.1 2 1 = τ.1 570 6) (h5 : σ.1 1 7 = τ.1 570 35) (h9 : σ.1 1 8 = τ.1 570 36) (h11 : σ.1 1 13 = τ.1 570 46) (h12 : σ.1 81 10 = τ.1 570 57) (x : Int32) : QR I (s_Main_count x σ) (s_Model_count x τ) σ τ := by
  have X0 := X.z hD
  have hP8 := X.P8
  have hM2 : M < 2 ^ 29 := by have := X.M1; have := X.mE; have := X.e100; omega
  have ok : ∀ r r' : Int32, r' = r → QR I (some (r, σ)) (some (r', stI τ 570 0 0)) σ τ := fun r r' h => QR.no X hD r rfl (by rw [h])
  have e70 : ∀ j, j ≠ 0 → (stI τ 570 0 0).1 570 j = τ.1 570 j := fun j hj => by rw [stI_570, if_neg hj]
  have lg : s_Hall_logged 39 σ = some (nI (min M 60), σ) := h_logged hLg.1 hM2
  unfold s_Main_count s_Model_count s_Model_count_127 s_Model_count_145
  simp only [xl, lg, xb2, if_pos (show ib 48 290 by decide), if_pos (show ib 49 290 by decide), if_pos (show ib 1 2 by decide), if_pos (show ib 0 2 by decide), X0.mP]
  by_cases q : x.toInt = 0
  · rw [if_pos q, if_pos q]; exact ok _ _ (X0.mS.trans X.hS.symm)
  rw [if_neg q, if_neg q]; clear q
  by_cases q : x.toInt = 1
  · rw [if_pos q, if_pos q]; exact ok _ _ X.hP.symm
  rw [if_neg q, if_neg q]; clear q
  by_cases q : x.toInt = 2
  · rw [if_pos q, if_pos q]; exact ok _ _ (X0.1.2.1.2.2.2.2.1.trans X.1.1.2.2.2.2.1.symm)
  rw [if_neg q, if_neg q]; clear q
  by_cases q : x.toInt = 3
  · rw [if_pos q, if_pos q]; exact ok _ _ ((e70 7 (by omega)).trans h3.symm)
  rw [if_neg q, if_neg q]; clear q
  by_cases q : x.toInt = 4
  · rw [if_pos q, if_pos q]; exact ok _ _ ((e70 6 (by omega)).trans h4.symm)
  rw [if_neg q, if_neg q]; clear q
  by_cases q : x.toInt = 5
  · rw [if_pos q, if_pos q]; exact ok _ _ ((e70 35 (by omega)).trans h5.symm)
  rw [if_neg q, if_neg q]; clear q
  by_cases q : x.toInt = 6
  · rw [if_pos q, if_pos q]; exact ok _ _ (X0.tm.trans X.cm.symm)
  rw [if_neg q, if_neg q]; clear q
  by_cases q : x.toInt = 7
  · rw [if_pos q, if_pos q]
    by_cases z : nI P = 0
    · rw [if_pos z]
      have := X.pe (nI_ij (b := 0) (by omega) (by omega) z)
      exact ok _ _ (by rw [X.cE, this, nI_0])
    · rw [if_neg z]
      exact ok _ _ (X0.tE.trans X.cE.symm)
  rw [if_neg q, if_neg q]; clear q
  by_cases q : x.toInt = 8
  · rw [if_pos q, if_pos q]
    by_cases z : nI P = 0
    · rw [if_pos z]
      have := hF0 (nI_ij (b := 0) (by omega) (by omega) z)
      exact ok _ _ (by rw [hF1, this, nI_0])
    · rw [if_neg z]
      exact ok _ _ (by
        show (stI τ 570 0 0).1 581 0 = _
        rw [stI_n (by omega), hF2, hF1])
  rw [if_neg q, if_neg q]; clear q
  by_cases q : x.toInt = 9
  · rw [if_pos q, if_pos q]; exact ok _ _ ((e70 36 (by omega)).trans h9.symm)
  rw [if_neg q, if_neg q]; clear q
  by_cases q : x.toInt = 10
  · rw [if_pos q, if_pos q]
    exact ok _ _ (by
      show (stI τ 570 0 0).1 583 49 = _
      rw [stI_n (by omega), hLg.2.1])
  rw [if_neg q, if_neg q]; clear q
  by_cases q : x.toInt = 11
  · rw [if_pos q, if_pos q]; exact ok _ _ ((e70 46 (by omega)).trans h11.symm)
  rw [if_neg q, if_neg q]; clear q
  by_cases q : x.toInt = 12
  · rw [if_pos q, if_pos q]; exact ok _ _ ((e70 57 (by omega)).trans h12.symm)
  rw [if_neg q, if_neg q]
  exact ok _ _ rfl
theorem a_sitter (hD : Idep I) (X : QX I σ τ S P n0 n E go L ln qn sn mm M) (x y : Int32) : ((0 ≤ x ∧ x < nI P) ∧ (0 ≤ y ∧ y ≤ 5) ∧ QR I (s_Main_sitter x y σ) (s_Model_sitter x y τ) σ τ) ∨ (s_Main_sitter x y σ = none ∧ ¬ ((0 ≤ x ∧ x < nI P) ∧ 0 ≤ y ∧ y ≤ 5) ∧ s_Model_sitter x y τ = some (0, stI τ 570 0 1)) := by
  have hP8 := X.P8
  have eC : s_Main_sitter x y σ = if 0 ≤ x ∧ x < nI P then (if y < 0 then none else if y ≤ 5 then (if y.toInt = 0 then (if ib x 8 then some (σ.1 40 x.toNatClampNeg, σ) else none) else if y.toInt = 1 then (if ib x 8 then some (σ.1 41 x.toNatClampNeg, σ) else none) else if y.toInt = 2 then (if ib x 8 then some (σ.1 9 x.toNatClampNeg, σ) else none) else if y.toInt = 3 then (if ib x 8 then some (σ.1 10 x.toNatClampNeg, σ) else none) else if y.toInt = 4 then (if ib x 8 then some (σ.1 42 x.toNatClampNeg, σ) else none) else (if ib x 8 then some (σ.1 43 x.toNatClampNeg, σ) else none)) else none) else none := by
    unfold s_Main_sitter s_Main_sitter_17
    rw [g_isSitter X.hP hP8]
    simp only [xb2, ite10]
  have eM : s_Model_sitter x y τ = if 0 ≤ x ∧ x < nI P then (if 0 ≤ y ∧ y ≤ 5 then s_Model_sitter_26 x y 0 τ else s_Model_sitter_26 x y 1 τ) else s_Model_sitter_26 x y 1 τ := by
    unfold s_Model_sitter s_Model_sitter_25
    rw [m_isSitter, X.mP]
    simp only [xb2]
    rw [m_in05]
    simp only [ite10]
  have e1 : s_Model_sitter_26 x y 1 τ = some (0, stI τ 570 0 1) := by
    unfold s_Model_sitter_26
    simp only [xl]
    rw [stI_570, if_pos rfl, if_neg (show ¬ (1 : Int32) ≤ 0 by decide)]
  by_cases q1 : 0 ≤ x ∧ x < nI P
  · rw [if_pos q1] at eC eM
    by_cases q2 : 0 ≤ y ∧ y ≤ 5
    · rw [if_pos q2] at eM
      rw [if_neg (Int32.not_lt.mpr q2.1), if_pos q2.2] at eC
      refine Or.inl ⟨q1, q2, ?_⟩
      obtain ⟨p, hp, rfl⟩ := nI_ofx (n := P) (x := x) (by omega) q1.1 q1.2
      obtain ⟨k, rfl, -, hk⟩ := nI_btw (a := 0) (b := 5) (by omega) (by omega) q2.1 q2.2
      have ok : ∀ r r' : Int32, r' = r → QR I (some (r, σ)) (some (r', stI τ 570 0 0)) σ τ := fun r r' h => QR.no X hD r rfl (by rw [h])
      have R := X.2.2.1.1
      have F := X.1.2.2.1
      have e83 : (stI τ 570 0 0).1 583 = τ.1 583 := stI_n (by omega)
      have e77 : (stI τ 570 0 0).1 577 = τ.1 577 := stI_n (by omega)
      have e4 : 4 * nI p + nI k = nI (4 * p + k) := by
        rw [show (4 : Int32) = nI 4 from rfl, pk_mul, nI_add]
      have e41 : 1 ≤ k → 4 * nI p + nI k - 1 = nI (4 * p + (k - 1)) := fun h => by
        rw [e4, show (1 : Int32) = nI 1 from rfl, pk_sub (by omega)]
        congr 1
        omega
      have e42 : 2 ≤ k → 4 * nI p + nI k - 2 = nI (4 * p + (k - 2)) := fun h => by
        rw [e4, show (2 : Int32) = nI 2 from rfl, pk_sub (by omega)]
        congr 1
        omega
      have i8 : ib (nI p) 8 := ib_nI (by omega) (by omega)
      have tc : (nI p).toNatClampNeg = p := nI_clamp (by omega)
      rw [eC, eM]
      unfold s_Model_sitter_26 s_Model_sitter_86
      simp only [xl]
      rw [show (stI τ 570 0 0).1 570 0 = 0 by rw [stI_570, if_pos rfl], if_pos (show (0 : Int32) ≤ 0 by decide)]
      simp only [if_pos i8, tc, nI_toInt (show k < 2 ^ 31 by omega)]
      rcases (show k = 0 ∨ k = 1 ∨ k = 2 ∨ k = 3 ∨ k = 4 ∨ k = 5 by omega) with rfl | rfl | rfl | rfl | rfl | rfl
      · rw [if_pos (show ((0 : Nat) : Int) = 0 from rfl), if_neg (show ¬ (2 : Int32) ≤ nI 0 by decide), e4, if_pos (ib_nI (show 4 * p + 0 < 290 by omega) (by omega)), nI_clamp (show 4 * p + 0 < 2 ^ 31 by omega)]
        exact ok _ _ (by rw [e83]; exact (R.c1 p hp).symm)
      · rw [if_neg (show ¬ ((1 : Nat) : Int) = 0 by decide), if_pos (show ((1 : Nat) : Int) = 1 from rfl), if_neg (show ¬ (2 : Int32) ≤ nI 1 by decide), e4, if_pos (ib_nI (show 4 * p + 1 < 290 by omega) (by omega)), nI_clamp (show 4 * p + 1 < 2 ^ 31 by omega)]
        exact ok _ _ (by rw [e83]; exact (R.c2 p hp).symm)
      · rw [if_neg (show ¬ ((2 : Nat) : Int) = 0 by decide), if_neg (show ¬ ((2 : Nat) : Int) = 1 by decide), if_pos (show ((2 : Nat) : Int) = 2 from rfl), if_pos (show (2 : Int32) ≤ nI 2 by decide), if_neg (show ¬ (4 : Int32) ≤ nI 2 by decide), e41 (by omega), if_pos (ib_nI (show 4 * p + (2 - 1) < 32 by omega) (by omega)), nI_clamp (show 4 * p + (2 - 1) < 2 ^ 31 by omega)]
        exact ok _ _ (by rw [e77]; exact (F.2.2.1 p hp).symm)
      · rw [if_neg (show ¬ ((3 : Nat) : Int) = 0 by decide), if_neg (show ¬ ((3 : Nat) : Int) = 1 by decide), if_neg (show ¬ ((3 : Nat) : Int) = 2 by decide), if_pos (show ((3 : Nat) : Int) = 3 from rfl), if_pos (show (2 : Int32) ≤ nI 3 by decide), if_neg (show ¬ (4 : Int32) ≤ nI 3 by decide), e41 (by omega), if_pos (ib_nI (show 4 * p + (3 - 1) < 32 by omega) (by omega)), nI_clamp (show 4 * p + (3 - 1) < 2 ^ 31 by omega)]
        exact ok _ _ (by rw [e77]; exact (F.2.2.2 p hp).symm)
      · rw [if_neg (show ¬ ((4 : Nat) : Int) = 0 by decide), if_neg (show ¬ ((4 : Nat) : Int) = 1 by decide), if_neg (show ¬ ((4 : Nat) : Int) = 2 by decide), if_neg (show ¬ ((4 : Nat) : Int) = 3 by decide), if_pos (show ((4 : Nat) : Int) = 4 from rfl), if_pos (show (2 : Int32) ≤ nI 4 by decide), if_pos (show (4 : Int32) ≤ nI 4 by decide), e42 (by omega), if_pos (ib_nI (show 4 * p + (4 - 2) < 290 by omega) (by omega)), nI_clamp (show 4 * p + (4 - 2) < 2 ^ 31 by omega)]
        exact ok _ _ (by rw [e83]; exact (R.c3 p hp).symm)
      · rw [if_neg (show ¬ ((5 : Nat) : Int) = 0 by decide), if_neg (show ¬ ((5 : Nat) : Int) = 1 by decide), if_neg (show ¬ ((5 : Nat) : Int) = 2 by decide), if_neg (show ¬ ((5 : Nat) : Int) = 3 by decide), if_neg (show ¬ ((5 : Nat) : Int) = 4 by decide), if_pos (show (2 : Int32) ≤ nI 5 by decide), if_pos (show (4 : Int32) ≤ nI 5 by decide), e42 (by omega), if_pos (ib_nI (show 4 * p + (5 - 2) < 290 by omega) (by omega)), nI_clamp (show 4 * p + (5 - 2) < 2 ^ 31 by omega)]
        exact ok _ _ (by rw [e83]; exact (R.c4 p hp).symm)
    · refine Or.inr ⟨?_, fun z => q2 z.2, ?_⟩
      · rw [eC]
        by_cases q3 : y < 0
        · rw [if_pos q3]
        · rw [if_neg q3, if_neg (fun z => q2 ⟨Int32.not_lt.mp q3, z⟩)]
      · rw [if_neg q2] at eM
        exact eM.trans e1
  · rw [if_neg q1] at eC eM
    exact Or.inr ⟨eC, fun z => q1 z.1, eM.trans e1⟩
theorem rk_lt {W : Nat → Int32} {s : Nat} : ∀ (m k acc : Nat), acc ≤ rkS W s m k acc ∧ rkS W s m k acc ≤ acc + m := by
  intro m
  induction m with
  | zero => intro k acc; exact ⟨Nat.le_refl _, Nat.le_refl _⟩
  | succ m ih =>
    intro k acc
    unfold rkS
    by_cases q : W s < W k ∨ (W k = W s ∧ k < s)
    · rw [if_pos q]
      have := ih (k + 1) (acc + 1)
      omega
    · rw [if_neg q]
      have := ih (k + 1) acc
      omega
theorem g_rank {s : Nat} (hS : σ.1 4 0 = nI S) (hS8 : S ≤ 8) (hs : s < S) : ∀ (m f k acc : Nat), k + m = S → m < f → s_Main_rank_4 (nI s) f (nI acc) (nI k) σ = some (nI (rkS (σ.1 5) s m k acc), σ) := by
  intro m
  induction m with
  | zero =>
    intro f k acc hk hf
    obtain ⟨f, rfl⟩ : ∃ q, f = q + 1 := ⟨f - 1, by omega⟩
    rw [s_Main_rank_4]
    unfold s_Main_rank_4_b
    rw [hS, if_pos (nI_le (by omega) (by omega))]
    rfl
  | succ m ih =>
    intro f k acc hk hf
    obtain ⟨f, rfl⟩ : ∃ q, f = q + 1 := ⟨f - 1, by omega⟩
    have i8 : ib (nI s) 8 := ib_nI (by omega) (by omega)
    have k8 : ib (nI k) 8 := ib_nI (by omega) (by omega)
    have up : s_Main_rank_62 (nI s) (s_Main_rank_4 (nI s) f) (nI acc) (nI k) σ = some (nI (rkS (σ.1 5) s m (k + 1) (acc + 1)), σ) := by
      unfold s_Main_rank_62 s_Main_rank_65
      simp only [xl]
      rw [nI_1, nI_1]
      exact ih f (k + 1) (acc + 1) (by omega) (by omega)
    have st : s_Main_rank_65 (nI s) (s_Main_rank_4 (nI s) f) (nI acc) (nI k) σ = some (nI (rkS (σ.1 5) s m (k + 1) acc), σ) := by
      unfold s_Main_rank_65
      simp only [xl]
      rw [nI_1]
      exact ih f (k + 1) acc (by omega) (by omega)
    rw [s_Main_rank_4]
    unfold s_Main_rank_4_b rkS
    rw [hS, if_neg (nI_ge (by omega) (by omega)), if_pos k8, if_pos i8, nI_clamp (show s < 2 ^ 31 by omega), nI_clamp (show k < 2 ^ 31 by omega)]
    by_cases q1 : σ.1 5 s < σ.1 5 k
    · rw [if_pos q1, if_pos (Or.inl q1)]
      exact up
    · rw [if_neg q1, if_pos k8, if_pos i8]
      by_cases q2 : σ.1 5 k = σ.1 5 s
      · rw [if_pos q2]
        by_cases q3 : k < s
        · rw [if_neg (nI_ge q3 (by omega)), if_pos (Or.inr ⟨q2, q3⟩)]
          exact up
        · rw [if_pos (nI_le (by omega) (by omega)), if_neg (fun z => z.elim q1 (fun y => q3 y.2))]
          exact st
      · rw [if_neg q2, if_neg (fun z => z.elim q1 (fun y => q2 y.1))]
        exact st
theorem m_rank {x : Int32} {rec17 : Int32 → LH → Option (Int32 × LH)} {s : Nat} (hS : τ.1 570 26 = nI S) (hS8 : S ≤ 8) (hs : s < S) : ∀ (m f k acc : Nat), k + m = S → m < f → s_Model_ladder_30 x rec17 f (nI s) (nI acc) (nI k) τ = if nI (rkS (fun k => τ.1 575 (3 * k)) s m k acc) = x then some (nI s, τ) else rec17 (nI (s + 1)) τ := by
  intro m
  induction m with
  | zero =>
    intro f k acc hk hf
    obtain ⟨f, rfl⟩ : ∃ q, f = q + 1 := ⟨f - 1, by omega⟩
    rw [s_Model_ladder_30]
    unfold s_Model_ladder_30_b rkS
    rw [hS, if_pos (nI_le (by omega) (by omega))]
    simp only [xl]
    rw [nI_1]
  | succ m ih =>
    intro f k acc hk hf
    obtain ⟨f, rfl⟩ : ∃ q, f = q + 1 := ⟨f - 1, by omega⟩
    have e3 : ∀ j : Nat, 3 * nI j = nI (3 * j) := fun j => by rw [show (3 : Int32) = nI 3 from rfl, pk_mul]
    have i8 : ib (nI (3 * s)) 24 := ib_nI (by omega) (by omega)
    have k8 : ib (nI (3 * k)) 24 := ib_nI (by omega) (by omega)
    have up : s_Model_ladder_86 x (s_Model_ladder_30 x rec17 f) (nI s) (nI k) (nI acc) τ = if nI (rkS (fun k => τ.1 575 (3 * k)) s m (k + 1) (acc + 1)) = x then some (nI s, τ) else rec17 (nI (s + 1)) τ := by
      unfold s_Model_ladder_86 s_Model_ladder_91
      simp only [xl]
      rw [nI_1, nI_1]
      exact ih f (k + 1) (acc + 1) (by omega) (by omega)
    have st : s_Model_ladder_90 x (s_Model_ladder_30 x rec17 f) (nI s) (nI k) (nI acc) τ = if nI (rkS (fun k => τ.1 575 (3 * k)) s m (k + 1) acc) = x then some (nI s, τ) else rec17 (nI (s + 1)) τ := by
      unfold s_Model_ladder_90 s_Model_ladder_91
      simp only [xl]
      rw [nI_1, Int32.add_zero]
      exact ih f (k + 1) acc (by omega) (by omega)
    rw [s_Model_ladder_30]
    unfold s_Model_ladder_30_b rkS
    rw [hS, if_neg (nI_ge (by omega) (by omega)), e3, e3, if_pos k8, if_pos i8, nI_clamp (show 3 * s < 2 ^ 31 by omega), nI_clamp (show 3 * k < 2 ^ 31 by omega)]
    by_cases q1 : τ.1 575 (3 * s) < τ.1 575 (3 * k)
    · rw [if_pos q1, if_pos (Or.inl q1)]
      exact up
    · rw [if_neg q1, if_pos k8, if_pos i8]
      by_cases q2 : τ.1 575 (3 * k) = τ.1 575 (3 * s)
      · rw [if_pos q2]
        by_cases q3 : k < s
        · rw [if_neg (nI_ge q3 (by omega)), if_pos (Or.inr ⟨q2, q3⟩)]
          exact up
        · rw [if_pos (nI_le (by omega) (by omega)), if_neg (show ¬ (τ.1 575 (3 * s) < τ.1 575 (3 * k) ∨ τ.1 575 (3 * k) = τ.1 575 (3 * s) ∧ k < s) from fun z => z.elim q1 (fun y => q3 y.2))]
          exact st
      · rw [if_neg q2, if_neg (show ¬ (τ.1 575 (3 * s) < τ.1 575 (3 * k) ∨ τ.1 575 (3 * k) = τ.1 575 (3 * s) ∧ k < s) from fun z => z.elim q1 (fun y => q2 y.1))]
        exact st
theorem rk_cg {W W' : Nat → Int32} {s : Nat} (hs : s < S) (h : ∀ k, k < S → W k = W' k) : ∀ (m k acc : Nat), k + m = S → rkS W s m k acc = rkS W' s m k acc := by
  intro m
  induction m with
  | zero => intro k acc _; rfl
  | succ m ih =>
    intro k acc hk
    unfold rkS
    rw [h s hs, h k (by omega)]
    exact ih (k + 1) _ (by omega)
theorem a_ladder (hD : Idep I) (X : QX I σ τ S P n0 n E go L ln qn sn mm M) (x : Int32) : QR I (s_Main_ladder x σ) (s_Model_ladder x τ) σ τ := by
  have X0 := X.z hD
  have hS8 := X.S8
  have eC : s_Main_ladder x σ = if 0 ≤ x ∧ x < nI S then s_Main_ladder_19 x FUEL 0 σ else some (-1, σ) := by
    unfold s_Main_ladder s_Main_ladder_15
    rw [X.hS]
    by_cases q1 : x < 0
    · rw [if_pos q1, if_neg (fun z => Int32.not_lt.mpr z.1 q1)]
    · rw [if_neg q1]
      by_cases q2 : x < nI S
      · rw [if_pos q2, if_pos ⟨Int32.not_lt.mp q1, q2⟩]
      · rw [if_neg q2, if_neg (fun z => q2 z.2)]
  have eM : s_Model_ladder x τ = if 0 ≤ x ∧ x < nI S then s_Model_ladder_17 x FUEL 0 (stI τ 570 0 0) else some (-1, stI τ 570 0 0) := by
    unfold s_Model_ladder
    simp only [xl]
    rw [m_isSeat, X0.mS]
    simp only [xb2, ite10]
  by_cases q : 0 ≤ x ∧ x < nI S
  · rw [if_pos q] at eC eM
    have loop : ∀ (m f f' s : Nat), s + m = S → m < f → m < f' → ∃ r, s_Main_ladder_19 x f (nI s) σ = some (r, σ) ∧ s_Model_ladder_17 x f' (nI s) (stI τ 570 0 0) = some (r, stI τ 570 0 0) := by
      intro m
      induction m with
      | zero =>
        intro f f' s hs hf hf'
        obtain ⟨f, rfl⟩ : ∃ q, f = q + 1 := ⟨f - 1, by omega⟩
        obtain ⟨f', rfl⟩ : ∃ q, f' = q + 1 := ⟨f' - 1, by omega⟩
        rw [s_Main_ladder_19, s_Model_ladder_17]
        unfold s_Main_ladder_19_b s_Model_ladder_17_b
        rw [X.hS, X0.mS, if_pos (nI_le (show S ≤ s by omega) (by omega))]
        exact ⟨_, rfl, if_pos (nI_le (show S ≤ s by omega) (by omega))⟩
      | succ m ih =>
        intro f f' s hs hf hf'
        obtain ⟨f, rfl⟩ : ∃ q, f = q + 1 := ⟨f - 1, by omega⟩
        obtain ⟨f', rfl⟩ : ∃ q, f' = q + 1 := ⟨f' - 1, by omega⟩
        obtain ⟨r, i1, i2⟩ := ih f f' (s + 1) (by omega) (by omega) (by omega)
        have g := g_rank (σ := σ) (s := s) X.hS hS8 (by omega) S FUEL 0 0 (by omega) (by unfold FUEL; omega)
        have h := m_rank (τ := stI τ 570 0 0) (x := x) (rec17 := s_Model_ladder_17 x f') (s := s) X0.mS hS8 (by omega) S FUEL 0 0 (by omega) (by unfold FUEL; omega)
        have e : rkS (fun k => (stI τ 570 0 0).1 575 (3 * k)) s S 0 0 = rkS (σ.1 5) s S 0 0 := rk_cg (S := S) (by omega) (fun k hk => (X0.1.2.2.1.1 k hk).symm) S 0 0 (by omega)
        rw [e] at h
        rw [nI_0] at g h
        rw [s_Main_ladder_19, s_Model_ladder_17]
        unfold s_Main_ladder_19_b s_Model_ladder_17_b s_Main_rank
        rw [X.hS, X0.mS, if_neg (nI_ge (show s < S by omega) (by omega)), if_neg (nI_ge (show s < S by omega) (by omega)), g, h]
        simp only [xb2, xl]
        rw [nI_1]
        by_cases z : nI (rkS (σ.1 5) s S 0 0) = x
        · rw [if_pos z, if_pos z]
          exact ⟨_, rfl, rfl⟩
        · rw [if_neg z, if_neg z]
          exact ⟨r, i1, i2⟩
    obtain ⟨r, l1, l2⟩ := loop S FUEL FUEL 0 (by omega) (by unfold FUEL; omega) (by unfold FUEL; omega)
    rw [nI_0] at l1 l2
    exact QR.no X hD r (eC.trans l1) (eM.trans l2)
  · rw [if_neg q] at eC eM
    exact QR.no X hD _ eC eM
end
