/-! small answers: likes, seat, going, ladder -/
theorem m_isSeat {x : Int32} {τ : LH} : s_Model_isSeat x τ = some (if 0 ≤ x ∧ x < τ.1 570 26 then 1 else 0, τ) := by
  unfold s_Model_isSeat
  by_cases q1 : x < 0
  · rw [if_pos q1, if_neg (fun z => Int32.not_le.mpr q1 z.1)]
    unfold s_Model_isSeat_16 s_Model_isSeat_17
    rw [if_pos (Or.inl rfl)]
  · rw [if_neg q1]
    by_cases q2 : τ.1 570 26 ≤ x
    · rw [if_pos q2, if_neg (fun z => Int32.not_le.mpr z.2 q2)]
      unfold s_Model_isSeat_16 s_Model_isSeat_17
      rw [if_pos (Or.inl rfl)]
    · rw [if_neg q2, if_pos ⟨Int32.not_lt.mp q1, Int32.not_le.mp q2⟩]
      unfold s_Model_isSeat_17
      rw [if_pos (Or.inr rfl)]
theorem g_isSeat {x : Int32} {σ : LH} {S : Nat} (hS : σ.1 4 0 = nI S) (hS8 : S ≤ 8) : s_Main_isSeat x σ = some (if 0 ≤ x ∧ x < nI S then 1 else 0, σ) := by
  unfold s_Main_isSeat
  rw [hS]
  by_cases q1 : x < 0
  · rw [if_pos q1, if_neg (fun z => Int32.not_le.mpr q1 z.1)]
    unfold s_Main_isSeat_25 s_Main_isSeat_26
    rw [if_pos (Or.inl rfl)]
  · rw [if_neg q1]
    by_cases q2 : nI S ≤ x
    · rw [if_pos q2, if_neg (fun z => Int32.not_le.mpr z.2 q2)]
      unfold s_Main_isSeat_25 s_Main_isSeat_26
      rw [if_pos (Or.inl rfl)]
    · have q3 : ¬ (8 : Int32) ≤ x := fun z => q2 (Int32.le_trans (nI_le (b := 8) hS8 (by omega)) z)
      rw [if_neg q2, if_neg q3, if_pos ⟨Int32.not_lt.mp q1, Int32.not_le.mp q2⟩]
      unfold s_Main_isSeat_26
      rw [if_pos (Or.inr rfl)]
theorem tinI {y : Int32} {k : Nat} (hk : k < 2 ^ 31) : y.toInt = (k : Int) ↔ y = nI k := ⟨fun h => Int32.toInt_inj.mp (h.trans (nI_toInt hk).symm), fun h => by rw [h]; exact nI_toInt hk⟩
theorem m_in05 {a : Int32} {τ : LH} : s_Model_isIn (Int32.toInt64 a) 0 5 τ = some (if 0 ≤ a ∧ a ≤ 5 then 1 else 0, τ) := m_isIn (a := a) (b := 0) (c := 5)
theorem m_in02 {a : Int32} {τ : LH} : s_Model_isIn (Int32.toInt64 a) 0 2 τ = some (if 0 ≤ a ∧ a ≤ 2 then 1 else 0, τ) := m_isIn (a := a) (b := 0) (c := 2)
theorem ti_out {y : Int32} {b : Nat} (hb : b < 2 ^ 31) (h : ¬ (0 ≤ y ∧ y ≤ nI b)) {k : Nat} (hk : k ≤ b) : ¬ y.toInt = (k : Int) := fun z => h (by
  rw [(tinI (k := k) (by omega)).mp z]
  exact ⟨nI_pos' (by omega), nI_le hk hb⟩)
/-- the rank of a seat, by the worths -/
def rkS (W : Nat → Int32) (s : Nat) : Nat → Nat → Nat → Nat
  | 0, _, acc => acc
  | m + 1, k, acc => rkS W s m (k + 1) (if W s < W k ∨ (W k = W s ∧ k < s) then acc + 1 else acc)
section
variable {I : LH → Prop} {σ τ σ' τ' : LH} {S P n0 ne ne' n E eN mm M : Nat} {go ex ex' : Nat → Nat} {who who' : Option Nat} {L : Nat → Nat → Nat → Int32} {ln : Nat → Nat → Nat → Nat} {qn sn : Nat → Nat}
theorem a_likes (hD : Idep I) (hL : LKok I P S L) (X : QX I σ τ S P n0 n E go L ln qn sn mm M) (x y : Int32) : QR I (s_Main_likes x y σ) (s_Model_likes x y τ) σ τ := by
  have X0 := X.z hD
  have hP8 := X.P8
  have hS8 := X.S8
  have eC : s_Main_likes x y σ = if 0 ≤ x ∧ x < nI P then if y = -1 then s_Main_likes_24 x y σ else if 0 ≤ y ∧ y < nI S then s_Main_likes_24 x y σ else some (-1000000, σ) else some (-1000000, σ) := by
    unfold s_Main_likes s_Main_likes_21
    rw [g_isSitter X.hP hP8]
    simp only [xb2, ite10]
    rw [g_isSeat X.hS hS8]
    simp only [xb2, ite10]
  have eM : s_Model_likes x y τ = if 0 ≤ x ∧ x < nI P then if y = -1 then s_Model_likes_26 x y (stI τ 570 0 0) else if 0 ≤ y ∧ y < nI S then s_Model_likes_26 x y (stI τ 570 0 0) else some (-1000000, stI τ 570 0 0) else some (-1000000, stI τ 570 0 0) := by
    unfold s_Model_likes s_Model_likes_39 s_Model_likes_42
    simp only [xl, m_isSitter, m_isSeat, X0.mP, X0.mS, xb2, ite10]
  by_cases q1 : 0 ≤ x ∧ x < nI P
  · rw [if_pos q1] at eC eM
    obtain ⟨p, hp, rfl⟩ := nI_ofx (by omega) q1.1 q1.2
    have fin : plc S y → QR I (s_Main_likes_24 (nI p) y σ) (s_Model_likes_26 (nI p) y (stI τ 570 0 0)) σ τ := by
      intro hy
      have hmE := X.mE
      have hE := X.e100
      obtain ⟨r, r1, r2, r3⟩ := X.1.2.2.2.2.2.2.2.1 mm (by omega)
      obtain ⟨τ', t1, t2, t3⟩ := hL (stI τ 570 0 0) p y mm X0.it hp hy (by omega)
      have ly : plc 8 y := hy.elim Or.inl (fun z => z.elim (fun z => Or.inr (Or.inl z)) (fun ⟨s, h1, h2⟩ => Or.inr (Or.inr ⟨s, by omega, h2⟩)))
      have el : lkx (fun p s => σ.1 34 (r * 64 + p * 8 + s)) p y = lkx (L mm) p y := by
        unfold lkx
        rcases hy with rfl | rfl | ⟨s, hs, rfl⟩
        · rfl
        · rfl
        · rw [if_neg (nI_pos (n := s) (by omega)), if_neg (nI_pos (n := s) (by omega)), nI_clamp (by omega)]
          exact r3 p s hp hs
      refine ⟨lkx (L mm) p y, σ, τ', ?_, ?_, FR.rf, FT.z.tr t2.ft, ⟨X.fin.1, X.fin.2.1, ?_, ?_⟩, t3⟩
      · unfold s_Main_likes_24
        rw [X.cm, l_row (by omega), r2]
        simp only [xb2]
        rw [l_atx r1 (by omega) ly, el]
      · unfold s_Model_likes_26 s_Model_likes_42 s_Model_likesIn
        rw [if_pos (show ib 48 290 by decide), show (stI τ 570 0 0).1 583 (Int32.toNatClampNeg 48) = nI mm from X0.tm, t1]
        rfl
      · rw [t2.fld (by omega)]; exact X0.fin.2.2.1
      · rw [t2.fld (by omega)]; exact X0.fin.2.2.2
    by_cases q2 : y = -1
    · rw [if_pos q2] at eC eM
      rw [eC, eM]
      exact fin (Or.inl q2)
    · rw [if_neg q2] at eC eM
      by_cases q3 : 0 ≤ y ∧ y < nI S
      · rw [if_pos q3] at eC eM
        rw [eC, eM]
        obtain ⟨s, hs, rfl⟩ := nI_ofx (by omega) q3.1 q3.2
        exact fin (Or.inr (Or.inr ⟨s, hs, rfl⟩))
      · rw [if_neg q3] at eC eM
        exact QR.no X hD _ eC eM
  · rw [if_neg q1] at eC eM
    exact QR.no X hD _ eC eM
theorem a_going (hD : Idep I) (X : QX I σ τ S P n0 n E go L ln qn sn mm M) (x y : Int32) : QR I (s_Main_going x y σ) (s_Model_going x y τ) σ τ := by
  have X0 := X.z hD
  have h0 : n0 ≤ 10 := X.1.1.2.2.2.2.2.1
  have c0 : σ.1 4 2 = nI n0 := X.1.1.2.2.2.2.1
  have t0 : (stI τ 570 0 0).1 570 28 = nI n0 := X0.1.2.1.2.2.2.2.1
  have ng : s_Model_going x y τ = some (-1, stI τ 570 0 0) → s_Main_going x y σ = some (-1, σ) → QR I (s_Main_going x y σ) (s_Model_going x y τ) σ τ := fun h h' => QR.no X hD _ h' h
  unfold s_Main_going s_Model_going s_Main_going_21 s_Model_going_42 s_Model_going_43 at ng ⊢
  rw [c0] at ng ⊢
  simp only [xl] at ng ⊢
  rw [t0, m_in02] at ng ⊢
  simp only [xb2, ite10] at ng ⊢
  by_cases q1 : x < 0
  · exact ng (by rw [if_pos q1]) (by rw [if_pos q1])
  by_cases q2 : nI n0 ≤ x
  · exact ng (by rw [if_neg q1, if_pos q2]) (by rw [if_neg q1, if_pos q2])
  obtain ⟨g, hg, rfl⟩ := nI_ofx (n := n0) (x := x) (by omega) (Int32.not_lt.mp q1) (Int32.not_le.mp q2)
  have i10 : ib (nI g) 10 := ib_nI (by omega) (by omega)
  have l10 : nI g < 10 := nI_lt (b := 10) (by omega) (by omega)
  have tc : (nI g).toNatClampNeg = g := nI_clamp (by omega)
  by_cases q3 : 0 ≤ y ∧ y ≤ 2
  · obtain ⟨k, rfl, -, hk⟩ := nI_btw (a := 0) (b := 2) (by omega) (by omega) q3.1 q3.2
    have e3 : 3 * nI g + nI k = nI (3 * g + k) := by
      rw [show (3 : Int32) = nI 3 from rfl, pk_mul, nI_add]
    have ok : ∀ r, some (r, σ) = some (r, σ) → (stI τ 570 0 0).1 579 (3 * g + k) = r → QR I (some (r, σ)) (some ((stI τ 570 0 0).1 579 (3 * g + k), stI τ 570 0 0)) σ τ := fun r _ h => QR.no X hD r rfl (by rw [h])
    simp only [if_neg q1, if_neg q2, if_pos l10, if_pos q3, e3, if_pos i10, tc, if_pos (show ib (nI (3 * g + k)) 30 from ib_nI (by omega) (by omega)), nI_clamp (show 3 * g + k < 2 ^ 31 by omega), nI_toInt (show k < 2 ^ 31 by omega)]
    have e79 : (stI τ 570 0 0).1 579 = τ.1 579 := stI_n (by omega)
    have gl := X.1.2.2.2.1 g hg
    rcases (show k = 0 ∨ k = 1 ∨ k = 2 by omega) with rfl | rfl | rfl
    · rw [if_pos (show ((0 : Nat) : Int) = 0 from rfl)]
      exact ok _ rfl (by rw [e79, (X.1.1.2.2.2.2.2.2.1 g hg).1]; exact (X.1.2.1.2.2.2.2.2.2.1 g hg).1)
    · rw [if_neg (show ¬ ((1 : Nat) : Int) = 0 by decide), if_pos (show ((1 : Nat) : Int) = 1 from rfl)]
      exact ok _ rfl (by rw [e79, gl.1])
    · rw [if_neg (show ¬ ((2 : Nat) : Int) = 0 by decide), if_neg (show ¬ ((2 : Nat) : Int) = 1 by decide), if_pos (show ((2 : Nat) : Int) = 2 from rfl)]
      exact ok _ rfl (by rw [e79, gl.2.1])
  · refine ng (by rw [if_neg q1, if_neg q2, if_neg q3]) ?_
    rw [if_neg q1, if_neg q2, if_pos l10, if_neg (show ¬ y.toInt = 0 from ti_out (b := 2) (k := 0) (by omega) q3 (by omega)), if_neg (show ¬ y.toInt = 1 from ti_out (b := 2) (k := 1) (by omega) q3 (by omega)), if_neg (show ¬ y.toInt = 2 from ti_out (b := 2) (k := 2) (by omega) q3 (by omega))]
theorem a_seat (hD : Idep I) (X : QX I σ τ S P n0 n E go L ln qn sn mm M) (h6 : ∀ s, s < S → σ.1 6 s = τ.1 575 (3 * s + 1)) (x y : Int32) : QR I (s_Main_seat x y σ) (s_Model_seat x y τ) σ τ := by
  have X0 := X.z hD
  have hS8 := X.S8
  have hP8 := X.P8
  have ng : s_Model_seat x y τ = some (-1, stI τ 570 0 0) → s_Main_seat x y σ = some (-1, σ) → QR I (s_Main_seat x y σ) (s_Model_seat x y τ) σ τ := fun h h' => QR.no X hD _ h' h
  unfold s_Main_seat s_Model_seat s_Model_seat_25 s_Model_seat_77 at ng ⊢
  rw [g_isSeat X.hS hS8] at ng ⊢
  simp only [xl] at ng ⊢
  rw [m_isSeat, X0.mS] at ng ⊢
  simp only [xb2, ite10] at ng ⊢
  rw [m_in05] at ng ⊢
  simp only [ite10] at ng ⊢
  rw [m_sitsOn X0.mP hP8] at ng ⊢
  simp only at ng ⊢
  by_cases q1 : 0 ≤ x ∧ x < nI S
  · simp only [if_pos q1] at ng ⊢
    obtain ⟨s, hs, rfl⟩ := nI_ofx (n := S) (x := x) (by omega) q1.1 q1.2
    have i8 : ib (nI s) 8 := ib_nI (by omega) (by omega)
    have tc : (nI s).toNatClampNeg = s := nI_clamp (by omega)
    by_cases q3 : 0 ≤ y ∧ y ≤ 5
    · obtain ⟨k, rfl, -, hk⟩ := nI_btw (a := 0) (b := 5) (by omega) (by omega) q3.1 q3.2
      have e3 : 3 * nI s + nI k = nI (3 * s + k) := by
        rw [show (3 : Int32) = nI 3 from rfl, pk_mul, nI_add]
      have e75 : (stI τ 570 0 0).1 575 = τ.1 575 := stI_n (by omega)
      have e83 : (stI τ 570 0 0).1 583 = τ.1 583 := stI_n (by omega)
      have F := X.1.2.2.1
      have R := X.2.2.1.1
      have ok : ∀ r r' : Int32, r' = r → QR I (some (r, σ)) (some (r', stI τ 570 0 0)) σ τ := fun r r' h => QR.no X hD r rfl (by rw [h])
      have e32 : 4 ≤ k → 32 + 2 * nI s + nI k - 4 = nI (32 + 2 * s + (k - 4)) := fun h4 => by
        rw [show (32 : Int32) = nI 32 from rfl, show (2 : Int32) = nI 2 from rfl, show (4 : Int32) = nI 4 from rfl, pk_mul, nI_add, nI_add, pk_sub (by omega)]
        congr 1
        omega
      simp only [if_pos q3, if_pos i8, tc, nI_toInt (show k < 2 ^ 31 by omega)]
      rcases (show k = 0 ∨ k = 1 ∨ k = 2 ∨ k = 3 ∨ k = 4 ∨ k = 5 by omega) with rfl | rfl | rfl | rfl | rfl | rfl
      · rw [if_pos (show ((0 : Nat) : Int) = 0 from rfl), if_neg (show ¬ (3 : Int32) ≤ nI 0 by decide), e3, if_pos (ib_nI (show 3 * s + 0 < 24 by omega) (by omega)), nI_clamp (show 3 * s + 0 < 2 ^ 31 by omega)]
        exact ok _ _ (by rw [e75]; exact (F.1 s hs).symm)
      · rw [if_neg (show ¬ ((1 : Nat) : Int) = 0 by decide), if_pos (show ((1 : Nat) : Int) = 1 from rfl), if_neg (show ¬ (3 : Int32) ≤ nI 1 by decide), e3, if_pos (ib_nI (show 3 * s + 1 < 24 by omega) (by omega)), nI_clamp (show 3 * s + 1 < 2 ^ 31 by omega)]
        exact ok _ _ (by rw [e75]; exact (h6 s hs).symm)
      · rw [if_neg (show ¬ ((2 : Nat) : Int) = 0 by decide), if_neg (show ¬ ((2 : Nat) : Int) = 1 by decide), if_pos (show ((2 : Nat) : Int) = 2 from rfl), if_neg (show ¬ (3 : Int32) ≤ nI 2 by decide), e3, if_pos (ib_nI (show 3 * s + 2 < 24 by omega) (by omega)), nI_clamp (show 3 * s + 2 < 2 ^ 31 by omega)]
        exact ok _ _ (by rw [e75]; exact (F.2.1 s hs).symm)
      · rw [if_neg (show ¬ ((3 : Nat) : Int) = 0 by decide), if_neg (show ¬ ((3 : Nat) : Int) = 1 by decide), if_neg (show ¬ ((3 : Nat) : Int) = 2 by decide), if_pos (show ((3 : Nat) : Int) = 3 from rfl), if_pos (show (3 : Int32) ≤ nI 3 by decide), if_pos (show nI 3 = (3 : Int32) from rfl)]
        exact ok _ _ (by rw [e83]; exact (R.c5 s hs).so)
      · rw [if_neg (show ¬ ((4 : Nat) : Int) = 0 by decide), if_neg (show ¬ ((4 : Nat) : Int) = 1 by decide), if_neg (show ¬ ((4 : Nat) : Int) = 2 by decide), if_neg (show ¬ ((4 : Nat) : Int) = 3 by decide), if_pos (show ((4 : Nat) : Int) = 4 from rfl), if_pos (show (3 : Int32) ≤ nI 4 by decide), if_neg (show ¬ nI 4 = (3 : Int32) by decide), e32 (by omega), if_pos (ib_nI (show 32 + 2 * s + (4 - 4) < 290 by omega) (by omega)), nI_clamp (show 32 + 2 * s + (4 - 4) < 2 ^ 31 by omega)]
        exact ok _ _ (by rw [e83]; exact (R.c6 s hs).symm)
      · rw [if_neg (show ¬ ((5 : Nat) : Int) = 0 by decide), if_neg (show ¬ ((5 : Nat) : Int) = 1 by decide), if_neg (show ¬ ((5 : Nat) : Int) = 2 by decide), if_neg (show ¬ ((5 : Nat) : Int) = 3 by decide), if_neg (show ¬ ((5 : Nat) : Int) = 4 by decide), if_pos (show ((5 : Nat) : Int) = 5 from rfl), if_pos (show (3 : Int32) ≤ nI 5 by decide), if_neg (show ¬ nI 5 = (3 : Int32) by decide), e32 (by omega), if_pos (ib_nI (show 32 + 2 * s + (5 - 4) < 290 by omega) (by omega)), nI_clamp (show 32 + 2 * s + (5 - 4) < 2 ^ 31 by omega)]
        exact ok _ _ (by rw [e83]; exact (R.c7 s hs).symm)
    · refine ng (by rw [if_neg q3]) ?_
      rw [if_neg (show ¬ y.toInt = 0 from ti_out (b := 5) (k := 0) (by omega) q3 (by omega)), if_neg (show ¬ y.toInt = 1 from ti_out (b := 5) (k := 1) (by omega) q3 (by omega)), if_neg (show ¬ y.toInt = 2 from ti_out (b := 5) (k := 2) (by omega) q3 (by omega)), if_neg (show ¬ y.toInt = 3 from ti_out (b := 5) (k := 3) (by omega) q3 (by omega)), if_neg (show ¬ y.toInt = 4 from ti_out (b := 5) (k := 4) (by omega) q3 (by omega)), if_neg (show ¬ y.toInt = 5 from ti_out (b := 5) (k := 5) (by omega) q3 (by omega))]
  · exact ng (by rw [if_neg q1]) (by rw [if_neg q1])
end
