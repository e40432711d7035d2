/-! the model: half a minute, a minute -/
/-- what is fixed of the world that is gone through -/
def MGo (τ : LH) (S P n0 ne : Nat) (go ex : Nat → Nat) : Prop := τ.1 570 26 = nI S ∧ S ≤ 8 ∧ τ.1 570 27 = nI P ∧ P ≤ 8 ∧ τ.1 570 28 = nI n0 ∧ n0 ≤ 10 ∧ (∀ g, g < n0 → τ.1 579 (3 * g) = nI (go g) ∧ go g < P) ∧ τ.1 570 40 = nI ne ∧ ne ≤ 8 ∧ (∀ e, e < ne → τ.1 587 e = nI (ex e) ∧ ex e < P) ∧ MRng τ S P
def mGo1 (p : Nat) (d : Int32) (A : Nat → Int32) : Nat → Int32 := if A (4 * p) = -2 then A else mUp p d 1 A
def mRl (y : Int32) (k : Nat) (A : Nat → Int32) : Nat → Int32 := if A (32 + 2 * k + 1) = y then mRel k A else A
def mOut (τ : LH) (go : Nat → Nat) (y : Int32) (g : Nat) (A : Nat → Int32) : Nat → Int32 := if ((τ.1 570 39 >>> (nI g &&& 31)) &&& 1) = 1 ∧ τ.1 579 (3 * g + 1) = y then mGo1 (go g) (τ.1 579 (3 * g + 2)) A else A
def mEx (τ : LH) (ex : Nat → Nat) (y : Int32) (e : Nat) (A : Nat → Int32) : Nat → Int32 := if τ.1 588 e = y then mGo1 (ex e) (τ.1 589 e) A else A
theorem AOk.go1 {S P mm p : Nat} {d : Int32} {A : Nat → Int32} (h : AOk S P mm A) (hP8 : P ≤ 8) (hS8 : S ≤ 8) (hp : p < P) : AOk S P mm (mGo1 p d A) := by
  unfold mGo1
  split
  · exact h
  · exact h.goes hP8 hS8 hp
theorem AOk.rl {S P mm : Nat} {y : Int32} (hP8 : P ≤ 8) (hS8 : S ≤ 8) : ∀ (k : Nat) (A : Nat → Int32), k < S → AOk S P mm A → AOk S P mm (mRl y k A) := by
  intro k A hk h
  unfold mRl
  split
  · exact h.rel hP8 (by omega)
  · exact h
theorem AOk.out {S P mm n0 : Nat} {τ : LH} {go : Nat → Nat} {y : Int32} (hP8 : P ≤ 8) (hS8 : S ≤ 8) (hgo : ∀ g, g < n0 → τ.1 579 (3 * g) = nI (go g) ∧ go g < P) : ∀ (k : Nat) (A : Nat → Int32), k < n0 → AOk S P mm A → AOk S P mm (mOut τ go y k A) := by
  intro k A hk h
  unfold mOut
  split
  · exact h.go1 hP8 hS8 (hgo k hk).2
  · exact h
theorem AOk.ex {S P mm ne : Nat} {τ : LH} {ex : Nat → Nat} {y : Int32} (hP8 : P ≤ 8) (hS8 : S ≤ 8) (hex : ∀ e, e < ne → τ.1 587 e = nI (ex e) ∧ ex e < P) : ∀ (k : Nat) (A : Nat → Int32), k < ne → AOk S P mm A → AOk S P mm (mEx τ ex y k A) := by
  intro k A hk h
  unfold mEx
  split
  · exact h.go1 hP8 hS8 (hex k hk).2
  · exact h
/-- one who goes, in a world -/
theorem m_goes1 {I : LH → Prop} (hI : Icl I) {τ0 : LH} {a S P mm : Nat} {A : Nat → Int32} {v : Int32} {τ : LH} (ha : aW a) (hS8 : S ≤ 8) (hP8 : P ≤ 8) {p : Nat} {d : Int32} (hp : p < P) (hA : AOk S P mm A) (h : Mt I τ0 a A v τ) (hq : A (4 * p) ≠ -2) : s_Model_goesUp a (nI p) d 1 τ = some (stF τ a (mGo1 p d A)) ∧ Mt I τ0 a (mGo1 p d A) v (stF τ a (mGo1 p d A)) := by
  refine ⟨?_, h.to hI ha⟩
  unfold mGo1
  rw [if_neg hq]
  conv => lhs; rw [← h.F ha]
  exact m_goesUp (by omega) (plc8 hS8 (hA.1 p hp))
theorem m_half_ex {I : LH → Prop} {P S n0 ne mm M : Nat} {go ex : Nat → Nat} {L : Nat → Nat → Nat → Int32} (hI : Icl I) (hL : LKok I P S L) {τ0 : LH} {a : Nat} (ha : aW a) (G : MGo τ0 S P n0 ne go ex) (hm1 : mm < 101) (hM : M < 10000) {A2 : Nat → Int32} {v v2 : Int32} {y : Int32} : ∀ (m n k : Nat) (A : Nat → Int32) (τ : LH), k + m = ne → m < n → AOk S P mm A → Mt I τ0 a A v τ → muA (pickM (L mm) τ0 S P) M (bkO (L mm) S P (qM τ0) 10 (itr (mEx τ0 ex y) m k A)) v = some (A2, v2) → ∃ τ', s_Model_halfMinute_123 a n y (nI k) τ = some τ' ∧ Mt I τ0 a A2 v2 τ' := by
  obtain ⟨hS, hS8, hP, hP8, hG, hG10, hgo, hE, hE8, hex, hR⟩ := G
  intro m
  induction m with
  | zero =>
    intro n k A τ hk hn hA h hmu
    obtain ⟨n, rfl⟩ : ∃ q, n = q + 1 := ⟨n - 1, by omega⟩
    rw [s_Model_halfMinute_123]
    unfold s_Model_halfMinute_123_b
    rw [h.fld ha (by omega) (by omega), hE, if_pos (nI_le (by omega) (by omega))]
    obtain ⟨τ1, e1, h1⟩ := m_backs hI hL ha hS hP hP8 hS8 hm1 hA h
    rw [e1]
    simp only [xb1]
    obtain ⟨τ2, e2, h2⟩ := m_movesUp hI hL ha hS hP hP8 hS8 hR hm1 hmu hM (AOk.bkO hP8 hS8 10 A hA) h1
    rw [e2]
    exact ⟨τ2, rfl, h2⟩
  | succ m ih =>
    intro n k A τ hk hn hA h hmu
    obtain ⟨n, rfl⟩ : ∃ q, n = q + 1 := ⟨n - 1, by omega⟩
    have skip : ∀ (A : Nat → Int32) (τ : LH), AOk S P mm A → Mt I τ0 a A v τ → muA (pickM (L mm) τ0 S P) M (bkO (L mm) S P (qM τ0) 10 (itr (mEx τ0 ex y) m (k + 1) A)) v = some (A2, v2) → ∃ τ', s_Model_halfMinute_172 a (s_Model_halfMinute_123 a n) y (nI k) τ = some τ' ∧ Mt I τ0 a A2 v2 τ' := by
      intro A τ h1 h2 h3
      simp only [s_Model_halfMinute_172, xl, Jvm.Pilot.CLostPlacesLaw_law_r3427_12969d.a1]
      exact ih n (k + 1) A τ (by omega) (by omega) h1 h2 h3
    obtain ⟨x1, x2⟩ := hex k (by omega)
    have cl : (nI k).toNatClampNeg = k := nI_clamp (by omega)
    have i8 : ib (nI k) 8 := ib_nI (by omega) (by omega)
    have n7 : ∀ {b : Nat}, b = 587 ∨ b = 588 ∨ b = 589 → τ.1 b = τ0.1 b := by
      intro b hb
      exact h.arr (by rcases ha with rfl | rfl <;> omega) (by omega) (by omega) (by omega)
    have hmu : muA (pickM (L mm) τ0 S P) M (bkO (L mm) S P (qM τ0) 10 (itr (mEx τ0 ex y) m (k + 1) (mEx τ0 ex y k A))) v = some (A2, v2) := hmu
    rw [s_Model_halfMinute_123]
    unfold s_Model_halfMinute_123_b
    simp only [if_pos i8, cl]
    rw [h.fld ha (by omega) (by omega), hE, if_neg (nI_ge (by omega) (by omega)), n7 (b := 588) (by omega), n7 (b := 587) (by omega), x1, m_isHere (by omega)]
    by_cases q1 : τ0.1 588 k = y
    · rw [if_pos q1]
      unfold mEx at hmu
      rw [if_pos q1] at hmu
      simp only [xb2]
      rw [h.A ha]
      by_cases q2 : A (4 * ex k) = -2
      · rw [if_pos q2, if_pos rfl]
        rw [show mGo1 (ex k) (τ0.1 589 k) A = A from if_pos q2] at hmu
        exact skip A τ hA h hmu
      · rw [if_neg q2, if_neg (show ¬ (1 : Int32) = 0 by decide), n7 (b := 589) (by omega), n7 (b := 587) (by omega), x1]
        obtain ⟨e1, h1⟩ := m_goes1 hI ha hS8 hP8 (d := τ0.1 589 k) x2 hA h q2
        rw [e1]
        simp only [xb1]
        exact skip _ _ (hA.go1 hP8 hS8 x2) h1 hmu
    · rw [if_neg q1]
      unfold mEx at hmu
      rw [if_neg q1] at hmu
      exact skip A τ hA h hmu
theorem m_half_out {I : LH → Prop} {P S n0 ne mm M : Nat} {go ex : Nat → Nat} {L : Nat → Nat → Nat → Int32} (hI : Icl I) (hL : LKok I P S L) {τ0 : LH} {a : Nat} (ha : aW a) (G : MGo τ0 S P n0 ne go ex) (hm1 : mm < 101) (hM : M < 10000) {A2 : Nat → Int32} {v v2 : Int32} {y : Int32} : ∀ (m n k : Nat) (A : Nat → Int32) (τ : LH), k + m = n0 → m < n → AOk S P mm A → Mt I τ0 a A v τ → muA (pickM (L mm) τ0 S P) M (bkO (L mm) S P (qM τ0) 10 (itr (mEx τ0 ex y) ne 0 (itr (mOut τ0 go y) m k A))) v = some (A2, v2) → ∃ τ', s_Model_halfMinute_43 a n y (nI k) τ = some τ' ∧ Mt I τ0 a A2 v2 τ' := by
  have G0 := G
  obtain ⟨hS, hS8, hP, hP8, hG, hG10, hgo, hE, hE8, hex, hR⟩ := G
  intro m
  induction m with
  | zero =>
    intro n k A τ hk hn hA h hmu
    obtain ⟨n, rfl⟩ : ∃ q, n = q + 1 := ⟨n - 1, by omega⟩
    rw [s_Model_halfMinute_43]
    unfold s_Model_halfMinute_43_b
    rw [h.fld ha (by omega) (by omega), hG, if_pos (nI_le (by omega) (by omega))]
    have := m_half_ex (y := y) hI hL ha G0 hm1 hM ne FUEL 0 A τ (by omega) (by unfold FUEL; omega) hA h hmu
    rw [nI_0] at this
    exact this
  | succ m ih =>
    intro n k A τ hk hn hA h hmu
    obtain ⟨n, rfl⟩ : ∃ q, n = q + 1 := ⟨n - 1, by omega⟩
    have skip : ∀ (A : Nat → Int32) (τ : LH), AOk S P mm A → Mt I τ0 a A v τ → muA (pickM (L mm) τ0 S P) M (bkO (L mm) S P (qM τ0) 10 (itr (mEx τ0 ex y) ne 0 (itr (mOut τ0 go y) m (k + 1) A))) v = some (A2, v2) → ∃ τ', s_Model_halfMinute_115 a (s_Model_halfMinute_43 a n) y (nI k) τ = some τ' ∧ Mt I τ0 a A2 v2 τ' := by
      intro A τ h1 h2 h3
      simp only [s_Model_halfMinute_115, xl, Jvm.Pilot.CLostPlacesLaw_law_r3427_12969d.a1]
      exact ih n (k + 1) A τ (by omega) (by omega) h1 h2 h3
    obtain ⟨x1, x2⟩ := hgo k (by omega)
    have n9 : τ.1 579 = τ0.1 579 := h.arr (by rcases ha with rfl | rfl <;> omega) (by omega) (by omega) (by omega)
    have hmu : muA (pickM (L mm) τ0 S P) M (bkO (L mm) S P (qM τ0) 10 (itr (mEx τ0 ex y) ne 0 (itr (mOut τ0 go y) m (k + 1) (mOut τ0 go y k A)))) v = some (A2, v2) := hmu
    rw [s_Model_halfMinute_43]
    unfold s_Model_halfMinute_43_b
    rw [h.fld ha (by omega) (by omega), hG, if_neg (nI_ge (by omega) (by omega)), h.fld ha (by omega) (by omega), m_has]
    simp only [xb2]
    by_cases q0 : ((τ0.1 570 39 >>> (nI k &&& 31)) &&& 1) = 1
    · rw [if_pos q0, if_neg (show ¬ (1 : Int32) = 0 by decide), c3, Jvm.Pilot.CLostPlacesLaw_law_r3427_12969d.a1, a2, if_pos (ib_nI (by omega) (by omega)), if_pos (ib_nI (by omega) (by omega)), nI_clamp (show 3 * k + 1 < 2 ^ 31 by omega), nI_clamp (show 3 * k < 2 ^ 31 by omega), nI_clamp (show 3 * k + 2 < 2 ^ 31 by omega), n9]
      by_cases q1 : τ0.1 579 (3 * k + 1) = y
      · rw [if_pos q1]
        unfold mOut at hmu
        rw [if_pos ⟨q0, q1⟩] at hmu
        rw [x1, m_isHere (by omega)]
        simp only
        rw [h.A ha]
        by_cases q2 : A (4 * go k) = -2
        · rw [if_pos q2, if_pos rfl]
          rw [show mGo1 (go k) (τ0.1 579 (3 * k + 2)) A = A from if_pos q2] at hmu
          exact skip A τ hA h hmu
        · rw [if_neg q2, if_neg (show ¬ (1 : Int32) = 0 by decide), if_pos (ib_nI (by omega) (by omega)), if_pos (ib_nI (by omega) (by omega)), n9, x1]
          obtain ⟨e1, h1⟩ := m_goes1 hI ha hS8 hP8 (d := τ0.1 579 (3 * k + 2)) x2 hA h q2
          rw [e1]
          simp only [xb1]
          exact skip _ _ (hA.go1 hP8 hS8 x2) h1 hmu
      · rw [if_neg q1]
        unfold mOut at hmu
        rw [if_neg (fun z => q1 z.2)] at hmu
        exact skip A τ hA h hmu
    · rw [if_neg q0, if_pos rfl]
      unfold mOut at hmu
      rw [if_neg (fun z => q0 z.1)] at hmu
      exact skip A τ hA h hmu
def mHalf (L : Nat → Nat → Int32) (τ0 : LH) (S P n0 ne : Nat) (go ex : Nat → Nat) (y : Int32) (A : Nat → Int32) : Nat → Int32 := bkO L S P (qM τ0) 10 (itr (mEx τ0 ex y) ne 0 (itr (mOut τ0 go y) n0 0 (itr (mRl y) S 0 A)))
theorem m_half_rl {I : LH → Prop} {P S n0 ne mm M : Nat} {go ex : Nat → Nat} {L : Nat → Nat → Nat → Int32} (hI : Icl I) (hL : LKok I P S L) {τ0 : LH} {a : Nat} (ha : aW a) (G : MGo τ0 S P n0 ne go ex) (hm1 : mm < 101) (hM : M < 10000) {A2 : Nat → Int32} {v v2 : Int32} {y : Int32} : ∀ (m n k : Nat) (A : Nat → Int32) (τ : LH), k + m = S → m < n → AOk S P mm A → Mt I τ0 a A v τ → muA (pickM (L mm) τ0 S P) M (bkO (L mm) S P (qM τ0) 10 (itr (mEx τ0 ex y) ne 0 (itr (mOut τ0 go y) n0 0 (itr (mRl y) m k A)))) v = some (A2, v2) → ∃ τ', s_Model_halfMinute_7 a n y (nI k) τ = some τ' ∧ Mt I τ0 a A2 v2 τ' := by
  have G0 := G
  obtain ⟨hS, hS8, hP, hP8, hG, hG10, hgo, hE, hE8, hex, hR⟩ := G
  intro m
  induction m with
  | zero =>
    intro n k A τ hk hn hA h hmu
    obtain ⟨n, rfl⟩ : ∃ q, n = q + 1 := ⟨n - 1, by omega⟩
    rw [s_Model_halfMinute_7]
    unfold s_Model_halfMinute_7_b
    rw [h.fld ha (by omega) (by omega), hS, if_pos (nI_le (by omega) (by omega))]
    have := m_half_out (y := y) hI hL ha G0 hm1 hM n0 FUEL 0 A τ (by omega) (by unfold FUEL; omega) hA h hmu
    rw [nI_0] at this
    exact this
  | succ m ih =>
    intro n k A τ hk hn hA h hmu
    obtain ⟨n, rfl⟩ : ∃ q, n = q + 1 := ⟨n - 1, by omega⟩
    have skip : ∀ (A : Nat → Int32) (τ : LH), AOk S P mm A → Mt I τ0 a A v τ → muA (pickM (L mm) τ0 S P) M (bkO (L mm) S P (qM τ0) 10 (itr (mEx τ0 ex y) ne 0 (itr (mOut τ0 go y) n0 0 (itr (mRl y) m (k + 1) A)))) v = some (A2, v2) → ∃ τ', s_Model_halfMinute_35 a (s_Model_halfMinute_7 a n) y (nI k) τ = some τ' ∧ Mt I τ0 a A2 v2 τ' := by
      intro A τ h1 h2 h3
      simp only [s_Model_halfMinute_35, xl, Jvm.Pilot.CLostPlacesLaw_law_r3427_12969d.a1]
      exact ih n (k + 1) A τ (by omega) (by omega) h1 h2 h3
    have hmu : muA (pickM (L mm) τ0 S P) M (bkO (L mm) S P (qM τ0) 10 (itr (mEx τ0 ex y) ne 0 (itr (mOut τ0 go y) n0 0 (itr (mRl y) m (k + 1) (mRl y k A))))) v = some (A2, v2) := hmu
    rw [s_Model_halfMinute_7]
    unfold s_Model_halfMinute_7_b
    rw [h.fld ha (by omega) (by omega), hS, if_neg (nI_ge (by omega) (by omega)), c2, c32, Jvm.Pilot.CLostPlacesLaw_law_r3427_12969d.a1, if_pos (ib_nI (by omega) (by omega)), nI_clamp (show 32 + 2 * k + 1 < 2 ^ 31 by omega), h.A ha]
    unfold mRl at hmu
    by_cases q1 : A (32 + 2 * k + 1) = y
    · rw [if_pos q1]
      rw [if_pos q1] at hmu
      have e2 : s_Model_frees a (nI k) τ = some (stF τ a (mRel k A)) := by
        conv => lhs; rw [← h.F ha]
        exact m_frees (by omega)
      rw [e2]
      simp only [xb1]
      exact skip _ _ (hA.rel hP8 (by omega)) (h.to hI ha) hmu
    · rw [if_neg q1]
      rw [if_neg q1] at hmu
      exact skip A τ hA h hmu
theorem m_halfMinute {I : LH → Prop} {P S n0 ne mm M : Nat} {go ex : Nat → Nat} {L : Nat → Nat → Nat → Int32} (hI : Icl I) (hL : LKok I P S L) {τ0 : LH} {a : Nat} (ha : aW a) (G : MGo τ0 S P n0 ne go ex) (hm1 : mm < 101) (hM : M < 10000) {A A2 : Nat → Int32} {v v2 : Int32} {τ : LH} (hA : AOk S P mm A) (h : Mt I τ0 a A v τ) (hmu : muA (pickM (L mm) τ0 S P) M (mHalf (L mm) τ0 S P n0 ne go ex (A 48) A) v = some (A2, v2)) : ∃ τ', s_Model_halfMinute a τ = some τ' ∧ Mt I τ0 a A2 v2 τ' := by
  unfold s_Model_halfMinute
  rw [if_pos (show ib 48 290 by decide), h.A ha]
  simp only [xl]
  have := m_half_rl (y := A 48) hI hL ha G hm1 hM S FUEL 0 A τ (by omega) (by unfold FUEL; have := G.2.1; omega) hA h hmu
  rw [nI_0] at this
  exact this
