/-! the model: a minute -/
theorem plc8 {S : Nat} {x : Int32} (hS8 : S ≤ 8) (h : plc S x) : plc 8 x := h.imp id (Or.imp id fun ⟨s, h1, h2⟩ => ⟨s, by omega, h2⟩)
theorem bcR_in {L : Nat → Int32} {P : Nat} {A : Nat → Int32} : ∀ (m k : Nat) (b mo : Int32), plc (k + m) b → plc (k + m) (bcR L P A m k b mo) := by
  intro m
  induction m with
  | zero => intro k b mo h; exact h
  | succ m ih =>
    intro k b mo h
    unfold bcR
    have e : k + (m + 1) = k + 1 + m := by omega
    rw [e] at h ⊢
    split
    · exact ih (k + 1) _ _ (Or.inr (Or.inr ⟨k, by omega, rfl⟩))
    · exact ih (k + 1) _ _ h
theorem AOk.of {S P mm : Nat} {A B : Nat → Int32} (h : AOk S P mm A) (h1 : ∀ p, p < P → B (4 * p) = A (4 * p) ∨ plc S (B (4 * p))) (h2 : B 48 = A 48) (h3 : B 49 = A 49) : AOk S P mm B := by
  obtain ⟨g1, g2, g3⟩ := h
  refine ⟨fun p hp => ?_, h2.trans g2, ?_⟩
  · rcases h1 p hp with q | q
    · rw [q]; exact g1 p hp
    · exact q
  · rw [h3]; exact g3
theorem mRel_o {s j : Nat} {A : Nat → Int32} (h : j < 32 ∨ 48 ≤ j) (hs : s < 8) : mRel s A j = A j := by
  unfold mRel
  rw [pk_un (by omega), pk_un (by omega)]
theorem AOk.rel {S P mm s : Nat} {A : Nat → Int32} (h : AOk S P mm A) (hP8 : P ≤ 8) (hs : s < 8) : AOk S P mm (mRel s A) :=
  h.of (fun p hp => Or.inl (mRel_o (by omega) hs)) (mRel_o (by omega) hs) (mRel_o (by omega) hs)
theorem AOk.up1 {S P mm i : Nat} {v : Int32} {A : Nat → Int32} (h : AOk S P mm A) (hP8 : P ≤ 8) (hi : i < 48) (hv : ∀ p, p < P → i = 4 * p → plc S v) : AOk S P mm (upd A i v) := by
  refine h.of (fun p hp => ?_) (pk_un (by omega)) (pk_un (by omega))
  by_cases q : i = 4 * p
  · refine Or.inr ?_
    rw [← q, pk_us]
    exact hv p hp q
  · exact Or.inl (pk_un (by omega))
theorem AOk.goes {S P mm p : Nat} {d b : Int32} {A : Nat → Int32} (h : AOk S P mm A) (hP8 : P ≤ 8) (hS8 : S ≤ 8) (hp : p < P) : AOk S P mm (mUp p d b A) := by
  have hx := h.1 p hp
  unfold mUp
  split
  · exact (h.up1 hP8 (by omega) (fun _ _ _ => Or.inr (Or.inl rfl))).up1 hP8 (by omega) (fun q _ z => by omega)
  · rename_i q
    rcases hx with e | e | ⟨s, hs, e⟩
    · exact absurd (Or.inl (by rw [e]; decide)) q
    · exact absurd (Or.inl (by rw [e]; decide)) q
    · rw [e, nI_clamp (show s < 2 ^ 31 by omega)]
      exact (((h.up1 hP8 (by omega) (fun _ _ _ => Or.inr (Or.inl rfl))).up1 hP8 (by omega) (fun q _ z => by omega)).up1 hP8 (by omega) (fun q _ z => by omega)).up1 hP8 (by omega) (fun q _ z => by omega)
theorem AOk.back {S P mm p : Nat} {L : Nat → Nat → Int32} {A : Nat → Int32} (h : AOk S P mm A) (hP8 : P ≤ 8) (hS8 : S ≤ 8) (hp : p < P) : AOk S P mm (mBack L S P p A) := by
  have h1 : AOk S P mm (upd A (4 * p + 1) (-1)) := h.up1 hP8 (by omega) (fun q _ z => by omega)
  unfold mBack
  generalize upd A (4 * p + 1) (-1) = B at h1 ⊢
  rcases kfR_in (A := B) (x := nI p) S 0 with q | ⟨j, hj, q, -⟩
  · rw [q, if_pos rfl]
    refine h1.up1 hP8 (by omega) (fun _ _ _ => ?_)
    have := bcR_in (L := L p) (P := P) (A := B) S 0 (-1) 0 (Or.inl rfl)
    rwa [Nat.zero_add] at this
  · rw [q, if_neg (nI_m1 (by omega)), nI_clamp (show j < 2 ^ 31 by omega)]
    exact (h1.rel hP8 (by omega)).up1 hP8 (by omega) (fun _ _ _ => Or.inr (Or.inr ⟨j, by omega, rfl⟩))
theorem AOk.itr {S P mm : Nat} {f : Nat → (Nat → Int32) → Nat → Int32} : ∀ (m k n : Nat), k + m ≤ n → (∀ k A, k < n → AOk S P mm A → AOk S P mm (f k A)) → ∀ A, AOk S P mm A → AOk S P mm (itr f m k A) := by
  intro m
  induction m with
  | zero => intro k n _ _ A h; exact h
  | succ m ih => intro k n hk hf A h; exact ih (k + 1) n (by omega) hf _ (hf k A (by omega) h)
/-- one of the comings of a minute -/
def mBk (L : Nat → Nat → Int32) (S P : Nat) (q : Nat → Int32) (y : Int32) (k : Nat) (A : Nat → Int32) : Nat → Int32 := if (A (4 * k) = -2 ∧ A (4 * k + 1) = A 48) ∧ q k = y then mBack L S P k A else A
def bkO (L : Nat → Nat → Int32) (S P : Nat) (q : Nat → Int32) : Nat → (Nat → Int32) → Nat → Int32
  | 0, A => A
  | n + 1, A => bkO L S P q n (itr (mBk L S P q (nI n)) P 0 A)
theorem AOk.bk {S P mm : Nat} {L : Nat → Nat → Int32} {q : Nat → Int32} {y : Int32} (hP8 : P ≤ 8) (hS8 : S ≤ 8) : ∀ (k : Nat) (A : Nat → Int32), k < P → AOk S P mm A → AOk S P mm (mBk L S P q y k A) := by
  intro k A hk h
  unfold mBk
  split
  · exact h.back hP8 hS8 hk
  · exact h
theorem AOk.bkO {S P mm : Nat} {L : Nat → Nat → Int32} {q : Nat → Int32} (hP8 : P ≤ 8) (hS8 : S ≤ 8) : ∀ (n : Nat) (A : Nat → Int32), AOk S P mm A → AOk S P mm (bkO L S P q n A) := by
  intro n
  induction n with
  | zero => intro A h; exact h
  | succ n ih => intro A h; exact ih _ (AOk.itr P 0 P (by omega) (AOk.bk hP8 hS8) A h)
theorem m_backs_in {I : LH → Prop} {P S mm : Nat} {L : Nat → Nat → Nat → Int32} (hI : Icl I) (hL : LKok I P S L) {τ0 : LH} {a : Nat} {v : Int32} (ha : aW a) (hS : τ0.1 570 26 = nI S) (hP : τ0.1 570 27 = nI P) (hP8 : P ≤ 8) (hS8 : S ≤ 8) (hm1 : mm < 101) {rec3 : Int32 → LH → Option LH} {y : Int32} : ∀ (m n k : Nat) (A : Nat → Int32) (τ : LH), k + m = P → m < n → AOk S P mm A → Mt I τ0 a A v τ → ∃ τ', s_Model_backs_9 a rec3 n y (nI k) τ = rec3 (y + (-1)) τ' ∧ Mt I τ0 a (itr (mBk (L mm) S P (qM τ0) y) m k A) v τ' := by
  intro m
  induction m with
  | zero =>
    intro n k A τ hk hn hA h
    obtain ⟨n, rfl⟩ : ∃ q, n = q + 1 := ⟨n - 1, by omega⟩
    rw [s_Model_backs_9]
    unfold s_Model_backs_9_b
    rw [h.fld ha (by omega) (by omega), hP, if_pos (nI_le (by omega) (by omega))]
    exact ⟨τ, rfl, h⟩
  | succ m ih =>
    intro n k A τ hk hn hA h
    obtain ⟨n, rfl⟩ : ∃ q, n = q + 1 := ⟨n - 1, by omega⟩
    have skip : ∀ (A : Nat → Int32) (τ : LH), AOk S P mm A → Mt I τ0 a A v τ → ∃ τ', s_Model_backs_59 a (s_Model_backs_9 a rec3 n) y (nI k) τ = rec3 (y + (-1)) τ' ∧ Mt I τ0 a (itr (mBk (L mm) S P (qM τ0) y) m (k + 1) A) v τ' := by
      intro A τ h1 h2
      simp only [s_Model_backs_59, xl, Jvm.Pilot.CLostPlacesLaw_law_r3427_12969d.a1]
      exact ih n (k + 1) A τ (by omega) (by omega) h1 h2
    have no : mBk (L mm) S P (qM τ0) y k A = A → ∃ τ', s_Model_backs_59 a (s_Model_backs_9 a rec3 n) y (nI k) τ = rec3 (y + (-1)) τ' ∧ Mt I τ0 a (itr (mBk (L mm) S P (qM τ0) y) (m + 1) k A) v τ' := by
      intro e
      have := skip A τ hA h
      show ∃ τ', _ ∧ Mt I τ0 a (itr (mBk (L mm) S P (qM τ0) y) m (k + 1) (mBk (L mm) S P (qM τ0) y k A)) v τ'
      rw [e]
      exact this
    rw [s_Model_backs_9]
    unfold s_Model_backs_9_b
    rw [h.fld ha (by omega) (by omega), hP, if_neg (nI_ge (by omega) (by omega)), m_isHere (by omega), h.A ha]
    simp only [xb2]
    by_cases q1 : A (4 * k) = -2
    · rw [if_pos q1, if_pos rfl, c4, Jvm.Pilot.CLostPlacesLaw_law_r3427_12969d.a1, if_pos (ib_nI (by omega) (by omega)), if_pos (show ib 48 290 by decide), nI_clamp (show 4 * k + 1 < 2 ^ 31 by omega), if_pos (ib_nI (by omega) (by omega)), h.A ha, h.arr (b := 577) (by rcases ha with rfl | rfl <;> omega) (by omega) (by omega) (by omega)]
      by_cases q2 : A (4 * k + 1) = A 48
      · rw [if_pos (show A (4 * k + 1) = A (Int32.toNatClampNeg 48) from q2)]
        by_cases q3 : τ0.1 577 (4 * k + 1) = y
        · rw [if_pos q3]
          obtain ⟨τ1, e1, h1⟩ := m_comesBack hI hL ha hS hP hP8 hS8 (p := k) (by omega) hA.2.1 hm1 h
          rw [e1]
          simp only [xb1]
          have e : mBk (L mm) S P (qM τ0) y k A = mBack (L mm) S P k A := if_pos ⟨⟨q1, q2⟩, q3⟩
          show ∃ τ', _ ∧ Mt I τ0 a (itr (mBk (L mm) S P (qM τ0) y) m (k + 1) (mBk (L mm) S P (qM τ0) y k A)) v τ'
          rw [e]
          exact skip _ τ1 (hA.back hP8 hS8 (by omega)) h1
        · rw [if_neg q3]
          exact no (if_neg (fun z => q3 z.2))
      · rw [if_neg (show ¬ A (4 * k + 1) = A (Int32.toNatClampNeg 48) from q2)]
        exact no (if_neg (fun z => q2 z.1.2))
    · rw [if_neg q1, if_neg (show ¬ (1 : Int32) = 0 by decide)]
      exact no (if_neg (fun z => q1 z.1.1))
theorem nI_prd {n : Nat} (h : 0 < n) : nI n + (-1) = nI (n - 1) := by
  obtain ⟨k, rfl⟩ : ∃ q, n = q + 1 := ⟨n - 1, by omega⟩
  rw [← nI_1, Int32.add_assoc, show (1 : Int32) + -1 = 0 from rfl, Int32.add_zero]
  rfl
theorem m_backs_loop {I : LH → Prop} {P S mm : Nat} {L : Nat → Nat → Nat → Int32} (hI : Icl I) (hL : LKok I P S L) {τ0 : LH} {a : Nat} {v : Int32} (ha : aW a) (hS : τ0.1 570 26 = nI S) (hP : τ0.1 570 27 = nI P) (hP8 : P ≤ 8) (hS8 : S ≤ 8) (hm1 : mm < 101) : ∀ (m n : Nat) (A : Nat → Int32) (τ : LH), m < n → m ≤ 10 → AOk S P mm A → Mt I τ0 a A v τ → ∃ τ', s_Model_backs_3 a n (nI m + (-1)) τ = some τ' ∧ Mt I τ0 a (bkO (L mm) S P (qM τ0) m A) v τ' := by
  intro m
  induction m with
  | zero =>
    intro n A τ hn _ hA h
    obtain ⟨n, rfl⟩ : ∃ q, n = q + 1 := ⟨n - 1, by omega⟩
    rw [s_Model_backs_3]
    unfold s_Model_backs_3_b
    rw [if_pos (show nI 0 + -1 < 0 by decide)]
    exact ⟨τ, rfl, h⟩
  | succ m ih =>
    intro n A τ hn hm hA h
    obtain ⟨n, rfl⟩ : ∃ q, n = q + 1 := ⟨n - 1, by omega⟩
    rw [s_Model_backs_3]
    unfold s_Model_backs_3_b
    rw [nI_prd (by omega), if_neg (nI_pos (n := m + 1 - 1) (by omega))]
    obtain ⟨τ1, e1, h1⟩ := m_backs_in hI hL ha hS hP hP8 hS8 hm1 (rec3 := s_Model_backs_3 a n) (y := nI m) P FUEL 0 A τ (by omega) (by unfold FUEL; omega) hA h
    rw [nI_0] at e1
    show ∃ τ', s_Model_backs_9 a (s_Model_backs_3 a n) FUEL (nI m) 0 τ = some τ' ∧ _
    rw [e1]
    exact ih n _ τ1 (by omega) (by omega) (AOk.itr P 0 P (by omega) (AOk.bk hP8 hS8) A hA) h1
theorem m_backs {I : LH → Prop} {P S mm : Nat} {L : Nat → Nat → Nat → Int32} (hI : Icl I) (hL : LKok I P S L) {τ0 : LH} {a : Nat} {v : Int32} (ha : aW a) (hS : τ0.1 570 26 = nI S) (hP : τ0.1 570 27 = nI P) (hP8 : P ≤ 8) (hS8 : S ≤ 8) (hm1 : mm < 101) {A : Nat → Int32} {τ : LH} (hA : AOk S P mm A) (h : Mt I τ0 a A v τ) : ∃ τ', s_Model_backs a τ = some τ' ∧ Mt I τ0 a (bkO (L mm) S P (qM τ0) 10 A) v τ' :=
  m_backs_loop hI hL ha hS hP hP8 hS8 hm1 10 FUEL A τ (by unfold FUEL; omega) (by omega) hA h
