/-! the model: who moves, the moves -/
theorem d_nn {a b : Nat} (ha : a < 2 ^ 30) (hb : b < 2 ^ 30) : (0 ≤ nI a - nI b) ↔ b ≤ a := by
  rw [Int32.le_iff_toInt_le, pk_sub_toInt ha hb, show Int32.toInt 0 = 0 from rfl]
  omega
theorem d_z {a b : Nat} (ha : a < 2 ^ 30) (hb : b < 2 ^ 30) : (nI a - nI b = 0) ↔ a = b := by
  constructor
  · intro h
    have h1 := congrArg Int32.toInt h
    rw [pk_sub_toInt ha hb, show Int32.toInt 0 = 0 from rfl] at h1
    omega
  · intro h
    rw [h, Int32.sub_self]
/-- small numbers -/
def sml (f : Nat → Int32) (n : Nat) : Prop := ∀ k, k < n → ∃ j, j < 100 ∧ f k = nI j
theorem way_n {st : Nat → Int32} {S s : Nat} {x : Int32} (hst : sml st S) (hs : s < S) (hS8 : S ≤ 8) (hx : plc S x) : ∃ f, f < 100 ∧ wayF st s x = nI f := by
  unfold wayF
  by_cases q : x < 0
  · rw [if_pos q]
    exact ⟨99, by omega, rfl⟩
  · rw [if_neg q]
    rcases hx with rfl | rfl | ⟨j, hj, rfl⟩
    · exact absurd (by decide) q
    · exact absurd (by decide) q
    · rw [nI_clamp (show j < 2 ^ 31 by omega)]
      obtain ⟨u, hu, eu⟩ := hst s hs
      obtain ⟨w, hw, ew⟩ := hst j hj
      rw [eu, ew]
      by_cases q2 : w ≤ u
      · rw [if_pos ((d_nn (by omega) (by omega)).mpr q2), pk_sub q2]
        exact ⟨u - w, by omega, rfl⟩
      · rw [if_neg (fun z => q2 ((d_nn (by omega) (by omega)).mp z)), Int32.neg_sub, pk_sub (by omega)]
        exact ⟨w - u, by omega, rfl⟩
theorem m_far {τ : LH} {a p s S : Nat} (hp : p < 8) (hs : s < S) (hS8 : S ≤ 8) (hx : plc S (τ.1 a (4 * p))) (hst : sml (fun s => τ.1 575 (3 * s + 2)) S) : s_Model_farFrom a (nI p) (nI s) τ = some (wayF (fun s => τ.1 575 (3 * s + 2)) s (τ.1 a (4 * p)), τ) := by
  have hx8 : plc 8 (τ.1 a (4 * p)) := hx.elim Or.inl (fun z => Or.inr (z.elim Or.inl (fun ⟨j, h1, h2⟩ => Or.inr ⟨j, by omega, h2⟩)))
  rw [m_farFrom hp (by omega) hx8]
  unfold wayF
  by_cases q : τ.1 a (4 * p) < 0
  · rw [if_pos q, if_pos q]
  · rw [if_neg q, if_neg q]
    rcases hx with h | h | ⟨j, hj, h⟩
    · rw [h] at q; exact absurd (by decide) q
    · rw [h] at q; exact absurd (by decide) q
    · rw [h, nI_clamp (show j < 2 ^ 31 by omega)]
      obtain ⟨u, hu, eu⟩ := hst s hs
      obtain ⟨w, hw, ew⟩ := hst j hj
      simp only at eu ew
      simp only [eu, ew]
      by_cases q2 : w ≤ u
      · rw [if_pos ((d_nn (by omega) (by omega)).mpr q2)]
        by_cases q3 : u = w
        · rw [q3, if_pos ((d_nn (by omega) (by omega)).mpr (Nat.le_refl _))]
        · rw [if_neg (fun z => by have := (d_nn (by omega) (by omega)).mp z; omega), Int32.zero_sub, Int32.neg_sub]
      · rw [if_neg (fun z => q2 ((d_nn (by omega) (by omega)).mp z)), if_pos ((d_nn (by omega) (by omega)).mpr (by omega)), Int32.neg_sub]
/-- the likings, quicknesses .. that the model's moves go by -/
abbrev qM (τ : LH) : Nat → Int32 := fun p => τ.1 577 (4 * p + 1)
abbrev sM (τ : LH) : Nat → Int32 := fun p => τ.1 577 (4 * p + 2)
abbrev xM2 (τ : LH) : Nat → Int32 := fun s => τ.1 575 (3 * s + 2)
abbrev wM (τ : LH) : Nat → Int32 := fun s => τ.1 575 (3 * s)
def wayT (st : Nat → Int32) (s : Nat) (w : Wd) (t : Option Nat) (way : Int32) : Prop := ∀ j, t = some j → way = wayF st s (w 1 j)
/-- what is fixed and how large it is -/
def MRng (τ : LH) (S P : Nat) : Prop := sml (qM τ) P ∧ sml (xM2 τ) S
theorem m_moverTo_loop {I : LH → Prop} {P S mm : Nat} {L : Nat → Nat → Nat → Int32} (hL : LKok I P S L) {τ0 : LH} {a : Nat} {A : Nat → Int32} {v : Int32} (ha : aW a) {s : Nat} (hP : τ0.1 570 27 = nI P) (hP8 : P ≤ 8) (hS8 : S ≤ 8) (hR : MRng τ0 S P) (hs : s < S) (hw : ∀ p, p < P → plc S (A (4 * p))) (hm : A 48 = nI mm) (hm1 : mm < 101) : ∀ (m n k : Nat) (t : Option Nat) (way : Int32) (τ : LH), k + m = P → m < n → (∀ j, t = some j → j < k) → wayT (xM2 τ0) s (vw P A) t way → Mt I τ0 a A v τ → ∃ τ', s_Model_moverTo_5 a (nI s) n (oI t) (nI k) τ = some (oI (tkR (L mm) (qM τ0) (sM τ0) (xM2 τ0) s (vw P A) m k t way), τ') ∧ Mt I τ0 a A v τ' := by
  have hb : ∀ {b : Nat}, b ≠ 583 → b ≠ 584 → b ≠ a := by intro b h1 h2; rcases ha with rfl | rfl <;> assumption
  intro m
  induction m with
  | zero =>
    intro n k t way τ hk hn ht hwy h
    obtain ⟨n, rfl⟩ : ∃ q, n = q + 1 := ⟨n - 1, by omega⟩
    simp only [s_Model_moverTo_5, s_Model_moverTo_5_b]
    rw [h.fld ha (by omega) (by omega), hP, if_pos (nI_le (by omega) (by omega))]
    exact ⟨τ, rfl, h⟩
  | succ m ih =>
    intro n k t way τ hk hn ht hwy h
    obtain ⟨n, rfl⟩ : ∃ q, n = q + 1 := ⟨n - 1, by omega⟩
    have skip : ∀ (t2 : Option Nat) (way2 : Int32) (τ : LH), (∀ j, t2 = some j → j < k + 1) → wayT (xM2 τ0) s (vw P A) t2 way2 → Mt I τ0 a A v τ → ∃ τ', s_Model_moverTo_97 a (nI s) (s_Model_moverTo_5 a (nI s) n) (oI t2) (nI k) τ = some (oI (tkR (L mm) (qM τ0) (sM τ0) (xM2 τ0) s (vw P A) m (k + 1) t2 way2), τ') ∧ Mt I τ0 a A v τ' := by
      intro t2 way2 τ h1 h2 h3
      simp only [s_Model_moverTo_97, xl, a1]
      exact ih n (k + 1) t2 way2 τ (by omega) (by omega) h1 h2 h3
    have ht' : ∀ j, t = some j → j < k + 1 := fun j hj => by have := ht j hj; omega
    simp only [s_Model_moverTo_5, s_Model_moverTo_5_b]
    rw [h.fld ha (by omega) (by omega), hP, if_neg (nI_ge (by omega) (by omega))]
    obtain ⟨τ1, e1, h1⟩ := m_wouldMove hL h ha hP8 hS8 (show k < P by omega) hs hw hm hm1
    rw [e1]
    simp only [xb2]
    unfold tkR
    have ev : vw P A 1 k = A (4 * k) := rfl
    rw [ev]
    by_cases q1 : A (4 * k) = -2 ∨ ¬ sM τ0 k ≤ L mm k s - lkx (L mm) k (A (4 * k))
    · rw [if_pos q1, if_pos rfl, if_pos q1]
      exact skip t way τ1 ht' hwy h1
    · rw [if_neg q1, if_neg (show ¬ (1 : Int32) = 0 by decide), if_neg q1]
      have take : ∀ (z : Int32) (τ : LH), Mt I τ0 a A v τ → z < 0 → ∃ τ', s_Model_moverTo_89 a (nI s) (s_Model_moverTo_5 a (nI s) n) (oI t) (nI k) z τ = some (oI (tkR (L mm) (qM τ0) (sM τ0) (xM2 τ0) s (vw P A) m (k + 1) (some k) (wayF (xM2 τ0) s (A (4 * k)))), τ') ∧ Mt I τ0 a A v τ' := by
        intro z τ h3 hz
        unfold s_Model_moverTo_89
        rw [if_neg (Int32.not_le.mpr hz)]
        exact skip (some k) _ τ (fun j hj => by cases hj; omega) (fun j hj => by cases hj; rfl) h3
      have keep : ∀ (z : Int32) (τ : LH), Mt I τ0 a A v τ → 0 ≤ z → ∃ τ', s_Model_moverTo_89 a (nI s) (s_Model_moverTo_5 a (nI s) n) (oI t) (nI k) z τ = some (oI (tkR (L mm) (qM τ0) (sM τ0) (xM2 τ0) s (vw P A) m (k + 1) t way), τ') ∧ Mt I τ0 a A v τ' := by
        intro z τ h3 hz
        unfold s_Model_moverTo_89
        rw [if_pos hz]
        exact skip t way τ ht' hwy h3
      cases t with
      | none =>
        rw [if_pos (show oI none = -1 from rfl), if_pos (show tkb (qM τ0) none way (wayF (xM2 τ0) s (A (4 * k))) k = true from rfl)]
        unfold s_Model_moverTo_59
        rw [if_pos (show oI none = -1 from rfl)]
        exact take (-1) τ1 h1 (by decide)
      | some j =>
        have hj := ht j rfl
        rw [if_neg (show ¬ oI (some j) = -1 from nI_m1 (by omega)), show oI (some j) = nI j from rfl, c4, c4, a1, a1, if_pos (ib_nI (by omega) (by omega)), if_pos (ib_nI (by omega) (by omega)), nI_clamp (by omega), nI_clamp (by omega), h1.arr (hb (by omega) (by omega)) (by omega) (by omega) (by omega)]
        obtain ⟨u, hu, eu⟩ := hR.1 j (by omega)
        obtain ⟨w, hw2, ew⟩ := hR.1 k (by omega)
        have eu' : τ0.1 577 (4 * j + 1) = nI u := eu
        have ew' : τ0.1 577 (4 * k + 1) = nI w := ew
        rw [eu', ew']
        unfold s_Model_moverTo_59
        rw [if_neg (show ¬ nI j = -1 from nI_m1 (by omega))]
        have hway : way = wayF (xM2 τ0) s (A (4 * j)) := hwy j rfl
        have tkbe : tkb (qM τ0) (some j) way (wayF (xM2 τ0) s (A (4 * k))) k = true ↔ (u < w ∨ (w = u ∧ wayF (xM2 τ0) s (A (4 * k)) < way)) := by
          unfold tkb
          simp only [decide_eq_true_eq]
          rw [eu, ew, nI_ltI (by omega) (by omega), nI_eq (by omega) (by omega)]
        by_cases q2 : u = w
        · rw [if_pos ((d_z (by omega) (by omega)).mpr q2)]
          have e575 : ∀ {τ : LH}, Mt I τ0 a A v τ → (fun s => τ.1 575 (3 * s + 2)) = xM2 τ0 := fun h => by rw [h.arr (hb (by omega) (by omega)) (by omega) (by omega) (by omega)]
          have f1 := m_far (τ := τ1) (a := a) (p := k) (s := s) (S := S) (by omega) hs hS8 (by rw [h1.A ha]; exact hw k (by omega)) (by rw [e575 h1]; exact hR.2)
          have f2 := m_far (τ := τ1) (a := a) (p := j) (s := s) (S := S) (by omega) hs hS8 (by rw [h1.A ha]; exact hw j (by omega)) (by rw [e575 h1]; exact hR.2)
          rw [e575 h1, h1.A ha] at f1 f2
          rw [f1]
          simp only [xb2]
          rw [f2]
          simp only [xl]
          obtain ⟨f, hf, ef⟩ := way_n hR.2 hs hS8 (hw k (by omega))
          obtain ⟨g, hg, eg⟩ := way_n hR.2 hs hS8 (hw j (by omega))
          rw [ef, eg]
          rw [ef, hway, eg] at tkbe
          by_cases q3 : g ≤ f
          · rw [← ef, hway, eg, if_neg (by rw [ef, tkbe, nI_ltI (by omega) (by omega)]; omega), ← eg, ← hway, ef]
            exact keep _ τ1 h1 (by rw [hway, eg]; exact (d_nn (by omega) (by omega)).mpr q3)
          · rw [← ef, hway, eg, if_pos (by rw [ef, tkbe, nI_ltI (by omega) (by omega)]; omega), ef]
            have := take (nI f - nI g) τ1 h1 (Int32.not_le.mp (fun z => q3 ((d_nn (by omega) (by omega)).mp z)))
            rw [ef] at this
            exact this
        · rw [if_neg (fun z => q2 ((d_z (by omega) (by omega)).mp z))]
          by_cases q3 : u < w
          · rw [if_pos (tkbe.mpr (Or.inl q3))]
            exact take _ τ1 h1 (Int32.not_le.mp (fun z => by have := (d_nn (by omega) (by omega)).mp z; omega))
          · rw [if_neg (fun z => (tkbe.mp z).elim q3 (fun y => q2 y.1.symm))]
            exact keep _ τ1 h1 ((d_nn (by omega) (by omega)).mpr (by omega))
theorem m_moverTo {I : LH → Prop} {P S mm : Nat} {L : Nat → Nat → Nat → Int32} (hL : LKok I P S L) {τ0 : LH} {a : Nat} {A : Nat → Int32} {v : Int32} (ha : aW a) {s : Nat} (hP : τ0.1 570 27 = nI P) (hP8 : P ≤ 8) (hS8 : S ≤ 8) (hR : MRng τ0 S P) (hs : s < S) (hw : ∀ p, p < P → plc S (A (4 * p))) (hm : A 48 = nI mm) (hm1 : mm < 101) {τ : LH} (h : Mt I τ0 a A v τ) : ∃ τ', s_Model_moverTo a (nI s) τ = some (oI (tkR (L mm) (qM τ0) (sM τ0) (xM2 τ0) s (vw P A) P 0 none 0), τ') ∧ Mt I τ0 a A v τ' := by
  have := m_moverTo_loop hL ha hP hP8 hS8 hR hs hw hm hm1 P FUEL 0 none 0 τ (by omega) (by unfold FUEL; omega) (fun j hj => by cases hj) (fun j hj => by cases hj) h
  rw [nI_0] at this
  exact this
