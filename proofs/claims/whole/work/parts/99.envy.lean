/-! envy -/
theorem nI_subl {a b k : Nat} (ha : a < 1000) (hb : b < 1000) (hk : k < 1000) : (nI a - nI b < nI k) ↔ a < b + k := by
  constructor
  · intro h
    by_cases q : b + k ≤ a
    · obtain ⟨c, rfl⟩ : ∃ c, a = b + c := ⟨a - b, by omega⟩
      rw [show nI (b + c) - nI b = nI c by rw [← nI_add, Int32.add_comm, Int32.add_sub_cancel]] at h
      exact absurd h (Int32.not_lt.mpr (nI_le (by omega) (by omega)))
    · omega
  · intro h
    by_cases q : b ≤ a
    · obtain ⟨c, rfl⟩ : ∃ c, a = b + c := ⟨a - b, by omega⟩
      rw [show nI (b + c) - nI b = nI c by rw [← nI_add, Int32.add_comm, Int32.add_sub_cancel]]
      exact nI_lt (by omega) (by omega)
    · exact Int32.not_le.mp (fun z => by
        have h2 : (0 : Int32) ≤ nI k := Int32.not_lt.mp (nI_pos (by omega))
        exact q ((d_nn (by omega) (by omega)).mp (Int32.le_trans h2 z)))
section
variable {I : LH → Prop} {σ τ σ' τ' τ0 : LH} {S P n0 ne ne' n E eN mm M : Nat} {go ex ex' : Nat → Nat} {who who' : Option Nat} {L : Nat → Nat → Nat → Int32} {ln : Nat → Nat → Nat → Nat} {qn sn : Nat → Nat}
/-- p would have the seat s of another rather than his own, in the class -/
def eVC (σ : LH) (lm : Nat → Nat → Nat) (p z s : Nat) : Prop := σ.1 44 s ≠ -1 ∧ σ.1 44 s ≠ nI p ∧ z ≤ lm p s
/-- the same, asked sitter by sitter -/
def eVM (A : Nat → Int32) (S : Nat) (lm : Nat → Nat → Nat) (p z q : Nat) : Prop := q ≠ p ∧ ∃ s, s < S ∧ A (4 * q) = nI s ∧ z ≤ lm p s
theorem g_env {r p z : Nat} {lm : Nat → Nat → Nat} (hS : σ.1 4 0 = nI S) (hS8 : S ≤ 8) (hp : p < P) (hP8 : P ≤ 8) (hr : r < 100) (hz : z < 2000) (ht : ∀ p s, p < P → s < S → σ.1 34 (r * 64 + p * 8 + s) = nI (lm p s) ∧ lm p s < 1000) : ∀ (m f s : Nat), s + m = S → m < f → (s_Main_envies_57 (nI p) f (nI r) (nI z) (nI s) σ = some (1, σ) ∧ ∃ s', s ≤ s' ∧ s' < S ∧ eVC σ lm p z s') ∨ (s_Main_envies_57 (nI p) f (nI r) (nI z) (nI s) σ = some (0, σ) ∧ ∀ s', s ≤ s' → s' < S → ¬ eVC σ lm p z s') := by
  intro m
  induction m with
  | zero =>
    intro f s hs hf
    obtain ⟨f, rfl⟩ : ∃ q, f = q + 1 := ⟨f - 1, by omega⟩
    refine Or.inr ⟨?_, fun s' h1 h2 => by omega⟩
    rw [s_Main_envies_57]
    unfold s_Main_envies_57_b
    rw [hS, if_pos (nI_le (by omega) (by omega))]
  | succ m ih =>
    intro f s hs hf
    obtain ⟨f, rfl⟩ : ∃ q, f = q + 1 := ⟨f - 1, by omega⟩
    have i8 : ib (nI s) 8 := ib_nI (by omega) (by omega)
    have tc : (nI s).toNatClampNeg = s := nI_clamp (by omega)
    have skip : ¬ eVC σ lm p z s → s_Main_envies_57 (nI p) (f + 1) (nI r) (nI z) (nI s) σ = s_Main_envies_57 (nI p) f (nI r) (nI z) (nI (s + 1)) σ → (s_Main_envies_57 (nI p) (f + 1) (nI r) (nI z) (nI s) σ = some (1, σ) ∧ ∃ s', s ≤ s' ∧ s' < S ∧ eVC σ lm p z s') ∨ (s_Main_envies_57 (nI p) (f + 1) (nI r) (nI z) (nI s) σ = some (0, σ) ∧ ∀ s', s ≤ s' → s' < S → ¬ eVC σ lm p z s') := by
      intro hn e
      rcases ih f (s + 1) (by omega) (by omega) with ⟨e1, s', h1, h2, h3⟩ | ⟨e1, h1⟩
      · exact Or.inl ⟨e.trans e1, s', by omega, h2, h3⟩
      · refine Or.inr ⟨e.trans e1, fun s' h2 h3 => ?_⟩
        by_cases q : s' = s
        · rw [q]; exact hn
        · exact h1 s' (by omega) h3
    have e126 : s_Main_envies_126 (nI p) (s_Main_envies_57 (nI p) f) (nI r) (nI z) (nI s) σ = s_Main_envies_57 (nI p) f (nI r) (nI z) (nI (s + 1)) σ := by
      unfold s_Main_envies_126
      simp only [xl]
      rw [nI_1]
    have e101 : s_Main_envies_101 (nI p) (s_Main_envies_57 (nI p) f) (nI r) (nI z) (nI s) σ = s_Main_envies_57 (nI p) f (nI r) (nI z) (nI (s + 1)) σ := by
      unfold s_Main_envies_101 s_Main_envies_102
      rw [if_pos (show (0 : Int32) = 0 from rfl)]
      exact e126
    have un : s_Main_envies_57 (nI p) (f + 1) (nI r) (nI z) (nI s) σ = if σ.1 44 s = -1 then s_Main_envies_101 (nI p) (s_Main_envies_57 (nI p) f) (nI r) (nI z) (nI s) σ else if σ.1 44 s = nI p then s_Main_envies_101 (nI p) (s_Main_envies_57 (nI p) f) (nI r) (nI z) (nI s) σ else s_Main_envies_102 (nI p) (s_Main_envies_57 (nI p) f) (nI r) (nI z) (nI s) 1 σ := by
      rw [s_Main_envies_57]
      unfold s_Main_envies_57_b
      rw [hS, if_neg (nI_ge (by omega) (by omega)), if_pos i8, tc, if_pos i8]
    by_cases q1 : σ.1 44 s = -1
    · exact skip (fun y => y.1 q1) (by rw [un, if_pos q1]; exact e101)
    · by_cases q2 : σ.1 44 s = nI p
      · exact skip (fun y => y.2.1 q2) (by rw [un, if_neg q1, if_pos q2]; exact e101)
      · obtain ⟨t1, t2⟩ := ht p s hp (by omega)
        have u2 : s_Main_envies_57 (nI p) (f + 1) (nI r) (nI z) (nI s) σ = if nI (lm p s) < nI z then s_Main_envies_57 (nI p) f (nI r) (nI z) (nI (s + 1)) σ else some (1, σ) := by
          rw [un, if_neg q1, if_neg q2]
          unfold s_Main_envies_102
          rw [if_neg (show ¬ (1 : Int32) = 0 by decide), l_at hr (by omega) (by omega), t1]
          simp only [xb2]
          rw [e126]
        by_cases q3 : z ≤ lm p s
        · refine Or.inl ⟨?_, s, Nat.le_refl _, by omega, q1, q2, q3⟩
          rw [u2, if_neg (Int32.not_lt.mpr (nI_le q3 (by omega)))]
        · exact skip (fun y => q3 y.2.2) (by rw [u2, if_pos (nI_lt (by omega) (by omega))])
theorem m_env {p k : Nat} {rec18 : Int32 → Int32 → LH → Option (Int32 × LH)} (hL : LKok I P S L) (hl : LKr (L mm) (ln mm) S P) (hP : τ0.1 570 27 = nI P) (hP8 : P ≤ 8) (hS8 : S ≤ 8) (hp : p < P) (hmm : τ0.1 583 48 = nI mm) (hm1 : mm < 101) (hA : ∀ q, q < P → plc S (τ0.1 583 (4 * q))) (hsn : τ0.1 577 (4 * p + 2) = nI (sn p) ∧ sn p < 1000) (hk : k < 1000) : ∀ (m f q : Nat) (y : Int32) (τ : LH), q + m = P → m < f → SE τ0 τ → I τ → ∃ τ', SE τ0 τ' ∧ I τ' ∧ ((s_Model_envy_61 rec18 f y (nI p) (nI k) (nI q) τ = rec18 y (nI (p + 1)) τ' ∧ ∀ q', q ≤ q' → q' < P → ¬ eVM (τ0.1 583) S (ln mm) p (k + sn p) q') ∨ (s_Model_envy_61 rec18 f y (nI p) (nI k) (nI q) τ = rec18 (y ||| (1 <<< (nI p &&& 31))) (nI (p + 1)) τ' ∧ ∃ q', q ≤ q' ∧ q' < P ∧ eVM (τ0.1 583) S (ln mm) p (k + sn p) q')) := by
  intro m
  induction m with
  | zero =>
    intro f q y τ hq hf hs hi
    obtain ⟨f, rfl⟩ : ∃ q, f = q + 1 := ⟨f - 1, by omega⟩
    refine ⟨τ, hs, hi, Or.inl ⟨?_, fun q' h1 h2 => by omega⟩⟩
    rw [s_Model_envy_61]
    unfold s_Model_envy_61_b s_Model_envy_137
    rw [hs.fld (by omega), hP, if_pos (nI_le (by omega) (by omega))]
    simp only [xl]
    rw [nI_1]
  | succ m ih =>
    intro f q y τ hq hf hs hi
    obtain ⟨f, rfl⟩ : ∃ q, f = q + 1 := ⟨f - 1, by omega⟩
    have e83 : τ.1 583 = τ0.1 583 := hs.arr (by omega) (by omega) (by omega)
    have e4 : ∀ j : Nat, 4 * nI j = nI (4 * j) := fun j => by rw [show (4 : Int32) = nI 4 from rfl, pk_mul]
    have skip : ∀ τ1 : LH, SE τ0 τ1 → I τ1 → ¬ eVM (τ0.1 583) S (ln mm) p (k + sn p) q → s_Model_envy_61 rec18 (f + 1) y (nI p) (nI k) (nI q) τ = s_Model_envy_61 rec18 f y (nI p) (nI k) (nI (q + 1)) τ1 → ∃ τ', SE τ0 τ' ∧ I τ' ∧ ((s_Model_envy_61 rec18 (f + 1) y (nI p) (nI k) (nI q) τ = rec18 y (nI (p + 1)) τ' ∧ ∀ q', q ≤ q' → q' < P → ¬ eVM (τ0.1 583) S (ln mm) p (k + sn p) q') ∨ (s_Model_envy_61 rec18 (f + 1) y (nI p) (nI k) (nI q) τ = rec18 (y ||| (1 <<< (nI p &&& 31))) (nI (p + 1)) τ' ∧ ∃ q', q ≤ q' ∧ q' < P ∧ eVM (τ0.1 583) S (ln mm) p (k + sn p) q')) := by
      intro τ1 s1 i1 hn e
      obtain ⟨τ', s2, i2, h⟩ := ih f (q + 1) y τ1 (by omega) (by omega) s1 i1
      refine ⟨τ', s2, i2, ?_⟩
      rcases h with ⟨h1, h2⟩ | ⟨h1, q', h2, h3, h4⟩
      · refine Or.inl ⟨e.trans h1, fun q' a1 a2 => ?_⟩
        by_cases z : q' = q
        · rw [z]; exact hn
        · exact h2 q' (by omega) a2
      · exact Or.inr ⟨e.trans h1, q', by omega, h3, h4⟩
    have e128 : ∀ τ1 : LH, s_Model_envy_128 (s_Model_envy_61 rec18 f) (nI p) (nI k) (nI q) y τ1 = s_Model_envy_61 rec18 f y (nI p) (nI k) (nI (q + 1)) τ1 := fun τ1 => by
      unfold s_Model_envy_128 s_Model_envy_129
      simp only [xl]
      rw [Int32.or_zero, nI_1]
    have un : s_Model_envy_61 rec18 (f + 1) y (nI p) (nI k) (nI q) τ = s_Model_envy_61_b rec18 (s_Model_envy_61 rec18 f) y (nI p) (nI k) (nI q) τ := rfl
    unfold s_Model_envy_61_b at un
    rw [hs.fld (by omega), hP, if_neg (nI_ge (by omega) (by omega)), e4, e4, if_pos (ib_nI (show 4 * q < 290 by omega) (by omega)), nI_clamp (show 4 * q < 2 ^ 31 by omega), e83] at un
    by_cases q1 : q = p
    · rw [if_pos (by rw [q1])] at un
      exact skip τ hs hi (fun z => z.1 q1) (un.trans (e128 τ))
    · rw [if_neg (fun z => q1 (nI_inj (by omega) (by omega) z))] at un
      by_cases q2 : τ0.1 583 (4 * q) < 0
      · rw [if_pos q2] at un
        refine skip τ hs hi (fun z => ?_) (un.trans (e128 τ))
        obtain ⟨s, h1, h2, -⟩ := z.2
        rw [h2] at q2
        exact nI_pos (by omega) q2
      · rw [if_neg q2, if_pos (ib_nI (show 4 * q < 290 by omega) (by omega))] at un
        obtain ⟨s, hs1, hs2⟩ : ∃ s, s < S ∧ τ0.1 583 (4 * q) = nI s := by
          rcases hA q (by omega) with z | z | z
          · rw [z] at q2; exact absurd (by decide) q2
          · rw [z] at q2; exact absurd (by decide) q2
          · exact z
        obtain ⟨τ1, t1, t2, t3⟩ := hL τ p (τ0.1 583 (4 * q)) mm hi hp (hA q (by omega)) hm1
        have s1 : SE τ0 τ1 := hs.tr t2
        have li : s_Model_likesIn 583 (nI p) (τ0.1 583 (4 * q)) τ = some (nI (ln mm p s), τ1) := by
          unfold s_Model_likesIn
          rw [if_pos (show ib 48 290 by decide), e83, show τ0.1 583 (Int32.toNatClampNeg 48) = nI mm from hmm, t1]
          simp only [xb2]
          rw [hs2]
          unfold lkx
          rw [if_neg (nI_pos (by omega)), nI_clamp (by omega), (hl p s hp hs1).1]
        have e77 : τ1.1 577 = τ0.1 577 := s1.arr (by omega) (by omega) (by omega)
        rw [li] at un
        simp only [xb2] at un
        rw [show (2 : Int32) = nI 2 from rfl, nI_add, if_pos (ib_nI (show 4 * p + 2 < 32 by omega) (by omega)), nI_clamp (show 4 * p + 2 < 2 ^ 31 by omega), e77, hsn.1] at un
        have hls := (hl p s hp hs1).2
        by_cases q3 : ln mm p s < k + sn p
        · rw [if_pos ((nI_subl hls hk hsn.2).mpr q3)] at un
          refine skip τ1 s1 t3 (fun z => ?_) (un.trans (e128 τ1))
          obtain ⟨s', h1, h2, h3⟩ := z.2
          have : s' = s := nI_inj (by omega) (by omega) (h2.symm.trans hs2)
          subst this
          omega
        · rw [if_neg (fun z => q3 ((nI_subl hls hk hsn.2).mp z))] at un
          have e129 : s_Model_envy_129 (s_Model_envy_61 rec18 f) (nI p) (nI k) (nI q) y (1 <<< (nI p &&& 31)) τ1 = s_Model_envy_61 rec18 f (y ||| (1 <<< (nI p &&& 31))) (nI p) (nI k) (nI (q + 1)) τ1 := by
            unfold s_Model_envy_129
            simp only [xl]
            rw [nI_1]
          obtain ⟨τ', s2, i2, h⟩ := ih f (q + 1) (y ||| (1 <<< (nI p &&& 31))) τ1 (by omega) (by omega) s1 t3
          have ev : eVM (τ0.1 583) S (ln mm) p (k + sn p) q := ⟨q1, s, hs1, hs2, by omega⟩
          refine ⟨τ', s2, i2, Or.inr ⟨?_, q, Nat.le_refl _, by omega, ev⟩⟩
          rcases h with ⟨h1, -⟩ | ⟨h1, -⟩
          · exact (un.trans e129).trans h1
          · rw [Int32.or_assoc, Int32.or_self] at h1
            exact (un.trans e129).trans h1
end
