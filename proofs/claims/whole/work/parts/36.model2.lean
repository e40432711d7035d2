/-! the model: what its likings leave behind; who moves -/
def nsc (b j : Nat) : Prop := b ≠ 574 ∧ b ≠ 586 ∧ (b = 570 → j ≠ 8 ∧ j ≠ 9 ∧ j ≠ 10 ∧ j ≠ 11 ∧ j ≠ 12 ∧ j ≠ 13 ∧ j ≠ 14 ∧ j ≠ 17)
/-- alike but for what a reading of a taste leaves behind -/
def SE (τ τ' : LH) : Prop := (∀ b j, nsc b j → τ'.1 b j = τ.1 b j) ∧ (∀ b, b ≠ 585 → τ'.2.1 b = τ.2.1 b) ∧ τ'.2.2.1 = τ.2.2.1
theorem SE.rf {τ : LH} : SE τ τ := ⟨fun _ _ _ => rfl, fun _ _ => rfl, rfl⟩
theorem SE.tr {τ τ' τ'' : LH} (h : SE τ τ') (h' : SE τ' τ'') : SE τ τ'' := ⟨fun b j q => (h'.1 b j q).trans (h.1 b j q), fun b q => (h'.2.1 b q).trans (h.2.1 b q), h'.2.2.trans h.2.2⟩
theorem SE.stF {τ τ' : LH} (h : SE τ τ') (a : Nat) (A : Nat → Int32) : SE (stF τ a A) (stF τ' a A) := by
  refine ⟨fun b j q => ?_, h.2.1, h.2.2⟩
  by_cases e : b = a
  · subst e; rw [stF_s, stF_s]
  · rw [stF_n e, stF_n e]; exact h.1 b j q
theorem SE.arr {τ τ' : LH} (h : SE τ τ') {b : Nat} (h1 : b ≠ 570) (h2 : b ≠ 574) (h3 : b ≠ 586) : τ'.1 b = τ.1 b := funext fun j => h.1 b j ⟨h2, h3, fun q => absurd q h1⟩
theorem SE.fld {τ τ' : LH} (h : SE τ τ') {j : Nat} (hj : j ≠ 8 ∧ j ≠ 9 ∧ j ≠ 10 ∧ j ≠ 11 ∧ j ≠ 12 ∧ j ≠ 13 ∧ j ≠ 14 ∧ j ≠ 17) : τ'.1 570 j = τ.1 570 j := h.1 570 j ⟨by omega, by omega, fun _ => hj⟩
theorem stI_570 {τ : LH} {j i : Nat} {v : Int32} : (stI τ 570 j v).1 570 i = if i = j then v else τ.1 570 i := by
  unfold stI
  rw [stF_s]
  unfold upd
  rfl
theorem stI_n {τ : LH} {a b j : Nat} {v : Int32} (h : b ≠ a) : (stI τ a j v).1 b = τ.1 b := stF_n h
theorem SE.stI {τ τ' : LH} (h : SE τ τ') (j : Nat) (v : Int32) : SE (stI τ 570 j v) (stI τ' 570 j v) := by
  refine ⟨fun b i q => ?_, h.2.1, h.2.2⟩
  by_cases e : b = 570
  · subst e
    rw [stI_570, stI_570]
    by_cases e2 : i = j
    · rw [if_pos e2, if_pos e2]
    · rw [if_neg e2, if_neg e2]
      exact h.1 570 i q
  · rw [stI_n e, stI_n e]
    exact h.1 b i q
/-- what is fixed while minutes go by, in the model -/
def MFix (τ : LH) (S P n0 : Nat) (go : Nat → Nat) : Prop := τ.1 570 26 = nI S ∧ S ≤ 8 ∧ τ.1 570 27 = nI P ∧ P ≤ 8 ∧ τ.1 570 28 = nI n0 ∧ n0 ≤ 10 ∧ (∀ g, g < n0 → τ.1 579 (3 * g) = nI (go g) ∧ go g < P)
/-- likings asked of the model: L by minutes, sitters and seats -/
def LKok (I : LH → Prop) (P S : Nat) (L : Nat → Nat → Nat → Int32) : Prop := ∀ (τ : LH) (p : Nat) (x : Int32) (m : Nat), I τ → p < P → plc S x → m < 101 → ∃ τ', s_Model_likesBy (nI p) x (nI m) τ = some (lkx (L m) p x, τ') ∧ SE τ τ' ∧ I τ'
/-- the worlds that minutes go by in -/
def aW (a : Nat) : Prop := a = 583 ∨ a = 584
def Icl (I : LH → Prop) : Prop := (∀ τ a A, I τ → aW a → I (stF τ a A)) ∧ ∀ τ v, I τ → I (stI τ 570 41 v)
/-- τ is τ0 with the world A at a and v moves counted, but for readings -/
def Mt (I : LH → Prop) (τ0 : LH) (a : Nat) (A : Nat → Int32) (v : Int32) (τ : LH) : Prop := SE (stI (stF τ0 a A) 570 41 v) τ ∧ I τ
theorem Mt.A {I : LH → Prop} {τ0 : LH} {a : Nat} {A : Nat → Int32} {v : Int32} {τ : LH} (h : Mt I τ0 a A v τ) (ha : aW a) : τ.1 a = A := by
  rcases ha with rfl | rfl
  · rw [h.1.arr (by omega) (by omega) (by omega), stI_n (by omega), stF_s]
  · rw [h.1.arr (by omega) (by omega) (by omega), stI_n (by omega), stF_s]
theorem Mt.arr {I : LH → Prop} {τ0 : LH} {a : Nat} {A : Nat → Int32} {v : Int32} {τ : LH} (h : Mt I τ0 a A v τ) {b : Nat} (h0 : b ≠ a) (h1 : b ≠ 570) (h2 : b ≠ 574) (h3 : b ≠ 586) : τ.1 b = τ0.1 b := by
  rw [h.1.arr h1 h2 h3, stI_n h1, stF_n h0]
theorem Mt.fld {I : LH → Prop} {τ0 : LH} {a : Nat} {A : Nat → Int32} {v : Int32} {τ : LH} (h : Mt I τ0 a A v τ) (ha : aW a) {j : Nat} (hj : j ≠ 8 ∧ j ≠ 9 ∧ j ≠ 10 ∧ j ≠ 11 ∧ j ≠ 12 ∧ j ≠ 13 ∧ j ≠ 14 ∧ j ≠ 17) (h41 : j ≠ 41) : τ.1 570 j = τ0.1 570 j := by
  rw [h.1.fld hj, stI_570, if_neg h41, stF_n (by rcases ha with rfl | rfl <;> omega)]
theorem Mt.mv {I : LH → Prop} {τ0 : LH} {a : Nat} {A : Nat → Int32} {v : Int32} {τ : LH} (h : Mt I τ0 a A v τ) : τ.1 570 41 = v := by
  rw [h.1.fld (by omega), stI_570, if_pos rfl]
theorem Mt.to {I : LH → Prop} {τ0 : LH} {a : Nat} {A A' : Nat → Int32} {v : Int32} {τ : LH} (h : Mt I τ0 a A v τ) (hI : Icl I) (ha : aW a) : Mt I τ0 a A' v (stF τ a A') := by
  refine ⟨?_, hI.1 _ _ _ h.2 ha⟩
  have h1 := h.1.stF a A'
  have e : stF (stI (stF τ0 a A) 570 41 v) a A' = stI (stF τ0 a A') 570 41 v := by
    have ne : (570 : Nat) ≠ a := by rcases ha with rfl | rfl <;> omega
    unfold stI
    rw [stF_n ne, stF_n ne, stF_com ne, stF_F]
  rw [e] at h1
  exact h1
theorem Mt.mv1 {I : LH → Prop} {τ0 : LH} {a : Nat} {A : Nat → Int32} {v w : Int32} {τ : LH} (h : Mt I τ0 a A v τ) (hI : Icl I) : Mt I τ0 a A w (stI τ 570 41 w) := by
  refine ⟨?_, hI.2 _ _ h.2⟩
  have h1 := h.1.stI 41 w
  have e : stI (stI (stF τ0 a A) 570 41 v) 570 41 w = stI (stF τ0 a A) 570 41 w := by
    unfold stI
    rw [stF_F, stF_s]
    congr 1
    funext i
    unfold upd
    split <;> rfl
  rw [e] at h1
  exact h1
theorem Mt.F {I : LH → Prop} {τ0 : LH} {a : Nat} {A : Nat → Int32} {v : Int32} {τ : LH} (h : Mt I τ0 a A v τ) (ha : aW a) : stF τ a A = τ := by
  rw [← h.A ha]
  exact stF_id
theorem Mt.se {I : LH → Prop} {τ0 : LH} {a : Nat} {A : Nat → Int32} {v : Int32} {τ τ' : LH} (h : Mt I τ0 a A v τ) (h1 : SE τ τ') (h2 : I τ') : Mt I τ0 a A v τ' := ⟨h.1.tr h1, h2⟩
/-- liking of p for x, in the world's minute -/
theorem m_likesIn {I : LH → Prop} {P S m : Nat} {L : Nat → Nat → Nat → Int32} (hL : LKok I P S L) {τ0 : LH} {a : Nat} {A : Nat → Int32} {v : Int32} {τ : LH} (h : Mt I τ0 a A v τ) (ha : aW a) {p : Nat} {x : Int32} (hp : p < P) (hx : plc S x) (hm : A 48 = nI m) (hm1 : m < 101) : ∃ τ', s_Model_likesIn a (nI p) x τ = some (lkx (L m) p x, τ') ∧ Mt I τ0 a A v τ' := by
  obtain ⟨τ', h1, h2, h3⟩ := hL τ p x m h.2 hp hx hm1
  refine ⟨τ', ?_, h.se h2 h3⟩
  unfold s_Model_likesIn
  rw [if_pos (show ib 48 290 by decide), h.A ha, show A (Int32.toNatClampNeg 48) = nI m from hm, h1]
  rfl
/-- the model's world as a block -/
def vw (P : Nat) (A : Nat → Int32) : Wd := fun c i => match c with
  | 1 => A (4 * i)
  | 2 => A (4 * i + 1)
  | 3 => A (4 * i + 2)
  | 4 => A (4 * i + 3)
  | 5 => soR A (nI i) P 0
  | 6 => A (32 + 2 * i)
  | 7 => A (32 + 2 * i + 1)
  | _ => A 48
theorem m_wouldMove {I : LH → Prop} {P S m : Nat} {L : Nat → Nat → Nat → Int32} (hL : LKok I P S L) {τ0 : LH} {a : Nat} {A : Nat → Int32} {v : Int32} {τ : LH} (h : Mt I τ0 a A v τ) (ha : aW a) {p s : Nat} (hP8 : P ≤ 8) (hS8 : S ≤ 8) (hp : p < P) (hs : s < S) (hw : ∀ p, p < P → plc S (A (4 * p))) (hm : A 48 = nI m) (hm1 : m < 101) : ∃ τ', s_Model_wouldMove a (nI p) (nI s) τ = some (if A (4 * p) = -2 ∨ ¬ τ0.1 577 (4 * p + 2) ≤ L m p s - lkx (L m) p (A (4 * p)) then 0 else 1, τ') ∧ Mt I τ0 a A v τ' := by
  unfold s_Model_wouldMove
  rw [m_isHere (by omega), h.A ha]
  simp only [xb2]
  have e0 : ∀ τ, s_Model_wouldMove_44 a (nI p) (nI s) τ = some (0, τ) := fun τ => by
    unfold s_Model_wouldMove_44 s_Model_wouldMove_45
    rw [if_pos (Or.inl rfl)]
  by_cases q1 : A (4 * p) = -2
  · rw [if_pos q1, if_pos rfl, if_pos (Or.inl q1), e0]
    exact ⟨τ, rfl, h⟩
  · rw [if_neg q1, if_neg (show ¬ (1 : Int32) = 0 by decide)]
    obtain ⟨τ1, e1, h1⟩ := m_likesIn hL h ha hp (Or.inr (Or.inr ⟨s, hs, rfl⟩)) hm hm1
    rw [e1]
    simp only
    rw [c4, if_pos (ib_nI (by omega) (by omega)), nI_clamp (by omega), h1.A ha]
    obtain ⟨τ2, e2, h2⟩ := m_likesIn hL h1 ha hp (hw p hp) hm hm1
    rw [e2]
    simp only
    rw [a2, if_pos (ib_nI (by omega) (by omega)), nI_clamp (by omega), h2.arr (by rcases ha with rfl | rfl <;> omega) (by omega) (by omega) (by omega)]
    have e3 : lkx (L m) p (nI s) = L m p s := by
      unfold lkx
      rw [if_neg (nI_pos (n := s) (by omega)), nI_clamp (by omega)]
    rw [e3]
    by_cases q2 : L m p s - lkx (L m) p (A (4 * p)) < τ0.1 577 (4 * p + 2)
    · rw [if_pos q2, e0, if_pos (Or.inr (Int32.not_le.mpr q2))]
      exact ⟨τ2, rfl, h2⟩
    · rw [if_neg q2, if_neg (fun z => z.elim q1 (fun y => q2 (Int32.not_le.mp y)))]
      unfold s_Model_wouldMove_45
      rw [if_pos (Or.inr rfl)]
      exact ⟨τ2, rfl, h2⟩
theorem m_farFrom {τ : LH} {a p s : Nat} (hp : p < 8) (hs : s < 8) (hx : plc 8 (τ.1 a (4 * p))) : s_Model_farFrom a (nI p) (nI s) τ = some (if τ.1 a (4 * p) < 0 then 99 else if 0 ≤ τ.1 575 (3 * (τ.1 a (4 * p)).toNatClampNeg + 2) - τ.1 575 (3 * s + 2) then τ.1 575 (3 * (τ.1 a (4 * p)).toNatClampNeg + 2) - τ.1 575 (3 * s + 2) else 0 - (τ.1 575 (3 * (τ.1 a (4 * p)).toNatClampNeg + 2) - τ.1 575 (3 * s + 2)), τ) := by
  unfold s_Model_farFrom
  rw [c4, if_pos (ib_nI (by omega) (by omega)), nI_clamp (by omega)]
  simp only [xl]
  by_cases q : τ.1 a (4 * p) < 0
  · rw [if_neg (Int32.not_le.mpr q), if_pos q]
    rfl
  · rw [if_pos (Int32.not_lt.mp q), if_neg q]
    rcases hx with h | h | ⟨j, hj, h⟩
    · rw [h] at q; exact absurd (by decide) q
    · rw [h] at q; exact absurd (by decide) q
    · rw [h, c3, c3, a2, a2, if_pos (ib_nI (by omega) (by omega)), if_pos (ib_nI (by omega) (by omega)), nI_clamp (by omega), nI_clamp (by omega), nI_clamp (by omega)]
      rfl
