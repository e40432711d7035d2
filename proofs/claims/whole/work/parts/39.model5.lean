/-! the model: moving up, coming back -/
def muA (pk : (Nat → Int32) → Option Nat × Option Nat) : Nat → (Nat → Int32) → Int32 → Option ((Nat → Int32) × Int32)
  | 0, _, _ => none
  | n + 1, A, v => match pk A with
    | (some s', some t') => muA pk n (mMove t' s' (A 49).toNatClampNeg A) (v + 1)
    | _ => some (A, v)
abbrev pickM (L : Nat → Nat → Int32) (τ0 : LH) (S P : Nat) (A : Nat → Int32) : Option Nat × Option Nat := mvR (tkM L τ0 P A) (wM τ0) (vw P A) S 0 none none
/-- what a world must hold for its functions -/
def AOk (S P mm : Nat) (A : Nat → Int32) : Prop := (∀ p, p < P → plc S (A (4 * p))) ∧ A 48 = nI mm ∧ ∃ g, g ≤ 60 ∧ A 49 = nI g
theorem AOk.move {S P mm p s : Nat} {A : Nat → Int32} (h : AOk S P mm A) (hp : p < P) (hP8 : P ≤ 8) (hs : s < S) : AOk S P mm (mMove p s (A 49).toNatClampNeg A) := by
  obtain ⟨h1, h2, g, h3, h4⟩ := h
  refine ⟨fun q hq => ?_, ?_, ?_⟩
  · rw [mMove_lo (by omega)]
    split
    · exact Or.inr (Or.inr ⟨s, hs, rfl⟩)
    · exact h1 q hq
  · rw [mMove_lo (by omega), if_neg (by omega)]
    exact h2
  · rw [mMove_49 (by omega), h4, nI_clamp (by omega)]
    split
    · exact ⟨60, by omega, rfl⟩
    · exact ⟨g + 1, by omega, rfl⟩
theorem m_movesUp_loop {I : LH → Prop} {P S mm : Nat} {L : Nat → Nat → Nat → Int32} (hI : Icl I) (hL : LKok I P S L) {τ0 : LH} {a : Nat} (ha : aW a) (hS : τ0.1 570 26 = nI S) (hP : τ0.1 570 27 = nI P) (hP8 : P ≤ 8) (hS8 : S ≤ 8) (hR : MRng τ0 S P) (hm1 : mm < 101) : ∀ (m n : Nat) (A : Nat → Int32) (v : Int32) (A' : Nat → Int32) (v' : Int32) (τ : LH), muA (pickM (L mm) τ0 S P) m A v = some (A', v') → m + 1 < n → AOk S P mm A → Mt I τ0 a A v τ → ∃ τ', s_Model_movesUp_2 a n 1 τ = some τ' ∧ Mt I τ0 a A' v' τ' := by
  intro m
  induction m with
  | zero => intro n A v A' v' τ hmu; cases hmu
  | succ m ih =>
    intro n A v A' v' τ hmu hn hA h
    obtain ⟨n, rfl⟩ : ∃ q, n = q + 2 := ⟨n - 2, by omega⟩
    have e1 : s_Model_movesUp_2 a (n + 1 + 1) 1 τ = s_Model_movesUp_11 a (s_Model_movesUp_2 a (n + 1)) FUEL (-1) 0 τ := by
      rw [s_Model_movesUp_2]
      unfold s_Model_movesUp_2_b
      exact if_neg (by decide)
    rw [show n + 2 = n + 1 + 1 from rfl, e1]
    obtain ⟨τ1, h1, e2⟩ := m_movesUp_in (rec2 := s_Model_movesUp_2 a (n + 1)) hL ha hS hP hP8 hS8 hR hA.1 hA.2.1 hm1 S FUEL 0 none none τ (by omega) (by unfold FUEL; omega) (fun j hj => by cases hj) h
    rw [show (oI none : Int32) = -1 from rfl, nI_0] at e2
    rw [e2]
    unfold muA at hmu
    cases hpk : pickM (L mm) τ0 S P A with
    | mk s' t' =>
      have hpk2 : mvR (tkM (L mm) τ0 P A) (wM τ0) (vw P A) S 0 none none = (s', t') := hpk
      rw [hpk] at hmu
      rw [hpk2]
      obtain ⟨b1, b2⟩ := mvR_in S 0 none none (fun j hj => by cases hj) (fun _ => rfl) (fun _ => rfl) s' t' hpk2
      obtain ⟨b3, b4⟩ := mvR_tk S 0 none none (fun j hj => by cases hj) (fun _ => rfl) s' t' hpk2
      cases s' with
      | none =>
        simp only at hmu ⊢
        cases hmu
        refine ⟨τ1, ?_, h1⟩
        rw [s_Model_movesUp_2]
        unfold s_Model_movesUp_2_b
        exact if_pos rfl
      | some s1 =>
        cases t' with
        | none => exact absurd (b2.mpr rfl) (by simp)
        | some t1 =>
          simp only at hmu ⊢
          have hs1 : s1 < S := by have := b1 s1 rfl; omega
          have ht1 : tkM (L mm) τ0 P A s1 = some t1 := b3 s1 rfl
          have ht2 : tkR (L mm) (qM τ0) (sM τ0) (xM2 τ0) s1 (vw P A) P 0 none 0 = some t1 := ht1
          have ht3 : t1 < P := by have := tkR_in P 0 none 0 (fun j hj => by cases hj) t1 ht2; omega
          obtain ⟨τ2, e3, h2⟩ := m_moverTo hL ha hP hP8 hS8 hR hs1 hA.1 hA.2.1 hm1 h1
          rw [ht2] at e3
          rw [e3]
          simp only [xb2]
          obtain ⟨g, hg1, hg2⟩ := hA.2.2
          have hcl : (A 49).toNatClampNeg = g := by rw [hg2]; exact nI_clamp (by omega)
          obtain ⟨τ3, e4, h3⟩ := m_moves hI ha h2 (p := t1) (s := s1) (by omega) (by omega) hg2 hg1
          rw [show oI (some t1) = nI t1 from rfl, e4]
          simp only [xb1]
          rw [← hcl] at h3
          exact ih (n + 1) _ _ A' v' τ3 hmu (by omega) (hA.move ht3 hP8 hs1) h3
theorem m_movesUp {I : LH → Prop} {P S mm : Nat} {L : Nat → Nat → Nat → Int32} (hI : Icl I) (hL : LKok I P S L) {τ0 : LH} {a : Nat} (ha : aW a) (hS : τ0.1 570 26 = nI S) (hP : τ0.1 570 27 = nI P) (hP8 : P ≤ 8) (hS8 : S ≤ 8) (hR : MRng τ0 S P) (hm1 : mm < 101) {m : Nat} {A A' : Nat → Int32} {v v' : Int32} {τ : LH} (hmu : muA (pickM (L mm) τ0 S P) m A v = some (A', v')) (hm : m < 10000) (hA : AOk S P mm A) (h : Mt I τ0 a A v τ) : ∃ τ', s_Model_movesUp a τ = some τ' ∧ Mt I τ0 a A' v' τ' :=
  m_movesUp_loop hI hL ha hS hP hP8 hS8 hR hm1 m FUEL A v A' v' τ hmu (by unfold FUEL; omega) hA h
/-- the seat that one who comes back takes, when none is kept -/
def bcR (L : Nat → Int32) (P : Nat) (A : Nat → Int32) : Nat → Nat → Int32 → Int32 → Int32
  | 0, _, b, _ => b
  | m + 1, k, b, mo => if (soR A (nI k) P 0 = -1 ∧ A (32 + 2 * k) = -1) ∧ mo < L k then bcR L P A m (k + 1) (nI k) (L k) else bcR L P A m (k + 1) b mo
def mBack (L : Nat → Nat → Int32) (S P p : Nat) (A : Nat → Int32) : Nat → Int32 :=
  if kfR (upd A (4 * p + 1) (-1)) (nI p) S 0 = -1 then upd (upd A (4 * p + 1) (-1)) (4 * p) (bcR (L p) P (upd A (4 * p + 1) (-1)) S 0 (-1) 0)
  else upd (mRel (kfR (upd A (4 * p + 1) (-1)) (nI p) S 0).toNatClampNeg (upd A (4 * p + 1) (-1))) (4 * p) (kfR (upd A (4 * p + 1) (-1)) (nI p) S 0)
theorem kfR_in {A : Nat → Int32} {x : Int32} : ∀ (m k : Nat), kfR A x m k = -1 ∨ ∃ j, j < k + m ∧ kfR A x m k = nI j ∧ A (32 + 2 * j) = x := by
  intro m
  induction m with
  | zero => intro k; exact Or.inl rfl
  | succ m ih =>
    intro k
    unfold kfR
    split
    · rename_i q
      exact Or.inr ⟨k, by omega, rfl, q⟩
    · rcases ih (k + 1) with h | ⟨j, h1, h2⟩
      · exact Or.inl h
      · exact Or.inr ⟨j, by omega, h2⟩
theorem m_comesBack_loop {I : LH → Prop} {P S mm : Nat} {L : Nat → Nat → Nat → Int32} (hI : Icl I) (hL : LKok I P S L) {τ0 : LH} {a : Nat} {A : Nat → Int32} {v : Int32} (ha : aW a) (hS : τ0.1 570 26 = nI S) (hP : τ0.1 570 27 = nI P) (hP8 : P ≤ 8) (hS8 : S ≤ 8) {p : Nat} (hp : p < P) (hm : A 48 = nI mm) (hm1 : mm < 101) : ∀ (m n k : Nat) (b mo : Int32) (τ : LH), k + m = S → m < n → Mt I τ0 a A v τ → ∃ τ', s_Model_comesBack_39 a (nI p) n b mo (nI k) τ = some τ' ∧ Mt I τ0 a (upd A (4 * p) (bcR (L mm p) P A m k b mo)) v τ' := by
  intro m
  induction m with
  | zero =>
    intro n k b mo τ hk hn h
    obtain ⟨n, rfl⟩ : ∃ q, n = q + 1 := ⟨n - 1, by omega⟩
    rw [s_Model_comesBack_39]
    unfold s_Model_comesBack_39_b
    rw [h.fld ha (by omega) (by omega), hS, if_pos (nI_le (by omega) (by omega)), c4, if_pos (ib_nI (by omega) (by omega)), nI_clamp (by omega), h.I ha]
    exact ⟨_, rfl, h.to hI ha⟩
  | succ m ih =>
    intro n k b mo τ hk hn h
    obtain ⟨n, rfl⟩ : ∃ q, n = q + 1 := ⟨n - 1, by omega⟩
    have skip : ∀ (b mo : Int32) (τ : LH), Mt I τ0 a A v τ → ∃ τ', s_Model_comesBack_87 a (nI p) (s_Model_comesBack_39 a (nI p) n) b mo (nI k) τ = some τ' ∧ Mt I τ0 a (upd A (4 * p) (bcR (L mm p) P A m (k + 1) b mo)) v τ' := by
      intro b mo τ h1
      simp only [s_Model_comesBack_87, xl, Jvm.Pilot.CLostPlacesLaw_law_r3427_12969d.a1]
      exact ih n (k + 1) b mo τ (by omega) (by omega) h1
    rw [s_Model_comesBack_39]
    unfold s_Model_comesBack_39_b
    rw [h.fld ha (by omega) (by omega), hS, if_neg (nI_ge (by omega) (by omega)), m_isFree (P := P) (by rw [h.fld ha (by omega) (by omega)]; exact hP) hP8 (by omega), h.A ha]
    simp only [xb2]
    unfold bcR
    by_cases q1 : soR A (nI k) P 0 = -1 ∧ A (32 + 2 * k) = -1
    · rw [if_pos q1, if_neg (show ¬ (1 : Int32) = 0 by decide)]
      have hx : plc S (nI k) := Or.inr (Or.inr ⟨k, by omega, rfl⟩)
      have e3 : lkx (L mm) p (nI k) = L mm p k := by
        unfold lkx
        rw [if_neg (nI_pos (n := k) (by omega)), nI_clamp (by omega)]
      obtain ⟨τ1, e1, h1⟩ := m_likesIn hL h ha hp hx hm hm1
      rw [e1, e3]
      simp only
      by_cases q2 : mo < L mm p k
      · rw [if_pos q2, if_pos ⟨q1, q2⟩]
        obtain ⟨τ2, e2, h2⟩ := m_likesIn hL h1 ha hp hx hm hm1
        rw [e2, e3]
        simp only
        exact skip _ _ τ2 h2
      · rw [if_neg q2, if_neg (fun z => q2 z.2)]
        exact skip b mo τ1 h1
    · rw [if_neg q1, if_pos rfl, if_neg (fun z => q1 z.1)]
      exact skip b mo τ h
theorem m_comesBack {I : LH → Prop} {P S mm : Nat} {L : Nat → Nat → Nat → Int32} (hI : Icl I) (hL : LKok I P S L) {τ0 : LH} {a : Nat} {A : Nat → Int32} {v : Int32} {τ : LH} (ha : aW a) (hS : τ0.1 570 26 = nI S) (hP : τ0.1 570 27 = nI P) (hP8 : P ≤ 8) (hS8 : S ≤ 8) {p : Nat} (hp : p < P) (hm : A 48 = nI mm) (hm1 : mm < 101) (h : Mt I τ0 a A v τ) : ∃ τ', s_Model_comesBack a (nI p) τ = some τ' ∧ Mt I τ0 a (mBack (L mm) S P p A) v τ' := by
  unfold s_Model_comesBack
  rw [c4, Jvm.Pilot.CLostPlacesLaw_law_r3427_12969d.a1, if_pos (ib_nI (by omega) (by omega)), nI_clamp (by omega), h.I ha]
  have h1 : Mt I τ0 a (upd A (4 * p + 1) (-1)) v (stF τ a (upd A (4 * p + 1) (-1))) := h.to hI ha
  generalize stF τ a (upd A (4 * p + 1) (-1)) = τ1 at h1 ⊢
  simp only [xl]
  rw [m_keptFor (S := S) (by rw [h1.fld ha (by omega) (by omega)]; exact hS) hS8, h1.A ha]
  simp only [xb2]
  unfold mBack
  generalize hB : upd A (4 * p + 1) (-1) = B at h1 ⊢
  have hmB : B 48 = nI mm := by rw [← hB, pk_un (by omega)]; exact hm
  rcases kfR_in (A := B) (x := nI p) S 0 with q | ⟨j, hj, q, -⟩
  · rw [q, if_pos rfl, if_pos rfl]
    have := m_comesBack_loop hI hL ha hS hP hP8 hS8 hp hmB hm1 S FUEL 0 (-1) 0 τ1 (by omega) (by unfold FUEL; omega) h1
    rw [nI_0] at this
    exact this
  · rw [q, if_neg (nI_m1 (by omega)), if_neg (nI_m1 (by omega)), nI_clamp (show j < 2 ^ 31 by omega)]
    have e2 : s_Model_frees a (nI j) τ1 = some (stF τ1 a (mRel j B)) := by
      conv => lhs; rw [← h1.F ha]
      exact m_frees (by omega)
    rw [e2]
    simp only [xb1]
    have h2 : Mt I τ0 a (mRel j B) v (stF τ1 a (mRel j B)) := h1.to hI ha
    generalize stF τ1 a (mRel j B) = τ2 at h2 ⊢
    rw [if_pos (ib_nI (by omega) (by omega)), nI_clamp (by omega), h2.I ha]
    exact ⟨_, rfl, h2.to hI ha⟩
