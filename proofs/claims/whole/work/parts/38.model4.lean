/-! the model: moves, again and again -/
def shF (k : Nat) (A : Nat → Int32) : Nat → Int32 := upd A (49 + k) (A (49 + k + 4))
def mLog (p s g : Nat) (A : Nat → Int32) : Nat → Int32 := upd (upd (upd (upd (upd A (50 + 4 * g) (nI p)) (50 + 4 * g + 1) (A (4 * p))) (50 + 4 * g + 2) (nI s)) (50 + 4 * g + 3) (A 48)) 49 (nI (g + 1))
def mMove (p s g : Nat) (A : Nat → Int32) : Nat → Int32 := upd (if g = 60 then mLog p s 59 (upd (itr shF 236 1 A) 49 (nI 59)) else mLog p s g A) (4 * p) (nI s)
theorem shF_lo {m k j : Nat} (hj : j < 49 + k) : ∀ A, itr shF m k A j = A j := by
  induction m generalizing k with
  | zero => intro A; rfl
  | succ m ih =>
    intro A
    show itr shF m (k + 1) (shF k A) j = A j
    rw [ih (by omega)]
    exact pk_un (by omega)
theorem mMove_lo {p s g j : Nat} {A : Nat → Int32} (hj : j < 49) : mMove p s g A j = if j = 4 * p then nI s else A j := by
  unfold mMove
  by_cases q : j = 4 * p
  · rw [if_pos q, q]
    exact pk_us
  · rw [if_neg q, pk_un q]
    split
    · unfold mLog
      rw [pk_un (by omega), pk_un (by omega), pk_un (by omega), pk_un (by omega), pk_un (by omega), pk_un (by omega), shF_lo (by omega)]
    · unfold mLog
      rw [pk_un (by omega), pk_un (by omega), pk_un (by omega), pk_un (by omega), pk_un (by omega)]
theorem mMove_49 {p s g : Nat} {A : Nat → Int32} (hp : p < 8) : mMove p s g A 49 = nI (if g = 60 then 60 else g + 1) := by
  unfold mMove
  rw [pk_un (by omega)]
  split
  · unfold mLog
    exact pk_us
  · unfold mLog
    exact pk_us
theorem m_moves50 {I : LH → Prop} {τ0 : LH} {a : Nat} {A : Nat → Int32} {v : Int32} {τ : LH} (hI : Icl I) (ha : aW a) (h : Mt I τ0 a A v τ) {p s g : Nat} (hp : p < 8) (hs : s < 8) (hg : A 49 = nI g) (hg1 : g < 60) : ∃ τ', s_Model_moves_50 a (nI p) (nI s) τ = some τ' ∧ Mt I τ0 a (upd (mLog p s g A) (4 * p) (nI s)) (v + 1) τ' := by
  refine ⟨stI (stF τ a (upd (mLog p s g A) (4 * p) (nI s))) 570 41 (v + 1), ?_, (h.to hI ha).mv1 hI⟩
  unfold s_Model_moves_50
  rw [if_pos (show ib 49 290 by decide), h.A ha, show A (Int32.toNatClampNeg 49) = nI g from hg, c4, c50]
  simp only [xl]
  rw [if_pos (ib_nI (by omega) (by omega)), c4, if_pos (ib_nI (by omega) (by omega)), a1, if_pos (ib_nI (by omega) (by omega)), a2, if_pos (ib_nI (by omega) (by omega)), if_pos (show ib 48 290 by decide), a3, if_pos (ib_nI (by omega) (by omega))]
  simp only [if_pos (show ib 49 290 by decide), if_pos (show ib (nI (4 * p)) 290 from ib_nI (by omega) (by omega))]
  rw [nI_clamp (show 50 + 4 * g < 2 ^ 31 by omega), nI_clamp (show 4 * p < 2 ^ 31 by omega), nI_clamp (show 50 + 4 * g + 1 < 2 ^ 31 by omega), nI_clamp (show 50 + 4 * g + 2 < 2 ^ 31 by omega), nI_clamp (show 50 + 4 * g + 3 < 2 ^ 31 by omega)]
  have hF := h.F ha
  have e1 : stI τ a (50 + 4 * g) (nI p) = stF τ a (upd A (50 + 4 * g) (nI p)) := by
    conv => lhs; rw [← hF]
    exact stI_F
  rw [e1, stF_s, stI_F, stI_F, stF_s, stI_F, stF_s, stI_F, stI_F]
  rw [show upd A (50 + 4 * g) (nI p) (4 * p) = A (4 * p) from pk_un (by omega)]
  have e48 : upd (upd (upd A (50 + 4 * g) (nI p)) (50 + 4 * g + 1) (A (4 * p))) (50 + 4 * g + 2) (nI s) (Int32.toNatClampNeg 48) = A 48 := by
    show upd (upd (upd A (50 + 4 * g) (nI p)) (50 + 4 * g + 1) (A (4 * p))) (50 + 4 * g + 2) (nI s) 48 = A 48
    rw [pk_un (by omega), pk_un (by omega), pk_un (by omega)]
  rw [e48]
  have e49 : upd (upd (upd (upd A (50 + 4 * g) (nI p)) (50 + 4 * g + 1) (A (4 * p))) (50 + 4 * g + 2) (nI s)) (50 + 4 * g + 3) (A 48) (Int32.toNatClampNeg 49) + 1 = nI (g + 1) := by
    show upd (upd (upd (upd A (50 + 4 * g) (nI p)) (50 + 4 * g + 1) (A (4 * p))) (50 + 4 * g + 2) (nI s)) (50 + 4 * g + 3) (A 48) 49 + 1 = nI (g + 1)
    rw [pk_un (by omega), pk_un (by omega), pk_un (by omega), pk_un (by omega), hg, a1]
  rw [e49]
  have e41 : (stF τ a (upd (upd (upd (upd (upd (upd A (50 + 4 * g) (nI p)) (50 + 4 * g + 1) (A (4 * p))) (50 + 4 * g + 2) (nI s)) (50 + 4 * g + 3) (A 48)) (Int32.toNatClampNeg 49) (nI (g + 1))) (4 * p) (nI s))).1 570 41 = v := by
    rw [stF_n (by rcases ha with rfl | rfl <;> omega), h.mv]
  rw [e41]
  rfl
theorem tc49 : Int32.toNatClampNeg 49 = 49 := by decide
theorem Mt.I {I : LH → Prop} {τ0 : LH} {a : Nat} {A : Nat → Int32} {v : Int32} {τ : LH} (h : Mt I τ0 a A v τ) (ha : aW a) (i : Nat) (x : Int32) : stI τ a i x = stF τ a (upd A i x) := by
  have h1 := h.A ha
  unfold stI
  rw [h1]
theorem zz1 {τ : LH} {a p s n k : Nat} : s_Model_moves_12 a (nI p) (nI s) (n + 1) (nI k) τ = s_Model_moves_12_b a (nI p) (nI s) (s_Model_moves_12 a (nI p) (nI s) n) (nI k) τ := by rw [s_Model_moves_12]
theorem zz2 {τ : LH} {a : Nat} {p s y : Int32} {rec : Int32 → LH → Option LH} (hlt : (236 : Int32) < y) : s_Model_moves_12_b a p s rec y τ = (if ib 49 290 then (if ib 49 290 then (xl ((stI τ a (Int32.toNatClampNeg 49) ((τ.1 a (Int32.toNatClampNeg 49)) - 1)) : LH) fun σ6 => s_Model_moves_50 a p s σ6) else none) else none) := by
  unfold s_Model_moves_12_b
  exact if_pos hlt
theorem zz3 : ib 49 290 := by decide
theorem zz4 {α : Type} {x : Option α} : (if ib 49 290 then (if ib 49 290 then x else none) else none) = x := by
  rw [if_pos zz3, if_pos zz3]
theorem m_moves12x {τ : LH} {a : Nat} {p s y : Int32} {rec : Int32 → LH → Option LH} (hlt : (236 : Int32) < y) : s_Model_moves_12_b a p s rec y τ = s_Model_moves_50 a p s (stI τ a (Int32.toNatClampNeg 49) (τ.1 a (Int32.toNatClampNeg 49) - 1)) := by
  rw [zz2 hlt, zz4, xl]
theorem m_moves12y {k : Nat} (hk : k = 237) : (236 : Int32) < nI k := (nI_ltI (a := 236) (b := k) (by omega) (by omega)).mpr (by omega)
theorem m_moves12e {I : LH → Prop} {τ0 : LH} {a : Nat} {v : Int32} (hI : Icl I) (ha : aW a) {p s : Nat} {n k : Nat} {A : Nat → Int32} {τ : LH} (hk : k = 237) (h : Mt I τ0 a A v τ) : ∃ τ', s_Model_moves_12 a (nI p) (nI s) (n + 1) (nI k) τ = s_Model_moves_50 a (nI p) (nI s) τ' ∧ Mt I τ0 a (upd A 49 (A 49 - 1)) v τ' := by
  have e1 := m_moves12x (τ := τ) (a := a) (p := nI p) (s := nI s) (rec := s_Model_moves_12 a (nI p) (nI s) n) (m_moves12y hk)
  rw [← zz1] at e1
  rw [tc49, h.A ha, h.I ha] at e1
  exact ⟨_, e1, h.to hI ha⟩
theorem m_moves12s {τ : LH} {a p s n k : Nat} (hk : k < 237) : s_Model_moves_12 a (nI p) (nI s) (n + 1) (nI k) τ = s_Model_moves_12 a (nI p) (nI s) n (nI (k + 1)) (stI τ a (49 + k) (τ.1 a (49 + k + 4))) := by
  have hlt : ¬ (236 : Int32) < nI k := fun z => by
    have := (nI_ltI (a := 236) (b := k) (by omega) (by omega)).mp z
    omega
  simp only [s_Model_moves_12, s_Model_moves_12_b]
  rw [if_neg hlt, c49, a4, if_pos (ib_nI (by omega) (by omega)), if_pos (ib_nI (by omega) (by omega)), nI_clamp (by omega), nI_clamp (by omega)]
  simp only [xl, a1]
theorem m_moves12 {I : LH → Prop} {τ0 : LH} {a : Nat} {v : Int32} (hI : Icl I) (ha : aW a) {p s : Nat} : ∀ (m n k : Nat) (A : Nat → Int32) (τ : LH), k + m = 237 → m < n → Mt I τ0 a A v τ → ∃ τ', s_Model_moves_12 a (nI p) (nI s) n (nI k) τ = s_Model_moves_50 a (nI p) (nI s) τ' ∧ Mt I τ0 a (upd (itr shF m k A) 49 (itr shF m k A 49 - 1)) v τ' := by
  intro m
  induction m with
  | zero =>
    intro n k A τ hk hn h
    obtain ⟨n, rfl⟩ : ∃ q, n = q + 1 := ⟨n - 1, by omega⟩
    exact m_moves12e hI ha (by omega) h
  | succ m ih =>
    intro n k A τ hk hn h
    obtain ⟨n, rfl⟩ : ∃ q, n = q + 1 := ⟨n - 1, by omega⟩
    rw [m_moves12s (by omega), h.A ha, h.I ha]
    exact ih n (k + 1) _ _ (by omega) (by omega) (h.to hI ha)
theorem m_moves {I : LH → Prop} {τ0 : LH} {a : Nat} {A : Nat → Int32} {v : Int32} {τ : LH} (hI : Icl I) (ha : aW a) (h : Mt I τ0 a A v τ) {p s g : Nat} (hp : p < 8) (hs : s < 8) (hg : A 49 = nI g) (hg1 : g ≤ 60) : ∃ τ', s_Model_moves a (nI p) (nI s) τ = some τ' ∧ Mt I τ0 a (mMove p s g A) (v + 1) τ' := by
  unfold s_Model_moves
  rw [if_pos (show ib 49 290 by decide), h.A ha, show A (Int32.toNatClampNeg 49) = nI g from hg]
  unfold mMove
  by_cases q : g = 60
  · subst q
    rw [if_pos (show nI 60 = 60 from rfl), if_pos rfl]
    obtain ⟨τ1, e1, h1⟩ := m_moves12 (p := p) (s := s) hI ha 236 FUEL 1 A τ (by omega) (by unfold FUEL; omega) h
    have e49 : itr shF 236 1 A 49 = nI 60 := by rw [shF_lo (by omega)]; exact hg
    rw [e49, show nI 60 - 1 = nI 59 from nI_pred 59] at h1
    rw [show (1 : Int32) = nI 1 from rfl, e1]
    exact m_moves50 hI ha h1 hp hs (show upd (itr shF 236 1 A) 49 (nI 59) 49 = nI 59 from pk_us) (by omega)
  · rw [if_neg (show ¬ nI g = 60 from fun z => q (nI_inj (b := 60) (by omega) (by omega) z)), if_neg q]
    exact m_moves50 hI ha h hp hs hg (by omega)
theorem mvR_tk {tk : Nat → Option Nat} {wo : Nat → Int32} {w : Wd} : ∀ (m k : Nat) (s t : Option Nat), (∀ j, s = some j → tk j = t) → (s = none → t = none) → ∀ s' t', mvR tk wo w m k s t = (s', t') → (∀ j, s' = some j → tk j = t') ∧ (s' = none → t' = none) := by
  intro m
  induction m with
  | zero => intro k s t h1 h2 s' t' e; unfold mvR at e; cases e; exact ⟨h1, h2⟩
  | succ m ih =>
    intro k s t h1 h2 s' t' e
    unfold mvR at e
    split at e
    · split at e
      · exact ih (k + 1) s t h1 h2 s' t' e
      · rename_i j hj
        exact ih (k + 1) _ _ (fun i hi => by cases hi; exact hj) (fun z => by cases z) s' t' e
    · exact ih (k + 1) s t h1 h2 s' t' e
abbrev tkM (L : Nat → Nat → Int32) (τ0 : LH) (P : Nat) (A : Nat → Int32) (s : Nat) : Option Nat := tkR L (qM τ0) (sM τ0) (xM2 τ0) s (vw P A) P 0 none 0
theorem m_movesUp_in {I : LH → Prop} {P S mm : Nat} {L : Nat → Nat → Nat → Int32} (hL : LKok I P S L) {τ0 : LH} {a : Nat} {A : Nat → Int32} {v : Int32} {rec2 : Int32 → LH → Option LH} (ha : aW a) (hS : τ0.1 570 26 = nI S) (hP : τ0.1 570 27 = nI P) (hP8 : P ≤ 8) (hS8 : S ≤ 8) (hR : MRng τ0 S P) (hw : ∀ p, p < P → plc S (A (4 * p))) (hm : A 48 = nI mm) (hm1 : mm < 101) : ∀ (m n k : Nat) (s t : Option Nat) (τ : LH), k + m = S → m < n → (∀ j, s = some j → j < k) → Mt I τ0 a A v τ → ∃ τ', Mt I τ0 a A v τ' ∧ s_Model_movesUp_11 a rec2 n (oI s) (nI k) τ = (match (mvR (tkM (L mm) τ0 P A) (wM τ0) (vw P A) m k s t).1 with
    | none => rec2 0 τ'
    | some s' => xb2 (s_Model_moverTo a (nI s') τ') fun r6 σ7 => xb1 (s_Model_moves a r6 (nI s') σ7) fun σ9 => rec2 1 σ9) := by
  have hb : ∀ {b : Nat}, b ≠ 583 → b ≠ 584 → b ≠ a := by intro b h1 h2; rcases ha with rfl | rfl <;> assumption
  intro m
  induction m with
  | zero =>
    intro n k s t τ hk hn hs h
    obtain ⟨n, rfl⟩ : ∃ q, n = q + 1 := ⟨n - 1, by omega⟩
    simp only [s_Model_movesUp_11, s_Model_movesUp_11_b]
    rw [h.fld ha (by omega) (by omega), hS, if_pos (nI_le (by omega) (by omega))]
    unfold mvR
    refine ⟨τ, h, ?_⟩
    cases s with
    | none =>
      rw [if_pos (show oI none = -1 from rfl)]
      unfold s_Model_movesUp_85
      rw [if_pos rfl]
      rfl
    | some j =>
      have := hs j rfl
      rw [if_neg (show ¬ oI (some j) = -1 from nI_m1 (by omega))]
      unfold s_Model_movesUp_85
      rw [if_neg (show ¬ (1 : Int32) = 0 by decide)]
      rfl
  | succ m ih =>
    intro n k s t τ hk hn hs h
    obtain ⟨n, rfl⟩ : ∃ q, n = q + 1 := ⟨n - 1, by omega⟩
    have skip : ∀ (s2 t2 : Option Nat) (τ : LH), (∀ j, s2 = some j → j < k + 1) → Mt I τ0 a A v τ → ∃ τ', Mt I τ0 a A v τ' ∧ s_Model_movesUp_69 a (s_Model_movesUp_11 a rec2 n) (oI s2) (nI k) τ = (match (mvR (tkM (L mm) τ0 P A) (wM τ0) (vw P A) m (k + 1) s2 t2).1 with
        | none => rec2 0 τ'
        | some s' => xb2 (s_Model_moverTo a (nI s') τ') fun r6 σ7 => xb1 (s_Model_moves a r6 (nI s') σ7) fun σ9 => rec2 1 σ9) := by
      intro s2 t2 τ h1 h2
      simp only [s_Model_movesUp_69, xl, a1]
      exact ih n (k + 1) s2 t2 τ (by omega) (by omega) h1 h2
    have no := fun τ h => skip s t τ (fun j hj => by have := hs j hj; omega) h
    simp only [s_Model_movesUp_11, s_Model_movesUp_11_b]
    rw [h.fld ha (by omega) (by omega), hS, if_neg (nI_ge (by omega) (by omega)), m_isFree (P := P) (by rw [h.fld ha (by omega) (by omega)]; exact hP) hP8 (by omega), h.A ha]
    simp only [xb2]
    unfold mvR
    have ev : (vw P A 5 k = -1 ∧ vw P A 6 k = -1) = (soR A (nI k) P 0 = -1 ∧ A (32 + 2 * k) = -1) := rfl
    have try55 : ∃ τ', Mt I τ0 a A v τ' ∧ s_Model_movesUp_55 a (s_Model_movesUp_11 a rec2 n) (oI s) (nI k) τ = (match (match tkM (L mm) τ0 P A k with
          | none => mvR (tkM (L mm) τ0 P A) (wM τ0) (vw P A) m (k + 1) s t
          | some j => mvR (tkM (L mm) τ0 P A) (wM τ0) (vw P A) m (k + 1) (some k) (some j)).1 with
        | none => rec2 0 τ'
        | some s' => xb2 (s_Model_moverTo a (nI s') τ') fun r6 σ7 => xb1 (s_Model_moves a r6 (nI s') σ7) fun σ9 => rec2 1 σ9) := by
      unfold s_Model_movesUp_55
      obtain ⟨τ1, e1, h1⟩ := m_moverTo hL ha hP hP8 hS8 hR (show k < S by omega) hw hm hm1 h
      rw [e1]
      simp only [xb2]
      cases htk : tkM (L mm) τ0 P A k with
      | none =>
        have htk2 : tkR (L mm) (qM τ0) (sM τ0) (xM2 τ0) k (vw P A) P 0 none 0 = none := htk
        rw [htk2, if_pos (show oI none = -1 from rfl)]
        exact no τ1 h1
      | some j =>
        have htk2 : tkR (L mm) (qM τ0) (sM τ0) (xM2 τ0) k (vw P A) P 0 none 0 = some j := htk
        have hj : j < P := by have := tkR_in P 0 none 0 (fun j hj => by cases hj) j htk2; omega
        rw [htk2, if_neg (show ¬ oI (some j) = -1 from nI_m1 (by omega))]
        exact skip (some k) (some j) τ1 (fun i hi => by cases hi; omega) h1
    by_cases q1 : soR A (nI k) P 0 = -1 ∧ A (32 + 2 * k) = -1
    · rw [if_pos q1, if_neg (show ¬ (1 : Int32) = 0 by decide)]
      cases s with
      | none =>
        rw [if_pos (show oI none = -1 from rfl), if_pos (show (vw P A 5 k = -1 ∧ vw P A 6 k = -1) ∧ mvb (wM τ0) none k = true from ⟨q1, rfl⟩)]
        exact try55
      | some j =>
        have hj := hs j rfl
        rw [if_neg (show ¬ oI (some j) = -1 from nI_m1 (by omega)), show oI (some j) = nI j from rfl, c3, c3, if_pos (ib_nI (by omega) (by omega)), if_pos (ib_nI (by omega) (by omega)), nI_clamp (by omega), nI_clamp (by omega), h.arr (hb (by omega) (by omega)) (by omega) (by omega) (by omega)]
        by_cases q2 : τ0.1 575 (3 * k) ≤ τ0.1 575 (3 * j)
        · rw [if_pos q2, if_neg (show ¬ ((vw P A 5 k = -1 ∧ vw P A 6 k = -1) ∧ mvb (wM τ0) (some j) k = true) from fun z => Int32.not_le.mpr (of_decide_eq_true z.2) q2)]
          exact no τ h
        · rw [if_neg q2, if_pos (show (vw P A 5 k = -1 ∧ vw P A 6 k = -1) ∧ mvb (wM τ0) (some j) k = true from ⟨q1, decide_eq_true (Int32.not_le.mp q2)⟩)]
          exact try55
    · rw [if_neg q1, if_pos rfl, if_neg (show ¬ ((vw P A 5 k = -1 ∧ vw P A 6 k = -1) ∧ mvb (wM τ0) s k = true) from fun z => q1 z.1)]
      exact no τ h
