/-! class and model: who moves up -/
def LKr (L : Nat → Nat → Int32) (ln : Nat → Nat → Nat) (S P : Nat) : Prop := ∀ p s, p < P → s < S → L p s = nI (ln p s) ∧ ln p s < 1000
theorem lkx_cg {tb L : Nat → Nat → Int32} {S P p : Nat} {x : Int32} (hL : ∀ p s, p < P → s < S → tb p s = L p s) (hS8 : S ≤ 8) (hp : p < P) (hx : plc S x) : lkx tb p x = lkx L p x := by
  unfold lkx
  rcases hx with rfl | rfl | ⟨s, hs, rfl⟩
  · rw [if_pos (by decide), if_pos (by decide)]
  · rw [if_pos (by decide), if_pos (by decide)]
  · rw [nI_clamp (show s < 2 ^ 31 by omega), hL p s hp hs]
theorem wayF_cg {st st' : Nat → Int32} {S s : Nat} {x : Int32} (h : ∀ s, s < S → st s = st' s) (hS8 : S ≤ 8) (hs : s < S) (hx : plc S x) : wayF st s x = wayF st' s x := by
  unfold wayF
  rcases hx with rfl | rfl | ⟨j, hj, rfl⟩
  · rw [if_pos (by decide), if_pos (by decide)]
  · rw [if_pos (by decide), if_pos (by decide)]
  · rw [nI_clamp (show j < 2 ^ 31 by omega), h s hs, h j hj]
theorem tkR_cg {tb L : Nat → Nat → Int32} {q q' sp sp' st st' : Nat → Int32} {S P s : Nat} {w w' : Wd} (hL : ∀ p s, p < P → s < S → tb p s = L p s) (hq : ∀ p, p < P → q p = q' p) (hsp : ∀ p, p < P → sp p = sp' p) (hst : ∀ s, s < S → st s = st' s) (hw : ∀ p, p < P → w 1 p = w' 1 p) (hx : ∀ p, p < P → plc S (w' 1 p)) (hS8 : S ≤ 8) (hs : s < S) : ∀ (m k : Nat) (t : Option Nat) (way : Int32), k + m = P → (∀ j, t = some j → j < k) → tkR tb q sp st s w m k t way = tkR L q' sp' st' s w' m k t way := by
  intro m
  induction m with
  | zero => intro k t way _ _; rfl
  | succ m ih =>
    intro k t way hk ht
    unfold tkR
    have hb : tkb q t way (wayF st s (w 1 k)) k = tkb q' t way (wayF st' s (w' 1 k)) k := by
      rw [hw k (by omega), wayF_cg hst hS8 hs (hx k (by omega))]
      unfold tkb
      cases t with
      | none => rfl
      | some j =>
        have := ht j rfl
        simp only
        rw [hq j (by omega), hq k (by omega)]
    rw [hb, hw k (by omega), hsp k (by omega), hL k s (by omega) hs, lkx_cg hL hS8 (by omega) (hx k (by omega)), wayF_cg hst hS8 hs (hx k (by omega))]
    have hk2 : ∀ (t' : Option Nat) (way : Int32), (∀ j, t' = some j → j < k + 1) → tkR tb q sp st s w m (k + 1) t' way = tkR L q' sp' st' s w' m (k + 1) t' way := fun t' way h => ih (k + 1) t' way (by omega) h
    have h1 : ∀ j, t = some j → j < k + 1 := fun j hj => by have := ht j hj; omega
    rw [hk2 t way h1, hk2 (some k) _ (fun j hj => by cases hj; omega)]
theorem mvR_cg {tk tk' : Nat → Option Nat} {wo wo' : Nat → Int32} {S : Nat} {w w' : Wd} (htk : ∀ s, s < S → tk s = tk' s) (hwo : ∀ s, s < S → wo s = wo' s) (h5 : ∀ s, s < S → w 5 s = w' 5 s) (h6 : ∀ s, s < S → w 6 s = w' 6 s) : ∀ (m k : Nat) (s t : Option Nat), k + m = S → (∀ j, s = some j → j < k) → mvR tk wo w m k s t = mvR tk' wo' w' m k s t := by
  intro m
  induction m with
  | zero => intro k s t _ _; rfl
  | succ m ih =>
    intro k s t hk hs
    have h1 : ∀ j, s = some j → j < k + 1 := fun j hj => by have := hs j hj; omega
    have hb : mvb wo s k = mvb wo' s k := by
      unfold mvb
      cases s with
      | none => rfl
      | some j =>
        have := hs j rfl
        simp only
        rw [hwo j (by omega), hwo k (by omega)]
    unfold mvR
    rw [hb, h5 k (by omega), h6 k (by omega), htk k (by omega), ih (k + 1) s t (by omega) h1]
    split
    · split
      · rfl
      · exact ih (k + 1) _ _ (by omega) (fun j hj => by cases hj; omega)
    · rfl
theorem mvR_free {tk : Nat → Option Nat} {wo : Nat → Int32} {w : Wd} : ∀ (m k : Nat) (s t : Option Nat), (∀ j, s = some j → w 5 j = -1 ∧ w 6 j = -1) → ∀ s' t', mvR tk wo w m k s t = (s', t') → ∀ j, s' = some j → w 5 j = -1 ∧ w 6 j = -1 := by
  intro m
  induction m with
  | zero => intro k s t h s' t' e; unfold mvR at e; cases e; exact h
  | succ m ih =>
    intro k s t h s' t' e
    unfold mvR at e
    split at e
    · rename_i q
      split at e
      · exact ih (k + 1) s t h s' t' e
      · exact ih (k + 1) _ _ (fun j hj => by cases hj; exact q.1) s' t' e
    · exact ih (k + 1) s t h s' t' e
theorem tkR_ok {tb : Nat → Nat → Int32} {q sp st : Nat → Int32} {s : Nat} {w : Wd} : ∀ (m k : Nat) (t : Option Nat) (way : Int32), (∀ j, t = some j → w 1 j ≠ -2 ∧ sp j ≤ tb j s - lkx tb j (w 1 j)) → ∀ j, tkR tb q sp st s w m k t way = some j → w 1 j ≠ -2 ∧ sp j ≤ tb j s - lkx tb j (w 1 j) := by
  intro m
  induction m with
  | zero => intro k t way h j hj; exact h j hj
  | succ m ih =>
    intro k t way h j hj
    unfold tkR at hj
    split at hj
    · exact ih (k + 1) t way h j hj
    · rename_i q
      split at hj
      · refine ih (k + 1) (some k) _ (fun i hi => ?_) j hj
        cases hi
        exact ⟨fun z => q (Or.inl z), Classical.byContradiction (fun z => q (Or.inr z))⟩
      · exact ih (k + 1) t way h j hj
/-- the room, alike on both sides -/
def FX (σ τ : LH) (S P : Nat) : Prop := (∀ s, s < S → σ.1 5 s = wM τ s) ∧ (∀ s, s < S → σ.1 7 s = xM2 τ s) ∧ (∀ p, p < P → σ.1 9 p = qM τ p) ∧ (∀ p, p < P → σ.1 10 p = sM τ p)
theorem pick_eq {σ τ : LH} {S P r mm : Nat} {L : Nat → Nat → Int32} {w : Wd} {A : Nat → Int32} (hS8 : S ≤ 8) (hF : FX σ τ S P) (hL : ∀ p s, p < P → s < S → tbC σ r p s = L p s) (hR : Rw S P w A) (hW : WI S P mm A) : pickC σ S P r w = pickM L τ S P A := by
  obtain ⟨f1, f2, f3, f4⟩ := hF
  refine mvR_cg (fun s hs => ?_) f1 (fun s hs => ?_) (fun s hs => ?_) S 0 none none (by omega) (fun j hj => by cases hj)
  · exact tkR_cg (w' := vw P A) hL f3 f4 f2 (fun p hp => hR.c1 p hp) (fun p hp => hW.1.1 p hp) hS8 hs P 0 none 0 (by omega) (fun j hj => by cases hj)
  · exact (hR.c5 s hs).so.symm
  · exact hR.c6 s hs
/-- how many seats all would like better still -/
def lkN (ln : Nat → Nat → Nat) (p : Nat) (x : Int32) : Nat := if x < 0 then 0 else ln p x.toNatClampNeg
def btr (ln : Nat → Nat → Nat) (S p : Nat) (x : Int32) : Nat := cnB (fun s => decide (lkN ln p x < ln p s)) S 0
def smN (f : Nat → Nat) : Nat → Nat → Nat
  | 0, _ => 0
  | m + 1, k => f k + smN f m (k + 1)
def pot (ln : Nat → Nat → Nat) (S P : Nat) (A : Nat → Int32) : Nat := smN (fun p => btr ln S p (A (4 * p))) P 0
theorem smN_le {f : Nat → Nat} {b : Nat} (h : ∀ k, f k ≤ b) : ∀ (m k : Nat), smN f m k ≤ m * b := by
  intro m
  induction m with
  | zero => intro k; unfold smN; omega
  | succ m ih =>
    intro k
    unfold smN
    have h1 := ih (k + 1)
    have h2 := h k
    rw [Nat.succ_mul]
    omega
theorem smN_cg {f g : Nat → Nat} : ∀ (m k : Nat), (∀ j, k ≤ j → j < k + m → g j = f j) → smN g m k = smN f m k := by
  intro m
  induction m with
  | zero => intro k _; rfl
  | succ m ih =>
    intro k h
    unfold smN
    rw [h k (by omega) (by omega), ih (k + 1) (fun j h1 h2 => h j (by omega) (by omega))]
theorem smN_lt {f g : Nat → Nat} {p : Nat} (hp : g p < f p) : ∀ (m k : Nat), k ≤ p → p < k + m → (∀ j, j ≠ p → j < k + m → g j = f j) → smN g m k < smN f m k := by
  intro m
  induction m with
  | zero => intro k h1 h2; omega
  | succ m ih =>
    intro k h1 h2 h
    unfold smN
    by_cases e : k = p
    · subst e
      rw [smN_cg m (k + 1) (fun j q1 q2 => h j (by omega) (by omega))]
      omega
    · have := ih (k + 1) (by omega) (by omega) (fun j q1 q2 => h j q1 (by omega))
      rw [h k e (by omega)]
      omega
theorem cnB_mono {c d : Nat → Bool} (h : ∀ j, d j = true → c j = true) : ∀ (m k : Nat), cnB d m k ≤ cnB c m k := by
  intro m
  induction m with
  | zero => intro k; exact Nat.le_refl _
  | succ m ih =>
    intro k
    unfold cnB
    have := ih (k + 1)
    by_cases e : d k = true
    · rw [if_pos e, if_pos (h k e)]; omega
    · rw [if_neg e]; omega
theorem cnB_lt {c d : Nat → Bool} {p : Nat} (h : ∀ j, d j = true → c j = true) (hc : c p = true) (hd : d p = false) : ∀ (m k : Nat), k ≤ p → p < k + m → cnB d m k < cnB c m k := by
  intro m
  induction m with
  | zero => intro k h1 h2; omega
  | succ m ih =>
    intro k h1 h2
    unfold cnB
    by_cases e : k = p
    · subst e
      have := cnB_mono h m (k + 1)
      rw [hc, hd]
      simp
      omega
    · have := ih (k + 1) (by omega) (by omega)
      by_cases e : d k = true
      · rw [if_pos e, if_pos (h k e)]; omega
      · rw [if_neg e]; omega
theorem pot_le {ln : Nat → Nat → Nat} {S P : Nat} {A : Nat → Int32} (hS8 : S ≤ 8) (hP8 : P ≤ 8) : pot ln S P A ≤ 64 := by
  have h1 : pot ln S P A ≤ P * S := smN_le (fun k => cnB_le S 0) P 0
  have h2 : P * S ≤ 8 * 8 := Nat.mul_le_mul hP8 hS8
  omega
theorem lkx_n {L : Nat → Nat → Int32} {ln : Nat → Nat → Nat} {S P p : Nat} {x : Int32} (hl : LKr L ln S P) (hS8 : S ≤ 8) (hp : p < P) (hx : plc S x) : lkx L p x = nI (lkN ln p x) ∧ lkN ln p x < 1000 := by
  unfold lkx lkN
  rcases hx with rfl | rfl | ⟨s, hs, rfl⟩
  · rw [if_pos (by decide), if_pos (by decide)]; exact ⟨rfl, by omega⟩
  · rw [if_pos (by decide), if_pos (by decide)]; exact ⟨rfl, by omega⟩
  · rw [if_neg (nI_pos (n := s) (by omega)), if_neg (nI_pos (n := s) (by omega)), nI_clamp (show s < 2 ^ 31 by omega)]
    exact hl p s hp hs
theorem nI_subn {a b k : Nat} (ha : a < 1000) (hb : b < 1000) (hk : k < 1000) (h : nI k ≤ nI a - nI b) : b + k ≤ a := by
  by_cases q : b ≤ a
  · obtain ⟨c, rfl⟩ : ∃ c, a = b + c := ⟨a - b, by omega⟩
    rw [show nI (b + c) - nI b = nI c by rw [← nI_add, Int32.add_comm, Int32.add_sub_cancel]] at h
    have := (nI_le1 (by omega) (by omega)).mp h
    omega
  · have h1 : ¬ (0 ≤ nI a - nI b) := fun z => q ((d_nn (by omega) (by omega)).mp z)
    have h2 : (0 : Int32) ≤ nI k := Int32.not_lt.mp (nI_pos (by omega))
    exact absurd (Int32.le_trans h2 h) h1
